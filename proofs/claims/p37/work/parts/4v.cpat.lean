/-! ===== patterns: what a tape says ===== -/
/-- a set by its sign: 0 to 6, 100 and a letter; -1000 for none -/
def pcode (c : Int) : Int := if c = 46 then 0 else if c = 76 then 1 else if c = 77 then 2 else if c = 66 then 3 else if c = 68 then 4 else if c = 83 then 5 else if c = 67 then 6 else -1000
def rdC (tp : List Int) (q : Int) : Int := if gt tp q = 35 then (if (48 ≤ gt tp (q + 1) ∧ gt tp (q + 1) ≤ 57) ∧ (48 ≤ gt tp (q + 2) ∧ gt tp (q + 2) ≤ 57) ∧ 10 * (gt tp (q + 1) - 48) + (gt tp (q + 2) - 48) ≤ 95 then 100 + (10 * (gt tp (q + 1) - 48) + (gt tp (q + 2) - 48)) else -1000) else pcode (gt tp q)
def rdB (tp : List Int) (p : Int) : Int := if gt tp p = 33 then 1 else 0
def rdS (tp : List Int) (p : Int) : Int := if rdC tp (p + rdB tp p) = -1000 then -1000 else if rdB tp p = 1 then -1 - rdC tp (p + rdB tp p) else rdC tp (p + rdB tp p)
def rdP (tp : List Int) (p : Int) : Int := p + rdB tp p + (if gt tp (p + rdB tp p) = 35 then 3 else 1)
/-- the class's own number of a set -/
def cl0 (s : Int) : Int := if 100 ≤ s then s - 100 else if s = 0 then 96 else if s = 6 then 97 else if s = 5 then 106 else 100 + s
def cls (s : Int) : Int := if s = -1000 then -1 else if s < 0 then 1000 + cl0 (-1 - s) else cl0 s
theorem pcode_rng (c : Int) : pcode c = -1000 ∨ (0 ≤ pcode c ∧ pcode c ≤ 6) := by
  unfold pcode
  repeat' split
  all_goals omega
theorem rdC_rng (tp : List Int) (q : Int) : rdC tp q = -1000 ∨ (0 ≤ rdC tp q ∧ rdC tp q ≤ 6) ∨ (100 ≤ rdC tp q ∧ rdC tp q ≤ 195) := by
  unfold rdC
  split
  · split
    · rename_i h1 h2
      exact Or.inr (Or.inr (by omega))
    · exact Or.inl rfl
  · rcases pcode_rng (gt tp q) with h | h
    · exact Or.inl h
    · exact Or.inr (Or.inl h)
theorem rdB_01 (tp : List Int) (p : Int) : rdB tp p = 0 ∨ rdB tp p = 1 := by unfold rdB; split <;> omega
theorem rdP_rng (tp : List Int) (p : Int) : p < rdP tp p ∧ rdP tp p ≤ p + 4 := by
  have := rdB_01 tp p
  unfold rdP
  split <;> omega
/-- a code of a set -/
def scd (s : Int) : Prop := (0 ≤ s ∧ s ≤ 6) ∨ (100 ≤ s ∧ s ≤ 195) ∨ (-7 ≤ s ∧ s ≤ -1) ∨ (-196 ≤ s ∧ s ≤ -101)
theorem rdS_rng (tp : List Int) (p : Int) : rdS tp p = -1000 ∨ scd (rdS tp p) := by
  have := rdC_rng tp (p + rdB tp p)
  unfold rdS scd
  split
  · exact Or.inl rfl
  · split <;> omega
theorem cls_rng {s : Int} (h : scd s) : 0 ≤ cls s ∧ cls s ≤ 1106 := by
  unfold scd at h
  unfold cls cl0
  repeat' split
  all_goals omega
/-! one piece, and all of them -/
def pcB (tp : List Int) (p : Int) : Int := if gt tp p = 60 then rdS tp (p + 1) else 999
def pcQ (tp : List Int) (p : Int) : Int := if gt tp p = 60 then rdP tp (p + 1) else p
def pcS (tp : List Int) (p : Int) : Int := rdS tp (pcQ tp p)
def pcR (tp : List Int) (p : Int) : Int := rdP tp (pcQ tp p)
def rpt (c : Int) : Int := if c = 42 then 2 else if c = 63 then 1 else 0
def pcT (tp : List Int) (p : Int) : Int := rpt (gt tp (pcR tp p))
def pcN (tp : List Int) (p : Int) : Int := pcR tp p + (if 0 < pcT tp p then 1 else 0)
theorem pcN_rng (tp : List Int) (p : Int) : p < pcN tp p ∧ pcN tp p ≤ p + 10 := by
  have h1 := rdP_rng tp (p + 1)
  have h2 := rdP_rng tp (pcQ tp p)
  have h3 : pcR tp p = rdP tp (pcQ tp p) := rfl
  have h4 : pcQ tp p = rdP tp (p + 1) ∨ pcQ tp p = p := by
    unfold pcQ
    split
    · exact Or.inl rfl
    · exact Or.inr rfl
  unfold pcN
  split <;> omega
abbrev PC : Type := Int × Int × Int
def prs (tp : List Int) : Nat → Int → Nat → Option (List PC)
  | 0, _, _ => none
  | f + 1, p, m => if tp.length ≤ p then some [] else if pcB tp p = -1000 ∨ pcS tp p = -1000 ∨ m = 8 then none else (prs tp f (pcN tp p) (m + 1)).map (fun l => (pcB tp p, pcS tp p, pcT tp p) :: l)
theorem prs_end {tp : List Int} {f : Nat} {p : Int} {m : Nat} (h : tp.length ≤ p) : prs tp (f + 1) p m = some [] := by rw [prs, if_pos h]
theorem prs_bad {tp : List Int} {f : Nat} {p : Int} {m : Nat} (h : ¬ tp.length ≤ p) (g : pcB tp p = -1000 ∨ pcS tp p = -1000 ∨ m = 8) : prs tp (f + 1) p m = none := by rw [prs, if_neg h, if_pos g]
theorem prs_in {tp : List Int} {f : Nat} {p : Int} {m : Nat} (h : ¬ tp.length ≤ p) (g : ¬ (pcB tp p = -1000 ∨ pcS tp p = -1000 ∨ m = 8)) : prs tp (f + 1) p m = (prs tp f (pcN tp p) (m + 1)).map (fun l => (pcB tp p, pcS tp p, pcT tp p) :: l) := by rw [prs, if_neg h, if_neg g]
/-- the pattern that a tape is -/
def pat (tp : List Int) : Option (List PC) := prs tp 200 0 0
def lkc (b : Int) : Int := if b = 999 then -1 else cls b
def tmc (r : Int) : Int := if r = 2 then 42 else if r = 1 then 63 else -1
def patC (w : Wd) (d : Nat) (pcs : List PC) : Prop := rl w (d + 1) = pcs.map (fun c => lkc c.1) ∧ rl w (d + 3) = pcs.map (fun c => cls c.2.1) ∧ rl w (d + 5) = pcs.map (fun c => tmc c.2.2)
theorem pat_facts : ∀ d, KD d = 5 → KD (d + 1) = 7 ∧ LEN (d + 1 + 1) = 8 ∧ KD (d + 3) = 7 ∧ LEN (d + 3 + 1) = 8 ∧ KD (d + 5) = 7 ∧ LEN (d + 5 + 1) = 8 ∧ KD (d + 7) = 7 ∧ LEN (d + 7 + 1) = 96 ∧ (d = 674 ∨ d = 683) := by
  have h : (List.range 713).all (fun d => decide (KD d = 5 → KD (d + 1) = 7 ∧ LEN (d + 1 + 1) = 8 ∧ KD (d + 3) = 7 ∧ LEN (d + 3 + 1) = 8 ∧ KD (d + 5) = 7 ∧ LEN (d + 5 + 1) = 8 ∧ KD (d + 7) = 7 ∧ LEN (d + 7 + 1) = 96 ∧ (d = 674 ∨ d = 683))) = true := by decide +kernel
  intro o ho
  exact of_decide_eq_true (List.all_eq_true.mp h o (List.mem_range.mpr (KD_lt ho (by omega)))) ho
/-! the class reads -/
/-- from w to w' only the place of the reader has changed: it is p now -/
def mv (w w' : Wd) (d : Nat) (p : Int) : Prop := (∀ k, k ≠ d → w'.1 k = w.1 k) ∧ (∀ j, j ≠ 4 → w'.1 d j = w.1 d j) ∧ w'.2 = w.2 ∧ (w'.1 d 4).toInt = p
theorem mv_set {w : Wd} {d : Nat} {v : Int32} : mv w (setI w d 4 v) d v.toInt := by
  refine ⟨fun k hk => ?_, fun j hj => ?_, rfl, ?_⟩
  · funext b; rw [setI_at, if_neg (fun q => hk q.1)]
  · rw [setI_at, if_neg (fun q => hj q.2)]
  · rw [setI_at, if_pos ⟨rfl, rfl⟩]
theorem mv_tr {w w1 w2 : Wd} {d : Nat} {p q : Int} (h : mv w w1 d p) (g : mv w1 w2 d q) : mv w w2 d q := ⟨fun k hk => (g.1 k hk).trans (h.1 k hk), fun j hj => (g.2.1 j hj).trans (h.2.1 j hj), g.2.2.1.trans h.2.2.1, g.2.2.2⟩
theorem mv_rl {w w' : Wd} {d o : Nat} {p : Int} (h : mv w w' d p) (h1 : o ≠ d) (h2 : o + 1 ≠ d) : rl w' o = rl w o := rl_fr (h.1 o h1) (h.1 (o + 1) h2)
theorem mv_ok {w w' : Wd} {d o : Nat} {p : Int} (h : mv w w' d p) (h1 : o ≠ d) (ho : okr w o) : okr w' o := by unfold okr; rw [h.1 o h1]; exact ho
section
variable {w : Wd} {d : Nat} {tp : List Int}
theorem s_readLetter {q : Int} (ho : okr w 635) (ht : rl w 635 = tp) (hb : tpok tp) (hp : (w.1 d 4).toInt = q) (hq : 0 ≤ q ∧ q ≤ 400) (h35 : gt tp q = 35) :
    Wp (f_X5_readLetter d 635 w) (fun r w' => w = w' ∧ r.toInt = if rdC tp q = -1000 then -1 else rdC tp q - 100) := by
  have L := LIT
  have l48 : (48 : Int32).toInt = 48 := by decide
  have B : ∀ i : Int, -1 ≤ gt tp i ∧ gt tp i ≤ 255 := by
    intro i
    by_cases h : 0 ≤ i ∧ i < tp.length
    · rw [gt_in h.1, List.getD_eq_getElem?_getD, List.getElem?_eq_getElem (by omega)]
      have := hb.2 _ (List.getElem_mem (l := tp) (n := i.toNat) (by omega))
      show -1 ≤ tp[i.toNat] ∧ tp[i.toNat] ≤ 255
      omega
    · rw [gt_out (by omega)]; omega
  have p1 : (w.1 d 4 + 1).toInt = q + 1 := by rw [i_add (by omega), L.2.1, hp]
  have p2 : (w.1 d 4 + 2).toInt = q + 2 := by rw [i_add (by omega), L.2.2.2.1, hp]
  unfold f_X5_readLetter
  refine wp_bd (s_get ho) ?_
  rintro x _ ⟨rfl, hx⟩
  rw [ht, p1] at hx
  have b1 := B (q + 1)
  have b2 := B (q + 2)
  refine wp_sub (by omega) (fun a ha => ?_)
  refine wp_bd (s_get ho) ?_
  rintro y _ ⟨rfl, hy⟩
  rw [ht, p2] at hy
  refine wp_sub (by omega) (fun c hc => ?_)
  have l10 : (10 : Int32).toInt = 10 := by decide
  have m1 : ((10 : Int32) * a).toInt = 10 * a.toInt := i_mul' l10 (by omega)
  refine wp_add (by omega) (fun z hz => ?_)
  have l9 : (9 : Int32).toInt = 9 := by decide
  simp only [e_isWithin, e_isLetter, bd_r, ite_zo, L.1, l9]
  have bad : ¬ ((48 ≤ gt tp (q + 1) ∧ gt tp (q + 1) ≤ 57) ∧ (48 ≤ gt tp (q + 2) ∧ gt tp (q + 2) ≤ 57) ∧ 10 * (gt tp (q + 1) - 48) + (gt tp (q + 2) - 48) ≤ 95) → Wp (some ((-1 : Int32), w)) (fun r w' => w = w' ∧ r.toInt = if rdC tp q = -1000 then -1 else rdC tp q - 100) := by
    intro nf
    have e : rdC tp q = -1000 := by unfold rdC; rw [if_pos h35, if_neg nf]
    refine wp_ret ⟨rfl, ?_⟩
    rw [if_pos e]; exact L.2.2.1
  refine wp_if (fun c1 => wp_if (fun c2 => wp_if (fun c3 => ?_) (fun c3 => bad (by omega))) (fun c2 => bad (by omega))) (fun c1 => bad (by omega))
  have e : rdC tp q = 100 + (10 * (gt tp (q + 1) - 48) + (gt tp (q + 2) - 48)) := by unfold rdC; rw [if_pos h35, if_pos (by omega)]
  refine wp_ret ⟨rfl, ?_⟩
  rw [e, if_neg (by omega)]; omega
theorem e_setOf (c : Int32) (w : Wd) : ∃ r : Int32, f_X5_setOf c w = some (r, w) ∧ r.toInt = if pcode c.toInt = -1000 then -1 else cl0 (pcode c.toInt) := by
  have e46 : (46 : Int32).toInt = 46 := by decide
  have e66 : (66 : Int32).toInt = 66 := by decide
  have e67 : (67 : Int32).toInt = 67 := by decide
  have e68 : (68 : Int32).toInt = 68 := by decide
  have e76 : (76 : Int32).toInt = 76 := by decide
  have e77 : (77 : Int32).toInt = 77 := by decide
  have e83 : (83 : Int32).toInt = 83 := by decide
  have P : ∀ v : Int, c.toInt = v → pcode c.toInt = pcode v := fun v h => by rw [h]
  unfold f_X5_setOf
  simp only [i_eq, e46, e66, e67, e68, e76, e77, e83]
  by_cases a1 : c.toInt = 46
  · rw [if_pos a1, P _ a1]; exact ⟨_, rfl, by decide⟩
  rw [if_neg a1]
  by_cases a2 : c.toInt = 66
  · rw [if_pos a2, P _ a2]; exact ⟨_, rfl, by decide⟩
  rw [if_neg a2]
  by_cases a3 : c.toInt = 67
  · rw [if_pos a3, P _ a3]; exact ⟨_, rfl, by decide⟩
  rw [if_neg a3]
  by_cases a4 : c.toInt = 68
  · rw [if_pos a4, P _ a4]; exact ⟨_, rfl, by decide⟩
  rw [if_neg a4]
  by_cases a5 : c.toInt = 76
  · rw [if_pos a5, P _ a5]; exact ⟨_, rfl, by decide⟩
  rw [if_neg a5]
  by_cases a6 : c.toInt = 77
  · rw [if_pos a6, P _ a6]; exact ⟨_, rfl, by decide⟩
  rw [if_neg a6]
  by_cases a7 : c.toInt = 83
  · rw [if_pos a7, P _ a7]; exact ⟨_, rfl, by decide⟩
  rw [if_neg a7]
  have e : pcode c.toInt = -1000 := by
    unfold pcode
    rw [if_neg a1, if_neg a5, if_neg a6, if_neg a2, if_neg a4, if_neg a7, if_neg a3]
  rw [e]
  exact ⟨_, rfl, by decide⟩
theorem s_readSet {p : Int} (hd : KD d = 5) (ho : okr w 635) (ht : rl w 635 = tp) (hb : tpok tp) (hp : (w.1 d 4).toInt = p) (hp2 : 0 ≤ p ∧ p ≤ 300) :
    Wp (f_X5_readSet d 635 w) (fun r w' => mv w w' d (rdP tp p) ∧ r.toInt = cls (rdS tp p)) := by
  have L := LIT
  have F := pat_facts d hd
  have l33 : (33 : Int32).toInt = 33 := by decide
  have l35 : (35 : Int32).toInt = 35 := by decide
  have l3 : (3 : Int32).toInt = 3 := by decide
  have l1000 : (1000 : Int32).toInt = 1000 := by decide
  -- behind the !
  have main : ∀ (t : Int32) (w1 : Wd), mv w w1 d (p + rdB tp p) → t.toInt = rdB tp p → Wp (f_X5_readSet_33 d 635 t w1) (fun r w' => mv w w' d (rdP tp p) ∧ r.toInt = cls (rdS tp p)) := by
    intro t w1 M ht1
    have b01 := rdB_01 tp p
    have ok1 : okr w1 635 := mv_ok M (by omega) ho
    have tp1 : rl w1 635 = tp := (mv_rl M (by omega) (by omega)).trans ht
    have q1 := M.2.2.2
    have C := rdC_rng tp (p + rdB tp p)
    unfold f_X5_readSet_33
    refine wp_bd (s_get ok1) ?_
    rintro x _ ⟨rfl, hx⟩
    rw [tp1, q1] at hx
    have fin : ∀ c : Int32, c.toInt = (if rdC tp (p + rdB tp p) = -1000 then -1 else cl0 (rdC tp (p + rdB tp p))) → Wp (f_X5_readSet_60 d t x c w1) (fun r w' => mv w w' d (rdP tp p) ∧ r.toInt = cls (rdS tp p)) := by
      intro c hc
      have stp : ∀ s : Int32, s.toInt = (if gt tp (p + rdB tp p) = 35 then 3 else 1) → Wp (f_X5_readSet_78 t c d (w1.1 d 4) s w1) (fun r w' => mv w w' d (rdP tp p) ∧ r.toInt = cls (rdS tp p)) := by
        intro s hs
        have s3 : s.toInt = 3 ∨ s.toInt = 1 := by rw [hs]; split <;> omega
        have e1 : (w1.1 d 4 + s).toInt = rdP tp p := by
          rw [i_add (by omega), q1, hs]; rfl
        have M2 : mv w (setI w1 d 4 (w1.1 d 4 + s)) d (rdP tp p) := by rw [← e1]; exact mv_tr M mv_set
        unfold f_X5_readSet_78
        refine wp_wr (wp_ifeq (fun z => wp_ret ⟨M2, ?_⟩) (fun z => wp_ifeq (fun z2 => wp_ret ⟨M2, ?_⟩) (fun z2 => wp_ret ⟨M2, ?_⟩)))
        · have e : rdC tp (p + rdB tp p) = -1000 := by
            by_cases g : rdC tp (p + rdB tp p) = -1000
            · exact g
            · rw [if_neg g] at hc
              have : 0 ≤ cl0 (rdC tp (p + rdB tp p)) := by unfold cl0; repeat' split
                                                           all_goals omega
              omega
          unfold rdS cls
          rw [if_pos e, if_pos rfl]; omega
        · have e : rdC tp (p + rdB tp p) ≠ -1000 := fun g => by rw [if_pos g] at hc; omega
          rw [if_neg e] at hc
          unfold rdS
          rw [if_neg e, if_neg (show ¬ rdB tp p = 1 by omega)]
          unfold cls
          rw [if_neg e, if_neg (by omega)]; exact hc
        · have e : rdC tp (p + rdB tp p) ≠ -1000 := fun g => by rw [if_pos g] at hc; omega
          rw [if_neg e] at hc
          have c2 : c.toInt ≤ 195 := by rw [hc]; unfold cl0; repeat' split
                                        all_goals omega
          have c3 : 0 ≤ c.toInt := by rw [hc]; unfold cl0; repeat' split
                                      all_goals omega
          unfold rdS
          rw [if_neg e, if_pos (show rdB tp p = 1 by omega)]
          unfold cls
          rw [if_neg (by omega), if_pos (by omega), i_add (by omega), l1000, hc, show -1 - (-1 - rdC tp (p + rdB tp p)) = rdC tp (p + rdB tp p) by omega]
      unfold f_X5_readSet_60
      refine wp_ifeq (fun z => stp 3 ?_) (fun z => stp 1 ?_)
      · rw [if_pos (by omega)]; exact l3
      · rw [if_neg (by omega)]; exact L.2.1
    refine wp_ifeq (fun z => ?_) (fun z => ?_)
    · refine wp_bd (s_readLetter (q := p + rdB tp p) ok1 tp1 hb q1 (by omega) (by omega)) ?_
      rintro c _ ⟨rfl, hc⟩
      refine fin c ?_
      rw [hc]
      by_cases g : rdC tp (p + rdB tp p) = -1000
      · rw [if_pos g, if_pos g]
      · rw [if_neg g, if_neg g]
        have g2 : 100 ≤ rdC tp (p + rdB tp p) := by
          unfold rdC at g ⊢
          rw [if_pos (show gt tp (p + rdB tp p) = 35 by omega)] at g ⊢
          split at g
          · rename_i h; rw [if_pos h]; omega
          · exact absurd rfl g
        unfold cl0; rw [if_pos g2]
    · obtain ⟨c, hc1, hc2⟩ := e_setOf x w1
      rw [hc1, bd_r]
      refine fin c ?_
      have e : rdC tp (p + rdB tp p) = pcode x.toInt := by unfold rdC; rw [if_neg (by omega), hx]
      rw [hc2, e]
  unfold f_X5_readSet
  refine wp_bd (s_get ho) ?_
  rintro x _ ⟨rfl, hx⟩
  rw [ht, hp] at hx
  unfold f_X5_readSet_18
  refine wp_ifeq (fun c => ?_) (fun c => ?_)
  · rw [if_neg (by decide)]
    have e : rdB tp p = 1 := by unfold rdB; rw [if_pos (by omega)]
    have e1 : (w.1 d 4 + 1).toInt = p + rdB tp p := by rw [i_add (by omega), L.2.1, hp, e]
    refine wp_wr (main 1 _ ?_ (by rw [e]; exact L.2.1))
    rw [← e1]; exact mv_set
  · rw [if_pos rfl]
    have e : rdB tp p = 0 := by unfold rdB; rw [if_neg (by omega)]
    exact main 0 w ⟨fun _ _ => rfl, fun _ _ => rfl, rfl, by rw [hp, e]; omega⟩ (by rw [e]; exact L.1)
end

