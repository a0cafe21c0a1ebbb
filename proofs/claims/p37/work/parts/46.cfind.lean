/-! ===== find ===== -/
/-- the letters from one place to another -/
def slc (l : List Int) (p e : Int) : List Int := (l.drop p.toNat).take (e - p).toNat
abbrev fit (tab : Nat → Int) (l ys : List Int) (p e : Int) : Prop := ied tab l e ∧ fo tab (slc l p e) = ys
/-- where it ends that begins at a place; where it is found -/
def eF (tab : Nat → Int) (l ys : List Int) (p : Int) : Nat → Int → Int
  | 0, _ => -1
  | n + 1, e => if e ≤ l.length then (if fit tab l ys p e then e else eF tab l ys p n (e + 1)) else -1
def fd (tab : Nat → Int) (l ys : List Int) : Nat → Int → Int
  | 0, _ => -1
  | n + 1, p => if p < l.length then (if icl tab l p ∧ eF tab l ys p 50 (p + 1) ≠ -1 then 100 * p + eF tab l ys p 50 (p + 1) else fd tab l ys n (p + 1)) else -1
theorem eF_out {tab : Nat → Int} {l ys : List Int} {p e : Int} {n : Nat} (h : l.length < e) : eF tab l ys p n e = -1 := by
  cases n with
  | zero => rfl
  | succ n => unfold eF; rw [if_neg (by omega)]
theorem fd_out {tab : Nat → Int} {l ys : List Int} {p : Int} {n : Nat} (h : l.length ≤ p) : fd tab l ys n p = -1 := by
  cases n with
  | zero => rfl
  | succ n => unfold fd; rw [if_neg (by omega)]
theorem eF_in {tab : Nat → Int} {l ys : List Int} {p e : Int} {n : Nat} (h : e ≤ l.length) : eF tab l ys p (n + 1) e = if fit tab l ys p e then e else eF tab l ys p n (e + 1) := by
  rw [eF, if_pos h]
theorem fd_in {tab : Nat → Int} {l ys : List Int} {p : Int} {n : Nat} (h : p < l.length) : fd tab l ys (n + 1) p = if icl tab l p ∧ eF tab l ys p 50 (p + 1) ≠ -1 then 100 * p + eF tab l ys p 50 (p + 1) else fd tab l ys n (p + 1) := by
  rw [fd, if_pos h]
theorem eF_none {tab : Nat → Int} {l ys : List Int} {p : Int} (h : ∀ e : Int, p < e → e ≤ l.length → fo tab (slc l p e) ≠ ys) : ∀ (n : Nat) (e : Int), p < e → eF tab l ys p n e = -1 := by
  intro n
  induction n with
  | zero => intro e _; rfl
  | succ n ih =>
    intro e he
    unfold eF
    by_cases c : e ≤ l.length
    · rw [if_pos c, if_neg (fun q => h e he c q.2), ih _ (by omega)]
    · rw [if_neg c]
theorem take_slc {l : List Int} {p e : Int} (h0 : 0 ≤ p) (h : p ≤ e) : l.take e.toNat = l.take p.toNat ++ slc l p e := by
  unfold slc
  rw [show e.toNat = p.toNat + (e - p).toNat by omega, List.take_add]
/-- what is between two places is folded by itself within the whole -/
theorem fo_slc {tab : Nat → Int} {l ys : List Int} {p e : Int} (h0 : 0 ≤ p) (h : p ≤ e) (h2 : e ≤ l.length) :
    fo tab (slc l p e) = ys ↔ hld (fo tab l) ys (fo tab (l.take p.toNat)).length ∧ ((fo tab (l.take e.toNat)).length : Int) = (fo tab (l.take p.toNat)).length + ys.length := by
  have e1 : l = l.take e.toNat ++ l.drop e.toNat := (List.take_append_drop _ _).symm
  have e2 : fo tab l = fo tab (l.take p.toNat) ++ fo tab (slc l p e) ++ fo tab (l.drop e.toNat) := by
    rw [← fo_app, ← take_slc h0 h, ← fo_app, ← e1]
  have e3 : (fo tab (l.take e.toNat)).length = (fo tab (l.take p.toNat)).length + (fo tab (slc l p e)).length := by
    rw [take_slc h0 h, fo_app, List.length_append]
  have at1 : ∀ k : Nat, k < (fo tab (slc l p e)).length → gt (fo tab l) ((fo tab (l.take p.toNat)).length + k) = gt (fo tab (slc l p e)) k := by
    intro k hk
    rw [e2, gt_in (by omega), gt_nat, List.getD_eq_getElem?_getD, List.getD_eq_getElem?_getD, List.append_assoc, show (((fo tab (l.take p.toNat)).length : Int) + k).toNat = (fo tab (l.take p.toNat)).length + k by omega, List.getElem?_append_right (by omega), Nat.add_sub_cancel_left, List.getElem?_append_left hk]
  have le : (fo tab l).length = (fo tab (l.take p.toNat)).length + (fo tab (slc l p e)).length + (fo tab (l.drop e.toNat)).length := by
    rw [e2, List.length_append, List.length_append]
  constructor
  · rintro rfl
    refine ⟨⟨by omega, by omega, fun k hk => at1 k hk⟩, by omega⟩
  · rintro ⟨⟨a, b, c⟩, d⟩
    have hl : (fo tab (slc l p e)).length = ys.length := by omega
    apply List.ext_getElem? 
    intro k
    by_cases hk : k < ys.length
    · have g1 := at1 k (by omega)
      rw [c k hk, gt_nat, gt_nat, List.getD_eq_getElem?_getD, List.getD_eq_getElem?_getD, List.getElem?_eq_getElem hk, List.getElem?_eq_getElem (show k < (fo tab (slc l p e)).length by omega)] at g1
      rw [List.getElem?_eq_getElem hk, List.getElem?_eq_getElem (show k < (fo tab (slc l p e)).length by omega)]
      exact congrArg some g1.symm
    · rw [List.getElem?_eq_none (by omega), List.getElem?_eq_none (by omega)]
theorem s_endOfFound {w : Wd} {tab : Nat → Int} {l ys : List Int} {p n : Int32} {m : Int64} (ho : okall w) (hF : rl w 699 = fo tab l) (hG : rl w 701 = ys) (he : rl w 648 = ends tab l l.length) (hm : clb tab l m) (hn : n.toInt = l.length) (h40 : l.length ≤ 40) (hf : (fo tab l).length ≤ 80) (hy : ys.length ≤ 80) (hp : 0 ≤ p.toInt ∧ p.toInt < l.length) :
    Wp (f_X10_endOfFound p n m w) (fun r w' => w = w' ∧ r.toInt = eF tab l ys p.toInt 50 (p.toInt + 1)) := by
  have L := LIT
  unfold f_X10_endOfFound f_X10_endOfFound_45
  refine wp_bd (s_foldedEnd ho he (by omega)) ?_
  rintro b _ ⟨rfl, hb⟩
  refine wp_bd (s_holds (ho _ row_wide.1.1) (ho _ row_wide.2.1)) ?_
  rintro x _ ⟨rfl, hx⟩
  rw [hF, hG, hb] at hx
  rcases hx with ⟨rfl, hx⟩ | ⟨rfl, hx⟩
  · refine wp_ifeq (fun q => by omega) (fun _ => ?_)
    refine wp_bd (s_size (ho _ row_wide.2.1)) ?_
    rintro z _ ⟨rfl, hz⟩
    rw [hG] at hz
    have hb2 := hx.2.1
    refine wp_add (by omega) (fun t ht => wp_add (by omega) (fun i hi => ?_))
    rw [FUv]
    refine wp_loop (fun σ : Int32 × Int64 × Int32 × Int32 × Wd => σ.1 = n ∧ σ.2.1 = m ∧ σ.2.2.1 = t ∧ σ.2.2.2.2 = w ∧ p.toInt < σ.2.2.2.1.toInt ∧ σ.2.2.2.1.toInt ≤ l.length + 1 ∧ ∃ k : Nat, eF tab l ys p.toInt k σ.2.2.2.1.toInt = eF tab l ys p.toInt 50 (p.toInt + 1) ∧ 42 - σ.2.2.2.1.toInt ≤ k)
      (fun σ => (42 - σ.2.2.2.1.toInt).toNat) ?_ 100000 _ ⟨rfl, rfl, rfl, rfl, by dsimp only; omega, by dsimp only; omega, 50, by dsimp only; rw [hi, L.2.1], by dsimp only; omega⟩ (by dsimp only; omega)
    rintro rc ⟨n', m', t', j, u⟩ ⟨rfl, rfl, rfl, rfl, hj, hj2, k, hk, hk2⟩ ih
    dsimp only at hj hj2 hk hk2 hn hm ht ho hF hG he ⊢
    unfold g_X10_endOfFound_45
    refine wp_iflt (fun q => wp_ret ⟨rfl, by rw [← hk, eF_out (by omega)]; exact L.2.2.1⟩) (fun q => ?_)
    obtain ⟨k', rfl⟩ : ∃ k', k = k' + 1 := ⟨k - 1, by omega⟩
    rw [eF_in (by omega)] at hk
    have next : ¬ fit tab l ys p.toInt j.toInt → ∀ y : Int32, y.toInt = j.toInt + (1 : Int32).toInt → Wp (rc (n', m', t', y, u)) (fun r w' => u = w' ∧ r.toInt = eF tab l ys p.toInt 50 (p.toInt + 1)) := by
      intro nf y hy2
      rw [if_neg nf] at hk
      have hy3 : y.toInt = j.toInt + 1 := by omega
      refine ih (n', m', t', y, u) ⟨rfl, rfl, rfl, rfl, by dsimp only; omega, by dsimp only; omega, k', by dsimp only; rw [hy3]; exact hk, by dsimp only; omega⟩ (by dsimp only; omega)
    have edge : ied tab l j.toInt → Wp (f_X10_endOfFound_71 rc n' m' t' j 1 u) (fun r w' => u = w' ∧ r.toInt = eF tab l ys p.toInt 50 (p.toInt + 1)) := by
      intro ie
      unfold f_X10_endOfFound_71
      refine wp_ifeq (fun q => by omega) (fun _ => ?_)
      refine wp_bd (s_foldedEnd ho he (by omega)) ?_
      rintro c _ ⟨rfl, hc⟩
      have S := fo_slc (tab := tab) (l := l) (ys := ys) (p := p.toInt) (e := j.toInt) hp.1 (by omega) (by omega)
      refine wp_ifeq (fun q2 => wp_ret ⟨rfl, ?_⟩) (fun q2 => wp_add (by omega) (fun y hy2 => next (fun f => q2 ?_) y hy2))
      · rw [if_pos ⟨ie, S.mpr ⟨hx, by omega⟩⟩] at hk
        exact hk
      · have := (S.mp f.2).2
        omega
    refine wp_ifeq (fun q2 => edge (Or.inl (by omega))) (fun q2 => ?_)
    rw [e_isBeginning hm (by omega) (by omega) h40, bd_r, ite_zo]
    refine wp_if (fun c => edge (Or.inr c)) (fun c => ?_)
    unfold f_X10_endOfFound_71
    exact wp_ifeq (fun _ => wp_add (by omega) (fun y hy2 => next (fun f => f.1.elim (fun e => q2 (by omega)) c) y hy2)) (fun q => by omega)
  · refine wp_ifeq (fun _ => wp_ret ⟨rfl, ?_⟩) (fun q => by omega)
    rw [eF_none (fun e h1 h2 q => hx ((fo_slc hp.1 (by omega) h2).mp q).1) 50 _ (by omega)]
    exact L.2.2.1
theorem s_find90 {w : Wd} {tab : Nat → Int} {l ys : List Int} {o : Nat} {p : Int32} {m : Int64} (ho : okall w) (h7 : KD o = 7) (hl : rl w o = l) (hF : rl w 699 = fo tab l) (hG : rl w 701 = ys) (he : rl w 648 = ends tab l l.length) (hm : clb tab l m) (h40 : l.length ≤ 40) (hf : (fo tab l).length ≤ 80) (hy : ys.length ≤ 80) (hp : 0 ≤ p.toInt ∧ p.toInt ≤ 40) :
    Wp (f_X10_find_90 o m p w) (fun r w' => w = w' ∧ ∃ x : Int32, r = .inr x ∧ x.toInt = fd tab l ys 50 p.toInt) := by
  have L := LIT
  have h100 : (100 : Int32).toInt = 100 := by decide
  unfold f_X10_find_90
  rw [FUv]
  refine wp_loop (fun σ : Nat × Int64 × Int32 × Wd => σ.1 = o ∧ σ.2.1 = m ∧ σ.2.2.2 = w ∧ 0 ≤ σ.2.2.1.toInt ∧ σ.2.2.1.toInt ≤ 40 ∧ ∃ k : Nat, fd tab l ys k σ.2.2.1.toInt = fd tab l ys 50 p.toInt ∧ 42 - σ.2.2.1.toInt ≤ k)
    (fun σ => (42 - σ.2.2.1.toInt).toNat) ?_ 100000 _ ⟨rfl, rfl, rfl, by dsimp only; omega, by dsimp only; omega, 50, rfl, by dsimp only; omega⟩ (by dsimp only; omega)
  rintro rc ⟨o', m', j, u⟩ ⟨rfl, rfl, rfl, hj, hj2, k, hk, hk2⟩ ih
  dsimp only at hj hj2 hk hk2 h7 hl hm ho hF hG he ⊢
  unfold g_X10_find_90
  refine wp_bd (s_size (ho _ h7)) ?_
  rintro n _ ⟨rfl, hn⟩
  rw [hl] at hn
  refine wp_ifle (fun q => wp_ret ⟨rfl, _, rfl, by rw [← hk, fd_out (by omega)]; exact L.2.2.1⟩) (fun q => ?_)
  obtain ⟨k', rfl⟩ : ∃ k', k = k' + 1 := ⟨k - 1, by omega⟩
  rw [fd_in (by omega)] at hk
  have next : ¬ (icl tab l j.toInt ∧ eF tab l ys j.toInt 50 (j.toInt + 1) ≠ -1) → Wp (f_X10_find_127 rc o' m' j (-1) u) (fun r w' => u = w' ∧ ∃ x : Int32, r = .inr x ∧ x.toInt = fd tab l ys 50 p.toInt) := by
    intro nf
    rw [if_neg nf] at hk
    unfold f_X10_find_127
    refine wp_ifeq (fun _ => wp_add (by omega) (fun y hy2 => ?_)) (fun q => by omega)
    have hy3 : y.toInt = j.toInt + 1 := by omega
    exact ih (o', m', y, u) ⟨rfl, rfl, rfl, by dsimp only; omega, by dsimp only; omega, k', by dsimp only; rw [hy3]; exact hk, by dsimp only; omega⟩ (by dsimp only; omega)
  rw [e_isBeginning hm (by omega) (by omega) h40, bd_r, ite_zo]
  refine wp_if (fun c => ?_) (fun c => next (fun q => c q.1))
  refine wp_bd (s_size (ho _ h7)) ?_
  rintro n2 _ ⟨rfl, hn2⟩
  rw [hl] at hn2
  refine wp_bd (s_endOfFound ho hF hG he hm hn2 h40 hf hy (by omega)) ?_
  rintro e _ ⟨rfl, he2⟩
  by_cases d : eF tab l ys j.toInt 50 (j.toInt + 1) = -1
  · have e1 : e = -1 := i_eq.mpr (by rw [he2, d]; exact L.2.2.1.symm)
    rw [e1]
    exact next (fun q => q.2 d)
  · rw [if_pos ⟨c, d⟩] at hk
    have bnd : ∀ (n : Nat) (x : Int), 0 ≤ x → -1 ≤ eF tab l ys j.toInt n x ∧ eF tab l ys j.toInt n x ≤ 40 := by
      intro n
      induction n with
      | zero => intro x _; unfold eF; omega
      | succ n ih2 =>
        intro x hx
        unfold eF
        split
        · split
          · omega
          · exact ih2 _ (by omega)
        · omega
    have b := bnd 50 (j.toInt + 1) (by omega)
    unfold f_X10_find_127
    refine wp_ifeq (fun q2 => absurd (by omega) d) (fun q2 => wp_ret ⟨rfl, _, rfl, ?_⟩)
    have m1 : ((100 : Int32) * j).toInt = 100 * j.toInt := i_mul' h100 (by omega)
    rw [i_add (by omega), m1, he2]
    exact hk
def bad_from (x : Int) : Prop := ¬ (0 ≤ x ∧ x ≤ 40)
def fdr (tab : Nat → Int) (l xs : List Int) (p : Int) : Int := if fo tab xs = [] then -1 else fd tab l (fo tab xs) 50 p
theorem k_find {w : Wd} {tab : Nat → Int} {txt : Nat → List Int} {s t p : Int32} (hk : tok tab) (h : trel w 1 tab) (ho : okall w) (hx : ctx w txt) (hkx : xok txt) :
    Wp (f_X10_find s t p w) (fun r w' => okall w' ∧ trel w' 1 tab ∧ oc scr w w' ∧
      ((bad_two s.toInt t.toInt ∧ r = .inl 1) ∨ (¬ bad_two s.toInt t.toInt ∧ bad_from p.toInt ∧ r = .inl 2) ∨
      (¬ bad_two s.toInt t.toInt ∧ ¬ bad_from p.toInt ∧ (80 < (fl tab (txt s.toInt.toNat)).length ∨ 80 < (fl tab (txt t.toInt.toNat)).length) ∧ r = .inl 3) ∨
      (¬ bad_two s.toInt t.toInt ∧ ¬ bad_from p.toInt ∧ ¬ (80 < (fl tab (txt s.toInt.toNat)).length ∨ 80 < (fl tab (txt t.toInt.toNat)).length) ∧ ∃ x : Int32, r = .inr x ∧ x.toInt = fdr tab (txt s.toInt.toNat) (txt t.toInt.toNat) p.toInt))) := by
  have L := LIT
  have e40 : (40 : Int32).toInt = 40 := by decide
  unfold f_X10_find f_X10_find_60 f_X10_find_61
  simp only [e_textOf, e_isWithin, bd_r, e_checkArgument, bdx_c]
  refine wp_if (fun hs => ?_) (fun hs => wp_ret ⟨ho, h, oc_rf, Or.inl ⟨fun q => hs q.1, rfl⟩⟩)
  refine wp_if (fun hT => ?_) (fun hT => wp_ret ⟨ho, h, oc_rf, Or.inl ⟨fun q => hT q.2, rfl⟩⟩)
  have nb1 : ¬ bad_two s.toInt t.toInt := fun q => q ⟨hs, hT⟩
  rw [L.1, e40]
  refine wp_if (fun hf => ?_) (fun hf => wp_ret ⟨ho, h, oc_rf, Or.inr (Or.inl ⟨nb1, hf, rfl⟩)⟩)
  have nb2 : ¬ bad_from p.toInt := fun q => q hf
  have hsN := slot_lt hs
  have hTN := slot_lt hT
  have Y := hkx _ hsN
  have Z := hkx _ hTN
  have e0 : f_X10_checkForm (0 : Int32) = fun w => some (.inl 3, w) := rfl
  have e1 : f_X10_checkForm (1 : Int32) = fun w => some (.inr (), w) := rfl
  simp only [e0, e1, bdx_l, bdx_r]
  refine wp_bd (s_foldInto (into := 701) hk h ho (slot_kd _ hTN).1 row_wide.2.1 (by omega) (by omega) (by omega) (by omega) row_wide.2.2 (hx _ hTN) Z.2 Z.1) ?_
  rintro r w1 ⟨ok1, t1, oc1, hr⟩
  have oc1' := oc_scr oc1 (by omega)
  have cx1 : ctx w1 txt := ctx_fr hx (fun k a b => oc1'.1 k (by unfold scr; omega))
  rcases hr with ⟨rfl, hlt, hG, _⟩ | ⟨rfl, hno⟩
  · refine wp_ifeq (fun q => by omega) (fun _ => ?_)
    refine wp_bd (s_foldInto (into := 699) hk t1 ok1 (slot_kd _ hsN).1 row_wide.1.1 (by omega) (by omega) (by omega) (by omega) row_wide.1.2 (cx1 _ hsN) Y.2 Y.1) ?_
    rintro r2 w2 ⟨ok2, t2, oc2, hr2⟩
    have oc2' := oc_tr oc1' (oc_scr oc2 (by omega))
    have cx2 : ctx w2 txt := ctx_fr hx (fun k a b => oc2'.1 k (by unfold scr; omega))
    have hG2 : rl w2 701 = fo tab (txt t.toInt.toNat) := by
      rw [rl_fr (oc2.1 701 (by unfold fcl2; omega)) (oc2.1 (701 + 1) (by unfold fcl2; omega)), hG]
    rcases hr2 with ⟨rfl, hls, hF, he⟩ | ⟨rfl, hno⟩
    · refine wp_ifeq (fun q => by omega) (fun _ => ?_)
      have nb3 : ¬ (80 < (fl tab (txt s.toInt.toNat)).length ∨ 80 < (fl tab (txt t.toInt.toNat)).length) := by omega
      have fs : (fo tab (txt s.toInt.toNat)).length ≤ 80 := Nat.le_trans (unm_len ..) hls
      have ft : (fo tab (txt t.toInt.toNat)).length ≤ 80 := Nat.le_trans (unm_len ..) hlt
      refine wp_bd (s_size (ok2 _ row_wide.2.1)) ?_
      rintro n _ ⟨rfl, hn⟩
      rw [hG2] at hn
      refine wp_ifeq (fun q => wp_ret ⟨ok2, t2, oc2', Or.inr (Or.inr (Or.inr ⟨nb1, nb2, nb3, _, rfl, ?_⟩))⟩) (fun q => ?_)
      · unfold fdr
        rw [if_pos (List.length_eq_zero_iff.mp (by omega))]
        exact L.2.2.1
      · have K := slot_kd _ hsN
        refine wp_bd (s_clusterBreaks t2 (ok2 _ K.1) (by rw [cx2 _ hsN]; exact Y)) ?_
        rintro m _ ⟨rfl, hm⟩
        rw [cx2 _ hsN] at hm
        refine (s_find90 ok2 K.1 (cx2 _ hsN) hF hG2 he hm Y.1 fs ft hf).mono ?_
        rintro r _ ⟨rfl, x, hx1, hx2⟩
        refine ⟨ok2, t2, oc2', Or.inr (Or.inr (Or.inr ⟨nb1, nb2, nb3, x, hx1, ?_⟩))⟩
        unfold fdr
        rw [if_neg (fun e => q (by rw [e] at hn; exact hn.trans L.1.symm))]
        exact hx2
    · exact wp_ifeq (fun _ => wp_ret ⟨ok2, t2, oc2', Or.inr (Or.inr (Or.inl ⟨nb1, nb2, Or.inl hno, rfl⟩))⟩) (fun q => by omega)
  · exact wp_ifeq (fun _ => wp_ret ⟨ok1, t1, oc1', Or.inr (Or.inr (Or.inl ⟨nb1, nb2, Or.inr hno, rfl⟩))⟩) (fun q => by omega)

