/-! ===== where words end ===== -/
def wend (tab : Nat → Int) (l : List Int) (p lim : Int) : Int := if lg tab l p lim (tab 1502).toNat = 0 then sn tab l 1 50 (p + 1) else p + lg tab l p lim (tab 1502).toNat
theorem e_wordAt {w : Wd} {i : Int32} (h0 : 0 ≤ i.toInt) (h1 : i.toInt < (w.1 1 12).toInt) (h2 : i.toInt < 6) : f_X9_wordAt 1 i w = some (some (40 + 2 * i.toInt.toNat), w) := by
  have R := RV_39 i.toInt.toNat (by omega)
  have L := LIT
  have e6 : (Int32.ofNat (LEN (1 + 38))).toInt = 6 := by rw [R.2.2]; decide
  unfold f_X9_wordAt ard
  rw [if_neg (by rw [Int32.lt_iff_toInt_lt]; omega), if_neg (by rw [Int32.le_iff_toInt_le]; omega), if_pos (by rw [Int32.lt_iff_toInt_lt]; omega), if_pos (inb_iff.mpr (by rw [R.2.2]; omega)), show i.toNatClampNeg = i.toInt.toNat from rfl, R.1]
theorem lg_bd {tab : Nat → Int} {l : List Int} {p lim : Int} (hk : tok tab) : ∀ n : Nat, (n : Int) ≤ tab 1502 → 0 ≤ lg tab l p lim n ∧ lg tab l p lim n ≤ 8 := by
  intro n
  induction n with
  | zero => intro _; unfold lg; omega
  | succ n ih =>
    intro h
    have a := ih (by omega)
    have b := hk.2.2.1.2.2 n (by omega)
    have c := wd_len tab n
    unfold lg
    split
    · omega
    · exact a
theorem lg_s {tab : Nat → Int} {l : List Int} {p lim : Int} {n : Nat} : lg tab l p lim (n + 1) = if wfit tab l p lim n ∧ lg tab l p lim n < (wd tab n).length then ((wd tab n).length : Int) else lg tab l p lim n := by rw [lg]
theorem s_wordEnd {w : Wd} {tab : Nat → Int} {o : Nat} {m : Int64} {p e : Int32} {l : List Int} (hk : tok tab) (h : trel w 1 tab) (ho : okall w) (h7 : KD o = 7) (hl : rl w o = l) (hm : clb tab l m) (Y : lok40 l) (hp : 0 ≤ p.toInt ∧ p.toInt < l.length) (he : e.toInt = sn tab l 1 50 (p.toInt + 1)) :
    Wp (f_X0_wordEnd o m p e w) (fun r w' => w = w' ∧ r.toInt = wend tab l p.toInt (sl tab l 50 (p.toInt + 1))) := by
  have L := LIT
  have h40 := Y.1
  have K := hk.2.2.1
  unfold f_X0_wordEnd
  refine wp_bd (s_seamlessLimit h (ho _ h7) hl hm Y hp) ?_
  rintro lim _ ⟨rfl, hlim⟩
  have B := sl_bd (tab := tab) (l := l) 50 (p.toInt + 1) (by omega)
  rw [← hlim] at B ⊢
  unfold f_X0_wordEnd_16
  rw [FUv]
  refine wp_loop (fun σ : Nat × Int64 × Int32 × Int32 × Int32 × Int32 × Int32 × Wd => σ.1 = o ∧ σ.2.1 = m ∧ σ.2.2.1 = p ∧ σ.2.2.2.1 = e ∧ σ.2.2.2.2.1 = lim ∧ σ.2.2.2.2.2.2.2 = w ∧ 0 ≤ σ.2.2.2.2.2.2.1.toInt ∧ σ.2.2.2.2.2.2.1.toInt ≤ tab 1502 ∧ σ.2.2.2.2.2.1.toInt = lg tab l p.toInt lim.toInt σ.2.2.2.2.2.2.1.toInt.toNat)
    (fun σ => (7 - σ.2.2.2.2.2.2.1.toInt).toNat) ?_ 100000 _ ⟨rfl, rfl, rfl, rfl, rfl, rfl, by dsimp only; omega, by dsimp only; omega, by dsimp only; rw [L.1]; rfl⟩ (by dsimp only; omega)
  rintro rc ⟨o', m', p', e', lim', g, i, u⟩ ⟨rfl, rfl, rfl, rfl, rfl, rfl, hi, hi2, hg⟩ ih
  dsimp only at hi hi2 hg h ho h7 hl hm hp he hlim B ⊢
  unfold g_X0_wordEnd_16 f_X0_wordEnd_101
  have hc : (u.1 1 12).toInt = tab 1502 := h.2.2.1.1
  have e1 : f_X9_wordCount 1 u = some (u.1 1 12, u) := rfl
  rw [e1, bd_r]
  have ib := lg_bd (l := l) (p := p'.toInt) (lim := lim'.toInt) hk i.toInt.toNat (by omega)
  refine wp_ifle (fun q => ?_) (fun q => ?_)
  · have ei : i.toInt.toNat = (tab 1502).toNat := by omega
    rw [ei] at hg ib
    unfold wend
    refine wp_ifeq (fun q2 => wp_ret ⟨rfl, ?_⟩) (fun q2 => wp_ret ⟨rfl, ?_⟩)
    · rw [if_pos (by omega)]; exact he
    · rw [if_neg (by omega), i_add (by omega), hg]
  · rw [e_wordAt hi (by omega) (by omega)]
    have R := RV_39 i.toInt.toNat (by omega)
    have hw : rl u (40 + 2 * i.toInt.toNat) = wd tab i.toInt.toNat := h.2.2.1.2 i.toInt.toNat (by omega)
    have kw := K.2.2 i.toInt.toNat (by omega)
    have wl := wd_len tab i.toInt.toNat
    have step : ∀ (g2 y : Int32), y.toInt = i.toInt + (1 : Int32).toInt → g2.toInt = lg tab l p'.toInt lim'.toInt (i.toInt.toNat + 1) → Wp (rc (o', m', p', e', lim', g2, y, u)) (fun r w' => u = w' ∧ r.toInt = wend tab l p'.toInt lim'.toInt) := by
      intro g2 y hy h2
      have hy3 : y.toInt = i.toInt + 1 := by omega
      refine ih (o', m', p', e', lim', g2, y, u) ⟨rfl, rfl, rfl, rfl, rfl, rfl, by dsimp only; omega, by dsimp only; omega, ?_⟩ (by dsimp only; omega)
      dsimp only
      rw [hy3, show (i.toInt + 1).toNat = i.toInt.toNat + 1 by omega]
      exact h2
    have skip : ¬ (wfit tab l p'.toInt lim'.toInt i.toInt.toNat ∧ lg tab l p'.toInt lim'.toInt i.toInt.toNat < (wd tab i.toInt.toNat).length) → ∀ y : Int32, y.toInt = i.toInt + (1 : Int32).toInt → Wp (rc (o', m', p', e', lim', g, y, u)) (fun r w' => u = w' ∧ r.toInt = wend tab l p'.toInt lim'.toInt) := by
      intro nf y hy
      refine step g y hy ?_
      rw [lg_s, if_neg nf]; exact hg
    have take : wfit tab l p'.toInt lim'.toInt i.toInt.toNat → lg tab l p'.toInt lim'.toInt i.toInt.toNat < (wd tab i.toInt.toNat).length → Wp (bd (f_X7_size (40 + 2 * i.toInt.toNat) u) (fun x2 w1 => lt (i + (1 : Int32)) (fun x3 => rc (o', m', p', e', lim', x2, x3, w1)))) (fun r w' => u = w' ∧ r.toInt = wend tab l p'.toInt lim'.toInt) := by
      intro f1 f2
      refine wp_bd (s_size (ho _ R.2.1)) ?_
      rintro n _ ⟨rfl, hn⟩
      rw [hw] at hn
      refine wp_add (by omega) (fun y hy => step n y hy ?_)
      rw [lg_s, if_pos ⟨f1, f2⟩]; exact hn
    rw [bdq_s]
    refine wp_bd (s_size (ho _ R.2.1)) ?_
    rintro n _ ⟨rfl, hn⟩
    rw [hw] at hn
    refine wp_ifle (fun q2 => wp_add (by omega) (fun y hy => skip (fun f => by have := f.2; omega) y hy)) (fun q2 => ?_)
    refine wp_bd (s_holds (ho _ h7) (ho _ R.2.1)) ?_
    rintro x _ ⟨rfl, hx⟩
    rw [hw, hl] at hx
    rcases hx with ⟨rfl, hx⟩ | ⟨rfl, hx⟩
    · have hx2 := (hld_slc hp.1).mp hx
      refine wp_ifeq (fun q3 => by omega) (fun _ => ?_)
      refine wp_bd (s_size (ho _ R.2.1)) ?_
      rintro n2 _ ⟨rfl, hn2⟩
      rw [hw] at hn2
      refine wp_add (by omega) (fun t ht => ?_)
      have ht2 : t.toInt = p'.toInt + (wd tab i.toInt.toNat).length := by omega
      refine wp_ifeq (fun q3 => take ⟨hx2, by omega, ?_⟩ (by omega)) (fun q3 => ?_)
      · rw [← ht2, q3]; exact B.2.2 (by omega)
      refine wp_ifle (fun q4 => wp_add (by omega) (fun y hy => skip (fun f => by have := f.1.2.1; omega) y hy)) (fun q4 => ?_)
      rw [mk_clb hm (by omega) (by omega) h40, bd_r, ite_zo]
      refine wp_if (fun c => take ⟨hx2, by omega, ?_⟩ (by omega)) (fun c => wp_add (by omega) (fun y hy => skip (fun f => ?_) y hy))
      · rw [← ht2]; exact Or.inr c
      · have := f.1.2.2
        rw [← ht2] at this
        exact this.elim (fun e => by omega) c
    · exact wp_ifeq (fun _ => wp_add (by omega) (fun y hy => skip (fun f => hx ((hld_slc hp.1).mpr f.1.1)) y hy)) (fun q => by omega)

