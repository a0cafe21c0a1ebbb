/-! ===== words of the dictionary within a text ===== -/
theorem RV_39 : ∀ i, i < 6 → RV 39 i = 40 + 2 * i ∧ KD (40 + 2 * i) = 7 ∧ LEN 39 = 6 := by decide +kernel
def wd (tab : Nat → Int) (k : Nat) : List Int := tl tab (1503 + 9 * k + 1) (tab (1503 + 9 * k)).toNat
theorem wd_len (tab : Nat → Int) (k : Nat) : (wd tab k).length = (tab (1503 + 9 * k)).toNat := tl_len ..
theorem slc_at {l : List Int} {p e : Int} {k : Nat} (hp : 0 ≤ p) (hk : (k : Int) < e - p) (he : e ≤ l.length) : (slc l p e)[k]? = some (gt l (p + k)) := by
  unfold slc
  rw [List.getElem?_take_of_lt (by omega), List.getElem?_drop, gt_in (by omega), List.getD_eq_getElem?_getD, show (p + k).toNat = p.toNat + k by omega, List.getElem?_eq_getElem (by omega)]
  rfl
theorem slc_length {l : List Int} {p e : Int} (hp : 0 ≤ p) (h : p ≤ e) (he : e ≤ l.length) : (slc l p e).length = (e - p).toNat := by
  unfold slc
  rw [List.length_take, List.length_drop]; omega
theorem hld_slc {l ys : List Int} {p : Int} (hp : 0 ≤ p) : hld l ys p ↔ p + ys.length ≤ l.length ∧ slc l p (p + ys.length) = ys := by
  constructor
  · rintro ⟨_, b, c⟩
    refine ⟨b, List.ext_getElem? (fun k => ?_)⟩
    by_cases q : k < ys.length
    · rw [slc_at hp (by omega) b, c k q, gt_nat, List.getD_eq_getElem?_getD, List.getElem?_eq_getElem q]; rfl
    · rw [List.getElem?_eq_none (by rw [slc_length hp (by omega) b]; omega), List.getElem?_eq_none (by omega)]
  · rintro ⟨b, c⟩
    refine ⟨hp, b, fun k q => ?_⟩
    have g := slc_at (l := l) (e := p + ys.length) (k := k) hp (by omega) b
    rw [c, List.getElem?_eq_getElem q] at g
    rw [gt_nat, List.getD_eq_getElem?_getD, List.getElem?_eq_getElem q]
    exact (Option.some.inj g).symm
/-- a word of the dictionary that stands at a place, and ends by a limit at an edge -/
abbrev wfit (tab : Nat → Int) (l : List Int) (p lim : Int) (k : Nat) : Prop := (p + (wd tab k).length ≤ l.length ∧ slc l p (p + (wd tab k).length) = wd tab k) ∧ p + (wd tab k).length ≤ lim ∧ ied tab l (p + (wd tab k).length)
/-- the longest of the first words -/
def lg (tab : Nat → Int) (l : List Int) (p lim : Int) : Nat → Int
  | 0 => 0
  | k + 1 => if wfit tab l p lim k ∧ lg tab l p lim k < (wd tab k).length then (wd tab k).length else lg tab l p lim k
/-- where a row of SEAMLESS clusters ends -/
def sl (tab : Nat → Int) (l : List Int) : Nat → Int → Int
  | 0, _ => l.length
  | n + 1, i => if i < l.length then (if icl tab l i ∧ kd tab l i ≠ 6 then i else sl tab l n (i + 1)) else l.length
theorem sl_out {tab : Nat → Int} {l : List Int} {n : Nat} {i : Int} (h : l.length ≤ i) : sl tab l n i = l.length := by
  cases n with
  | zero => rfl
  | succ n => unfold sl; rw [if_neg (by omega)]
theorem sl_in {tab : Nat → Int} {l : List Int} {n : Nat} {i : Int} (h : i < l.length) : sl tab l (n + 1) i = if icl tab l i ∧ kd tab l i ≠ 6 then i else sl tab l n (i + 1) := by
  rw [sl, if_pos h]
theorem sl_bd {tab : Nat → Int} {l : List Int} : ∀ (n : Nat) (i : Int), i ≤ l.length → i ≤ sl tab l n i ∧ sl tab l n i ≤ l.length ∧ ((l.length : Int) - i ≤ n → ied tab l (sl tab l n i)) := by
  intro n
  induction n with
  | zero => intro i h; exact ⟨h, Int.le_refl _, fun _ => Or.inl rfl⟩
  | succ n ih =>
    intro i h
    by_cases c : i < l.length
    · rw [sl_in c]
      by_cases d : icl tab l i ∧ kd tab l i ≠ 6
      · rw [if_pos d]; exact ⟨Int.le_refl _, h, fun _ => Or.inr d.1⟩
      · rw [if_neg d]
        have := ih (i + 1) (by omega)
        exact ⟨by omega, this.2.1, fun q => this.2.2 (by omega)⟩
    · rw [sl_out (by omega)]; exact ⟨by omega, Int.le_refl _, fun _ => Or.inl rfl⟩
theorem mk_clb {tab : Nat → Int} {l : List Int} {m : Int64} {x : Int32} {w : Wd} (hm : clb tab l m) (h : 0 < x.toInt) (h2 : x.toInt < l.length) (h3 : l.length ≤ 40) : f_X0_isMarked m x w = some (zo (icl tab l x.toInt), w) := by
  rw [e_isMarked (by omega)]
  have hb := hm x.toInt.toNat (by omega)
  have ci : ((x.toInt.toNat : Nat) : Int) = x.toInt := by omega
  dsimp only at hb
  rw [ci] at hb
  unfold zo
  by_cases d : icl tab l x.toInt
  · rw [if_pos ⟨by omega, hb.mpr ⟨by omega, by omega, d⟩⟩, if_pos d]
  · rw [if_neg (fun q => d (hb.mp q.2).2.2), if_neg d]
theorem s_clusterEnd {w : Wd} {tab : Nat → Int} {o : Nat} {m : Int64} {p : Int32} {l : List Int} (ho : okr w o) (hl : rl w o = l) (hm : clb tab l m) (h40 : l.length ≤ 40) (hp : 0 ≤ p.toInt ∧ p.toInt < l.length) :
    Wp (f_X0_clusterEnd o m p w) (fun r w' => w = w' ∧ r.toInt = sn tab l 1 50 (p.toInt + 1)) := by
  have L := LIT
  unfold f_X0_clusterEnd
  refine wp_add (by omega) (fun i hi => ?_)
  unfold f_X0_clusterEnd_6
  rw [FUv]
  refine wp_loop (fun σ : Nat × Int64 × Int32 × Wd => σ.1 = o ∧ σ.2.1 = m ∧ σ.2.2.2 = w ∧ 1 ≤ σ.2.2.1.toInt ∧ σ.2.2.1.toInt ≤ l.length ∧ ∃ k : Nat, sn tab l 1 k σ.2.2.1.toInt = sn tab l 1 50 (p.toInt + 1) ∧ 42 - σ.2.2.1.toInt ≤ k)
    (fun σ => (42 - σ.2.2.1.toInt).toNat) ?_ 100000 _ ⟨rfl, rfl, rfl, by dsimp only; omega, by dsimp only; omega, 50, by dsimp only; rw [hi, L.2.1], by dsimp only; omega⟩ (by dsimp only; omega)
  rintro rc ⟨o', m', j, u⟩ ⟨rfl, rfl, rfl, hj, hj2, k, hk, hk2⟩ ih
  dsimp only at hj hj2 hk hk2 hl hm ho ⊢
  unfold g_X0_clusterEnd_6
  obtain ⟨k', rfl⟩ : ∃ k', k = k' + 1 := ⟨k - 1, by omega⟩
  rw [sn_in (by omega)] at hk
  refine wp_bd (s_size ho) ?_
  rintro n _ ⟨rfl, hn⟩
  rw [hl] at hn
  refine wp_ifle (fun q => ?_) (fun q => ?_)
  · refine wp_bd (s_size ho) ?_
    rintro n2 _ ⟨rfl, hn2⟩
    rw [hl] at hn2
    rw [if_pos (Or.inl (by omega))] at hk
    exact wp_ret ⟨rfl, by omega⟩
  · rw [mk_clb hm (by omega) (by omega) h40, bd_r, ite_zo]
    refine wp_if (fun c => wp_ret ⟨rfl, ?_⟩) (fun c => wp_add (by omega) (fun y hy => ?_))
    · rw [if_pos (Or.inr c)] at hk; exact hk
    · rw [if_neg (fun q2 => q2.elim (fun e => by omega) c)] at hk
      have hy3 : y.toInt = j.toInt + 1 := by omega
      exact ih (o', m', y, u) ⟨rfl, rfl, rfl, by dsimp only; omega, by dsimp only; omega, k', by dsimp only; rw [hy3]; exact hk, by dsimp only; omega⟩ (by dsimp only; omega)
theorem s_seamlessLimit {w : Wd} {tab : Nat → Int} {o : Nat} {m : Int64} {p : Int32} {l : List Int} (h : trel w 1 tab) (ho : okr w o) (hl : rl w o = l) (hm : clb tab l m) (Y : lok40 l) (hp : 0 ≤ p.toInt ∧ p.toInt < l.length) :
    Wp (f_X0_seamlessLimit o m p w) (fun r w' => w = w' ∧ r.toInt = sl tab l 50 (p.toInt + 1)) := by
  have L := LIT
  have h40 := Y.1
  unfold f_X0_seamlessLimit
  refine wp_add (by omega) (fun i hi => ?_)
  unfold f_X0_seamlessLimit_6
  rw [FUv]
  refine wp_loop (fun σ : Nat × Int64 × Int32 × Wd => σ.1 = o ∧ σ.2.1 = m ∧ σ.2.2.2 = w ∧ 1 ≤ σ.2.2.1.toInt ∧ σ.2.2.1.toInt ≤ l.length ∧ ∃ k : Nat, sl tab l k σ.2.2.1.toInt = sl tab l 50 (p.toInt + 1) ∧ 42 - σ.2.2.1.toInt ≤ k)
    (fun σ => (42 - σ.2.2.1.toInt).toNat) ?_ 100000 _ ⟨rfl, rfl, rfl, by dsimp only; omega, by dsimp only; omega, 50, by dsimp only; rw [hi, L.2.1], by dsimp only; omega⟩ (by dsimp only; omega)
  rintro rc ⟨o', m', j, u⟩ ⟨rfl, rfl, rfl, hj, hj2, k, hk, hk2⟩ ih
  dsimp only at hj hj2 hk hk2 hl hm ho h ⊢
  unfold g_X0_seamlessLimit_6
  obtain ⟨k', rfl⟩ : ∃ k', k = k' + 1 := ⟨k - 1, by omega⟩
  refine wp_bd (s_size ho) ?_
  rintro n _ ⟨rfl, hn⟩
  rw [hl] at hn
  refine wp_ifle (fun q => ?_) (fun q => ?_)
  · refine wp_bd (s_size ho) ?_
    rintro n2 _ ⟨rfl, hn2⟩
    rw [hl] at hn2
    rw [sl_out (by omega)] at hk
    exact wp_ret ⟨rfl, by omega⟩
  · rw [sl_in (by omega)] at hk
    have next : ¬ (icl tab l j.toInt ∧ kd tab l j.toInt ≠ 6) → ∀ y : Int32, y.toInt = j.toInt + (1 : Int32).toInt → Wp (rc (o', m', y, u)) (fun r w' => u = w' ∧ r.toInt = sl tab l 50 (p.toInt + 1)) := by
      intro nf y hy
      rw [if_neg nf] at hk
      have hy3 : y.toInt = j.toInt + 1 := by omega
      exact ih (o', m', y, u) ⟨rfl, rfl, rfl, by dsimp only; omega, by dsimp only; omega, k', by dsimp only; rw [hy3]; exact hk, by dsimp only; omega⟩ (by dsimp only; omega)
    rw [mk_clb hm (by omega) (by omega) h40, bd_r, ite_zo]
    refine wp_if (fun c => ?_) (fun c => wp_add (by omega) (fun y hy => next (fun f => c f.1) y hy))
    refine wp_bd (s_kindAt h ho (by rw [hl]; exact Y) (by rw [hl]; omega)) ?_
    rintro x _ ⟨rfl, hx⟩
    rw [hl] at hx
    refine wp_ifeq (fun q2 => wp_add (by omega) (fun y hy => next (fun f => f.2 (by omega)) y hy)) (fun q2 => wp_ret ⟨rfl, ?_⟩)
    rw [if_pos ⟨c, by omega⟩] at hk
    exact hk

