/-! ===== orders: compare, key (class) ===== -/
def cmpL : List Int → List Int → Int
  | [], [] => 0
  | [], _ :: _ => -1
  | _ :: _, [] => 1
  | a :: x, b :: y => if a = b then cmpL x y else if a < b then -1 else 1
theorem cmpL_app {X Y : List Int} : ∀ A B : List Int, (∀ x ∈ A, 0 < x) → (∀ x ∈ B, 0 < x) → cmpL (A ++ 0 :: X) (B ++ 0 :: Y) = if cmpL A B = 0 then cmpL X Y else cmpL A B := by
  intro A
  induction A with
  | nil =>
    intro B _ hB
    cases B with
    | nil =>
      show (if (0 : Int) = 0 then cmpL X Y else _) = _
      rw [if_pos rfl, if_pos (show cmpL [] [] = 0 from rfl)]
    | cons b B =>
      have := hB b List.mem_cons_self
      show (if (0 : Int) = b then cmpL X (B ++ 0 :: Y) else if (0 : Int) < b then -1 else 1) = _
      rw [if_neg (by omega), if_pos this, if_neg (show ¬ cmpL [] (b :: B) = 0 by show ¬ ((-1 : Int) = 0); decide)]
      rfl
  | cons a A ih =>
    intro B hA hB
    have ha := hA a List.mem_cons_self
    cases B with
    | nil =>
      show (if a = 0 then cmpL (A ++ 0 :: X) Y else if a < 0 then -1 else 1) = _
      rw [if_neg (by omega), if_neg (by omega), if_neg (show ¬ cmpL (a :: A) [] = 0 by show ¬ ((1 : Int) = 0); decide)]
      rfl
    | cons b B =>
      have I := ih B (fun x hx => hA x (List.mem_cons_of_mem _ hx)) (fun x hx => hB x (List.mem_cons_of_mem _ hx))
      have e : cmpL (a :: A) (b :: B) = if a = b then cmpL A B else if a < b then -1 else 1 := rfl
      show (if a = b then cmpL (A ++ 0 :: X) (B ++ 0 :: Y) else if a < b then -1 else 1) = _
      rw [e]
      by_cases c : a = b
      · rw [if_pos c, if_pos c, I]
      · rw [if_neg c, if_neg c]
        by_cases d : a < b
        · rw [if_pos d, if_neg (by decide)]
        · rw [if_neg d, if_neg (by decide)]
theorem cmpL_v : ∀ A B : List Int, cmpL A B = 0 ∨ cmpL A B = -1 ∨ cmpL A B = 1 := by
  intro A
  induction A with
  | nil => intro B; cases B with
    | nil => exact Or.inl rfl
    | cons b B => exact Or.inr (Or.inl rfl)
  | cons a A ih => intro B; cases B with
    | nil => exact Or.inr (Or.inr rfl)
    | cons b B =>
      show (if a = b then cmpL A B else if a < b then -1 else 1) = 0 ∨ (if a = b then cmpL A B else if a < b then -1 else 1) = -1 ∨ (if a = b then cmpL A B else if a < b then -1 else 1) = 1
      split
      · exact ih B
      · split
        · exact Or.inr (Or.inl rfl)
        · exact Or.inr (Or.inr rfl)
/-- by one rank after the other -/
def cmr (tab : Nat → Int) (n : Nat) (us vs : List Int) (r : Nat) : Int := cmpL (wk tab n r us) (wk tab n r vs)
def cmk (tab : Nat → Int) (n : Nat) (us vs : List Int) : Int := if cmr tab n us vs 0 = 0 then (if cmr tab n us vs 1 = 0 then cmr tab n us vs 2 else cmr tab n us vs 1) else cmr tab n us vs 0
theorem cmk_key {tab : Nat → Int} {n : Nat} {us vs : List Int} : cmpL (keyOf tab n us) (keyOf tab n vs) = cmk tab n us vs := by
  unfold keyOf cmk cmr
  rw [cmpL_app _ _ wk_pos wk_pos, cmpL_app _ _ wk_pos wk_pos]
section
variable {w : Wd} {tab : Nat → Int} {L n : Nat}
/-- the next one that weighs -/
theorem s_nextWeighing {o : Nat} {us : List Int} {i r : Int32} (hn : n < 2) (hL : KD L = 2) (hu : urel w L tab n) (hk : tok tab) (ho : okall w) (h7 : KD o = 7) (hz : rl w o = us) (h80 : us.length ≤ 80) (hok : uok tab n us) (hi : 0 ≤ i.toInt ∧ i.toInt ≤ us.length) (hr : 0 ≤ r.toInt ∧ r.toInt ≤ 2) :
    Wp (f_X2_nextWeighing L o i r w) (fun x w' => w = w' ∧ i.toInt ≤ x.toInt ∧ x.toInt ≤ us.length ∧ wk tab n r.toInt.toNat (us.drop x.toInt.toNat) = wk tab n r.toInt.toNat (us.drop i.toInt.toNat) ∧ (x.toInt < us.length → 0 < wt tab n r.toInt.toNat (gt us x.toInt))) := by
  have I := LIT
  unfold f_X2_nextWeighing f_X2_nextWeighing_3
  rw [FUv]
  refine wp_loop (fun σ : Nat × Nat × Int32 × Int32 × Wd => σ.1 = L ∧ σ.2.1 = o ∧ σ.2.2.1 = r ∧ σ.2.2.2.2 = w ∧ i.toInt ≤ σ.2.2.2.1.toInt ∧ σ.2.2.2.1.toInt ≤ us.length ∧ wk tab n r.toInt.toNat (us.drop σ.2.2.2.1.toInt.toNat) = wk tab n r.toInt.toNat (us.drop i.toInt.toNat))
    (fun σ => (82 - σ.2.2.2.1.toInt).toNat) ?_ 100000 _ ⟨rfl, rfl, rfl, rfl, Int.le_refl _, hi.2, rfl⟩ (by dsimp only; omega)
  rintro rc ⟨L', o', r', j, u⟩ ⟨rfl, rfl, rfl, rfl, hj0, hj1, he⟩ ih
  dsimp only at *
  unfold g_X2_nextWeighing_3
  refine wp_bd (s_size (ho _ h7)) ?_
  rintro m _ ⟨rfl, hm⟩
  rw [hz] at hm
  refine wp_ifle (fun q => ?_) (fun q => ?_)
  · refine wp_bd (s_size (ho _ h7)) ?_
    rintro m2 _ ⟨rfl, hm2⟩
    rw [hz] at hm2
    refine wp_ret ⟨rfl, by omega, by omega, ?_, fun c => by omega⟩
    rw [← he, show m2.toInt.toNat = j.toInt.toNat by omega]
  have jl : j.toInt.toNat < us.length := by omega
  have cj : ((j.toInt.toNat : Nat) : Int) = j.toInt := by omega
  have O := uok_gt hok jl
  rw [cj] at O
  refine wp_bd (s_get (ho _ h7)) ?_
  rintro x _ ⟨rfl, hx⟩
  rw [hz] at hx
  refine wp_bd (s_weightOf (u := x) (r := r') hn hL hu hk (by rw [hx]; exact O) hr) ?_
  rintro y _ ⟨rfl, hy⟩
  rw [hx] at hy
  refine wp_ifle (fun d => wp_add (by omega) (fun z hz2 => ih (L', o', r', z, u) ⟨rfl, rfl, rfl, rfl, by dsimp only; omega, by dsimp only; omega, ?_⟩ (by dsimp only; omega))) (fun d => wp_ret ⟨rfl, hj0, hj1, he, fun _ => by omega⟩)
  dsimp only
  rw [wk_drop jl, cj, if_neg (by omega)] at he
  rw [show z.toInt.toNat = j.toInt.toNat + 1 by omega]; exact he
theorem s_orderOf {us vs : List Int} {r : Int32} (hn : n < 2) (hL : KD L = 2) (hu : urel w L tab n) (hk : tok tab) (ho : okall w) (hz : rl w 703 = us) (hz2 : rl w 705 = vs) (h80 : us.length ≤ 80) (h80b : vs.length ≤ 80) (hok : uok tab n us) (hokb : uok tab n vs) (hr : 0 ≤ r.toInt ∧ r.toInt ≤ 2) :
    Wp (f_X2_orderOf L 703 705 r w) (fun x w' => w = w' ∧ x.toInt = cmr tab n us vs r.toInt.toNat) := by
  have I := LIT
  have l80 : (80 : Int32).toInt = 80 := by decide
  have h7 : KD 703 = 7 := by decide +kernel
  have h8 : KD 705 = 7 := by decide +kernel
  unfold f_X2_orderOf
  refine wp_bd (s_nextWeighing (i := 0) (r := r) hn hL hu hk ho h7 hz h80 hok (by omega) hr) ?_
  rintro a _ ⟨rfl, a1, a2, a3, a4⟩
  refine wp_bd (s_nextWeighing (i := 0) (r := r) hn hL hu hk ho h8 hz2 h80b hokb (by omega) hr) ?_
  rintro b _ ⟨rfl, b1, b2, b3, b4⟩
  rw [show (0 : Int32).toInt.toNat = 0 by decide, List.drop_zero] at a3 b3
  unfold f_X2_orderOf_21
  rw [FUv]
  refine wp_loop (fun σ : Nat × Nat × Nat × Int32 × Int32 × Int32 × Int32 × Wd => σ.1 = L ∧ σ.2.1 = 703 ∧ σ.2.2.1 = 705 ∧ σ.2.2.2.1 = r ∧ σ.2.2.2.2.2.2.2 = w ∧ 0 ≤ σ.2.2.2.2.1.toInt ∧ σ.2.2.2.2.1.toInt ≤ us.length ∧ 0 ≤ σ.2.2.2.2.2.1.toInt ∧ σ.2.2.2.2.2.1.toInt ≤ vs.length ∧ 0 ≤ σ.2.2.2.2.2.2.1.toInt ∧ σ.2.2.2.2.2.2.1.toInt ≤ σ.2.2.2.2.1.toInt ∧
      cmpL (wk tab n r.toInt.toNat (us.drop σ.2.2.2.2.1.toInt.toNat)) (wk tab n r.toInt.toNat (vs.drop σ.2.2.2.2.2.1.toInt.toNat)) = cmr tab n us vs r.toInt.toNat ∧ (σ.2.2.2.2.1.toInt < us.length → 0 < wt tab n r.toInt.toNat (gt us σ.2.2.2.2.1.toInt)) ∧ (σ.2.2.2.2.2.1.toInt < vs.length → 0 < wt tab n r.toInt.toNat (gt vs σ.2.2.2.2.2.1.toInt)))
    (fun σ => (82 - σ.2.2.2.2.2.2.1.toInt).toNat) ?_ 100000 _ ⟨rfl, rfl, rfl, rfl, rfl, by dsimp only; omega, a2, by dsimp only; omega, b2, by dsimp only; omega, by dsimp only; omega, by dsimp only; rw [a3, b3]; rfl, a4, b4⟩ (by dsimp only; omega)
  rintro rc ⟨L', o1, o2, r', i, j, t, u⟩ ⟨rfl, rfl, rfl, rfl, rfl, hi0, hi1, hj0, hj1, ht0, ht1, he, hwi, hwj⟩ ih
  dsimp only at *
  unfold g_X2_orderOf_21
  -- the end
  have fin : (us.length ≤ i.toInt ∨ vs.length ≤ j.toInt) → Wp (f_X2_orderOf_122 703 705 i j u) (fun x w' => u = w' ∧ x.toInt = cmr tab n us vs r'.toInt.toNat) := by
    intro hend
    unfold f_X2_orderOf_122 f_X2_orderOf_136
    refine wp_bd (s_size (ho _ h7)) ?_
    rintro m _ ⟨rfl, hm⟩
    rw [hz] at hm
    refine wp_ifle (fun q => ?_) (fun q => ?_)
    · refine wp_bd (s_size (ho _ h8)) ?_
      rintro m2 _ ⟨rfl, hm2⟩
      rw [hz2] at hm2
      rw [List.drop_eq_nil_of_le (by omega), show wk tab n r'.toInt.toNat [] = [] from rfl] at he
      unfold f_X2_orderOf_152
      refine wp_ifle (fun q2 => ?_) (fun q2 => ?_)
      · rw [if_pos rfl]
        rw [List.drop_eq_nil_of_le (by omega), show wk tab n r'.toInt.toNat [] = [] from rfl] at he
        exact wp_ret ⟨rfl, by rw [← he]; exact I.1⟩
      · rw [if_neg (by decide), if_neg (by decide)]
        have jl : j.toInt.toNat < vs.length := by omega
        have cj : ((j.toInt.toNat : Nat) : Int) = j.toInt := by omega
        rw [wk_drop jl, cj, if_pos (hwj (by omega))] at he
        exact wp_ret ⟨rfl, by rw [← he]; exact I.2.2.1⟩
    · refine wp_bd (s_size (ho _ h8)) ?_
      rintro m2 _ ⟨rfl, hm2⟩
      rw [hz2] at hm2
      have il : i.toInt.toNat < us.length := by omega
      have ci : ((i.toInt.toNat : Nat) : Int) = i.toInt := by omega
      rw [wk_drop il, ci, if_pos (hwi (by omega)), List.drop_eq_nil_of_le (show vs.length ≤ j.toInt.toNat by omega), show wk tab n r'.toInt.toNat [] = [] from rfl] at he
      unfold f_X2_orderOf_152
      refine wp_ifle (fun q2 => ?_) (fun q2 => by omega)
      rw [if_neg (by decide), if_pos rfl]
      exact wp_ret ⟨rfl, by rw [← he]; exact I.2.1⟩
  refine wp_ifle (fun q => fin (Or.inl (by omega))) (fun q => ?_)
  refine wp_bd (s_size (ho _ h7)) ?_
  rintro m _ ⟨rfl, hm⟩
  rw [hz] at hm
  refine wp_ifle (fun q1 => fin (Or.inl (by omega))) (fun q1 => ?_)
  refine wp_bd (s_size (ho _ h8)) ?_
  rintro m2 _ ⟨rfl, hm2⟩
  rw [hz2] at hm2
  refine wp_ifle (fun q2 => fin (Or.inr (by omega))) (fun q2 => ?_)
  have il : i.toInt.toNat < us.length := by omega
  have ci : ((i.toInt.toNat : Nat) : Int) = i.toInt := by omega
  have jl : j.toInt.toNat < vs.length := by omega
  have cj : ((j.toInt.toNat : Nat) : Int) = j.toInt := by omega
  have Oi := uok_gt hok il
  have Oj := uok_gt hokb jl
  rw [ci] at Oi
  rw [cj] at Oj
  rw [wk_drop il, wk_drop jl, ci, cj, if_pos (hwi (by omega)), if_pos (hwj (by omega))] at he
  refine wp_bd (s_get (ho _ h7)) ?_
  rintro x _ ⟨rfl, hx⟩
  rw [hz] at hx
  refine wp_bd (s_weightOf (u := x) (r := r') hn hL hu hk (by rw [hx]; exact Oi) hr) ?_
  rintro y _ ⟨rfl, hy⟩
  rw [hx] at hy
  refine wp_bd (s_get (ho _ h8)) ?_
  rintro x2 _ ⟨rfl, hx2⟩
  rw [hz2] at hx2
  refine wp_bd (s_weightOf (u := x2) (r := r') hn hL hu hk (by rw [hx2]; exact Oj) hr) ?_
  rintro y2 _ ⟨rfl, hy2⟩
  rw [hx2] at hy2
  rw [← hy, ← hy2] at he
  rw [cmpL] at he
  have i1 : (i + 1).toInt = i.toInt + 1 := by rw [i_add (by omega), I.2.1]
  have j1 : (j + 1).toInt = j.toInt + 1 := by rw [i_add (by omega), I.2.1]
  refine wp_ifeq (fun c => ?_) (fun c => ?_)
  · rw [if_pos c] at he
    refine wp_bd (s_nextWeighing (i := i + 1) (r := r') hn hL hu hk ho h7 hz h80 hok (by omega) hr) ?_
    rintro a _ ⟨rfl, a1, a2, a3, a4⟩
    refine wp_bd (s_nextWeighing (i := j + 1) (r := r') hn hL hu hk ho h8 hz2 h80b hokb (by omega) hr) ?_
    rintro b _ ⟨rfl, b1, b2, b3, b4⟩
    rw [i1, show (i.toInt + 1).toNat = i.toInt.toNat + 1 by omega] at a3
    rw [j1, show (j.toInt + 1).toNat = j.toInt.toNat + 1 by omega] at b3
    refine wp_add (by omega) (fun z hz3 => ih (L', 703, 705, r', a, b, z, u) ⟨rfl, rfl, rfl, rfl, rfl, by dsimp only; omega, a2, by dsimp only; omega, b2, by dsimp only; omega, by dsimp only; omega, ?_, a4, b4⟩ (by dsimp only; omega))
    dsimp only
    rw [a3, b3]; exact he
  · rw [if_neg c] at he
    refine wp_ifle (fun d => wp_ret ⟨rfl, ?_⟩) (fun d => wp_ret ⟨rfl, ?_⟩)
    · rw [if_neg (by omega)] at he; rw [← he]; exact I.2.1
    · rw [if_pos (by omega)] at he; rw [← he]; exact I.2.2.1
end
/-- the forms of both, the units of a form -/
def unt (tab : Nat → Int) (n : Nat) (zs : List Int) : List Int := unz tab n zs 100 0
def bad_lt (n s t : Int) : Prop := ¬ ((0 ≤ n ∧ n ≤ 1) ∧ (0 ≤ s ∧ s ≤ 5) ∧ (0 ≤ t ∧ t ≤ 5))
def fsr0 (tab : Nat → Int) (xs : List Int) : List Int := srt tab (xls tab xs)
theorem fsp_0 {tab : Nat → Int} {xs : List Int} : fsp tab 0 xs = if (xls tab xs).length ≤ 80 then some (fsr0 tab xs) else none := by
  unfold fsp fsr0
  rw [if_neg (by decide)]
  split
  · rw [if_pos rfl]
  · rfl
theorem lang_u {w : Wd} {tab : Nat → Int} (h : trel w 1 tab) {n : Nat} (hn : n < 2) : urel w (13 + 13 * n) tab n := by
  have := h.2.1 n hn
  rwa [show 1 + 12 + 13 * n = 13 + 13 * n by omega] at this
theorem scr_fcl {o : Nat} (ho : o = 699 ∨ o = 701) {w w' : Wd} (h : oc (fcl o) w w') : oc scr w w' := oc_mono h (fun k q => by unfold fcl at q; unfold scr; omega)
theorem scr_x {w w' : Wd} {txt : Nat → List Int} (hx : ctx w txt) (h : oc scr w w') : ctx w' txt := ctx_fr hx (fun k a b => h.1 k (by unfold scr; omega))
theorem scr_rs {w w' : Wd} {o : Nat} {l : List Int} (h : rs w w' o l) (h1 : 692 ≤ o) (h2 : o + 1 < 713) : oc scr w w' := oc_rs h (by unfold scr; omega) (by unfold scr; omega)
theorem trel_s {w w' : Wd} {tab : Nat → Int} (hk : tok tab) (h : trel w 1 tab) (ho : oc scr w w') : trel w' 1 tab := trel_fr hk h (fun k _ b => ho.1 k (by unfold scr; omega))
theorem k_compare {w : Wd} {tab : Nat → Int} {txt : Nat → List Int} {n s t : Int32} (hk : tok tab) (h : trel w 1 tab) (ho : okall w) (hx : ctx w txt) (hkx : xok txt) :
    Wp (f_X10_compare n s t w) (fun r w' => okall w' ∧ trel w' 1 tab ∧ oc scr w w' ∧
      ((bad_lt n.toInt s.toInt t.toInt ∧ r = .inl 1) ∨ (¬ bad_lt n.toInt s.toInt t.toInt ∧ (fsp tab 0 (txt s.toInt.toNat) = none ∨ fsp tab 0 (txt t.toInt.toNat) = none) ∧ r = .inl 3) ∨
      (¬ bad_lt n.toInt s.toInt t.toInt ∧ ∃ (x : Int32) (a b : List Int), r = .inr x ∧ fsp tab 0 (txt s.toInt.toNat) = some a ∧ fsp tab 0 (txt t.toInt.toNat) = some b ∧ x.toInt = cmk tab n.toInt.toNat (unt tab n.toInt.toNat a) (unt tab n.toInt.toNat b)))) := by
  have I := LIT
  have l3 : (3 : Int32).toInt = 3 := by decide
  have R := row_wide
  have K3 : KD 703 = 7 ∧ LEN (703 + 1) = 80 := by decide +kernel
  have K5 : KD 705 = 7 ∧ LEN (705 + 1) = 80 := by decide +kernel
  have e0 : f_X10_checkForm (0 : Int32) = fun w => some (.inl 3, w) := rfl
  have e1 : f_X10_checkForm (1 : Int32) = fun w => some (.inr (), w) := rfl
  unfold f_X10_compare
  simp only [e_languageOf, e_textOf, bdx_c]
  refine wp_if (fun hn => ?_) (fun hn => wp_ret ⟨ho, h, oc_rf, Or.inl ⟨fun q => hn q.1, rfl⟩⟩)
  refine wp_if (fun hs => ?_) (fun hs => wp_ret ⟨ho, h, oc_rf, Or.inl ⟨fun q => hs q.2.1, rfl⟩⟩)
  refine wp_if (fun ht => ?_) (fun ht => wp_ret ⟨ho, h, oc_rf, Or.inl ⟨fun q => ht q.2.2, rfl⟩⟩)
  have nb : ¬ bad_lt n.toInt s.toInt t.toInt := fun q => q ⟨hn, hs, ht⟩
  have hsN := slot_lt hs
  have htN := slot_lt ht
  have hnN : n.toInt.toNat < 2 := by omega
  have Ks := slot_kd _ hsN
  have Kt := slot_kd _ htN
  have Ys := hkx _ hsN
  have Yt := hkx _ htN
  have hL := lang_kd n.toInt.toNat hnN
  unfold f_X10_compare_57 f_X10_compare_58
  refine wp_bd (s_splitInto hk h ho Ks.1 R.1.1 (by decide) (by omega) (by omega) (by decide) R.1.2 (hx _ hsN) Ys.2 (by omega)) ?_
  rintro r1 w1 ⟨ok1, t1, c1, h1⟩
  have C1 := scr_fcl (Or.inl rfl) c1
  rcases h1 with ⟨rfl, h1, h1b⟩ | ⟨rfl, h1⟩
  · rw [if_neg (by decide)]
    refine wp_bd (s_splitInto hk t1 ok1 Kt.1 R.2.1 (by decide) (by omega) (by omega) (by decide) R.2.2 (scr_x hx C1 _ htN) Yt.2 (by omega)) ?_
    rintro r2 w2 ⟨ok2, t2, c2, h2⟩
    have C2 := oc_tr C1 (scr_fcl (Or.inr rfl) c2)
    rcases h2 with ⟨rfl, h2, h2b⟩ | ⟨rfl, h2⟩
    · rw [if_neg (by decide), e1]
      dsimp only
      rw [bdx_r]
      have z1 : rl w2 699 = fsr0 tab (txt s.toInt.toNat) := by
        rw [rl_fr (c2.1 699 (by unfold fcl; omega)) (c2.1 700 (by unfold fcl; omega))]; exact h1b
      have z2 : rl w2 701 = fsr0 tab (txt t.toInt.toNat) := h2b
      have len1 : (fsr0 tab (txt s.toInt.toNat)).length ≤ 80 := by unfold fsr0; rw [srt_len]; exact h1
      have len2 : (fsr0 tab (txt t.toInt.toNat)).length ≤ 80 := by unfold fsr0; rw [srt_len]; exact h2
      have let1 : lets (fsr0 tab (txt s.toInt.toNat)) := srt_let (xls_let hk Ys.2)
      have let2 : lets (fsr0 tab (txt t.toInt.toNat)) := srt_let (xls_let hk Yt.2)
      refine wp_bd (s_unitsInto (n := n.toInt.toNat) hnN hL (by omega) hk (lang_u t2 hnN) ok2 R.1.1 K3.1 (by decide) (by decide) K3.2 z1 len1 let1) ?_
      rintro _ w3 p3
      have C3 := oc_tr C2 (scr_rs p3 (by decide) (by decide))
      have ok3 := okall_rs ok2 p3
      refine wp_bd (s_unitsInto (n := n.toInt.toNat) (zs := fsr0 tab (txt t.toInt.toNat)) hnN hL (by omega) hk (lang_u (trel_s hk h C3) hnN) ok3 R.2.1 K5.1 (by decide) (by decide) K5.2 (by rw [rs_rl p3 R.2.1 (by decide)]; exact z2) len2 let2) ?_
      rintro _ w4 p4
      have C4 := oc_tr C3 (scr_rs p4 (by decide) (by decide))
      have ok4 := okall_rs ok3 p4
      have t4 := trel_s hk h C4
      have u1 : rl w4 703 = unt tab n.toInt.toNat (fsr0 tab (txt s.toInt.toNat)) := by rw [rs_rl p4 K3.1 (by decide)]; exact rs_l p3
      have u2 : rl w4 705 = unt tab n.toInt.toNat (fsr0 tab (txt t.toInt.toNat)) := rs_l p4
      have ul1 := unz_len (tab := tab) (n := n.toInt.toNat) (zs := fsr0 tab (txt s.toInt.toNat)) 100 0
      have ul2 := unz_len (tab := tab) (n := n.toInt.toNat) (zs := fsr0 tab (txt t.toInt.toNat)) 100 0
      have uo1 : uok tab n.toInt.toNat (unt tab n.toInt.toNat (fsr0 tab (txt s.toInt.toNat))) := unz_ok hk hnN let1 100 0
      have uo2 : uok tab n.toInt.toNat (unt tab n.toInt.toNat (fsr0 tab (txt t.toInt.toNat))) := unz_ok hk hnN let2 100 0
      have f1 : fsp tab 0 (txt s.toInt.toNat) = some (fsr0 tab (txt s.toInt.toNat)) := by rw [fsp_0, if_pos h1]
      have f2 : fsp tab 0 (txt t.toInt.toNat) = some (fsr0 tab (txt t.toInt.toNat)) := by rw [fsp_0, if_pos h2]
      generalize fsr0 tab (txt s.toInt.toNat) = a at u1 ul1 uo1 f1 len1
      generalize fsr0 tab (txt t.toInt.toNat) = b at u2 ul2 uo2 f2 len2
      have fin : ∀ x : Int32, x.toInt = cmk tab n.toInt.toNat (unt tab n.toInt.toNat a) (unt tab n.toInt.toNat b) → Wp (some ((Sum.inr x : Nat ⊕ Int32), w4)) (fun r w' => okall w' ∧ trel w' 1 tab ∧ oc scr w w' ∧
        ((bad_lt n.toInt s.toInt t.toInt ∧ r = .inl 1) ∨ (¬ bad_lt n.toInt s.toInt t.toInt ∧ (fsp tab 0 (txt s.toInt.toNat) = none ∨ fsp tab 0 (txt t.toInt.toNat) = none) ∧ r = .inl 3) ∨
        (¬ bad_lt n.toInt s.toInt t.toInt ∧ ∃ (x : Int32) (a b : List Int), r = .inr x ∧ fsp tab 0 (txt s.toInt.toNat) = some a ∧ fsp tab 0 (txt t.toInt.toNat) = some b ∧ x.toInt = cmk tab n.toInt.toNat (unt tab n.toInt.toNat a) (unt tab n.toInt.toNat b)))) :=
        fun x hx2 => wp_ret ⟨ok4, t4, C4, Or.inr (Or.inr ⟨nb, x, a, b, rfl, f1, f2, hx2⟩)⟩
      unfold f_X10_compare_93
      rw [FUv]
      refine wp_loop (fun σ : Nat × Int32 × Int32 × Wd => σ.1 = 13 + 13 * n.toInt.toNat ∧ σ.2.2.2 = w4 ∧ 0 ≤ σ.2.2.1.toInt ∧ σ.2.2.1.toInt ≤ 3 ∧ σ.2.1.toInt = (if σ.2.2.1.toInt = 0 then 0 else cmr tab n.toInt.toNat (unt tab n.toInt.toNat a) (unt tab n.toInt.toNat b) (σ.2.2.1.toInt.toNat - 1)) ∧ ∀ q : Nat, (q : Int) + 1 < σ.2.2.1.toInt → cmr tab n.toInt.toNat (unt tab n.toInt.toNat a) (unt tab n.toInt.toNat b) q = 0)
        (fun σ => (4 - σ.2.2.1.toInt).toNat) ?_ 100000 _ ⟨rfl, rfl, by dsimp only; omega, by dsimp only; omega, by dsimp only; rw [if_pos I.1]; exact I.1, fun q hq => by dsimp only at hq; omega⟩ (by dsimp only; omega)
      rintro rc ⟨L', x, r, u⟩ ⟨rfl, rfl, hr0, hr1, hv, hq⟩ ih
      dsimp only at *
      unfold g_X10_compare_93
      refine wp_ifle (fun c => fin x ?_) (fun c => wp_ifeq (fun d => ?_) (fun d => fin x ?_))
      · have q0 := hq 0 (by omega)
        have q1 := hq 1 (by omega)
        rw [if_neg (by omega), show r.toInt.toNat - 1 = 2 by omega] at hv
        unfold cmk
        rw [if_pos q0, if_pos q1]; exact hv
      · refine wp_bd (s_orderOf (r := r) hnN hL (lang_u t4 hnN) hk ok4 u1 u2 (by unfold unt; omega) (by unfold unt; omega) uo1 uo2 (by omega)) ?_
        rintro y _ ⟨rfl, hy⟩
        refine wp_add (by omega) (fun z hz => ih (13 + 13 * n.toInt.toNat, y, z, u) ⟨rfl, rfl, by dsimp only; omega, by dsimp only; omega, ?_, fun q hq2 => ?_⟩ (by dsimp only; omega))
        · dsimp only
          rw [if_neg (by omega), show z.toInt.toNat - 1 = r.toInt.toNat by omega]; exact hy
        · dsimp only at hq2
          by_cases e : (q : Int) + 1 = r.toInt
          · rw [if_neg (by omega), show r.toInt.toNat - 1 = q by omega] at hv
            omega
          · exact hq q (by omega)
      · by_cases e : r.toInt = 0
        · rw [if_pos e] at hv; omega
        · rw [if_neg e] at hv
          unfold cmk
          by_cases e1 : r.toInt = 1
          · rw [show r.toInt.toNat - 1 = 0 by omega] at hv
            rw [if_neg (by omega)]; exact hv
          · have q0 := hq 0 (by omega)
            rw [show r.toInt.toNat - 1 = 1 by omega] at hv
            rw [if_pos q0, if_neg (by omega)]; exact hv
    · rw [if_pos rfl, e0]
      dsimp only
      rw [bdx_l]
      exact wp_ret ⟨ok2, t2, C2, Or.inr (Or.inl ⟨nb, Or.inr (by rw [fsp_0, if_neg (by omega)]), rfl⟩)⟩
  · rw [if_pos rfl, e0]
    dsimp only
    rw [bdx_l]
    exact wp_ret ⟨ok1, t1, C1, Or.inr (Or.inl ⟨nb, Or.inl (by rw [fsp_0, if_neg (by omega)]), rfl⟩)⟩
def bad_l1 (n s : Int) : Prop := ¬ ((0 ≤ n ∧ n ≤ 1) ∧ (0 ≤ s ∧ s ≤ 5))
/-- what key answers: 1 no such place, 3 no form, else the number -/
def keyA (ks : List Int) (p : Int) (bad : Prop) (x : Int) : Prop := (bad ∧ ¬ (-1 ≤ p ∧ p ≤ (ks.length : Int) - 1)) ∨ (¬ bad ∧ -1 ≤ p ∧ p ≤ (ks.length : Int) - 1 ∧ x = if p = -1 then (ks.length : Int) else gt ks p)
theorem k_key {w : Wd} {tab : Nat → Int} {txt : Nat → List Int} {n s p : Int32} (hk : tok tab) (h : trel w 1 tab) (ho : okall w) (hx : ctx w txt) (hkx : xok txt) :
    Wp (f_X10_key n s p w) (fun r w' => okall w' ∧ trel w' 1 tab ∧ oc scr w w' ∧
      ((bad_l1 n.toInt s.toInt ∧ r = .inl 1) ∨ (¬ bad_l1 n.toInt s.toInt ∧ fsp tab 0 (txt s.toInt.toNat) = none ∧ r = .inl 3) ∨
      (¬ bad_l1 n.toInt s.toInt ∧ ∃ a : List Int, fsp tab 0 (txt s.toInt.toNat) = some a ∧ ((¬ (-1 ≤ p.toInt ∧ p.toInt ≤ ((keyOf tab n.toInt.toNat (unt tab n.toInt.toNat a)).length : Int) - 1) ∧ r = .inl 1) ∨
        ((-1 ≤ p.toInt ∧ p.toInt ≤ ((keyOf tab n.toInt.toNat (unt tab n.toInt.toNat a)).length : Int) - 1) ∧ ∃ x : Int32, r = .inr x ∧ x.toInt = if p.toInt = -1 then ((keyOf tab n.toInt.toNat (unt tab n.toInt.toNat a)).length : Int) else gt (keyOf tab n.toInt.toNat (unt tab n.toInt.toNat a)) p.toInt))))) := by
  have I := LIT
  have R := row_wide
  have K3 : KD 703 = 7 ∧ LEN (703 + 1) = 80 := by decide +kernel
  have K7 : KD 707 = 7 := by decide +kernel
  have e0 : f_X10_checkForm (0 : Int32) = fun w => some (.inl 3, w) := rfl
  have e1 : f_X10_checkForm (1 : Int32) = fun w => some (.inr (), w) := rfl
  unfold f_X10_key
  simp only [e_languageOf, e_textOf, bdx_c]
  refine wp_if (fun hn => ?_) (fun hn => wp_ret ⟨ho, h, oc_rf, Or.inl ⟨fun q => hn q.1, rfl⟩⟩)
  refine wp_if (fun hs => ?_) (fun hs => wp_ret ⟨ho, h, oc_rf, Or.inl ⟨fun q => hs q.2, rfl⟩⟩)
  have nb : ¬ bad_l1 n.toInt s.toInt := fun q => q ⟨hn, hs⟩
  have hsN := slot_lt hs
  have hnN : n.toInt.toNat < 2 := by omega
  have Ks := slot_kd _ hsN
  have Ys := hkx _ hsN
  have hL := lang_kd n.toInt.toNat hnN
  refine wp_bd (s_splitInto hk h ho Ks.1 R.1.1 (by decide) (by omega) (by omega) (by decide) R.1.2 (hx _ hsN) Ys.2 (by omega)) ?_
  rintro r1 w1 ⟨ok1, t1, c1, h1⟩
  have C1 := scr_fcl (Or.inl rfl) c1
  rcases h1 with ⟨rfl, h1, h1b⟩ | ⟨rfl, h1⟩
  · rw [e1]
    dsimp only
    rw [bdx_r]
    have len1 : (fsr0 tab (txt s.toInt.toNat)).length ≤ 80 := by unfold fsr0; rw [srt_len]; exact h1
    have let1 : lets (fsr0 tab (txt s.toInt.toNat)) := srt_let (xls_let hk Ys.2)
    have f1 : fsp tab 0 (txt s.toInt.toNat) = some (fsr0 tab (txt s.toInt.toNat)) := by rw [fsp_0, if_pos h1]
    refine wp_bd (s_unitsInto (n := n.toInt.toNat) (zs := fsr0 tab (txt s.toInt.toNat)) hnN hL (by omega) hk (lang_u t1 hnN) ok1 R.1.1 K3.1 (by decide) (by decide) K3.2 h1b len1 let1) ?_
    rintro _ w3 p3
    have C3 := oc_tr C1 (scr_rs p3 (by decide) (by decide))
    have ok3 := okall_rs ok1 p3
    have ul1 := unz_len (tab := tab) (n := n.toInt.toNat) (zs := fsr0 tab (txt s.toInt.toNat)) 100 0
    have uo1 : uok tab n.toInt.toNat (unt tab n.toInt.toNat (fsr0 tab (txt s.toInt.toNat))) := unz_ok hk hnN let1 100 0
    have u1 : rl w3 703 = unt tab n.toInt.toNat (fsr0 tab (txt s.toInt.toNat)) := rs_l p3
    generalize fsr0 tab (txt s.toInt.toNat) = a at u1 ul1 uo1 f1 len1
    refine wp_bd (s_keyInto (n := n.toInt.toNat) hnN hL (by omega) hk (lang_u (trel_s hk h C3) hnN) ok3 u1 (by unfold unt; omega) uo1) ?_
    rintro _ w4 p4
    have C4 := oc_tr C3 (scr_rs p4 (by decide) (by decide))
    have ok4 := okall_rs ok3 p4
    have t4 := trel_s hk h C4
    have kl : (keyOf tab n.toInt.toNat (unt tab n.toInt.toNat a)).length ≤ 242 := by
      have := rl_le (ok4 707 K7)
      rw [rs_l p4, show LEN (707 + 1) = 242 by decide +kernel] at this; exact this
    refine wp_ifeq (fun c => ?_) (fun c => ?_)
    · refine wp_bd (s_size (ok4 _ K7)) ?_
      rintro x _ ⟨rfl, hx2⟩
      rw [rs_l p4] at hx2
      refine wp_ret ⟨ok4, t4, C4, Or.inr (Or.inr ⟨nb, a, f1, Or.inr ⟨by omega, x, rfl, ?_⟩⟩)⟩
      rw [if_pos (by omega)]; exact hx2
    · refine wp_bd (s_size (ok4 _ K7)) ?_
      rintro x _ ⟨rfl, hx2⟩
      rw [rs_l p4] at hx2
      simp only [e_checkPlace, bdx_c]
      refine wp_if (fun d => ?_) (fun d => wp_ret ⟨ok4, t4, C4, Or.inr (Or.inr ⟨nb, a, f1, Or.inl ⟨fun q => d (by omega), rfl⟩⟩)⟩)
      refine wp_bd (s_get (ok4 _ K7)) ?_
      rintro y _ ⟨rfl, hy⟩
      rw [rs_l p4] at hy
      refine wp_ret ⟨ok4, t4, C4, Or.inr (Or.inr ⟨nb, a, f1, Or.inr ⟨by omega, y, rfl, ?_⟩⟩)⟩
      rw [if_neg (by omega)]; exact hy
  · rw [e0]
    dsimp only
    rw [bdx_l]
    exact wp_ret ⟨ok1, t1, C1, Or.inr (Or.inl ⟨nb, by rw [fsp_0, if_neg (by omega)], rfl⟩)⟩

