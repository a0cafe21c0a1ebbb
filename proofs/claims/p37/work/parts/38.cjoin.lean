/-! ===== joined forms ===== -/
/-- the last letter of the class 0 with nothing in the way behind it, among the first n -/
def sf (tab : Nat → Int) (j : Int) (A : List Int) : Nat → Int
  | 0 => -1
  | n + 1 => if jo tab (gt A n) = 0 then n else if jo tab (gt A n) < j then sf tab j A n else -1
theorem sf_rng (tab : Nat → Int) (j : Int) (A : List Int) : ∀ n, sf tab j A n = -1 ∨ (0 ≤ sf tab j A n ∧ sf tab j A n < n) := by
  intro n
  induction n with
  | zero => exact Or.inl rfl
  | succ n ih =>
    simp only [sf]
    by_cases c : jo tab (gt A n) = 0
    · rw [if_pos c]; exact Or.inr (by omega)
    · rw [if_neg c]
      by_cases d : jo tab (gt A n) < j
      · rw [if_pos d]; omega
      · rw [if_neg d]; exact Or.inl rfl
theorem sf_cg {tab : Nat → Int} {j : Int} {A B : List Int} : ∀ n, (∀ k : Nat, k < n → gt A k = gt B k) → sf tab j A n = sf tab j B n := by
  intro n
  induction n with
  | zero => intro _; rfl
  | succ n ih =>
    intro h
    simp only [sf]
    rw [h n (by omega), ih (fun k hk => h k (by omega))]
/-- the lowest letter from 96 - n on that splits into two -/
def jfd (tab : Nat → Int) (a b : Int) : Nat → Int
  | 0 => -1
  | n + 1 => if s1 tab ((95 - n : Nat) : Int) = a ∧ s2 tab ((95 - n : Nat) : Int) = b then ((95 - n : Nat) : Int) else jfd tab a b n
theorem jfd_rng (tab : Nat → Int) (a b : Int) : ∀ n, -1 ≤ jfd tab a b n ∧ jfd tab a b n ≤ 95 := by
  intro n
  induction n with
  | zero => simp only [jfd]; omega
  | succ n ih =>
    simp only [jfd]
    by_cases c : s1 tab ((95 - n : Nat) : Int) = a ∧ s2 tab ((95 - n : Nat) : Int) = b
    · rw [if_pos c]; omega
    · rw [if_neg c]; exact ih
def jstep (tab : Nat → Int) (A : List Int) (x : Int) : List Int :=
  if sf tab (jo tab x) A A.length = -1 then A ++ [x]
  else if jfd tab (gt A (sf tab (jo tab x) A A.length)) x 96 = -1 then A ++ [x]
  else A.set (sf tab (jo tab x) A A.length).toNat (jfd tab (gt A (sf tab (jo tab x) A A.length)) x 96)
def jnd (tab : Nat → Int) (xs : List Int) : List Int := xs.foldl (jstep tab) []
theorem jnd_snoc (tab : Nat → Int) (xs : List Int) (x : Int) : jnd tab (xs ++ [x]) = jstep tab (jnd tab xs) x := by
  unfold jnd; rw [List.foldl_append]; rfl
theorem jstep_len (tab : Nat → Int) (A : List Int) (x : Int) : (jstep tab A x).length ≤ A.length + 1 ∧ A.length ≤ (jstep tab A x).length := by
  unfold jstep
  by_cases c : sf tab (jo tab x) A A.length = -1
  · rw [if_pos c, List.length_append, List.length_singleton]; omega
  · rw [if_neg c]
    by_cases d : jfd tab (gt A (sf tab (jo tab x) A A.length)) x 96 = -1
    · rw [if_pos d, List.length_append, List.length_singleton]; omega
    · rw [if_neg d, List.length_set]; omega
theorem jnd_len (tab : Nat → Int) (xs : List Int) : ∀ n, n ≤ xs.length → (jnd tab (xs.take n)).length ≤ n ∧ (1 ≤ n → 1 ≤ (jnd tab (xs.take n)).length) := by
  intro n
  induction n with
  | zero => intro _; exact ⟨Nat.le_refl _, fun h => absurd h (by decide)⟩
  | succ n ih =>
    intro h
    rw [take_succ_gt (by omega), jnd_snoc]
    have h1 := ih (by omega)
    have h2 := jstep_len tab (jnd tab (xs.take n)) (gt xs n)
    refine ⟨by omega, fun _ => ?_⟩
    by_cases e : n = 0
    · subst e
      show 1 ≤ (jstep tab [] (gt xs 0)).length
      unfold jstep
      rw [if_pos (by rfl)]
      exact Nat.le_refl 1
    · omega
theorem lets_set {A : List Int} {i : Nat} {x : Int} (h : lets A) (hx : 0 ≤ x ∧ x ≤ 95) : lets (A.set i x) := by
  intro y hy
  rcases List.mem_or_eq_of_mem_set hy with q | q
  · exact h y q
  · rw [q]; exact hx
theorem jstep_let {tab : Nat → Int} {A : List Int} {x : Int} (h : lets A) (hx : 0 ≤ x ∧ x ≤ 95) : lets (jstep tab A x) := by
  unfold jstep
  by_cases c : sf tab (jo tab x) A A.length = -1
  · rw [if_pos c]; exact lets_app.mpr ⟨h, lets_cons.mpr ⟨hx, lets_nil⟩⟩
  · rw [if_neg c]
    by_cases d : jfd tab (gt A (sf tab (jo tab x) A A.length)) x 96 = -1
    · rw [if_pos d]; exact lets_app.mpr ⟨h, lets_cons.mpr ⟨hx, lets_nil⟩⟩
    · rw [if_neg d]
      have := jfd_rng tab (gt A (sf tab (jo tab x) A A.length)) x 96
      exact lets_set h (by omega)
theorem jnd_let {tab : Nat → Int} {xs : List Int} (h : lets xs) : lets (jnd tab xs) := by
  have : ∀ (ys A : List Int), lets ys → lets A → lets (ys.foldl (jstep tab) A) := by
    intro ys
    induction ys with
    | nil => intro A _ h2; exact h2
    | cons y ys ih =>
      intro A h1 h2
      rw [List.foldl_cons]
      have q := lets_cons.mp h1
      exact ih _ q.2 (jstep_let h2 q.1)
  exact this xs [] h lets_nil
theorem s_joinedOf {w : Wd} {tab : Nat → Int} {a b : Int32} (h : trel w 1 tab) : Wp (f_X9_joinedOf 1 a b w) (fun r w' => w = w' ∧ r.toInt = jfd tab a.toInt b.toInt 96) := by
  have L := LIT
  unfold f_X9_joinedOf f_X9_joinedOf_2
  refine wp_loop (fun (σ : Nat × Int32 × Int32 × Int32 × Wd) => σ.1 = 1 ∧ σ.2.1 = a ∧ σ.2.2.1 = b ∧ σ.2.2.2.2 = w ∧ 0 ≤ σ.2.2.2.1.toInt ∧ σ.2.2.2.1.toInt ≤ 96 ∧ jfd tab a.toInt b.toInt (96 - σ.2.2.2.1.toInt.toNat) = jfd tab a.toInt b.toInt 96) (fun (σ : Nat × Int32 × Int32 × Int32 × Wd) => 96 - σ.2.2.2.1.toInt.toNat) ?_ FU _
    ⟨rfl, rfl, rfl, rfl, by dsimp only; omega, by dsimp only; omega, by dsimp only; rw [L.1]; rfl⟩ (by rw [FUv]; dsimp only; omega)
  rintro rc ⟨t, a', b', k, u⟩ ⟨e1, e2, e3, e4, hk0, hk1, hj⟩ ih
  dsimp only at e1 e2 e3 e4 hk0 hk1 hj
  subst e1; subst e2; subst e3; subst e4
  show Wp (g_X9_joinedOf_2 rc 1 a' b' k u) _
  unfold g_X9_joinedOf_2
  refine wp_ifle (fun q => wp_ret ⟨rfl, ?_⟩) (fun q => ?_)
  · rw [← hj, show 96 - k.toInt.toNat = 0 by omega, L.2.2.1]; rfl
  · rw [show 96 - k.toInt.toNat = (95 - k.toInt.toNat) + 1 by omega] at hj
    simp only [jfd] at hj
    rw [show 95 - (95 - k.toInt.toNat) = k.toInt.toNat by omega, show ((k.toInt.toNat : Nat) : Int) = k.toInt by omega] at hj
    have next : ¬ (s1 tab k.toInt = a'.toInt ∧ s2 tab k.toInt = b'.toInt) → Wp (lt (k + 1) fun x6 => rc (1, a', b', x6, u)) (fun r w' => u = w' ∧ r.toInt = jfd tab a'.toInt b'.toInt 96) := by
      intro hn
      rw [if_neg hn] at hj
      refine wp_add (by omega) (fun z hz => ?_)
      refine ih (1, a', b', z, u) ⟨rfl, rfl, rfl, rfl, by dsimp only; omega, by dsimp only; omega, ?_⟩ (by dsimp only; omega)
      dsimp only
      rw [show 96 - z.toInt.toNat = 95 - k.toInt.toNat by omega]
      exact hj
    refine wp_bd (s_splitOneOf kd1 hk0 (by omega) h) ?_
    rintro x _ ⟨rfl, hx⟩
    have hx' : x.toInt = s1 tab k.toInt := hx
    refine wp_ifeq (fun q1 => ?_) (fun q1 => next (fun c => q1 (by omega)))
    refine wp_bd (s_splitOtherOf kd1 hk0 (by omega) h) ?_
    rintro y _ ⟨rfl, hy⟩
    have hy' : y.toInt = s2 tab k.toInt := hy
    refine wp_ifeq (fun q2 => wp_ret ⟨rfl, ?_⟩) (fun q2 => next (fun c => q2 (by omega)))
    rw [if_pos ⟨by omega, by omega⟩] at hj
    exact hj
theorem s_startFor {w : Wd} {tab : Nat → Int} {row : Nat} {m j : Int32} {xs : List Int} (hk : tok tab) (h : trel w 1 tab) (ho : okall w) (hi : KD row = 7) (hx : rl w row = xs) (hl : lets xs) (hm : 0 ≤ m.toInt ∧ m.toInt ≤ xs.length) :
    Wp (f_X1_startFor row m j w) (fun r w' => w = w' ∧ r.toInt = sf tab j.toInt xs m.toInt.toNat) := by
  have L := LIT
  have hb := okr_len (ho _ hi)
  have hle := rl_le (ho _ hi)
  rw [hx] at hle
  unfold f_X1_startFor
  refine wp_sub (by omega) (fun m1 hm1 => ?_)
  unfold f_X1_startFor_5
  refine wp_loop (fun (σ : Nat × Int32 × Int32 × Wd) => σ.1 = row ∧ σ.2.1 = j ∧ σ.2.2.2 = w ∧ -1 ≤ σ.2.2.1.toInt ∧ σ.2.2.1.toInt < xs.length ∧ sf tab j.toInt xs (σ.2.2.1.toInt + 1).toNat = sf tab j.toInt xs m.toInt.toNat) (fun (σ : Nat × Int32 × Int32 × Wd) => (σ.2.2.1.toInt + 1).toNat) ?_ FU _
    ⟨rfl, rfl, rfl, by dsimp only; omega, by dsimp only; omega, by dsimp only; rw [show (m1.toInt + 1).toNat = m.toInt.toNat by omega]⟩ (by rw [FUv]; dsimp only; omega)
  rintro rc ⟨r, j', i, u⟩ ⟨e1, e2, e3, h0, h1, hs⟩ ih
  dsimp only at e1 e2 e3 h0 h1 hs
  subst e1; subst e2; subst e3
  show Wp (g_X1_startFor_5 rc r j' i u) _
  unfold g_X1_startFor_5
  refine wp_iflt (fun q => wp_ret ⟨rfl, ?_⟩) (fun q => ?_)
  · rw [← hs, show (i.toInt + 1).toNat = 0 by omega, L.2.2.1]; rfl
  · rw [show (i.toInt + 1).toNat = i.toInt.toNat + 1 by omega] at hs
    simp only [sf] at hs
    refine wp_bd (s_get (ho _ hi)) ?_
    rintro a _ ⟨rfl, ha⟩
    rw [hx, show i.toInt = ((i.toInt.toNat : Nat) : Int) by omega] at ha
    have la := lets_gt hl (k := ((i.toInt.toNat : Nat) : Int)) (by omega) (by omega)
    rw [← ha] at la hs
    refine wp_bd (s_joinsOf kd1 la.1 (by omega) h) ?_
    rintro ja _ ⟨rfl, hja⟩
    have hja' : ja.toInt = jo tab a.toInt := hja
    refine wp_ifeq (fun q1 => wp_ret ⟨rfl, ?_⟩) (fun q1 => wp_iflt (fun q2 => ?_) (fun q2 => wp_ret ⟨rfl, ?_⟩))
    · rw [if_pos (by omega)] at hs; omega
    · rw [if_neg (by omega), if_pos (by omega)] at hs
      refine wp_add (by omega) (fun z hz => ?_)
      refine ih (r, j', z, u) ⟨rfl, rfl, rfl, by dsimp only; omega, by dsimp only; omega, ?_⟩ (by dsimp only; omega)
      dsimp only
      rw [show (z.toInt + 1).toNat = i.toInt.toNat by omega]; exact hs
    · rw [if_neg (by omega), if_neg (by omega)] at hs
      rw [← hs]; exact L.2.2.1
theorem set_take {A : List Int} {m : Nat} {x : Int} (h : m < A.length) : (A.set m x).take (m + 1) = A.take m ++ [x] := by
  rw [take_succ_gt (by rw [List.length_set]; exact h), gt_setn h, if_pos rfl]
  congr 1
  exact List.take_set_of_le (Nat.le_refl m)
/-- the class joins what was split -/
theorem s_joinTail {w : Wd} {tab : Nat → Int} {into : Nat} {zs : List Int} {x : Int32} (hk : tok tab) (h : trel w 1 tab) (ho : okall w) (hi : KD into = 7) (h125 : 125 ≤ into) (hz : rl w into = zs) (hl : lets zs) (hx : x.toInt = if 1 ≤ zs.length then 1 else 0) :
    Wp (f_X1_joinInto_24 into x w) (fun r w' => r = 1 ∧ rs w w' into (jnd tab zs)) := by
  have L := LIT
  have hb := okr_len (ho _ hi)
  have hle := rl_le (ho _ hi)
  rw [hz] at hle
  unfold f_X1_joinInto_24 f_X1_joinInto_28
  refine wp_loop (fun (σ : Nat × Int32 × Int32 × Wd) => σ.1 = into ∧ 1 ≤ σ.2.2.1.toInt ∧ (σ.2.2.1.toInt ≤ zs.length ∨ σ.2.2.1.toInt = 1) ∧ σ.2.1.toInt = (jnd tab (zs.take σ.2.2.1.toInt.toNat)).length ∧ ∃ l2, rs w σ.2.2.2 into l2 ∧ l2.length = zs.length ∧ lets l2 ∧ l2.take σ.2.1.toInt.toNat = jnd tab (zs.take σ.2.2.1.toInt.toNat) ∧ l2.drop σ.2.2.1.toInt.toNat = zs.drop σ.2.2.1.toInt.toNat) (fun (σ : Nat × Int32 × Int32 × Wd) => zs.length + 1 - σ.2.2.1.toInt.toNat) ?_ FU _
    ⟨rfl, by dsimp only; omega, by dsimp only; omega, ?_, zs, by dsimp only; rw [← hz]; exact rs_rf (ho _ hi), rfl, hl, ?_, rfl⟩ (by rw [FUv]; dsimp only; omega)
  · rintro rc ⟨r, m, i, u⟩ ⟨e1, hi0, hi1, hm, l2, hr, hlen, hl2, htk, hdr⟩ ih
    dsimp only at e1 hi0 hi1 hm hr htk hdr
    subst e1
    show Wp (g_X1_joinInto_28 rc r m i u) _
    unfold g_X1_joinInto_28
    have oku := okall_rs ho hr
    have tu := trel_rs hk h hr h125
    refine wp_bd (s_size (oku _ hi)) ?_
    rintro n _ ⟨rfl, hn⟩
    rw [rs_l hr, hlen] at hn
    refine wp_ifle (fun q => ?_) (fun q => ?_)
    · rw [List.take_of_length_le (show zs.length ≤ i.toInt.toNat by omega)] at htk hm
      refine wp_bd (s_cutTo (oku _ hi) (by omega)) ?_
      rintro _ w3 h3
      rw [rs_l hr, htk] at h3
      exact wp_ret ⟨rfl, rs_tr hr h3⟩
    · have hil : i.toInt.toNat < zs.length := by omega
      have jl := jnd_len tab zs i.toInt.toNat (by omega)
      generalize hA : jnd tab (zs.take i.toInt.toNat) = A at *
      refine wp_bd (s_get (oku _ hi)) ?_
      rintro y _ ⟨rfl, hy⟩
      have gy : gt l2 (i.toInt.toNat : Nat) = gt zs (i.toInt.toNat : Nat) := by
        have e1 : gt (l2.drop i.toInt.toNat) (0 : Nat) = gt (zs.drop i.toInt.toNat) (0 : Nat) := by rw [hdr]
        rwa [gt_drop, gt_drop, Nat.add_zero] at e1
      rw [rs_l hr, show i.toInt = ((i.toInt.toNat : Nat) : Int) by omega, gy] at hy
      have ly := lets_gt hl (k := ((i.toInt.toNat : Nat) : Int)) (by omega) (by omega)
      rw [← hy] at ly
      have nxt : jnd tab (zs.take (i.toInt.toNat + 1)) = jstep tab A y.toInt := by rw [take_succ_gt hil, jnd_snoc, hA, hy]
      refine wp_bd (s_joinsOf kd1 ly.1 (by omega) tu) ?_
      rintro j _ ⟨rfl, hj⟩
      have hj' : j.toInt = jo tab y.toInt := hj
      have gA : ∀ k : Nat, k < A.length → gt l2 k = gt A k := fun k hk => by rw [← htk, gt_take (by omega)]
      refine wp_bd (s_startFor (tab := tab) hk tu oku hi (rs_l hr) hl2 (by omega)) ?_
      rintro s _ ⟨rfl, hs⟩
      have hs' : s.toInt = sf tab (jo tab y.toInt) A A.length := by
        rw [hs, hj', show m.toInt.toNat = A.length by omega]
        exact sf_cg _ (fun k hk => gA k hk)
      have sr := sf_rng tab (jo tab y.toInt) A A.length
      rw [← hs'] at sr
      -- nothing joins
      have keep : jstep tab A y.toInt = A ++ [y.toInt] → Wp (bd (f_X7_set r m y u) fun _ w3 => lt (m + 1) fun x4 => lt (i + 1) fun x5 => rc (r, x4, x5, w3)) (fun r' w' => r' = 1 ∧ rs w w' r (jnd tab zs)) := by
        intro he
        refine wp_bd (s_set_in (oku _ hi) (by omega)) ?_
        rintro _ w3 h3
        rw [rs_l hr] at h3
        refine wp_add (by omega) (fun m2 hm2 => wp_add (by omega) (fun i2 hi2 => ?_))
        refine ih (r, m2, i2, w3) ⟨rfl, by dsimp only; omega, by dsimp only; omega, ?_, _, rs_tr hr h3, by rw [List.length_set]; exact hlen, lets_set hl2 ly, ?_, ?_⟩ (by dsimp only; omega)
        · dsimp only
          rw [show i2.toInt.toNat = i.toInt.toNat + 1 by omega, nxt, he, List.length_append, List.length_singleton]; omega
        · dsimp only
          rw [show i2.toInt.toNat = i.toInt.toNat + 1 by omega, nxt, he, show m2.toInt.toNat = m.toInt.toNat + 1 by omega, set_take (by omega), htk]
        · dsimp only
          rw [show i2.toInt.toNat = i.toInt.toNat + 1 by omega, List.drop_set_of_lt (by omega)]
          have : (l2.drop i.toInt.toNat).drop 1 = (zs.drop i.toInt.toNat).drop 1 := by rw [hdr]
          rwa [List.drop_drop, List.drop_drop] at this
      refine wp_ifeq (fun q1 => ?_) (fun q1 => ?_)
      · unfold f_X1_joinInto_87
        rw [if_pos rfl]
        refine keep ?_
        unfold jstep
        rw [if_pos (by omega)]
      · refine wp_bd (s_get (oku _ hi)) ?_
        rintro a _ ⟨rfl, ha⟩
        rw [rs_l hr, show s.toInt = ((s.toInt.toNat : Nat) : Int) by omega, gA _ (by omega)] at ha
        refine wp_bd (s_joinedOf tu) ?_
        rintro c _ ⟨rfl, hc⟩
        unfold f_X1_joinInto_87
        have hc' : c.toInt = jfd tab (gt A (sf tab (jo tab y.toInt) A A.length)) y.toInt 96 := by
          rw [hc, ha, ← hs']
          congr 2
          omega
        refine wp_ifeq (fun q2 => ?_) (fun q2 => ?_)
        · refine keep ?_
          unfold jstep
          rw [if_neg (by omega), if_pos (by omega)]
        · have he : jstep tab A y.toInt = A.set s.toInt.toNat c.toInt := by
            unfold jstep
            rw [if_neg (by omega), if_neg (by omega), ← hc', ← hs']
          have cr := jfd_rng tab (gt A (sf tab (jo tab y.toInt) A A.length)) y.toInt 96
          refine wp_bd (s_set_in (oku _ hi) (by omega)) ?_
          rintro _ w3 h3
          rw [rs_l hr] at h3
          refine wp_add (by omega) (fun i2 hi2 => ?_)
          refine ih (r, m, i2, w3) ⟨rfl, by dsimp only; omega, by dsimp only; omega, ?_, _, rs_tr hr h3, by rw [List.length_set]; exact hlen, lets_set hl2 (by omega), ?_, ?_⟩ (by dsimp only; omega)
          · dsimp only
            rw [show i2.toInt.toNat = i.toInt.toNat + 1 by omega, nxt, he, List.length_set]; omega
          · dsimp only
            rw [show i2.toInt.toNat = i.toInt.toNat + 1 by omega, nxt, he, List.take_set, htk]
          · dsimp only
            rw [show i2.toInt.toNat = i.toInt.toNat + 1 by omega, List.drop_set_of_lt (by omega)]
            have : (l2.drop i.toInt.toNat).drop 1 = (zs.drop i.toInt.toNat).drop 1 := by rw [hdr]
            rwa [List.drop_drop, List.drop_drop] at this
  · dsimp only
    rw [L.2.1, hx]
    cases zs with
    | nil => rfl
    | cons a t => rfl
  · dsimp only
    rw [L.2.1, hx]
    cases zs with
    | nil => rfl
    | cons a t => rfl

