/-! ===== message: numbers, keys (class and reference) ===== -/
def bo (b : Bool) : Int32 := if b = true then 1 else 0
def dU (j : Nat) : Int32 := if j = 0 then 0 else if j = 1 then 1 else if j = 2 then 10 else if j = 3 then 100 else if j = 4 then 1000 else if j = 5 then 10000 else 100000
theorem dU_div : ∀ j, j < 6 → dU (j + 1) / (10 : Int32) = dU j := by decide
theorem dU_mul : ∀ j, j < 5 → dU (j + 1) * (10 : Int32) = dU (j + 2) := by decide
theorem dU_i : ∀ j, j < 6 → (dU (j + 1)).toInt = 10 ^ j := by decide
theorem P10 : (10 : Int) ^ 0 = 1 ∧ (10 : Int) ^ 1 = 10 ∧ (10 : Int) ^ 2 = 100 ∧ (10 : Int) ^ 3 = 1000 ∧ (10 : Int) ^ 4 = 10000 ∧ (10 : Int) ^ 5 = 100000 ∧ (10 : Int) ^ 6 = 1000000 := by decide
theorem dg_step {n : Int} (h0 : 0 ≤ n) : ∀ j, j < 6 → n < 10 ^ (j + 1) → (n / 10 ^ j % 10 = 0 → j ≠ 0 → n < 10 ^ j) ∧ (0 < n / 10 ^ j % 10 ∨ j = 0 → tpn n = j) := by
  obtain ⟨e0, e1, e2, e3, e4, e5, e6⟩ := P10
  intro j hj h
  unfold tpn
  have c : j = 0 ∨ j = 1 ∨ j = 2 ∨ j = 3 ∨ j = 4 ∨ j = 5 := by omega
  rcases c with rfl | rfl | rfl | rfl | rfl | rfl
  · rw [show 0 + 1 = 1 from rfl, e1] at h; rw [e0]
    refine ⟨fun _ q => absurd rfl q, fun _ => ?_⟩; rw [if_pos (by omega)]
  · rw [show 1 + 1 = 2 from rfl, e2] at h; rw [e1]
    refine ⟨fun _ _ => by omega, fun _ => ?_⟩; rw [if_neg (by omega), if_pos (by omega)]
  · rw [show 2 + 1 = 3 from rfl, e3] at h; rw [e2]
    refine ⟨fun _ _ => by omega, fun _ => ?_⟩; rw [if_neg (by omega), if_neg (by omega), if_pos (by omega)]
  · rw [show 3 + 1 = 4 from rfl, e4] at h; rw [e3]
    refine ⟨fun _ _ => by omega, fun _ => ?_⟩; rw [if_neg (by omega), if_neg (by omega), if_neg (by omega), if_pos (by omega)]
  · rw [show 4 + 1 = 5 from rfl, e5] at h; rw [e4]
    refine ⟨fun _ _ => by omega, fun _ => ?_⟩; rw [if_neg (by omega), if_neg (by omega), if_neg (by omega), if_neg (by omega), if_pos (by omega)]
  · rw [show 5 + 1 = 6 from rfl, e6] at h; rw [e5]
    refine ⟨fun _ _ => by omega, fun _ => ?_⟩; rw [if_neg (by omega), if_neg (by omega), if_neg (by omega), if_neg (by omega), if_neg (by omega)]
/-- what is still to come of a number, j digits -/
def dgr (n : Int) : Nat → List Int
  | 0 => []
  | j + 1 => (48 + n / 10 ^ j % 10) :: dgr n j
theorem dgr_dgu (n : Int) : ∀ j, dgr n (j + 1) = dgu j n := by
  intro j
  induction j with
  | zero => show [48 + n / 10 ^ 0 % 10] = [48 + n % 10]; rw [P10.1, Int.ediv_one]
  | succ j ih => rw [dgr, ih, dgu]
theorem dgs_dgr {n : Int} {j : Nat} (h : tpn n = j) : dgs n = dgr n (j + 1) := by
  unfold dgs; rw [h, dgr_dgu]
theorem cps_c (out : List Int) (x : Int) (l : List Int) : cps out (x :: l) = cps (cpp out x) l := rfl
theorem row_msg : (KD 693 = 7 ∧ LEN (693 + 1) = 4) ∧ (KD 695 = 7 ∧ LEN (695 + 1) = 4) ∧ (KD 697 = 7 ∧ LEN (697 + 1) = 200) := by decide +kernel
theorem s_putByte {w : Wd} {x : Int32} {b : Bool} {out : List Int} (ho : okall w) (h : rl w 697 = out) : Wp (f_X4_putByte x (bo b) w) (fun _ w' => rs w w' 697 (if b = true then cpp out x.toInt else out)) := by
  unfold f_X4_putByte bo
  cases b with
  | false =>
    refine wp_ifeq (fun _ => wp_ret ?_) (fun q => absurd rfl q)
    rw [← h]; exact rs_rf (ho _ row_msg.2.2.1)
  | true =>
    refine wp_ifeq (fun q => absurd q (by decide)) (fun _ => ?_)
    rw [if_pos rfl]
    unfold cpp
    by_cases c : out.length < 200
    · rw [if_pos c]
      refine wp_bd (s_add (ho _ row_msg.2.2.1) (by rw [h, row_msg.2.2.2]; exact c)) ?_
      rintro _ w' ⟨-, h2⟩
      rw [h] at h2; exact wp_ret h2
    · rw [if_neg c]
      refine wp_bd (s_add_full (ho _ row_msg.2.2.1) (by rw [h, row_msg.2.2.2]; omega)) ?_
      rintro _ w' ⟨-, rfl⟩
      rw [← h]; exact wp_ret (rs_rf (ho _ row_msg.2.2.1))
theorem i_digit {n : Int32} {j : Nat} (hj : j < 6) (h0 : 0 ≤ n.toInt) : ((n / dU (j + 1)) - (n / dU (j + 1)) / (10 : Int32) * (10 : Int32)).toInt = n.toInt / 10 ^ j % 10 := by
  have u1 : 1 ≤ (dU (j + 1)).toInt := by
    have c : j = 0 ∨ j = 1 ∨ j = 2 ∨ j = 3 ∨ j = 4 ∨ j = 5 := by omega
    rcases c with rfl | rfl | rfl | rfl | rfl | rfl <;> decide
  have d1 := i_div h0 u1
  have n1 := Int.ediv_nonneg (a := n.toInt) (b := (dU (j + 1)).toInt) h0 (by omega)
  have e10 : (10 : Int32).toInt = 10 := by decide
  rw [i_rem (by omega) (by omega), d1, dU_i j hj, e10]
def dM (v : Int32) : Nat := if v = 0 then 0 else if v = 1 then 1 else if v = 10 then 2 else if v = 100 then 3 else if v = 1000 then 4 else if v = 10000 then 5 else 6
theorem dM_dU : ∀ j, j < 7 → dM (dU j) = j := by decide
theorem dU_pos : ∀ j, j < 6 → 1 ≤ (dU (j + 1)).toInt := by decide
theorem s_putNumber {w : Wd} {n : Int32} {b : Bool} {out : List Int} (ho : okall w) (h : rl w 697 = out) (hn : 0 ≤ n.toInt ∧ n.toInt ≤ 999999) :
    Wp (f_X4_putNumber n (bo b) w) (fun _ w' => rs w w' 697 (if b = true then cps out (dgs n.toInt) else out)) := by
  have L := LIT
  have P6 := P10.2.2.2.2.2.2
  have e48 : (48 : Int32).toInt = 48 := by decide
  unfold f_X4_putNumber f_X4_putNumber_6
  rw [FUv]
  refine wp_loop (fun σ : Int32 × Int32 × Int32 × Int32 × Wd => σ.1 = n ∧ σ.2.1 = bo b ∧ ∃ j : Nat, j ≤ 6 ∧ σ.2.2.2.1 = dU j ∧ ∃ cur, rs w σ.2.2.2.2 697 (if b = true then cur else out) ∧ ((σ.2.2.1 = 0 ∧ cur = out ∧ 1 ≤ j ∧ n.toInt < 10 ^ j) ∨ (σ.2.2.1 = 1 ∧ cps cur (dgr n.toInt j) = cps out (dgs n.toInt))))
    (fun σ => dM σ.2.2.2.1) ?_ 100000 _ ⟨rfl, rfl, 6, by omega, rfl, out, by rw [ite_self, ← h]; exact rs_rf (ho _ row_msg.2.2.1), Or.inl ⟨rfl, rfl, by omega, by rw [P6]; omega⟩⟩ (by dsimp only; rw [show (100000 : Int32) = dU 6 from rfl, dM_dU 6 (by omega)]; omega)
  rintro rc ⟨n', b', v3, v4, u⟩ ⟨rfl, rfl, j, hj, hv4, cur, hr, hc⟩ ih
  dsimp only at *
  subst hv4
  unfold g_X4_putNumber_6
  cases j with
  | zero =>
    refine wp_iflt (fun _ => ?_) (fun q => absurd q (by decide))
    rcases hc with ⟨_, _, q, _⟩ | ⟨_, q⟩
    · omega
    · rw [← q]; exact wp_ret hr
  | succ j =>
    have up := dU_pos j (by omega)
    refine wp_iflt (fun q => by omega) (fun _ => wp_dv (by omega) (wp_lt (fun x hx => ?_)))
    have dx : x.toInt = n'.toInt / 10 ^ j % 10 := by rw [hx, i_digit (by omega) hn.1]
    have xr : 0 ≤ x.toInt ∧ x.toInt < 10 := by
      rw [dx]; exact ⟨Int.emod_nonneg _ (by decide), Int.emod_lt_of_pos _ (by decide)⟩
    have sx : ((48 : Int32) + x).toInt = 48 + n'.toInt / 10 ^ j % 10 := by rw [i_add (by omega), e48, dx]
    have oku := okall_rs ho hr
    -- the digit is put
    have put : cps cur (dgr n'.toInt (j + 1)) = cps out (dgs n'.toInt) → Wp (f_X4_putNumber_41 rc n' (bo b) (dU (j + 1)) x 1 u) (fun _ w' => rs w w' 697 (if b = true then cps out (dgs n'.toInt) else out)) := by
      intro hq
      rw [dgr, cps_c] at hq
      unfold f_X4_putNumber_41 f_X4_putNumber_60 f_X4_putNumber_61
      have fin : ∀ u2 : Wd, rs u u2 697 (if b = true then cpp cur ((48 : Int32) + x).toInt else (if b = true then cur else out)) → Wp (lt (dU (j + 1) / (10 : Int32)) (fun x2 => rc (n', bo b, (1 : Int32), x2, u2))) (fun _ w' => rs w w' 697 (if b = true then cps out (dgs n'.toInt) else out)) := by
        intro u2 h2
        refine wp_lt (fun y hy => ?_)
        rw [dU_div j (by omega)] at hy
        refine ih (n', bo b, 1, y, u2) ⟨rfl, rfl, j, by omega, hy, cpp cur ((48 : Int32) + x).toInt, ?_, Or.inr ⟨rfl, by rw [sx]; exact hq⟩⟩ (by dsimp only; rw [hy, dM_dU j (by omega), dM_dU (j + 1) (by omega)]; omega)
        dsimp only
        have := rs_tr hr h2
        cases b with
        | true => exact this
        | false => exact this
      cases b with
      | false =>
        refine wp_ifeq (fun _ => ?_) (fun q => absurd rfl q)
        exact wp_bd (s_putByte (b := false) oku (rs_l hr)) (fun _ u2 h2 => fin u2 h2)
      | true =>
        refine wp_ifeq (fun q => absurd q (by decide)) (fun _ => wp_ifeq (fun q => absurd q (by decide)) (fun _ => ?_))
        exact wp_bd (s_putByte (b := true) oku (rs_l hr)) (fun _ u2 h2 => fin u2 h2)
    rcases hc with ⟨rfl, rfl, _, hlt⟩ | ⟨rfl, hq⟩
    · have DS := dg_step hn.1 j (by omega) hlt
      refine wp_ifeq (fun _ => ?_) (fun q => absurd rfl q)
      refine wp_iflt (fun c => put ?_) (fun c => wp_ifeq (fun c2 => put ?_) (fun c2 => ?_))
      · rw [dgs_dgr (DS.2 (Or.inl (by omega)))]
      · refine congrArg (cps cur) (dgs_dgr (DS.2 (Or.inr ?_))).symm
        have : dU (j + 1) = dU (0 + 1) := i_eq.mpr c2
        have h3 := dM_dU (j + 1) (by omega)
        rw [this, dM_dU (0 + 1) (by omega)] at h3; omega
      · have j0 : j ≠ 0 := fun q => c2 (by rw [q]; rfl)
        have lt2 := DS.1 (by omega) j0
        unfold f_X4_putNumber_41 f_X4_putNumber_60 f_X4_putNumber_61
        have fin : Wp (bd (f_X4_putByte ((48 : Int32) + x) 0 u) (fun _ w1 => lt (dU (j + 1) / (10 : Int32)) (fun x2 => rc (n', bo b, (0 : Int32), x2, w1)))) (fun _ w' => rs w w' 697 (if b = true then cps cur (dgs n'.toInt) else cur)) := by
          refine wp_bd (s_putByte (b := false) oku (rs_l hr)) ?_
          rintro _ u2 h2
          refine wp_lt (fun y hy => ?_)
          rw [dU_div j (by omega)] at hy
          refine ih (n', bo b, 0, y, u2) ⟨rfl, rfl, j, by omega, hy, cur, ?_, Or.inl ⟨rfl, rfl, by omega, lt2⟩⟩ (by dsimp only; rw [hy, dM_dU j (by omega), dM_dU (j + 1) (by omega)]; omega)
          exact rs_tr hr h2
        refine wp_ifeq (fun _ => fin) (fun _ => wp_ifeq (fun _ => fin) (fun q => absurd rfl q))
    · exact wp_ifeq (fun q => absurd q (by decide)) (fun _ => put hq)
/-! keys -/
def kpos (tp : List Int) (p : Int) : Int :=
  if gt tp p = 111 ∨ gt tp p = 102 ∨ gt tp p = 109 ∨ gt tp p = 120 then p + 1 else if gt tp p = 35 ∧ 48 ≤ gt tp (p + 1) ∧ gt tp (p + 1) ≤ 51 then p + 2 else -1
theorem kend_kpos {tp : List Int} {p : Int} (h : 0 ≤ p) : kend tp p = if kpos tp p ≠ -1 ∧ gt tp (kpos tp p) = 61 then kpos tp p + 1 else -1 := by
  unfold kend kpos
  by_cases a : gt tp p = 111 ∨ gt tp p = 102 ∨ gt tp p = 109 ∨ gt tp p = 120
  · rw [if_pos a, if_pos a]
    by_cases b : gt tp (p + 1) = 61
    · rw [if_pos b, if_pos ⟨by omega, b⟩]; omega
    · rw [if_neg b, if_neg (fun q => b q.2)]
  · rw [if_neg a, if_neg a]
    by_cases c : gt tp p = 35 ∧ 48 ≤ gt tp (p + 1) ∧ gt tp (p + 1) ≤ 51
    · rw [if_pos c, if_pos c]
      by_cases b : gt tp (p + 2) = 61
      · rw [if_pos b, if_pos ⟨by omega, b⟩]; omega
      · rw [if_neg b, if_neg (fun q => b q.2)]
    · rw [if_neg c, if_neg c, if_neg (fun q => q.1 rfl)]
theorem kpos_rng {tp : List Int} {p : Int} : kpos tp p = -1 ∨ (p + 1 ≤ kpos tp p ∧ kpos tp p ≤ p + 2) := by
  unfold kpos
  by_cases a : gt tp p = 111 ∨ gt tp p = 102 ∨ gt tp p = 109 ∨ gt tp p = 120
  · rw [if_pos a]; omega
  · rw [if_neg a]
    by_cases c : gt tp p = 35 ∧ 48 ≤ gt tp (p + 1) ∧ gt tp (p + 1) ≤ 51
    · rw [if_pos c]; omega
    · rw [if_neg c]; exact Or.inl rfl
theorem tp_rng {tp : List Int} (hb : tpok tp) (p : Int) : -1 ≤ gt tp p ∧ gt tp p ≤ 255 := by
  by_cases c : 0 ≤ p ∧ p < tp.length
  · rw [gt_in c.1, List.getD_eq_getElem?_getD, List.getElem?_eq_getElem (show p.toNat < tp.length by omega)]
    have := hb.2 _ (List.getElem_mem (show p.toNat < tp.length by omega))
    exact ⟨by show -1 ≤ tp[p.toNat]; omega, by show tp[p.toNat] ≤ 255; omega⟩
  · rw [gt_out (by omega)]; omega
theorem tp_in {tp : List Int} (hb : tpok tp) {p : Int} (h0 : 0 ≤ p) (h1 : p < tp.length) : 0 ≤ gt tp p := by
  rw [gt_in h0, List.getD_eq_getElem?_getD, List.getElem?_eq_getElem (show p.toNat < tp.length by omega)]
  exact (hb.2 _ (List.getElem_mem (show p.toNat < tp.length by omega))).1
theorem s_digitAt {w : Wd} {tp : List Int} {p : Int32} (ho : okall w) (ht : rl w 635 = tp) (hb : tpok tp) : Wp (f_X4_digitAt p w) (fun r w' => w = w' ∧ ((48 ≤ gt tp p.toInt ∧ gt tp p.toInt ≤ 51 ∧ r.toInt = gt tp p.toInt - 48) ∨ (¬ (48 ≤ gt tp p.toInt ∧ gt tp p.toInt ≤ 51) ∧ r.toInt = -1))) := by
  have L := LIT
  have e48 : (48 : Int32).toInt = 48 := by decide
  unfold f_X4_digitAt
  refine wp_bd (s_get (ho _ tape_kd.1)) ?_
  rintro x _ ⟨rfl, hx⟩
  rw [ht] at hx
  have R := tp_rng hb p.toInt
  refine wp_sub (by omega) (fun y hy => ?_)
  rw [e_isWithin, bd_r, ite_zo, L.1, L.2.2.2.2.1]
  exact wp_if (fun c => wp_ret ⟨rfl, Or.inl ⟨by omega, by omega, by omega⟩⟩) (fun c => wp_ret ⟨rfl, Or.inr ⟨by omega, L.2.2.1⟩⟩)
theorem s_keyEnd {w : Wd} {tp : List Int} {p : Int32} (ho : okall w) (ht : rl w 635 = tp) (hb : tpok tp) (hp : 0 ≤ p.toInt ∧ p.toInt ≤ 1000) : Wp (f_X4_keyEnd p w) (fun r w' => w = w' ∧ r.toInt = kpos tp p.toInt) := by
  have L := LIT
  have e35 : (35 : Int32).toInt = 35 := by decide
  have e102 : (102 : Int32).toInt = 102 := by decide
  have e109 : (109 : Int32).toInt = 109 := by decide
  have e111 : (111 : Int32).toInt = 111 := by decide
  have e120 : (120 : Int32).toInt = 120 := by decide
  have p1 : (p + (1 : Int32)).toInt = p.toInt + 1 := by rw [i_add (by omega), L.2.1]
  have p2 : (p + (2 : Int32)).toInt = p.toInt + 2 := by rw [i_add (by omega), L.2.2.2.1]
  unfold f_X4_keyEnd kpos
  refine wp_bd (s_get (ho _ tape_kd.1)) ?_
  rintro x _ ⟨rfl, hx⟩
  rw [ht] at hx
  refine wp_ifeq (fun c => ?_) (fun c => ?_)
  · refine wp_bd (s_digitAt ho ht hb) ?_
    rintro y _ ⟨rfl, hy⟩
    rw [p1] at hy
    rcases hy with ⟨a, b, hy⟩ | ⟨a, hy⟩
    · exact wp_ifeq (fun q => by omega) (fun _ => wp_ret ⟨rfl, by rw [if_neg (by omega), if_pos ⟨by omega, a, b⟩]; exact p2⟩)
    · exact wp_ifeq (fun _ => wp_ret ⟨rfl, by rw [if_neg (by omega), if_neg (fun q => a q.2)]; exact L.2.2.1⟩) (fun q => by omega)
  refine wp_ifeq (fun c1 => wp_ret ⟨rfl, by rw [if_pos (by omega)]; exact p1⟩) (fun c1 => ?_)
  refine wp_ifeq (fun c2 => wp_ret ⟨rfl, by rw [if_pos (by omega)]; exact p1⟩) (fun c2 => ?_)
  refine wp_ifeq (fun c3 => wp_ret ⟨rfl, by rw [if_pos (by omega)]; exact p1⟩) (fun c3 => ?_)
  refine wp_ifeq (fun c4 => wp_ret ⟨rfl, by rw [if_pos (by omega)]; exact p1⟩) (fun c4 => ?_)
  exact wp_ret ⟨rfl, by rw [if_neg (by omega), if_neg (by omega)]; exact L.2.2.1⟩
/-- the numbers and their classes, as the class keeps them -/
def nmc (w : Wd) (nums : List Int) (cl : Int → Int) : Prop := rl w 693 = nums ∧ ∀ k : Int, 0 ≤ k → k < 4 → gt (rl w 695) k = cl (gt nums k)
theorem s_isFitting {w : Wd} {tp nums : List Int} {cl : Int → Int} {p v : Int32} (ho : okall w) (ht : rl w 635 = tp) (hb : tpok tp) (hN : nmc w nums cl) (hp : 0 ≤ p.toInt ∧ p.toInt ≤ 1000) (hv : 0 ≤ v.toInt ∧ v.toInt < 4) (hk : kpos tp p.toInt ≠ -1) :
    Wp (f_X4_isFitting p v w) (fun r w' => w = w' ∧ r = bo (kfit tp nums cl p.toInt v.toInt)) := by
  have L := LIT
  have e35 : (35 : Int32).toInt = 35 := by decide
  have e102 : (102 : Int32).toInt = 102 := by decide
  have e109 : (109 : Int32).toInt = 109 := by decide
  have e111 : (111 : Int32).toInt = 111 := by decide
  have e120 : (120 : Int32).toInt = 120 := by decide
  have p1 : (p + (1 : Int32)).toInt = p.toInt + 1 := by rw [i_add (by omega), L.2.1]
  have yes : kfp tp nums cl p.toInt v.toInt → Wp (some ((1 : Int32), w)) (fun r w' => w = w' ∧ r = bo (kfit tp nums cl p.toInt v.toInt)) := fun q => wp_ret ⟨rfl, by unfold kfit bo; rw [if_pos (decide_eq_true q)]⟩
  have no : ¬ kfp tp nums cl p.toInt v.toInt → Wp (some ((0 : Int32), w)) (fun r w' => w = w' ∧ r = bo (kfit tp nums cl p.toInt v.toInt)) := fun q => wp_ret ⟨rfl, by unfold kfit bo; rw [if_neg (fun z => q (of_decide_eq_true z))]⟩
  have C := hN.2 v.toInt hv.1 hv.2
  unfold f_X4_isFitting
  refine wp_bd (s_get (ho _ tape_kd.1)) ?_
  rintro x _ ⟨rfl, hx⟩
  rw [ht] at hx
  unfold kpos at hk
  have cls3 : ∀ (o : Int32) (c0 : Int32) (k : Int), x.toInt = k → c0.toInt = o.toInt → (∀ z : Int32, z.toInt = cl (gt nums v.toInt) → ((z.toInt = c0.toInt) ↔ kfp tp nums cl p.toInt v.toInt)) → Wp (bd (f_X7_get 695 v w) (fun x8 w7 => (if x8 = c0 then some ((1 : Int32), w7) else some ((0 : Int32), w7)))) (fun r w' => w = w' ∧ r = bo (kfit tp nums cl p.toInt v.toInt)) := by
    intro o c0 k _ _ hz
    refine wp_bd (s_get (ho _ row_msg.2.1.1)) ?_
    rintro z _ ⟨rfl, hzz⟩
    rw [C] at hzz
    exact wp_ifeq (fun q => yes ((hz z hzz).mp q)) (fun q => no (fun q2 => q ((hz z hzz).mpr q2)))
  refine wp_ifeq (fun c => ?_) (fun c => ?_)
  · rw [if_neg (by omega)] at hk
    have hd : 48 ≤ gt tp (p.toInt + 1) ∧ gt tp (p.toInt + 1) ≤ 51 := by
      refine Decidable.byContradiction (fun q => hk ?_)
      rw [if_neg (fun z => q z.2)]
    refine wp_bd (s_get (ho _ row_msg.1.1)) ?_
    rintro z _ ⟨rfl, hz⟩
    rw [hN.1] at hz
    refine wp_bd (s_digitAt ho ht hb) ?_
    rintro y _ ⟨rfl, hy⟩
    rw [p1] at hy
    have hy2 : y.toInt = gt tp (p.toInt + 1) - 48 := by omega
    refine wp_ifeq (fun q => yes (Or.inr (Or.inr (Or.inr (Or.inr ⟨by omega, by omega⟩))))) (fun q => no (fun q2 => ?_))
    rcases q2 with q2 | q2 | q2 | q2 | q2 <;> omega
  refine wp_ifeq (fun c1 => cls3 1 1 102 (by omega) rfl (fun z hz => ?_)) (fun c1 => ?_)
  · rw [hz, L.2.1]
    refine ⟨fun q => Or.inr (Or.inr (Or.inl ⟨by omega, q⟩)), fun q2 => ?_⟩
    rcases q2 with q2 | q2 | q2 | q2 | q2 <;> omega
  refine wp_ifeq (fun c2 => cls3 2 2 109 (by omega) rfl (fun z hz => ?_)) (fun c2 => ?_)
  · rw [hz, L.2.2.2.1]
    refine ⟨fun q => Or.inr (Or.inr (Or.inr (Or.inl ⟨by omega, q⟩))), fun q2 => ?_⟩
    rcases q2 with q2 | q2 | q2 | q2 | q2 <;> omega
  refine wp_ifeq (fun c3 => cls3 0 0 111 (by omega) rfl (fun z hz => ?_)) (fun c3 => ?_)
  · rw [hz, L.1]
    refine ⟨fun q => Or.inr (Or.inl ⟨by omega, q⟩), fun q2 => ?_⟩
    rcases q2 with q2 | q2 | q2 | q2 | q2 <;> omega
  refine yes (Or.inl ?_)
  by_cases a : gt tp p.toInt = 111 ∨ gt tp p.toInt = 102 ∨ gt tp p.toInt = 109 ∨ gt tp p.toInt = 120
  · omega
  · rw [if_neg a, if_neg (by omega)] at hk; exact absurd rfl hk

