/-! ===== message: the class ===== -/
section
variable {W : Wd} {tp nums : List Int} {cl : Int → Int}
/-- what reading pieces at a depth does -/
def PSP (tp nums : List Int) (cl : Int → Int) (W : Wd) (rp : Int32 → Int32 → Int32 → Wd → Option (Int32 × Wd)) (dep : Nat) : Prop :=
  ∀ (p d : Int32) (st : List Fch) (out : List Int) (w : Wd), rs W w 697 out → d.toInt = dep → st.length = dep → 0 ≤ p.toInt ∧ p.toInt ≤ tp.length →
    Wp (rp p (bo (hrd st)) d w) (fun r w' => ∃ o', rs W w' 697 o' ∧ ((r.toInt = -1 ∧ RUN tp nums cl p.toInt st out = none) ∨ (p.toInt ≤ r.toInt ∧ r.toInt ≤ tp.length ∧ (gt tp r.toInt = -1 ∨ gt tp r.toInt = 124 ∨ gt tp r.toInt = 125) ∧ RUN tp nums cl p.toInt st out = RUN tp nums cl r.toInt st o')))
theorem W_at {w : Wd} {out : List Int} (ho : okall W) (ht : rl W 635 = tp) (hN : nmc W nums cl) (h : rs W w 697 out) : okall w ∧ rl w 635 = tp ∧ nmc w nums cl ∧ rl w 697 = out := by
  refine ⟨okall_rs ho h, by rw [rs_rl h tape_kd.1 (by omega)]; exact ht, ⟨by rw [rs_rl h row_msg.1.1 (by omega)]; exact hN.1, fun k h0 h1 => by rw [rs_rl h row_msg.2.1.1 (by omega)]; exact hN.2 k h0 h1⟩, rs_l h⟩
theorem bo_0 {b : Bool} : (bo b).toInt = (0 : Int32).toInt ↔ b = false := by cases b <;> decide
theorem gt_end {tp : List Int} (hb : tpok tp) {p : Int} (h0 : 0 ≤ p) (h : gt tp p = -1) : (tp.length : Int) ≤ p := by
  refine Int.not_lt.mp (fun q => ?_)
  have := tp_in hb h0 q; omega
theorem s_readCases {rp : Int32 → Int32 → Int32 → Wd → Option (Int32 × Wd)} {dep : Nat} (ho : okall W) (ht : rl W 635 = tp) (hb : tpok tp) (hN : nmc W nums cl) (hrp : PSP tp nums cl W rp (dep + 1)) {p v d : Int32} {st : List Fch} {out : List Int} {w : Wd} (hw : rs W w 697 out) (hd : d.toInt = dep + 1) (hl : st.length = dep) (hp : 0 ≤ p.toInt ∧ p.toInt ≤ 163) (hv : 0 ≤ v.toInt ∧ v.toInt < 4) :
    Wp (f_X4_readCases rp p v (bo (hrd st)) d w) (fun r w' => ∃ o', rs W w' 697 o' ∧ ((r.toInt = -1 ∧ CAS tp nums cl p.toInt v.toInt false st out = none) ∨ (p.toInt < r.toInt ∧ r.toInt ≤ tp.length ∧ CAS tp nums cl p.toInt v.toInt false st out = RUN tp nums cl r.toInt st o'))) := by
  have L := LIT
  have e160 : (160 : Int32).toInt = 160 := by decide
  have e61 : (61 : Int32).toInt = 61 := by decide
  have e124 : (124 : Int32).toInt = 124 := by decide
  have e125 : (125 : Int32).toInt = 125 := by decide
  have t160 := hb.1
  unfold f_X4_readCases f_X4_readCases_9
  rw [FUv]
  refine wp_loop (fun σ : Int32 × Int32 × Int32 × Int32 × Int32 × Wd => σ.1 = v ∧ σ.2.1 = d ∧ 0 ≤ σ.2.2.2.2.1.toInt ∧ σ.2.2.2.2.1.toInt ≤ 161 ∧ p.toInt + σ.2.2.2.2.1.toInt ≤ σ.2.2.1.toInt ∧ σ.2.2.1.toInt ≤ 163 ∧ ∃ (c : Bool) (o1 : List Int), σ.2.2.2.1 = bo (hrd st && !c) ∧ rs W σ.2.2.2.2.2 697 o1 ∧ CAS tp nums cl σ.2.2.1.toInt v.toInt c st o1 = CAS tp nums cl p.toInt v.toInt false st out)
    (fun σ => (200 - σ.2.2.2.2.1.toInt).toNat) ?_ 100000 _ ⟨rfl, rfl, by dsimp only; omega, by dsimp only; omega, by dsimp only; omega, by dsimp only; omega, false, out, by dsimp only; rw [Bool.not_false, Bool.and_true], hw, rfl⟩ (by dsimp only; omega)
  rintro rc ⟨v', d', q, v6, k, u⟩ ⟨rfl, rfl, hk0, hk1, hq0, hq1, c, o1, h6, hr, hcas⟩ ih
  dsimp only at *
  subst h6
  obtain ⟨oku, tu, nu, ru⟩ := W_at ho ht hN hr
  have fail : CAS tp nums cl q.toInt v'.toInt c st o1 = none → ∀ u2 o2, rs W u2 697 o2 → Wp (some ((-1 : Int32), u2)) (fun r w' => ∃ o', rs W w' 697 o' ∧ ((r.toInt = -1 ∧ CAS tp nums cl p.toInt v'.toInt false st out = none) ∨ (p.toInt < r.toInt ∧ r.toInt ≤ tp.length ∧ CAS tp nums cl p.toInt v'.toInt false st out = RUN tp nums cl r.toInt st o'))) :=
    fun hn u2 o2 h2 => wp_ret ⟨o2, h2, Or.inl ⟨L.2.2.1, by rw [← hcas]; exact hn⟩⟩
  have kn : kend tp q.toInt = -1 → CAS tp nums cl q.toInt v'.toInt c st o1 = none := fun h => by unfold CAS; rw [if_neg (fun z => z h)]
  unfold g_X4_readCases_9
  refine wp_iflt (fun z => fail (kn ?_) _ _ hr) (fun z => ?_)
  · have go : gt tp q.toInt = -1 := gt_out (by omega)
    unfold kend
    rw [if_neg (by omega), if_neg (by omega)]
  refine wp_bd (s_keyEnd oku tu hb (by omega)) ?_
  rintro x _ ⟨rfl, hx⟩
  have KK := kend_kpos (tp := tp) (p := q.toInt) (by omega)
  refine wp_ifeq (fun c1 => fail (kn (by rw [KK, if_neg (fun z => z.1 (by omega))])) _ _ hr) (fun c1 => ?_)
  refine wp_bd (s_get (oku _ tape_kd.1)) ?_
  rintro y _ ⟨rfl, hy⟩
  rw [tu] at hy
  refine wp_ifeq (fun c2 => ?_) (fun c2 => fail (kn (by rw [KK, if_neg (fun z => c2 (by rw [hy, hx, z.2, e61]))])) _ _ hr)
  have kp : kpos tp q.toInt ≠ -1 := by omega
  have KR := (kpos_rng (tp := tp) (p := q.toInt)).resolve_left kp
  have KE : kend tp q.toInt = x.toInt + 1 := by rw [KK, if_pos ⟨kp, by rw [← hx, ← hy]; omega⟩]; omega
  have KL := kend_le (tp := tp) (p := q.toInt) (by omega)
  have CE : CAS tp nums cl q.toInt v'.toInt c st o1 = RUN tp nums cl (x.toInt + 1) ((v'.toInt, c || kfit tp nums cl q.toInt v'.toInt, kfit tp nums cl q.toInt v'.toInt && !c) :: st) o1 := by
    unfold CAS; rw [if_pos (by omega), KE]
  -- the case itself
  have body : ∀ t0 : Int32, t0 = bo (hrd ((v'.toInt, c || kfit tp nums cl q.toInt v'.toInt, kfit tp nums cl q.toInt v'.toInt && !c) :: st)) → Wp (f_X4_readCases_67 rp rc v' d' (bo (hrd st && !c)) k x t0 u) (fun r w' => ∃ o', rs W w' 697 o' ∧ ((r.toInt = -1 ∧ CAS tp nums cl p.toInt v'.toInt false st out = none) ∨ (p.toInt < r.toInt ∧ r.toInt ≤ tp.length ∧ CAS tp nums cl p.toInt v'.toInt false st out = RUN tp nums cl r.toInt st o'))) := by
    intro t0 ht0
    have x1 : (x + (1 : Int32)).toInt = x.toInt + 1 := by rw [i_add (by omega), L.2.1]
    unfold f_X4_readCases_67
    rw [ht0]
    refine wp_bd (hrp (x + (1 : Int32)) d' _ o1 u hr (by rw [hd]; rfl) (by rw [List.length_cons, hl]) (by omega)) ?_
    rintro r u2 ⟨o2, hr2, hres⟩
    rw [x1, ← CE] at hres
    rcases hres with ⟨a1, a2⟩ | ⟨a1, a2, a3, a4⟩
    · exact wp_ifeq (fun _ => fail a2 _ _ hr2) (fun z => absurd a1 (by omega))
    refine wp_ifeq (fun z => by omega) (fun _ => ?_)
    obtain ⟨ok2, tu2, nu2, ru2⟩ := W_at ho ht hN hr2
    have tail : ∀ t1 : Int32, t1 = bo (hrd st && !(c || kfit tp nums cl q.toInt v'.toInt)) → Wp (f_X4_readCases_106 rp rc v' d' r k t1 u2) (fun r w' => ∃ o', rs W w' 697 o' ∧ ((r.toInt = -1 ∧ CAS tp nums cl p.toInt v'.toInt false st out = none) ∨ (p.toInt < r.toInt ∧ r.toInt ≤ tp.length ∧ CAS tp nums cl p.toInt v'.toInt false st out = RUN tp nums cl r.toInt st o'))) := by
      intro t1 ht1
      unfold f_X4_readCases_106
      refine wp_bd (s_get (ok2 _ tape_kd.1)) ?_
      rintro z _ ⟨rfl, hz⟩
      rw [tu2] at hz
      refine wp_add (by omega) (fun z3 hz3 => ?_)
      have hz4 : z3.toInt = r.toInt + 1 := by omega
      rcases a3 with a3 | a3 | a3
      · have le := gt_end hb (by omega) a3
        rw [RUN_end le, if_neg (by exact List.cons_ne_nil _ _)] at a4
        refine wp_ifeq (fun q => by omega) (fun _ => wp_ifeq (fun q => by omega) (fun _ => fail a4 _ _ hr2))
      · have lt := (gt_len (tp := tp) (p := r.toInt) (by omega)).2
        refine wp_ifeq (fun _ => wp_add (by omega) (fun k2 hk2 => ?_)) (fun q => by omega)
        refine ih (v', d', z3, t1, k2, u2) ⟨rfl, rfl, by dsimp only; omega, by dsimp only; omega, by dsimp only; omega, by dsimp only; omega, c || kfit tp nums cl q.toInt v'.toInt, o2, ht1, hr2, ?_⟩ (by dsimp only; omega)
        dsimp only
        rw [← hcas, a4, RUN_step t160 (by omega) lt, if_neg (by omega), if_pos a3, hz4]
        unfold CAS nxt
        by_cases g : kend tp (r.toInt + 1) ≠ -1
        · rw [if_pos g, if_pos ⟨List.cons_ne_nil _ _, g⟩]
        · rw [if_neg g, if_neg (fun q => g q.2)]
      · have lt := (gt_len (tp := tp) (p := r.toInt) (by omega)).2
        refine wp_ifeq (fun q => by omega) (fun _ => wp_ifeq (fun _ => wp_ret ⟨o2, hr2, Or.inr ⟨by omega, by omega, ?_⟩⟩) (fun q => by omega))
        rw [← hcas, a4, RUN_step t160 (by omega) lt, if_neg (by omega), if_neg (by omega), if_pos a3, if_pos (List.cons_ne_nil _ _), hz4, List.tail_cons]
    unfold f_X4_readCases_105
    rw [show hrd ((v'.toInt, c || kfit tp nums cl q.toInt v'.toInt, kfit tp nums cl q.toInt v'.toInt && !c) :: st) = ((kfit tp nums cl q.toInt v'.toInt && !c) && hrd st) from rfl]
    generalize kfit tp nums cl q.toInt v'.toInt = kf at tail ⊢
    generalize hrd st = hs at tail ⊢
    refine wp_ifeq (fun z => tail 0 ?_) (fun z => wp_ifeq (fun z2 => tail 1 ?_) (fun z2 => tail 0 ?_))
    · have := bo_0.mp z
      cases hs <;> cases c <;> cases kf <;> first | rfl | (cases this; done)
    · have := bo_0.mp z2
      have n1 : ¬ (hs && !c) = false := fun q => z (bo_0.mpr q)
      cases hs <;> cases c <;> cases kf <;> first | rfl | exact absurd rfl n1 | (cases this; done)
    · have n2 : ¬ ((kf && !c) && hs) = false := fun q => z2 (bo_0.mpr q)
      cases hs <;> cases c <;> cases kf <;> first | rfl | exact absurd rfl n2
  unfold f_X4_readCases_66
  have hh : hrd ((v'.toInt, c || kfit tp nums cl q.toInt v'.toInt, kfit tp nums cl q.toInt v'.toInt && !c) :: st) = ((kfit tp nums cl q.toInt v'.toInt && !c) && hrd st) := rfl
  rw [hh] at body
  refine wp_ifeq (fun z => body 0 ?_) (fun z => ?_)
  · have := bo_0.mp z
    generalize kfit tp nums cl q.toInt v'.toInt = kf
    generalize hrd st = hs at this ⊢
    cases hs <;> cases c <;> cases kf <;> first | rfl | (cases this; done)
  · have n1 : ¬ (hrd st && !c) = false := fun q => z (bo_0.mpr q)
    refine wp_bd (s_isFitting oku tu hb nu (by omega) hv kp) ?_
    rintro z2 _ ⟨rfl, rfl⟩
    refine wp_ifeq (fun z3 => body 0 ?_) (fun z3 => body 1 ?_)
    · rw [bo_0.mp z3]; rfl
    · have n2 : ¬ kfit tp nums cl q.toInt v'.toInt = false := fun q => z3 (bo_0.mpr q)
      generalize kfit tp nums cl q.toInt v'.toInt = kf at n2 ⊢
      generalize hrd st = hs at n1 ⊢
      cases hs <;> cases c <;> cases kf <;> first | rfl | exact absurd rfl n1 | exact absurd rfl n2
theorem s_readBraces {rp : Int32 → Int32 → Int32 → Wd → Option (Int32 × Wd)} {dep : Nat} (ho : okall W) (ht : rl W 635 = tp) (hb : tpok tp) (hN : nmc W nums cl) (hn : ∀ k : Int, 0 ≤ k → k < 4 → 0 ≤ gt nums k ∧ gt nums k ≤ 999999) (h6 : dep ≤ 6) (hrp : dep < 6 → PSP tp nums cl W rp (dep + 1)) {q d : Int32} {p : Int} {st : List Fch} {out : List Int} {w : Wd} (hw : rs W w 697 out) (hd : d.toInt = dep) (hl : st.length = dep) (hp : 0 ≤ p ∧ p < tp.length) (hg : gt tp p = 123) (hq : q.toInt = p + 1) :
    Wp (f_X4_readBraces rp q (bo (hrd st)) d w) (fun r w' => ∃ o', rs W w' 697 o' ∧ ((r.toInt = -1 ∧ RUN tp nums cl p st out = none) ∨ (p < r.toInt ∧ r.toInt ≤ tp.length ∧ RUN tp nums cl p st out = RUN tp nums cl r.toInt st o'))) := by
  have L := LIT
  have e58 : (58 : Int32).toInt = 58 := by decide
  have e125 : (125 : Int32).toInt = 125 := by decide
  have t160 := hb.1
  obtain ⟨oku, tu, nu, ru⟩ := W_at ho ht hN hw
  have S := RUN_step (tp := tp) (nums := nums) (cl := cl) (p := p) (st := st) (out := out) t160 hp.1 hp.2
  rw [if_pos hg] at S
  have q1 : (q + (1 : Int32)).toInt = p + 2 := by rw [i_add (by omega), L.2.1]; omega
  have q2 : (q + (2 : Int32)).toInt = p + 3 := by rw [i_add (by omega), L.2.2.2.1]; omega
  unfold f_X4_readBraces
  refine wp_bd (s_digitAt oku tu hb) ?_
  rintro x _ ⟨rfl, hx⟩
  rw [hq] at hx
  refine wp_bd (s_get (oku _ tape_kd.1)) ?_
  rintro y _ ⟨rfl, hy⟩
  rw [tu, q1] at hy
  rcases hx with ⟨a1, a2, hx⟩ | ⟨a1, hx⟩
  · rw [if_pos ⟨a1, a2⟩] at S
    refine wp_ifeq (fun z => by omega) (fun _ => ?_)
    refine wp_ifeq (fun c => ?_) (fun c => ?_)
    · rw [if_pos (by omega)] at S
      have lt := (gt_len (tp := tp) (p := p + 2) (by omega)).2
      refine wp_bd (s_get (oku _ row_msg.1.1)) ?_
      rintro z _ ⟨rfl, hz⟩
      rw [nu.1] at hz
      have R := hn x.toInt (by omega) (by omega)
      refine wp_bd (s_putNumber oku ru (by omega)) ?_
      rintro _ u2 h2
      refine wp_ret ⟨_, rs_tr hw h2, Or.inr ⟨by omega, by omega, ?_⟩⟩
      rw [S, q2, hz, hx]
    · rw [if_neg (by omega)] at S
      refine wp_ifeq (fun c2 => ?_) (fun c2 => ?_)
      · refine wp_iflt (fun c3 => ?_) (fun c3 => ?_)
        · have d1 : (d + (1 : Int32)).toInt = dep + 1 := by rw [i_add (by omega), L.2.1]; omega
          refine wp_bd (s_readCases ho ht hb hN (hrp (by omega)) hw d1 hl (p := q + (2 : Int32)) (by omega) (v := x) (by omega)) ?_
          rintro r u2 ⟨o2, hr2, hres⟩
          rw [q2, hx] at hres
          have E : RUN tp nums cl p st out = CAS tp nums cl (p + 3) (gt tp (p + 1) - 48) false st out := by
            rw [S]
            unfold CAS nxt
            by_cases g : kend tp (p + 3) ≠ -1
            · rw [if_pos g, if_pos ⟨by omega, by omega, g⟩]
            · rw [if_neg g, if_neg (fun q => g q.2.2)]
          rw [← E] at hres
          refine wp_ret ⟨o2, hr2, ?_⟩
          rcases hres with q | ⟨b1, b2, b3⟩
          · exact Or.inl q
          · exact Or.inr ⟨by omega, b2, b3⟩
        · rw [if_neg (fun q => by omega)] at S
          exact wp_ret ⟨out, hw, Or.inl ⟨L.2.2.1, S⟩⟩
      · rw [if_neg (fun q => by omega)] at S
        exact wp_ret ⟨out, hw, Or.inl ⟨L.2.2.1, S⟩⟩
  · rw [if_neg a1] at S
    exact wp_ifeq (fun _ => wp_ret ⟨out, hw, Or.inl ⟨L.2.2.1, S⟩⟩) (fun z => by omega)
theorem s_readPieces {rp : Int32 → Int32 → Int32 → Wd → Option (Int32 × Wd)} {dep : Nat} (ho : okall W) (ht : rl W 635 = tp) (hb : tpok tp) (hN : nmc W nums cl) (hn : ∀ k : Int, 0 ≤ k → k < 4 → 0 ≤ gt nums k ∧ gt nums k ≤ 999999) (h6 : dep ≤ 6) (hrp : dep < 6 → PSP tp nums cl W rp (dep + 1)) : PSP tp nums cl W (fun a b d w => f_X4_readPieces rp a b d w) dep := by
  intro p d st out w hw hd hl hp
  have L := LIT
  have e160 : (160 : Int32).toInt = 160 := by decide
  have e123 : (123 : Int32).toInt = 123 := by decide
  have e124 : (124 : Int32).toInt = 124 := by decide
  have e125 : (125 : Int32).toInt = 125 := by decide
  have e126 : (126 : Int32).toInt = 126 := by decide
  have e32 : (32 : Int32).toInt = 32 := by decide
  have t160 := hb.1
  unfold f_X4_readPieces f_X4_readPieces_6
  rw [FUv]
  refine wp_loop (fun σ : Int32 × Int32 × Int32 × Int32 × Wd => σ.1 = bo (hrd st) ∧ σ.2.1 = d ∧ 0 ≤ σ.2.2.2.1.toInt ∧ p.toInt + σ.2.2.2.1.toInt ≤ σ.2.2.1.toInt ∧ σ.2.2.1.toInt ≤ tp.length ∧ ∃ o1 : List Int, rs W σ.2.2.2.2 697 o1 ∧ RUN tp nums cl σ.2.2.1.toInt st o1 = RUN tp nums cl p.toInt st out)
    (fun σ => (tp.length + 1 - σ.2.2.1.toInt).toNat) ?_ 100000 _ ⟨rfl, rfl, by dsimp only; omega, by dsimp only; omega, by dsimp only; omega, out, hw, rfl⟩ (by dsimp only; omega)
  rintro rc ⟨b', d', q, k, u⟩ ⟨rfl, rfl, hk0, hq0, hq1, o1, hr, hrun⟩ ih
  dsimp only at *
  obtain ⟨oku, tu, nu, ru⟩ := W_at ho ht hN hr
  unfold g_X4_readPieces_6
  refine wp_iflt (fun z => by omega) (fun z => ?_)
  refine wp_bd (s_get (oku _ tape_kd.1)) ?_
  rintro x _ ⟨rfl, hx⟩
  rw [tu] at hx
  have stop : (gt tp q.toInt = -1 ∨ gt tp q.toInt = 124 ∨ gt tp q.toInt = 125) → Wp (some (q, u)) (fun r w' => ∃ o', rs W w' 697 o' ∧ ((r.toInt = -1 ∧ RUN tp nums cl p.toInt st out = none) ∨ (p.toInt ≤ r.toInt ∧ r.toInt ≤ tp.length ∧ (gt tp r.toInt = -1 ∨ gt tp r.toInt = 124 ∨ gt tp r.toInt = 125) ∧ RUN tp nums cl p.toInt st out = RUN tp nums cl r.toInt st o'))) :=
    fun h => wp_ret ⟨o1, hr, Or.inr ⟨by omega, hq1, h, hrun.symm⟩⟩
  refine wp_ifeq (fun c => stop (Or.inl (by omega))) (fun c => ?_)
  refine wp_ifeq (fun c2 => stop (Or.inr (Or.inl (by omega)))) (fun c2 => ?_)
  refine wp_ifeq (fun c3 => stop (Or.inr (Or.inr (by omega)))) (fun c3 => ?_)
  have lt := (gt_len (tp := tp) (p := q.toInt) (by omega)).2
  refine wp_ifeq (fun c4 => ?_) (fun c4 => ?_)
  · have c4' : x.toInt = 123 := c4
    have q1 : (q + (1 : Int32)).toInt = q.toInt + 1 := by rw [i_add (by omega), L.2.1]
    refine wp_bd (s_readBraces ho ht hb hN hn h6 hrp hr hd hl ⟨by omega, lt⟩ (by omega) q1) ?_
    rintro r u2 ⟨o2, hr2, hres⟩
    rw [hrun] at hres
    rcases hres with ⟨a1, a2⟩ | ⟨a1, a2, a3⟩
    · exact wp_ifeq (fun _ => wp_ret ⟨o2, hr2, Or.inl ⟨L.2.2.1, a2⟩⟩) (fun z => by omega)
    · refine wp_ifeq (fun z => by omega) (fun _ => wp_add (by omega) (fun k2 hk2 => ?_))
      exact ih (bo (hrd st), d', r, k2, u2) ⟨rfl, rfl, by dsimp only; omega, by dsimp only; omega, a2, o2, hr2, a3.symm⟩ (by dsimp only; omega)
  · have c4' : x.toInt ≠ 123 := c4
    have S := RUN_step (tp := tp) (nums := nums) (cl := cl) (p := q.toInt) (st := st) (out := o1) t160 (by omega) lt
    rw [if_neg (by omega), if_neg (by omega), if_neg (by omega), hrun] at S
    rw [e_isWithin, bd_r, ite_zo, e32, e126]
    refine wp_if (fun c5 => ?_) (fun c5 => ?_)
    · rw [if_pos (by omega)] at S
      refine wp_bd (s_putByte oku ru) ?_
      rintro _ u2 h2
      rw [hx] at h2
      refine wp_add (by omega) (fun z3 hz3 => wp_add (by omega) (fun k2 hk2 => ?_))
      have hz4 : z3.toInt = q.toInt + 1 := by omega
      exact ih (bo (hrd st), d', z3, k2, u2) ⟨rfl, rfl, by dsimp only; omega, by dsimp only; omega, by dsimp only; omega, _, rs_tr hr h2, by dsimp only; rw [hz4]; exact S.symm⟩ (by dsimp only; omega)
    · rw [if_neg (by omega)] at S
      exact wp_ret ⟨o1, hr, Or.inl ⟨L.2.2.1, S⟩⟩
theorem lpN_s {S R : Type} (body : (S → Option (R × Wd)) → S → Option (R × Wd)) (n : Nat) (s : S) : loopN body (n + 1) s = body (loopN body n) s := rfl
theorem frP_s (m : Nat) : (fun a b d w => loopN (fun rc (σ : Int32 × Int32 × Int32 × Wd) => f_X4_readPieces (fun a b d w => rc (a, b, d, w)) σ.1 σ.2.1 σ.2.2.1 σ.2.2.2) (m + 1) (a, b, d, w)) = (fun a b d w => f_X4_readPieces (fun a b d w => loopN (fun rc (σ : Int32 × Int32 × Int32 × Wd) => f_X4_readPieces (fun a b d w => rc (a, b, d, w)) σ.1 σ.2.1 σ.2.2.1 σ.2.2.2) m (a, b, d, w)) a b d w) := by
  funext a b d w
  rw [lpN_s]
theorem s_frPieces (ho : okall W) (ht : rl W 635 = tp) (hb : tpok tp) (hN : nmc W nums cl) (hn : ∀ k : Int, 0 ≤ k → k < 4 → 0 ≤ gt nums k ∧ gt nums k ≤ 999999) : ∀ (m dep : Nat), dep ≤ 6 → 7 ≤ m + dep → PSP tp nums cl W (fun a b d w => loopN (fun rc (σ : Int32 × Int32 × Int32 × Wd) => f_X4_readPieces (fun a b d w => rc (a, b, d, w)) σ.1 σ.2.1 σ.2.2.1 σ.2.2.2) m (a, b, d, w)) dep := by
  intro m
  induction m with
  | zero => intro dep h1 h2; omega
  | succ m ih =>
    intro dep h1 h2
    rw [frP_s]
    exact s_readPieces ho ht hb hN hn h1 (fun h => ih (dep + 1) (by omega) (by omega))
end

