/-! ===== encode: the reference ===== -/
def cpp (os : List Int) (x : Int) : List Int := if os.length < 200 then os ++ [x] else os
theorem s_puts {w : Wd} {os : List Int} {x : Int32} (h : rou w os) (h2 : os.length ≤ 200) : Wp (f_X11_puts x w) (fun _ w' => rcg (fun f => f = 9) (fun k => k = 719) w w' ∧ rou w' (cpp os x.toInt)) := by
  have L := LIT
  have e200 : (200 : Int32).toInt = 200 := by decide
  unfold f_X11_puts cpp
  refine wp_ifle (fun c => ?_) (fun c => ?_)
  · rw [h.1] at c
    rw [if_neg (by omega)]
    exact wp_ret ⟨rcg_rf, h⟩
  · rw [h.1] at c
    rw [if_pos (by omega)]
    have h1 := h.1
    refine wp_ast (by rw [L719]; omega) (wp_wr (wp_ret ⟨rcg_tr (rcg_set (by decide) rfl) (rcg_fld rfl), ?_, fun k hk => ?_⟩))
    · rw [setI_at, if_pos ⟨rfl, rfl⟩, setI_at, if_neg (by omega), i_add (by omega), h1, List.length_append, List.length_singleton, L.2.1]; omega
    · rw [List.length_append, List.length_singleton] at hk
      rw [setI_at, if_neg (by omega), setI_at, gt_snoc]
      by_cases e : k = os.length
      · rw [if_pos ⟨rfl, by omega⟩, if_pos (by omega)]
      · rw [if_neg (by omega), if_neg (by omega)]; exact h.2 k (by omega)
theorem cpp_in {os : List Int} {x : Int} (h : os.length < 200) : cpp os x = os ++ [x] := if_pos h
theorem s_addo {w : Wd} {os : List Int} {x : Int32} (ho : okall w) (h : rl w 637 = os) : Wp (f_X7_add 637 x w) (fun _ w' => rs w w' 637 (cpp os x.toInt)) := by
  unfold cpp
  by_cases c : os.length < 200
  · rw [if_pos c]
    refine (s_add (ho _ out_kd.1) (by rw [h, out_kd.2]; exact c)).mono ?_
    rintro _ w' ⟨-, h2⟩
    rw [h] at h2; exact h2
  · rw [if_neg c]
    refine (s_add_full (ho _ out_kd.1) (by rw [h, out_kd.2]; omega)).mono ?_
    rintro _ w' ⟨-, rfl⟩
    rw [← h]; exact rs_rf (ho _ out_kd.1)
theorem r_encode {w : Wd} {txt : Nat → List Int} {s : Int32} (hx : rtx w txt) (hkx : xok txt) :
    Wp (f_X11_encode s w) (fun r w' => rcg (fun f => f = 0 ∨ f = 9) (fun k => k = 719) w w' ∧ ((bad_slot s.toInt ∧ (w'.1 713 0).toInt = 1 ∧ w'.1 713 9 = w.1 713 9 ∧ w'.1 719 = w.1 719) ∨ (¬ bad_slot s.toInt ∧ (w'.1 713 0).toInt = 0 ∧ r.toInt = (enc 0 (txt s.toInt.toNat)).length ∧ rou w' (enc 0 (txt s.toInt.toNat))))) := by
  have L := LIT
  have e64 : (64 : Int32).toInt = 64 := by decide
  have e63 : (63 : Int32).toInt = 63 := by decide
  have e32 : (32 : Int32).toInt = 32 := by decide
  have e14 : (14 : Int32).toInt = 14 := by decide
  have e15 : (15 : Int32).toInt = 15 := by decide
  unfold f_X11_encode f_X11_encode_13
  simp only [e_isSlot, e_holds, bd_r, ite_zo, c01, if_true, if_false]
  refine wp_if (fun hs => ?_) (fun hs => wp_ret ⟨rcg_fld (Or.inl rfl), Or.inl ⟨hs, by rw [setI_at, if_pos ⟨rfl, rfl⟩]; exact L.2.1, by rw [setI_at, if_neg (by omega)], by funext b; rw [setI_at, if_neg (by omega)]⟩⟩)
  have nb : ¬ bad_slot s.toInt := fun q => q hs
  have hsN := slot_lt hs
  have Y := hkx _ hsN
  have R0 : rcg (fun f => f = 0 ∨ f = 9) (fun k => k = 719) w (setI (setI w 713 0 0) 713 9 0) := rcg_tr (rcg_fld (Or.inl rfl)) (rcg_fld (Or.inr rfl))
  have Z0 : ((setI (setI w 713 0 0) 713 9 0).1 713 0).toInt = 0 := by rw [setI_at, if_neg (by omega), setI_at, if_pos ⟨rfl, rfl⟩]; exact L.1
  have O0 : rou (setI (setI w 713 0 0) 713 9 0) [] := ⟨by rw [setI_at, if_pos ⟨rfl, rfl⟩]; exact L.1, fun k hk => absurd hk (Nat.not_lt_zero _)⟩
  refine wp_wr ?_
  generalize setI (setI w 713 0 0) 713 9 0 = W at *
  unfold f_X11_encode_30
  rw [FUv]
  refine wp_loop (fun σ : Int32 × Int32 × Int32 × Wd => σ.1 = s ∧ 0 ≤ σ.2.2.1.toInt ∧ σ.2.2.1.toInt ≤ (txt s.toInt.toNat).length ∧ rcg (fun f => f = 0 ∨ f = 9) (fun k => k = 719) w σ.2.2.2 ∧ (σ.2.2.2.1 713 0).toInt = 0 ∧ ∃ pre : List Int, rou σ.2.2.2 pre ∧ pre.length ≤ 2 * σ.2.2.1.toInt ∧ pre ++ enc σ.2.1.toInt ((txt s.toInt.toNat).drop σ.2.2.1.toInt.toNat) = enc 0 (txt s.toInt.toNat))
    (fun σ => ((txt s.toInt.toNat).length - σ.2.2.1.toInt).toNat) ?_ 100000 _ ⟨rfl, by dsimp only; omega, by dsimp only; omega, R0, Z0, [], O0, by dsimp only; rw [List.length_nil]; omega, by dsimp only; rw [L.1]; rfl⟩ (by dsimp only; omega)
  rintro rc ⟨s', st, i, u⟩ ⟨rfl, hi0, hi1, hr, hz, pre, hou, hp, hspec⟩ ih
  dsimp only at *
  have xu : rtx u txt := rtx_fr hx (hr.1 716 (by decide) (by decide)) (hr.1 717 (by decide) (by decide))
  have up : ∀ u1 u2, rcg (fun f => f = 9) (fun k => k = 719) u1 u2 → rcg (fun f => f = 0 ∨ f = 9) (fun k => k = 719) u1 u2 := fun u1 u2 h => rcg_mono h (fun _ q => Or.inr q) (fun _ q => q)
  unfold g_X11_encode_30
  refine s_len xu hs (fun n hn => ?_)
  refine wp_ifle (fun z => ?_) (fun z => ?_)
  · rw [List.drop_eq_nil_of_le (show (txt s'.toInt.toNat).length ≤ i.toInt.toNat by omega), enc] at hspec
    refine wp_ifeq (fun c => ?_) (fun c => ?_)
    · rw [if_pos (by omega)] at hspec
      refine wp_bd (s_puts (x := (15 : Int32)) hou (by omega)) ?_
      rintro _ u2 ⟨r2, o2⟩
      rw [cpp_in (by omega), e15, hspec] at o2
      exact wp_ret ⟨rcg_tr hr (up _ _ r2), Or.inr ⟨nb, by rw [r2.2.1 0 (by decide)]; exact hz, o2.1, o2⟩⟩
    · rw [if_neg (by omega), List.append_nil] at hspec
      rw [hspec] at hou
      exact wp_ret ⟨hr, Or.inr ⟨nb, hz, hou.1, hou⟩⟩
  · rw [drop_gt (show i.toInt.toNat < (txt s'.toInt.toNat).length by omega), enc] at hspec
    refine wp_bd (s_let xu hs (by omega) Y.1) ?_
    rintro x _ ⟨rfl, hx2⟩
    rw [show i.toInt = ((i.toInt.toNat : Nat) : Int) by omega] at hx2
    have G := gt_letter Y.2 (show i.toInt.toNat < (txt s'.toInt.toNat).length by omega)
    rw [← hx2] at hspec G
    have put : ∀ (u2 : Wd) (p2 : List Int), rcg (fun f => f = 0 ∨ f = 9) (fun k => k = 719) w u2 → (u2.1 713 0).toInt = 0 → rou u2 p2 → p2.length ≤ 2 * i.toInt + 1 → p2 ++ ([32 + x.toInt - 64 * nd x.toInt] ++ enc (nd x.toInt) ((txt s'.toInt.toNat).drop (i.toInt.toNat + 1))) = enc 0 (txt s'.toInt.toNat) → ∀ st2 : Int32, st2.toInt = nd x.toInt → Wp (f_X11_encode_88 rc s' st2 i x u2) (fun r w' => rcg (fun f => f = 0 ∨ f = 9) (fun k => k = 719) w w' ∧ ((bad_slot s'.toInt ∧ (w'.1 713 0).toInt = 1 ∧ w'.1 713 9 = w.1 713 9 ∧ w'.1 719 = w.1 719) ∨ (¬ bad_slot s'.toInt ∧ (w'.1 713 0).toInt = 0 ∧ r.toInt = (enc 0 (txt s'.toInt.toNat)).length ∧ rou w' (enc 0 (txt s'.toInt.toNat))))) := by
      intro u2 p2 hr2 hz2 ho2 hp2 hsp st2 hst
      unfold f_X11_encode_88
      have m := i_rem (x := x) (y := (64 : Int32)) G.1 (by omega)
      rw [e64] at m
      have v : ((32 : Int32) + (x - x / (64 : Int32) * (64 : Int32))).toInt = 32 + x.toInt - 64 * nd x.toInt := by
        rw [i_add (by omega), e32, m]
        show 32 + x.toInt % 64 = 32 + x.toInt - 64 * (if 64 ≤ x.toInt then 1 else 0)
        split <;> omega
      refine wp_bd (s_puts ho2 (by omega)) ?_
      rintro _ u3 ⟨r3, o3⟩
      rw [cpp_in (by omega), v] at o3
      refine wp_add (by omega) (fun z3 hz3 => ?_)
      refine ih (s', st2, z3, u3) ⟨rfl, by dsimp only; omega, by dsimp only; omega, rcg_tr hr2 (up _ _ r3), by dsimp only; rw [r3.2.1 0 (by decide)]; exact hz2, _, o3, by dsimp only; rw [List.length_append, List.length_singleton]; omega, ?_⟩ (by dsimp only; omega)
      dsimp only
      rw [show z3.toInt.toNat = i.toInt.toNat + 1 by omega, hst, List.append_assoc]
      exact hsp
    have go : ∀ need : Int32, need.toInt = nd x.toInt → Wp (f_X11_encode_60 rc s' st i x need u) (fun r w' => rcg (fun f => f = 0 ∨ f = 9) (fun k => k = 719) w w' ∧ ((bad_slot s'.toInt ∧ (w'.1 713 0).toInt = 1 ∧ w'.1 713 9 = w.1 713 9 ∧ w'.1 719 = w.1 719) ∨ (¬ bad_slot s'.toInt ∧ (w'.1 713 0).toInt = 0 ∧ r.toInt = (enc 0 (txt s'.toInt.toNat)).length ∧ rou w' (enc 0 (txt s'.toInt.toNat))))) := by
      intro need hneed
      unfold f_X11_encode_60 f_X11_encode_82
      refine wp_ifeq (fun c => ?_) (fun c => ?_)
      · rw [if_pos (by omega), List.nil_append] at hspec
        exact put u pre hr hz hou (by omega) hspec st (by omega)
      · rw [if_neg (by omega)] at hspec
        refine wp_ifeq (fun c2 => ?_) (fun c2 => ?_)
        · rw [if_pos (by omega), ← List.append_assoc] at hspec
          refine wp_bd (s_puts (x := (14 : Int32)) hou (by omega)) ?_
          rintro _ u2 ⟨r2, o2⟩
          rw [cpp_in (by omega), e14] at o2
          exact put u2 _ (rcg_tr hr (up _ _ r2)) (by rw [r2.2.1 0 (by decide)]; exact hz) o2 (by rw [List.length_append, List.length_singleton]; omega) hspec need hneed
        · rw [if_neg (by omega), ← List.append_assoc] at hspec
          refine wp_bd (s_puts (x := (15 : Int32)) hou (by omega)) ?_
          rintro _ u2 ⟨r2, o2⟩
          rw [cpp_in (by omega), e15] at o2
          exact put u2 _ (rcg_tr hr (up _ _ r2)) (by rw [r2.2.1 0 (by decide)]; exact hz) o2 (by rw [List.length_append, List.length_singleton]; omega) hspec need hneed
    refine wp_ifle (fun c => go 0 ?_) (fun c => go 1 ?_)
    · show (0 : Int32).toInt = if 64 ≤ x.toInt then 1 else 0
      rw [if_neg (by omega)]; exact L.1
    · show (1 : Int32).toInt = if 64 ≤ x.toInt then 1 else 0
      rw [if_pos (by omega)]; exact L.2.1
