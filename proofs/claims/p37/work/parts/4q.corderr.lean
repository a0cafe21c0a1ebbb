/-! ===== directions: the reference's order; shown ===== -/
theorem div2_all : ∀ n, n < 64 → ((Int32.ofNat n) / (2 : Int32)).toInt = ((n / 2 : Nat) : Int) := by decide +kernel
theorem i_div2 {x : Int32} (h : 0 ≤ x.toInt ∧ x.toInt < 64) : (x / (2 : Int32)).toInt = x.toInt / 2 := by
  have A := div2_all x.toInt.toNat (by omega)
  rw [i_back h.1] at A
  rw [A]; omega
section
variable {w0 : Wd} {txt : Nat → List Int} {s lev : Int32} {n : Nat} {v : Nat → Int} {o : Nat → Nat} {rc : Int32 × Int32 × Int32 × Wd → Option (Unit × Wd)} {Q : Unit → Wd → Prop}
end
/-! shown -/
/-- the order of a text on the screen -/
def scrn (tab : Nat → Int) (l : List Int) (b : Int) : Nat → Nat := Od l.length (LV tab l (fr tab l (bsF tab l b) l.length)) 13
theorem bsF_01 {tab : Nat → Int} {l : List Int} {b : Int} (hb : b = -1 ∨ b = 0 ∨ b = 1) : bsF tab l b = 0 ∨ bsF tab l b = 1 := by
  unfold bsF
  split
  · exact bf_01 _ _
  · omega
theorem s_look {w : Wd} {tab : Nat → Int} {o : Nat} {b : Int32} {l : List Int} (hk : tok tab) (h : trel w 1 tab) (ho : okall w) (h7 : KD o = 7) (h6 : o ≤ 649) (hl : rl w o = l) (Y : lok40 l) (hb : b.toInt = -1 ∨ b.toInt = 0 ∨ b.toInt = 1) :
    Wp (bd (f_X3_lookAt o b w) (fun _ w9 => f_X3_screen w9)) (fun r w' => r = 671 ∧ lv w w' ∧ ordC w' l.length (scrn tab l b.toInt)) := by
  refine wp_bd (s_lookAt hk h ho h7 h6 hl Y hb) ?_
  rintro _ w1 ⟨V1, e1, e2⟩
  refine (s_screen V1.2 Y.1 ⟨e1, e2⟩ (fun p hp => LV_rng hk Y (bsF_01 hb) hp)).mono ?_
  rintro r w2 ⟨hr, V2, h2⟩
  exact ⟨hr, lv_tr V1 (cr_lv V2 (by decide) (by decide)), h2⟩
theorem bd_bd {R S T : Type} (o : Option (R × Wd)) (f : R → Wd → Option (S × Wd)) (g : S → Wd → Option (T × Wd)) : bd o (fun r w => bd (f r w) g) = bd (bd o f) g := by
  rcases o with _ | ⟨r, w⟩ <;> rfl
theorem k_shown {w : Wd} {tab : Nat → Int} {txt : Nat → List Int} {s p b : Int32} (hk : tok tab) (h : trel w 1 tab) (ho : okall w) (hx : ctx w txt) (hkx : xok txt) :
    Wp (f_X10_shown s p b w) (fun r w' => lv w w' ∧ ((bad_p txt s.toInt p.toInt ∧ r = .inl 1) ∨ (¬ bad_p txt s.toInt p.toInt ∧ bad_b b.toInt ∧ r = .inl 2) ∨
      (¬ bad_p txt s.toInt p.toInt ∧ ¬ bad_b b.toInt ∧ ∃ x : Int32, r = .inr x ∧ x.toInt = (scrn tab (txt s.toInt.toNat) b.toInt p.toInt.toNat : Nat)))) := by
  have L := LIT
  unfold f_X10_shown
  simp only [e_textOf, bdx_c]
  refine wp_if (fun hs => ?_) (fun hs => wp_ret ⟨lv_rf ho, Or.inl ⟨fun q => hs q.1, rfl⟩⟩)
  have hsN := slot_lt hs
  have K := slot_kd _ hsN
  have Y : lok40 (txt s.toInt.toNat) := hkx _ hsN
  refine wp_bd (s_size (ho _ K.1)) ?_
  rintro n _ ⟨rfl, hn⟩
  rw [hx _ hsN] at hn
  simp only [e_checkPlace, bdx_c]
  refine wp_if (fun hp => ?_) (fun hp => wp_ret ⟨lv_rf ho, Or.inl ⟨fun q => hp (by omega), rfl⟩⟩)
  have nb : ¬ bad_p txt s.toInt p.toInt := fun q => q ⟨hs, by omega⟩
  simp only [e_isWithin, bd_r, e_checkArgument, bdx_c]
  refine wp_if (fun hb => ?_) (fun hb => wp_ret ⟨lv_rf ho, Or.inr (Or.inl ⟨nb, fun q => hb (by omega), rfl⟩)⟩)
  rw [bd_bd]
  refine wp_bd (s_look hk h ho K.1 (by omega) (hx _ hsN) Y (by omega)) ?_
  rintro r w1 ⟨rfl, V1, e1⟩
  refine wp_bd (s_get (V1.2 _ KLR.2.2.2.2.2.2.2.2.2.2)) ?_
  rintro x _ ⟨rfl, hx2⟩
  refine wp_ret ⟨V1, Or.inr (Or.inr ⟨nb, fun q => q (by omega), x, rfl, ?_⟩)⟩
  have := e1.2 p.toInt.toNat (by omega)
  rw [show ((p.toInt.toNat : Nat) : Int) = p.toInt by omega] at this
  rw [hx2, this]
