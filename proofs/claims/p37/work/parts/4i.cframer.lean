/-! ===== directions: the reference lays frames ===== -/
def fsr (b : Int) : Int := if 7 ≤ b ∧ b ≤ 9 then 2 else if b = 4 ∨ b = 5 then 1 else 0
/-- the reference's own frames -/
def frR (w : Wd) (st : FSt) (k : Nat) : Prop :=
  (w.1 713 21).toInt = st.2.2.1.length ∧ (∀ i : Nat, i < k → (w.1 723 i).toInt = gt st.2.1 i) ∧
  ∀ i : Nat, i < st.2.2.1.length → (w.1 728 i).toInt = gt st.2.2.1 i ∧ (w.1 729 i).toInt = fsr (gt st.2.2.2.2.1 i) ∧ (w.1 730 i).toInt = gt st.2.2.2.1 i
def rfr (w w' : Wd) : Prop := rcg (fun f => f = 21) (fun k => k = 723 ∨ (728 ≤ k ∧ k ≤ 730)) w w'
theorem rfr_i {w w' : Wd} {tab : Nat → Int} {l : List Int} (h : rfr w w') (hI : isoL w tab l) : isoL w' tab l := by
  intro k hk
  rw [h.1 725 (by decide) (by omega), h.1 726 (by decide) (by omega)]
  exact hI k hk
theorem L723 : LEN 723 = 40 ∧ LEN 728 = 41 ∧ LEN 729 = 41 ∧ LEN 730 = 41 := by decide +kernel
theorem mod2_all : ∀ n, n < 32 → ((Int32.ofNat n) - (Int32.ofNat n) / (2 : Int32) * (2 : Int32)).toInt = ((n % 2 : Nat) : Int) := by decide +kernel
theorem i_mod2 {x : Int32} (h : 0 ≤ x.toInt ∧ x.toInt < 32) : (x - x / (2 : Int32) * (2 : Int32)).toInt = x.toInt % 2 := by
  have A := mod2_all x.toInt.toNat (by omega)
  rw [i_back h.1] at A
  rw [A]; omega
