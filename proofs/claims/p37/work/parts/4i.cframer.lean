/-! ===== directions: the reference lays frames ===== -/
def fsr (b : Int) : Int := if 7 ≤ b ∧ b ≤ 9 then 2 else if b = 4 ∨ b = 5 then 1 else 0
theorem mod2_all : ∀ n, n < 32 → ((Int32.ofNat n) - (Int32.ofNat n) / (2 : Int32) * (2 : Int32)).toInt = ((n % 2 : Nat) : Int) := by decide +kernel
theorem i_mod2 {x : Int32} (h : 0 ≤ x.toInt ∧ x.toInt < 32) : (x - x / (2 : Int32) * (2 : Int32)).toInt = x.toInt % 2 := by
  have A := mod2_all x.toInt.toNat (by omega)
  rw [i_back h.1] at A
  rw [A]; omega
