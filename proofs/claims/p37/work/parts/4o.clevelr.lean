/-! ===== directions: the reference lays levels ===== -/
section
variable {w0 : Wd} {tab : Nat → Int} {txt : Nat → List Int} {s : Int32} {rc : Int32 × Int32 × Wd → Option (Unit × Wd)} {Q : Unit → Wd → Prop} {st : FSt}
end
theorem th0_v (w : Wd) (v : Int32) : (setI w 713 0 v).1 713 0 = v := by rw [setI_at, if_pos ⟨rfl, rfl⟩]
