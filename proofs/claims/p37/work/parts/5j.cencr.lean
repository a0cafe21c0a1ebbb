/-! ===== encode: the reference ===== -/
def cpp (os : List Int) (x : Int) : List Int := if os.length < 200 then os ++ [x] else os
theorem cpp_in {os : List Int} {x : Int} (h : os.length < 200) : cpp os x = os ++ [x] := if_pos h
theorem s_addo {w : Wd} {os : List Int} {x : Int32} (ho : okall w) (h : rl w 637 = os) : Wp (f_X7_add 637 x w) (fun _ w' => rs w w' 637 (cpp os x.toInt)) := by
  unfold cpp
  by_cases c : os.length < 200
  · rw [if_pos c]
    refine (s_add (ho _ out_kd.1) (by rw [h, out_kd.2]; exact c)).mono ?_
    rintro _ w' ⟨-, h2⟩
    rw [h] at h2; exact h2
  · rw [if_neg c]
    refine (s_add_full (ho _ out_kd.1) (by rw [h, out_kd.2]; omega)).mono ?_
    rintro _ w' ⟨-, rfl⟩
    rw [← h]; exact rs_rf (ho _ out_kd.1)
