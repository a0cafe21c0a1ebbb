/-! ===== the reference's passes, transliterate ===== -/
def fps (f : Nat) : Prop := f = 11 ∨ f = 39
def ops (k : Nat) : Prop := k = 720 ∨ k = 741
theorem rwk_741 {w w' : Wd} {l : List Int} (h : rcg (fun f => f = 39) (fun k => k = 741) w w') (hw : rwk w l) : rwk w' l := rwk_fr hw (h.2.1 11 (by decide)) (h.1 720 (by decide) (by decide))
