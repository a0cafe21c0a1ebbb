/-! ===== breaks, the reference's ===== -/
theorem wbk_6 {a b v u : Int} (h : a = 6 → (v = 1 ↔ u = 1)) (g : wbk a b v) : wbk a b u := by
  rcases g with ⟨h1, h2, h3⟩ | g
  · exact Or.inl ⟨h1, h2, (h h1).mp h3⟩
  · exact Or.inr g
theorem brk_iff {tab : Nat → Int} {l : List Int} {what v : Int} {p : Nat} (h40 : l.length ≤ 40) (hp : 0 < p ∧ p < l.length) (hv : v = 1 ↔ visS tab l 40 p) : (icl tab l p ∧ brkI what (kd tab l (ca tab l (p - 1))) (kd tab l p) v) ↔ brk tab l what p := by
  unfold brk brkI
  have E := fun h6 => vis_S (tab := tab) h40 hp h6
  constructor
  · rintro ⟨c, h⟩
    refine ⟨c, h.imp id ?_⟩
    rintro ⟨h1, h2⟩
    by_cases e : vis tab l 40 p
    · exact ⟨1, ⟨fun _ => e, fun _ => rfl⟩, wbk_6 (fun h6 => ⟨fun _ => rfl, fun _ => hv.mpr ((E h6).mp e)⟩) h1, h2⟩
    · exact ⟨0, ⟨fun q => absurd q (by decide), fun q => absurd q e⟩, wbk_6 (fun h6 => ⟨fun q => absurd ((E h6).mpr (hv.mp q)) e, fun q => absurd q (by decide)⟩) h1, h2⟩
  · rintro ⟨c, h⟩
    refine ⟨c, h.imp id ?_⟩
    rintro ⟨u, hu, h1, h2⟩
    exact ⟨wbk_6 (fun h6 => hu.trans ((E h6).trans hv.symm)) h1, h2⟩
