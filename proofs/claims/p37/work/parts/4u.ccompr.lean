/-! ===== orders: the reference ===== -/
def keyR (w : Wd) (K : List Int) : Prop := (w.1 713 29).toInt = K.length ∧ ∀ i : Nat, i < K.length → (w.1 734 i).toInt = gt K i
def kyf (f : Nat) : Prop := f = 11 ∨ f = 12 ∨ f = 29
def kyo (k : Nat) : Prop := k = 720 ∨ k = 734
theorem wko_kyo {w w' : Wd} (h : rcg wkf wko w w') : rcg kyf kyo w w' := rcg_mono h (fun f q => by unfold wkf at q; unfold kyf; omega) (fun k q => Or.inl q)
/-- one more number of the key -/
theorem keyR_put {w : Wd} {K : List Int} {x : Int32} (h : keyR w K) (hl : K.length < 250) : keyR (setI (setI w 734 K.length x) 713 29 (Int32.ofNat (K.length + 1))) (K ++ [x.toInt]) := by
  refine ⟨?_, fun i hi => ?_⟩
  · rw [setI_at, if_pos ⟨rfl, rfl⟩, i_ofNat (by omega), List.length_append, List.length_singleton]
  · rw [List.length_append, List.length_singleton] at hi
    rw [setI_at, if_neg (by omega), setI_at, gt_snoc]
    by_cases e : i = K.length
    · rw [if_pos ⟨rfl, e⟩, if_pos (by omega)]
    · rw [if_neg (fun q => e q.2), if_neg (by omega)]; exact h.2 i (by omega)
section
variable {w0 : Wd} {tab : Nat → Int} {n : Int32} {zs : List Int} {Q : Int32 → Wd → Prop} {rc : Int32 × Int32 × Wd → Option (Int32 × Wd)}
/-- the state in which a key is laid -/
def kyS (w0 w : Wd) (zs K : List Int) : Prop := rcg (fun f => f = 29) (fun k => k = 734) w0 w ∧ rwk w0 zs ∧ keyR w K
end
def cpf (f : Nat) : Prop := f = 0 ∨ f = 11 ∨ f = 12 ∨ f = 29
def cpo (k : Nat) : Prop := k = 720 ∨ k = 734 ∨ k = 735
theorem ky_cp {w w' : Wd} (h : rcg kyf kyo w w') : rcg cpf cpo w w' := rcg_mono h (fun f q => by unfold kyf at q; unfold cpf; omega) (fun k q => by unfold kyo at q; unfold cpo; omega)
def kef (f : Nat) : Prop := f = 0 ∨ f = 11 ∨ f = 12 ∨ f = 29
