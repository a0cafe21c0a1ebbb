/-! LetterTables.isWithin -/
def f_X10_isWithin  (v0 : Int32) (v1 : Int32) (v2 : Int32) (w : Wd) : Option (Int32 × Wd) :=
  (if v0 < v1 then some ((0 : Int32), w) else (if v2 < v0 then some ((0 : Int32), w) else some ((1 : Int32), w)))
/-! LetterTables.checkArgument -/
def f_X10_checkArgument  (v0 : Int32) (w : Wd) : Option ((Nat ⊕ Unit) × Wd) :=
  (if v0 = 0 then some (.inl 2, w) else some (.inr (), w))
/-! LetterTables$Row.size -/
def f_X7_size  (v0 : Nat) (w : Wd) : Option (Int32 × Wd) :=
  some (w.1 v0 1, w)
/-! LetterTables$Row.add -/
def f_X7_add  (v0 : Nat) (v1 : Int32) (w : Wd) : Option (Int32 × Wd) :=
  (if (w.1 v0 1) < 0 then some ((0 : Int32), w) else (if (w.1 v0 1) < (Int32.ofNat (LEN (v0 + 1))) then ast w (v0 + 1) (w.1 v0 1) v1 (fun w1 => wr (setI w1 v0 1 ((w1.1 v0 1) + (1 : Int32))) (fun w2 => some ((1 : Int32), w2))) else some ((0 : Int32), w)))
/-! LetterTables.feed -/
def g_X10_feed_38 (rc_38 : Int64 × Int32 × Int32 × Wd → Option ((Nat ⊕ Int32) × Wd)) (v1 : Int64) (v3 : Int32) (v4 : Int32) (w : Wd) : Option ((Nat ⊕ Int32) × Wd) :=
  (if v3 ≤ v4 then bd (f_X7_size 635 w) (fun x2 w1 => some (.inr x2, w1)) else bd (f_X7_add 635 ((((v1.toUInt64 >>> (((8 : Int32) * v4).toInt64.toUInt64 &&& Int64.toUInt64 63)).toInt64) &&& (255 : Int64)).toInt32) w) (fun x4 w3 => lt (v4 + (1 : Int32)) (fun x5 => rc_38 (v1, v3, x5, w3))))
def f_X10_feed_38  (v1 : Int64) (v3 : Int32) (v4 : Int32) (w : Wd) : Option ((Nat ⊕ Int32) × Wd) :=
  loopN (fun rc σ => g_X10_feed_38 rc  σ.1 σ.2.1 σ.2.2.1 σ.2.2.2) FU (v1, v3, v4, w)
def f_X10_feed  (v1 : Int64) (v3 : Int32) (w : Wd) : Option ((Nat ⊕ Int32) × Wd) :=
  bd (f_X10_isWithin v3 (1 : Int32) (8 : Int32) w) (fun x2 w1 => bdx (f_X10_checkArgument x2 w1) (fun _ w3 => bd (f_X7_size 635 w3) (fun x5 w4 => (if (x5 + v3) ≤ (160 : Int32) then f_X10_feed_38 v1 v3 (0 : Int32) w4 else some (.inl 3, w4)))))
/-! LetterTables.isLetter -/
def f_X10_isLetter  (v0 : Int32) (w : Wd) : Option (Int32 × Wd) :=
  bd (f_X10_isWithin v0 (0 : Int32) (95 : Int32) w) (fun x2 w1 => some (x2, w1))
/-! LetterTables.checkLetter -/
def f_X10_checkLetter  (v0 : Int32) (w : Wd) : Option ((Nat ⊕ Unit) × Wd) :=
  bd (f_X10_isLetter v0 w) (fun x2 w1 => (if x2 = 0 then some (.inl 1, w1) else some (.inr (), w1)))
/-! LetterTables.setCell -/
def f_X10_setCell  (v0 : Nat) (v1 : Int32) (v2 : Int32) (w : Wd) : Option (Unit × Wd) :=
  (if v1 < 0 then some ((), w) else (if (Int32.ofNat (LEN v0)) ≤ v1 then some ((), w) else ast w v0 v1 v2 (fun w1 => some ((), w1))))
/-! LetterTables$Tables.tell -/
def f_X9_tell  (v0 : Nat) (v1 : Int32) (v2 : Int32) (v3 : Int32) (v4 : Int32) (v5 : Int32) (w : Wd) : Option (Unit × Wd) :=
  bd (f_X10_setCell (v0 + 1) v1 v2 w) (fun _ w1 => bd (f_X10_setCell (v0 + 2) v1 v3 w1) (fun _ w2 => bd (f_X10_setCell (v0 + 3) v1 v4 w2) (fun _ w3 => bd (f_X10_setCell (v0 + 4) v1 v5 w3) (fun _ w4 => some ((), w4)))))
/-! LetterTables.letter -/
def f_X10_letter_48  (v1 : Int32) (v2 : Int32) (v3 : Int32) (v4 : Int32) (v5 : Int32) (t0 : Int32) (w : Wd) : Option ((Nat ⊕ Unit) × Wd) :=
  bdx (f_X10_checkArgument t0 w) (fun _ w1 => bd (f_X9_tell 1 v1 v2 v3 v4 v5 w1) (fun _ w2 => some (.inr (), w2)))
def f_X10_letter_47  (v1 : Int32) (v2 : Int32) (v3 : Int32) (v4 : Int32) (v5 : Int32) (w : Wd) : Option ((Nat ⊕ Unit) × Wd) :=
  f_X10_letter_48 v1 v2 v3 v4 v5 (0 : Int32) w
def f_X10_letter  (v1 : Int32) (v2 : Int32) (v3 : Int32) (v4 : Int32) (v5 : Int32) (w : Wd) : Option ((Nat ⊕ Unit) × Wd) :=
  bdx (f_X10_checkLetter v1 w) (fun _ w1 => bd (f_X10_isWithin v2 (0 : Int32) (9 : Int32) w1) (fun x3 w2 => (if x3 = 0 then f_X10_letter_47 v1 v2 v3 v4 v5 w2 else bd (f_X10_isWithin v3 (0 : Int32) (10 : Int32) w2) (fun x5 w4 => (if x5 = 0 then f_X10_letter_47 v1 v2 v3 v4 v5 w4 else bd (f_X10_isWithin v4 (0 : Int32) (6 : Int32) w4) (fun x7 w6 => (if x7 = 0 then f_X10_letter_47 v1 v2 v3 v4 v5 w6 else bd (f_X10_isLetter v5 w6) (fun x9 w8 => (if x9 = 0 then f_X10_letter_47 v1 v2 v3 v4 v5 w8 else f_X10_letter_48 v1 v2 v3 v4 v5 (1 : Int32) w8)))))))))
/-! LetterTables$Tables.tellSplit -/
def f_X9_tellSplit  (v0 : Nat) (v1 : Int32) (v2 : Int32) (v3 : Int32) (w : Wd) : Option (Unit × Wd) :=
  bd (f_X10_setCell (v0 + 5) v1 v2 w) (fun _ w1 => bd (f_X10_setCell (v0 + 6) v1 v3 w1) (fun _ w2 => some ((), w2)))
/-! LetterTables.split -/
def f_X10_split_53  (v1 : Int32) (v2 : Int32) (v3 : Int32) (t0 : Int32) (w : Wd) : Option ((Nat ⊕ Unit) × Wd) :=
  bdx (f_X10_checkArgument t0 w) (fun _ w1 => bd (f_X9_tellSplit 1 v1 v2 v3 w1) (fun _ w2 => some (.inr (), w2)))
def f_X10_split_52  (v1 : Int32) (v2 : Int32) (v3 : Int32) (w : Wd) : Option ((Nat ⊕ Unit) × Wd) :=
  f_X10_split_53 v1 v2 v3 (0 : Int32) w
def f_X10_split_19  (v1 : Int32) (v2 : Int32) (v3 : Int32) (t0 : Int32) (w : Wd) : Option ((Nat ⊕ Unit) × Wd) :=
  (if t0 = 0 then bd (f_X10_isWithin v2 (0 : Int32) (v1 - (1 : Int32)) w) (fun x2 w1 => (if x2 = 0 then f_X10_split_52 v1 v2 v3 w1 else bd (f_X10_isWithin v3 (0 : Int32) (v1 - (1 : Int32)) w1) (fun x4 w3 => (if x4 = 0 then f_X10_split_52 v1 v2 v3 w3 else f_X10_split_53 v1 v2 v3 (1 : Int32) w3)))) else f_X10_split_53 v1 v2 v3 (1 : Int32) w)
def f_X10_split_18  (v1 : Int32) (v2 : Int32) (v3 : Int32) (w : Wd) : Option ((Nat ⊕ Unit) × Wd) :=
  f_X10_split_19 v1 v2 v3 (0 : Int32) w
def f_X10_split  (v1 : Int32) (v2 : Int32) (v3 : Int32) (w : Wd) : Option ((Nat ⊕ Unit) × Wd) :=
  bdx (f_X10_checkLetter v1 w) (fun _ w1 => (if v2 = (-1 : Int32) then (if v3 = (-1 : Int32) then f_X10_split_19 v1 v2 v3 (1 : Int32) w1 else f_X10_split_18 v1 v2 v3 w1) else f_X10_split_18 v1 v2 v3 w1))
/-! LetterTables$Tables.tellCapital -/
def f_X9_tellCapital  (v0 : Nat) (v1 : Int32) (v2 : Int32) (v3 : Int32) (w : Wd) : Option (Unit × Wd) :=
  bd (f_X10_setCell (v0 + 7) v1 v2 w) (fun _ w1 => bd (f_X10_setCell (v0 + 8) v1 v3 w1) (fun _ w2 => some ((), w2)))
/-! LetterTables.capital -/
def f_X10_capital_50  (v1 : Int32) (v2 : Int32) (v3 : Int32) (t0 : Int32) (w : Wd) : Option ((Nat ⊕ Unit) × Wd) :=
  bdx (f_X10_checkArgument t0 w) (fun _ w1 => bd (f_X9_tellCapital 1 v1 v2 v3 w1) (fun _ w2 => some (.inr (), w2)))
def f_X10_capital_49  (v1 : Int32) (v2 : Int32) (v3 : Int32) (w : Wd) : Option ((Nat ⊕ Unit) × Wd) :=
  f_X10_capital_50 v1 v2 v3 (0 : Int32) w
def f_X10_capital_19  (v1 : Int32) (v2 : Int32) (v3 : Int32) (t0 : Int32) (w : Wd) : Option ((Nat ⊕ Unit) × Wd) :=
  (if t0 = 0 then bd (f_X10_isLetter v2 w) (fun x2 w1 => (if x2 = 0 then f_X10_capital_49 v1 v2 v3 w1 else (if v3 = (-1 : Int32) then f_X10_capital_50 v1 v2 v3 (1 : Int32) w1 else bd (f_X10_isLetter v3 w1) (fun x4 w3 => (if x4 = 0 then f_X10_capital_49 v1 v2 v3 w3 else f_X10_capital_50 v1 v2 v3 (1 : Int32) w3))))) else f_X10_capital_50 v1 v2 v3 (1 : Int32) w)
def f_X10_capital_18  (v1 : Int32) (v2 : Int32) (v3 : Int32) (w : Wd) : Option ((Nat ⊕ Unit) × Wd) :=
  f_X10_capital_19 v1 v2 v3 (0 : Int32) w
def f_X10_capital  (v1 : Int32) (v2 : Int32) (v3 : Int32) (w : Wd) : Option ((Nat ⊕ Unit) × Wd) :=
  bdx (f_X10_checkLetter v1 w) (fun _ w1 => (if v2 = (-1 : Int32) then (if v3 = (-1 : Int32) then f_X10_capital_19 v1 v2 v3 (1 : Int32) w1 else f_X10_capital_18 v1 v2 v3 w1) else f_X10_capital_18 v1 v2 v3 w1))
/-! LetterTables.cellOf -/
def f_X10_cellOf  (v0 : Nat) (v1 : Int32) (v2 : Int32) (w : Wd) : Option (Int32 × Wd) :=
  (if v1 < 0 then some (v2, w) else (if v1 < (Int32.ofNat (LEN v0)) then ald w v0 v1 (fun x1 => some (x1, w)) else some (v2, w)))
/-! LetterTables$Tables.partnerOf -/
def f_X9_partnerOf  (v0 : Nat) (v1 : Int32) (w : Wd) : Option (Int32 × Wd) :=
  bd (f_X10_cellOf (v0 + 9) v1 (-1 : Int32) w) (fun x2 w1 => some (x2, w1))
/-! LetterTables$Tables.tellPartners -/
def f_X9_tellPartners  (v0 : Nat) (v1 : Int32) (v2 : Int32) (w : Wd) : Option (Unit × Wd) :=
  bd (f_X10_setCell (v0 + 9) v1 v2 w) (fun _ w1 => bd (f_X10_setCell (v0 + 9) v2 v1 w1) (fun _ w2 => bd (f_X10_setCell (v0 + 10) v1 (1 : Int32) w2) (fun _ w3 => bd (f_X10_setCell (v0 + 10) v2 (0 : Int32) w3) (fun _ w4 => some ((), w4)))))
/-! LetterTables.partners -/
def f_X10_partners_37   (w : Wd) : Option ((Nat ⊕ Unit) × Wd) :=
  some (.inl 3, w)
def f_X10_partners  (v1 : Int32) (v2 : Int32) (w : Wd) : Option ((Nat ⊕ Unit) × Wd) :=
  bdx (f_X10_checkLetter v1 w) (fun _ w1 => bdx (f_X10_checkLetter v2 w1) (fun _ w2 => (if v1 = v2 then f_X10_partners_37 w2 else bd (f_X9_partnerOf 1 v1 w2) (fun x4 w3 => (if x4 = (-1 : Int32) then bd (f_X9_partnerOf 1 v2 w3) (fun x6 w5 => (if x6 = (-1 : Int32) then bd (f_X9_tellPartners 1 v1 v2 w5) (fun _ w7 => some (.inr (), w7)) else f_X10_partners_37 w5)) else f_X10_partners_37 w3)))))
/-! LetterTables$Tables.languageAt -/
def f_X9_languageAt  (v0 : Nat) (v1 : Int32) (w : Wd) : Option (Option Nat × Wd) :=
  (if v1 < 0 then some (none, w) else (if v1 < (Int32.ofNat (LEN (v0 + 11))) then ard (v0 + 11) v1 (fun r1 => some (some r1, w)) else some (none, w)))
/-! LetterTables.languageOf -/
def f_X10_languageOf  (v1 : Int32) (w : Wd) : Option ((Nat ⊕ Nat) × Wd) :=
  bdq (f_X9_languageAt 1 v1 w) (fun w2 => some (.inl 1, w2)) (fun r1 w3 => some (.inr r1, w3))
/-! LetterTables.checkWeights -/
def f_X10_checkWeights_35  (t0 : Int32) (w : Wd) : Option ((Nat ⊕ Unit) × Wd) :=
  bdx (f_X10_checkArgument t0 w) (fun _ w1 => some (.inr (), w1))
def f_X10_checkWeights_34   (w : Wd) : Option ((Nat ⊕ Unit) × Wd) :=
  f_X10_checkWeights_35 (0 : Int32) w
def f_X10_checkWeights  (v0 : Int32) (v1 : Int32) (v2 : Int32) (w : Wd) : Option ((Nat ⊕ Unit) × Wd) :=
  bd (f_X10_isWithin v0 (0 : Int32) (99 : Int32) w) (fun x2 w1 => (if x2 = 0 then f_X10_checkWeights_34 w1 else bd (f_X10_isWithin v1 (0 : Int32) (9 : Int32) w1) (fun x4 w3 => (if x4 = 0 then f_X10_checkWeights_34 w3 else bd (f_X10_isWithin v2 (0 : Int32) (9 : Int32) w3) (fun x6 w5 => (if x6 = 0 then f_X10_checkWeights_34 w5 else f_X10_checkWeights_35 (1 : Int32) w5))))))
/-! LetterTables$Language.weighUnit -/
def f_X2_weighUnit  (v0 : Nat) (v1 : Int32) (v2 : Int32) (v3 : Int32) (v4 : Int32) (w : Wd) : Option (Unit × Wd) :=
  bd (f_X10_setCell (v0 + 1) v1 v2 w) (fun _ w1 => bd (f_X10_setCell (v0 + 2) v1 v3 w1) (fun _ w2 => bd (f_X10_setCell (v0 + 3) v1 v4 w2) (fun _ w3 => some ((), w3))))
/-! LetterTables.weigh -/
def f_X10_weigh  (v1 : Int32) (v2 : Int32) (v3 : Int32) (v4 : Int32) (v5 : Int32) (w : Wd) : Option ((Nat ⊕ Unit) × Wd) :=
  bdx (f_X10_languageOf v1 w) (fun r2 w1 => bdx (f_X10_checkLetter v2 w1) (fun _ w3 => bdx (f_X10_checkWeights v3 v4 v5 w3) (fun _ w4 => bd (f_X2_weighUnit r2 v2 v3 v4 v5 w4) (fun _ w5 => some (.inr (), w5)))))
/-! LetterTables$Row.get -/
def f_X7_get  (v0 : Nat) (v1 : Int32) (w : Wd) : Option (Int32 × Wd) :=
  (if v1 < 0 then some ((-1 : Int32), w) else (if (w.1 v0 1) ≤ v1 then some ((-1 : Int32), w) else (if v1 < (Int32.ofNat (LEN (v0 + 1))) then ald w (v0 + 1) v1 (fun x1 => some (x1, w)) else some ((-1 : Int32), w))))
/-! LetterTables$Language.contractionOf -/
def g_X2_contractionOf_2 (rc_2 : Nat × Int32 × Int32 × Int32 × Wd → Option (Int32 × Wd)) (v0 : Nat) (v1 : Int32) (v2 : Int32) (v3 : Int32) (w : Wd) : Option (Int32 × Wd) :=
  bd (f_X7_size (v0 + 4) w) (fun x2 w1 => (if x2 ≤ v3 then some ((-1 : Int32), w1) else bd (f_X7_get (v0 + 4) v3 w1) (fun x4 w3 => (if x4 = v1 then bd (f_X7_get (v0 + 6) v3 w3) (fun x7 w6 => (if x7 = v2 then some ((96 : Int32) + v3, w6) else lt (v3 + (1 : Int32)) (fun x8 => rc_2 (v0, v1, v2, x8, w6)))) else lt (v3 + (1 : Int32)) (fun x5 => rc_2 (v0, v1, v2, x5, w3))))))
def f_X2_contractionOf_2  (v0 : Nat) (v1 : Int32) (v2 : Int32) (v3 : Int32) (w : Wd) : Option (Int32 × Wd) :=
  loopN (fun rc σ => g_X2_contractionOf_2 rc  σ.1 σ.2.1 σ.2.2.1 σ.2.2.2.1 σ.2.2.2.2) FU (v0, v1, v2, v3, w)
def f_X2_contractionOf  (v0 : Nat) (v1 : Int32) (v2 : Int32) (w : Wd) : Option (Int32 × Wd) :=
  f_X2_contractionOf_2 v0 v1 v2 (0 : Int32) w
/-! LetterTables$Language.addContraction -/
def f_X2_addContraction  (v0 : Nat) (v1 : Int32) (v2 : Int32) (w : Wd) : Option (Int32 × Wd) :=
  bd (f_X7_add (v0 + 4) v1 w) (fun x2 w1 => (if x2 = 0 then some ((-1 : Int32), w1) else bd (f_X7_add (v0 + 6) v2 w1) (fun x4 w3 => (if x4 = 0 then some ((-1 : Int32), w3) else bd (f_X7_size (v0 + 4) w3) (fun x6 w5 => some (((96 : Int32) + x6) - (1 : Int32), w5))))))
/-! LetterTables$Language.contractionCount -/
def f_X2_contractionCount  (v0 : Nat) (w : Wd) : Option (Int32 × Wd) :=
  bd (f_X7_size (v0 + 4) w) (fun x2 w1 => some (x2, w1))
/-! LetterTables.contract -/
def f_X10_contract_48  (v4 : Int32) (v5 : Int32) (v6 : Int32) (v7 : Nat) (v8 : Int32) (w : Wd) : Option ((Nat ⊕ Int32) × Wd) :=
  (if v8 = (-1 : Int32) then some (.inl 3, w) else bd (f_X2_weighUnit v7 v8 v4 v5 v6 w) (fun _ w1 => bd (f_X2_contractionCount v7 w1) (fun x3 w2 => some (.inr x3, w2))))
def f_X10_contract  (v1 : Int32) (v2 : Int32) (v3 : Int32) (v4 : Int32) (v5 : Int32) (v6 : Int32) (w : Wd) : Option ((Nat ⊕ Int32) × Wd) :=
  bdx (f_X10_languageOf v1 w) (fun r2 w1 => bdx (f_X10_checkLetter v2 w1) (fun _ w3 => bdx (f_X10_checkLetter v3 w3) (fun _ w4 => bdx (f_X10_checkWeights v4 v5 v6 w4) (fun _ w5 => bd (f_X2_contractionOf r2 v2 v3 w5) (fun x7 w6 => (if x7 = (-1 : Int32) then bd (f_X2_addContraction r2 v2 v3 w6) (fun x9 w8 => f_X10_contract_48 v4 v5 v6 r2 x9 w8) else f_X10_contract_48 v4 v5 v6 r2 x7 w6))))))
/-! LetterTables.isRange -/
def f_X10_isRange  (v0 : Int32) (v1 : Int32) (w : Wd) : Option (Int32 × Wd) :=
  bd (f_X10_isWithin v0 (0 : Int32) (99 : Int32) w) (fun x2 w1 => (if x2 = 0 then some ((0 : Int32), w1) else bd (f_X10_isWithin v1 v0 (99 : Int32) w1) (fun x4 w3 => (if x4 = 0 then some ((0 : Int32), w3) else some ((1 : Int32), w3)))))
/-! LetterTables$Language.nextPlural -/
def f_X2_nextPlural  (v0 : Nat) (w : Wd) : Option (Option Nat × Wd) :=
  (if (w.1 v0 6) < 0 then some (none, w) else (if (w.1 v0 6) < (Int32.ofNat (LEN (v0 + 8))) then ard (v0 + 8) (w.1 v0 6) (fun r1 => some (some r1, w)) else some (none, w)))
/-! LetterTables$PluralRule.tell -/
def f_X6_tell  (v0 : Nat) (v1 : Int32) (v2 : Int32) (v3 : Int32) (v4 : Int32) (v5 : Int32) (v6 : Int32) (v7 : Int32) (w : Wd) : Option (Unit × Wd) :=
  wr (setI w v0 0 v1) (fun w1 => wr (setI w1 v0 1 v2) (fun w2 => wr (setI w2 v0 2 v3) (fun w3 => wr (setI w3 v0 3 v4) (fun w4 => wr (setI w4 v0 4 v5) (fun w5 => wr (setI w5 v0 5 v6) (fun w6 => wr (setI w6 v0 6 v7) (fun w7 => some ((), w7))))))))
/-! LetterTables$Language.countPlural -/
def f_X2_countPlural  (v0 : Nat) (w : Wd) : Option (Int32 × Wd) :=
  wr (setI w v0 6 ((w.1 v0 6) + (1 : Int32))) (fun w1 => some (w1.1 v0 6, w1))
/-! LetterTables.plural -/
def f_X10_plural_97  (v2 : Int32) (v3 : Int32) (v4 : Int32) (v5 : Int32) (v6 : Int32) (v7 : Int32) (v8 : Int32) (v9 : Nat) (t0 : Int32) (w : Wd) : Option ((Nat ⊕ Int32) × Wd) :=
  bdx (f_X10_checkArgument t0 w) (fun _ w1 => bdq (f_X2_nextPlural v9 w1) (fun w3 => some (.inl 3, w3)) (fun r2 w4 => bd (f_X6_tell r2 v2 v3 v4 v5 v6 v7 v8 w4) (fun _ w5 => bd (f_X2_countPlural v9 w5) (fun x7 w6 => some (.inr x7, w6)))))
def f_X10_plural_96  (v2 : Int32) (v3 : Int32) (v4 : Int32) (v5 : Int32) (v6 : Int32) (v7 : Int32) (v8 : Int32) (v9 : Nat) (w : Wd) : Option ((Nat ⊕ Int32) × Wd) :=
  f_X10_plural_97 v2 v3 v4 v5 v6 v7 v8 v9 (0 : Int32) w
def f_X10_plural_64  (v2 : Int32) (v3 : Int32) (v4 : Int32) (v5 : Int32) (v6 : Int32) (v7 : Int32) (v8 : Int32) (v9 : Nat) (t0 : Int32) (w : Wd) : Option ((Nat ⊕ Int32) × Wd) :=
  (if t0 = 0 then bd (f_X10_isWithin v6 (1 : Int32) (100 : Int32) w) (fun x2 w1 => (if x2 = 0 then f_X10_plural_96 v2 v3 v4 v5 v6 v7 v8 v9 w1 else bd (f_X10_isRange v7 v8 w1) (fun x4 w3 => (if x4 = 0 then f_X10_plural_96 v2 v3 v4 v5 v6 v7 v8 v9 w3 else f_X10_plural_97 v2 v3 v4 v5 v6 v7 v8 v9 (1 : Int32) w3)))) else f_X10_plural_97 v2 v3 v4 v5 v6 v7 v8 v9 (1 : Int32) w)
def f_X10_plural_63  (v2 : Int32) (v3 : Int32) (v4 : Int32) (v5 : Int32) (v6 : Int32) (v7 : Int32) (v8 : Int32) (v9 : Nat) (w : Wd) : Option ((Nat ⊕ Int32) × Wd) :=
  f_X10_plural_64 v2 v3 v4 v5 v6 v7 v8 v9 (0 : Int32) w
def f_X10_plural_41  (v2 : Int32) (v3 : Int32) (v4 : Int32) (v5 : Int32) (v6 : Int32) (v7 : Int32) (v8 : Int32) (v9 : Nat) (t0 : Int32) (w : Wd) : Option ((Nat ⊕ Int32) × Wd) :=
  bdx (f_X10_checkArgument t0 w) (fun _ w1 => (if v6 = 0 then (if v7 = 0 then (if v8 = 0 then f_X10_plural_64 v2 v3 v4 v5 v6 v7 v8 v9 (1 : Int32) w1 else f_X10_plural_63 v2 v3 v4 v5 v6 v7 v8 v9 w1) else f_X10_plural_63 v2 v3 v4 v5 v6 v7 v8 v9 w1) else f_X10_plural_63 v2 v3 v4 v5 v6 v7 v8 v9 w1))
def f_X10_plural_40  (v2 : Int32) (v3 : Int32) (v4 : Int32) (v5 : Int32) (v6 : Int32) (v7 : Int32) (v8 : Int32) (v9 : Nat) (w : Wd) : Option ((Nat ⊕ Int32) × Wd) :=
  f_X10_plural_41 v2 v3 v4 v5 v6 v7 v8 v9 (0 : Int32) w
def f_X10_plural  (v1 : Int32) (v2 : Int32) (v3 : Int32) (v4 : Int32) (v5 : Int32) (v6 : Int32) (v7 : Int32) (v8 : Int32) (w : Wd) : Option ((Nat ⊕ Int32) × Wd) :=
  bdx (f_X10_languageOf v1 w) (fun r2 w1 => bd (f_X10_isWithin v2 (0 : Int32) (2 : Int32) w1) (fun x4 w3 => (if x4 = 0 then f_X10_plural_40 v2 v3 v4 v5 v6 v7 v8 r2 w3 else bd (f_X10_isWithin v3 (1 : Int32) (100 : Int32) w3) (fun x6 w5 => (if x6 = 0 then f_X10_plural_40 v2 v3 v4 v5 v6 v7 v8 r2 w5 else bd (f_X10_isRange v4 v5 w5) (fun x8 w7 => (if x8 = 0 then f_X10_plural_40 v2 v3 v4 v5 v6 v7 v8 r2 w7 else f_X10_plural_41 v2 v3 v4 v5 v6 v7 v8 r2 (1 : Int32) w7)))))))
/-! LetterTables.textOf -/
def f_X10_textOf_13   (w : Wd) : Option ((Nat ⊕ Nat) × Wd) :=
  some (.inl 1, w)
def f_X10_textOf  (v1 : Int32) (w : Wd) : Option ((Nat ⊕ Nat) × Wd) :=
  (if v1 < 0 then f_X10_textOf_13 w else (if v1 < (Int32.ofNat (LEN 622)) then ard 622 v1 (fun r1 => some (.inr r1, w)) else f_X10_textOf_13 w))
/-! LetterTables$Row.takeOver -/
def g_X7_takeOver_13 (rc_13 : Nat × Nat × Int32 × Wd → Option (Unit × Wd)) (v0 : Nat) (v1 : Nat) (v2 : Int32) (w : Wd) : Option (Unit × Wd) :=
  (if (w.1 v1 1) ≤ v2 then some ((), w) else bd (f_X7_get v1 v2 w) (fun x2 w1 => bd (f_X7_add v0 x2 w1) (fun x4 w3 => lt (v2 + (1 : Int32)) (fun x5 => rc_13 (v0, v1, x5, w3)))))
def f_X7_takeOver_13  (v0 : Nat) (v1 : Nat) (v2 : Int32) (w : Wd) : Option (Unit × Wd) :=
  loopN (fun rc σ => g_X7_takeOver_13 rc  σ.1 σ.2.1 σ.2.2.1 σ.2.2.2) FU (v0, v1, v2, w)
def f_X7_takeOver  (v0 : Nat) (v1 : Nat) (w : Wd) : Option (Unit × Wd) :=
  (if v1 = v0 then some ((), w) else wr (setI w v0 1 (0 : Int32)) (fun w1 => f_X7_takeOver_13 v0 v1 (0 : Int32) w1))
/-! LetterTables$Tables.takeWord -/
def f_X9_takeWord  (v0 : Nat) (v1 : Nat) (w : Wd) : Option (Int32 × Wd) :=
  (if (w.1 v0 12) < 0 then some ((0 : Int32), w) else (if (w.1 v0 12) < (Int32.ofNat (LEN (v0 + 38))) then ard (v0 + 38) (w.1 v0 12) (fun r1 => bd (f_X7_takeOver r1 v1 w) (fun _ w2 => wr (setI w2 v0 12 ((w2.1 v0 12) + (1 : Int32))) (fun w3 => some ((1 : Int32), w3)))) else some ((0 : Int32), w)))
/-! LetterTables$Tables.wordCount -/
def f_X9_wordCount  (v0 : Nat) (w : Wd) : Option (Int32 × Wd) :=
  some (w.1 v0 12, w)
/-! LetterTables.addWord -/
def f_X10_addWord_30   (w : Wd) : Option ((Nat ⊕ Int32) × Wd) :=
  some (.inl 3, w)
def f_X10_addWord  (v1 : Int32) (w : Wd) : Option ((Nat ⊕ Int32) × Wd) :=
  bdx (f_X10_textOf v1 w) (fun r2 w1 => bd (f_X7_size r2 w1) (fun x4 w3 => bd (f_X10_isWithin x4 (1 : Int32) (8 : Int32) w3) (fun x6 w5 => (if x6 = 0 then f_X10_addWord_30 w5 else bd (f_X9_takeWord 1 r2 w5) (fun x8 w7 => (if x8 = 0 then f_X10_addWord_30 w7 else bd (f_X9_wordCount 1 w7) (fun x10 w9 => some (.inr x10, w9))))))))
/-! LetterTables$Tables.nextRule -/
def f_X9_nextRule  (v0 : Nat) (w : Wd) : Option (Option Nat × Wd) :=
  (if (w.1 v0 14) < 0 then some (none, w) else (if (w.1 v0 14) < (Int32.ofNat (LEN (v0 + 51))) then ard (v0 + 51) (w.1 v0 14) (fun r1 => some (some r1, w)) else some (none, w)))
/-! LetterTables$Rule.tell -/
def f_X8_tell  (v0 : Nat) (v1 : Int32) (v2 : Nat) (v3 : Nat) (v4 : Nat) (v5 : Nat) (w : Wd) : Option (Unit × Wd) :=
  wr (setI w v0 0 v1) (fun w1 => bd (f_X7_takeOver (v0 + 1) v2 w1) (fun _ w2 => bd (f_X7_takeOver (v0 + 3) v3 w2) (fun _ w3 => bd (f_X7_takeOver (v0 + 5) v4 w3) (fun _ w4 => bd (f_X7_takeOver (v0 + 7) v5 w4) (fun _ w5 => some ((), w5))))))
/-! LetterTables$Tables.countRule -/
def f_X9_countRule  (v0 : Nat) (w : Wd) : Option (Int32 × Wd) :=
  wr (setI w v0 14 ((w.1 v0 14) + (1 : Int32))) (fun w1 => some (w1.1 v0 14, w1))
/-! LetterTables.addRule -/
def f_X10_addRule_105   (w : Wd) : Option ((Nat ⊕ Int32) × Wd) :=
  some (.inl 3, w)
def f_X10_addRule_84  (v1 : Int32) (v6 : Nat) (v7 : Nat) (v8 : Nat) (v9 : Nat) (t0 : Int32) (w : Wd) : Option ((Nat ⊕ Int32) × Wd) :=
  bdq (f_X9_nextRule 1 w) (fun w2 => (if t0 = 0 then f_X10_addRule_105 w2 else f_X10_addRule_105 w2)) (fun r1 w3 => (if t0 = 0 then f_X10_addRule_105 w3 else bd (f_X8_tell r1 v1 v6 v7 v8 v9 w3) (fun _ w4 => bd (f_X9_countRule 1 w4) (fun x6 w5 => some (.inr x6, w5)))))
def f_X10_addRule_83  (v1 : Int32) (v6 : Nat) (v7 : Nat) (v8 : Nat) (v9 : Nat) (w : Wd) : Option ((Nat ⊕ Int32) × Wd) :=
  f_X10_addRule_84 v1 v6 v7 v8 v9 (0 : Int32) w
def f_X10_addRule  (v1 : Int32) (v2 : Int32) (v3 : Int32) (v4 : Int32) (v5 : Int32) (w : Wd) : Option ((Nat ⊕ Int32) × Wd) :=
  bdx (f_X10_textOf v2 w) (fun r2 w1 => bdx (f_X10_textOf v3 w1) (fun r4 w3 => bdx (f_X10_textOf v4 w3) (fun r6 w5 => bdx (f_X10_textOf v5 w5) (fun r8 w7 => bd (f_X10_isWithin v1 (0 : Int32) (1 : Int32) w7) (fun x10 w9 => bdx (f_X10_checkArgument x10 w9) (fun _ w11 => bd (f_X7_size r2 w11) (fun x13 w12 => (if (2 : Int32) < x13 then f_X10_addRule_83 v1 r2 r4 r6 r8 w12 else bd (f_X7_size r6 w12) (fun x15 w14 => (if (2 : Int32) < x15 then f_X10_addRule_83 v1 r2 r4 r6 r8 w14 else bd (f_X7_size r4 w14) (fun x17 w16 => bd (f_X10_isWithin x17 (1 : Int32) (3 : Int32) w16) (fun x19 w18 => (if x19 = 0 then f_X10_addRule_83 v1 r2 r4 r6 r8 w18 else bd (f_X7_size r8 w18) (fun x21 w20 => (if (3 : Int32) < x21 then f_X10_addRule_83 v1 r2 r4 r6 r8 w20 else f_X10_addRule_84 v1 r2 r4 r6 r8 (1 : Int32) w20)))))))))))))))
/-! LetterTables.copyCells -/
def g_X10_copyCells_2 (rc_2 : Nat × Nat × Int32 × Wd → Option (Unit × Wd)) (v0 : Nat) (v1 : Nat) (v2 : Int32) (w : Wd) : Option (Unit × Wd) :=
  (if (Int32.ofNat (LEN v0)) ≤ v2 then some ((), w) else (if (Int32.ofNat (LEN v1)) ≤ v2 then some ((), w) else ald w v0 v2 (fun x1 => ast w v1 v2 x1 (fun w2 => lt (v2 + (1 : Int32)) (fun x3 => rc_2 (v0, v1, x3, w2))))))
def f_X10_copyCells_2  (v0 : Nat) (v1 : Nat) (v2 : Int32) (w : Wd) : Option (Unit × Wd) :=
  loopN (fun rc σ => g_X10_copyCells_2 rc  σ.1 σ.2.1 σ.2.2.1 σ.2.2.2) FU (v0, v1, v2, w)
def f_X10_copyCells  (v0 : Nat) (v1 : Nat) (w : Wd) : Option (Unit × Wd) :=
  f_X10_copyCells_2 v0 v1 (0 : Int32) w
/-! LetterTables$PluralRule.copyFrom -/
def f_X6_copyFrom  (v0 : Nat) (v1 : Nat) (w : Wd) : Option (Unit × Wd) :=
  bd (f_X6_tell v0 (w.1 v1 0) (w.1 v1 1) (w.1 v1 2) (w.1 v1 3) (w.1 v1 4) (w.1 v1 5) (w.1 v1 6) w) (fun _ w1 => some ((), w1))
/-! LetterTables$Language.copyFrom -/
def f_X2_copyFrom_96  (v0 : Nat) (v1 : Nat) (w : Wd) : Option (Unit × Wd) :=
  wr (setI w v0 6 (w.1 v1 6)) (fun w1 => some ((), w1))
def g_X2_copyFrom_57 (rc_57 : Nat × Nat × Int32 × Wd → Option (Unit × Wd)) (v0 : Nat) (v1 : Nat) (v2 : Int32) (w : Wd) : Option (Unit × Wd) :=
  (if (Int32.ofNat (LEN (v0 + 8))) ≤ v2 then f_X2_copyFrom_96 v0 v1 w else (if (Int32.ofNat (LEN (v1 + 8))) ≤ v2 then f_X2_copyFrom_96 v0 v1 w else ard (v0 + 8) v2 (fun r1 => ard (v1 + 8) v2 (fun r2 => bd (f_X6_copyFrom r1 r2 w) (fun _ w3 => lt (v2 + (1 : Int32)) (fun x4 => rc_57 (v0, v1, x4, w3)))))))
def f_X2_copyFrom_57  (v0 : Nat) (v1 : Nat) (v2 : Int32) (w : Wd) : Option (Unit × Wd) :=
  loopN (fun rc σ => g_X2_copyFrom_57 rc  σ.1 σ.2.1 σ.2.2.1 σ.2.2.2) FU (v0, v1, v2, w)
def f_X2_copyFrom  (v0 : Nat) (v1 : Nat) (w : Wd) : Option (Unit × Wd) :=
  bd (f_X10_copyCells (v1 + 1) (v0 + 1) w) (fun _ w1 => bd (f_X10_copyCells (v1 + 2) (v0 + 2) w1) (fun _ w2 => bd (f_X10_copyCells (v1 + 3) (v0 + 3) w2) (fun _ w3 => bd (f_X7_takeOver (v0 + 4) (v1 + 4) w3) (fun _ w4 => bd (f_X7_takeOver (v0 + 6) (v1 + 6) w4) (fun _ w5 => f_X2_copyFrom_57 v0 v1 (0 : Int32) w5)))))
/-! LetterTables$Rule.copyFrom -/
def f_X8_copyFrom  (v0 : Nat) (v1 : Nat) (w : Wd) : Option (Unit × Wd) :=
  bd (f_X8_tell v0 (w.1 v1 0) (v1 + 1) (v1 + 3) (v1 + 5) (v1 + 7) w) (fun _ w1 => some ((), w1))
/-! LetterTables$Tables.copyFrom -/
def f_X9_copyFrom_241  (v0 : Nat) (v1 : Nat) (w : Wd) : Option (Unit × Wd) :=
  wr (setI w v0 14 (w.1 v1 14)) (fun w1 => some ((), w1))
def g_X9_copyFrom_202 (rc_202 : Nat × Nat × Int32 × Wd → Option (Unit × Wd)) (v0 : Nat) (v1 : Nat) (v2 : Int32) (w : Wd) : Option (Unit × Wd) :=
  (if (Int32.ofNat (LEN (v0 + 51))) ≤ v2 then f_X9_copyFrom_241 v0 v1 w else (if (Int32.ofNat (LEN (v1 + 51))) ≤ v2 then f_X9_copyFrom_241 v0 v1 w else ard (v0 + 51) v2 (fun r1 => ard (v1 + 51) v2 (fun r2 => bd (f_X8_copyFrom r1 r2 w) (fun _ w3 => lt (v2 + (1 : Int32)) (fun x4 => rc_202 (v0, v1, x4, w3)))))))
def f_X9_copyFrom_202  (v0 : Nat) (v1 : Nat) (v2 : Int32) (w : Wd) : Option (Unit × Wd) :=
  loopN (fun rc σ => g_X9_copyFrom_202 rc  σ.1 σ.2.1 σ.2.2.1 σ.2.2.2) FU (v0, v1, v2, w)
def f_X9_copyFrom_192  (v0 : Nat) (v1 : Nat) (w : Wd) : Option (Unit × Wd) :=
  wr (setI w v0 12 (w.1 v1 12)) (fun w1 => f_X9_copyFrom_202 v0 v1 (0 : Int32) w1)
def g_X9_copyFrom_153 (rc_153 : Nat × Nat × Int32 × Wd → Option (Unit × Wd)) (v0 : Nat) (v1 : Nat) (v2 : Int32) (w : Wd) : Option (Unit × Wd) :=
  (if (Int32.ofNat (LEN (v0 + 38))) ≤ v2 then f_X9_copyFrom_192 v0 v1 w else (if (Int32.ofNat (LEN (v1 + 38))) ≤ v2 then f_X9_copyFrom_192 v0 v1 w else ard (v0 + 38) v2 (fun r1 => ard (v1 + 38) v2 (fun r2 => bd (f_X7_takeOver r1 r2 w) (fun _ w3 => lt (v2 + (1 : Int32)) (fun x4 => rc_153 (v0, v1, x4, w3)))))))
def f_X9_copyFrom_153  (v0 : Nat) (v1 : Nat) (v2 : Int32) (w : Wd) : Option (Unit × Wd) :=
  loopN (fun rc σ => g_X9_copyFrom_153 rc  σ.1 σ.2.1 σ.2.2.1 σ.2.2.2) FU (v0, v1, v2, w)
def f_X9_copyFrom_151  (v0 : Nat) (v1 : Nat) (w : Wd) : Option (Unit × Wd) :=
  f_X9_copyFrom_153 v0 v1 (0 : Int32) w
def g_X9_copyFrom_112 (rc_112 : Nat × Nat × Int32 × Wd → Option (Unit × Wd)) (v0 : Nat) (v1 : Nat) (v2 : Int32) (w : Wd) : Option (Unit × Wd) :=
  (if (Int32.ofNat (LEN (v0 + 11))) ≤ v2 then f_X9_copyFrom_151 v0 v1 w else (if (Int32.ofNat (LEN (v1 + 11))) ≤ v2 then f_X9_copyFrom_151 v0 v1 w else ard (v0 + 11) v2 (fun r1 => ard (v1 + 11) v2 (fun r2 => bd (f_X2_copyFrom r1 r2 w) (fun _ w3 => lt (v2 + (1 : Int32)) (fun x4 => rc_112 (v0, v1, x4, w3)))))))
def f_X9_copyFrom_112  (v0 : Nat) (v1 : Nat) (v2 : Int32) (w : Wd) : Option (Unit × Wd) :=
  loopN (fun rc σ => g_X9_copyFrom_112 rc  σ.1 σ.2.1 σ.2.2.1 σ.2.2.2) FU (v0, v1, v2, w)
def f_X9_copyFrom  (v0 : Nat) (v1 : Nat) (w : Wd) : Option (Unit × Wd) :=
  bd (f_X10_copyCells (v1 + 1) (v0 + 1) w) (fun _ w1 => bd (f_X10_copyCells (v1 + 2) (v0 + 2) w1) (fun _ w2 => bd (f_X10_copyCells (v1 + 3) (v0 + 3) w2) (fun _ w3 => bd (f_X10_copyCells (v1 + 4) (v0 + 4) w3) (fun _ w4 => bd (f_X10_copyCells (v1 + 5) (v0 + 5) w4) (fun _ w5 => bd (f_X10_copyCells (v1 + 6) (v0 + 6) w5) (fun _ w6 => bd (f_X10_copyCells (v1 + 7) (v0 + 7) w6) (fun _ w7 => bd (f_X10_copyCells (v1 + 8) (v0 + 8) w7) (fun _ w8 => bd (f_X10_copyCells (v1 + 9) (v0 + 9) w8) (fun _ w9 => bd (f_X10_copyCells (v1 + 10) (v0 + 10) w9) (fun _ w10 => f_X9_copyFrom_112 v0 v1 (0 : Int32) w10))))))))))
/-! LetterTables.save -/
def f_X10_save_19   (w : Wd) : Option ((Nat ⊕ Int32) × Wd) :=
  some (.inl 3, w)
def f_X10_save   (w : Wd) : Option ((Nat ⊕ Int32) × Wd) :=
  (if (w.1 0 2) < 0 then f_X10_save_19 w else (if (w.1 0 2) < (Int32.ofNat (LEN 125)) then ard 125 (w.1 0 2) (fun r1 => bd (f_X9_copyFrom r1 1 w) (fun _ w2 => wr (setI w2 0 2 ((w2.1 0 2) + (1 : Int32))) (fun w3 => some (.inr ((w3.1 0 2) - (1 : Int32)), w3)))) else f_X10_save_19 w))
/-! LetterTables.use -/
def f_X10_use_21   (w : Wd) : Option ((Nat ⊕ Unit) × Wd) :=
  some (.inl 1, w)
def f_X10_use  (v1 : Int32) (w : Wd) : Option ((Nat ⊕ Unit) × Wd) :=
  (if v1 < 0 then f_X10_use_21 w else (if (w.1 0 2) ≤ v1 then f_X10_use_21 w else (if v1 < (Int32.ofNat (LEN 125)) then ard 125 v1 (fun r1 => bd (f_X9_copyFrom 1 r1 w) (fun _ w2 => some (.inr (), w2))) else f_X10_use_21 w)))
/-! LetterTables.put -/
def f_X10_put  (v1 : Int32) (v2 : Int32) (w : Wd) : Option ((Nat ⊕ Int32) × Wd) :=
  bdx (f_X10_textOf v1 w) (fun r2 w1 => bdx (f_X10_checkLetter v2 w1) (fun _ w3 => bd (f_X7_add r2 v2 w3) (fun x5 w4 => (if x5 = 0 then some (.inl 3, w4) else bd (f_X7_size r2 w4) (fun x7 w6 => some (.inr x7, w6))))))
/-! LetterTables$Row.cutTo -/
def f_X7_cutTo  (v0 : Nat) (v1 : Int32) (w : Wd) : Option (Unit × Wd) :=
  (if v1 < 0 then some ((), w) else (if (w.1 v0 1) ≤ v1 then some ((), w) else wr (setI w v0 1 v1) (fun w1 => some ((), w1))))
/-! LetterTables.clear -/
def f_X10_clear  (v1 : Int32) (w : Wd) : Option ((Nat ⊕ Int32) × Wd) :=
  bdx (f_X10_textOf v1 w) (fun r2 w1 => bd (f_X7_size r2 w1) (fun x4 w3 => bd (f_X7_cutTo r2 (0 : Int32) w3) (fun _ w5 => some (.inr x4, w5))))
/-! LetterTables.checkPlace -/
def f_X10_checkPlace_9   (w : Wd) : Option ((Nat ⊕ Unit) × Wd) :=
  some (.inl 1, w)
def f_X10_checkPlace  (v0 : Int32) (v1 : Int32) (w : Wd) : Option ((Nat ⊕ Unit) × Wd) :=
  (if v0 < 0 then f_X10_checkPlace_9 w else (if v0 < v1 then some (.inr (), w) else f_X10_checkPlace_9 w))
/-! LetterTables.at -/
def f_X10_at  (v1 : Int32) (v2 : Int32) (w : Wd) : Option ((Nat ⊕ Int32) × Wd) :=
  bdx (f_X10_textOf v1 w) (fun r2 w1 => (if v2 = (-1 : Int32) then bd (f_X7_size r2 w1) (fun x9 w8 => some (.inr x9, w8)) else bd (f_X7_size r2 w1) (fun x4 w3 => bdx (f_X10_checkPlace v2 x4 w3) (fun _ w5 => bd (f_X7_get r2 v2 w5) (fun x7 w6 => some (.inr x7, w6))))))
/-! LetterTables$Row.removeLast -/
def f_X7_removeLast  (v0 : Nat) (w : Wd) : Option (Int32 × Wd) :=
  bd (f_X7_get v0 ((w.1 v0 1) - (1 : Int32)) w) (fun x2 w1 => bd (f_X7_cutTo v0 ((w1.1 v0 1) - (1 : Int32)) w1) (fun _ w3 => some (x2, w3)))
/-! LetterTables$Tables.splitOneOf -/
def f_X9_splitOneOf  (v0 : Nat) (v1 : Int32) (w : Wd) : Option (Int32 × Wd) :=
  bd (f_X10_cellOf (v0 + 5) v1 (-1 : Int32) w) (fun x2 w1 => some (x2, w1))
/-! LetterTables$Tables.splitOtherOf -/
def f_X9_splitOtherOf  (v0 : Nat) (v1 : Int32) (w : Wd) : Option (Int32 × Wd) :=
  bd (f_X10_cellOf (v0 + 6) v1 (-1 : Int32) w) (fun x2 w1 => some (x2, w1))
/-! LetterTables$Forms.splitLetter -/
def g_X1_splitLetter_23 (rc_23 : Nat × Int32 × Int32 × Wd → Option (Int32 × Wd)) (v3 : Nat) (v4 : Int32) (v5 : Int32) (w : Wd) : Option (Int32 × Wd) :=
  (if (320 : Int32) ≤ v5 then some (v4, w) else bd (f_X7_size 640 w) (fun x2 w1 => (if x2 ≤ 0 then some (v4, w1) else (if (80 : Int32) < v4 then some (v4, w1) else bd (f_X7_removeLast 640 w1) (fun x4 w3 => bd (f_X9_splitOneOf 1 x4 w3) (fun x6 w5 => (if x6 = (-1 : Int32) then bd (f_X7_add v3 x4 w5) (fun x16 w15 => lt (v5 + (1 : Int32)) (fun x17 => rc_23 (v3, v4, x17, w15))) else lt (v4 + (1 : Int32)) (fun x7 => bd (f_X9_splitOtherOf 1 x4 w5) (fun x9 w8 => bd (f_X7_add 640 x9 w8) (fun x11 w10 => bd (f_X7_add 640 x6 w10) (fun x13 w12 => lt (v5 + (1 : Int32)) (fun x14 => rc_23 (v3, x7, x14, w12)))))))))))))
def f_X1_splitLetter_23  (v3 : Nat) (v4 : Int32) (v5 : Int32) (w : Wd) : Option (Int32 × Wd) :=
  loopN (fun rc σ => g_X1_splitLetter_23 rc  σ.1 σ.2.1 σ.2.2.1 σ.2.2.2) FU (v3, v4, v5, w)
def f_X1_splitLetter  (v1 : Int32) (v2 : Int32) (v3 : Nat) (w : Wd) : Option (Int32 × Wd) :=
  bd (f_X7_cutTo 640 (0 : Int32) w) (fun _ w1 => bd (f_X7_add 640 v1 w1) (fun x3 w2 => f_X1_splitLetter_23 v3 v2 (0 : Int32) w2))
/-! LetterTables$Tables.joinsOf -/
def f_X9_joinsOf  (v0 : Nat) (v1 : Int32) (w : Wd) : Option (Int32 × Wd) :=
  bd (f_X10_cellOf (v0 + 1) v1 (0 : Int32) w) (fun x2 w1 => some (x2, w1))
/-! LetterTables$Row.set -/
def f_X7_set  (v0 : Nat) (v1 : Int32) (v2 : Int32) (w : Wd) : Option (Unit × Wd) :=
  (if v1 < 0 then some ((), w) else (if (w.1 v0 1) ≤ v1 then some ((), w) else (if (Int32.ofNat (LEN (v0 + 1))) ≤ v1 then some ((), w) else ast w (v0 + 1) v1 v2 (fun w1 => some ((), w1)))))
/-! LetterTables$Forms.sortMarks -/
def f_X1_sortMarks_79 (rc_2 : Nat × Int32 × Wd → Option (Unit × Wd)) (v1 : Nat) (v2 : Int32) (v3 : Int32) (v5 : Int32) (w : Wd) : Option (Unit × Wd) :=
  bd (f_X7_set v1 v5 v3 w) (fun _ w1 => lt (v2 + (1 : Int32)) (fun x2 => rc_2 (v1, x2, w1)))
def g_X1_sortMarks_29 (rc_29 : Nat × Int32 × Int32 × Int32 × Int32 × Wd → Option (Unit × Wd)) (rc_2 : Nat × Int32 × Wd → Option (Unit × Wd)) (v1 : Nat) (v2 : Int32) (v3 : Int32) (v4 : Int32) (v5 : Int32) (w : Wd) : Option (Unit × Wd) :=
  (if v4 ≤ 0 then f_X1_sortMarks_79 rc_2 v1 v2 v3 v5 w else (if v5 ≤ 0 then f_X1_sortMarks_79 rc_2 v1 v2 v3 v5 w else bd (f_X7_get v1 (v5 - (1 : Int32)) w) (fun x2 w1 => bd (f_X9_joinsOf 1 x2 w1) (fun x4 w3 => (if x4 ≤ v4 then f_X1_sortMarks_79 rc_2 v1 v2 v3 v5 w3 else bd (f_X7_get v1 (v5 - (1 : Int32)) w3) (fun x6 w5 => bd (f_X7_set v1 v5 x6 w5) (fun _ w7 => lt (v5 + (-1 : Int32)) (fun x8 => rc_29 (v1, v2, v3, v4, x8, w7)))))))))
def f_X1_sortMarks_29 (rc_2 : Nat × Int32 × Wd → Option (Unit × Wd)) (v1 : Nat) (v2 : Int32) (v3 : Int32) (v4 : Int32) (v5 : Int32) (w : Wd) : Option (Unit × Wd) :=
  loopN (fun rc σ => g_X1_sortMarks_29 rc rc_2 σ.1 σ.2.1 σ.2.2.1 σ.2.2.2.1 σ.2.2.2.2.1 σ.2.2.2.2.2) FU (v1, v2, v3, v4, v5, w)
def g_X1_sortMarks_2 (rc_2 : Nat × Int32 × Wd → Option (Unit × Wd)) (v1 : Nat) (v2 : Int32) (w : Wd) : Option (Unit × Wd) :=
  bd (f_X7_size v1 w) (fun x2 w1 => (if x2 ≤ v2 then some ((), w1) else bd (f_X7_get v1 v2 w1) (fun x4 w3 => bd (f_X9_joinsOf 1 x4 w3) (fun x6 w5 => f_X1_sortMarks_29 rc_2 v1 v2 x4 x6 v2 w5))))
def f_X1_sortMarks_2  (v1 : Nat) (v2 : Int32) (w : Wd) : Option (Unit × Wd) :=
  loopN (fun rc σ => g_X1_sortMarks_2 rc  σ.1 σ.2.1 σ.2.2) FU (v1, v2, w)
def f_X1_sortMarks  (v1 : Nat) (w : Wd) : Option (Unit × Wd) :=
  f_X1_sortMarks_2 v1 (1 : Int32) w
/-! LetterTables$Forms.splitInto -/
def g_X1_splitInto_13 (rc_13 : Nat × Nat × Int32 × Int32 × Wd → Option (Int32 × Wd)) (v1 : Nat) (v2 : Nat) (v3 : Int32) (v4 : Int32) (w : Wd) : Option (Int32 × Wd) :=
  bd (f_X7_size v1 w) (fun x2 w1 => (if x2 ≤ v4 then bd (f_X1_sortMarks v2 w1) (fun _ w3 => some ((1 : Int32), w3)) else bd (f_X7_get v1 v4 w1) (fun x5 w4 => bd (f_X1_splitLetter x5 v3 v2 w4) (fun x7 w6 => (if x7 ≤ (80 : Int32) then lt (v4 + (1 : Int32)) (fun x8 => rc_13 (v1, v2, x7, x8, w6)) else some ((0 : Int32), w6))))))
def f_X1_splitInto_13  (v1 : Nat) (v2 : Nat) (v3 : Int32) (v4 : Int32) (w : Wd) : Option (Int32 × Wd) :=
  loopN (fun rc σ => g_X1_splitInto_13 rc  σ.1 σ.2.1 σ.2.2.1 σ.2.2.2.1 σ.2.2.2.2) FU (v1, v2, v3, v4, w)
def f_X1_splitInto  (v1 : Nat) (v2 : Nat) (w : Wd) : Option (Int32 × Wd) :=
  bd (f_X7_cutTo v2 (0 : Int32) w) (fun _ w1 => bd (f_X7_size v1 w1) (fun x3 w2 => f_X1_splitInto_13 v1 v2 x3 (0 : Int32) w2))
/-! LetterTables$Forms.startFor -/
def g_X1_startFor_5 (rc_5 : Nat × Int32 × Int32 × Wd → Option (Int32 × Wd)) (v1 : Nat) (v3 : Int32) (v4 : Int32) (w : Wd) : Option (Int32 × Wd) :=
  (if v4 < 0 then some ((-1 : Int32), w) else bd (f_X7_get v1 v4 w) (fun x2 w1 => bd (f_X9_joinsOf 1 x2 w1) (fun x4 w3 => (if x4 = 0 then some (v4, w3) else (if x4 < v3 then lt (v4 + (-1 : Int32)) (fun x5 => rc_5 (v1, v3, x5, w3)) else some ((-1 : Int32), w3))))))
def f_X1_startFor_5  (v1 : Nat) (v3 : Int32) (v4 : Int32) (w : Wd) : Option (Int32 × Wd) :=
  loopN (fun rc σ => g_X1_startFor_5 rc  σ.1 σ.2.1 σ.2.2.1 σ.2.2.2) FU (v1, v3, v4, w)
def f_X1_startFor  (v1 : Nat) (v2 : Int32) (v3 : Int32) (w : Wd) : Option (Int32 × Wd) :=
  lt (v2 - (1 : Int32)) (fun x1 => f_X1_startFor_5 v1 v3 x1 w)
/-! LetterTables$Tables.joinedOf -/
def g_X9_joinedOf_2 (rc_2 : Nat × Int32 × Int32 × Int32 × Wd → Option (Int32 × Wd)) (v0 : Nat) (v1 : Int32) (v2 : Int32) (v3 : Int32) (w : Wd) : Option (Int32 × Wd) :=
  (if (96 : Int32) ≤ v3 then some ((-1 : Int32), w) else bd (f_X9_splitOneOf v0 v3 w) (fun x2 w1 => (if x2 = v1 then bd (f_X9_splitOtherOf v0 v3 w1) (fun x5 w4 => (if x5 = v2 then some (v3, w4) else lt (v3 + (1 : Int32)) (fun x6 => rc_2 (v0, v1, v2, x6, w4)))) else lt (v3 + (1 : Int32)) (fun x3 => rc_2 (v0, v1, v2, x3, w1)))))
def f_X9_joinedOf_2  (v0 : Nat) (v1 : Int32) (v2 : Int32) (v3 : Int32) (w : Wd) : Option (Int32 × Wd) :=
  loopN (fun rc σ => g_X9_joinedOf_2 rc  σ.1 σ.2.1 σ.2.2.1 σ.2.2.2.1 σ.2.2.2.2) FU (v0, v1, v2, v3, w)
def f_X9_joinedOf  (v0 : Nat) (v1 : Int32) (v2 : Int32) (w : Wd) : Option (Int32 × Wd) :=
  f_X9_joinedOf_2 v0 v1 v2 (0 : Int32) w
/-! LetterTables$Forms.joinInto -/
def f_X1_joinInto_87 (rc_28 : Nat × Int32 × Int32 × Wd → Option (Int32 × Wd)) (v2 : Nat) (v3 : Int32) (v4 : Int32) (v5 : Int32) (v6 : Int32) (t0 : Int32) (w : Wd) : Option (Int32 × Wd) :=
  (if t0 = (-1 : Int32) then bd (f_X7_set v2 v3 v5 w) (fun _ w3 => lt (v3 + (1 : Int32)) (fun x4 => lt (v4 + (1 : Int32)) (fun x5 => rc_28 (v2, x4, x5, w3)))) else bd (f_X7_set v2 v6 t0 w) (fun _ w1 => lt (v4 + (1 : Int32)) (fun x2 => rc_28 (v2, v3, x2, w1))))
def g_X1_joinInto_28 (rc_28 : Nat × Int32 × Int32 × Wd → Option (Int32 × Wd)) (v2 : Nat) (v3 : Int32) (v4 : Int32) (w : Wd) : Option (Int32 × Wd) :=
  bd (f_X7_size v2 w) (fun x2 w1 => (if x2 ≤ v4 then bd (f_X7_cutTo v2 v3 w1) (fun _ w3 => some ((1 : Int32), w3)) else bd (f_X7_get v2 v4 w1) (fun x5 w4 => bd (f_X9_joinsOf 1 x5 w4) (fun x7 w6 => bd (f_X1_startFor v2 v3 x7 w6) (fun x9 w8 => (if x9 = (-1 : Int32) then f_X1_joinInto_87 rc_28 v2 v3 v4 x5 x9 (-1 : Int32) w8 else bd (f_X7_get v2 x9 w8) (fun x11 w10 => bd (f_X9_joinedOf 1 x11 x5 w10) (fun x13 w12 => f_X1_joinInto_87 rc_28 v2 v3 v4 x5 x9 x13 w12))))))))
def f_X1_joinInto_28  (v2 : Nat) (v3 : Int32) (v4 : Int32) (w : Wd) : Option (Int32 × Wd) :=
  loopN (fun rc σ => g_X1_joinInto_28 rc  σ.1 σ.2.1 σ.2.2.1 σ.2.2.2) FU (v2, v3, v4, w)
def f_X1_joinInto_24  (v2 : Nat) (t0 : Int32) (w : Wd) : Option (Int32 × Wd) :=
  f_X1_joinInto_28 v2 t0 (1 : Int32) w
def f_X1_joinInto  (v1 : Nat) (v2 : Nat) (w : Wd) : Option (Int32 × Wd) :=
  bd (f_X1_splitInto v1 v2 w) (fun x2 w1 => (if x2 = 0 then some ((0 : Int32), w1) else bd (f_X7_size v2 w1) (fun x4 w3 => (if (1 : Int32) ≤ x4 then f_X1_joinInto_24 v2 (1 : Int32) w3 else f_X1_joinInto_24 v2 (0 : Int32) w3))))
/-! LetterTables$Tables.capitalOneOf -/
def f_X9_capitalOneOf  (v0 : Nat) (v1 : Int32) (w : Wd) : Option (Int32 × Wd) :=
  bd (f_X10_cellOf (v0 + 7) v1 (-1 : Int32) w) (fun x2 w1 => some (x2, w1))
/-! LetterTables$Tables.capitalOtherOf -/
def f_X9_capitalOtherOf  (v0 : Nat) (v1 : Int32) (w : Wd) : Option (Int32 × Wd) :=
  bd (f_X10_cellOf (v0 + 8) v1 (-1 : Int32) w) (fun x2 w1 => some (x2, w1))
/-! LetterTables$Forms.capitalInto -/
def f_X1_capitalInto_35  (v2 : Nat) (v3 : Int32) (v4 : Int32) (t0 : Nat) (t1 : Int32) (w : Wd) : Option (Unit × Wd) :=
  bd (f_X7_add t0 t1 w) (fun x2 w1 => (if v3 = (-1 : Int32) then some ((), w1) else (if v4 = (-1 : Int32) then some ((), w1) else bd (f_X7_add v2 v4 w1) (fun x4 w3 => some ((), w3)))))
def f_X1_capitalInto  (v1 : Int32) (v2 : Nat) (w : Wd) : Option (Unit × Wd) :=
  bd (f_X7_cutTo v2 (0 : Int32) w) (fun _ w1 => bd (f_X9_capitalOneOf 1 v1 w1) (fun x3 w2 => bd (f_X9_capitalOtherOf 1 v1 w2) (fun x5 w4 => (if x3 = (-1 : Int32) then f_X1_capitalInto_35 v2 x3 x5 v2 v1 w4 else f_X1_capitalInto_35 v2 x3 x5 v2 x3 w4))))
/-! LetterTables$Forms.addUnmarked -/
def g_X1_addUnmarked_2 (rc_2 : Nat × Nat × Int32 × Wd → Option (Unit × Wd)) (v1 : Nat) (v2 : Nat) (v3 : Int32) (w : Wd) : Option (Unit × Wd) :=
  bd (f_X7_size v1 w) (fun x2 w1 => (if x2 ≤ v3 then some ((), w1) else bd (f_X7_get v1 v3 w1) (fun x4 w3 => bd (f_X9_joinsOf 1 x4 w3) (fun x6 w5 => (if x6 = 0 then bd (f_X7_get v1 v3 w5) (fun x9 w8 => bd (f_X7_add v2 x9 w8) (fun x11 w10 => lt (v3 + (1 : Int32)) (fun x12 => rc_2 (v1, v2, x12, w10)))) else lt (v3 + (1 : Int32)) (fun x7 => rc_2 (v1, v2, x7, w5)))))))
def f_X1_addUnmarked_2  (v1 : Nat) (v2 : Nat) (v3 : Int32) (w : Wd) : Option (Unit × Wd) :=
  loopN (fun rc σ => g_X1_addUnmarked_2 rc  σ.1 σ.2.1 σ.2.2.1 σ.2.2.2) FU (v1, v2, v3, w)
def f_X1_addUnmarked  (v1 : Nat) (v2 : Nat) (w : Wd) : Option (Unit × Wd) :=
  f_X1_addUnmarked_2 v1 v2 (0 : Int32) w
/-! LetterTables$Forms.foldInto -/
def g_X1_foldInto_18 (rc_18 : Nat × Nat × Int32 × Int32 × Wd → Option (Int32 × Wd)) (v1 : Nat) (v2 : Nat) (v3 : Int32) (v4 : Int32) (w : Wd) : Option (Int32 × Wd) :=
  bd (f_X7_size v1 w) (fun x2 w1 => (if x2 ≤ v4 then some ((1 : Int32), w1) else bd (f_X7_get v1 v4 w1) (fun x4 w3 => bd (f_X1_capitalInto x4 642 w3) (fun _ w5 => bd (f_X1_splitInto 642 644 w5) (fun x7 w6 => (if x7 = 0 then some ((0 : Int32), w6) else bd (f_X7_size 644 w6) (fun x9 w8 => lt (v3 + x9) (fun x10 => (if x10 ≤ (80 : Int32) then bd (f_X1_addUnmarked 644 v2 w8) (fun _ w11 => bd (f_X7_size v2 w11) (fun x13 w12 => bd (f_X7_add 648 x13 w12) (fun x15 w14 => lt (v4 + (1 : Int32)) (fun x16 => rc_18 (v1, v2, x10, x16, w14))))) else some ((0 : Int32), w8))))))))))
def f_X1_foldInto_18  (v1 : Nat) (v2 : Nat) (v3 : Int32) (v4 : Int32) (w : Wd) : Option (Int32 × Wd) :=
  loopN (fun rc σ => g_X1_foldInto_18 rc  σ.1 σ.2.1 σ.2.2.1 σ.2.2.2.1 σ.2.2.2.2) FU (v1, v2, v3, v4, w)
def f_X1_foldInto  (v1 : Nat) (v2 : Nat) (w : Wd) : Option (Int32 × Wd) :=
  bd (f_X7_cutTo v2 (0 : Int32) w) (fun _ w1 => bd (f_X7_cutTo 648 (0 : Int32) w1) (fun _ w2 => f_X1_foldInto_18 v1 v2 (0 : Int32) (0 : Int32) w2))
/-! LetterTables$Tables.likeOf -/
def f_X9_likeOf  (v0 : Nat) (v1 : Int32) (w : Wd) : Option (Int32 × Wd) :=
  bd (f_X10_cellOf (v0 + 4) v1 v1 w) (fun x2 w1 => some (x2, w1))
/-! LetterTables$Forms.skeletonInto -/
def g_X1_skeletonInto_16 (rc_16 : Nat × Int32 × Wd → Option (Int32 × Wd)) (v2 : Nat) (v3 : Int32) (w : Wd) : Option (Int32 × Wd) :=
  bd (f_X7_size 646 w) (fun x2 w1 => (if x2 ≤ v3 then bd (f_X1_splitInto 646 v2 w1) (fun x4 w3 => some (x4, w3)) else bd (f_X7_get 646 v3 w1) (fun x6 w5 => bd (f_X9_likeOf 1 x6 w5) (fun x8 w7 => bd (f_X7_set 646 v3 x8 w7) (fun _ w9 => lt (v3 + (1 : Int32)) (fun x10 => rc_16 (v2, x10, w9)))))))
def f_X1_skeletonInto_16  (v2 : Nat) (v3 : Int32) (w : Wd) : Option (Int32 × Wd) :=
  loopN (fun rc σ => g_X1_skeletonInto_16 rc  σ.1 σ.2.1 σ.2.2) FU (v2, v3, w)
def f_X1_skeletonInto  (v1 : Nat) (v2 : Nat) (w : Wd) : Option (Int32 × Wd) :=
  bd (f_X1_splitInto v1 646 w) (fun x2 w1 => (if x2 = 0 then some ((0 : Int32), w1) else f_X1_skeletonInto_16 v2 (0 : Int32) w1))
/-! LetterTables$Forms.formInto -/
def f_X1_formInto  (v1 : Nat) (v2 : Int32) (v3 : Nat) (w : Wd) : Option (Int32 × Wd) :=
  (if v2 = 0 then bd (f_X1_splitInto v1 v3 w) (fun x2 w1 => some (x2, w1)) else (if v2 = 1 then bd (f_X1_joinInto v1 v3 w) (fun x4 w3 => some (x4, w3)) else (if v2 = 2 then bd (f_X1_foldInto v1 v3 w) (fun x6 w5 => some (x6, w5)) else bd (f_X1_skeletonInto v1 v3 w) (fun x8 w7 => some (x8, w7)))))
/-! LetterTables.checkForm -/
def f_X10_checkForm  (v0 : Int32) (w : Wd) : Option ((Nat ⊕ Unit) × Wd) :=
  (if v0 = 0 then some (.inl 3, w) else some (.inr (), w))
/-! LetterTables.form -/
def f_X10_form_57  (v5 : Nat) (t0 : Int32) (w : Wd) : Option ((Nat ⊕ Int32) × Wd) :=
  bdx (f_X10_checkForm t0 w) (fun _ w1 => bd (f_X7_takeOver v5 699 w1) (fun _ w2 => bd (f_X7_size v5 w2) (fun x4 w3 => some (.inr x4, w3))))
def f_X10_form_56  (v5 : Nat) (w : Wd) : Option ((Nat ⊕ Int32) × Wd) :=
  f_X10_form_57 v5 (0 : Int32) w
def f_X10_form  (v1 : Int32) (v2 : Int32) (v3 : Int32) (w : Wd) : Option ((Nat ⊕ Int32) × Wd) :=
  bdx (f_X10_textOf v1 w) (fun r2 w1 => bdx (f_X10_textOf v3 w1) (fun r4 w3 => bd (f_X10_isWithin v2 (0 : Int32) (3 : Int32) w3) (fun x6 w5 => bdx (f_X10_checkArgument x6 w5) (fun _ w7 => bd (f_X1_formInto r2 v2 699 w7) (fun x9 w8 => (if x9 = 0 then f_X10_form_56 r4 w8 else bd (f_X7_size 699 w8) (fun x11 w10 => (if (40 : Int32) < x11 then f_X10_form_56 r4 w10 else f_X10_form_57 r4 (1 : Int32) w10))))))))
/-! LetterTables$Row.holds -/
def g_X7_holds_21 (rc_21 : Nat × Nat × Int32 × Int32 × Wd → Option (Int32 × Wd)) (v0 : Nat) (v1 : Nat) (v2 : Int32) (v3 : Int32) (w : Wd) : Option (Int32 × Wd) :=
  (if (w.1 v1 1) ≤ v3 then some ((1 : Int32), w) else bd (f_X7_get v0 (v2 + v3) w) (fun x2 w1 => bd (f_X7_get v1 v3 w1) (fun x4 w3 => (if x2 = x4 then lt (v3 + (1 : Int32)) (fun x5 => rc_21 (v0, v1, v2, x5, w3)) else some ((0 : Int32), w3)))))
def f_X7_holds_21  (v0 : Nat) (v1 : Nat) (v2 : Int32) (v3 : Int32) (w : Wd) : Option (Int32 × Wd) :=
  loopN (fun rc σ => g_X7_holds_21 rc  σ.1 σ.2.1 σ.2.2.1 σ.2.2.2.1 σ.2.2.2.2) FU (v0, v1, v2, v3, w)
def f_X7_holds  (v0 : Nat) (v1 : Nat) (v2 : Int32) (w : Wd) : Option (Int32 × Wd) :=
  (if v2 < 0 then some ((0 : Int32), w) else (if (w.1 v1 1) ≤ ((w.1 v0 1) - v2) then f_X7_holds_21 v0 v1 v2 (0 : Int32) w else some ((0 : Int32), w)))
/-! LetterTables$Row.isLike -/
def f_X7_isLike  (v0 : Nat) (v1 : Nat) (w : Wd) : Option (Int32 × Wd) :=
  (if (w.1 v0 1) = (w.1 v1 1) then bd (f_X7_holds v0 v1 (0 : Int32) w) (fun x2 w1 => (if x2 = 0 then some ((0 : Int32), w1) else some ((1 : Int32), w1))) else some ((0 : Int32), w))
/-! LetterTables.looksLike -/
def f_X10_looksLike_49  (t0 : Int32) (w : Wd) : Option ((Nat ⊕ Int32) × Wd) :=
  bdx (f_X10_checkForm t0 w) (fun _ w1 => bd (f_X7_isLike 699 701 w1) (fun x3 w2 => some (.inr x3, w2)))
def f_X10_looksLike_48   (w : Wd) : Option ((Nat ⊕ Int32) × Wd) :=
  f_X10_looksLike_49 (0 : Int32) w
def f_X10_looksLike  (v1 : Int32) (v2 : Int32) (w : Wd) : Option ((Nat ⊕ Int32) × Wd) :=
  bdx (f_X10_textOf v1 w) (fun r2 w1 => bdx (f_X10_textOf v2 w1) (fun r4 w3 => bd (f_X1_skeletonInto r2 699 w3) (fun x6 w5 => (if x6 = 0 then f_X10_looksLike_48 w5 else bd (f_X1_skeletonInto r4 701 w5) (fun x8 w7 => (if x8 = 0 then f_X10_looksLike_48 w7 else f_X10_looksLike_49 (1 : Int32) w7))))))
/-! LetterTables$Tables.directionOf -/
def f_X9_directionOf  (v0 : Nat) (v1 : Int32) (w : Wd) : Option (Int32 × Wd) :=
  bd (f_X10_cellOf (v0 + 2) v1 (3 : Int32) w) (fun x2 w1 => some (x2, w1))
/-! LetterTables$Levels.isIsolate -/
def f_X3_isIsolate  (v0 : Int32) (w : Wd) : Option (Int32 × Wd) :=
  (if v0 = (7 : Int32) then some ((1 : Int32), w) else (if v0 = (8 : Int32) then some ((1 : Int32), w) else (if v0 = (9 : Int32) then some ((1 : Int32), w) else some ((0 : Int32), w))))
/-! LetterTables$Levels.baseFrom -/
def f_X3_baseFrom_96  (v6 : Int32) (w : Wd) : Option (Int32 × Wd) :=
  (if v6 = (1 : Int32) then some ((1 : Int32), w) else some ((0 : Int32), w))
def f_X3_baseFrom_62 (rc_6 : Nat × Int32 × Int32 × Int32 × Wd → Option (Int32 × Wd)) (v1 : Nat) (v3 : Int32) (v4 : Int32) (v5 : Int32) (w : Wd) : Option (Int32 × Wd) :=
  (if v4 ≤ 0 then lt (v5 + (1 : Int32)) (fun x1 => rc_6 (v1, v3, (0 : Int32), x1, w)) else lt (v4 - (1 : Int32)) (fun x2 => lt (v5 + (1 : Int32)) (fun x3 => rc_6 (v1, v3, x2, x3, w))))
def g_X3_baseFrom_6 (rc_6 : Nat × Int32 × Int32 × Int32 × Wd → Option (Int32 × Wd)) (v1 : Nat) (v3 : Int32) (v4 : Int32) (v5 : Int32) (w : Wd) : Option (Int32 × Wd) :=
  bd (f_X7_size v1 w) (fun x2 w1 => (if x2 ≤ v5 then some ((0 : Int32), w1) else bd (f_X7_get v1 v5 w1) (fun x4 w3 => bd (f_X9_directionOf 1 x4 w3) (fun x6 w5 => bd (f_X3_isIsolate x6 w5) (fun x8 w7 => (if x8 = 0 then (if x6 = (10 : Int32) then (if v4 = 0 then (if v3 = 0 then f_X3_baseFrom_62 rc_6 v1 v3 v4 v5 w7 else some ((0 : Int32), w7)) else f_X3_baseFrom_62 rc_6 v1 v3 v4 v5 w7) else (if v4 = 0 then (if x6 = 0 then f_X3_baseFrom_96 x6 w7 else (if x6 = (1 : Int32) then f_X3_baseFrom_96 x6 w7 else lt (v5 + (1 : Int32)) (fun x10 => rc_6 (v1, v3, v4, x10, w7)))) else lt (v5 + (1 : Int32)) (fun x9 => rc_6 (v1, v3, v4, x9, w7)))) else lt (v4 + (1 : Int32)) (fun x11 => lt (v5 + (1 : Int32)) (fun x12 => rc_6 (v1, v3, x11, x12, w7)))))))))
def f_X3_baseFrom_6  (v1 : Nat) (v3 : Int32) (v4 : Int32) (v5 : Int32) (w : Wd) : Option (Int32 × Wd) :=
  loopN (fun rc σ => g_X3_baseFrom_6 rc  σ.1 σ.2.1 σ.2.2.1 σ.2.2.2.1 σ.2.2.2.2) FU (v1, v3, v4, v5, w)
def f_X3_baseFrom  (v1 : Nat) (v2 : Int32) (v3 : Int32) (w : Wd) : Option (Int32 × Wd) :=
  f_X3_baseFrom_6 v1 v3 (0 : Int32) v2 w
/-! LetterTables.base -/
def f_X10_base  (v1 : Int32) (w : Wd) : Option ((Nat ⊕ Int32) × Wd) :=
  bdx (f_X10_textOf v1 w) (fun r2 w1 => bd (f_X3_baseFrom r2 (0 : Int32) (0 : Int32) w1) (fun x4 w3 => some (.inr x4, w3)))
/-! LetterTables$Levels.addFrame -/
def f_X3_addFrame  (v1 : Int32) (v2 : Int32) (v3 : Int32) (w : Wd) : Option (Int32 × Wd) :=
  bd (f_X7_add 653 v1 w) (fun x2 w1 => bd (f_X7_add 655 v2 w1) (fun x4 w3 => bd (f_X7_add 657 v3 w3) (fun x6 w5 => bd (f_X7_size 653 w5) (fun x8 w7 => some (x8 - (1 : Int32), w7)))))
/-! LetterTables$Levels.aroundIsolate -/
def g_X3_aroundIsolate_4 (rc_4 : Int32 × Int32 × Int32 × Wd → Option (Int32 × Wd)) (v1 : Int32) (v2 : Int32) (v3 : Int32) (w : Wd) : Option (Int32 × Wd) :=
  (if (40 : Int32) < v3 then some (v1, w) else (if v2 ≤ 0 then some (v1, w) else bd (f_X7_get 657 v2 w) (fun x2 w1 => bd (f_X3_isIsolate x2 w1) (fun x4 w3 => (if x4 = 0 then bd (f_X7_get 655 v2 w3) (fun x6 w5 => lt (v3 + (1 : Int32)) (fun x7 => rc_4 (v1, x6, x7, w5))) else bd (f_X7_get 655 v2 w3) (fun x9 w8 => some (x9, w8)))))))
def f_X3_aroundIsolate_4  (v1 : Int32) (v2 : Int32) (v3 : Int32) (w : Wd) : Option (Int32 × Wd) :=
  loopN (fun rc σ => g_X3_aroundIsolate_4 rc  σ.1 σ.2.1 σ.2.2.1 σ.2.2.2) FU (v1, v2, v3, w)
def f_X3_aroundIsolate  (v1 : Int32) (w : Wd) : Option (Int32 × Wd) :=
  f_X3_aroundIsolate_4 v1 v1 (0 : Int32) w
/-! LetterTables$Levels.isEmbed -/
def f_X3_isEmbed  (v0 : Int32) (w : Wd) : Option (Int32 × Wd) :=
  (if v0 = (4 : Int32) then some ((1 : Int32), w) else (if v0 = (5 : Int32) then some ((1 : Int32), w) else some ((0 : Int32), w)))
/-! LetterTables$Levels.wayOf -/
def f_X3_wayOf  (v0 : Int32) (w : Wd) : Option (Int32 × Wd) :=
  (if (v0 &&& (1 : Int32)) = 0 then some ((0 : Int32), w) else some ((1 : Int32), w))
/-! LetterTables$Levels.levelWithin -/
def f_X3_levelWithin_75  (v5 : Int32) (v7 : Int32) (w : Wd) : Option (Int32 × Wd) :=
  (if v7 ≤ (9 : Int32) then some (v7, w) else some (v5, w))
def f_X3_levelWithin_69  (v5 : Int32) (v7 : Int32) (t0 : Int32) (t1 : Int32) (w : Wd) : Option (Int32 × Wd) :=
  (if t0 = t1 then f_X3_levelWithin_75 v5 v7 w else lt (v7 + (1 : Int32)) (fun x1 => f_X3_levelWithin_75 v5 x1 w))
def f_X3_levelWithin_46  (v5 : Int32) (t0 : Int32) (w : Wd) : Option (Int32 × Wd) :=
  lt (v5 + (1 : Int32)) (fun x1 => bd (f_X3_wayOf x1 w) (fun x3 w2 => (if t0 = 0 then f_X3_levelWithin_69 v5 x1 x3 (0 : Int32) w2 else f_X3_levelWithin_69 v5 x1 x3 (1 : Int32) w2)))
def f_X3_levelWithin_45  (v5 : Int32) (w : Wd) : Option (Int32 × Wd) :=
  f_X3_levelWithin_46 v5 (0 : Int32) w
def f_X3_levelWithin  (v1 : Nat) (v2 : Int32) (v3 : Int32) (v4 : Int32) (w : Wd) : Option (Int32 × Wd) :=
  bd (f_X7_get 653 v4 w) (fun x2 w1 => (if v3 = (5 : Int32) then f_X3_levelWithin_46 x2 (1 : Int32) w1 else (if v3 = (8 : Int32) then f_X3_levelWithin_46 x2 (1 : Int32) w1 else (if v3 = (9 : Int32) then bd (f_X3_baseFrom v1 (v2 + (1 : Int32)) (1 : Int32) w1) (fun x4 w3 => (if x4 = (1 : Int32) then f_X3_levelWithin_46 x2 (1 : Int32) w3 else f_X3_levelWithin_45 x2 w3)) else f_X3_levelWithin_45 x2 w1))))
/-! LetterTables$Levels.layFrames -/
def f_X3_layFrames_105 (rc_43 : Nat × Int32 × Int32 × Wd → Option (Unit × Wd)) (v1 : Nat) (v3 : Int32) (v4 : Int32) (v5 : Int32) (w : Wd) : Option (Unit × Wd) :=
  bd (f_X3_levelWithin v1 v4 v5 v3 w) (fun x2 w1 => bd (f_X3_addFrame x2 v3 v5 w1) (fun x4 w3 => lt (v4 + (1 : Int32)) (fun x5 => rc_43 (v1, x4, x5, w3))))
def f_X3_layFrames_80 (rc_43 : Nat × Int32 × Int32 × Wd → Option (Unit × Wd)) (v1 : Nat) (v3 : Int32) (v4 : Int32) (v5 : Int32) (w : Wd) : Option (Unit × Wd) :=
  bd (f_X7_add 651 v3 w) (fun x2 w1 => bd (f_X3_isEmbed v5 w1) (fun x4 w3 => (if x4 = 0 then bd (f_X3_isIsolate v5 w3) (fun x6 w5 => (if x6 = 0 then (if v5 = (6 : Int32) then bd (f_X7_get 657 v3 w5) (fun x9 w8 => bd (f_X3_isEmbed x9 w8) (fun x11 w10 => (if x11 = 0 then lt (v4 + (1 : Int32)) (fun x12 => rc_43 (v1, v3, x12, w10)) else bd (f_X7_get 655 v3 w10) (fun x14 w13 => lt (v4 + (1 : Int32)) (fun x15 => rc_43 (v1, x14, x15, w13)))))) else lt (v4 + (1 : Int32)) (fun x7 => rc_43 (v1, v3, x7, w5))) else f_X3_layFrames_105 rc_43 v1 v3 v4 v5 w5)) else f_X3_layFrames_105 rc_43 v1 v3 v4 v5 w3)))
def g_X3_layFrames_43 (rc_43 : Nat × Int32 × Int32 × Wd → Option (Unit × Wd)) (v1 : Nat) (v3 : Int32) (v4 : Int32) (w : Wd) : Option (Unit × Wd) :=
  bd (f_X7_size v1 w) (fun x2 w1 => (if x2 ≤ v4 then some ((), w1) else bd (f_X7_get v1 v4 w1) (fun x4 w3 => bd (f_X9_directionOf 1 x4 w3) (fun x6 w5 => (if x6 = (10 : Int32) then bd (f_X3_aroundIsolate v3 w5) (fun x8 w7 => f_X3_layFrames_80 rc_43 v1 x8 v4 x6 w7) else f_X3_layFrames_80 rc_43 v1 v3 v4 x6 w5)))))
def f_X3_layFrames_43  (v1 : Nat) (v3 : Int32) (v4 : Int32) (w : Wd) : Option (Unit × Wd) :=
  loopN (fun rc σ => g_X3_layFrames_43 rc  σ.1 σ.2.1 σ.2.2.1 σ.2.2.2) FU (v1, v3, v4, w)
def f_X3_layFrames  (v1 : Nat) (v2 : Int32) (w : Wd) : Option (Unit × Wd) :=
  bd (f_X7_cutTo 651 (0 : Int32) w) (fun _ w1 => bd (f_X7_cutTo 653 (0 : Int32) w1) (fun _ w2 => bd (f_X7_cutTo 655 (0 : Int32) w2) (fun _ w3 => bd (f_X7_cutTo 657 (0 : Int32) w3) (fun _ w4 => bd (f_X3_addFrame v2 (-1 : Int32) (-1 : Int32) w4) (fun x6 w5 => f_X3_layFrames_43 v1 x6 (0 : Int32) w5)))))
/-! LetterTables$Row.refill -/
def g_X7_refill_7 (rc_7 : Nat × Int32 × Int32 × Int32 × Wd → Option (Unit × Wd)) (v0 : Nat) (v1 : Int32) (v2 : Int32) (v3 : Int32) (w : Wd) : Option (Unit × Wd) :=
  (if v2 ≤ v3 then some ((), w) else bd (f_X7_add v0 v1 w) (fun x2 w1 => lt (v3 + (1 : Int32)) (fun x3 => rc_7 (v0, v1, v2, x3, w1))))
def f_X7_refill_7  (v0 : Nat) (v1 : Int32) (v2 : Int32) (v3 : Int32) (w : Wd) : Option (Unit × Wd) :=
  loopN (fun rc σ => g_X7_refill_7 rc  σ.1 σ.2.1 σ.2.2.1 σ.2.2.2.1 σ.2.2.2.2) FU (v0, v1, v2, v3, w)
def f_X7_refill  (v0 : Nat) (v1 : Int32) (v2 : Int32) (w : Wd) : Option (Unit × Wd) :=
  wr (setI w v0 1 (0 : Int32)) (fun w1 => f_X7_refill_7 v0 v1 v2 (0 : Int32) w1)
/-! LetterTables$Levels.gather -/
def f_X3_gather_98 (rc_26 : Nat × Int32 × Int32 × Wd → Option (Unit × Wd)) (v1 : Nat) (v2 : Int32) (v3 : Int32) (t0 : Nat) (t1 : Int32) (w : Wd) : Option (Unit × Wd) :=
  bd (f_X7_add t0 t1 w) (fun x2 w1 => lt (v3 + (1 : Int32)) (fun x3 => rc_26 (v1, v2, x3, w1)))
def g_X3_gather_26 (rc_26 : Nat × Int32 × Int32 × Wd → Option (Unit × Wd)) (v1 : Nat) (v2 : Int32) (v3 : Int32) (w : Wd) : Option (Unit × Wd) :=
  bd (f_X7_size v1 w) (fun x2 w1 => (if x2 ≤ v3 then some ((), w1) else bd (f_X7_get 651 v3 w1) (fun x4 w3 => (if x4 = v2 then bd (f_X7_get v1 v3 w3) (fun x7 w6 => bd (f_X9_directionOf 1 x7 w6) (fun x9 w8 => bd (f_X7_add 659 v3 w8) (fun x11 w10 => bd (f_X7_get v1 v3 w10) (fun x13 w12 => bd (f_X7_add 661 x13 w12) (fun x15 w14 => (if (2 : Int32) < x9 then f_X3_gather_98 rc_26 v1 v2 v3 663 (3 : Int32) w14 else f_X3_gather_98 rc_26 v1 v2 v3 663 x9 w14)))))) else lt (v3 + (1 : Int32)) (fun x5 => rc_26 (v1, v2, x5, w3))))))
def f_X3_gather_26  (v1 : Nat) (v2 : Int32) (v3 : Int32) (w : Wd) : Option (Unit × Wd) :=
  loopN (fun rc σ => g_X3_gather_26 rc  σ.1 σ.2.1 σ.2.2.1 σ.2.2.2) FU (v1, v2, v3, w)
def f_X3_gather  (v1 : Nat) (v2 : Int32) (w : Wd) : Option (Unit × Wd) :=
  bd (f_X7_cutTo 659 (0 : Int32) w) (fun _ w1 => bd (f_X7_cutTo 661 (0 : Int32) w1) (fun _ w2 => bd (f_X7_cutTo 663 (0 : Int32) w2) (fun _ w3 => f_X3_gather_26 v1 v2 (0 : Int32) w3)))
/-! LetterTables$Levels.settleNumbers -/
def g_X3_settleNumbers_4 (rc_4 : Int32 × Int32 × Wd → Option (Unit × Wd)) (v2 : Int32) (v3 : Int32) (w : Wd) : Option (Unit × Wd) :=
  bd (f_X7_size 663 w) (fun x2 w1 => (if x2 ≤ v3 then some ((), w1) else bd (f_X7_get 663 v3 w1) (fun x4 w3 => (if x4 = 0 then lt (v3 + (1 : Int32)) (fun x5 => rc_4 (x4, x5, w3)) else (if x4 = (1 : Int32) then lt (v3 + (1 : Int32)) (fun x10 => rc_4 (x4, x10, w3)) else (if x4 = (2 : Int32) then (if v2 = 0 then bd (f_X7_set 663 v3 (0 : Int32) w3) (fun _ w8 => lt (v3 + (1 : Int32)) (fun x9 => rc_4 (v2, x9, w8))) else lt (v3 + (1 : Int32)) (fun x7 => rc_4 (v2, x7, w3))) else lt (v3 + (1 : Int32)) (fun x6 => rc_4 (v2, x6, w3))))))))
def f_X3_settleNumbers_4  (v2 : Int32) (v3 : Int32) (w : Wd) : Option (Unit × Wd) :=
  loopN (fun rc σ => g_X3_settleNumbers_4 rc  σ.1 σ.2.1 σ.2.2) FU (v2, v3, w)
def f_X3_settleNumbers  (v1 : Int32) (w : Wd) : Option (Unit × Wd) :=
  f_X3_settleNumbers_4 v1 (0 : Int32) w
/-! LetterTables$Tables.isOpening -/
def f_X9_isOpening  (v0 : Nat) (v1 : Int32) (w : Wd) : Option (Int32 × Wd) :=
  bd (f_X9_partnerOf v0 v1 w) (fun x2 w1 => (if x2 = (-1 : Int32) then some ((0 : Int32), w1) else bd (f_X10_cellOf (v0 + 10) v1 (0 : Int32) w1) (fun x4 w3 => (if x4 = (1 : Int32) then some ((1 : Int32), w3) else some ((0 : Int32), w3)))))
/-! LetterTables$Tables.isClosing -/
def f_X9_isClosing  (v0 : Nat) (v1 : Int32) (w : Wd) : Option (Int32 × Wd) :=
  bd (f_X9_partnerOf v0 v1 w) (fun x2 w1 => (if x2 = (-1 : Int32) then some ((0 : Int32), w1) else bd (f_X10_cellOf (v0 + 10) v1 (0 : Int32) w1) (fun x4 w3 => (if x4 = 0 then some ((1 : Int32), w3) else some ((0 : Int32), w3)))))
/-! LetterTables$Levels.closeLast -/
def g_X3_closeLast_10 (rc_10 : Int32 × Int32 × Int32 × Wd → Option (Unit × Wd)) (v1 : Int32) (v2 : Int32) (v3 : Int32) (w : Wd) : Option (Unit × Wd) :=
  (if v3 < 0 then some ((), w) else bd (f_X7_get 665 v3 w) (fun x2 w1 => bd (f_X7_get 661 x2 w1) (fun x4 w3 => (if x4 = v2 then bd (f_X7_get 665 v3 w3) (fun x7 w6 => bd (f_X7_set 667 x7 v1 w6) (fun _ w8 => bd (f_X7_cutTo 665 v3 w8) (fun _ w9 => some ((), w9)))) else lt (v3 + (-1 : Int32)) (fun x5 => rc_10 (v1, v2, x5, w3))))))
def f_X3_closeLast_10  (v1 : Int32) (v2 : Int32) (v3 : Int32) (w : Wd) : Option (Unit × Wd) :=
  loopN (fun rc σ => g_X3_closeLast_10 rc  σ.1 σ.2.1 σ.2.2.1 σ.2.2.2) FU (v1, v2, v3, w)
def f_X3_closeLast  (v1 : Int32) (v2 : Int32) (w : Wd) : Option (Unit × Wd) :=
  bd (f_X7_size 665 w) (fun x2 w1 => lt (x2 - (1 : Int32)) (fun x3 => f_X3_closeLast_10 v1 v2 x3 w1))
/-! LetterTables$Levels.matchPartners -/
def g_X3_matchPartners_25 (rc_25 : Int32 × Wd → Option (Unit × Wd)) (v1 : Int32) (w : Wd) : Option (Unit × Wd) :=
  bd (f_X7_size 661 w) (fun x2 w1 => (if x2 ≤ v1 then some ((), w1) else bd (f_X7_get 661 v1 w1) (fun x4 w3 => bd (f_X9_directionOf 1 x4 w3) (fun x6 w5 => (if x6 = (3 : Int32) then bd (f_X9_isOpening 1 x4 w5) (fun x8 w7 => (if x8 = 0 then bd (f_X9_isClosing 1 x4 w7) (fun x10 w9 => (if x10 = 0 then lt (v1 + (1 : Int32)) (fun x11 => rc_25 (x11, w9)) else bd (f_X9_partnerOf 1 x4 w9) (fun x13 w12 => bd (f_X3_closeLast v1 x13 w12) (fun _ w14 => lt (v1 + (1 : Int32)) (fun x15 => rc_25 (x15, w14)))))) else bd (f_X7_add 665 v1 w7) (fun x17 w16 => lt (v1 + (1 : Int32)) (fun x18 => rc_25 (x18, w16))))) else lt (v1 + (1 : Int32)) (fun x19 => rc_25 (x19, w5)))))))
def f_X3_matchPartners_25  (v1 : Int32) (w : Wd) : Option (Unit × Wd) :=
  loopN (fun rc σ => g_X3_matchPartners_25 rc  σ.1 σ.2) FU (v1, w)
def f_X3_matchPartners   (w : Wd) : Option (Unit × Wd) :=
  bd (f_X7_size 661 w) (fun x2 w1 => bd (f_X7_refill 667 (-1 : Int32) x2 w1) (fun _ w3 => bd (f_X7_cutTo 665 (0 : Int32) w3) (fun _ w4 => f_X3_matchPartners_25 (0 : Int32) w4)))
/-! LetterTables$Levels.plainWay -/
def f_X3_plainWay  (v1 : Int32) (w : Wd) : Option (Int32 × Wd) :=
  bd (f_X7_get 663 v1 w) (fun x2 w1 => (if x2 = (2 : Int32) then some ((1 : Int32), w1) else some (x2, w1)))
/-! LetterTables$Levels.wayAhead -/
def g_X3_wayAhead_4 (rc_4 : Int32 × Int32 × Wd → Option (Int32 × Wd)) (v2 : Int32) (v3 : Int32) (w : Wd) : Option (Int32 × Wd) :=
  (if v3 < 0 then some (v2, w) else bd (f_X3_plainWay v3 w) (fun x2 w1 => (if x2 = (3 : Int32) then lt (v3 + (-1 : Int32)) (fun x3 => rc_4 (v2, x3, w1)) else bd (f_X3_plainWay v3 w1) (fun x5 w4 => some (x5, w4)))))
def f_X3_wayAhead_4  (v2 : Int32) (v3 : Int32) (w : Wd) : Option (Int32 × Wd) :=
  loopN (fun rc σ => g_X3_wayAhead_4 rc  σ.1 σ.2.1 σ.2.2) FU (v2, v3, w)
def f_X3_wayAhead  (v1 : Int32) (v2 : Int32) (w : Wd) : Option (Int32 × Wd) :=
  lt (v1 - (1 : Int32)) (fun x1 => f_X3_wayAhead_4 v2 x1 w)
/-! LetterTables$Levels.pairWay -/
def g_X3_pairWay_19 (rc_19 : Int32 × Int32 × Int32 × Int32 × Int32 × Int32 × Wd → Option (Int32 × Wd)) (v1 : Int32) (v2 : Int32) (v3 : Int32) (v4 : Int32) (v5 : Int32) (v6 : Int32) (w : Wd) : Option (Int32 × Wd) :=
  (if v2 ≤ v6 then (if v5 = 0 then some ((3 : Int32), w) else bd (f_X3_wayAhead v1 v3 w) (fun x2 w1 => (if x2 = v4 then some (v4, w1) else some (v3, w1)))) else bd (f_X3_plainWay v6 w) (fun x4 w3 => (if x4 = v3 then some (v3, w3) else (if v5 = 0 then (if x4 = v4 then lt (v6 + (1 : Int32)) (fun x7 => rc_19 (v1, v2, v3, v4, (1 : Int32), x7, w3)) else lt (v6 + (1 : Int32)) (fun x6 => rc_19 (v1, v2, v3, v4, (0 : Int32), x6, w3))) else lt (v6 + (1 : Int32)) (fun x5 => rc_19 (v1, v2, v3, v4, (1 : Int32), x5, w3))))))
def f_X3_pairWay_19  (v1 : Int32) (v2 : Int32) (v3 : Int32) (v4 : Int32) (v5 : Int32) (v6 : Int32) (w : Wd) : Option (Int32 × Wd) :=
  loopN (fun rc σ => g_X3_pairWay_19 rc  σ.1 σ.2.1 σ.2.2.1 σ.2.2.2.1 σ.2.2.2.2.1 σ.2.2.2.2.2.1 σ.2.2.2.2.2.2) FU (v1, v2, v3, v4, v5, v6, w)
def f_X3_pairWay_9  (v1 : Int32) (v2 : Int32) (v3 : Int32) (t0 : Int32) (w : Wd) : Option (Int32 × Wd) :=
  lt (v1 + (1 : Int32)) (fun x1 => f_X3_pairWay_19 v1 v2 v3 t0 (0 : Int32) x1 w)
def f_X3_pairWay  (v1 : Int32) (v2 : Int32) (v3 : Int32) (w : Wd) : Option (Int32 × Wd) :=
  (if v3 = 0 then f_X3_pairWay_9 v1 v2 v3 (1 : Int32) w else f_X3_pairWay_9 v1 v2 v3 (0 : Int32) w)
/-! LetterTables$Levels.settlePartners -/
def f_X3_settlePartners_42 (rc_6 : Int32 × Int32 × Wd → Option (Unit × Wd)) (v1 : Int32) (v2 : Int32) (v3 : Int32) (t0 : Int32) (w : Wd) : Option (Unit × Wd) :=
  (if t0 = (3 : Int32) then lt (v2 + (1 : Int32)) (fun x1 => rc_6 (v1, x1, w)) else bd (f_X7_set 663 v2 t0 w) (fun _ w2 => bd (f_X7_set 663 v3 t0 w2) (fun _ w3 => lt (v2 + (1 : Int32)) (fun x4 => rc_6 (v1, x4, w3)))))
def g_X3_settlePartners_6 (rc_6 : Int32 × Int32 × Wd → Option (Unit × Wd)) (v1 : Int32) (v2 : Int32) (w : Wd) : Option (Unit × Wd) :=
  bd (f_X7_size 661 w) (fun x2 w1 => (if x2 ≤ v2 then some ((), w1) else bd (f_X7_get 667 v2 w1) (fun x4 w3 => (if x4 = (-1 : Int32) then f_X3_settlePartners_42 rc_6 v1 v2 x4 (3 : Int32) w3 else bd (f_X3_pairWay v2 x4 v1 w3) (fun x6 w5 => f_X3_settlePartners_42 rc_6 v1 v2 x4 x6 w5)))))
def f_X3_settlePartners_6  (v1 : Int32) (v2 : Int32) (w : Wd) : Option (Unit × Wd) :=
  loopN (fun rc σ => g_X3_settlePartners_6 rc  σ.1 σ.2.1 σ.2.2) FU (v1, v2, w)
def f_X3_settlePartners  (v1 : Int32) (w : Wd) : Option (Unit × Wd) :=
  bd (f_X3_matchPartners w) (fun _ w1 => f_X3_settlePartners_6 v1 (0 : Int32) w1)
/-! LetterTables$Levels.wayBehind -/
def g_X3_wayBehind_4 (rc_4 : Int32 × Int32 × Wd → Option (Int32 × Wd)) (v2 : Int32) (v3 : Int32) (w : Wd) : Option (Int32 × Wd) :=
  bd (f_X7_size 663 w) (fun x2 w1 => (if x2 ≤ v3 then some (v2, w1) else bd (f_X3_plainWay v3 w1) (fun x4 w3 => (if x4 = (3 : Int32) then lt (v3 + (1 : Int32)) (fun x5 => rc_4 (v2, x5, w3)) else bd (f_X3_plainWay v3 w3) (fun x7 w6 => some (x7, w6))))))
def f_X3_wayBehind_4  (v2 : Int32) (v3 : Int32) (w : Wd) : Option (Int32 × Wd) :=
  loopN (fun rc σ => g_X3_wayBehind_4 rc  σ.1 σ.2.1 σ.2.2) FU (v2, v3, w)
def f_X3_wayBehind  (v1 : Int32) (v2 : Int32) (w : Wd) : Option (Int32 × Wd) :=
  lt (v1 + (1 : Int32)) (fun x1 => f_X3_wayBehind_4 v2 x1 w)
/-! LetterTables$Levels.settleRest -/
def f_X3_settleRest_52 (rc_2 : Int32 × Int32 × Wd → Option (Unit × Wd)) (v1 : Int32) (v2 : Int32) (t0 : Nat) (t1 : Int32) (t2 : Int32) (w : Wd) : Option (Unit × Wd) :=
  bd (f_X7_set t0 t1 t2 w) (fun _ w1 => lt (v2 + (1 : Int32)) (fun x2 => rc_2 (v1, x2, w1)))
def g_X3_settleRest_2 (rc_2 : Int32 × Int32 × Wd → Option (Unit × Wd)) (v1 : Int32) (v2 : Int32) (w : Wd) : Option (Unit × Wd) :=
  bd (f_X7_size 663 w) (fun x2 w1 => (if x2 ≤ v2 then some ((), w1) else bd (f_X7_get 663 v2 w1) (fun x4 w3 => (if x4 = (3 : Int32) then bd (f_X3_wayAhead v2 v1 w3) (fun x7 w6 => bd (f_X3_wayBehind v2 v1 w6) (fun x9 w8 => (if x7 = x9 then f_X3_settleRest_52 rc_2 v1 v2 663 v2 x7 w8 else f_X3_settleRest_52 rc_2 v1 v2 663 v2 v1 w8))) else lt (v2 + (1 : Int32)) (fun x5 => rc_2 (v1, x5, w3))))))
def f_X3_settleRest_2  (v1 : Int32) (v2 : Int32) (w : Wd) : Option (Unit × Wd) :=
  loopN (fun rc σ => g_X3_settleRest_2 rc  σ.1 σ.2.1 σ.2.2) FU (v1, v2, w)
def f_X3_settleRest  (v1 : Int32) (w : Wd) : Option (Unit × Wd) :=
  f_X3_settleRest_2 v1 (0 : Int32) w
/-! LetterTables$Levels.tellLevels -/
def f_X3_tellLevels_68 (rc_15 : Int32 × Int32 × Int32 × Wd → Option (Unit × Wd)) (v1 : Int32) (v2 : Int32) (v3 : Int32) (t0 : Int32) (w : Wd) : Option (Unit × Wd) :=
  bd (f_X7_get 659 v3 w) (fun x2 w1 => bd (f_X7_set 669 x2 (v1 + t0) w1) (fun _ w3 => lt (v3 + (1 : Int32)) (fun x4 => rc_15 (v1, v2, x4, w3))))
def g_X3_tellLevels_15 (rc_15 : Int32 × Int32 × Int32 × Wd → Option (Unit × Wd)) (v1 : Int32) (v2 : Int32) (v3 : Int32) (w : Wd) : Option (Unit × Wd) :=
  bd (f_X7_size 663 w) (fun x2 w1 => (if x2 ≤ v3 then some ((), w1) else bd (f_X7_get 663 v3 w1) (fun x4 w3 => (if x4 = (2 : Int32) then (if v2 = 0 then f_X3_tellLevels_68 rc_15 v1 v2 v3 (1 : Int32) w3 else f_X3_tellLevels_68 rc_15 v1 v2 v3 (2 : Int32) w3) else bd (f_X3_wayOf v1 w3) (fun x6 w5 => (if x4 = x6 then f_X3_tellLevels_68 rc_15 v1 v2 v3 (0 : Int32) w5 else f_X3_tellLevels_68 rc_15 v1 v2 v3 (1 : Int32) w5))))))
def f_X3_tellLevels_15  (v1 : Int32) (v2 : Int32) (v3 : Int32) (w : Wd) : Option (Unit × Wd) :=
  loopN (fun rc σ => g_X3_tellLevels_15 rc  σ.1 σ.2.1 σ.2.2.1 σ.2.2.2) FU (v1, v2, v3, w)
def f_X3_tellLevels_12  (v1 : Int32) (t0 : Int32) (w : Wd) : Option (Unit × Wd) :=
  f_X3_tellLevels_15 v1 t0 (0 : Int32) w
def f_X3_tellLevels  (v1 : Int32) (w : Wd) : Option (Unit × Wd) :=
  bd (f_X3_wayOf v1 w) (fun x2 w1 => (if x2 = 0 then f_X3_tellLevels_12 v1 (1 : Int32) w1 else f_X3_tellLevels_12 v1 (0 : Int32) w1))
/-! LetterTables$Levels.lookAt -/
def g_X3_lookAt_35 (rc_35 : Nat × Int32 × Wd → Option (Unit × Wd)) (v1 : Nat) (v3 : Int32) (w : Wd) : Option (Unit × Wd) :=
  bd (f_X7_size 653 w) (fun x2 w1 => (if x2 ≤ v3 then some ((), w1) else bd (f_X7_get 653 v3 w1) (fun x4 w3 => bd (f_X3_gather v1 v3 w3) (fun _ w5 => bd (f_X3_wayOf x4 w5) (fun x7 w6 => bd (f_X3_settleNumbers x7 w6) (fun _ w8 => bd (f_X3_wayOf x4 w8) (fun x10 w9 => bd (f_X3_settlePartners x10 w9) (fun _ w11 => bd (f_X3_wayOf x4 w11) (fun x13 w12 => bd (f_X3_settleRest x13 w12) (fun _ w14 => bd (f_X3_tellLevels x4 w14) (fun _ w15 => lt (v3 + (1 : Int32)) (fun x16 => rc_35 (v1, x16, w15)))))))))))))
def f_X3_lookAt_35  (v1 : Nat) (v3 : Int32) (w : Wd) : Option (Unit × Wd) :=
  loopN (fun rc σ => g_X3_lookAt_35 rc  σ.1 σ.2.1 σ.2.2) FU (v1, v3, w)
def f_X3_lookAt_18  (v1 : Nat) (t1 : Nat) (t2 : Int32) (w : Wd) : Option (Unit × Wd) :=
  bd (f_X3_layFrames t1 t2 w) (fun _ w1 => bd (f_X7_size v1 w1) (fun x3 w2 => bd (f_X7_refill 669 (0 : Int32) x3 w2) (fun _ w4 => f_X3_lookAt_35 v1 (0 : Int32) w4)))
def f_X3_lookAt  (v1 : Nat) (v2 : Int32) (w : Wd) : Option (Unit × Wd) :=
  (if v2 = (-1 : Int32) then bd (f_X3_baseFrom v1 (0 : Int32) (0 : Int32) w) (fun x2 w1 => f_X3_lookAt_18 v1 v1 x2 w1) else f_X3_lookAt_18 v1 v1 v2 w)
/-! LetterTables$Levels.levelAt -/
def f_X3_levelAt  (v1 : Int32) (w : Wd) : Option (Int32 × Wd) :=
  bd (f_X7_get 669 v1 w) (fun x2 w1 => some (x2, w1))
/-! LetterTables.level -/
def f_X10_level  (v1 : Int32) (v2 : Int32) (v3 : Int32) (w : Wd) : Option ((Nat ⊕ Int32) × Wd) :=
  bdx (f_X10_textOf v1 w) (fun r2 w1 => bd (f_X7_size r2 w1) (fun x4 w3 => bdx (f_X10_checkPlace v2 x4 w3) (fun _ w5 => bd (f_X10_isWithin v3 (-1 : Int32) (1 : Int32) w5) (fun x7 w6 => bdx (f_X10_checkArgument x7 w6) (fun _ w8 => bd (f_X3_lookAt r2 v3 w8) (fun _ w9 => bd (f_X3_levelAt v2 w9) (fun x11 w10 => some (.inr x11, w10))))))))
/-! LetterTables$Row.turn -/
def g_X7_turn_5 (rc_5 : Nat × Int32 × Int32 × Wd → Option (Unit × Wd)) (v0 : Nat) (v3 : Int32) (v4 : Int32) (w : Wd) : Option (Unit × Wd) :=
  (if v4 ≤ v3 then some ((), w) else bd (f_X7_get v0 v3 w) (fun x2 w1 => bd (f_X7_get v0 v4 w1) (fun x4 w3 => bd (f_X7_set v0 v3 x4 w3) (fun _ w5 => bd (f_X7_set v0 v4 x2 w5) (fun _ w6 => lt (v3 + (1 : Int32)) (fun x7 => lt (v4 + (-1 : Int32)) (fun x8 => rc_5 (v0, x7, x8, w6))))))))
def f_X7_turn_5  (v0 : Nat) (v3 : Int32) (v4 : Int32) (w : Wd) : Option (Unit × Wd) :=
  loopN (fun rc σ => g_X7_turn_5 rc  σ.1 σ.2.1 σ.2.2.1 σ.2.2.2) FU (v0, v3, v4, w)
def f_X7_turn  (v0 : Nat) (v1 : Int32) (v2 : Int32) (w : Wd) : Option (Unit × Wd) :=
  f_X7_turn_5 v0 v1 v2 w
/-! LetterTables$Levels.turnRows -/
def f_X3_turnRows_67 (rc_4 : Int32 × Int32 × Int32 × Wd → Option (Unit × Wd)) (v1 : Int32) (v2 : Int32) (v3 : Int32) (v4 : Int32) (w : Wd) : Option (Unit × Wd) :=
  (if v4 = 0 then (if v2 = (-1 : Int32) then lt (v3 + (1 : Int32)) (fun x2 => rc_4 (v1, v2, x2, w)) else bd (f_X7_turn 671 v2 (v3 - (1 : Int32)) w) (fun _ w3 => lt (v3 + (1 : Int32)) (fun x4 => rc_4 (v1, (-1 : Int32), x4, w3)))) else lt (v3 + (1 : Int32)) (fun x1 => rc_4 (v1, v2, x1, w)))
def f_X3_turnRows_50 (rc_4 : Int32 × Int32 × Int32 × Wd → Option (Unit × Wd)) (v1 : Int32) (v2 : Int32) (v3 : Int32) (t0 : Int32) (w : Wd) : Option (Unit × Wd) :=
  (if t0 = 0 then f_X3_turnRows_67 rc_4 v1 v2 v3 t0 w else (if v2 = (-1 : Int32) then lt (v3 + (1 : Int32)) (fun x1 => rc_4 (v1, v3, x1, w)) else f_X3_turnRows_67 rc_4 v1 v2 v3 t0 w))
def f_X3_turnRows_49 (rc_4 : Int32 × Int32 × Int32 × Wd → Option (Unit × Wd)) (v1 : Int32) (v2 : Int32) (v3 : Int32) (w : Wd) : Option (Unit × Wd) :=
  f_X3_turnRows_50 rc_4 v1 v2 v3 (0 : Int32) w
def g_X3_turnRows_4 (rc_4 : Int32 × Int32 × Int32 × Wd → Option (Unit × Wd)) (v1 : Int32) (v2 : Int32) (v3 : Int32) (w : Wd) : Option (Unit × Wd) :=
  bd (f_X7_size 671 w) (fun x2 w1 => (if x2 < v3 then some ((), w1) else bd (f_X7_size 671 w1) (fun x4 w3 => (if x4 ≤ v3 then f_X3_turnRows_49 rc_4 v1 v2 v3 w3 else bd (f_X7_get 671 v3 w3) (fun x6 w5 => bd (f_X7_get 669 x6 w5) (fun x8 w7 => (if x8 < v1 then f_X3_turnRows_49 rc_4 v1 v2 v3 w7 else f_X3_turnRows_50 rc_4 v1 v2 v3 (1 : Int32) w7)))))))
def f_X3_turnRows_4  (v1 : Int32) (v2 : Int32) (v3 : Int32) (w : Wd) : Option (Unit × Wd) :=
  loopN (fun rc σ => g_X3_turnRows_4 rc  σ.1 σ.2.1 σ.2.2.1 σ.2.2.2) FU (v1, v2, v3, w)
def f_X3_turnRows  (v1 : Int32) (w : Wd) : Option (Unit × Wd) :=
  f_X3_turnRows_4 v1 (-1 : Int32) (0 : Int32) w
/-! LetterTables$Levels.screen -/
def g_X3_screen_65 (rc_65 : Int32 × Wd → Option (Nat × Wd)) (v2 : Int32) (w : Wd) : Option (Nat × Wd) :=
  (if v2 < (1 : Int32) then some (671, w) else bd (f_X3_turnRows v2 w) (fun _ w1 => lt (v2 + (-1 : Int32)) (fun x2 => rc_65 (x2, w1))))
def f_X3_screen_65  (v2 : Int32) (w : Wd) : Option (Nat × Wd) :=
  loopN (fun rc σ => g_X3_screen_65 rc  σ.1 σ.2) FU (v2, w)
def g_X3_screen_12 (rc_12 : Int32 × Int32 × Wd → Option (Nat × Wd)) (v1 : Int32) (v2 : Int32) (w : Wd) : Option (Nat × Wd) :=
  bd (f_X7_size 669 w) (fun x2 w1 => (if x2 ≤ v2 then f_X3_screen_65 v1 w1 else bd (f_X7_add 671 v2 w1) (fun x4 w3 => bd (f_X7_get 669 v2 w3) (fun x6 w5 => (if x6 ≤ v1 then lt (v2 + (1 : Int32)) (fun x7 => rc_12 (v1, x7, w5)) else bd (f_X7_get 669 v2 w5) (fun x9 w8 => lt (v2 + (1 : Int32)) (fun x10 => rc_12 (x9, x10, w8))))))))
def f_X3_screen_12  (v1 : Int32) (v2 : Int32) (w : Wd) : Option (Nat × Wd) :=
  loopN (fun rc σ => g_X3_screen_12 rc  σ.1 σ.2.1 σ.2.2) FU (v1, v2, w)
def f_X3_screen   (w : Wd) : Option (Nat × Wd) :=
  bd (f_X7_cutTo 671 (0 : Int32) w) (fun _ w1 => f_X3_screen_12 (0 : Int32) (0 : Int32) w1)
/-! LetterTables.shown -/
def f_X10_shown  (v1 : Int32) (v2 : Int32) (v3 : Int32) (w : Wd) : Option ((Nat ⊕ Int32) × Wd) :=
  bdx (f_X10_textOf v1 w) (fun r2 w1 => bd (f_X7_size r2 w1) (fun x4 w3 => bdx (f_X10_checkPlace v2 x4 w3) (fun _ w5 => bd (f_X10_isWithin v3 (-1 : Int32) (1 : Int32) w5) (fun x7 w6 => bdx (f_X10_checkArgument x7 w6) (fun _ w8 => bd (f_X3_lookAt r2 v3 w8) (fun _ w9 => bd (f_X3_screen w9) (fun r11 w10 => bd (f_X7_get r11 v2 w10) (fun x13 w12 => some (.inr x13, w12)))))))))
/-! LetterTables$Tables.kindOf -/
def f_X9_kindOf  (v0 : Nat) (v1 : Int32) (w : Wd) : Option (Int32 × Wd) :=
  bd (f_X10_cellOf (v0 + 3) v1 (0 : Int32) w) (fun x2 w1 => some (x2, w1))
/-! LetterTables$Borders.kindAt -/
def f_X0_kindAt  (v1 : Nat) (v2 : Int32) (w : Wd) : Option (Int32 × Wd) :=
  bd (f_X7_get v1 v2 w) (fun x2 w1 => bd (f_X9_kindOf 1 x2 w1) (fun x4 w3 => some (x4, w3)))
/-! LetterTables$Borders.clusterBreaks -/
def g_X0_clusterBreaks_5 (rc_5 : Nat × Int64 × Int32 × Wd → Option (Int64 × Wd)) (v1 : Nat) (v2 : Int64) (v4 : Int32) (w : Wd) : Option (Int64 × Wd) :=
  bd (f_X7_size v1 w) (fun x2 w1 => (if x2 ≤ v4 then some (v2, w1) else bd (f_X0_kindAt v1 v4 w1) (fun x4 w3 => (if x4 = (2 : Int32) then lt (v4 + (1 : Int32)) (fun x5 => rc_5 (v1, v2, x5, w3)) else bd (f_X0_kindAt v1 (v4 - (1 : Int32)) w3) (fun x7 w6 => (if x7 = (5 : Int32) then lt (v4 + (1 : Int32)) (fun x8 => rc_5 (v1, v2, x8, w6)) else lt (v2 ||| ((1 : Int64) <<< (v4.toInt64 &&& 63))) (fun y9 => lt (v4 + (1 : Int32)) (fun x10 => rc_5 (v1, y9, x10, w6)))))))))
def f_X0_clusterBreaks_5  (v1 : Nat) (v2 : Int64) (v4 : Int32) (w : Wd) : Option (Int64 × Wd) :=
  loopN (fun rc σ => g_X0_clusterBreaks_5 rc  σ.1 σ.2.1 σ.2.2.1 σ.2.2.2) FU (v1, v2, v4, w)
def f_X0_clusterBreaks  (v1 : Nat) (w : Wd) : Option (Int64 × Wd) :=
  f_X0_clusterBreaks_5 v1 (0 : Int64) (1 : Int32) w
/-! LetterTables$Row.placeOf -/
def g_X7_placeOf_2 (rc_2 : Nat × Int32 × Int32 × Wd → Option (Int32 × Wd)) (v0 : Nat) (v1 : Int32) (v2 : Int32) (w : Wd) : Option (Int32 × Wd) :=
  (if (w.1 v0 1) ≤ v2 then some ((-1 : Int32), w) else bd (f_X7_get v0 v2 w) (fun x2 w1 => (if x2 = v1 then some (v2, w1) else lt (v2 + (1 : Int32)) (fun x3 => rc_2 (v0, v1, x3, w1)))))
def f_X7_placeOf_2  (v0 : Nat) (v1 : Int32) (v2 : Int32) (w : Wd) : Option (Int32 × Wd) :=
  loopN (fun rc σ => g_X7_placeOf_2 rc  σ.1 σ.2.1 σ.2.2.1 σ.2.2.2) FU (v0, v1, v2, w)
def f_X7_placeOf  (v0 : Nat) (v1 : Int32) (w : Wd) : Option (Int32 × Wd) :=
  f_X7_placeOf_2 v0 v1 (0 : Int32) w
/-! LetterTables$Borders.isMarked -/
def f_X0_isMarked  (v0 : Int64) (v2 : Int32) (w : Wd) : Option (Int32 × Wd) :=
  (if v2 ≤ 0 then some ((0 : Int32), w) else (if (64 : Int32) ≤ v2 then some ((0 : Int32), w) else (if (lg_cmp (((v0.toUInt64 >>> (v2.toInt64.toUInt64 &&& Int64.toUInt64 63)).toInt64) &&& (1 : Int64)) (0 : Int64)) = 0 then some ((0 : Int32), w) else some ((1 : Int32), w))))
/-! LetterTables$Borders.isBeginning -/
def f_X0_isBeginning  (v0 : Int64) (v2 : Int32) (w : Wd) : Option (Int32 × Wd) :=
  (if v2 = 0 then some ((1 : Int32), w) else bd (f_X0_isMarked v0 v2 w) (fun x2 w1 => (if x2 = 0 then some ((0 : Int32), w1) else some ((1 : Int32), w1))))
/-! LetterTables.bySight -/
def g_X10_bySight_68 (rc_68 : Nat × Int64 × Int32 × Int32 × Wd → Option ((Nat ⊕ Int32) × Wd)) (v5 : Nat) (v6 : Int64) (v8 : Int32) (v9 : Int32) (w : Wd) : Option ((Nat ⊕ Int32) × Wd) :=
  (if v9 < 0 then some (.inr (-1 : Int32), w) else bd (f_X7_size v5 w) (fun x2 w1 => (if x2 ≤ v9 then some (.inr (-1 : Int32), w1) else bd (f_X7_get v5 v9 w1) (fun x4 w3 => bd (f_X0_isBeginning v6 x4 w3) (fun x6 w5 => (if x6 = 0 then lt (v9 + v8) (fun x7 => rc_68 (v5, v6, v8, x7, w5)) else some (.inr x4, w5)))))))
def f_X10_bySight_68  (v5 : Nat) (v6 : Int64) (v8 : Int32) (v9 : Int32) (w : Wd) : Option ((Nat ⊕ Int32) × Wd) :=
  loopN (fun rc σ => g_X10_bySight_68 rc  σ.1 σ.2.1 σ.2.2.1 σ.2.2.2.1 σ.2.2.2.2) FU (v5, v6, v8, v9, w)
def f_X10_bySight_55  (v2 : Int32) (v5 : Nat) (v6 : Int64) (t0 : Int32) (w : Wd) : Option ((Nat ⊕ Int32) × Wd) :=
  bd (f_X7_placeOf v5 v2 w) (fun x2 w1 => lt (x2 + t0) (fun x3 => f_X10_bySight_68 v5 v6 t0 x3 w1))
def f_X10_bySight  (v1 : Int32) (v2 : Int32) (v3 : Int32) (w : Wd) : Option ((Nat ⊕ Int32) × Wd) :=
  bdx (f_X10_textOf v1 w) (fun r2 w1 => bd (f_X7_size r2 w1) (fun x4 w3 => bdx (f_X10_checkPlace v2 x4 w3) (fun _ w5 => bd (f_X3_lookAt r2 (-1 : Int32) w5) (fun _ w6 => bd (f_X3_screen w6) (fun r8 w7 => bd (f_X0_clusterBreaks r2 w7) (fun y10 w9 => (if v3 = 0 then f_X10_bySight_55 v2 r8 y10 (-1 : Int32) w9 else f_X10_bySight_55 v2 r8 y10 (1 : Int32) w9)))))))
/-! LetterTables$Borders.clusterEnd -/
def g_X0_clusterEnd_6 (rc_6 : Nat × Int64 × Int32 × Wd → Option (Int32 × Wd)) (v1 : Nat) (v2 : Int64) (v5 : Int32) (w : Wd) : Option (Int32 × Wd) :=
  bd (f_X7_size v1 w) (fun x2 w1 => (if x2 ≤ v5 then bd (f_X7_size v1 w1) (fun x4 w3 => some (x4, w3)) else bd (f_X0_isMarked v2 v5 w1) (fun x6 w5 => (if x6 = 0 then lt (v5 + (1 : Int32)) (fun x7 => rc_6 (v1, v2, x7, w5)) else some (v5, w5)))))
def f_X0_clusterEnd_6  (v1 : Nat) (v2 : Int64) (v5 : Int32) (w : Wd) : Option (Int32 × Wd) :=
  loopN (fun rc σ => g_X0_clusterEnd_6 rc  σ.1 σ.2.1 σ.2.2.1 σ.2.2.2) FU (v1, v2, v5, w)
def f_X0_clusterEnd  (v1 : Nat) (v2 : Int64) (v4 : Int32) (w : Wd) : Option (Int32 × Wd) :=
  lt (v4 + (1 : Int32)) (fun x1 => f_X0_clusterEnd_6 v1 v2 x1 w)
/-! LetterTables$Borders.seamlessLimit -/
def g_X0_seamlessLimit_6 (rc_6 : Nat × Int64 × Int32 × Wd → Option (Int32 × Wd)) (v1 : Nat) (v2 : Int64) (v5 : Int32) (w : Wd) : Option (Int32 × Wd) :=
  bd (f_X7_size v1 w) (fun x2 w1 => (if x2 ≤ v5 then bd (f_X7_size v1 w1) (fun x4 w3 => some (x4, w3)) else bd (f_X0_isMarked v2 v5 w1) (fun x6 w5 => (if x6 = 0 then lt (v5 + (1 : Int32)) (fun x7 => rc_6 (v1, v2, x7, w5)) else bd (f_X0_kindAt v1 v5 w5) (fun x9 w8 => (if x9 = (6 : Int32) then lt (v5 + (1 : Int32)) (fun x10 => rc_6 (v1, v2, x10, w8)) else some (v5, w8)))))))
def f_X0_seamlessLimit_6  (v1 : Nat) (v2 : Int64) (v5 : Int32) (w : Wd) : Option (Int32 × Wd) :=
  loopN (fun rc σ => g_X0_seamlessLimit_6 rc  σ.1 σ.2.1 σ.2.2.1 σ.2.2.2) FU (v1, v2, v5, w)
def f_X0_seamlessLimit  (v1 : Nat) (v2 : Int64) (v4 : Int32) (w : Wd) : Option (Int32 × Wd) :=
  lt (v4 + (1 : Int32)) (fun x1 => f_X0_seamlessLimit_6 v1 v2 x1 w)
/-! LetterTables$Tables.wordAt -/
def f_X9_wordAt  (v0 : Nat) (v1 : Int32) (w : Wd) : Option (Option Nat × Wd) :=
  (if v1 < 0 then some (none, w) else (if (w.1 v0 12) ≤ v1 then some (none, w) else (if v1 < (Int32.ofNat (LEN (v0 + 38))) then ard (v0 + 38) v1 (fun r1 => some (some r1, w)) else some (none, w))))
/-! LetterTables$Borders.wordEnd -/
def f_X0_wordEnd_101 (rc_16 : Nat × Int64 × Int32 × Int32 × Int32 × Int32 × Int32 × Wd → Option (Int32 × Wd)) (v1 : Nat) (v2 : Int64) (v4 : Int32) (v5 : Int32) (v6 : Int32) (v8 : Int32) (v9 : Nat) (w : Wd) : Option (Int32 × Wd) :=
  bd (f_X7_size v9 w) (fun x2 w1 => lt (v8 + (1 : Int32)) (fun x3 => rc_16 (v1, v2, v4, v5, v6, x2, x3, w1)))
def g_X0_wordEnd_16 (rc_16 : Nat × Int64 × Int32 × Int32 × Int32 × Int32 × Int32 × Wd → Option (Int32 × Wd)) (v1 : Nat) (v2 : Int64) (v4 : Int32) (v5 : Int32) (v6 : Int32) (v7 : Int32) (v8 : Int32) (w : Wd) : Option (Int32 × Wd) :=
  bd (f_X9_wordCount 1 w) (fun x2 w1 => (if x2 ≤ v8 then (if v7 = 0 then some (v5, w1) else some (v4 + v7, w1)) else bdq (f_X9_wordAt 1 v8 w1) (fun w4 => lt (v8 + (1 : Int32)) (fun x6 => rc_16 (v1, v2, v4, v5, v6, v7, x6, w4))) (fun r3 w5 => bd (f_X7_size r3 w5) (fun x8 w7 => (if x8 ≤ v7 then lt (v8 + (1 : Int32)) (fun x9 => rc_16 (v1, v2, v4, v5, v6, v7, x9, w7)) else bd (f_X7_holds v1 r3 v4 w7) (fun x11 w10 => (if x11 = 0 then lt (v8 + (1 : Int32)) (fun x19 => rc_16 (v1, v2, v4, v5, v6, v7, x19, w10)) else bd (f_X7_size r3 w10) (fun x13 w12 => lt (v4 + x13) (fun x14 => (if x14 = v6 then f_X0_wordEnd_101 rc_16 v1 v2 v4 v5 v6 v8 r3 w12 else (if v6 ≤ x14 then lt (v8 + (1 : Int32)) (fun x15 => rc_16 (v1, v2, v4, v5, v6, v7, x15, w12)) else bd (f_X0_isMarked v2 x14 w12) (fun x17 w16 => (if x17 = 0 then lt (v8 + (1 : Int32)) (fun x18 => rc_16 (v1, v2, v4, v5, v6, v7, x18, w16)) else f_X0_wordEnd_101 rc_16 v1 v2 v4 v5 v6 v8 r3 w16)))))))))))))
def f_X0_wordEnd_16  (v1 : Nat) (v2 : Int64) (v4 : Int32) (v5 : Int32) (v6 : Int32) (v7 : Int32) (v8 : Int32) (w : Wd) : Option (Int32 × Wd) :=
  loopN (fun rc σ => g_X0_wordEnd_16 rc  σ.1 σ.2.1 σ.2.2.1 σ.2.2.2.1 σ.2.2.2.2.1 σ.2.2.2.2.2.1 σ.2.2.2.2.2.2.1 σ.2.2.2.2.2.2.2) FU (v1, v2, v4, v5, v6, v7, v8, w)
def f_X0_wordEnd  (v1 : Nat) (v2 : Int64) (v4 : Int32) (v5 : Int32) (w : Wd) : Option (Int32 × Wd) :=
  bd (f_X0_seamlessLimit v1 v2 v4 w) (fun x2 w1 => f_X0_wordEnd_16 v1 v2 v4 v5 x2 (0 : Int32) (0 : Int32) w1)
/-! LetterTables$Borders.seamlessEnds -/
def f_X0_seamlessEnds_59 (rc_9 : Nat × Int64 × Int64 × Int32 × Int32 × Wd → Option (Int64 × Wd)) (v1 : Nat) (v2 : Int64) (v4 : Int64) (v7 : Int32) (v8 : Int32) (w : Wd) : Option (Int64 × Wd) :=
  lt (v4 ||| ((1 : Int64) <<< (v8.toInt64 &&& 63))) (fun y1 => lt (v7 + (1 : Int32)) (fun x2 => rc_9 (v1, v2, y1, v8, x2, w)))
def g_X0_seamlessEnds_9 (rc_9 : Nat × Int64 × Int64 × Int32 × Int32 × Wd → Option (Int64 × Wd)) (v1 : Nat) (v2 : Int64) (v4 : Int64) (v6 : Int32) (v7 : Int32) (w : Wd) : Option (Int64 × Wd) :=
  (if (40 : Int32) ≤ v7 then some (v4, w) else bd (f_X7_size v1 w) (fun x2 w1 => (if x2 ≤ v6 then some (v4, w1) else bd (f_X0_clusterEnd v1 v2 v6 w1) (fun x4 w3 => bd (f_X0_kindAt v1 v6 w3) (fun x6 w5 => (if x6 = (6 : Int32) then bd (f_X0_wordEnd v1 v2 v6 x4 w5) (fun x8 w7 => f_X0_seamlessEnds_59 rc_9 v1 v2 v4 v7 x8 w7) else f_X0_seamlessEnds_59 rc_9 v1 v2 v4 v7 x4 w5))))))
def f_X0_seamlessEnds_9  (v1 : Nat) (v2 : Int64) (v4 : Int64) (v6 : Int32) (v7 : Int32) (w : Wd) : Option (Int64 × Wd) :=
  loopN (fun rc σ => g_X0_seamlessEnds_9 rc  σ.1 σ.2.1 σ.2.2.1 σ.2.2.2.1 σ.2.2.2.2.1 σ.2.2.2.2.2) FU (v1, v2, v4, v6, v7, w)
def f_X0_seamlessEnds  (v1 : Nat) (v2 : Int64) (w : Wd) : Option (Int64 × Wd) :=
  f_X0_seamlessEnds_9 v1 v2 (0 : Int64) (0 : Int32) (0 : Int32) w
/-! LetterTables$Borders.isWordBreak -/
def f_X0_isWordBreak_39  (v0 : Int32) (v1 : Int32) (t0 : Int32) (w : Wd) : Option (Int32 × Wd) :=
  (if t0 = 0 then (if v0 = (3 : Int32) then (if v1 = (3 : Int32) then some ((0 : Int32), w) else some ((1 : Int32), w)) else some ((1 : Int32), w)) else some ((0 : Int32), w))
def f_X0_isWordBreak_38  (v0 : Int32) (v1 : Int32) (w : Wd) : Option (Int32 × Wd) :=
  f_X0_isWordBreak_39 v0 v1 (0 : Int32) w
def f_X0_isWordBreak_24  (v0 : Int32) (v1 : Int32) (w : Wd) : Option (Int32 × Wd) :=
  (if v1 = (1 : Int32) then f_X0_isWordBreak_39 v0 v1 (1 : Int32) w else (if v1 = (4 : Int32) then f_X0_isWordBreak_39 v0 v1 (1 : Int32) w else f_X0_isWordBreak_38 v0 v1 w))
def f_X0_isWordBreak_14  (v0 : Int32) (v1 : Int32) (w : Wd) : Option (Int32 × Wd) :=
  (if v0 = (1 : Int32) then f_X0_isWordBreak_24 v0 v1 w else (if v0 = (4 : Int32) then f_X0_isWordBreak_24 v0 v1 w else f_X0_isWordBreak_38 v0 v1 w))
def f_X0_isWordBreak  (v0 : Int32) (v1 : Int32) (v2 : Int32) (w : Wd) : Option (Int32 × Wd) :=
  (if v0 = (6 : Int32) then (if v1 = (6 : Int32) then some (v2, w) else f_X0_isWordBreak_14 v0 v1 w) else f_X0_isWordBreak_14 v0 v1 w)
/-! LetterTables$Borders.isLineBreak -/
def f_X0_isLineBreak_10  (v0 : Int32) (v1 : Int32) (w : Wd) : Option (Int32 × Wd) :=
  (if v0 = (6 : Int32) then (if v1 = (6 : Int32) then some ((1 : Int32), w) else some ((0 : Int32), w)) else some ((0 : Int32), w))
def f_X0_isLineBreak  (v0 : Int32) (v1 : Int32) (w : Wd) : Option (Int32 × Wd) :=
  (if v0 = (3 : Int32) then (if v1 = (3 : Int32) then f_X0_isLineBreak_10 v0 v1 w else some ((1 : Int32), w)) else f_X0_isLineBreak_10 v0 v1 w)
/-! LetterTables$Borders.wordBreaks -/
def f_X0_wordBreaks_106 (rc_23 : Nat × Int32 × Int64 × Int64 × Int64 × Int32 × Int32 × Wd → Option (Int64 × Wd)) (v1 : Nat) (v2 : Int32) (v3 : Int64) (v5 : Int64) (v7 : Int64) (v10 : Int32) (w : Wd) : Option (Int64 × Wd) :=
  lt (v10 + (1 : Int32)) (fun x1 => rc_23 (v1, v2, v3, v5, v7, v10, x1, w))
def f_X0_wordBreaks_97 (rc_23 : Nat × Int32 × Int64 × Int64 × Int64 × Int32 × Int32 × Wd → Option (Int64 × Wd)) (v1 : Nat) (v2 : Int32) (v3 : Int64) (v5 : Int64) (v7 : Int64) (v10 : Int32) (w : Wd) : Option (Int64 × Wd) :=
  lt (v7 ||| ((1 : Int64) <<< (v10.toInt64 &&& 63))) (fun y1 => f_X0_wordBreaks_106 rc_23 v1 v2 v3 v5 y1 v10 w)
def g_X0_wordBreaks_23 (rc_23 : Nat × Int32 × Int64 × Int64 × Int64 × Int32 × Int32 × Wd → Option (Int64 × Wd)) (v1 : Nat) (v2 : Int32) (v3 : Int64) (v5 : Int64) (v7 : Int64) (v9 : Int32) (v10 : Int32) (w : Wd) : Option (Int64 × Wd) :=
  bd (f_X7_size v1 w) (fun x2 w1 => (if x2 ≤ v10 then some (v7, w1) else bd (f_X0_isMarked v3 v10 w1) (fun x4 w3 => (if x4 = 0 then lt (v10 + (1 : Int32)) (fun x15 => rc_23 (v1, v2, v3, v5, v7, v9, x15, w3)) else bd (f_X0_kindAt v1 v9 w3) (fun x6 w5 => bd (f_X0_kindAt v1 v10 w5) (fun x8 w7 => bd (f_X0_isMarked v5 v10 w7) (fun x10 w9 => bd (f_X0_isWordBreak x6 x8 x10 w9) (fun x12 w11 => (if x12 = 0 then f_X0_wordBreaks_106 rc_23 v1 v2 v3 v5 v7 v10 w11 else (if v2 = 0 then f_X0_wordBreaks_97 rc_23 v1 v2 v3 v5 v7 v10 w11 else bd (f_X0_isLineBreak x6 x8 w11) (fun x14 w13 => (if x14 = 0 then f_X0_wordBreaks_106 rc_23 v1 v2 v3 v5 v7 v10 w13 else f_X0_wordBreaks_97 rc_23 v1 v2 v3 v5 v7 v10 w13))))))))))))
def f_X0_wordBreaks_23  (v1 : Nat) (v2 : Int32) (v3 : Int64) (v5 : Int64) (v7 : Int64) (v9 : Int32) (v10 : Int32) (w : Wd) : Option (Int64 × Wd) :=
  loopN (fun rc σ => g_X0_wordBreaks_23 rc  σ.1 σ.2.1 σ.2.2.1 σ.2.2.2.1 σ.2.2.2.2.1 σ.2.2.2.2.2.1 σ.2.2.2.2.2.2.1 σ.2.2.2.2.2.2.2) FU (v1, v2, v3, v5, v7, v9, v10, w)
def f_X0_wordBreaks  (v1 : Nat) (v2 : Int32) (w : Wd) : Option (Int64 × Wd) :=
  bd (f_X0_clusterBreaks v1 w) (fun y2 w1 => bd (f_X0_seamlessEnds v1 y2 w1) (fun y4 w3 => f_X0_wordBreaks_23 v1 v2 y2 y4 (0 : Int64) (0 : Int32) (1 : Int32) w3))
/-! LetterTables.breaks -/
def f_X10_breaks_43  (t1 : Nat) (t2 : Int32) (w : Wd) : Option ((Nat ⊕ Int64) × Wd) :=
  bd (f_X0_wordBreaks t1 t2 w) (fun y2 w1 => some (.inr y2, w1))
def f_X10_breaks  (v1 : Int32) (v2 : Int32) (w : Wd) : Option ((Nat ⊕ Int64) × Wd) :=
  bdx (f_X10_textOf v1 w) (fun r2 w1 => bd (f_X10_isWithin v2 (0 : Int32) (2 : Int32) w1) (fun x4 w3 => bdx (f_X10_checkArgument x4 w3) (fun _ w5 => (if v2 = 0 then bd (f_X0_clusterBreaks r2 w5) (fun y7 w6 => some (.inr y7, w6)) else (if v2 = (2 : Int32) then f_X10_breaks_43 r2 (1 : Int32) w5 else f_X10_breaks_43 r2 (0 : Int32) w5)))))
/-! LetterTables.bySense -/
def g_X10_bySense_50 (rc_50 : Int32 × Int32 × Int64 × Int32 × Int32 × Wd → Option ((Nat ⊕ Int32) × Wd)) (v2 : Int32) (v5 : Int32) (v6 : Int64) (v8 : Int32) (v9 : Int32) (w : Wd) : Option ((Nat ⊕ Int32) × Wd) :=
  (if v9 < 0 then some (.inr v2, w) else (if v5 < v9 then some (.inr v2, w) else (if v9 = v5 then some (.inr v9, w) else bd (f_X0_isBeginning v6 v9 w) (fun x2 w1 => (if x2 = 0 then lt (v9 + v8) (fun x3 => rc_50 (v2, v5, v6, v8, x3, w1)) else some (.inr v9, w1))))))
def f_X10_bySense_50  (v2 : Int32) (v5 : Int32) (v6 : Int64) (v8 : Int32) (v9 : Int32) (w : Wd) : Option ((Nat ⊕ Int32) × Wd) :=
  loopN (fun rc σ => g_X10_bySense_50 rc  σ.1 σ.2.1 σ.2.2.1 σ.2.2.2.1 σ.2.2.2.2.1 σ.2.2.2.2.2) FU (v2, v5, v6, v8, v9, w)
def f_X10_bySense_42  (v2 : Int32) (v5 : Int32) (v6 : Int64) (t0 : Int32) (w : Wd) : Option ((Nat ⊕ Int32) × Wd) :=
  lt (v2 + t0) (fun x1 => f_X10_bySense_50 v2 v5 v6 t0 x1 w)
def f_X10_bySense  (v1 : Int32) (v2 : Int32) (v3 : Int32) (w : Wd) : Option ((Nat ⊕ Int32) × Wd) :=
  bdx (f_X10_textOf v1 w) (fun r2 w1 => bd (f_X7_size r2 w1) (fun x4 w3 => bdx (f_X10_checkPlace v2 (x4 + (1 : Int32)) w3) (fun _ w5 => bd (f_X0_clusterBreaks r2 w5) (fun y7 w6 => (if v3 = 0 then f_X10_bySense_42 v2 x4 y7 (-1 : Int32) w6 else f_X10_bySense_42 v2 x4 y7 (1 : Int32) w6)))))
/-! LetterTables$Language.unitsInto -/
def g_X2_unitsInto_7 (rc_7 : Nat × Nat × Nat × Int32 × Wd → Option (Unit × Wd)) (v0 : Nat) (v1 : Nat) (v2 : Nat) (v3 : Int32) (w : Wd) : Option (Unit × Wd) :=
  bd (f_X7_size v1 w) (fun x2 w1 => (if x2 ≤ v3 then some ((), w1) else bd (f_X7_get v1 v3 w1) (fun x4 w3 => bd (f_X7_get v1 (v3 + (1 : Int32)) w3) (fun x6 w5 => bd (f_X2_contractionOf v0 x4 x6 w5) (fun x8 w7 => (if x8 = (-1 : Int32) then bd (f_X7_get v1 v3 w7) (fun x14 w13 => bd (f_X7_add v2 x14 w13) (fun x16 w15 => lt (v3 + (1 : Int32)) (fun x17 => rc_7 (v0, v1, v2, x17, w15)))) else bd (f_X7_add v2 x8 w7) (fun x10 w9 => lt (v3 + (1 : Int32)) (fun x11 => lt (x11 + (1 : Int32)) (fun x12 => rc_7 (v0, v1, v2, x12, w9))))))))))
def f_X2_unitsInto_7  (v0 : Nat) (v1 : Nat) (v2 : Nat) (v3 : Int32) (w : Wd) : Option (Unit × Wd) :=
  loopN (fun rc σ => g_X2_unitsInto_7 rc  σ.1 σ.2.1 σ.2.2.1 σ.2.2.2.1 σ.2.2.2.2) FU (v0, v1, v2, v3, w)
def f_X2_unitsInto  (v0 : Nat) (v1 : Nat) (v2 : Nat) (w : Wd) : Option (Unit × Wd) :=
  bd (f_X7_cutTo v2 (0 : Int32) w) (fun _ w1 => f_X2_unitsInto_7 v0 v1 v2 (0 : Int32) w1)
/-! LetterTables$Language.weightOf -/
def f_X2_weightOf_27  (v1 : Int32) (t0 : Nat) (w : Wd) : Option (Int32 × Wd) :=
  bd (f_X10_cellOf t0 v1 (0 : Int32) w) (fun x2 w1 => some (x2, w1))
def f_X2_weightOf  (v0 : Nat) (v1 : Int32) (v2 : Int32) (w : Wd) : Option (Int32 × Wd) :=
  (if v2 = 0 then f_X2_weightOf_27 v1 (v0 + 1) w else (if v2 = (1 : Int32) then f_X2_weightOf_27 v1 (v0 + 2) w else f_X2_weightOf_27 v1 (v0 + 3) w))
/-! LetterTables$Language.nextWeighing -/
def g_X2_nextWeighing_3 (rc_3 : Nat × Nat × Int32 × Int32 × Wd → Option (Int32 × Wd)) (v0 : Nat) (v1 : Nat) (v3 : Int32) (v4 : Int32) (w : Wd) : Option (Int32 × Wd) :=
  bd (f_X7_size v1 w) (fun x2 w1 => (if x2 ≤ v4 then bd (f_X7_size v1 w1) (fun x4 w3 => some (x4, w3)) else bd (f_X7_get v1 v4 w1) (fun x6 w5 => bd (f_X2_weightOf v0 x6 v3 w5) (fun x8 w7 => (if x8 ≤ 0 then lt (v4 + (1 : Int32)) (fun x9 => rc_3 (v0, v1, v3, x9, w7)) else some (v4, w7))))))
def f_X2_nextWeighing_3  (v0 : Nat) (v1 : Nat) (v3 : Int32) (v4 : Int32) (w : Wd) : Option (Int32 × Wd) :=
  loopN (fun rc σ => g_X2_nextWeighing_3 rc  σ.1 σ.2.1 σ.2.2.1 σ.2.2.2.1 σ.2.2.2.2) FU (v0, v1, v3, v4, w)
def f_X2_nextWeighing  (v0 : Nat) (v1 : Nat) (v2 : Int32) (v3 : Int32) (w : Wd) : Option (Int32 × Wd) :=
  f_X2_nextWeighing_3 v0 v1 v3 v2 w
/-! LetterTables$Language.orderOf -/
def f_X2_orderOf_152  (v6 : Int32) (t0 : Int32) (w : Wd) : Option (Int32 × Wd) :=
  (if v6 = t0 then some ((0 : Int32), w) else (if t0 = 0 then some ((1 : Int32), w) else some ((-1 : Int32), w)))
def f_X2_orderOf_136  (v2 : Nat) (v5 : Int32) (t0 : Int32) (w : Wd) : Option (Int32 × Wd) :=
  bd (f_X7_size v2 w) (fun x2 w1 => (if x2 ≤ v5 then f_X2_orderOf_152 t0 (0 : Int32) w1 else f_X2_orderOf_152 t0 (1 : Int32) w1))
def f_X2_orderOf_122  (v1 : Nat) (v2 : Nat) (v4 : Int32) (v5 : Int32) (w : Wd) : Option (Int32 × Wd) :=
  bd (f_X7_size v1 w) (fun x2 w1 => (if x2 ≤ v4 then f_X2_orderOf_136 v2 v5 (0 : Int32) w1 else f_X2_orderOf_136 v2 v5 (1 : Int32) w1))
def g_X2_orderOf_21 (rc_21 : Nat × Nat × Nat × Int32 × Int32 × Int32 × Int32 × Wd → Option (Int32 × Wd)) (v0 : Nat) (v1 : Nat) (v2 : Nat) (v3 : Int32) (v4 : Int32) (v5 : Int32) (v6 : Int32) (w : Wd) : Option (Int32 × Wd) :=
  (if (80 : Int32) ≤ v6 then f_X2_orderOf_122 v1 v2 v4 v5 w else bd (f_X7_size v1 w) (fun x2 w1 => (if x2 ≤ v4 then f_X2_orderOf_122 v1 v2 v4 v5 w1 else bd (f_X7_size v2 w1) (fun x4 w3 => (if x4 ≤ v5 then f_X2_orderOf_122 v1 v2 v4 v5 w3 else bd (f_X7_get v1 v4 w3) (fun x6 w5 => bd (f_X2_weightOf v0 x6 v3 w5) (fun x8 w7 => bd (f_X7_get v2 v5 w7) (fun x10 w9 => bd (f_X2_weightOf v0 x10 v3 w9) (fun x12 w11 => (if x8 = x12 then bd (f_X2_nextWeighing v0 v1 (v4 + (1 : Int32)) v3 w11) (fun x14 w13 => bd (f_X2_nextWeighing v0 v2 (v5 + (1 : Int32)) v3 w13) (fun x16 w15 => lt (v6 + (1 : Int32)) (fun x17 => rc_21 (v0, v1, v2, v3, x14, x16, x17, w15)))) else (if x12 ≤ x8 then some ((1 : Int32), w11) else some ((-1 : Int32), w11))))))))))))
def f_X2_orderOf_21  (v0 : Nat) (v1 : Nat) (v2 : Nat) (v3 : Int32) (v4 : Int32) (v5 : Int32) (v6 : Int32) (w : Wd) : Option (Int32 × Wd) :=
  loopN (fun rc σ => g_X2_orderOf_21 rc  σ.1 σ.2.1 σ.2.2.1 σ.2.2.2.1 σ.2.2.2.2.1 σ.2.2.2.2.2.1 σ.2.2.2.2.2.2.1 σ.2.2.2.2.2.2.2) FU (v0, v1, v2, v3, v4, v5, v6, w)
def f_X2_orderOf  (v0 : Nat) (v1 : Nat) (v2 : Nat) (v3 : Int32) (w : Wd) : Option (Int32 × Wd) :=
  bd (f_X2_nextWeighing v0 v1 (0 : Int32) v3 w) (fun x2 w1 => bd (f_X2_nextWeighing v0 v2 (0 : Int32) v3 w1) (fun x4 w3 => f_X2_orderOf_21 v0 v1 v2 v3 x2 x4 (0 : Int32) w3))
/-! LetterTables.compare -/
def g_X10_compare_93 (rc_93 : Nat × Int32 × Int32 × Wd → Option ((Nat ⊕ Int32) × Wd)) (v4 : Nat) (v7 : Int32) (v8 : Int32) (w : Wd) : Option ((Nat ⊕ Int32) × Wd) :=
  (if (3 : Int32) ≤ v8 then some (.inr v7, w) else (if v7 = 0 then bd (f_X2_orderOf v4 703 705 v8 w) (fun x2 w1 => lt (v8 + (1 : Int32)) (fun x3 => rc_93 (v4, x2, x3, w1))) else some (.inr v7, w)))
def f_X10_compare_93  (v4 : Nat) (v7 : Int32) (v8 : Int32) (w : Wd) : Option ((Nat ⊕ Int32) × Wd) :=
  loopN (fun rc σ => g_X10_compare_93 rc  σ.1 σ.2.1 σ.2.2.1 σ.2.2.2) FU (v4, v7, v8, w)
def f_X10_compare_58  (v4 : Nat) (t0 : Int32) (w : Wd) : Option ((Nat ⊕ Int32) × Wd) :=
  bdx (f_X10_checkForm t0 w) (fun _ w1 => bd (f_X2_unitsInto v4 699 703 w1) (fun _ w2 => bd (f_X2_unitsInto v4 701 705 w2) (fun _ w3 => f_X10_compare_93 v4 (0 : Int32) (0 : Int32) w3)))
def f_X10_compare_57  (v4 : Nat) (w : Wd) : Option ((Nat ⊕ Int32) × Wd) :=
  f_X10_compare_58 v4 (0 : Int32) w
def f_X10_compare  (v1 : Int32) (v2 : Int32) (v3 : Int32) (w : Wd) : Option ((Nat ⊕ Int32) × Wd) :=
  bdx (f_X10_languageOf v1 w) (fun r2 w1 => bdx (f_X10_textOf v2 w1) (fun r4 w3 => bdx (f_X10_textOf v3 w3) (fun r6 w5 => bd (f_X1_splitInto r4 699 w5) (fun x8 w7 => (if x8 = 0 then f_X10_compare_57 r2 w7 else bd (f_X1_splitInto r6 701 w7) (fun x10 w9 => (if x10 = 0 then f_X10_compare_57 r2 w9 else f_X10_compare_58 r2 (1 : Int32) w9)))))))
/-! LetterTables$Language.keyInto -/
def g_X2_keyInto_25 (rc_25 : Nat × Nat × Nat × Int32 × Int32 × Wd → Option (Unit × Wd)) (rc_7 : Nat × Nat × Nat × Int32 × Wd → Option (Unit × Wd)) (v0 : Nat) (v1 : Nat) (v2 : Nat) (v3 : Int32) (v4 : Int32) (w : Wd) : Option (Unit × Wd) :=
  bd (f_X7_size v1 w) (fun x2 w1 => (if x2 ≤ v4 then lt (v3 + (1 : Int32)) (fun x3 => rc_7 (v0, v1, v2, x3, w1)) else bd (f_X7_get v1 v4 w1) (fun x5 w4 => bd (f_X2_weightOf v0 x5 v3 w4) (fun x7 w6 => (if x7 ≤ 0 then lt (v4 + (1 : Int32)) (fun x8 => rc_25 (v0, v1, v2, v3, x8, w6)) else bd (f_X7_add v2 x7 w6) (fun x10 w9 => lt (v4 + (1 : Int32)) (fun x11 => rc_25 (v0, v1, v2, v3, x11, w9))))))))
def f_X2_keyInto_25 (rc_7 : Nat × Nat × Nat × Int32 × Wd → Option (Unit × Wd)) (v0 : Nat) (v1 : Nat) (v2 : Nat) (v3 : Int32) (v4 : Int32) (w : Wd) : Option (Unit × Wd) :=
  loopN (fun rc σ => g_X2_keyInto_25 rc rc_7 σ.1 σ.2.1 σ.2.2.1 σ.2.2.2.1 σ.2.2.2.2.1 σ.2.2.2.2.2) FU (v0, v1, v2, v3, v4, w)
def f_X2_keyInto_22 (rc_7 : Nat × Nat × Nat × Int32 × Wd → Option (Unit × Wd)) (v0 : Nat) (v1 : Nat) (v2 : Nat) (v3 : Int32) (w : Wd) : Option (Unit × Wd) :=
  f_X2_keyInto_25 rc_7 v0 v1 v2 v3 (0 : Int32) w
def g_X2_keyInto_7 (rc_7 : Nat × Nat × Nat × Int32 × Wd → Option (Unit × Wd)) (v0 : Nat) (v1 : Nat) (v2 : Nat) (v3 : Int32) (w : Wd) : Option (Unit × Wd) :=
  (if (3 : Int32) ≤ v3 then some ((), w) else (if v3 ≤ 0 then f_X2_keyInto_22 rc_7 v0 v1 v2 v3 w else bd (f_X7_add v2 (0 : Int32) w) (fun x2 w1 => f_X2_keyInto_22 rc_7 v0 v1 v2 v3 w1)))
def f_X2_keyInto_7  (v0 : Nat) (v1 : Nat) (v2 : Nat) (v3 : Int32) (w : Wd) : Option (Unit × Wd) :=
  loopN (fun rc σ => g_X2_keyInto_7 rc  σ.1 σ.2.1 σ.2.2.1 σ.2.2.2.1 σ.2.2.2.2) FU (v0, v1, v2, v3, w)
def f_X2_keyInto  (v0 : Nat) (v1 : Nat) (v2 : Nat) (w : Wd) : Option (Unit × Wd) :=
  bd (f_X7_cutTo v2 (0 : Int32) w) (fun _ w1 => f_X2_keyInto_7 v0 v1 v2 (0 : Int32) w1)
/-! LetterTables.key -/
def f_X10_key  (v1 : Int32) (v2 : Int32) (v3 : Int32) (w : Wd) : Option ((Nat ⊕ Int32) × Wd) :=
  bdx (f_X10_languageOf v1 w) (fun r2 w1 => bdx (f_X10_textOf v2 w1) (fun r4 w3 => bd (f_X1_splitInto r4 699 w3) (fun x6 w5 => bdx (f_X10_checkForm x6 w5) (fun _ w7 => bd (f_X2_unitsInto r2 699 703 w7) (fun _ w8 => bd (f_X2_keyInto r2 703 707 w8) (fun _ w9 => (if v3 = (-1 : Int32) then bd (f_X7_size 707 w9) (fun x16 w15 => some (.inr x16, w15)) else bd (f_X7_size 707 w9) (fun x11 w10 => bdx (f_X10_checkPlace v3 x11 w10) (fun _ w12 => bd (f_X7_get 707 v3 w12) (fun x14 w13 => some (.inr x14, w13)))))))))))
/-! LetterTables$Forms.foldedEnd -/
def f_X1_foldedEnd  (v1 : Int32) (w : Wd) : Option (Int32 × Wd) :=
  (if (1 : Int32) ≤ v1 then bd (f_X7_get 648 (v1 - (1 : Int32)) w) (fun x2 w1 => some (x2, w1)) else some ((0 : Int32), w))
/-! LetterTables.endOfFound -/
def f_X10_endOfFound_71 (rc_45 : Int32 × Int64 × Int32 × Int32 × Wd → Option (Int32 × Wd)) (v2 : Int32) (v3 : Int64) (v6 : Int32) (v7 : Int32) (t0 : Int32) (w : Wd) : Option (Int32 × Wd) :=
  (if t0 = 0 then lt (v7 + (1 : Int32)) (fun x1 => rc_45 (v2, v3, v6, x1, w)) else bd (f_X1_foldedEnd v7 w) (fun x3 w2 => (if x3 = v6 then some (v7, w2) else lt (v7 + (1 : Int32)) (fun x4 => rc_45 (v2, v3, v6, x4, w2)))))
def g_X10_endOfFound_45 (rc_45 : Int32 × Int64 × Int32 × Int32 × Wd → Option (Int32 × Wd)) (v2 : Int32) (v3 : Int64) (v6 : Int32) (v7 : Int32) (w : Wd) : Option (Int32 × Wd) :=
  (if v2 < v7 then some ((-1 : Int32), w) else (if v7 = v2 then f_X10_endOfFound_71 rc_45 v2 v3 v6 v7 (1 : Int32) w else bd (f_X0_isBeginning v3 v7 w) (fun x2 w1 => (if x2 = 0 then f_X10_endOfFound_71 rc_45 v2 v3 v6 v7 (0 : Int32) w1 else f_X10_endOfFound_71 rc_45 v2 v3 v6 v7 (1 : Int32) w1))))
def f_X10_endOfFound_45  (v2 : Int32) (v3 : Int64) (v6 : Int32) (v7 : Int32) (w : Wd) : Option (Int32 × Wd) :=
  loopN (fun rc σ => g_X10_endOfFound_45 rc  σ.1 σ.2.1 σ.2.2.1 σ.2.2.2.1 σ.2.2.2.2) FU (v2, v3, v6, v7, w)
def f_X10_endOfFound  (v1 : Int32) (v2 : Int32) (v3 : Int64) (w : Wd) : Option (Int32 × Wd) :=
  bd (f_X1_foldedEnd v1 w) (fun x2 w1 => bd (f_X7_holds 699 701 x2 w1) (fun x4 w3 => (if x4 = 0 then some ((-1 : Int32), w3) else bd (f_X7_size 701 w3) (fun x6 w5 => lt (x2 + x6) (fun x7 => lt (v1 + (1 : Int32)) (fun x8 => f_X10_endOfFound_45 v2 v3 x7 x8 w5))))))
/-! LetterTables.find -/
def f_X10_find_127 (rc_90 : Nat × Int64 × Int32 × Wd → Option ((Nat ⊕ Int32) × Wd)) (v4 : Nat) (v6 : Int64) (v8 : Int32) (t0 : Int32) (w : Wd) : Option ((Nat ⊕ Int32) × Wd) :=
  (if t0 = (-1 : Int32) then lt (v8 + (1 : Int32)) (fun x1 => rc_90 (v4, v6, x1, w)) else some (.inr (((100 : Int32) * v8) + t0), w))
def g_X10_find_90 (rc_90 : Nat × Int64 × Int32 × Wd → Option ((Nat ⊕ Int32) × Wd)) (v4 : Nat) (v6 : Int64) (v8 : Int32) (w : Wd) : Option ((Nat ⊕ Int32) × Wd) :=
  bd (f_X7_size v4 w) (fun x2 w1 => (if x2 ≤ v8 then some (.inr (-1 : Int32), w1) else bd (f_X0_isBeginning v6 v8 w1) (fun x4 w3 => (if x4 = 0 then f_X10_find_127 rc_90 v4 v6 v8 (-1 : Int32) w3 else bd (f_X7_size v4 w3) (fun x6 w5 => bd (f_X10_endOfFound v8 x6 v6 w5) (fun x8 w7 => f_X10_find_127 rc_90 v4 v6 v8 x8 w7))))))
def f_X10_find_90  (v4 : Nat) (v6 : Int64) (v8 : Int32) (w : Wd) : Option ((Nat ⊕ Int32) × Wd) :=
  loopN (fun rc σ => g_X10_find_90 rc  σ.1 σ.2.1 σ.2.2.1 σ.2.2.2) FU (v4, v6, v8, w)
def f_X10_find_61  (v3 : Int32) (v4 : Nat) (t0 : Int32) (w : Wd) : Option ((Nat ⊕ Int32) × Wd) :=
  bdx (f_X10_checkForm t0 w) (fun _ w1 => bd (f_X7_size 701 w1) (fun x3 w2 => (if x3 = 0 then some (.inr (-1 : Int32), w2) else bd (f_X0_clusterBreaks v4 w2) (fun y5 w4 => f_X10_find_90 v4 y5 v3 w4))))
def f_X10_find_60  (v3 : Int32) (v4 : Nat) (w : Wd) : Option ((Nat ⊕ Int32) × Wd) :=
  f_X10_find_61 v3 v4 (0 : Int32) w
def f_X10_find  (v1 : Int32) (v2 : Int32) (v3 : Int32) (w : Wd) : Option ((Nat ⊕ Int32) × Wd) :=
  bdx (f_X10_textOf v1 w) (fun r2 w1 => bdx (f_X10_textOf v2 w1) (fun r4 w3 => bd (f_X10_isWithin v3 (0 : Int32) (40 : Int32) w3) (fun x6 w5 => bdx (f_X10_checkArgument x6 w5) (fun _ w7 => bd (f_X1_foldInto r4 701 w7) (fun x9 w8 => (if x9 = 0 then f_X10_find_60 v3 r2 w8 else bd (f_X1_foldInto r2 699 w8) (fun x11 w10 => (if x11 = 0 then f_X10_find_60 v3 r2 w10 else f_X10_find_61 v3 r2 (1 : Int32) w10))))))))
/-! LetterTables$Pattern.readLetter -/
def f_X5_readLetter  (v0 : Nat) (v1 : Nat) (w : Wd) : Option (Int32 × Wd) :=
  bd (f_X7_get v1 ((w.1 v0 4) + (1 : Int32)) w) (fun x2 w1 => lt (x2 - (48 : Int32)) (fun x3 => bd (f_X7_get v1 ((w1.1 v0 4) + (2 : Int32)) w1) (fun x5 w4 => lt (x5 - (48 : Int32)) (fun x6 => lt (((10 : Int32) * x3) + x6) (fun x7 => bd (f_X10_isWithin x3 (0 : Int32) (9 : Int32) w4) (fun x9 w8 => (if x9 = 0 then some ((-1 : Int32), w8) else bd (f_X10_isWithin x6 (0 : Int32) (9 : Int32) w8) (fun x11 w10 => (if x11 = 0 then some ((-1 : Int32), w10) else bd (f_X10_isLetter x7 w10) (fun x13 w12 => (if x13 = 0 then some ((-1 : Int32), w12) else some (x7, w12))))))))))))
/-! LetterTables$Pattern.setOf -/
def f_X5_setOf  (v0 : Int32) (w : Wd) : Option (Int32 × Wd) :=
  (if v0 = 46 then some ((96 : Int32), w) else (if v0 = 66 then some ((103 : Int32), w) else (if v0 = 67 then some ((97 : Int32), w) else (if v0 = 68 then some ((104 : Int32), w) else (if v0 = 76 then some ((101 : Int32), w) else (if v0 = 77 then some ((102 : Int32), w) else (if v0 = 83 then some ((106 : Int32), w) else some ((-1 : Int32), w))))))))
