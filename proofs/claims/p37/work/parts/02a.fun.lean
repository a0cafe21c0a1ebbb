/-! LetterTables$Pattern.readSet -/
def f_X5_readSet_78  (v2 : Int32) (v4 : Int32) (t0 : Nat) (t1 : Int32) (t2 : Int32) (w : Wd) : Option (Int32 × Wd) :=
  wr (setI w t0 4 (t1 + t2)) (fun w1 => (if v4 = (-1 : Int32) then some (v4, w1) else (if v2 = 0 then some (v4, w1) else some ((1000 : Int32) + v4, w1))))
def f_X5_readSet_60  (v0 : Nat) (v2 : Int32) (v3 : Int32) (t0 : Int32) (w : Wd) : Option (Int32 × Wd) :=
  (if v3 = (35 : Int32) then f_X5_readSet_78 v2 t0 v0 (w.1 v0 4) (3 : Int32) w else f_X5_readSet_78 v2 t0 v0 (w.1 v0 4) (1 : Int32) w)
def f_X5_readSet_33  (v0 : Nat) (v1 : Nat) (v2 : Int32) (w : Wd) : Option (Int32 × Wd) :=
  bd (f_X7_get v1 (w.1 v0 4) w) (fun x2 w1 => (if x2 = (35 : Int32) then bd (f_X5_readLetter v0 v1 w1) (fun x6 w5 => f_X5_readSet_60 v0 v2 x2 x6 w5) else bd (f_X5_setOf x2 w1) (fun x4 w3 => f_X5_readSet_60 v0 v2 x2 x4 w3)))
def f_X5_readSet_18  (v0 : Nat) (v1 : Nat) (t0 : Int32) (w : Wd) : Option (Int32 × Wd) :=
  (if t0 = 0 then f_X5_readSet_33 v0 v1 t0 w else wr (setI w v0 4 ((w.1 v0 4) + (1 : Int32))) (fun w1 => f_X5_readSet_33 v0 v1 t0 w1))
def f_X5_readSet  (v0 : Nat) (v1 : Nat) (w : Wd) : Option (Int32 × Wd) :=
  bd (f_X7_get v1 (w.1 v0 4) w) (fun x2 w1 => (if x2 = (33 : Int32) then f_X5_readSet_18 v0 v1 (1 : Int32) w1 else f_X5_readSet_18 v0 v1 (0 : Int32) w1))
/-! LetterTables$Pattern.readPiece -/
def f_X5_readPiece_134  (t0 : Nat) (t1 : Int32) (w : Wd) : Option (Int32 × Wd) :=
  bd (f_X7_add t0 t1 w) (fun x2 w1 => (if x2 = 0 then some ((0 : Int32), w1) else some ((1 : Int32), w1)))
def f_X5_readPiece_97  (v0 : Nat) (v2 : Int32) (v3 : Int32) (v4 : Int32) (v5 : Int32) (w : Wd) : Option (Int32 × Wd) :=
  bd (f_X7_add (v0 + 1) v2 w) (fun x2 w1 => (if x2 = 0 then some ((0 : Int32), w1) else bd (f_X7_add (v0 + 3) v3 w1) (fun x4 w3 => (if x4 = 0 then some ((0 : Int32), w3) else (if v5 = 0 then f_X5_readPiece_134 (v0 + 5) (-1 : Int32) w3 else f_X5_readPiece_134 (v0 + 5) v4 w3)))))
def f_X5_readPiece_80  (v0 : Nat) (v2 : Int32) (v3 : Int32) (v4 : Int32) (t0 : Int32) (w : Wd) : Option (Int32 × Wd) :=
  (if t0 = 0 then f_X5_readPiece_97 v0 v2 v3 v4 t0 w else wr (setI w v0 4 ((w.1 v0 4) + (1 : Int32))) (fun w1 => f_X5_readPiece_97 v0 v2 v3 v4 t0 w1))
def f_X5_readPiece_38  (v0 : Nat) (v1 : Nat) (v2 : Int32) (w : Wd) : Option (Int32 × Wd) :=
  bd (f_X5_readSet v0 v1 w) (fun x2 w1 => (if x2 = (-1 : Int32) then some ((0 : Int32), w1) else bd (f_X7_get v1 (w1.1 v0 4) w1) (fun x4 w3 => (if x4 = (42 : Int32) then f_X5_readPiece_80 v0 v2 x2 x4 (1 : Int32) w3 else (if x4 = (63 : Int32) then f_X5_readPiece_80 v0 v2 x2 x4 (1 : Int32) w3 else f_X5_readPiece_80 v0 v2 x2 x4 (0 : Int32) w3)))))
def f_X5_readPiece  (v0 : Nat) (v1 : Nat) (w : Wd) : Option (Int32 × Wd) :=
  bd (f_X7_get v1 (w.1 v0 4) w) (fun x2 w1 => (if x2 = (60 : Int32) then wr (setI w1 v0 4 ((w1.1 v0 4) + (1 : Int32))) (fun w3 => bd (f_X5_readSet v0 v1 w3) (fun x5 w4 => (if x5 = (-1 : Int32) then some ((0 : Int32), w4) else f_X5_readPiece_38 v0 v1 x5 w4))) else f_X5_readPiece_38 v0 v1 (-1 : Int32) w1))
/-! LetterTables$Pattern.read -/
def g_X5_read_31 (rc_31 : Nat × Nat × Int32 × Wd → Option (Int32 × Wd)) (v0 : Nat) (v1 : Nat) (v2 : Int32) (w : Wd) : Option (Int32 × Wd) :=
  (if (160 : Int32) ≤ v2 then some ((1 : Int32), w) else bd (f_X7_size v1 w) (fun x2 w1 => (if x2 ≤ (w.1 v0 4) then some ((1 : Int32), w1) else bd (f_X5_readPiece v0 v1 w1) (fun x4 w3 => (if x4 = 0 then some ((0 : Int32), w3) else lt (v2 + (1 : Int32)) (fun x5 => rc_31 (v0, v1, x5, w3)))))))
def f_X5_read_31  (v0 : Nat) (v1 : Nat) (v2 : Int32) (w : Wd) : Option (Int32 × Wd) :=
  loopN (fun rc σ => g_X5_read_31 rc  σ.1 σ.2.1 σ.2.2.1 σ.2.2.2) FU (v0, v1, v2, w)
def f_X5_read  (v0 : Nat) (v1 : Nat) (w : Wd) : Option (Int32 × Wd) :=
  bd (f_X7_cutTo (v0 + 1) (0 : Int32) w) (fun _ w1 => bd (f_X7_cutTo (v0 + 3) (0 : Int32) w1) (fun _ w2 => bd (f_X7_cutTo (v0 + 5) (0 : Int32) w2) (fun _ w3 => wr (setI w3 v0 4 (0 : Int32)) (fun w4 => f_X5_read_31 v0 v1 (0 : Int32) w4))))
/-! LetterTables$Pattern.size -/
def f_X5_size  (v0 : Nat) (w : Wd) : Option (Int32 × Wd) :=
  bd (f_X7_size (v0 + 3) w) (fun x2 w1 => some (x2, w1))
/-! LetterTables.pattern -/
def f_X10_pattern   (w : Wd) : Option ((Nat ⊕ Int32) × Wd) :=
  bd (f_X5_read w.2.2.1 635 w) (fun x2 w1 => bd (f_X7_cutTo 635 (0 : Int32) w1) (fun _ w3 => (if x2 = 0 then some (.inl 3, w3) else wr (setT w3 w3.2.2.1) (fun w4 => wr (setD w4 w3.2.1) (fun w5 => wr (setI w5 0 11 (1 : Int32)) (fun w6 => bd (f_X5_size w6.2.1 w6) (fun x8 w7 => some (.inr x8, w7))))))))
/-! LetterTables$Tables.capitalsInto -/
def f_X9_capitalsInto_39 (rc_9 : Nat × Nat × Int32 × Wd → Option (Unit × Wd)) (v0 : Nat) (v1 : Nat) (v2 : Int32) (v4 : Int32) (w : Wd) : Option (Unit × Wd) :=
  (if v4 = v2 then lt (v2 + (1 : Int32)) (fun x1 => rc_9 (v0, v1, x1, w)) else bd (f_X7_set v1 v4 (1 : Int32) w) (fun _ w2 => lt (v2 + (1 : Int32)) (fun x3 => rc_9 (v0, v1, x3, w2))))
def g_X9_capitalsInto_9 (rc_9 : Nat × Nat × Int32 × Wd → Option (Unit × Wd)) (v0 : Nat) (v1 : Nat) (v2 : Int32) (w : Wd) : Option (Unit × Wd) :=
  (if (96 : Int32) ≤ v2 then some ((), w) else bd (f_X9_capitalOneOf v0 v2 w) (fun x2 w1 => bd (f_X9_capitalOtherOf v0 v2 w1) (fun x4 w3 => (if x2 = v2 then f_X9_capitalsInto_39 rc_9 v0 v1 v2 x4 w3 else bd (f_X7_set v1 x2 (1 : Int32) w3) (fun _ w5 => f_X9_capitalsInto_39 rc_9 v0 v1 v2 x4 w5)))))
def f_X9_capitalsInto_9  (v0 : Nat) (v1 : Nat) (v2 : Int32) (w : Wd) : Option (Unit × Wd) :=
  loopN (fun rc σ => g_X9_capitalsInto_9 rc  σ.1 σ.2.1 σ.2.2.1 σ.2.2.2) FU (v0, v1, v2, w)
def f_X9_capitalsInto  (v0 : Nat) (v1 : Nat) (w : Wd) : Option (Unit × Wd) :=
  bd (f_X7_refill v1 (0 : Int32) (96 : Int32) w) (fun _ w1 => f_X9_capitalsInto_9 v0 v1 (0 : Int32) w1)
/-! LetterTables$Pattern.withSkips -/
def g_X5_withSkips_4 (rc_4 : Nat × Int32 × Int32 × Wd → Option (Int32 × Wd)) (v0 : Nat) (v2 : Int32) (v3 : Int32) (w : Wd) : Option (Int32 × Wd) :=
  bd (f_X7_size (v0 + 3) w) (fun x2 w1 => (if x2 ≤ v3 then some (v2, w1) else (if (((v2.toUInt32 >>> (v3.toUInt32 &&& Int32.toUInt32 31)).toInt32) &&& (1 : Int32)) = 0 then lt (v3 + (1 : Int32)) (fun x3 => rc_4 (v0, v2, x3, w1)) else bd (f_X7_get (v0 + 5) v3 w1) (fun x5 w4 => (if x5 = (-1 : Int32) then lt (v3 + (1 : Int32)) (fun x6 => rc_4 (v0, v2, x6, w4)) else lt (v2 ||| ((1 : Int32) <<< ((v3 + (1 : Int32)) &&& 31))) (fun x7 => lt (v3 + (1 : Int32)) (fun x8 => rc_4 (v0, x7, x8, w4))))))))
def f_X5_withSkips_4  (v0 : Nat) (v2 : Int32) (v3 : Int32) (w : Wd) : Option (Int32 × Wd) :=
  loopN (fun rc σ => g_X5_withSkips_4 rc  σ.1 σ.2.1 σ.2.2.1 σ.2.2.2) FU (v0, v2, v3, w)
def f_X5_withSkips  (v0 : Nat) (v1 : Int32) (w : Wd) : Option (Int32 × Wd) :=
  f_X5_withSkips_4 v0 v1 (0 : Int32) w
/-! LetterTables$Pattern.isInSet -/
def f_X5_isInSet_115  (v4 : Int32) (v6 : Int32) (w : Wd) : Option (Int32 × Wd) :=
  (if v6 = v4 then some ((0 : Int32), w) else some ((1 : Int32), w))
def f_X5_isInSet_113  (v4 : Int32) (t0 : Int32) (w : Wd) : Option (Int32 × Wd) :=
  f_X5_isInSet_115 v4 t0 w
def f_X5_isInSet_28  (v0 : Nat) (v2 : Int32) (v3 : Nat) (v4 : Int32) (t0 : Int32) (w : Wd) : Option (Int32 × Wd) :=
  (if t0 = (96 : Int32) then f_X5_isInSet_115 v4 (1 : Int32) w else (if t0 = (97 : Int32) then bd (f_X7_get (v0 + 7) v2 w) (fun x4 w3 => (if x4 = (1 : Int32) then f_X5_isInSet_115 v4 (1 : Int32) w3 else f_X5_isInSet_115 v4 (0 : Int32) w3)) else (if t0 < (100 : Int32) then (if v2 = t0 then f_X5_isInSet_113 v4 (1 : Int32) w else f_X5_isInSet_113 v4 (0 : Int32) w) else bd (f_X9_kindOf v3 v2 w) (fun x2 w1 => (if x2 = (t0 - (100 : Int32)) then f_X5_isInSet_115 v4 (1 : Int32) w1 else f_X5_isInSet_115 v4 (0 : Int32) w1)))))
def f_X5_isInSet_12  (v0 : Nat) (v1 : Int32) (v2 : Int32) (v3 : Nat) (t0 : Int32) (w : Wd) : Option (Int32 × Wd) :=
  (if t0 = 0 then f_X5_isInSet_28 v0 v2 v3 t0 v1 w else f_X5_isInSet_28 v0 v2 v3 t0 (v1 - (1000 : Int32)) w)
def f_X5_isInSet  (v0 : Nat) (v1 : Int32) (v2 : Int32) (v3 : Nat) (w : Wd) : Option (Int32 × Wd) :=
  (if v1 < (1000 : Int32) then f_X5_isInSet_12 v0 v1 v2 v3 (0 : Int32) w else f_X5_isInSet_12 v0 v1 v2 v3 (1 : Int32) w)
/-! LetterTables$Pattern.isTaken -/
def f_X5_isTaken_41  (v0 : Nat) (v1 : Int32) (v2 : Nat) (v3 : Int32) (v4 : Nat) (w : Wd) : Option (Int32 × Wd) :=
  bd (f_X7_get (v0 + 3) v1 w) (fun x2 w1 => bd (f_X7_get v2 v3 w1) (fun x4 w3 => bd (f_X5_isInSet v0 x2 x4 v4 w3) (fun x6 w5 => some (x6, w5))))
def f_X5_isTaken  (v0 : Nat) (v1 : Int32) (v2 : Nat) (v3 : Int32) (v4 : Nat) (w : Wd) : Option (Int32 × Wd) :=
  bd (f_X7_get (v0 + 1) v1 w) (fun x2 w1 => (if x2 = (-1 : Int32) then f_X5_isTaken_41 v0 v1 v2 v3 v4 w1 else (if v3 < (1 : Int32) then some ((0 : Int32), w1) else bd (f_X7_get v2 (v3 - (1 : Int32)) w1) (fun x4 w3 => bd (f_X5_isInSet v0 x2 x4 v4 w3) (fun x6 w5 => (if x6 = 0 then some ((0 : Int32), w5) else f_X5_isTaken_41 v0 v1 v2 v3 v4 w5))))))
/-! LetterTables$Pattern.statesBehind -/
def f_X5_statesBehind_80 (rc_17 : Nat × Int32 × Nat × Int32 × Nat × Int32 × Int32 × Wd → Option (Int32 × Wd)) (v0 : Nat) (v1 : Int32) (v2 : Nat) (v3 : Int32) (v4 : Nat) (v6 : Int32) (t0 : Int32) (t1 : Int32) (w : Wd) : Option (Int32 × Wd) :=
  lt (t0 ||| t1) (fun x1 => lt (v6 + (1 : Int32)) (fun x2 => rc_17 (v0, v1, v2, v3, v4, x1, x2, w)))
def g_X5_statesBehind_17 (rc_17 : Nat × Int32 × Nat × Int32 × Nat × Int32 × Int32 × Wd → Option (Int32 × Wd)) (v0 : Nat) (v1 : Int32) (v2 : Nat) (v3 : Int32) (v4 : Nat) (v5 : Int32) (v6 : Int32) (w : Wd) : Option (Int32 × Wd) :=
  bd (f_X7_size (v0 + 3) w) (fun x2 w1 => (if x2 ≤ v6 then some (v5, w1) else (if (((v1.toUInt32 >>> (v6.toUInt32 &&& Int32.toUInt32 31)).toInt32) &&& (1 : Int32)) = 0 then lt (v6 + (1 : Int32)) (fun x3 => rc_17 (v0, v1, v2, v3, v4, v5, x3, w1)) else bd (f_X5_isTaken v0 v6 v2 v3 v4 w1) (fun x5 w4 => (if x5 = 0 then lt (v6 + (1 : Int32)) (fun x6 => rc_17 (v0, v1, v2, v3, v4, v5, x6, w4)) else bd (f_X7_get (v0 + 5) v6 w4) (fun x8 w7 => (if x8 = (42 : Int32) then f_X5_statesBehind_80 rc_17 v0 v1 v2 v3 v4 v6 v5 ((1 : Int32) <<< (v6 &&& 31)) w7 else f_X5_statesBehind_80 rc_17 v0 v1 v2 v3 v4 v6 v5 ((1 : Int32) <<< ((v6 + (1 : Int32)) &&& 31)) w7)))))))
def f_X5_statesBehind_17  (v0 : Nat) (v1 : Int32) (v2 : Nat) (v3 : Int32) (v4 : Nat) (v5 : Int32) (v6 : Int32) (w : Wd) : Option (Int32 × Wd) :=
  loopN (fun rc σ => g_X5_statesBehind_17 rc  σ.1 σ.2.1 σ.2.2.1 σ.2.2.2.1 σ.2.2.2.2.1 σ.2.2.2.2.2.1 σ.2.2.2.2.2.2.1 σ.2.2.2.2.2.2.2) FU (v0, v1, v2, v3, v4, v5, v6, w)
def f_X5_statesBehind  (v0 : Nat) (v1 : Int32) (v2 : Nat) (v3 : Int32) (v4 : Nat) (w : Wd) : Option (Int32 × Wd) :=
  bd (f_X7_size v2 w) (fun x2 w1 => (if v3 < x2 then f_X5_statesBehind_17 v0 v1 v2 v3 v4 (0 : Int32) (0 : Int32) w1 else some ((0 : Int32), w1)))
/-! LetterTables$Pattern.endFrom -/
def f_X5_endFrom_54 (rc_21 : Nat × Nat × Nat × Int32 × Int32 × Int32 × Wd → Option (Int32 × Wd)) (v0 : Nat) (v1 : Nat) (v3 : Nat) (v4 : Int32) (v5 : Int32) (v6 : Int32) (w : Wd) : Option (Int32 × Wd) :=
  bd (f_X5_statesBehind v0 v5 v1 v6 v3 w) (fun x2 w1 => bd (f_X5_withSkips v0 x2 w1) (fun x4 w3 => lt (v6 + (1 : Int32)) (fun x5 => rc_21 (v0, v1, v3, v4, x4, x5, w3))))
def g_X5_endFrom_21 (rc_21 : Nat × Nat × Nat × Int32 × Int32 × Int32 × Wd → Option (Int32 × Wd)) (v0 : Nat) (v1 : Nat) (v3 : Nat) (v4 : Int32) (v5 : Int32) (v6 : Int32) (w : Wd) : Option (Int32 × Wd) :=
  bd (f_X7_size v1 w) (fun x2 w1 => (if x2 < v6 then some (v4, w1) else (if v5 = 0 then some (v4, w1) else bd (f_X7_size (v0 + 3) w1) (fun x4 w3 => (if (((v5.toUInt32 >>> (x4.toUInt32 &&& Int32.toUInt32 31)).toInt32) &&& (1 : Int32)) = 0 then f_X5_endFrom_54 rc_21 v0 v1 v3 v4 v5 v6 w3 else f_X5_endFrom_54 rc_21 v0 v1 v3 v6 v5 v6 w3)))))
def f_X5_endFrom_21  (v0 : Nat) (v1 : Nat) (v3 : Nat) (v4 : Int32) (v5 : Int32) (v6 : Int32) (w : Wd) : Option (Int32 × Wd) :=
  loopN (fun rc σ => g_X5_endFrom_21 rc  σ.1 σ.2.1 σ.2.2.1 σ.2.2.2.1 σ.2.2.2.2.1 σ.2.2.2.2.2.1 σ.2.2.2.2.2.2) FU (v0, v1, v3, v4, v5, v6, w)
def f_X5_endFrom  (v0 : Nat) (v1 : Nat) (v2 : Int32) (v3 : Nat) (w : Wd) : Option (Int32 × Wd) :=
  bd (f_X9_capitalsInto v3 (v0 + 7) w) (fun _ w1 => bd (f_X5_withSkips v0 (1 : Int32) w1) (fun x3 w2 => f_X5_endFrom_21 v0 v1 v3 (-1 : Int32) x3 v2 w2))
/-! LetterTables.match -/
def f_X10_match  (v1 : Int32) (v2 : Int32) (w : Wd) : Option ((Nat ⊕ Int32) × Wd) :=
  bdx (f_X10_textOf v1 w) (fun r2 w1 => bd (f_X7_size r2 w1) (fun x4 w3 => bdx (f_X10_checkPlace v2 (x4 + (1 : Int32)) w3) (fun _ w5 => (if (w5.1 0 11) = 0 then some (.inl 3, w5) else bd (f_X5_endFrom w5.2.1 r2 v2 1 w5) (fun x7 w6 => some (.inr x7, w6))))))
/-! LetterTables$Rule.sourceOf -/
def f_X8_sourceOf  (v0 : Nat) (v1 : Int32) (w : Wd) : Option (Nat × Wd) :=
  (if v1 = 0 then some (v0 + 3, w) else some (v0 + 7, w))
/-! LetterTables$Rule.fits -/
def f_X8_fits  (v0 : Nat) (v1 : Int32) (v2 : Int32) (v3 : Nat) (v4 : Int32) (v5 : Nat) (w : Wd) : Option (Int32 × Wd) :=
  bd (f_X8_sourceOf v0 v2 w) (fun r2 w1 => (if v1 = (w1.1 v0 0) then bd (f_X7_size r2 w1) (fun x4 w3 => (if x4 ≤ 0 then some ((0 : Int32), w3) else bd (f_X7_holds v3 r2 v4 w3) (fun x6 w5 => (if x6 = 0 then some ((0 : Int32), w5) else bd (f_X7_size v5 w5) (fun x8 w7 => bd (f_X7_size (v0 + 1) w7) (fun x10 w9 => bd (f_X7_holds v5 (v0 + 1) (x8 - x10) w9) (fun x12 w11 => (if x12 = 0 then some ((0 : Int32), w11) else bd (f_X7_size r2 w11) (fun x14 w13 => bd (f_X7_holds v3 (v0 + 5) (v4 + x14) w13) (fun x16 w15 => (if x16 = 0 then some ((0 : Int32), w15) else some ((1 : Int32), w15)))))))))))) else some ((0 : Int32), w1)))
/-! LetterTables$Tables.fittingRule -/
def g_X9_fittingRule_3 (rc_3 : Nat × Int32 × Int32 × Nat × Int32 × Nat × Int32 × Wd → Option (Option Nat × Wd)) (v0 : Nat) (v1 : Int32) (v2 : Int32) (v3 : Nat) (v4 : Int32) (v5 : Nat) (v6 : Int32) (w : Wd) : Option (Option Nat × Wd) :=
  (if (w.1 v0 14) ≤ v6 then some (none, w) else (if (Int32.ofNat (LEN (v0 + 51))) ≤ v6 then some (none, w) else ard (v0 + 51) v6 (fun r1 => bd (f_X8_fits r1 v1 v2 v3 v4 v5 w) (fun x3 w2 => (if x3 = 0 then lt (v6 + (1 : Int32)) (fun x4 => rc_3 (v0, v1, v2, v3, v4, v5, x4, w2)) else ard (v0 + 51) v6 (fun r5 => some (some r5, w2)))))))
def f_X9_fittingRule_3  (v0 : Nat) (v1 : Int32) (v2 : Int32) (v3 : Nat) (v4 : Int32) (v5 : Nat) (v6 : Int32) (w : Wd) : Option (Option Nat × Wd) :=
  loopN (fun rc σ => g_X9_fittingRule_3 rc  σ.1 σ.2.1 σ.2.2.1 σ.2.2.2.1 σ.2.2.2.2.1 σ.2.2.2.2.2.1 σ.2.2.2.2.2.2.1 σ.2.2.2.2.2.2.2) FU (v0, v1, v2, v3, v4, v5, v6, w)
def f_X9_fittingRule  (v0 : Nat) (v1 : Int32) (v2 : Int32) (v3 : Nat) (v4 : Int32) (v5 : Nat) (w : Wd) : Option (Option Nat × Wd) :=
  f_X9_fittingRule_3 v0 v1 v2 v3 v4 v5 (0 : Int32) w
/-! LetterTables$Rule.putTarget -/
def g_X8_putTarget_19 (rc_19 : Nat × Nat × Int32 × Wd → Option (Int32 × Wd)) (v2 : Nat) (v3 : Nat) (v4 : Int32) (w : Wd) : Option (Int32 × Wd) :=
  bd (f_X7_size v3 w) (fun x2 w1 => (if x2 ≤ v4 then some ((1 : Int32), w1) else bd (f_X7_get v3 v4 w1) (fun x4 w3 => bd (f_X7_add v2 x4 w3) (fun x6 w5 => (if x6 = 0 then some ((0 : Int32), w5) else lt (v4 + (1 : Int32)) (fun x7 => rc_19 (v2, v3, x7, w5)))))))
def f_X8_putTarget_19  (v2 : Nat) (v3 : Nat) (v4 : Int32) (w : Wd) : Option (Int32 × Wd) :=
  loopN (fun rc σ => g_X8_putTarget_19 rc  σ.1 σ.2.1 σ.2.2.1 σ.2.2.2) FU (v2, v3, v4, w)
def f_X8_putTarget_15  (v2 : Nat) (t0 : Nat) (w : Wd) : Option (Int32 × Wd) :=
  f_X8_putTarget_19 v2 t0 (0 : Int32) w
def f_X8_putTarget  (v0 : Nat) (v1 : Int32) (v2 : Nat) (w : Wd) : Option (Int32 × Wd) :=
  (if v1 = 0 then f_X8_putTarget_15 v2 (v0 + 7) w else f_X8_putTarget_15 v2 (v0 + 3) w)
/-! LetterTables$Tables.passInto -/
def f_X9_passInto_89 (rc_12 : Nat × Int32 × Int32 × Nat × Nat × Int32 × Int32 × Wd → Option (Int32 × Wd)) (v0 : Nat) (v1 : Int32) (v2 : Int32) (v3 : Nat) (v4 : Nat) (v5 : Int32) (v6 : Int32) (v8 : Int32) (w : Wd) : Option (Int32 × Wd) :=
  (if v8 = 0 then some ((0 : Int32), w) else lt (v6 + (1 : Int32)) (fun x1 => rc_12 (v0, v1, v2, v3, v4, v5, x1, w)))
def g_X9_passInto_12 (rc_12 : Nat × Int32 × Int32 × Nat × Nat × Int32 × Int32 × Wd → Option (Int32 × Wd)) (v0 : Nat) (v1 : Int32) (v2 : Int32) (v3 : Nat) (v4 : Nat) (v5 : Int32) (v6 : Int32) (w : Wd) : Option (Int32 × Wd) :=
  (if (40 : Int32) ≤ v6 then some ((1 : Int32), w) else bd (f_X7_size v3 w) (fun x2 w1 => (if x2 ≤ v5 then some ((1 : Int32), w1) else bdq (f_X9_fittingRule v0 v1 v2 v3 v5 v4 w1) (fun w4 => bd (f_X7_get v3 v5 w4) (fun x7 w6 => bd (f_X7_add v4 x7 w6) (fun x9 w8 => lt (v5 + (1 : Int32)) (fun x10 => f_X9_passInto_89 rc_12 v0 v1 v2 v3 v4 x10 v6 x9 w8)))) (fun r3 w5 => bd (f_X8_putTarget r3 v2 v4 w5) (fun x12 w11 => bd (f_X8_sourceOf r3 v2 w11) (fun r14 w13 => bd (f_X7_size r14 w13) (fun x16 w15 => lt (v5 + x16) (fun x17 => f_X9_passInto_89 rc_12 v0 v1 v2 v3 v4 x17 v6 x12 w15))))))))
def f_X9_passInto_12  (v0 : Nat) (v1 : Int32) (v2 : Int32) (v3 : Nat) (v4 : Nat) (v5 : Int32) (v6 : Int32) (w : Wd) : Option (Int32 × Wd) :=
  loopN (fun rc σ => g_X9_passInto_12 rc  σ.1 σ.2.1 σ.2.2.1 σ.2.2.2.1 σ.2.2.2.2.1 σ.2.2.2.2.2.1 σ.2.2.2.2.2.2.1 σ.2.2.2.2.2.2.2) FU (v0, v1, v2, v3, v4, v5, v6, w)
def f_X9_passInto  (v0 : Nat) (v1 : Int32) (v2 : Int32) (v3 : Nat) (v4 : Nat) (w : Wd) : Option (Int32 × Wd) :=
  bd (f_X7_cutTo v4 (0 : Int32) w) (fun _ w1 => f_X9_passInto_12 v0 v1 v2 v3 v4 (0 : Int32) (0 : Int32) w1)
/-! LetterTables.transliterate -/
def f_X10_transliterate_67   (w : Wd) : Option ((Nat ⊕ Int32) × Wd) :=
  some (.inl 3, w)
def f_X10_transliterate_23  (v3 : Int32) (v4 : Nat) (v5 : Nat) (t0 : Int32) (w : Wd) : Option ((Nat ⊕ Int32) × Wd) :=
  bd (f_X9_passInto 1 t0 v3 v4 709 w) (fun x2 w1 => (if x2 = 0 then f_X10_transliterate_67 w1 else bd (f_X9_passInto 1 ((1 : Int32) - t0) v3 709 711 w1) (fun x4 w3 => (if x4 = 0 then f_X10_transliterate_67 w3 else bd (f_X7_takeOver v5 711 w3) (fun _ w5 => bd (f_X7_size v5 w5) (fun x7 w6 => some (.inr x7, w6)))))))
def f_X10_transliterate  (v1 : Int32) (v2 : Int32) (v3 : Int32) (w : Wd) : Option ((Nat ⊕ Int32) × Wd) :=
  bdx (f_X10_textOf v1 w) (fun r2 w1 => bdx (f_X10_textOf v2 w1) (fun r4 w3 => (if v3 = 0 then f_X10_transliterate_23 v3 r2 r4 (0 : Int32) w3 else f_X10_transliterate_23 v3 r2 r4 (1 : Int32) w3)))
/-! LetterTables.isNumber -/
def f_X10_isNumber  (v0 : Int32) (w : Wd) : Option (Int32 × Wd) :=
  bd (f_X10_isWithin v0 (0 : Int32) (999999 : Int32) w) (fun x2 w1 => some (x2, w1))
/-! LetterTables$PluralRule.remainder -/
def f_X6_remainder  (v0 : Int32) (v1 : Int32) (w : Wd) : Option (Int32 × Wd) :=
  (if (1 : Int32) ≤ v1 then dv v1 (some (v0 - v0 / v1 * v1, w)) else some ((0 : Int32), w))
/-! LetterTables$PluralRule.fits -/
def f_X6_fits_34  (v0 : Nat) (v1 : Int32) (t0 : Int32) (w : Wd) : Option (Int32 × Wd) :=
  (if t0 = 0 then bd (f_X6_remainder v1 (w.1 v0 1) w) (fun x2 w1 => bd (f_X10_isWithin x2 (w1.1 v0 2) (w1.1 v0 3) w1) (fun x4 w3 => (if x4 = 0 then some ((0 : Int32), w3) else some ((1 : Int32), w3)))) else some ((0 : Int32), w))
def f_X6_fits_33  (v0 : Nat) (v1 : Int32) (w : Wd) : Option (Int32 × Wd) :=
  f_X6_fits_34 v0 v1 (0 : Int32) w
def f_X6_fits  (v0 : Nat) (v1 : Int32) (w : Wd) : Option (Int32 × Wd) :=
  (if (w.1 v0 4) ≤ 0 then f_X6_fits_33 v0 v1 w else bd (f_X6_remainder v1 (w.1 v0 4) w) (fun x2 w1 => bd (f_X10_isWithin x2 (w1.1 v0 5) (w1.1 v0 6) w1) (fun x4 w3 => (if x4 = 0 then f_X6_fits_33 v0 v1 w3 else f_X6_fits_34 v0 v1 (1 : Int32) w3))))
/-! LetterTables$PluralRule.classTold -/
def f_X6_classTold  (v0 : Nat) (w : Wd) : Option (Int32 × Wd) :=
  some (w.1 v0 0, w)
/-! LetterTables$Language.classFor -/
def g_X2_classFor_2 (rc_2 : Nat × Int32 × Int32 × Wd → Option (Int32 × Wd)) (v0 : Nat) (v1 : Int32) (v2 : Int32) (w : Wd) : Option (Int32 × Wd) :=
  (if (w.1 v0 6) ≤ v2 then some ((-1 : Int32), w) else (if (Int32.ofNat (LEN (v0 + 8))) ≤ v2 then some ((-1 : Int32), w) else ard (v0 + 8) v2 (fun r1 => bd (f_X6_fits r1 v1 w) (fun x3 w2 => (if x3 = 0 then lt (v2 + (1 : Int32)) (fun x4 => rc_2 (v0, v1, x4, w2)) else ard (v0 + 8) v2 (fun r5 => bd (f_X6_classTold r5 w2) (fun x7 w6 => some (x7, w6))))))))
def f_X2_classFor_2  (v0 : Nat) (v1 : Int32) (v2 : Int32) (w : Wd) : Option (Int32 × Wd) :=
  loopN (fun rc σ => g_X2_classFor_2 rc  σ.1 σ.2.1 σ.2.2.1 σ.2.2.2) FU (v0, v1, v2, w)
def f_X2_classFor  (v0 : Nat) (v1 : Int32) (w : Wd) : Option (Int32 × Wd) :=
  f_X2_classFor_2 v0 v1 (0 : Int32) w
/-! LetterTables.classOf -/
def f_X10_classOf  (v1 : Int32) (v2 : Int32) (w : Wd) : Option ((Nat ⊕ Int32) × Wd) :=
  bdx (f_X10_languageOf v1 w) (fun r2 w1 => bd (f_X10_isNumber v2 w1) (fun x4 w3 => bdx (f_X10_checkArgument x4 w3) (fun _ w5 => bd (f_X2_classFor r2 v2 w5) (fun x7 w6 => some (.inr x7, w6)))))
/-! LetterTables$MessageReader.begin -/
def f_X4_begin   (w : Wd) : Option (Unit × Wd) :=
  bd (f_X7_cutTo 693 (0 : Int32) w) (fun _ w1 => bd (f_X7_cutTo 695 (0 : Int32) w1) (fun _ w2 => bd (f_X7_cutTo 697 (0 : Int32) w2) (fun _ w3 => some ((), w3))))
/-! LetterTables$MessageReader.tellNumber -/
def f_X4_tellNumber  (v1 : Int32) (v2 : Int32) (w : Wd) : Option (Unit × Wd) :=
  bd (f_X7_add 693 v1 w) (fun x2 w1 => bd (f_X7_add 695 v2 w1) (fun x4 w3 => some ((), w3)))
/-! LetterTables$MessageReader.digitAt -/
def f_X4_digitAt  (v1 : Int32) (w : Wd) : Option (Int32 × Wd) :=
  bd (f_X7_get 635 v1 w) (fun x2 w1 => lt (x2 - (48 : Int32)) (fun x3 => bd (f_X10_isWithin x3 (0 : Int32) (3 : Int32) w1) (fun x5 w4 => (if x5 = 0 then some ((-1 : Int32), w4) else some (x3, w4)))))
/-! LetterTables$MessageReader.putByte -/
def f_X4_putByte  (v1 : Int32) (v2 : Int32) (w : Wd) : Option (Unit × Wd) :=
  (if v2 = 0 then some ((), w) else bd (f_X7_add 697 v1 w) (fun x2 w1 => some ((), w1)))
/-! LetterTables$MessageReader.putNumber -/
def f_X4_putNumber_61 (rc_6 : Int32 × Int32 × Int32 × Int32 × Wd → Option (Unit × Wd)) (v1 : Int32) (v2 : Int32) (v3 : Int32) (v4 : Int32) (t1 : Int32) (t2 : Int32) (w : Wd) : Option (Unit × Wd) :=
  bd (f_X4_putByte t1 t2 w) (fun _ w1 => lt (v4 / (10 : Int32)) (fun x2 => rc_6 (v1, v2, v3, x2, w1)))
def f_X4_putNumber_60 (rc_6 : Int32 × Int32 × Int32 × Int32 × Wd → Option (Unit × Wd)) (v1 : Int32) (v2 : Int32) (v3 : Int32) (v4 : Int32) (t1 : Int32) (w : Wd) : Option (Unit × Wd) :=
  f_X4_putNumber_61 rc_6 v1 v2 v3 v4 t1 (0 : Int32) w
def f_X4_putNumber_41 (rc_6 : Int32 × Int32 × Int32 × Int32 × Wd → Option (Unit × Wd)) (v1 : Int32) (v2 : Int32) (v4 : Int32) (v5 : Int32) (t0 : Int32) (w : Wd) : Option (Unit × Wd) :=
  (if v2 = 0 then f_X4_putNumber_60 rc_6 v1 v2 t0 v4 ((48 : Int32) + v5) w else (if t0 = 0 then f_X4_putNumber_60 rc_6 v1 v2 t0 v4 ((48 : Int32) + v5) w else f_X4_putNumber_61 rc_6 v1 v2 t0 v4 ((48 : Int32) + v5) (1 : Int32) w))
def g_X4_putNumber_6 (rc_6 : Int32 × Int32 × Int32 × Int32 × Wd → Option (Unit × Wd)) (v1 : Int32) (v2 : Int32) (v3 : Int32) (v4 : Int32) (w : Wd) : Option (Unit × Wd) :=
  (if v4 < (1 : Int32) then some ((), w) else dv v4 (lt ((v1 / v4) - (v1 / v4) / (10 : Int32) * (10 : Int32)) (fun x1 => (if v3 = 0 then (if 0 < x1 then f_X4_putNumber_41 rc_6 v1 v2 v4 x1 (1 : Int32) w else (if v4 = (1 : Int32) then f_X4_putNumber_41 rc_6 v1 v2 v4 x1 (1 : Int32) w else f_X4_putNumber_41 rc_6 v1 v2 v4 x1 (0 : Int32) w)) else f_X4_putNumber_41 rc_6 v1 v2 v4 x1 (1 : Int32) w))))
def f_X4_putNumber_6  (v1 : Int32) (v2 : Int32) (v3 : Int32) (v4 : Int32) (w : Wd) : Option (Unit × Wd) :=
  loopN (fun rc σ => g_X4_putNumber_6 rc  σ.1 σ.2.1 σ.2.2.1 σ.2.2.2.1 σ.2.2.2.2) FU (v1, v2, v3, v4, w)
def f_X4_putNumber  (v1 : Int32) (v2 : Int32) (w : Wd) : Option (Unit × Wd) :=
  f_X4_putNumber_6 v1 v2 (0 : Int32) (100000 : Int32) w
/-! LetterTables$MessageReader.keyEnd -/
def f_X4_keyEnd  (v1 : Int32) (w : Wd) : Option (Int32 × Wd) :=
  bd (f_X7_get 635 v1 w) (fun x2 w1 => (if x2 = 35 then bd (f_X4_digitAt (v1 + (1 : Int32)) w1) (fun x4 w3 => (if x4 = (-1 : Int32) then some ((-1 : Int32), w3) else some (v1 + (2 : Int32), w3))) else (if x2 = 102 then some (v1 + (1 : Int32), w1) else (if x2 = 109 then some (v1 + (1 : Int32), w1) else (if x2 = 111 then some (v1 + (1 : Int32), w1) else (if x2 = 120 then some (v1 + (1 : Int32), w1) else some ((-1 : Int32), w1)))))))
/-! LetterTables$MessageReader.isFitting -/
def f_X4_isFitting  (v1 : Int32) (v2 : Int32) (w : Wd) : Option (Int32 × Wd) :=
  bd (f_X7_get 635 v1 w) (fun x2 w1 => (if x2 = 35 then bd (f_X7_get 693 v2 w1) (fun x4 w3 => bd (f_X4_digitAt (v1 + (1 : Int32)) w3) (fun x6 w5 => (if x4 = x6 then some ((1 : Int32), w5) else some ((0 : Int32), w5)))) else (if x2 = 102 then bd (f_X7_get 695 v2 w1) (fun x8 w7 => (if x8 = (1 : Int32) then some ((1 : Int32), w7) else some ((0 : Int32), w7))) else (if x2 = 109 then bd (f_X7_get 695 v2 w1) (fun x10 w9 => (if x10 = (2 : Int32) then some ((1 : Int32), w9) else some ((0 : Int32), w9))) else (if x2 = 111 then bd (f_X7_get 695 v2 w1) (fun x12 w11 => (if x12 = 0 then some ((1 : Int32), w11) else some ((0 : Int32), w11))) else some ((1 : Int32), w1))))))
/-! LetterTables$MessageReader.readCases -/
def f_X4_readCases_106 (rp : Int32 → Int32 → Int32 → Wd → Option (Int32 × Wd)) (rc_9 : Int32 × Int32 × Int32 × Int32 × Int32 × Wd → Option (Int32 × Wd)) (v2 : Int32) (v4 : Int32) (v5 : Int32) (v7 : Int32) (t0 : Int32) (w : Wd) : Option (Int32 × Wd) :=
  bd (f_X7_get 635 v5 w) (fun x2 w1 => lt (v5 + (1 : Int32)) (fun x3 => (if x2 = (124 : Int32) then lt (v7 + (1 : Int32)) (fun x4 => rc_9 (v2, v4, x3, t0, x4, w1)) else (if x2 = (125 : Int32) then some (x3, w1) else some ((-1 : Int32), w1)))))
def f_X4_readCases_105 (rp : Int32 → Int32 → Int32 → Wd → Option (Int32 × Wd)) (rc_9 : Int32 × Int32 × Int32 × Int32 × Int32 × Wd → Option (Int32 × Wd)) (v2 : Int32) (v4 : Int32) (v5 : Int32) (v7 : Int32) (w : Wd) : Option (Int32 × Wd) :=
  f_X4_readCases_106 rp rc_9 v2 v4 v5 v7 (0 : Int32) w
def f_X4_readCases_67 (rp : Int32 → Int32 → Int32 → Wd → Option (Int32 × Wd)) (rc_9 : Int32 × Int32 × Int32 × Int32 × Int32 × Wd → Option (Int32 × Wd)) (v2 : Int32) (v4 : Int32) (v6 : Int32) (v7 : Int32) (v8 : Int32) (t0 : Int32) (w : Wd) : Option (Int32 × Wd) :=
  bd (rp (v8 + (1 : Int32)) t0 v4 w) (fun x2 w1 => (if x2 = (-1 : Int32) then some ((-1 : Int32), w1) else (if v6 = 0 then f_X4_readCases_105 rp rc_9 v2 v4 x2 v7 w1 else (if t0 = 0 then f_X4_readCases_106 rp rc_9 v2 v4 x2 v7 (1 : Int32) w1 else f_X4_readCases_105 rp rc_9 v2 v4 x2 v7 w1))))
def f_X4_readCases_66 (rp : Int32 → Int32 → Int32 → Wd → Option (Int32 × Wd)) (rc_9 : Int32 × Int32 × Int32 × Int32 × Int32 × Wd → Option (Int32 × Wd)) (v2 : Int32) (v4 : Int32) (v6 : Int32) (v7 : Int32) (v8 : Int32) (w : Wd) : Option (Int32 × Wd) :=
  f_X4_readCases_67 rp rc_9 v2 v4 v6 v7 v8 (0 : Int32) w
def g_X4_readCases_9 (rp : Int32 → Int32 → Int32 → Wd → Option (Int32 × Wd)) (rc_9 : Int32 × Int32 × Int32 × Int32 × Int32 × Wd → Option (Int32 × Wd)) (v2 : Int32) (v4 : Int32) (v5 : Int32) (v6 : Int32) (v7 : Int32) (w : Wd) : Option (Int32 × Wd) :=
  (if (160 : Int32) < v7 then some ((-1 : Int32), w) else bd (f_X4_keyEnd v5 w) (fun x2 w1 => (if x2 = (-1 : Int32) then some ((-1 : Int32), w1) else bd (f_X7_get 635 x2 w1) (fun x4 w3 => (if x4 = (61 : Int32) then (if v6 = 0 then f_X4_readCases_66 rp rc_9 v2 v4 v6 v7 x2 w3 else bd (f_X4_isFitting v5 v2 w3) (fun x6 w5 => (if x6 = 0 then f_X4_readCases_66 rp rc_9 v2 v4 v6 v7 x2 w5 else f_X4_readCases_67 rp rc_9 v2 v4 v6 v7 x2 (1 : Int32) w5))) else some ((-1 : Int32), w3))))))
def f_X4_readCases_9 (rp : Int32 → Int32 → Int32 → Wd → Option (Int32 × Wd))  (v2 : Int32) (v4 : Int32) (v5 : Int32) (v6 : Int32) (v7 : Int32) (w : Wd) : Option (Int32 × Wd) :=
  loopN (fun rc σ => g_X4_readCases_9 rp rc  σ.1 σ.2.1 σ.2.2.1 σ.2.2.2.1 σ.2.2.2.2.1 σ.2.2.2.2.2) FU (v2, v4, v5, v6, v7, w)
def f_X4_readCases (rp : Int32 → Int32 → Int32 → Wd → Option (Int32 × Wd))  (v1 : Int32) (v2 : Int32) (v3 : Int32) (v4 : Int32) (w : Wd) : Option (Int32 × Wd) :=
  f_X4_readCases_9 rp v2 v4 v1 v3 (0 : Int32) w
/-! LetterTables$MessageReader.readBraces -/
def f_X4_readBraces (rp : Int32 → Int32 → Int32 → Wd → Option (Int32 × Wd))  (v1 : Int32) (v2 : Int32) (v3 : Int32) (w : Wd) : Option (Int32 × Wd) :=
  bd (f_X4_digitAt v1 w) (fun x2 w1 => bd (f_X7_get 635 (v1 + (1 : Int32)) w1) (fun x4 w3 => (if x2 = (-1 : Int32) then some ((-1 : Int32), w3) else (if x4 = (125 : Int32) then bd (f_X7_get 693 x2 w3) (fun x8 w7 => bd (f_X4_putNumber x8 v2 w7) (fun _ w9 => some (v1 + (2 : Int32), w9))) else (if x4 = (58 : Int32) then (if v3 < (6 : Int32) then bd (f_X4_readCases rp (v1 + (2 : Int32)) x2 v2 (v3 + (1 : Int32)) w3) (fun x6 w5 => some (x6, w5)) else some ((-1 : Int32), w3)) else some ((-1 : Int32), w3))))))
/-! LetterTables$MessageReader.readPieces -/
def g_X4_readPieces_6 (rp : Int32 → Int32 → Int32 → Wd → Option (Int32 × Wd)) (rc_6 : Int32 × Int32 × Int32 × Int32 × Wd → Option (Int32 × Wd)) (v2 : Int32) (v3 : Int32) (v4 : Int32) (v5 : Int32) (w : Wd) : Option (Int32 × Wd) :=
  (if (160 : Int32) < v5 then some ((-1 : Int32), w) else bd (f_X7_get 635 v4 w) (fun x2 w1 => (if x2 = (-1 : Int32) then some (v4, w1) else (if x2 = (124 : Int32) then some (v4, w1) else (if x2 = (125 : Int32) then some (v4, w1) else (if x2 = (123 : Int32) then bd (f_X4_readBraces rp (v4 + (1 : Int32)) v2 v3 w1) (fun x9 w8 => (if x9 = (-1 : Int32) then some ((-1 : Int32), w8) else lt (v5 + (1 : Int32)) (fun x10 => rc_6 (v2, v3, x9, x10, w8)))) else bd (f_X10_isWithin x2 (32 : Int32) (126 : Int32) w1) (fun x4 w3 => (if x4 = 0 then some ((-1 : Int32), w3) else bd (f_X4_putByte x2 v2 w3) (fun _ w5 => lt (v4 + (1 : Int32)) (fun x6 => lt (v5 + (1 : Int32)) (fun x7 => rc_6 (v2, v3, x6, x7, w5))))))))))))
def f_X4_readPieces_6 (rp : Int32 → Int32 → Int32 → Wd → Option (Int32 × Wd))  (v2 : Int32) (v3 : Int32) (v4 : Int32) (v5 : Int32) (w : Wd) : Option (Int32 × Wd) :=
  loopN (fun rc σ => g_X4_readPieces_6 rp rc  σ.1 σ.2.1 σ.2.2.1 σ.2.2.2.1 σ.2.2.2.2) FU (v2, v3, v4, v5, w)
def f_X4_readPieces (rp : Int32 → Int32 → Int32 → Wd → Option (Int32 × Wd))  (v1 : Int32) (v2 : Int32) (v3 : Int32) (w : Wd) : Option (Int32 × Wd) :=
  f_X4_readPieces_6 rp v2 v3 v1 (0 : Int32) w
def fr_X4_readPieces (a b d : Int32) (w : Wd) : Option (Int32 × Wd) :=
  loopN (fun rc σ => f_X4_readPieces (fun a b d w => rc (a, b, d, w)) σ.1 σ.2.1 σ.2.2.1 σ.2.2.2) 9 (a, b, d, w)
/-! LetterTables$MessageReader.readAll -/
def f_X4_readAll   (w : Wd) : Option (Int32 × Wd) :=
  bd (fr_X4_readPieces (0 : Int32) (1 : Int32) (0 : Int32) w) (fun x2 w1 => bd (f_X7_size 635 w1) (fun x4 w3 => (if x2 = x4 then some ((1 : Int32), w3) else some ((0 : Int32), w3))))
/-! LetterTables$MessageReader.result -/
def f_X4_result   (w : Wd) : Option (Nat × Wd) :=
  some (697, w)
/-! LetterTables.message -/
def f_X10_message_42  (v2 : Int32) (v3 : Int32) (v4 : Int32) (v5 : Int32) (v6 : Nat) (t0 : Int32) (w : Wd) : Option ((Nat ⊕ Int32) × Wd) :=
  bdx (f_X10_checkArgument t0 w) (fun _ w1 => bd (f_X4_begin w1) (fun _ w2 => bd (f_X2_classFor v6 v2 w2) (fun x4 w3 => bd (f_X4_tellNumber v2 x4 w3) (fun _ w5 => bd (f_X2_classFor v6 v3 w5) (fun x7 w6 => bd (f_X4_tellNumber v3 x7 w6) (fun _ w8 => bd (f_X2_classFor v6 v4 w8) (fun x10 w9 => bd (f_X4_tellNumber v4 x10 w9) (fun _ w11 => bd (f_X2_classFor v6 v5 w11) (fun x13 w12 => bd (f_X4_tellNumber v5 x13 w12) (fun _ w14 => bd (f_X4_readAll w14) (fun x16 w15 => bd (f_X7_cutTo 635 (0 : Int32) w15) (fun _ w17 => (if x16 = 0 then some (.inl 3, w17) else bd (f_X4_result w17) (fun r19 w18 => bd (f_X7_takeOver 637 r19 w18) (fun _ w20 => bd (f_X7_size 637 w20) (fun x22 w21 => some (.inr x22, w21)))))))))))))))))
def f_X10_message_41  (v2 : Int32) (v3 : Int32) (v4 : Int32) (v5 : Int32) (v6 : Nat) (w : Wd) : Option ((Nat ⊕ Int32) × Wd) :=
  f_X10_message_42 v2 v3 v4 v5 v6 (0 : Int32) w
def f_X10_message  (v1 : Int32) (v2 : Int32) (v3 : Int32) (v4 : Int32) (v5 : Int32) (w : Wd) : Option ((Nat ⊕ Int32) × Wd) :=
  bdx (f_X10_languageOf v1 w) (fun r2 w1 => bd (f_X10_isNumber v2 w1) (fun x4 w3 => (if x4 = 0 then f_X10_message_41 v2 v3 v4 v5 r2 w3 else bd (f_X10_isNumber v3 w3) (fun x6 w5 => (if x6 = 0 then f_X10_message_41 v2 v3 v4 v5 r2 w5 else bd (f_X10_isNumber v4 w5) (fun x8 w7 => (if x8 = 0 then f_X10_message_41 v2 v3 v4 v5 r2 w7 else bd (f_X10_isNumber v5 w7) (fun x10 w9 => (if x10 = 0 then f_X10_message_41 v2 v3 v4 v5 r2 w9 else f_X10_message_42 v2 v3 v4 v5 r2 (1 : Int32) w9)))))))))
/-! LetterTables.word -/
def f_X10_word_78 (rc_6 : Int32 × Int64 × Int32 × Wd → Option (Int64 × Wd)) (v1 : Int32) (v4 : Int32) (t0 : Int64) (t1 : Int32) (w : Wd) : Option (Int64 × Wd) :=
  lt (t0 ||| t1.toInt64) (fun y1 => lt (v4 + (-1 : Int32)) (fun x2 => rc_6 (v1, y1, x2, w)))
def f_X10_word_49 (rc_6 : Int32 × Int64 × Int32 × Wd → Option (Int64 × Wd)) (v1 : Int32) (v2 : Int64) (v4 : Int32) (v5 : Int64) (t0 : Int32) (w : Wd) : Option (Int64 × Wd) :=
  (if t0 = 0 then f_X10_word_78 rc_6 v1 v4 (v2 <<< ((8 : Int32).toInt64 &&& 63)) (0 : Int32) w else bd (f_X7_get 637 v5.toInt32 w) (fun x2 w1 => f_X10_word_78 rc_6 v1 v4 (v2 <<< ((8 : Int32).toInt64 &&& 63)) (x2 &&& (255 : Int32)) w1))
def f_X10_word_48 (rc_6 : Int32 × Int64 × Int32 × Wd → Option (Int64 × Wd)) (v1 : Int32) (v2 : Int64) (v4 : Int32) (v5 : Int64) (w : Wd) : Option (Int64 × Wd) :=
  f_X10_word_49 rc_6 v1 v2 v4 v5 (0 : Int32) w
def g_X10_word_6 (rc_6 : Int32 × Int64 × Int32 × Wd → Option (Int64 × Wd)) (v1 : Int32) (v2 : Int64) (v4 : Int32) (w : Wd) : Option (Int64 × Wd) :=
  (if v4 < 0 then some (v2, w) else lt (((8 : Int64) * v1.toInt64) + v4.toInt64) (fun y1 => (if (lg_cmp y1 (0 : Int64)) < 0 then f_X10_word_48 rc_6 v1 v2 v4 y1 w else bd (f_X7_size 637 w) (fun x3 w2 => (if 0 ≤ (lg_cmp y1 x3.toInt64) then f_X10_word_48 rc_6 v1 v2 v4 y1 w2 else f_X10_word_49 rc_6 v1 v2 v4 y1 (1 : Int32) w2)))))
def f_X10_word_6  (v1 : Int32) (v2 : Int64) (v4 : Int32) (w : Wd) : Option (Int64 × Wd) :=
  loopN (fun rc σ => g_X10_word_6 rc  σ.1 σ.2.1 σ.2.2.1 σ.2.2.2) FU (v1, v2, v4, w)
def f_X10_word  (v1 : Int32) (w : Wd) : Option (Int64 × Wd) :=
  f_X10_word_6 v1 (0 : Int64) (7 : Int32) w
/-! LetterTables.encode -/
def f_X10_encode_120   (w : Wd) : Option ((Nat ⊕ Int32) × Wd) :=
  bd (f_X7_size 637 w) (fun x2 w1 => some (.inr x2, w1))
def f_X10_encode_80 (rc_19 : Nat × Int32 × Int32 × Wd → Option ((Nat ⊕ Int32) × Wd)) (v2 : Nat) (v3 : Int32) (v4 : Int32) (v5 : Int32) (v6 : Int32) (w : Wd) : Option ((Nat ⊕ Int32) × Wd) :=
  bd (f_X7_add 637 (((32 : Int32) + v5) - (v6 * (64 : Int32))) w) (fun x2 w1 => lt (v4 + (1 : Int32)) (fun x3 => rc_19 (v2, v3, x3, w1)))
def f_X10_encode_73 (rc_19 : Nat × Int32 × Int32 × Wd → Option ((Nat ⊕ Int32) × Wd)) (v2 : Nat) (v4 : Int32) (v5 : Int32) (v6 : Int32) (t0 : Nat) (t1 : Int32) (w : Wd) : Option ((Nat ⊕ Int32) × Wd) :=
  bd (f_X7_add t0 t1 w) (fun x2 w1 => f_X10_encode_80 rc_19 v2 v6 v4 v5 v6 w1)
def f_X10_encode_48 (rc_19 : Nat × Int32 × Int32 × Wd → Option ((Nat ⊕ Int32) × Wd)) (v2 : Nat) (v3 : Int32) (v4 : Int32) (v5 : Int32) (t0 : Int32) (w : Wd) : Option ((Nat ⊕ Int32) × Wd) :=
  (if t0 = v3 then f_X10_encode_80 rc_19 v2 v3 v4 v5 t0 w else (if t0 = (1 : Int32) then f_X10_encode_73 rc_19 v2 v4 v5 t0 637 (14 : Int32) w else f_X10_encode_73 rc_19 v2 v4 v5 t0 637 (15 : Int32) w))
def g_X10_encode_19 (rc_19 : Nat × Int32 × Int32 × Wd → Option ((Nat ⊕ Int32) × Wd)) (v2 : Nat) (v3 : Int32) (v4 : Int32) (w : Wd) : Option ((Nat ⊕ Int32) × Wd) :=
  bd (f_X7_size v2 w) (fun x2 w1 => (if x2 ≤ v4 then (if v3 = (1 : Int32) then bd (f_X7_add 637 (15 : Int32) w1) (fun x4 w3 => f_X10_encode_120 w3) else f_X10_encode_120 w1) else bd (f_X7_get v2 v4 w1) (fun x6 w5 => (if (64 : Int32) ≤ x6 then f_X10_encode_48 rc_19 v2 v3 v4 x6 (1 : Int32) w5 else f_X10_encode_48 rc_19 v2 v3 v4 x6 (0 : Int32) w5))))
def f_X10_encode_19  (v2 : Nat) (v3 : Int32) (v4 : Int32) (w : Wd) : Option ((Nat ⊕ Int32) × Wd) :=
  loopN (fun rc σ => g_X10_encode_19 rc  σ.1 σ.2.1 σ.2.2.1 σ.2.2.2) FU (v2, v3, v4, w)
def f_X10_encode  (v1 : Int32) (w : Wd) : Option ((Nat ⊕ Int32) × Wd) :=
  bdx (f_X10_textOf v1 w) (fun r2 w1 => bd (f_X7_cutTo 637 (0 : Int32) w1) (fun _ w3 => f_X10_encode_19 r2 (0 : Int32) (0 : Int32) w3))
/-! LetterTables.decodeInto -/
def f_X10_decodeInto_49 (rc_12 : Nat × Int32 × Int32 × Int32 × Wd → Option (Int32 × Wd)) (v1 : Nat) (v2 : Int32) (v4 : Int32) (v5 : Int32) (w : Wd) : Option (Int32 × Wd) :=
  (if v5 = (14 : Int32) then lt (v4 + (1 : Int32)) (fun x2 => rc_12 (v1, v2, (1 : Int32), x2, w)) else lt (v4 + (1 : Int32)) (fun x1 => rc_12 (v1, v2, (0 : Int32), x1, w)))
def f_X10_decodeInto_132 (rc_12 : Nat × Int32 × Int32 × Int32 × Wd → Option (Int32 × Wd)) (v1 : Nat) (v2 : Int32) (v3 : Int32) (v4 : Int32) (t0 : Nat) (t1 : Int32) (w : Wd) : Option (Int32 × Wd) :=
  bd (f_X7_add t0 t1 w) (fun x2 w1 => (if x2 = 0 then some ((-1 : Int32), w1) else lt (v4 + (1 : Int32)) (fun x3 => rc_12 (v1, v2, v3, x3, w1))))
def f_X10_decodeInto_118 (rc_12 : Nat × Int32 × Int32 × Int32 × Wd → Option (Int32 × Wd)) (v1 : Nat) (v3 : Int32) (v4 : Int32) (v6 : Int32) (v7 : Int32) (t0 : Int32) (t1 : Int32) (w : Wd) : Option (Int32 × Wd) :=
  lt (t0 + t1) (fun x1 => (if v7 = 0 then f_X10_decodeInto_132 rc_12 v1 x1 v3 v4 v1 (0 : Int32) w else f_X10_decodeInto_132 rc_12 v1 x1 v3 v4 v1 v6 w))
def f_X10_decodeInto_105 (rc_12 : Nat × Int32 × Int32 × Int32 × Wd → Option (Int32 × Wd)) (v1 : Nat) (v2 : Int32) (v3 : Int32) (v4 : Int32) (v6 : Int32) (t0 : Int32) (w : Wd) : Option (Int32 × Wd) :=
  (if t0 = 0 then f_X10_decodeInto_118 rc_12 v1 v3 v4 v6 t0 v2 (1 : Int32) w else f_X10_decodeInto_118 rc_12 v1 v3 v4 v6 t0 v2 (0 : Int32) w)
def f_X10_decodeInto_104 (rc_12 : Nat × Int32 × Int32 × Int32 × Wd → Option (Int32 × Wd)) (v1 : Nat) (v2 : Int32) (v3 : Int32) (v4 : Int32) (v6 : Int32) (w : Wd) : Option (Int32 × Wd) :=
  f_X10_decodeInto_105 rc_12 v1 v2 v3 v4 v6 (0 : Int32) w
def f_X10_decodeInto_97 (rc_12 : Nat × Int32 × Int32 × Int32 × Wd → Option (Int32 × Wd)) (v1 : Nat) (v2 : Int32) (v3 : Int32) (v4 : Int32) (v6 : Int32) (t0 : Int32) (t1 : Int32) (w : Wd) : Option (Int32 × Wd) :=
  (if t1 ≤ t0 then f_X10_decodeInto_104 rc_12 v1 v2 v3 v4 v6 w else f_X10_decodeInto_105 rc_12 v1 v2 v3 v4 v6 (1 : Int32) w)
def g_X10_decodeInto_12 (rc_12 : Nat × Int32 × Int32 × Int32 × Wd → Option (Int32 × Wd)) (v1 : Nat) (v2 : Int32) (v3 : Int32) (v4 : Int32) (w : Wd) : Option (Int32 × Wd) :=
  bd (f_X7_size 635 w) (fun x2 w1 => (if x2 ≤ v4 then some (v2 + v3, w1) else bd (f_X7_get 635 v4 w1) (fun x4 w3 => (if x4 = (14 : Int32) then f_X10_decodeInto_49 rc_12 v1 v2 v4 x4 w3 else (if x4 = (15 : Int32) then f_X10_decodeInto_49 rc_12 v1 v2 v4 x4 w3 else lt ((x4 - (32 : Int32)) + (v3 * (64 : Int32))) (fun x5 => (if x4 < (32 : Int32) then f_X10_decodeInto_104 rc_12 v1 v2 v3 v4 x5 w3 else (if v3 = 0 then f_X10_decodeInto_97 rc_12 v1 v2 v3 v4 x5 x5 (64 : Int32) w3 else f_X10_decodeInto_97 rc_12 v1 v2 v3 v4 x5 x5 (96 : Int32) w3))))))))
def f_X10_decodeInto_12  (v1 : Nat) (v2 : Int32) (v3 : Int32) (v4 : Int32) (w : Wd) : Option (Int32 × Wd) :=
  loopN (fun rc σ => g_X10_decodeInto_12 rc  σ.1 σ.2.1 σ.2.2.1 σ.2.2.2.1 σ.2.2.2.2) FU (v1, v2, v3, v4, w)
def f_X10_decodeInto  (v1 : Nat) (w : Wd) : Option (Int32 × Wd) :=
  bd (f_X7_cutTo v1 (0 : Int32) w) (fun _ w1 => f_X10_decodeInto_12 v1 (0 : Int32) (0 : Int32) (0 : Int32) w1)
/-! LetterTables.decode -/
def f_X10_decode  (v1 : Int32) (w : Wd) : Option ((Nat ⊕ Int32) × Wd) :=
  bdx (f_X10_textOf v1 w) (fun r2 w1 => bd (f_X10_decodeInto 709 w1) (fun x4 w3 => bd (f_X7_cutTo 635 (0 : Int32) w3) (fun _ w5 => (if x4 = (-1 : Int32) then some (.inl 3, w5) else bd (f_X7_takeOver r2 709 w5) (fun _ w6 => some (.inr x4, w6))))))
