/-! LetterTablesModel.settlesOthers -/
def g_X11_settlesOthers_104 (rc_104 : Int32 × Int32 × Int32 × Int32 × Int32 × Int32 × Wd → Option (Unit × Wd)) (rc_2 : Int32 × Int32 × Int32 × Wd → Option (Unit × Wd)) (v1 : Int32) (v2 : Int32) (v3 : Int32) (v4 : Int32) (v5 : Int32) (v6 : Int32) (w : Wd) : Option (Unit × Wd) :=
  (if v4 ≤ v3 then rc_2 (v1, v2, v3, w) else ald w 731 v3 (fun x1 => (if v5 = v6 then ast w 724 x1 v5 (fun w4 => lt (v3 + (1 : Int32)) (fun x5 => rc_104 (v1, v2, x5, v4, v5, v6, w4))) else ast w 724 x1 v2 (fun w2 => lt (v3 + (1 : Int32)) (fun x3 => rc_104 (v1, v2, x3, v4, v5, v6, w2))))))
def f_X11_settlesOthers_104 (rc_2 : Int32 × Int32 × Int32 × Wd → Option (Unit × Wd)) (v1 : Int32) (v2 : Int32) (v3 : Int32) (v4 : Int32) (v5 : Int32) (v6 : Int32) (w : Wd) : Option (Unit × Wd) :=
  loopN (fun rc σ => g_X11_settlesOthers_104 rc rc_2 σ.1 σ.2.1 σ.2.2.1 σ.2.2.2.1 σ.2.2.2.2.1 σ.2.2.2.2.2.1 σ.2.2.2.2.2.2) FU (v1, v2, v3, v4, v5, v6, w)
def f_X11_settlesOthers_102 (rc_2 : Int32 × Int32 × Int32 × Wd → Option (Unit × Wd)) (v1 : Int32) (v2 : Int32) (v3 : Int32) (v4 : Int32) (v5 : Int32) (t0 : Int32) (w : Wd) : Option (Unit × Wd) :=
  f_X11_settlesOthers_104 rc_2 v1 v2 v3 v4 v5 t0 w
def f_X11_settlesOthers_79 (rc_2 : Int32 × Int32 × Int32 × Wd → Option (Unit × Wd)) (v1 : Int32) (v2 : Int32) (v3 : Int32) (v4 : Int32) (t0 : Int32) (w : Wd) : Option (Unit × Wd) :=
  (if v4 = v1 then f_X11_settlesOthers_102 rc_2 v1 v2 v3 v4 t0 v2 w else ald w 731 v4 (fun x1 => bd (f_X11_goes x1 w) (fun x3 w2 => f_X11_settlesOthers_102 rc_2 v1 v2 v3 v4 t0 x3 w2)))
def f_X11_settlesOthers_59 (rc_2 : Int32 × Int32 × Int32 × Wd → Option (Unit × Wd)) (v1 : Int32) (v2 : Int32) (v3 : Int32) (v4 : Int32) (w : Wd) : Option (Unit × Wd) :=
  (if v3 = 0 then f_X11_settlesOthers_79 rc_2 v1 v2 v3 v4 v2 w else ald w 731 (v3 - (1 : Int32)) (fun x1 => bd (f_X11_goes x1 w) (fun x3 w2 => f_X11_settlesOthers_79 rc_2 v1 v2 v3 v4 x3 w2)))
def g_X11_settlesOthers_31 (rc_31 : Int32 × Int32 × Int32 × Int32 × Wd → Option (Unit × Wd)) (rc_2 : Int32 × Int32 × Int32 × Wd → Option (Unit × Wd)) (v1 : Int32) (v2 : Int32) (v3 : Int32) (v4 : Int32) (w : Wd) : Option (Unit × Wd) :=
  (if v1 ≤ v4 then f_X11_settlesOthers_59 rc_2 v1 v2 v3 v4 w else ald w 731 v4 (fun x1 => ald w 724 x1 (fun x2 => (if x2 = (3 : Int32) then lt (v4 + (1 : Int32)) (fun x3 => rc_31 (v1, v2, v3, x3, w)) else f_X11_settlesOthers_59 rc_2 v1 v2 v3 v4 w))))
def f_X11_settlesOthers_31 (rc_2 : Int32 × Int32 × Int32 × Wd → Option (Unit × Wd)) (v1 : Int32) (v2 : Int32) (v3 : Int32) (v4 : Int32) (w : Wd) : Option (Unit × Wd) :=
  loopN (fun rc σ => g_X11_settlesOthers_31 rc rc_2 σ.1 σ.2.1 σ.2.2.1 σ.2.2.2.1 σ.2.2.2.2) FU (v1, v2, v3, v4, w)
def g_X11_settlesOthers_2 (rc_2 : Int32 × Int32 × Int32 × Wd → Option (Unit × Wd)) (v1 : Int32) (v2 : Int32) (v3 : Int32) (w : Wd) : Option (Unit × Wd) :=
  (if v1 ≤ v3 then some ((), w) else ald w 731 v3 (fun x1 => ald w 724 x1 (fun x2 => (if x2 = (3 : Int32) then f_X11_settlesOthers_31 rc_2 v1 v2 v3 v3 w else lt (v3 + (1 : Int32)) (fun x3 => rc_2 (v1, v2, x3, w))))))
def f_X11_settlesOthers_2  (v1 : Int32) (v2 : Int32) (v3 : Int32) (w : Wd) : Option (Unit × Wd) :=
  loopN (fun rc σ => g_X11_settlesOthers_2 rc  σ.1 σ.2.1 σ.2.2.1 σ.2.2.2) FU (v1, v2, v3, w)
def f_X11_settlesOthers  (v1 : Int32) (v2 : Int32) (w : Wd) : Option (Unit × Wd) :=
  f_X11_settlesOthers_2 v1 v2 (0 : Int32) w
/-! LetterTablesModel.laysLevels -/
def f_X11_laysLevels_198 (rc_141 : Int32 × Int32 × Int32 × Int32 × Int32 × Wd → Option (Unit × Wd)) (v1 : Int32) (v3 : Int32) (v4 : Int32) (v5 : Int32) (v6 : Int32) (t0 : Nat) (t1 : Int32) (t2 : Int32) (t3 : Int32) (w : Wd) : Option (Unit × Wd) :=
  ast w t0 t1 (t2 + t3) (fun w1 => lt (v6 + (1 : Int32)) (fun x2 => rc_141 (v1, v3, v4, v5, x2, w1)))
def g_X11_laysLevels_141 (rc_141 : Int32 × Int32 × Int32 × Int32 × Int32 × Wd → Option (Unit × Wd)) (rc_33 : Int32 × Int32 × Wd → Option (Unit × Wd)) (v1 : Int32) (v3 : Int32) (v4 : Int32) (v5 : Int32) (v6 : Int32) (w : Wd) : Option (Unit × Wd) :=
  (if v4 ≤ v6 then lt (v3 + (1 : Int32)) (fun x1 => rc_33 (v1, x1, w)) else ald w 731 v6 (fun x2 => ald w 724 x2 (fun x3 => ald w 731 v6 (fun x4 => (if (v5 - v5 / (2 : Int32) * (2 : Int32)) = 0 then f_X11_laysLevels_198 rc_141 v1 v3 v4 v5 v6 722 x4 v5 x3 w else (if x3 = (1 : Int32) then f_X11_laysLevels_198 rc_141 v1 v3 v4 v5 v6 722 x4 v5 (0 : Int32) w else f_X11_laysLevels_198 rc_141 v1 v3 v4 v5 v6 722 x4 v5 (1 : Int32) w))))))
def f_X11_laysLevels_141 (rc_33 : Int32 × Int32 × Wd → Option (Unit × Wd)) (v1 : Int32) (v3 : Int32) (v4 : Int32) (v5 : Int32) (v6 : Int32) (w : Wd) : Option (Unit × Wd) :=
  loopN (fun rc σ => g_X11_laysLevels_141 rc rc_33 σ.1 σ.2.1 σ.2.2.1 σ.2.2.2.1 σ.2.2.2.2.1 σ.2.2.2.2.2) FU (v1, v3, v4, v5, v6, w)
def f_X11_laysLevels_93 (rc_55 : Int32 × Int32 × Int32 × Int32 × Int32 × Wd → Option (Unit × Wd)) (v1 : Int32) (v3 : Int32) (v5 : Int32) (v6 : Int32) (t0 : Int32) (t1 : Int32) (w : Wd) : Option (Unit × Wd) :=
  lt (t0 + t1) (fun x1 => lt (v6 + (1 : Int32)) (fun x2 => rc_55 (v1, v3, x1, v5, x2, w)))
def g_X11_laysLevels_55 (rc_55 : Int32 × Int32 × Int32 × Int32 × Int32 × Wd → Option (Unit × Wd)) (rc_33 : Int32 × Int32 × Wd → Option (Unit × Wd)) (v1 : Int32) (v3 : Int32) (v4 : Int32) (v5 : Int32) (v6 : Int32) (w : Wd) : Option (Unit × Wd) :=
  ald w 717 v1 (fun x1 => (if x1 ≤ v6 then bd (f_X11_laysNumbers v1 v4 v5 w) (fun _ w2 => bd (f_X11_laysPartners v1 v4 w2) (fun _ w3 => bd (f_X11_settlesPartners v4 (v5 - v5 / (2 : Int32) * (2 : Int32)) w3) (fun _ w4 => bd (f_X11_settlesOthers v4 (v5 - v5 / (2 : Int32) * (2 : Int32)) w4) (fun _ w5 => f_X11_laysLevels_141 rc_33 v1 v3 v4 v5 (0 : Int32) w5)))) else ast w 731 v4 v6 (fun w6 => ald w6 723 v6 (fun x7 => (if x7 = v3 then f_X11_laysLevels_93 rc_55 v1 v3 v5 v6 v4 (1 : Int32) w6 else f_X11_laysLevels_93 rc_55 v1 v3 v5 v6 v4 (0 : Int32) w6)))))
def f_X11_laysLevels_55 (rc_33 : Int32 × Int32 × Wd → Option (Unit × Wd)) (v1 : Int32) (v3 : Int32) (v4 : Int32) (v5 : Int32) (v6 : Int32) (w : Wd) : Option (Unit × Wd) :=
  loopN (fun rc σ => g_X11_laysLevels_55 rc rc_33 σ.1 σ.2.1 σ.2.2.1 σ.2.2.2.1 σ.2.2.2.2.1 σ.2.2.2.2.2) FU (v1, v3, v4, v5, v6, w)
def g_X11_laysLevels_33 (rc_33 : Int32 × Int32 × Wd → Option (Unit × Wd)) (v1 : Int32) (v3 : Int32) (w : Wd) : Option (Unit × Wd) :=
  (if (w.1 713 21) ≤ v3 then some ((), w) else ald w 728 v3 (fun x1 => f_X11_laysLevels_55 rc_33 v1 v3 (0 : Int32) x1 (0 : Int32) w))
def f_X11_laysLevels_33  (v1 : Int32) (v3 : Int32) (w : Wd) : Option (Unit × Wd) :=
  loopN (fun rc σ => g_X11_laysLevels_33 rc  σ.1 σ.2.1 σ.2.2) FU (v1, v3, w)
def f_X11_laysLevels_28  (v1 : Int32) (t1 : Int32) (t2 : Int32) (w : Wd) : Option (Unit × Wd) :=
  bd (f_X11_laysFrames t1 t2 w) (fun _ w1 => f_X11_laysLevels_33 v1 (0 : Int32) w1)
def f_X11_laysLevels  (v1 : Int32) (v2 : Int32) (w : Wd) : Option (Unit × Wd) :=
  bd (f_X11_closesIsolates v1 w) (fun _ w1 => (if v2 = (-1 : Int32) then ald w1 717 v1 (fun x2 => bd (f_X11_baseOf v1 (0 : Int32) x2 w1) (fun x4 w3 => f_X11_laysLevels_28 v1 v1 x4 w3)) else f_X11_laysLevels_28 v1 v1 v2 w1))
/-! LetterTablesModel.laysOrder -/
def g_X11_laysOrder_92 (rc_92 : Int32 × Int32 × Int32 × Int32 × Int32 × Wd → Option (Unit × Wd)) (rc_41 : Int32 × Int32 × Int32 × Wd → Option (Unit × Wd)) (v1 : Int32) (v3 : Int32) (v4 : Int32) (v5 : Int32) (v6 : Int32) (w : Wd) : Option (Unit × Wd) :=
  (if ((v5 - v4) / (2 : Int32)) ≤ v6 then lt (v5 + (1 : Int32)) (fun x1 => rc_41 (v1, v3, x1, w)) else ald w 732 (v4 + v6) (fun x2 => ald w 732 ((v5 - (1 : Int32)) - v6) (fun x3 => ast w 732 (v4 + v6) x3 (fun w4 => ast w4 732 ((v5 - (1 : Int32)) - v6) x2 (fun w5 => lt (v6 + (1 : Int32)) (fun x6 => rc_92 (v1, v3, v4, v5, x6, w5)))))))
def f_X11_laysOrder_92 (rc_41 : Int32 × Int32 × Int32 × Wd → Option (Unit × Wd)) (v1 : Int32) (v3 : Int32) (v4 : Int32) (v5 : Int32) (v6 : Int32) (w : Wd) : Option (Unit × Wd) :=
  loopN (fun rc σ => g_X11_laysOrder_92 rc rc_41 σ.1 σ.2.1 σ.2.2.1 σ.2.2.2.1 σ.2.2.2.2.1 σ.2.2.2.2.2) FU (v1, v3, v4, v5, v6, w)
def f_X11_laysOrder_89 (rc_41 : Int32 × Int32 × Int32 × Wd → Option (Unit × Wd)) (v1 : Int32) (v3 : Int32) (v4 : Int32) (v5 : Int32) (w : Wd) : Option (Unit × Wd) :=
  f_X11_laysOrder_92 rc_41 v1 v3 v4 v5 (0 : Int32) w
def g_X11_laysOrder_56 (rc_56 : Int32 × Int32 × Int32 × Int32 × Wd → Option (Unit × Wd)) (rc_41 : Int32 × Int32 × Int32 × Wd → Option (Unit × Wd)) (v1 : Int32) (v3 : Int32) (v4 : Int32) (v5 : Int32) (w : Wd) : Option (Unit × Wd) :=
  ald w 717 v1 (fun x1 => (if x1 ≤ v5 then f_X11_laysOrder_89 rc_41 v1 v3 v4 v5 w else ald w 732 v5 (fun x2 => ald w 722 x2 (fun x3 => (if x3 < v3 then f_X11_laysOrder_89 rc_41 v1 v3 v4 v5 w else lt (v5 + (1 : Int32)) (fun x4 => rc_56 (v1, v3, v4, x4, w)))))))
def f_X11_laysOrder_56 (rc_41 : Int32 × Int32 × Int32 × Wd → Option (Unit × Wd)) (v1 : Int32) (v3 : Int32) (v4 : Int32) (v5 : Int32) (w : Wd) : Option (Unit × Wd) :=
  loopN (fun rc σ => g_X11_laysOrder_56 rc rc_41 σ.1 σ.2.1 σ.2.2.1 σ.2.2.2.1 σ.2.2.2.2) FU (v1, v3, v4, v5, w)
def g_X11_laysOrder_41 (rc_41 : Int32 × Int32 × Int32 × Wd → Option (Unit × Wd)) (rc_34 : Int32 × Int32 × Wd → Option (Unit × Wd)) (v1 : Int32) (v3 : Int32) (v4 : Int32) (w : Wd) : Option (Unit × Wd) :=
  ald w 717 v1 (fun x1 => (if x1 ≤ v4 then lt (v3 + (-1 : Int32)) (fun x2 => rc_34 (v1, x2, w)) else f_X11_laysOrder_56 rc_41 v1 v3 v4 v4 w))
def f_X11_laysOrder_41 (rc_34 : Int32 × Int32 × Wd → Option (Unit × Wd)) (v1 : Int32) (v3 : Int32) (v4 : Int32) (w : Wd) : Option (Unit × Wd) :=
  loopN (fun rc σ => g_X11_laysOrder_41 rc rc_34 σ.1 σ.2.1 σ.2.2.1 σ.2.2.2) FU (v1, v3, v4, w)
def g_X11_laysOrder_34 (rc_34 : Int32 × Int32 × Wd → Option (Unit × Wd)) (v1 : Int32) (v3 : Int32) (w : Wd) : Option (Unit × Wd) :=
  (if v3 ≤ 0 then some ((), w) else f_X11_laysOrder_41 rc_34 v1 v3 (0 : Int32) w)
def f_X11_laysOrder_34  (v1 : Int32) (v3 : Int32) (w : Wd) : Option (Unit × Wd) :=
  loopN (fun rc σ => g_X11_laysOrder_34 rc  σ.1 σ.2.1 σ.2.2) FU (v1, v3, w)
def g_X11_laysOrder_8 (rc_8 : Int32 × Int32 × Wd → Option (Unit × Wd)) (v1 : Int32) (v3 : Int32) (w : Wd) : Option (Unit × Wd) :=
  ald w 717 v1 (fun x1 => (if x1 ≤ v3 then f_X11_laysOrder_34 v1 (13 : Int32) w else ast w 732 v3 v3 (fun w2 => lt (v3 + (1 : Int32)) (fun x3 => rc_8 (v1, x3, w2)))))
def f_X11_laysOrder_8  (v1 : Int32) (v3 : Int32) (w : Wd) : Option (Unit × Wd) :=
  loopN (fun rc σ => g_X11_laysOrder_8 rc  σ.1 σ.2.1 σ.2.2) FU (v1, v3, w)
def f_X11_laysOrder  (v1 : Int32) (v2 : Int32) (w : Wd) : Option (Unit × Wd) :=
  bd (f_X11_laysLevels v1 v2 w) (fun _ w1 => f_X11_laysOrder_8 v1 (0 : Int32) w1)
/-! LetterTablesModel.base -/
def f_X11_base_13  (v1 : Int32) (t1 : Int32) (w : Wd) : Option (Int32 × Wd) :=
  bd (f_X11_holds t1 w) (fun x2 w1 => (if x2 = 0 then some ((0 : Int32), w1) else bd (f_X11_closesIsolates v1 w1) (fun _ w3 => ald w3 717 v1 (fun x4 => bd (f_X11_baseOf v1 (0 : Int32) x4 w3) (fun x6 w5 => some (x6, w5))))))
def f_X11_base  (v1 : Int32) (w : Wd) : Option (Int32 × Wd) :=
  bd (f_X11_isSlot v1 w) (fun x2 w1 => (if x2 = 0 then f_X11_base_13 v1 (1 : Int32) w1 else f_X11_base_13 v1 (0 : Int32) w1))
/-! LetterTablesModel.isPlace -/
def f_X11_isPlace  (v1 : Int32) (v2 : Int32) (w : Wd) : Option (Int32 × Wd) :=
  bd (f_X11_isSlot v1 w) (fun x2 w1 => (if x2 = 0 then some ((0 : Int32), w1) else ald w1 717 v1 (fun x3 => bd (f_X11_in v2 (0 : Int32) (x3 - (1 : Int32)) w1) (fun x5 w4 => (if x5 = 0 then some ((0 : Int32), w4) else some ((1 : Int32), w4))))))
/-! LetterTablesModel.level -/
def f_X11_level_28  (v1 : Int32) (v2 : Int32) (v3 : Int32) (t1 : Int32) (w : Wd) : Option (Int32 × Wd) :=
  bd (f_X11_holds t1 w) (fun x2 w1 => (if x2 = 0 then some ((0 : Int32), w1) else bd (f_X11_laysLevels v1 v3 w1) (fun _ w3 => ald w3 722 v2 (fun x4 => some (x4, w3)))))
def f_X11_level  (v1 : Int32) (v2 : Int32) (v3 : Int32) (w : Wd) : Option (Int32 × Wd) :=
  bd (f_X11_isPlace v1 v2 w) (fun x2 w1 => (if x2 = 0 then f_X11_level_28 v1 v2 v3 (1 : Int32) w1 else bd (f_X11_in v3 (-1 : Int32) (1 : Int32) w1) (fun x4 w3 => (if x4 = 0 then f_X11_level_28 v1 v2 v3 (2 : Int32) w3 else f_X11_level_28 v1 v2 v3 (0 : Int32) w3))))
/-! LetterTablesModel.shown -/
def f_X11_shown_28  (v1 : Int32) (v2 : Int32) (v3 : Int32) (t1 : Int32) (w : Wd) : Option (Int32 × Wd) :=
  bd (f_X11_holds t1 w) (fun x2 w1 => (if x2 = 0 then some ((0 : Int32), w1) else bd (f_X11_laysOrder v1 v3 w1) (fun _ w3 => ald w3 732 v2 (fun x4 => some (x4, w3)))))
def f_X11_shown  (v1 : Int32) (v2 : Int32) (v3 : Int32) (w : Wd) : Option (Int32 × Wd) :=
  bd (f_X11_isPlace v1 v2 w) (fun x2 w1 => (if x2 = 0 then f_X11_shown_28 v1 v2 v3 (1 : Int32) w1 else bd (f_X11_in v3 (-1 : Int32) (1 : Int32) w1) (fun x4 w3 => (if x4 = 0 then f_X11_shown_28 v1 v2 v3 (2 : Int32) w3 else f_X11_shown_28 v1 v2 v3 (0 : Int32) w3))))
/-! LetterTablesModel.kindAt -/
def f_X11_kindAt  (v1 : Int32) (v2 : Int32) (w : Wd) : Option (Int32 × Wd) :=
  bd (f_X11_letterAt v1 v2 w) (fun x2 w1 => bd (f_X11_of x2 (2 : Int32) w1) (fun x4 w3 => some (x4, w3)))
/-! LetterTablesModel.isCluster -/
def f_X11_isCluster  (v1 : Int32) (v2 : Int32) (w : Wd) : Option (Int32 × Wd) :=
  (if v2 = 0 then some ((1 : Int32), w) else bd (f_X11_kindAt v1 v2 w) (fun x2 w1 => (if x2 = (2 : Int32) then some ((0 : Int32), w1) else bd (f_X11_kindAt v1 (v2 - (1 : Int32)) w1) (fun x4 w3 => (if x4 = (5 : Int32) then some ((0 : Int32), w3) else some ((1 : Int32), w3))))))
/-! LetterTablesModel.bySight -/
def f_X11_bySight_112  (v1 : Int32) (v4 : Int32) (w : Wd) : Option (Int32 × Wd) :=
  ald w 717 v1 (fun x1 => bd (f_X11_in v4 (0 : Int32) (x1 - (1 : Int32)) w) (fun x3 w2 => (if x3 = 0 then some ((-1 : Int32), w2) else ald w2 732 v4 (fun x4 => some (x4, w2)))))
def g_X11_bySight_63 (rc_63 : Int32 × Int32 × Int32 × Wd → Option (Int32 × Wd)) (v1 : Int32) (v3 : Int32) (v4 : Int32) (w : Wd) : Option (Int32 × Wd) :=
  ald w 717 v1 (fun x1 => bd (f_X11_in v4 (0 : Int32) (x1 - (1 : Int32)) w) (fun x3 w2 => (if x3 = 0 then f_X11_bySight_112 v1 v4 w2 else ald w2 732 v4 (fun x4 => bd (f_X11_isCluster v1 x4 w2) (fun x6 w5 => (if x6 = 0 then (if v3 = 0 then lt (v4 + (-1 : Int32)) (fun x7 => rc_63 (v1, v3, x7, w5)) else lt (v4 + (1 : Int32)) (fun x8 => rc_63 (v1, v3, x8, w5))) else f_X11_bySight_112 v1 v4 w5))))))
def f_X11_bySight_63  (v1 : Int32) (v3 : Int32) (v4 : Int32) (w : Wd) : Option (Int32 × Wd) :=
  loopN (fun rc σ => g_X11_bySight_63 rc  σ.1 σ.2.1 σ.2.2.1 σ.2.2.2) FU (v1, v3, v4, w)
def f_X11_bySight_60  (v1 : Int32) (v3 : Int32) (t0 : Int32) (t1 : Int32) (w : Wd) : Option (Int32 × Wd) :=
  lt (t0 + t1) (fun x1 => f_X11_bySight_63 v1 v3 x1 w)
def g_X11_bySight_32 (rc_32 : Int32 × Int32 × Int32 × Int32 × Wd → Option (Int32 × Wd)) (v1 : Int32) (v2 : Int32) (v3 : Int32) (v4 : Int32) (w : Wd) : Option (Int32 × Wd) :=
  ald w 732 v4 (fun x1 => (if x1 = v2 then (if v3 = 0 then f_X11_bySight_60 v1 v3 v4 (-1 : Int32) w else f_X11_bySight_60 v1 v3 v4 (1 : Int32) w) else lt (v4 + (1 : Int32)) (fun x2 => rc_32 (v1, v2, v3, x2, w))))
def f_X11_bySight_32  (v1 : Int32) (v2 : Int32) (v3 : Int32) (v4 : Int32) (w : Wd) : Option (Int32 × Wd) :=
  loopN (fun rc σ => g_X11_bySight_32 rc  σ.1 σ.2.1 σ.2.2.1 σ.2.2.2.1 σ.2.2.2.2) FU (v1, v2, v3, v4, w)
def f_X11_bySight_15  (v1 : Int32) (v2 : Int32) (v3 : Int32) (t1 : Int32) (w : Wd) : Option (Int32 × Wd) :=
  bd (f_X11_holds t1 w) (fun x2 w1 => (if x2 = 0 then some ((0 : Int32), w1) else bd (f_X11_laysOrder v1 (-1 : Int32) w1) (fun _ w3 => f_X11_bySight_32 v1 v2 v3 (0 : Int32) w3)))
def f_X11_bySight  (v1 : Int32) (v2 : Int32) (v3 : Int32) (w : Wd) : Option (Int32 × Wd) :=
  bd (f_X11_isPlace v1 v2 w) (fun x2 w1 => (if x2 = 0 then f_X11_bySight_15 v1 v2 v3 (1 : Int32) w1 else f_X11_bySight_15 v1 v2 v3 (0 : Int32) w1))
/-! LetterTablesModel.isEdge -/
def f_X11_isEdge  (v1 : Int32) (v2 : Int32) (w : Wd) : Option (Int32 × Wd) :=
  ald w 717 v1 (fun x1 => (if v2 = x1 then some ((1 : Int32), w) else bd (f_X11_isCluster v1 v2 w) (fun x3 w2 => (if x3 = 0 then some ((0 : Int32), w2) else some ((1 : Int32), w2)))))
/-! LetterTablesModel.clusterAhead -/
def g_X11_clusterAhead_4 (rc_4 : Int32 × Int32 × Wd → Option (Int32 × Wd)) (v1 : Int32) (v3 : Int32) (w : Wd) : Option (Int32 × Wd) :=
  bd (f_X11_isCluster v1 v3 w) (fun x2 w1 => (if x2 = 0 then lt (v3 + (-1 : Int32)) (fun x3 => rc_4 (v1, x3, w1)) else some (v3, w1)))
def f_X11_clusterAhead_4  (v1 : Int32) (v3 : Int32) (w : Wd) : Option (Int32 × Wd) :=
  loopN (fun rc σ => g_X11_clusterAhead_4 rc  σ.1 σ.2.1 σ.2.2) FU (v1, v3, w)
def f_X11_clusterAhead  (v1 : Int32) (v2 : Int32) (w : Wd) : Option (Int32 × Wd) :=
  lt (v2 - (1 : Int32)) (fun x1 => f_X11_clusterAhead_4 v1 x1 w)
/-! LetterTablesModel.isWordAt -/
def g_X11_isWordAt_38 (rc_38 : Int32 × Int32 × Int32 × Int32 × Int32 × Wd → Option (Int32 × Wd)) (v1 : Int32) (v2 : Int32) (v4 : Int32) (v5 : Int32) (v6 : Int32) (w : Wd) : Option (Int32 × Wd) :=
  ald w 714 v4 (fun x1 => (if x1 ≤ v6 then some (v5, w) else (if v5 = 0 then some (v5, w) else bd (f_X11_letterAt v1 (v2 + v6) w) (fun x3 w2 => ald w2 714 ((v4 + (1 : Int32)) + v6) (fun x4 => (if x3 = x4 then lt (v6 + (1 : Int32)) (fun x6 => rc_38 (v1, v2, v4, (1 : Int32), x6, w2)) else lt (v6 + (1 : Int32)) (fun x5 => rc_38 (v1, v2, v4, (0 : Int32), x5, w2))))))))
def f_X11_isWordAt_38  (v1 : Int32) (v2 : Int32) (v4 : Int32) (v5 : Int32) (v6 : Int32) (w : Wd) : Option (Int32 × Wd) :=
  loopN (fun rc σ => g_X11_isWordAt_38 rc  σ.1 σ.2.1 σ.2.2.1 σ.2.2.2.1 σ.2.2.2.2.1 σ.2.2.2.2.2) FU (v1, v2, v4, v5, v6, w)
def f_X11_isWordAt_33  (v1 : Int32) (v2 : Int32) (v4 : Int32) (t0 : Int32) (w : Wd) : Option (Int32 × Wd) :=
  f_X11_isWordAt_38 v1 v2 v4 t0 (0 : Int32) w
def f_X11_isWordAt  (v1 : Int32) (v2 : Int32) (v3 : Int32) (w : Wd) : Option (Int32 × Wd) :=
  lt ((1503 : Int32) + ((9 : Int32) * v3)) (fun x1 => ald w 714 x1 (fun x2 => ald w 717 v1 (fun x3 => (if x3 < (v2 + x2) then f_X11_isWordAt_33 v1 v2 x1 (0 : Int32) w else f_X11_isWordAt_33 v1 v2 x1 (1 : Int32) w))))
/-! LetterTablesModel.wordEnd -/
def g_X11_wordEnd_105 (rc_105 : Int32 × Int32 × Int32 × Int32 × Wd → Option (Int32 × Wd)) (v1 : Int32) (v2 : Int32) (v4 : Int32) (v5 : Int32) (w : Wd) : Option (Int32 × Wd) :=
  bd (f_X11_isEdge v1 v5 w) (fun x2 w1 => (if x2 = 0 then lt (v5 + (1 : Int32)) (fun x3 => rc_105 (v1, v2, v4, x3, w1)) else (if v4 ≤ 0 then some (v5, w1) else some (v2 + v4, w1))))
def f_X11_wordEnd_105  (v1 : Int32) (v2 : Int32) (v4 : Int32) (v5 : Int32) (w : Wd) : Option (Int32 × Wd) :=
  loopN (fun rc σ => g_X11_wordEnd_105 rc  σ.1 σ.2.1 σ.2.2.1 σ.2.2.2.1 σ.2.2.2.2) FU (v1, v2, v4, v5, w)
def f_X11_wordEnd_90 (rc_6 : Int32 × Int32 × Int32 × Int32 × Int32 × Wd → Option (Int32 × Wd)) (v1 : Int32) (v2 : Int32) (v3 : Int32) (v4 : Int32) (v5 : Int32) (w : Wd) : Option (Int32 × Wd) :=
  lt (v5 + (1 : Int32)) (fun x1 => rc_6 (v1, v2, v3, v4, x1, w))
def f_X11_wordEnd_71 (rc_6 : Int32 × Int32 × Int32 × Int32 × Int32 × Wd → Option (Int32 × Wd)) (v1 : Int32) (v2 : Int32) (v3 : Int32) (v4 : Int32) (v5 : Int32) (v6 : Int32) (t0 : Int32) (w : Wd) : Option (Int32 × Wd) :=
  (if t0 = 0 then f_X11_wordEnd_90 rc_6 v1 v2 v3 v4 v5 w else (if v6 ≤ v4 then f_X11_wordEnd_90 rc_6 v1 v2 v3 v4 v5 w else lt (v5 + (1 : Int32)) (fun x1 => rc_6 (v1, v2, v3, v6, x1, w))))
def f_X11_wordEnd_70 (rc_6 : Int32 × Int32 × Int32 × Int32 × Int32 × Wd → Option (Int32 × Wd)) (v1 : Int32) (v2 : Int32) (v3 : Int32) (v4 : Int32) (v5 : Int32) (v6 : Int32) (w : Wd) : Option (Int32 × Wd) :=
  f_X11_wordEnd_71 rc_6 v1 v2 v3 v4 v5 v6 (0 : Int32) w
def g_X11_wordEnd_6 (rc_6 : Int32 × Int32 × Int32 × Int32 × Int32 × Wd → Option (Int32 × Wd)) (v1 : Int32) (v2 : Int32) (v3 : Int32) (v4 : Int32) (v5 : Int32) (w : Wd) : Option (Int32 × Wd) :=
  ald w 714 (1502 : Int32) (fun x1 => (if x1 ≤ v5 then lt (v2 + (1 : Int32)) (fun x2 => f_X11_wordEnd_105 v1 v2 v4 x2 w) else ald w 714 ((1503 : Int32) + ((9 : Int32) * v5)) (fun x3 => bd (f_X11_isWordAt v1 v2 v5 w) (fun x5 w4 => (if x5 = 0 then f_X11_wordEnd_70 rc_6 v1 v2 v3 v4 v5 x3 w4 else (if v3 < (v2 + x3) then f_X11_wordEnd_70 rc_6 v1 v2 v3 v4 v5 x3 w4 else bd (f_X11_isEdge v1 (v2 + x3) w4) (fun x7 w6 => (if x7 = 0 then f_X11_wordEnd_70 rc_6 v1 v2 v3 v4 v5 x3 w6 else f_X11_wordEnd_71 rc_6 v1 v2 v3 v4 v5 x3 (1 : Int32) w6))))))))
def f_X11_wordEnd_6  (v1 : Int32) (v2 : Int32) (v3 : Int32) (v4 : Int32) (v5 : Int32) (w : Wd) : Option (Int32 × Wd) :=
  loopN (fun rc σ => g_X11_wordEnd_6 rc  σ.1 σ.2.1 σ.2.2.1 σ.2.2.2.1 σ.2.2.2.2.1 σ.2.2.2.2.2) FU (v1, v2, v3, v4, v5, w)
def f_X11_wordEnd  (v1 : Int32) (v2 : Int32) (v3 : Int32) (w : Wd) : Option (Int32 × Wd) :=
  f_X11_wordEnd_6 v1 v2 v3 (0 : Int32) (0 : Int32) w
/-! LetterTablesModel.laysWords -/
def g_X11_laysWords_99 (rc_99 : Int32 × Int32 × Int32 × Wd → Option (Unit × Wd)) (rc_29 : Int32 × Int32 × Int32 × Wd → Option (Unit × Wd)) (v1 : Int32) (v2 : Int32) (v3 : Int32) (w : Wd) : Option (Unit × Wd) :=
  (if v2 ≤ v3 then rc_29 (v1, v2, v3, w) else bd (f_X11_isCluster v1 v3 w) (fun x2 w1 => (if x2 = 0 then lt (v3 + (1 : Int32)) (fun x3 => rc_99 (v1, v2, x3, w1)) else rc_29 (v1, v2, v3, w1))))
def f_X11_laysWords_99 (rc_29 : Int32 × Int32 × Int32 × Wd → Option (Unit × Wd)) (v1 : Int32) (v2 : Int32) (v3 : Int32) (w : Wd) : Option (Unit × Wd) :=
  loopN (fun rc σ => g_X11_laysWords_99 rc rc_29 σ.1 σ.2.1 σ.2.2.1 σ.2.2.2) FU (v1, v2, v3, w)
def g_X11_laysWords_71 (rc_71 : Int32 × Int32 × Int32 × Int32 × Wd → Option (Unit × Wd)) (rc_29 : Int32 × Int32 × Int32 × Wd → Option (Unit × Wd)) (v1 : Int32) (v2 : Int32) (v3 : Int32) (v4 : Int32) (w : Wd) : Option (Unit × Wd) :=
  (if v4 ≤ v3 then lt (v3 + (1 : Int32)) (fun x1 => f_X11_laysWords_99 rc_29 v1 v2 x1 w) else bd (f_X11_wordEnd v1 v3 v4 w) (fun x3 w2 => ast w2 733 x3 (1 : Int32) (fun w4 => rc_71 (v1, v2, x3, v4, w4))))
def f_X11_laysWords_71 (rc_29 : Int32 × Int32 × Int32 × Wd → Option (Unit × Wd)) (v1 : Int32) (v2 : Int32) (v3 : Int32) (v4 : Int32) (w : Wd) : Option (Unit × Wd) :=
  loopN (fun rc σ => g_X11_laysWords_71 rc rc_29 σ.1 σ.2.1 σ.2.2.1 σ.2.2.2.1 σ.2.2.2.2) FU (v1, v2, v3, v4, w)
def g_X11_laysWords_37 (rc_37 : Int32 × Int32 × Int32 × Int32 × Wd → Option (Unit × Wd)) (rc_29 : Int32 × Int32 × Int32 × Wd → Option (Unit × Wd)) (v1 : Int32) (v2 : Int32) (v3 : Int32) (v4 : Int32) (w : Wd) : Option (Unit × Wd) :=
  (if v2 ≤ v4 then f_X11_laysWords_71 rc_29 v1 v2 v3 v4 w else bd (f_X11_isCluster v1 v4 w) (fun x2 w1 => (if x2 = 0 then lt (v4 + (1 : Int32)) (fun x3 => rc_37 (v1, v2, v3, x3, w1)) else bd (f_X11_kindAt v1 v4 w1) (fun x5 w4 => (if x5 = (6 : Int32) then lt (v4 + (1 : Int32)) (fun x6 => rc_37 (v1, v2, v3, x6, w4)) else f_X11_laysWords_71 rc_29 v1 v2 v3 v4 w4)))))
def f_X11_laysWords_37 (rc_29 : Int32 × Int32 × Int32 × Wd → Option (Unit × Wd)) (v1 : Int32) (v2 : Int32) (v3 : Int32) (v4 : Int32) (w : Wd) : Option (Unit × Wd) :=
  loopN (fun rc σ => g_X11_laysWords_37 rc rc_29 σ.1 σ.2.1 σ.2.2.1 σ.2.2.2.1 σ.2.2.2.2) FU (v1, v2, v3, v4, w)
def g_X11_laysWords_29 (rc_29 : Int32 × Int32 × Int32 × Wd → Option (Unit × Wd)) (v1 : Int32) (v2 : Int32) (v3 : Int32) (w : Wd) : Option (Unit × Wd) :=
  (if v2 ≤ v3 then some ((), w) else f_X11_laysWords_37 rc_29 v1 v2 v3 v3 w)
def f_X11_laysWords_29  (v1 : Int32) (v2 : Int32) (v3 : Int32) (w : Wd) : Option (Unit × Wd) :=
  loopN (fun rc σ => g_X11_laysWords_29 rc  σ.1 σ.2.1 σ.2.2.1 σ.2.2.2) FU (v1, v2, v3, w)
def g_X11_laysWords_9 (rc_9 : Int32 × Int32 × Int32 × Wd → Option (Unit × Wd)) (v1 : Int32) (v2 : Int32) (v3 : Int32) (w : Wd) : Option (Unit × Wd) :=
  (if v2 < v3 then f_X11_laysWords_29 v1 v2 (0 : Int32) w else ast w 733 v3 (0 : Int32) (fun w1 => lt (v3 + (1 : Int32)) (fun x2 => rc_9 (v1, v2, x2, w1))))
def f_X11_laysWords_9  (v1 : Int32) (v2 : Int32) (v3 : Int32) (w : Wd) : Option (Unit × Wd) :=
  loopN (fun rc σ => g_X11_laysWords_9 rc  σ.1 σ.2.1 σ.2.2.1 σ.2.2.2) FU (v1, v2, v3, w)
def f_X11_laysWords  (v1 : Int32) (w : Wd) : Option (Unit × Wd) :=
  ald w 717 v1 (fun x1 => f_X11_laysWords_9 v1 x1 (0 : Int32) w)
/-! LetterTablesModel.isBreak -/
def f_X11_isBreak_148  (v7 : Int32) (w : Wd) : Option (Int32 × Wd) :=
  (if v7 = 0 then some ((0 : Int32), w) else some ((1 : Int32), w))
def f_X11_isBreak_120  (v3 : Int32) (v4 : Int32) (v5 : Int32) (v7 : Int32) (t0 : Int32) (w : Wd) : Option (Int32 × Wd) :=
  (if v3 = 0 then some ((1 : Int32), w) else (if t0 = 0 then some ((0 : Int32), w) else (if v3 = (1 : Int32) then some ((1 : Int32), w) else (if v4 = (3 : Int32) then (if v5 = (3 : Int32) then f_X11_isBreak_148 v7 w else some ((1 : Int32), w)) else f_X11_isBreak_148 v7 w))))
def f_X11_isBreak_119  (v3 : Int32) (v4 : Int32) (v5 : Int32) (v7 : Int32) (w : Wd) : Option (Int32 × Wd) :=
  f_X11_isBreak_120 v3 v4 v5 v7 (0 : Int32) w
def f_X11_isBreak_101  (v2 : Int32) (v3 : Int32) (v4 : Int32) (v5 : Int32) (v7 : Int32) (w : Wd) : Option (Int32 × Wd) :=
  (if v7 = 0 then f_X11_isBreak_120 v3 v4 v5 v7 (1 : Int32) w else ald w 733 v2 (fun x1 => (if x1 = 0 then f_X11_isBreak_119 v3 v4 v5 v7 w else f_X11_isBreak_120 v3 v4 v5 v7 (1 : Int32) w)))
def f_X11_isBreak_82  (v2 : Int32) (v3 : Int32) (v4 : Int32) (v5 : Int32) (v6 : Int32) (t0 : Int32) (w : Wd) : Option (Int32 × Wd) :=
  (if v6 = 0 then (if v4 = (3 : Int32) then (if v5 = (3 : Int32) then f_X11_isBreak_119 v3 v4 v5 t0 w else f_X11_isBreak_101 v2 v3 v4 v5 t0 w) else f_X11_isBreak_101 v2 v3 v4 v5 t0 w) else f_X11_isBreak_119 v3 v4 v5 t0 w)
def f_X11_isBreak_81  (v2 : Int32) (v3 : Int32) (v4 : Int32) (v5 : Int32) (v6 : Int32) (w : Wd) : Option (Int32 × Wd) :=
  f_X11_isBreak_82 v2 v3 v4 v5 v6 (0 : Int32) w
def f_X11_isBreak_61  (v2 : Int32) (v3 : Int32) (v4 : Int32) (v5 : Int32) (t0 : Int32) (w : Wd) : Option (Int32 × Wd) :=
  (if v4 = (6 : Int32) then (if v5 = (6 : Int32) then f_X11_isBreak_82 v2 v3 v4 v5 t0 (1 : Int32) w else f_X11_isBreak_81 v2 v3 v4 v5 t0 w) else f_X11_isBreak_81 v2 v3 v4 v5 t0 w)
def f_X11_isBreak_60  (v2 : Int32) (v3 : Int32) (v4 : Int32) (v5 : Int32) (w : Wd) : Option (Int32 × Wd) :=
  f_X11_isBreak_61 v2 v3 v4 v5 (0 : Int32) w
def f_X11_isBreak_44  (v2 : Int32) (v3 : Int32) (v4 : Int32) (v5 : Int32) (w : Wd) : Option (Int32 × Wd) :=
  (if v5 = (1 : Int32) then f_X11_isBreak_61 v2 v3 v4 v5 (1 : Int32) w else (if v5 = (4 : Int32) then f_X11_isBreak_61 v2 v3 v4 v5 (1 : Int32) w else f_X11_isBreak_60 v2 v3 v4 v5 w))
def f_X11_isBreak  (v1 : Int32) (v2 : Int32) (v3 : Int32) (w : Wd) : Option (Int32 × Wd) :=
  bd (f_X11_isCluster v1 v2 w) (fun x2 w1 => (if x2 = 0 then some ((0 : Int32), w1) else bd (f_X11_clusterAhead v1 v2 w1) (fun x4 w3 => bd (f_X11_kindAt v1 x4 w3) (fun x6 w5 => bd (f_X11_kindAt v1 v2 w5) (fun x8 w7 => (if x6 = (1 : Int32) then f_X11_isBreak_44 v2 v3 x6 x8 w7 else (if x6 = (4 : Int32) then f_X11_isBreak_44 v2 v3 x6 x8 w7 else f_X11_isBreak_60 v2 v3 x6 x8 w7)))))))
/-! LetterTablesModel.breaks -/
def f_X11_breaks_75 (rc_44 : Int32 × Int32 × Int64 × Int32 × Wd → Option (Int64 × Wd)) (v1 : Int32) (v2 : Int32) (v5 : Int32) (t0 : Int64) (t1 : Int64) (w : Wd) : Option (Int64 × Wd) :=
  lt (t0 ||| t1) (fun y1 => lt (v5 + (1 : Int32)) (fun x2 => rc_44 (v1, v2, y1, x2, w)))
def g_X11_breaks_44 (rc_44 : Int32 × Int32 × Int64 × Int32 × Wd → Option (Int64 × Wd)) (v1 : Int32) (v2 : Int32) (v3 : Int64) (v5 : Int32) (w : Wd) : Option (Int64 × Wd) :=
  ald w 717 v1 (fun x1 => (if x1 ≤ v5 then some (v3, w) else bd (f_X11_isBreak v1 v5 v2 w) (fun x3 w2 => (if x3 = 0 then f_X11_breaks_75 rc_44 v1 v2 v5 v3 (0 : Int64) w2 else f_X11_breaks_75 rc_44 v1 v2 v5 v3 ((1 : Int64) <<< (v5.toInt64 &&& 63)) w2))))
def f_X11_breaks_44  (v1 : Int32) (v2 : Int32) (v3 : Int64) (v5 : Int32) (w : Wd) : Option (Int64 × Wd) :=
  loopN (fun rc σ => g_X11_breaks_44 rc  σ.1 σ.2.1 σ.2.2.1 σ.2.2.2.1 σ.2.2.2.2) FU (v1, v2, v3, v5, w)
def f_X11_breaks_26  (v1 : Int32) (v2 : Int32) (t1 : Int32) (w : Wd) : Option (Int64 × Wd) :=
  bd (f_X11_holds t1 w) (fun x2 w1 => (if x2 = 0 then some ((0 : Int64), w1) else bd (f_X11_laysWords v1 w1) (fun _ w3 => f_X11_breaks_44 v1 v2 (0 : Int64) (1 : Int32) w3)))
def f_X11_breaks  (v1 : Int32) (v2 : Int32) (w : Wd) : Option (Int64 × Wd) :=
  bd (f_X11_isSlot v1 w) (fun x2 w1 => (if x2 = 0 then f_X11_breaks_26 v1 v2 (1 : Int32) w1 else bd (f_X11_in v2 (0 : Int32) (2 : Int32) w1) (fun x4 w3 => (if x4 = 0 then f_X11_breaks_26 v1 v2 (2 : Int32) w3 else f_X11_breaks_26 v1 v2 (0 : Int32) w3))))
/-! LetterTablesModel.bySense -/
def f_X11_bySense_92  (v1 : Int32) (v2 : Int32) (v4 : Int32) (w : Wd) : Option (Int32 × Wd) :=
  ald w 717 v1 (fun x1 => bd (f_X11_in v4 (0 : Int32) x1 w) (fun x3 w2 => (if x3 = 0 then some (v2, w2) else some (v4, w2))))
def g_X11_bySense_50 (rc_50 : Int32 × Int32 × Int32 × Int32 × Wd → Option (Int32 × Wd)) (v1 : Int32) (v2 : Int32) (v3 : Int32) (v4 : Int32) (w : Wd) : Option (Int32 × Wd) :=
  ald w 717 v1 (fun x1 => bd (f_X11_in v4 (0 : Int32) x1 w) (fun x3 w2 => (if x3 = 0 then f_X11_bySense_92 v1 v2 v4 w2 else bd (f_X11_isEdge v1 v4 w2) (fun x5 w4 => (if x5 = 0 then (if v3 = 0 then lt (v4 + (-1 : Int32)) (fun x6 => rc_50 (v1, v2, v3, x6, w4)) else lt (v4 + (1 : Int32)) (fun x7 => rc_50 (v1, v2, v3, x7, w4))) else f_X11_bySense_92 v1 v2 v4 w4)))))
def f_X11_bySense_50  (v1 : Int32) (v2 : Int32) (v3 : Int32) (v4 : Int32) (w : Wd) : Option (Int32 × Wd) :=
  loopN (fun rc σ => g_X11_bySense_50 rc  σ.1 σ.2.1 σ.2.2.1 σ.2.2.2.1 σ.2.2.2.2) FU (v1, v2, v3, v4, w)
def f_X11_bySense_48  (v1 : Int32) (v2 : Int32) (v3 : Int32) (t0 : Int32) (w : Wd) : Option (Int32 × Wd) :=
  f_X11_bySense_50 v1 v2 v3 t0 w
def f_X11_bySense_27  (v1 : Int32) (v2 : Int32) (v3 : Int32) (t1 : Int32) (w : Wd) : Option (Int32 × Wd) :=
  bd (f_X11_holds t1 w) (fun x2 w1 => (if x2 = 0 then some ((0 : Int32), w1) else (if v3 = 0 then f_X11_bySense_48 v1 v2 v3 (v2 - (1 : Int32)) w1 else f_X11_bySense_48 v1 v2 v3 (v2 + (1 : Int32)) w1)))
def f_X11_bySense_26  (v1 : Int32) (v2 : Int32) (v3 : Int32) (w : Wd) : Option (Int32 × Wd) :=
  f_X11_bySense_27 v1 v2 v3 (1 : Int32) w
def f_X11_bySense  (v1 : Int32) (v2 : Int32) (v3 : Int32) (w : Wd) : Option (Int32 × Wd) :=
  bd (f_X11_isSlot v1 w) (fun x2 w1 => (if x2 = 0 then f_X11_bySense_26 v1 v2 v3 w1 else ald w1 717 v1 (fun x3 => bd (f_X11_in v2 (0 : Int32) x3 w1) (fun x5 w4 => (if x5 = 0 then f_X11_bySense_26 v1 v2 v3 w4 else f_X11_bySense_27 v1 v2 v3 (0 : Int32) w4)))))
/-! LetterTablesModel.keyed -/
def f_X11_keyed_170 (rc_50 : Int32 × Int32 × Int32 × Wd → Option (Int32 × Wd)) (v1 : Int32) (v3 : Int32) (v4 : Int32) (v5 : Int32) (t1 : Int32) (t2 : Int32) (w : Wd) : Option (Int32 × Wd) :=
  wr (setI w 713 29 (t1 + t2)) (fun w1 => (if v5 = (-1 : Int32) then lt (v4 + (1 : Int32)) (fun x3 => rc_50 (v1, v3, x3, w1)) else lt (v4 + (2 : Int32)) (fun x2 => rc_50 (v1, v3, x2, w1))))
def f_X11_keyed_142 (rc_50 : Int32 × Int32 × Int32 × Wd → Option (Int32 × Wd)) (v1 : Int32) (v3 : Int32) (v4 : Int32) (v5 : Int32) (t0 : Int32) (w : Wd) : Option (Int32 × Wd) :=
  ast w 734 (w.1 713 29) t0 (fun w1 => (if t0 ≤ 0 then f_X11_keyed_170 rc_50 v1 v3 v4 v5 (w1.1 713 29) (0 : Int32) w1 else f_X11_keyed_170 rc_50 v1 v3 v4 v5 (w1.1 713 29) (1 : Int32) w1))
def f_X11_keyed_95 (rc_50 : Int32 × Int32 × Int32 × Wd → Option (Int32 × Wd)) (v1 : Int32) (v3 : Int32) (v4 : Int32) (t0 : Int32) (w : Wd) : Option (Int32 × Wd) :=
  (if t0 = (-1 : Int32) then ald w 720 v4 (fun x2 => ald w 714 (((864 : Int32) + ((3 : Int32) * (((96 : Int32) * v1) + x2))) + v3) (fun x3 => f_X11_keyed_142 rc_50 v1 v3 v4 t0 x3 w)) else ald w 714 ((t0 + (2 : Int32)) + v3) (fun x1 => f_X11_keyed_142 rc_50 v1 v3 v4 t0 x1 w))
def g_X11_keyed_50 (rc_50 : Int32 × Int32 × Int32 × Wd → Option (Int32 × Wd)) (rc_18 : Int32 × Int32 × Wd → Option (Int32 × Wd)) (v1 : Int32) (v3 : Int32) (v4 : Int32) (w : Wd) : Option (Int32 × Wd) :=
  (if (w.1 713 11) ≤ v4 then lt (v3 + (1 : Int32)) (fun x1 => rc_18 (v1, x1, w)) else (if (w.1 713 11) ≤ (v4 + (1 : Int32)) then f_X11_keyed_95 rc_50 v1 v3 v4 (-1 : Int32) w else ald w 720 v4 (fun x2 => ald w 720 (v4 + (1 : Int32)) (fun x3 => bd (f_X11_contraction v1 x2 x3 w) (fun x5 w4 => f_X11_keyed_95 rc_50 v1 v3 v4 x5 w4)))))
def f_X11_keyed_50 (rc_18 : Int32 × Int32 × Wd → Option (Int32 × Wd)) (v1 : Int32) (v3 : Int32) (v4 : Int32) (w : Wd) : Option (Int32 × Wd) :=
  loopN (fun rc σ => g_X11_keyed_50 rc rc_18 σ.1 σ.2.1 σ.2.2.1 σ.2.2.2) FU (v1, v3, v4, w)
def f_X11_keyed_47 (rc_18 : Int32 × Int32 × Wd → Option (Int32 × Wd)) (v1 : Int32) (v3 : Int32) (w : Wd) : Option (Int32 × Wd) :=
  f_X11_keyed_50 rc_18 v1 v3 (0 : Int32) w
def g_X11_keyed_18 (rc_18 : Int32 × Int32 × Wd → Option (Int32 × Wd)) (v1 : Int32) (v3 : Int32) (w : Wd) : Option (Int32 × Wd) :=
  (if (3 : Int32) ≤ v3 then some ((1 : Int32), w) else (if v3 ≤ 0 then f_X11_keyed_47 rc_18 v1 v3 w else ast w 734 (w.1 713 29) (0 : Int32) (fun w1 => wr (setI w1 713 29 ((w1.1 713 29) + (1 : Int32))) (fun w2 => f_X11_keyed_47 rc_18 v1 v3 w2))))
def f_X11_keyed_18  (v1 : Int32) (v3 : Int32) (w : Wd) : Option (Int32 × Wd) :=
  loopN (fun rc σ => g_X11_keyed_18 rc  σ.1 σ.2.1 σ.2.2) FU (v1, v3, w)
def f_X11_keyed  (v1 : Int32) (v2 : Int32) (w : Wd) : Option (Int32 × Wd) :=
  bd (f_X11_formed v2 (0 : Int32) w) (fun x2 w1 => (if x2 = 0 then some ((0 : Int32), w1) else wr (setI w1 713 29 (0 : Int32)) (fun w3 => f_X11_keyed_18 v1 (0 : Int32) w3)))
/-! LetterTablesModel.compares -/
def f_X11_compares_57  (v1 : Int32) (w : Wd) : Option (Int32 × Wd) :=
  (if (w.1 713 29) ≤ v1 then (if v1 ≤ (w.1 713 29) then some ((0 : Int32), w) else some ((1 : Int32), w)) else some ((-1 : Int32), w))
def g_X11_compares_2 (rc_2 : Int32 × Int32 × Wd → Option (Int32 × Wd)) (v1 : Int32) (v2 : Int32) (w : Wd) : Option (Int32 × Wd) :=
  (if (w.1 713 29) ≤ v2 then f_X11_compares_57 v1 w else (if v1 ≤ v2 then f_X11_compares_57 v1 w else ald w 734 v2 (fun x1 => ald w 735 v2 (fun x2 => (if x1 = x2 then lt (v2 + (1 : Int32)) (fun x3 => rc_2 (v1, x3, w)) else ald w 735 v2 (fun x4 => ald w 734 v2 (fun x5 => (if x5 ≤ x4 then some ((1 : Int32), w) else some ((-1 : Int32), w)))))))))
def f_X11_compares_2  (v1 : Int32) (v2 : Int32) (w : Wd) : Option (Int32 × Wd) :=
  loopN (fun rc σ => g_X11_compares_2 rc  σ.1 σ.2.1 σ.2.2) FU (v1, v2, w)
def f_X11_compares  (v1 : Int32) (w : Wd) : Option (Int32 × Wd) :=
  f_X11_compares_2 v1 (0 : Int32) w
/-! LetterTablesModel.compare -/
def f_X11_compare_131  (v6 : Int32) (t1 : Int32) (w : Wd) : Option (Int32 × Wd) :=
  bd (f_X11_holds t1 w) (fun x2 w1 => (if x2 = 0 then some ((0 : Int32), w1) else bd (f_X11_compares v6 w1) (fun x4 w3 => some (x4, w3))))
def f_X11_compare_109  (v4 : Int32) (v6 : Int32) (t0 : Int32) (w : Wd) : Option (Int32 × Wd) :=
  (if v4 = 0 then f_X11_compare_131 v6 (1 : Int32) w else (if t0 = 0 then f_X11_compare_131 v6 (2 : Int32) w else f_X11_compare_131 v6 (0 : Int32) w))
def f_X11_compare_108  (v4 : Int32) (v6 : Int32) (w : Wd) : Option (Int32 × Wd) :=
  f_X11_compare_109 v4 v6 (0 : Int32) w
def f_X11_compare_90  (v1 : Int32) (v3 : Int32) (v4 : Int32) (v5 : Int32) (v6 : Int32) (w : Wd) : Option (Int32 × Wd) :=
  (if v5 = 0 then f_X11_compare_108 v4 v6 w else bd (f_X11_keyed v1 v3 w) (fun x2 w1 => (if x2 = 0 then f_X11_compare_108 v4 v6 w1 else f_X11_compare_109 v4 v6 (1 : Int32) w1)))
def g_X11_compare_58 (rc_58 : Int32 × Int32 × Int32 × Int32 × Int32 × Int32 × Wd → Option (Int32 × Wd)) (v1 : Int32) (v3 : Int32) (v4 : Int32) (v5 : Int32) (v6 : Int32) (v7 : Int32) (w : Wd) : Option (Int32 × Wd) :=
  (if v6 ≤ v7 then f_X11_compare_90 v1 v3 v4 v5 v6 w else (if v5 = 0 then f_X11_compare_90 v1 v3 v4 v5 v6 w else ald w 734 v7 (fun x1 => ast w 735 v7 x1 (fun w2 => lt (v7 + (1 : Int32)) (fun x3 => rc_58 (v1, v3, v4, v5, v6, x3, w2))))))
def f_X11_compare_58  (v1 : Int32) (v3 : Int32) (v4 : Int32) (v5 : Int32) (v6 : Int32) (v7 : Int32) (w : Wd) : Option (Int32 × Wd) :=
  loopN (fun rc σ => g_X11_compare_58 rc  σ.1 σ.2.1 σ.2.2.1 σ.2.2.2.1 σ.2.2.2.2.1 σ.2.2.2.2.2.1 σ.2.2.2.2.2.2) FU (v1, v3, v4, v5, v6, v7, w)
def f_X11_compare_47  (v1 : Int32) (v3 : Int32) (v4 : Int32) (t0 : Int32) (w : Wd) : Option (Int32 × Wd) :=
  lt (w.1 713 29) (fun x1 => f_X11_compare_58 v1 v3 v4 t0 x1 (0 : Int32) w)
def f_X11_compare_46  (v1 : Int32) (v3 : Int32) (v4 : Int32) (w : Wd) : Option (Int32 × Wd) :=
  f_X11_compare_47 v1 v3 v4 (0 : Int32) w
def f_X11_compare_26  (v1 : Int32) (v2 : Int32) (v3 : Int32) (t0 : Int32) (w : Wd) : Option (Int32 × Wd) :=
  (if t0 = 0 then f_X11_compare_46 v1 v3 t0 w else bd (f_X11_keyed v1 v2 w) (fun x2 w1 => (if x2 = 0 then f_X11_compare_46 v1 v3 t0 w1 else f_X11_compare_47 v1 v3 t0 (1 : Int32) w1)))
def f_X11_compare_25  (v1 : Int32) (v2 : Int32) (v3 : Int32) (w : Wd) : Option (Int32 × Wd) :=
  f_X11_compare_26 v1 v2 v3 (0 : Int32) w
def f_X11_compare  (v1 : Int32) (v2 : Int32) (v3 : Int32) (w : Wd) : Option (Int32 × Wd) :=
  bd (f_X11_isLanguage v1 w) (fun x2 w1 => (if x2 = 0 then f_X11_compare_25 v1 v2 v3 w1 else bd (f_X11_isSlot v2 w1) (fun x4 w3 => (if x4 = 0 then f_X11_compare_25 v1 v2 v3 w3 else bd (f_X11_isSlot v3 w3) (fun x6 w5 => (if x6 = 0 then f_X11_compare_25 v1 v2 v3 w5 else f_X11_compare_26 v1 v2 v3 (1 : Int32) w5))))))
/-! LetterTablesModel.key -/
def f_X11_key_80  (v3 : Int32) (t1 : Int32) (w : Wd) : Option (Int32 × Wd) :=
  bd (f_X11_holds t1 w) (fun x2 w1 => (if x2 = 0 then some ((0 : Int32), w1) else (if v3 = (-1 : Int32) then some (w1.1 713 29, w1) else ald w1 734 v3 (fun x3 => some (x3, w1)))))
def f_X11_key_40  (v3 : Int32) (v4 : Int32) (t0 : Int32) (w : Wd) : Option (Int32 × Wd) :=
  (if v4 = 0 then f_X11_key_80 v3 (1 : Int32) w else (if t0 = 0 then f_X11_key_80 v3 (2 : Int32) w else bd (f_X11_in v3 (-1 : Int32) ((w.1 713 29) - (1 : Int32)) w) (fun x2 w1 => (if x2 = 0 then f_X11_key_80 v3 (1 : Int32) w1 else f_X11_key_80 v3 (0 : Int32) w1))))
def f_X11_key_39  (v3 : Int32) (v4 : Int32) (w : Wd) : Option (Int32 × Wd) :=
  f_X11_key_40 v3 v4 (0 : Int32) w
def f_X11_key_19  (v1 : Int32) (v2 : Int32) (v3 : Int32) (t0 : Int32) (w : Wd) : Option (Int32 × Wd) :=
  (if t0 = 0 then f_X11_key_39 v3 t0 w else bd (f_X11_keyed v1 v2 w) (fun x2 w1 => (if x2 = 0 then f_X11_key_39 v3 t0 w1 else f_X11_key_40 v3 t0 (1 : Int32) w1)))
def f_X11_key_18  (v1 : Int32) (v2 : Int32) (v3 : Int32) (w : Wd) : Option (Int32 × Wd) :=
  f_X11_key_19 v1 v2 v3 (0 : Int32) w
def f_X11_key  (v1 : Int32) (v2 : Int32) (v3 : Int32) (w : Wd) : Option (Int32 × Wd) :=
  bd (f_X11_isLanguage v1 w) (fun x2 w1 => (if x2 = 0 then f_X11_key_18 v1 v2 v3 w1 else bd (f_X11_isSlot v2 w1) (fun x4 w3 => (if x4 = 0 then f_X11_key_18 v1 v2 v3 w3 else f_X11_key_19 v1 v2 v3 (1 : Int32) w3))))
/-! LetterTablesModel.finds -/
def g_X11_finds_17 (rc_17 : Int32 × Int32 × Int32 × Wd → Option (Int32 × Wd)) (rc_2 : Int32 × Int32 × Wd → Option (Int32 × Wd)) (v1 : Int32) (v3 : Int32) (v4 : Int32) (w : Wd) : Option (Int32 × Wd) :=
  ald w 717 v1 (fun x1 => (if x1 < v4 then lt (v3 + (1 : Int32)) (fun x2 => rc_2 (v1, x2, w)) else bd (f_X11_isCluster v1 v3 w) (fun x4 w3 => (if x4 = 0 then lt (v3 + (1 : Int32)) (fun x5 => rc_2 (v1, x5, w3)) else bd (f_X11_isEdge v1 v4 w3) (fun x7 w6 => (if x7 = 0 then lt (v4 + (1 : Int32)) (fun x8 => rc_17 (v1, v3, x8, w6)) else bd (f_X11_loads v1 v3 v4 w6) (fun _ w9 => bd (f_X11_folds w9) (fun _ w10 => bd (f_X11_isAside w10) (fun x12 w11 => (if x12 = 0 then lt (v4 + (1 : Int32)) (fun x13 => rc_17 (v1, v3, x13, w11)) else some (((100 : Int32) * v3) + v4, w11)))))))))))
def f_X11_finds_17 (rc_2 : Int32 × Int32 × Wd → Option (Int32 × Wd)) (v1 : Int32) (v3 : Int32) (v4 : Int32) (w : Wd) : Option (Int32 × Wd) :=
  loopN (fun rc σ => g_X11_finds_17 rc rc_2 σ.1 σ.2.1 σ.2.2.1 σ.2.2.2) FU (v1, v3, v4, w)
def g_X11_finds_2 (rc_2 : Int32 × Int32 × Wd → Option (Int32 × Wd)) (v1 : Int32) (v3 : Int32) (w : Wd) : Option (Int32 × Wd) :=
  ald w 717 v1 (fun x1 => (if x1 ≤ v3 then some ((-1 : Int32), w) else lt (v3 + (1 : Int32)) (fun x2 => f_X11_finds_17 rc_2 v1 v3 x2 w)))
def f_X11_finds_2  (v1 : Int32) (v3 : Int32) (w : Wd) : Option (Int32 × Wd) :=
  loopN (fun rc σ => g_X11_finds_2 rc  σ.1 σ.2.1 σ.2.2) FU (v1, v3, w)
def f_X11_finds  (v1 : Int32) (v2 : Int32) (w : Wd) : Option (Int32 × Wd) :=
  f_X11_finds_2 v1 v2 w
/-! LetterTablesModel.find -/
def f_X11_find_102  (v1 : Int32) (v3 : Int32) (t1 : Int32) (w : Wd) : Option (Int32 × Wd) :=
  bd (f_X11_holds t1 w) (fun x2 w1 => (if x2 = 0 then some ((0 : Int32), w1) else bd (f_X11_putsAside w1) (fun _ w3 => (if (w3.1 713 14) = 0 then some ((-1 : Int32), w3) else bd (f_X11_finds v1 v3 w3) (fun x5 w4 => some (x5, w4))))))
def f_X11_find_71  (v1 : Int32) (v3 : Int32) (v4 : Int32) (v5 : Int32) (t0 : Int32) (w : Wd) : Option (Int32 × Wd) :=
  (if v4 = 0 then f_X11_find_102 v1 v3 (1 : Int32) w else (if v5 = 0 then f_X11_find_102 v1 v3 (2 : Int32) w else (if t0 = 0 then f_X11_find_102 v1 v3 (3 : Int32) w else f_X11_find_102 v1 v3 (0 : Int32) w)))
def f_X11_find_70  (v1 : Int32) (v3 : Int32) (v4 : Int32) (v5 : Int32) (w : Wd) : Option (Int32 × Wd) :=
  f_X11_find_71 v1 v3 v4 v5 (0 : Int32) w
def f_X11_find_41  (v1 : Int32) (v2 : Int32) (v3 : Int32) (v4 : Int32) (t0 : Int32) (w : Wd) : Option (Int32 × Wd) :=
  (if t0 = 0 then f_X11_find_70 v1 v3 v4 t0 w else bd (f_X11_formed v1 (2 : Int32) w) (fun x2 w1 => (if x2 = 0 then f_X11_find_70 v1 v3 v4 t0 w1 else bd (f_X11_formed v2 (2 : Int32) w1) (fun x4 w3 => (if x4 = 0 then f_X11_find_70 v1 v3 v4 t0 w3 else f_X11_find_71 v1 v3 v4 t0 (1 : Int32) w3)))))
def f_X11_find_40  (v1 : Int32) (v2 : Int32) (v3 : Int32) (v4 : Int32) (w : Wd) : Option (Int32 × Wd) :=
  f_X11_find_41 v1 v2 v3 v4 (0 : Int32) w
def f_X11_find_19  (v1 : Int32) (v2 : Int32) (v3 : Int32) (t0 : Int32) (w : Wd) : Option (Int32 × Wd) :=
  (if t0 = 0 then f_X11_find_40 v1 v2 v3 t0 w else bd (f_X11_in v3 (0 : Int32) (40 : Int32) w) (fun x2 w1 => (if x2 = 0 then f_X11_find_40 v1 v2 v3 t0 w1 else f_X11_find_41 v1 v2 v3 t0 (1 : Int32) w1)))
def f_X11_find_18  (v1 : Int32) (v2 : Int32) (v3 : Int32) (w : Wd) : Option (Int32 × Wd) :=
  f_X11_find_19 v1 v2 v3 (0 : Int32) w
def f_X11_find  (v1 : Int32) (v2 : Int32) (v3 : Int32) (w : Wd) : Option (Int32 × Wd) :=
  bd (f_X11_isSlot v1 w) (fun x2 w1 => (if x2 = 0 then f_X11_find_18 v1 v2 v3 w1 else bd (f_X11_isSlot v2 w1) (fun x4 w3 => (if x4 = 0 then f_X11_find_18 v1 v2 v3 w3 else f_X11_find_19 v1 v2 v3 (1 : Int32) w3))))
/-! LetterTablesModel.taping -/
def f_X11_taping   (w : Wd) : Option (Int32 × Wd) :=
  (if (w.1 713 7) ≤ (w.1 713 44) then some ((-1 : Int32), w) else ald w 718 (w.1 713 44) (fun x1 => some (x1, w)))
/-! LetterTablesModel.readsSet -/
def f_X11_readsSet_221  (v1 : Int32) (v3 : Int32) (w : Wd) : Option (Int32 × Wd) :=
  (if v3 = (-1000 : Int32) then some (v3, w) else (if v1 = 0 then some (v3, w) else some ((-1 : Int32) - v3, w)))
def f_X11_readsSet_220  (v1 : Int32) (t0 : Int32) (w : Wd) : Option (Int32 × Wd) :=
  f_X11_readsSet_221 v1 t0 w
def f_X11_readsSet_217  (v1 : Int32) (w : Wd) : Option (Int32 × Wd) :=
  f_X11_readsSet_220 v1 (-1000 : Int32) w
def f_X11_readsSet_122  (v1 : Int32) (v2 : Int32) (t0 : Int32) (w : Wd) : Option (Int32 × Wd) :=
  (if v2 = (35 : Int32) then bd (f_X11_taping w) (fun x2 w1 => wr (setI w1 713 44 ((w1.1 713 44) + (1 : Int32))) (fun w3 => bd (f_X11_taping w3) (fun x5 w4 => wr (setI w4 713 44 ((w4.1 713 44) + (1 : Int32))) (fun w6 => lt ((((10 : Int32) * (x2 - (48 : Int32))) + x5) - (48 : Int32)) (fun x7 => bd (f_X11_in x2 (48 : Int32) (57 : Int32) w6) (fun x9 w8 => (if x9 = 0 then f_X11_readsSet_217 v1 w8 else bd (f_X11_in x5 (48 : Int32) (57 : Int32) w8) (fun x11 w10 => (if x11 = 0 then f_X11_readsSet_217 v1 w10 else bd (f_X11_isLetter x7 w10) (fun x13 w12 => (if x13 = 0 then f_X11_readsSet_217 v1 w12 else f_X11_readsSet_220 v1 ((100 : Int32) + x7) w12))))))))))) else f_X11_readsSet_221 v1 t0 w)
def f_X11_readsSet_29  (v1 : Int32) (t1 : Int32) (t2 : Int32) (w : Wd) : Option (Int32 × Wd) :=
  wr (setI w 713 44 (t1 + t2)) (fun w1 => bd (f_X11_taping w1) (fun x3 w2 => wr (setI w2 713 44 ((w2.1 713 44) + (1 : Int32))) (fun w4 => (if x3 = (46 : Int32) then f_X11_readsSet_122 v1 x3 (0 : Int32) w4 else (if x3 = (76 : Int32) then f_X11_readsSet_122 v1 x3 (1 : Int32) w4 else (if x3 = (77 : Int32) then f_X11_readsSet_122 v1 x3 (2 : Int32) w4 else (if x3 = (66 : Int32) then f_X11_readsSet_122 v1 x3 (3 : Int32) w4 else (if x3 = (68 : Int32) then f_X11_readsSet_122 v1 x3 (4 : Int32) w4 else (if x3 = (83 : Int32) then f_X11_readsSet_122 v1 x3 (5 : Int32) w4 else (if x3 = (67 : Int32) then f_X11_readsSet_122 v1 x3 (6 : Int32) w4 else f_X11_readsSet_122 v1 x3 (-1000 : Int32) w4))))))))))
def f_X11_readsSet_14  (t0 : Int32) (w : Wd) : Option (Int32 × Wd) :=
  (if t0 = 0 then f_X11_readsSet_29 t0 (w.1 713 44) (0 : Int32) w else f_X11_readsSet_29 t0 (w.1 713 44) (1 : Int32) w)
def f_X11_readsSet   (w : Wd) : Option (Int32 × Wd) :=
  bd (f_X11_taping w) (fun x2 w1 => (if x2 = (33 : Int32) then f_X11_readsSet_14 (1 : Int32) w1 else f_X11_readsSet_14 (0 : Int32) w1))
/-! LetterTablesModel.readsPattern -/
def f_X11_readsPattern_117 (rc_7 : Int32 × Int32 × Wd → Option (Int32 × Wd)) (v1 : Int32) (v2 : Int32) (v4 : Int32) (v5 : Int32) (v6 : Int32) (t1 : Int32) (t2 : Int32) (w : Wd) : Option (Int32 × Wd) :=
  wr (setI w 713 44 (t1 + t2)) (fun w1 => (if v4 = (-1000 : Int32) then some ((-1 : Int32), w1) else (if v5 = (-1000 : Int32) then some ((-1 : Int32), w1) else (if v2 = (8 : Int32) then some ((-1 : Int32), w1) else (if v1 = 0 then lt (v2 + (1 : Int32)) (fun x2 => rc_7 (v1, x2, w1)) else ast w1 737 v2 v4 (fun w3 => ast w3 736 v2 v5 (fun w4 => ast w4 738 v2 v6 (fun w5 => lt (v2 + (1 : Int32)) (fun x6 => rc_7 (v1, x6, w5))))))))))
def f_X11_readsPattern_100 (rc_7 : Int32 × Int32 × Wd → Option (Int32 × Wd)) (v1 : Int32) (v2 : Int32) (v4 : Int32) (v5 : Int32) (t0 : Int32) (w : Wd) : Option (Int32 × Wd) :=
  (if t0 ≤ 0 then f_X11_readsPattern_117 rc_7 v1 v2 v4 v5 t0 (w.1 713 44) (0 : Int32) w else f_X11_readsPattern_117 rc_7 v1 v2 v4 v5 t0 (w.1 713 44) (1 : Int32) w)
def f_X11_readsPattern_65 (rc_7 : Int32 × Int32 × Wd → Option (Int32 × Wd)) (v1 : Int32) (v2 : Int32) (t0 : Int32) (w : Wd) : Option (Int32 × Wd) :=
  bd (f_X11_readsSet w) (fun x2 w1 => bd (f_X11_taping w1) (fun x4 w3 => (if x4 = (42 : Int32) then f_X11_readsPattern_100 rc_7 v1 v2 t0 x2 (2 : Int32) w3 else bd (f_X11_taping w3) (fun x6 w5 => (if x6 = (63 : Int32) then f_X11_readsPattern_100 rc_7 v1 v2 t0 x2 (1 : Int32) w5 else f_X11_readsPattern_100 rc_7 v1 v2 t0 x2 (0 : Int32) w5)))))
def f_X11_readsPattern_47 (rc_7 : Int32 × Int32 × Wd → Option (Int32 × Wd)) (v1 : Int32) (v2 : Int32) (v3 : Int32) (t1 : Int32) (t2 : Int32) (w : Wd) : Option (Int32 × Wd) :=
  wr (setI w 713 44 (t1 + t2)) (fun w1 => (if v3 = 0 then f_X11_readsPattern_65 rc_7 v1 v2 (999 : Int32) w1 else bd (f_X11_readsSet w1) (fun x3 w2 => f_X11_readsPattern_65 rc_7 v1 v2 x3 w2)))
def f_X11_readsPattern_32 (rc_7 : Int32 × Int32 × Wd → Option (Int32 × Wd)) (v1 : Int32) (v2 : Int32) (t0 : Int32) (w : Wd) : Option (Int32 × Wd) :=
  (if t0 = 0 then f_X11_readsPattern_47 rc_7 v1 v2 t0 (w.1 713 44) (0 : Int32) w else f_X11_readsPattern_47 rc_7 v1 v2 t0 (w.1 713 44) (1 : Int32) w)
def g_X11_readsPattern_7 (rc_7 : Int32 × Int32 × Wd → Option (Int32 × Wd)) (v1 : Int32) (v2 : Int32) (w : Wd) : Option (Int32 × Wd) :=
  (if (w.1 713 7) ≤ (w.1 713 44) then some (v2, w) else bd (f_X11_taping w) (fun x2 w1 => (if x2 = (60 : Int32) then f_X11_readsPattern_32 rc_7 v1 v2 (1 : Int32) w1 else f_X11_readsPattern_32 rc_7 v1 v2 (0 : Int32) w1)))
def f_X11_readsPattern_7  (v1 : Int32) (v2 : Int32) (w : Wd) : Option (Int32 × Wd) :=
  loopN (fun rc σ => g_X11_readsPattern_7 rc  σ.1 σ.2.1 σ.2.2) FU (v1, v2, w)
def f_X11_readsPattern  (v1 : Int32) (w : Wd) : Option (Int32 × Wd) :=
  wr (setI w 713 44 (0 : Int32)) (fun w1 => f_X11_readsPattern_7 v1 (0 : Int32) w1)
/-! LetterTablesModel.pattern -/
def f_X11_pattern_37  (v1 : Int32) (w : Wd) : Option (Int32 × Wd) :=
  wr (setI w 713 7 (0 : Int32)) (fun w1 => (if v1 = (-1 : Int32) then some ((0 : Int32), w1) else some (v1, w1)))
def f_X11_pattern_17  (v1 : Int32) (t1 : Int32) (w : Wd) : Option (Int32 × Wd) :=
  bd (f_X11_holds t1 w) (fun x2 w1 => (if x2 = 0 then f_X11_pattern_37 v1 w1 else wr (setI w1 713 31 (1 : Int32)) (fun w3 => bd (f_X11_readsPattern (1 : Int32) w3) (fun x5 w4 => wr (setI w4 713 32 x5) (fun w6 => f_X11_pattern_37 v1 w6)))))
def f_X11_pattern   (w : Wd) : Option (Int32 × Wd) :=
  bd (f_X11_readsPattern (0 : Int32) w) (fun x2 w1 => (if x2 = (-1 : Int32) then f_X11_pattern_17 x2 (1 : Int32) w1 else f_X11_pattern_17 x2 (0 : Int32) w1))
/-! LetterTablesModel.isCapital -/
def f_X11_isCapital_49 (rc_4 : Int32 × Int32 × Int32 × Wd → Option (Int32 × Wd)) (v1 : Int32) (v3 : Int32) (w : Wd) : Option (Int32 × Wd) :=
  lt (v3 + (1 : Int32)) (fun x1 => rc_4 (v1, (0 : Int32), x1, w))
def g_X11_isCapital_4 (rc_4 : Int32 × Int32 × Int32 × Wd → Option (Int32 × Wd)) (v1 : Int32) (v2 : Int32) (v3 : Int32) (w : Wd) : Option (Int32 × Wd) :=
  (if (96 : Int32) ≤ v3 then some (v2, w) else (if v2 = 0 then (if v3 = v1 then f_X11_isCapital_49 rc_4 v1 v3 w else bd (f_X11_of v3 (6 : Int32) w) (fun x3 w2 => (if x3 = (v1 + (1 : Int32)) then lt (v3 + (1 : Int32)) (fun x4 => rc_4 (v1, (1 : Int32), x4, w2)) else bd (f_X11_of v3 (7 : Int32) w2) (fun x6 w5 => (if x6 = (v1 + (1 : Int32)) then lt (v3 + (1 : Int32)) (fun x7 => rc_4 (v1, (1 : Int32), x7, w5)) else f_X11_isCapital_49 rc_4 v1 v3 w5))))) else lt (v3 + (1 : Int32)) (fun x1 => rc_4 (v1, (1 : Int32), x1, w))))
def f_X11_isCapital_4  (v1 : Int32) (v2 : Int32) (v3 : Int32) (w : Wd) : Option (Int32 × Wd) :=
  loopN (fun rc σ => g_X11_isCapital_4 rc  σ.1 σ.2.1 σ.2.2.1 σ.2.2.2) FU (v1, v2, v3, w)
def f_X11_isCapital  (v1 : Int32) (w : Wd) : Option (Int32 × Wd) :=
  f_X11_isCapital_4 v1 (0 : Int32) (0 : Int32) w
/-! LetterTablesModel.hasLetter -/
def f_X11_hasLetter_94  (t0 : Int32) (t1 : Int32) (w : Wd) : Option (Int32 × Wd) :=
  (if t0 = t1 then some ((0 : Int32), w) else some ((1 : Int32), w))
def f_X11_hasLetter_81  (v1 : Int32) (t0 : Int32) (w : Wd) : Option (Int32 × Wd) :=
  (if 0 ≤ v1 then f_X11_hasLetter_94 t0 (0 : Int32) w else f_X11_hasLetter_94 t0 (1 : Int32) w)
def f_X11_hasLetter_73  (v1 : Int32) (t0 : Int32) (t1 : Int32) (w : Wd) : Option (Int32 × Wd) :=
  (if t0 = t1 then f_X11_hasLetter_81 v1 (1 : Int32) w else f_X11_hasLetter_81 v1 (0 : Int32) w)
def f_X11_hasLetter_11  (v1 : Int32) (v2 : Int32) (t0 : Int32) (w : Wd) : Option (Int32 × Wd) :=
  bd (f_X11_of v2 (2 : Int32) w) (fun x2 w1 => (if t0 < (100 : Int32) then (if t0 = (6 : Int32) then bd (f_X11_isCapital v2 w1) (fun x4 w3 => f_X11_hasLetter_81 v1 x4 w3) else (if t0 = 0 then f_X11_hasLetter_81 v1 (1 : Int32) w1 else (if t0 = (5 : Int32) then f_X11_hasLetter_73 v1 x2 (6 : Int32) w1 else f_X11_hasLetter_73 v1 x2 t0 w1))) else (if v2 = (t0 - (100 : Int32)) then f_X11_hasLetter_81 v1 (1 : Int32) w1 else f_X11_hasLetter_81 v1 (0 : Int32) w1)))
def f_X11_hasLetter  (v1 : Int32) (v2 : Int32) (w : Wd) : Option (Int32 × Wd) :=
  (if 0 ≤ v1 then f_X11_hasLetter_11 v1 v2 v1 w else f_X11_hasLetter_11 v1 v2 ((-1 : Int32) - v1) w)
/-! LetterTablesModel.takes -/
def f_X11_takes  (v1 : Int32) (v2 : Int32) (v3 : Int32) (w : Wd) : Option (Int32 × Wd) :=
  ald w 717 v1 (fun x1 => (if x1 ≤ v2 then some ((0 : Int32), w) else ald w 736 v3 (fun x2 => bd (f_X11_letterAt v1 v2 w) (fun x4 w3 => bd (f_X11_hasLetter x2 x4 w3) (fun x6 w5 => (if x6 = 0 then some ((0 : Int32), w5) else ald w5 737 v3 (fun x7 => (if x7 = (999 : Int32) then some ((1 : Int32), w5) else (if v2 ≤ 0 then some ((0 : Int32), w5) else ald w5 737 v3 (fun x8 => bd (f_X11_letterAt v1 (v2 - (1 : Int32)) w5) (fun x10 w9 => bd (f_X11_hasLetter x8 x10 w9) (fun x12 w11 => (if x12 = 0 then some ((0 : Int32), w11) else some ((1 : Int32), w11))))))))))))))
/-! LetterTablesModel.matches -/
def g_X11_matches_223 (rc_223 : Int32 × Int32 × Wd → Option (Int32 × Wd)) (v3 : Int32) (v4 : Int32) (w : Wd) : Option (Int32 × Wd) :=
  (if (40 : Int32) < v4 then some (v3, w) else ald w 739 v4 (fun x1 => (if x1 = 0 then lt (v4 + (1 : Int32)) (fun x2 => rc_223 (v3, x2, w)) else lt (v4 + (1 : Int32)) (fun x3 => rc_223 (v4, x3, w)))))
def f_X11_matches_223  (v3 : Int32) (v4 : Int32) (w : Wd) : Option (Int32 × Wd) :=
  loopN (fun rc σ => g_X11_matches_223 rc  σ.1 σ.2.1 σ.2.2) FU (v3, v4, w)
def g_X11_matches_185 (rc_185 : Int32 × Int32 × Int32 × Wd → Option (Int32 × Wd)) (rc_32 : Int32 × Int32 × Wd → Option (Int32 × Wd)) (v1 : Int32) (v3 : Int32) (v4 : Int32) (w : Wd) : Option (Int32 × Wd) :=
  (if (40 : Int32) < v4 then lt (v3 + (1 : Int32)) (fun x1 => rc_32 (v1, x1, w)) else ald w 740 v4 (fun x2 => ast w 739 v4 (nz x2) (fun w3 => lt (v4 + (1 : Int32)) (fun x4 => rc_185 (v1, v3, x4, w3)))))
def f_X11_matches_185 (rc_32 : Int32 × Int32 × Wd → Option (Int32 × Wd)) (v1 : Int32) (v3 : Int32) (v4 : Int32) (w : Wd) : Option (Int32 × Wd) :=
  loopN (fun rc σ => g_X11_matches_185 rc rc_32 σ.1 σ.2.1 σ.2.2.1 σ.2.2.2) FU (v1, v3, v4, w)
def f_X11_matches_174 (rc_90 : Int32 × Int32 × Int32 × Wd → Option (Int32 × Wd)) (v1 : Int32) (v3 : Int32) (v4 : Int32) (t0 : Nat) (t1 : Int32) (w : Wd) : Option (Int32 × Wd) :=
  ast w t0 t1 (0 : Int32) (fun w1 => lt (v4 + (1 : Int32)) (fun x2 => rc_90 (v1, v3, x2, w1)))
def f_X11_matches_132 (rc_90 : Int32 × Int32 × Int32 × Wd → Option (Int32 × Wd)) (v1 : Int32) (v3 : Int32) (v4 : Int32) (t0 : Int32) (w : Wd) : Option (Int32 × Wd) :=
  ald w 740 (v4 + (1 : Int32)) (fun x1 => (if x1 = 0 then (if t0 = 0 then f_X11_matches_174 rc_90 v1 v3 v4 740 (v4 + (1 : Int32)) w else bd (f_X11_takes v1 v4 v3 w) (fun x5 w4 => (if x5 = 0 then f_X11_matches_174 rc_90 v1 v3 v4 740 (v4 + (1 : Int32)) w4 else ast w4 740 (v4 + (1 : Int32)) (1 : Int32) (fun w6 => lt (v4 + (1 : Int32)) (fun x7 => rc_90 (v1, v3, x7, w6)))))) else ast w 740 (v4 + (1 : Int32)) (1 : Int32) (fun w2 => lt (v4 + (1 : Int32)) (fun x3 => rc_90 (v1, v3, x3, w2)))))
def f_X11_matches_131 (rc_90 : Int32 × Int32 × Int32 × Wd → Option (Int32 × Wd)) (v1 : Int32) (v3 : Int32) (v4 : Int32) (w : Wd) : Option (Int32 × Wd) :=
  f_X11_matches_132 rc_90 v1 v3 v4 (0 : Int32) w
def g_X11_matches_90 (rc_90 : Int32 × Int32 × Int32 × Wd → Option (Int32 × Wd)) (rc_32 : Int32 × Int32 × Wd → Option (Int32 × Wd)) (v1 : Int32) (v3 : Int32) (v4 : Int32) (w : Wd) : Option (Int32 × Wd) :=
  (if (40 : Int32) ≤ v4 then f_X11_matches_185 rc_32 v1 v3 (0 : Int32) w else ald w 739 v4 (fun x1 => (if x1 = 0 then ald w 738 v3 (fun x2 => (if x2 = (2 : Int32) then ald w 740 v4 (fun x3 => (if x3 = 0 then f_X11_matches_131 rc_90 v1 v3 v4 w else f_X11_matches_132 rc_90 v1 v3 v4 (1 : Int32) w)) else f_X11_matches_131 rc_90 v1 v3 v4 w)) else f_X11_matches_132 rc_90 v1 v3 v4 (1 : Int32) w)))
def f_X11_matches_90 (rc_32 : Int32 × Int32 × Wd → Option (Int32 × Wd)) (v1 : Int32) (v3 : Int32) (v4 : Int32) (w : Wd) : Option (Int32 × Wd) :=
  loopN (fun rc σ => g_X11_matches_90 rc rc_32 σ.1 σ.2.1 σ.2.2.1 σ.2.2.2) FU (v1, v3, v4, w)
def f_X11_matches_79 (rc_43 : Int32 × Int32 × Int32 × Wd → Option (Int32 × Wd)) (v1 : Int32) (v3 : Int32) (v4 : Int32) (t0 : Nat) (t1 : Int32) (w : Wd) : Option (Int32 × Wd) :=
  ast w t0 t1 (0 : Int32) (fun w1 => lt (v4 + (1 : Int32)) (fun x2 => rc_43 (v1, v3, x2, w1)))
def g_X11_matches_43 (rc_43 : Int32 × Int32 × Int32 × Wd → Option (Int32 × Wd)) (rc_32 : Int32 × Int32 × Wd → Option (Int32 × Wd)) (v1 : Int32) (v3 : Int32) (v4 : Int32) (w : Wd) : Option (Int32 × Wd) :=
  (if (40 : Int32) < v4 then f_X11_matches_90 rc_32 v1 v3 (0 : Int32) w else ald w 738 v3 (fun x1 => (if x1 ≤ 0 then f_X11_matches_79 rc_43 v1 v3 v4 740 v4 w else ald w 739 v4 (fun x2 => (if x2 = 0 then f_X11_matches_79 rc_43 v1 v3 v4 740 v4 w else ast w 740 v4 (1 : Int32) (fun w3 => lt (v4 + (1 : Int32)) (fun x4 => rc_43 (v1, v3, x4, w3))))))))
def f_X11_matches_43 (rc_32 : Int32 × Int32 × Wd → Option (Int32 × Wd)) (v1 : Int32) (v3 : Int32) (v4 : Int32) (w : Wd) : Option (Int32 × Wd) :=
  loopN (fun rc σ => g_X11_matches_43 rc rc_32 σ.1 σ.2.1 σ.2.2.1 σ.2.2.2) FU (v1, v3, v4, w)
def g_X11_matches_32 (rc_32 : Int32 × Int32 × Wd → Option (Int32 × Wd)) (v1 : Int32) (v3 : Int32) (w : Wd) : Option (Int32 × Wd) :=
  (if (w.1 713 32) ≤ v3 then f_X11_matches_223 (-1 : Int32) (0 : Int32) w else f_X11_matches_43 rc_32 v1 v3 (0 : Int32) w)
def f_X11_matches_32  (v1 : Int32) (v3 : Int32) (w : Wd) : Option (Int32 × Wd) :=
  loopN (fun rc σ => g_X11_matches_32 rc  σ.1 σ.2.1 σ.2.2) FU (v1, v3, w)
def g_X11_matches_2 (rc_2 : Int32 × Int32 × Int32 × Wd → Option (Int32 × Wd)) (v1 : Int32) (v2 : Int32) (v3 : Int32) (w : Wd) : Option (Int32 × Wd) :=
  (if (40 : Int32) < v3 then f_X11_matches_32 v1 (0 : Int32) w else (if v3 = v2 then ast w 739 v3 (1 : Int32) (fun w3 => lt (v3 + (1 : Int32)) (fun x4 => rc_2 (v1, v2, x4, w3))) else ast w 739 v3 (0 : Int32) (fun w1 => lt (v3 + (1 : Int32)) (fun x2 => rc_2 (v1, v2, x2, w1)))))
def f_X11_matches_2  (v1 : Int32) (v2 : Int32) (v3 : Int32) (w : Wd) : Option (Int32 × Wd) :=
  loopN (fun rc σ => g_X11_matches_2 rc  σ.1 σ.2.1 σ.2.2.1 σ.2.2.2) FU (v1, v2, v3, w)
def f_X11_matches  (v1 : Int32) (v2 : Int32) (w : Wd) : Option (Int32 × Wd) :=
  f_X11_matches_2 v1 v2 (0 : Int32) w
/-! LetterTablesModel.match -/
def f_X11_match_48  (v1 : Int32) (v2 : Int32) (t1 : Int32) (w : Wd) : Option (Int32 × Wd) :=
  bd (f_X11_holds t1 w) (fun x2 w1 => (if x2 = 0 then some ((0 : Int32), w1) else bd (f_X11_matches v1 v2 w1) (fun x4 w3 => some (x4, w3))))
def f_X11_match_26  (v1 : Int32) (v2 : Int32) (t0 : Int32) (w : Wd) : Option (Int32 × Wd) :=
  (if t0 = 0 then f_X11_match_48 v1 v2 (1 : Int32) w else (if (w.1 713 31) = 0 then f_X11_match_48 v1 v2 (2 : Int32) w else f_X11_match_48 v1 v2 (0 : Int32) w))
def f_X11_match_25  (v1 : Int32) (v2 : Int32) (w : Wd) : Option (Int32 × Wd) :=
  f_X11_match_26 v1 v2 (0 : Int32) w
def f_X11_match  (v1 : Int32) (v2 : Int32) (w : Wd) : Option (Int32 × Wd) :=
  bd (f_X11_isSlot v1 w) (fun x2 w1 => (if x2 = 0 then f_X11_match_25 v1 v2 w1 else ald w1 717 v1 (fun x3 => bd (f_X11_in v2 (0 : Int32) x3 w1) (fun x5 w4 => (if x5 = 0 then f_X11_match_25 v1 v2 w4 else f_X11_match_26 v1 v2 (1 : Int32) w4)))))
/-! LetterTablesModel.stand -/
def g_X11_stand_22 (rc_22 : Nat × Int32 × Int32 × Int32 × Int32 × Int32 × Wd → Option (Int32 × Wd)) (v1 : Nat) (v3 : Int32) (v4 : Int32) (v5 : Int32) (v6 : Int32) (v7 : Int32) (w : Wd) : Option (Int32 × Wd) :=
  (if v5 ≤ v7 then some (v6, w) else (if v6 = 0 then some (v6, w) else ald w v1 (v3 + v7) (fun x1 => ald w 714 (v4 + v7) (fun x2 => (if x1 = x2 then lt (v7 + (1 : Int32)) (fun x4 => rc_22 (v1, v3, v4, v5, (1 : Int32), x4, w)) else lt (v7 + (1 : Int32)) (fun x3 => rc_22 (v1, v3, v4, v5, (0 : Int32), x3, w)))))))
def f_X11_stand_22  (v1 : Nat) (v3 : Int32) (v4 : Int32) (v5 : Int32) (v6 : Int32) (v7 : Int32) (w : Wd) : Option (Int32 × Wd) :=
  loopN (fun rc σ => g_X11_stand_22 rc  σ.1 σ.2.1 σ.2.2.1 σ.2.2.2.1 σ.2.2.2.2.1 σ.2.2.2.2.2.1 σ.2.2.2.2.2.2) FU (v1, v3, v4, v5, v6, v7, w)
def f_X11_stand_17  (v1 : Nat) (v3 : Int32) (v4 : Int32) (v5 : Int32) (t0 : Int32) (w : Wd) : Option (Int32 × Wd) :=
  f_X11_stand_22 v1 v3 v4 v5 t0 (0 : Int32) w
def f_X11_stand_16  (v1 : Nat) (v3 : Int32) (v4 : Int32) (v5 : Int32) (w : Wd) : Option (Int32 × Wd) :=
  f_X11_stand_17 v1 v3 v4 v5 (0 : Int32) w
def f_X11_stand  (v1 : Nat) (v2 : Int32) (v3 : Int32) (v4 : Int32) (v5 : Int32) (w : Wd) : Option (Int32 × Wd) :=
  (if v3 < 0 then f_X11_stand_16 v1 v3 v4 v5 w else (if v2 < (v3 + v5) then f_X11_stand_16 v1 v3 v4 v5 w else f_X11_stand_17 v1 v3 v4 v5 (1 : Int32) w))
/-! LetterTablesModel.ruleFor -/
def f_X11_ruleFor_197 (rc_3 : Int32 × Int32 × Int32 × Int32 × Wd → Option (Int32 × Wd)) (v1 : Int32) (v2 : Int32) (v3 : Int32) (v4 : Int32) (v5 : Int32) (t0 : Int32) (w : Wd) : Option (Int32 × Wd) :=
  (if t0 = 0 then lt (v4 + (1 : Int32)) (fun x1 => rc_3 (v1, v2, v3, x1, w)) else some (v5, w))
def f_X11_ruleFor_196 (rc_3 : Int32 × Int32 × Int32 × Int32 × Wd → Option (Int32 × Wd)) (v1 : Int32) (v2 : Int32) (v3 : Int32) (v4 : Int32) (v5 : Int32) (w : Wd) : Option (Int32 × Wd) :=
  f_X11_ruleFor_197 rc_3 v1 v2 v3 v4 v5 (0 : Int32) w
def f_X11_ruleFor_110 (rc_3 : Int32 × Int32 × Int32 × Int32 × Wd → Option (Int32 × Wd)) (v1 : Int32) (v2 : Int32) (v3 : Int32) (v4 : Int32) (v5 : Int32) (v6 : Int32) (t0 : Int32) (w : Wd) : Option (Int32 × Wd) :=
  (if t0 = 0 then f_X11_ruleFor_196 rc_3 v1 v2 v3 v4 v5 w else ald w 714 (v5 + (1 : Int32)) (fun x1 => ald w 714 (v5 + (1 : Int32)) (fun x2 => bd (f_X11_stand 741 (w.1 713 39) ((w.1 713 39) - x1) (v5 + (5 : Int32)) x2 w) (fun x4 w3 => (if x4 = 0 then f_X11_ruleFor_196 rc_3 v1 v2 v3 v4 v5 w3 else ald w3 714 (v5 + (3 : Int32)) (fun x5 => bd (f_X11_stand 720 (w3.1 713 11) (v2 + v6) (v5 + (10 : Int32)) x5 w3) (fun x7 w6 => (if x7 = 0 then f_X11_ruleFor_196 rc_3 v1 v2 v3 v4 v5 w6 else f_X11_ruleFor_197 rc_3 v1 v2 v3 v4 v5 (1 : Int32) w6))))))))
def f_X11_ruleFor_109 (rc_3 : Int32 × Int32 × Int32 × Int32 × Wd → Option (Int32 × Wd)) (v1 : Int32) (v2 : Int32) (v3 : Int32) (v4 : Int32) (v5 : Int32) (v6 : Int32) (w : Wd) : Option (Int32 × Wd) :=
  f_X11_ruleFor_110 rc_3 v1 v2 v3 v4 v5 v6 (0 : Int32) w
def f_X11_ruleFor_97 (rc_3 : Int32 × Int32 × Int32 × Int32 × Wd → Option (Int32 × Wd)) (v1 : Int32) (v2 : Int32) (v3 : Int32) (v4 : Int32) (v5 : Int32) (v6 : Int32) (t1 : Nat) (t2 : Int32) (t3 : Int32) (t4 : Int32) (w : Wd) : Option (Int32 × Wd) :=
  bd (f_X11_stand t1 t2 t3 t4 v6 w) (fun x2 w1 => (if x2 = 0 then f_X11_ruleFor_109 rc_3 v1 v2 v3 v4 v5 v6 w1 else f_X11_ruleFor_110 rc_3 v1 v2 v3 v4 v5 v6 (1 : Int32) w1))
def f_X11_ruleFor_52 (rc_3 : Int32 × Int32 × Int32 × Int32 × Wd → Option (Int32 × Wd)) (v1 : Int32) (v2 : Int32) (v3 : Int32) (v4 : Int32) (v5 : Int32) (t0 : Int32) (w : Wd) : Option (Int32 × Wd) :=
  ald w 714 v5 (fun x1 => (if x1 = v1 then (if t0 ≤ 0 then f_X11_ruleFor_109 rc_3 v1 v2 v3 v4 v5 t0 w else (if v3 = 0 then f_X11_ruleFor_97 rc_3 v1 v2 v3 v4 v5 t0 720 (w.1 713 11) v2 (v5 + (7 : Int32)) w else f_X11_ruleFor_97 rc_3 v1 v2 v3 v4 v5 t0 720 (w.1 713 11) v2 (v5 + (12 : Int32)) w)) else f_X11_ruleFor_109 rc_3 v1 v2 v3 v4 v5 t0 w))
def g_X11_ruleFor_3 (rc_3 : Int32 × Int32 × Int32 × Int32 × Wd → Option (Int32 × Wd)) (v1 : Int32) (v2 : Int32) (v3 : Int32) (v4 : Int32) (w : Wd) : Option (Int32 × Wd) :=
  ald w 714 (1557 : Int32) (fun x1 => (if x1 ≤ v4 then some ((-1 : Int32), w) else lt ((1558 : Int32) + ((15 : Int32) * v4)) (fun x2 => (if v3 = 0 then ald w 714 (x2 + (2 : Int32)) (fun x3 => f_X11_ruleFor_52 rc_3 v1 v2 v3 v4 x2 x3 w) else ald w 714 (x2 + (4 : Int32)) (fun x4 => f_X11_ruleFor_52 rc_3 v1 v2 v3 v4 x2 x4 w)))))
def f_X11_ruleFor_3  (v1 : Int32) (v2 : Int32) (v3 : Int32) (v4 : Int32) (w : Wd) : Option (Int32 × Wd) :=
  loopN (fun rc σ => g_X11_ruleFor_3 rc  σ.1 σ.2.1 σ.2.2.1 σ.2.2.2.1 σ.2.2.2.2) FU (v1, v2, v3, v4, w)
def f_X11_ruleFor  (v1 : Int32) (v2 : Int32) (v3 : Int32) (w : Wd) : Option (Int32 × Wd) :=
  f_X11_ruleFor_3 v1 v2 v3 (0 : Int32) w
/-! LetterTablesModel.passes -/
def g_X11_passes_202 (rc_202 : Int32 × Wd → Option (Int32 × Wd)) (v4 : Int32) (w : Wd) : Option (Int32 × Wd) :=
  (if (w.1 713 11) ≤ v4 then some ((1 : Int32), w) else ald w 741 v4 (fun x1 => ast w 720 v4 x1 (fun w2 => lt (v4 + (1 : Int32)) (fun x3 => rc_202 (x3, w2)))))
def f_X11_passes_202  (v4 : Int32) (w : Wd) : Option (Int32 × Wd) :=
  loopN (fun rc σ => g_X11_passes_202 rc  σ.1 σ.2) FU (v4, w)
def f_X11_passes_133 (rc_78 : Int32 × Int32 × Int32 × Int32 × Int32 × Int32 × Wd → Option (Int32 × Wd)) (v1 : Int32) (v2 : Int32) (v3 : Int32) (v4 : Int32) (v5 : Int32) (v6 : Int32) (t0 : Nat) (t1 : Int32) (t2 : Int32) (w : Wd) : Option (Int32 × Wd) :=
  ast w t0 t1 t2 (fun w1 => wr (setI w1 713 39 ((w1.1 713 39) + (1 : Int32))) (fun w2 => lt (v6 + (1 : Int32)) (fun x3 => rc_78 (v1, v2, v3, v4, v5, x3, w2))))
def f_X11_passes_129 (rc_78 : Int32 × Int32 × Int32 × Int32 × Int32 × Int32 × Wd → Option (Int32 × Wd)) (v1 : Int32) (v2 : Int32) (v3 : Int32) (v4 : Int32) (v5 : Int32) (v6 : Int32) (t0 : Nat) (t1 : Int32) (t2 : Nat) (t3 : Int32) (w : Wd) : Option (Int32 × Wd) :=
  ald w t2 (t3 + v6) (fun x1 => f_X11_passes_133 rc_78 v1 v2 v3 v4 v5 v6 t0 t1 x1 w)
def g_X11_passes_78 (rc_78 : Int32 × Int32 × Int32 × Int32 × Int32 × Int32 × Wd → Option (Int32 × Wd)) (rc_7 : Int32 × Int32 × Int32 × Wd → Option (Int32 × Wd)) (v1 : Int32) (v2 : Int32) (v3 : Int32) (v4 : Int32) (v5 : Int32) (v6 : Int32) (w : Wd) : Option (Int32 × Wd) :=
  (if v5 ≤ v6 then (if v4 = (-1 : Int32) then lt (v3 + (1 : Int32)) (fun x5 => rc_7 (v1, v2, x5, w)) else (if v2 = 0 then ald w 714 (v4 + (2 : Int32)) (fun x1 => lt (v3 + x1) (fun x2 => rc_7 (v1, v2, x2, w))) else ald w 714 (v4 + (4 : Int32)) (fun x3 => lt (v3 + x3) (fun x4 => rc_7 (v1, v2, x4, w))))) else (if v4 = (-1 : Int32) then ald w 720 v3 (fun x6 => f_X11_passes_133 rc_78 v1 v2 v3 v4 v5 v6 741 (w.1 713 39) x6 w) else (if v2 = 0 then f_X11_passes_129 rc_78 v1 v2 v3 v4 v5 v6 741 (w.1 713 39) 714 (v4 + (12 : Int32)) w else f_X11_passes_129 rc_78 v1 v2 v3 v4 v5 v6 741 (w.1 713 39) 714 (v4 + (7 : Int32)) w)))
def f_X11_passes_78 (rc_7 : Int32 × Int32 × Int32 × Wd → Option (Int32 × Wd)) (v1 : Int32) (v2 : Int32) (v3 : Int32) (v4 : Int32) (v5 : Int32) (v6 : Int32) (w : Wd) : Option (Int32 × Wd) :=
  loopN (fun rc σ => g_X11_passes_78 rc rc_7 σ.1 σ.2.1 σ.2.2.1 σ.2.2.2.1 σ.2.2.2.2.1 σ.2.2.2.2.2.1 σ.2.2.2.2.2.2) FU (v1, v2, v3, v4, v5, v6, w)
def f_X11_passes_59 (rc_7 : Int32 × Int32 × Int32 × Wd → Option (Int32 × Wd)) (v1 : Int32) (v2 : Int32) (v3 : Int32) (v4 : Int32) (t0 : Int32) (w : Wd) : Option (Int32 × Wd) :=
  (if ((w.1 713 39) + t0) ≤ (40 : Int32) then f_X11_passes_78 rc_7 v1 v2 v3 v4 t0 (0 : Int32) w else some ((0 : Int32), w))
def g_X11_passes_7 (rc_7 : Int32 × Int32 × Int32 × Wd → Option (Int32 × Wd)) (v1 : Int32) (v2 : Int32) (v3 : Int32) (w : Wd) : Option (Int32 × Wd) :=
  (if (w.1 713 11) ≤ v3 then wr (setI w 713 11 (w.1 713 39)) (fun w1 => f_X11_passes_202 (0 : Int32) w1) else bd (f_X11_ruleFor v1 v3 v2 w) (fun x3 w2 => (if x3 = (-1 : Int32) then f_X11_passes_59 rc_7 v1 v2 v3 x3 (1 : Int32) w2 else (if v2 = 0 then ald w2 714 (x3 + (4 : Int32)) (fun x4 => f_X11_passes_59 rc_7 v1 v2 v3 x3 x4 w2) else ald w2 714 (x3 + (2 : Int32)) (fun x5 => f_X11_passes_59 rc_7 v1 v2 v3 x3 x5 w2)))))
def f_X11_passes_7  (v1 : Int32) (v2 : Int32) (v3 : Int32) (w : Wd) : Option (Int32 × Wd) :=
  loopN (fun rc σ => g_X11_passes_7 rc  σ.1 σ.2.1 σ.2.2.1 σ.2.2.2) FU (v1, v2, v3, w)
def f_X11_passes  (v1 : Int32) (v2 : Int32) (w : Wd) : Option (Int32 × Wd) :=
  wr (setI w 713 39 (0 : Int32)) (fun w1 => f_X11_passes_7 v1 v2 (0 : Int32) w1)
/-! LetterTablesModel.transliterated -/
def f_X11_transliterated_39  (v2 : Int32) (t1 : Int32) (w : Wd) : Option (Int32 × Wd) :=
  bd (f_X11_passes t1 v2 w) (fun x2 w1 => (if x2 = 0 then some ((0 : Int32), w1) else some ((1 : Int32), w1)))
def f_X11_transliterated_22  (v2 : Int32) (t1 : Int32) (w : Wd) : Option (Int32 × Wd) :=
  bd (f_X11_passes t1 v2 w) (fun x2 w1 => (if x2 = 0 then some ((0 : Int32), w1) else (if v2 = 0 then f_X11_transliterated_39 v2 (1 : Int32) w1 else f_X11_transliterated_39 v2 (0 : Int32) w1)))
def f_X11_transliterated  (v1 : Int32) (v2 : Int32) (w : Wd) : Option (Int32 × Wd) :=
  ald w 717 v1 (fun x1 => bd (f_X11_loads v1 (0 : Int32) x1 w) (fun _ w2 => (if v2 = 0 then f_X11_transliterated_22 v2 (0 : Int32) w2 else f_X11_transliterated_22 v2 (1 : Int32) w2)))
/-! LetterTablesModel.transliterate -/
def g_X11_transliterate_83 (rc_83 : Int32 × Int32 × Wd → Option (Int32 × Wd)) (v2 : Int32) (v6 : Int32) (w : Wd) : Option (Int32 × Wd) :=
  (if (w.1 713 11) ≤ v6 then some (w.1 713 11, w) else ald w 720 v6 (fun x1 => ast w 716 (((40 : Int32) * v2) + v6) x1 (fun w2 => lt (v6 + (1 : Int32)) (fun x3 => rc_83 (v2, x3, w2)))))
def f_X11_transliterate_83  (v2 : Int32) (v6 : Int32) (w : Wd) : Option (Int32 × Wd) :=
  loopN (fun rc σ => g_X11_transliterate_83 rc  σ.1 σ.2.1 σ.2.2) FU (v2, v6, w)
def f_X11_transliterate_62  (v2 : Int32) (t1 : Int32) (w : Wd) : Option (Int32 × Wd) :=
  bd (f_X11_holds t1 w) (fun x2 w1 => (if x2 = 0 then some ((0 : Int32), w1) else ast w1 717 v2 (w1.1 713 11) (fun w3 => f_X11_transliterate_83 v2 (0 : Int32) w3)))
def f_X11_transliterate_40  (v2 : Int32) (v4 : Int32) (t0 : Int32) (w : Wd) : Option (Int32 × Wd) :=
  (if v4 = 0 then f_X11_transliterate_62 v2 (1 : Int32) w else (if t0 = 0 then f_X11_transliterate_62 v2 (2 : Int32) w else f_X11_transliterate_62 v2 (0 : Int32) w))
def f_X11_transliterate_39  (v2 : Int32) (v4 : Int32) (w : Wd) : Option (Int32 × Wd) :=
  f_X11_transliterate_40 v2 v4 (0 : Int32) w
def f_X11_transliterate_19  (v1 : Int32) (v2 : Int32) (v3 : Int32) (t0 : Int32) (w : Wd) : Option (Int32 × Wd) :=
  (if t0 = 0 then f_X11_transliterate_39 v2 t0 w else bd (f_X11_transliterated v1 v3 w) (fun x2 w1 => (if x2 = 0 then f_X11_transliterate_39 v2 t0 w1 else f_X11_transliterate_40 v2 t0 (1 : Int32) w1)))
def f_X11_transliterate_18  (v1 : Int32) (v2 : Int32) (v3 : Int32) (w : Wd) : Option (Int32 × Wd) :=
  f_X11_transliterate_19 v1 v2 v3 (0 : Int32) w
def f_X11_transliterate  (v1 : Int32) (v2 : Int32) (v3 : Int32) (w : Wd) : Option (Int32 × Wd) :=
  bd (f_X11_isSlot v1 w) (fun x2 w1 => (if x2 = 0 then f_X11_transliterate_18 v1 v2 v3 w1 else bd (f_X11_isSlot v2 w1) (fun x4 w3 => (if x4 = 0 then f_X11_transliterate_18 v1 v2 v3 w3 else f_X11_transliterate_19 v1 v2 v3 (1 : Int32) w3))))
/-! LetterTablesModel.classFor -/
def f_X11_classFor_83 (rc_2 : Int32 × Int32 × Int32 × Wd → Option (Int32 × Wd)) (v1 : Int32) (v2 : Int32) (v3 : Int32) (v4 : Int32) (t0 : Int32) (w : Wd) : Option (Int32 × Wd) :=
  ald w 714 (v4 + (1 : Int32)) (fun x1 => dv x1 (ald w 714 (v4 + (2 : Int32)) (fun x2 => ald w 714 (v4 + (3 : Int32)) (fun x3 => bd (f_X11_in (v2 - v2 / x1 * x1) x2 x3 w) (fun x5 w4 => (if x5 = 0 then lt (v3 + (1 : Int32)) (fun x6 => rc_2 (v1, v2, x6, w4)) else (if t0 = 0 then ald w4 714 v4 (fun x8 => some (x8, w4)) else lt (v3 + (1 : Int32)) (fun x7 => rc_2 (v1, v2, x7, w4)))))))))
def f_X11_classFor_82 (rc_2 : Int32 × Int32 × Int32 × Wd → Option (Int32 × Wd)) (v1 : Int32) (v2 : Int32) (v3 : Int32) (v4 : Int32) (w : Wd) : Option (Int32 × Wd) :=
  f_X11_classFor_83 rc_2 v1 v2 v3 v4 (0 : Int32) w
def g_X11_classFor_2 (rc_2 : Int32 × Int32 × Int32 × Wd → Option (Int32 × Wd)) (v1 : Int32) (v2 : Int32) (v3 : Int32) (w : Wd) : Option (Int32 × Wd) :=
  ald w 714 ((1678 : Int32) + v1) (fun x1 => (if x1 ≤ v3 then some ((-1 : Int32), w) else lt ((1680 : Int32) + ((7 : Int32) * (((4 : Int32) * v1) + v3))) (fun x2 => ald w 714 (x2 + (4 : Int32)) (fun x3 => (if x3 ≤ 0 then f_X11_classFor_82 rc_2 v1 v2 v3 x2 w else ald w 714 (x2 + (4 : Int32)) (fun x4 => dv x4 (ald w 714 (x2 + (5 : Int32)) (fun x5 => ald w 714 (x2 + (6 : Int32)) (fun x6 => bd (f_X11_in (v2 - v2 / x4 * x4) x5 x6 w) (fun x8 w7 => (if x8 = 0 then f_X11_classFor_82 rc_2 v1 v2 v3 x2 w7 else f_X11_classFor_83 rc_2 v1 v2 v3 x2 (1 : Int32) w7)))))))))))
def f_X11_classFor_2  (v1 : Int32) (v2 : Int32) (v3 : Int32) (w : Wd) : Option (Int32 × Wd) :=
  loopN (fun rc σ => g_X11_classFor_2 rc  σ.1 σ.2.1 σ.2.2.1 σ.2.2.2) FU (v1, v2, v3, w)
def f_X11_classFor  (v1 : Int32) (v2 : Int32) (w : Wd) : Option (Int32 × Wd) :=
  f_X11_classFor_2 v1 v2 (0 : Int32) w
/-! LetterTablesModel.classOf -/
def f_X11_classOf_28  (v1 : Int32) (v2 : Int32) (t1 : Int32) (w : Wd) : Option (Int32 × Wd) :=
  bd (f_X11_holds t1 w) (fun x2 w1 => (if x2 = 0 then some ((0 : Int32), w1) else bd (f_X11_classFor v1 v2 w1) (fun x4 w3 => some (x4, w3))))
def f_X11_classOf  (v1 : Int32) (v2 : Int32) (w : Wd) : Option (Int32 × Wd) :=
  bd (f_X11_isLanguage v1 w) (fun x2 w1 => (if x2 = 0 then f_X11_classOf_28 v1 v2 (1 : Int32) w1 else bd (f_X11_in v2 (0 : Int32) (999999 : Int32) w1) (fun x4 w3 => (if x4 = 0 then f_X11_classOf_28 v1 v2 (2 : Int32) w3 else f_X11_classOf_28 v1 v2 (0 : Int32) w3))))
/-! LetterTablesModel.puts -/
def f_X11_puts  (v1 : Int32) (w : Wd) : Option (Unit × Wd) :=
  (if (200 : Int32) ≤ (w.1 713 9) then some ((), w) else ast w 719 (w.1 713 9) v1 (fun w1 => wr (setI w1 713 9 ((w1.1 713 9) + (1 : Int32))) (fun w2 => some ((), w2))))
/-! LetterTablesModel.putsNumber -/
def g_X11_putsNumber_18 (rc_18 : Int32 × Int32 × Wd → Option (Unit × Wd)) (v1 : Int32) (v2 : Int32) (w : Wd) : Option (Unit × Wd) :=
  (if v2 ≤ 0 then some ((), w) else dv v2 (bd (f_X11_puts ((48 : Int32) + ((v1 / v2) - (v1 / v2) / (10 : Int32) * (10 : Int32))) w) (fun _ w1 => lt (v2 / (10 : Int32)) (fun x2 => rc_18 (v1, x2, w1)))))
def f_X11_putsNumber_18  (v1 : Int32) (v2 : Int32) (w : Wd) : Option (Unit × Wd) :=
  loopN (fun rc σ => g_X11_putsNumber_18 rc  σ.1 σ.2.1 σ.2.2) FU (v1, v2, w)
def g_X11_putsNumber_2 (rc_2 : Int32 × Int32 × Wd → Option (Unit × Wd)) (v1 : Int32) (v2 : Int32) (w : Wd) : Option (Unit × Wd) :=
  dv v2 ((if (v1 / v2) ≤ (9 : Int32) then f_X11_putsNumber_18 v1 v2 w else lt (v2 * (10 : Int32)) (fun x1 => rc_2 (v1, x1, w))))
def f_X11_putsNumber_2  (v1 : Int32) (v2 : Int32) (w : Wd) : Option (Unit × Wd) :=
  loopN (fun rc σ => g_X11_putsNumber_2 rc  σ.1 σ.2.1 σ.2.2) FU (v1, v2, w)
def f_X11_putsNumber  (v1 : Int32) (w : Wd) : Option (Unit × Wd) :=
  f_X11_putsNumber_2 v1 (1 : Int32) w
/-! LetterTablesModel.readsCase -/
def f_X11_readsCase_233  (t0 : Int32) (w : Wd) : Option (Int32 × Wd) :=
  wr (setI w 713 44 ((w.1 713 44) + (1 : Int32))) (fun w1 => some (t0, w1))
def f_X11_readsCase_232   (w : Wd) : Option (Int32 × Wd) :=
  f_X11_readsCase_233 (0 : Int32) w
def f_X11_readsCase_213  (v4 : Int32) (t0 : Nat) (t1 : Int32) (t2 : Int32) (w : Wd) : Option (Int32 × Wd) :=
  ast w t0 t1 t2 (fun w1 => (if v4 = 0 then f_X11_readsCase_232 w1 else bd (f_X11_taping w1) (fun x3 w2 => (if x3 = (61 : Int32) then f_X11_readsCase_233 (1 : Int32) w2 else f_X11_readsCase_232 w2))))
def f_X11_readsCase_188  (v2 : Int32) (v4 : Int32) (v7 : Int32) (t0 : Nat) (t1 : Int32) (t2 : Int32) (w : Wd) : Option (Int32 × Wd) :=
  ast w t0 t1 t2 (fun w1 => ald w1 743 v2 (fun x2 => (if x2 = 0 then (if v7 = 0 then f_X11_readsCase_213 v4 743 v2 (0 : Int32) w1 else f_X11_readsCase_213 v4 743 v2 (1 : Int32) w1) else f_X11_readsCase_213 v4 743 v2 (1 : Int32) w1)))
def f_X11_readsCase_187  (v2 : Int32) (v4 : Int32) (v7 : Int32) (t0 : Nat) (t1 : Int32) (w : Wd) : Option (Int32 × Wd) :=
  f_X11_readsCase_188 v2 v4 v7 t0 t1 (0 : Int32) w
def f_X11_readsCase_164  (v2 : Int32) (v4 : Int32) (v7 : Int32) (w : Wd) : Option (Int32 × Wd) :=
  (if v7 = 0 then f_X11_readsCase_187 v2 v4 v7 744 v2 w else ald w 743 v2 (fun x1 => (if x1 = 0 then f_X11_readsCase_188 v2 v4 v7 744 v2 (1 : Int32) w else f_X11_readsCase_187 v2 v4 v7 744 v2 w)))
def f_X11_readsCase_152  (v2 : Int32) (v4 : Int32) (t0 : Int32) (w : Wd) : Option (Int32 × Wd) :=
  wr (setI w 713 44 ((w.1 713 44) + (1 : Int32))) (fun w1 => f_X11_readsCase_164 v2 v4 t0 w1)
def f_X11_readsCase_114  (v2 : Int32) (v3 : Int32) (v4 : Int32) (v5 : Int32) (t0 : Int32) (w : Wd) : Option (Int32 × Wd) :=
  (if v3 = (35 : Int32) then bd (f_X11_taping w) (fun x2 w1 => bd (f_X11_in x2 (48 : Int32) (51 : Int32) w1) (fun x4 w3 => bd (f_X11_taping w3) (fun x6 w5 => (if v5 = (x6 - (48 : Int32)) then f_X11_readsCase_152 v2 x4 (1 : Int32) w5 else f_X11_readsCase_152 v2 x4 (0 : Int32) w5)))) else f_X11_readsCase_164 v2 v4 t0 w)
def f_X11_readsCase_113  (v2 : Int32) (v3 : Int32) (v4 : Int32) (v5 : Int32) (w : Wd) : Option (Int32 × Wd) :=
  f_X11_readsCase_114 v2 v3 v4 v5 (0 : Int32) w
def f_X11_readsCase_97  (v2 : Int32) (v3 : Int32) (v4 : Int32) (v5 : Int32) (v6 : Int32) (w : Wd) : Option (Int32 × Wd) :=
  (if v3 = (109 : Int32) then (if v6 = (2 : Int32) then f_X11_readsCase_114 v2 v3 v4 v5 (1 : Int32) w else f_X11_readsCase_113 v2 v3 v4 v5 w) else f_X11_readsCase_113 v2 v3 v4 v5 w)
def f_X11_readsCase_85  (v2 : Int32) (v3 : Int32) (v4 : Int32) (v5 : Int32) (v6 : Int32) (w : Wd) : Option (Int32 × Wd) :=
  (if v3 = (102 : Int32) then (if v6 = (1 : Int32) then f_X11_readsCase_114 v2 v3 v4 v5 (1 : Int32) w else f_X11_readsCase_97 v2 v3 v4 v5 v6 w) else f_X11_readsCase_97 v2 v3 v4 v5 v6 w)
def f_X11_readsCase_44  (v1 : Int32) (v2 : Int32) (v3 : Int32) (t0 : Int32) (w : Wd) : Option (Int32 × Wd) :=
  ald w 742 v2 (fun x1 => ald w 745 x1 (fun x2 => bd (f_X11_classFor v1 x2 w) (fun x4 w3 => (if v3 = (120 : Int32) then f_X11_readsCase_114 v2 v3 t0 x2 (1 : Int32) w3 else (if v3 = (111 : Int32) then (if x4 = 0 then f_X11_readsCase_114 v2 v3 t0 x2 (1 : Int32) w3 else f_X11_readsCase_85 v2 v3 t0 x2 x4 w3) else f_X11_readsCase_85 v2 v3 t0 x2 x4 w3)))))
def f_X11_readsCase  (v1 : Int32) (v2 : Int32) (w : Wd) : Option (Int32 × Wd) :=
  bd (f_X11_taping w) (fun x2 w1 => wr (setI w1 713 44 ((w1.1 713 44) + (1 : Int32))) (fun w3 => (if x2 = (111 : Int32) then f_X11_readsCase_44 v1 v2 x2 (1 : Int32) w3 else (if x2 = (102 : Int32) then f_X11_readsCase_44 v1 v2 x2 (1 : Int32) w3 else (if x2 = (109 : Int32) then f_X11_readsCase_44 v1 v2 x2 (1 : Int32) w3 else (if x2 = (120 : Int32) then f_X11_readsCase_44 v1 v2 x2 (1 : Int32) w3 else f_X11_readsCase_44 v1 v2 x2 (0 : Int32) w3))))))
/-! LetterTablesModel.isHeard -/
def f_X11_isHeard_26 (rc_4 : Int32 × Int32 × Int32 × Wd → Option (Int32 × Wd)) (v1 : Int32) (v3 : Int32) (w : Wd) : Option (Int32 × Wd) :=
  lt (v3 + (1 : Int32)) (fun x1 => rc_4 (v1, (0 : Int32), x1, w))
def g_X11_isHeard_4 (rc_4 : Int32 × Int32 × Int32 × Wd → Option (Int32 × Wd)) (v1 : Int32) (v2 : Int32) (v3 : Int32) (w : Wd) : Option (Int32 × Wd) :=
  (if v1 < v3 then some (v2, w) else (if v2 = 0 then f_X11_isHeard_26 rc_4 v1 v3 w else ald w 744 v3 (fun x1 => (if x1 = 0 then f_X11_isHeard_26 rc_4 v1 v3 w else lt (v3 + (1 : Int32)) (fun x2 => rc_4 (v1, (1 : Int32), x2, w))))))
def f_X11_isHeard_4  (v1 : Int32) (v2 : Int32) (v3 : Int32) (w : Wd) : Option (Int32 × Wd) :=
  loopN (fun rc σ => g_X11_isHeard_4 rc  σ.1 σ.2.1 σ.2.2.1 σ.2.2.2) FU (v1, v2, v3, w)
def f_X11_isHeard  (v1 : Int32) (w : Wd) : Option (Int32 × Wd) :=
  f_X11_isHeard_4 v1 (1 : Int32) (1 : Int32) w
/-! LetterTablesModel.readsMessage -/
def f_X11_readsMessage_206 (rc_7 : Int32 × Int32 × Int32 × Wd → Option (Int32 × Wd)) (v1 : Int32) (v2 : Int32) (v3 : Int32) (v4 : Int32) (w : Wd) : Option (Int32 × Wd) :=
  (if v4 = (125 : Int32) then lt (v3 - (1 : Int32)) (fun x2 => rc_7 (v1, v2, x2, w)) else lt (v3 - (0 : Int32)) (fun x1 => rc_7 (v1, v2, x1, w)))
def f_X11_readsMessage_184 (rc_7 : Int32 × Int32 × Int32 × Wd → Option (Int32 × Wd)) (v1 : Int32) (v2 : Int32) (v3 : Int32) (v4 : Int32) (w : Wd) : Option (Int32 × Wd) :=
  (if v3 = 0 then some ((0 : Int32), w) else (if v4 = (124 : Int32) then bd (f_X11_readsCase v1 v3 w) (fun x2 w1 => (if x2 = 0 then some ((0 : Int32), w1) else f_X11_readsMessage_206 rc_7 v1 v2 v3 v4 w1)) else f_X11_readsMessage_206 rc_7 v1 v2 v3 v4 w))
def f_X11_readsMessage_108 (rc_7 : Int32 × Int32 × Int32 × Wd → Option (Int32 × Wd)) (v1 : Int32) (v2 : Int32) (v3 : Int32) (v5 : Int32) (v6 : Int32) (w : Wd) : Option (Int32 × Wd) :=
  (if v6 = (58 : Int32) then lt (v3 + (1 : Int32)) (fun x5 => ast w 742 x5 v5 (fun w6 => ast w6 743 x5 (0 : Int32) (fun w7 => bd (f_X11_readsCase v1 x5 w7) (fun x9 w8 => (if x9 = 0 then some ((0 : Int32), w8) else rc_7 (v1, v2, x5, w8)))))) else (if v2 = 0 then rc_7 (v1, v2, v3, w) else bd (f_X11_isHeard v3 w) (fun x2 w1 => (if x2 = 0 then rc_7 (v1, v2, v3, w1) else ald w1 745 v5 (fun x3 => bd (f_X11_putsNumber x3 w1) (fun _ w4 => rc_7 (v1, v2, v3, w4)))))))
def g_X11_readsMessage_7 (rc_7 : Int32 × Int32 × Int32 × Wd → Option (Int32 × Wd)) (v1 : Int32) (v2 : Int32) (v3 : Int32) (w : Wd) : Option (Int32 × Wd) :=
  (if (w.1 713 7) ≤ (w.1 713 44) then (if v3 = 0 then some ((1 : Int32), w) else some ((0 : Int32), w)) else bd (f_X11_taping w) (fun x2 w1 => wr (setI w1 713 44 ((w1.1 713 44) + (1 : Int32))) (fun w3 => (if x2 = (123 : Int32) then bd (f_X11_taping w3) (fun x10 w9 => lt (x10 - (48 : Int32)) (fun x11 => wr (setI w9 713 44 ((w9.1 713 44) + (1 : Int32))) (fun w12 => bd (f_X11_taping w12) (fun x14 w13 => wr (setI w13 713 44 ((w13.1 713 44) + (1 : Int32))) (fun w15 => bd (f_X11_in x11 (0 : Int32) (3 : Int32) w15) (fun x17 w16 => (if x17 = 0 then some ((0 : Int32), w16) else (if x14 = (125 : Int32) then f_X11_readsMessage_108 rc_7 v1 v2 v3 x11 x14 w16 else (if x14 = (58 : Int32) then (if v3 = (6 : Int32) then some ((0 : Int32), w16) else f_X11_readsMessage_108 rc_7 v1 v2 v3 x11 x14 w16) else some ((0 : Int32), w16)))))))))) else (if x2 = (124 : Int32) then f_X11_readsMessage_184 rc_7 v1 v2 v3 x2 w3 else (if x2 = (125 : Int32) then f_X11_readsMessage_184 rc_7 v1 v2 v3 x2 w3 else bd (f_X11_in x2 (32 : Int32) (126 : Int32) w3) (fun x5 w4 => (if x5 = 0 then some ((0 : Int32), w4) else (if v2 = 0 then rc_7 (v1, v2, v3, w4) else bd (f_X11_isHeard v3 w4) (fun x7 w6 => (if x7 = 0 then rc_7 (v1, v2, v3, w6) else bd (f_X11_puts x2 w6) (fun _ w8 => rc_7 (v1, v2, v3, w8)))))))))))))
def f_X11_readsMessage_7  (v1 : Int32) (v2 : Int32) (v3 : Int32) (w : Wd) : Option (Int32 × Wd) :=
  loopN (fun rc σ => g_X11_readsMessage_7 rc  σ.1 σ.2.1 σ.2.2.1 σ.2.2.2) FU (v1, v2, v3, w)
def f_X11_readsMessage  (v1 : Int32) (v2 : Int32) (w : Wd) : Option (Int32 × Wd) :=
  wr (setI w 713 44 (0 : Int32)) (fun w1 => f_X11_readsMessage_7 v1 v2 (0 : Int32) w1)
/-! LetterTablesModel.message -/
def f_X11_message_155  (t1 : Int32) (w : Wd) : Option (Int32 × Wd) :=
  bd (f_X11_holds t1 w) (fun x2 w1 => (if x2 = 0 then some ((0 : Int32), w1) else some (w1.1 713 9, w1)))
def f_X11_message_139  (v7 : Int32) (w : Wd) : Option (Int32 × Wd) :=
  wr (setI w 713 7 (0 : Int32)) (fun w1 => (if v7 = 0 then f_X11_message_155 (3 : Int32) w1 else f_X11_message_155 (0 : Int32) w1))
def f_X11_message_75  (v1 : Int32) (v2 : Int32) (v3 : Int32) (v4 : Int32) (v5 : Int32) (t1 : Int32) (w : Wd) : Option (Int32 × Wd) :=
  bd (f_X11_holds t1 w) (fun x2 w1 => (if x2 = 0 then some ((0 : Int32), w1) else ast w1 745 (0 : Int32) v2 (fun w3 => ast w3 745 (1 : Int32) v3 (fun w4 => ast w4 745 (2 : Int32) v4 (fun w5 => ast w5 745 (3 : Int32) v5 (fun w6 => bd (f_X11_readsMessage v1 (0 : Int32) w6) (fun x8 w7 => (if x8 = 0 then f_X11_message_139 x8 w7 else wr (setI w7 713 9 (0 : Int32)) (fun w9 => bd (f_X11_readsMessage v1 (1 : Int32) w9) (fun x11 w10 => f_X11_message_139 x11 w10))))))))))
def f_X11_message_51  (v1 : Int32) (v2 : Int32) (v3 : Int32) (v4 : Int32) (v5 : Int32) (t0 : Int32) (w : Wd) : Option (Int32 × Wd) :=
  bd (f_X11_isLanguage v1 w) (fun x2 w1 => (if x2 = 0 then f_X11_message_75 v1 v2 v3 v4 v5 (1 : Int32) w1 else (if t0 = 0 then f_X11_message_75 v1 v2 v3 v4 v5 (2 : Int32) w1 else f_X11_message_75 v1 v2 v3 v4 v5 (0 : Int32) w1)))
def f_X11_message_50  (v1 : Int32) (v2 : Int32) (v3 : Int32) (v4 : Int32) (v5 : Int32) (w : Wd) : Option (Int32 × Wd) :=
  f_X11_message_51 v1 v2 v3 v4 v5 (0 : Int32) w
def f_X11_message  (v1 : Int32) (v2 : Int32) (v3 : Int32) (v4 : Int32) (v5 : Int32) (w : Wd) : Option (Int32 × Wd) :=
  bd (f_X11_in v2 (0 : Int32) (999999 : Int32) w) (fun x2 w1 => (if x2 = 0 then f_X11_message_50 v1 v2 v3 v4 v5 w1 else bd (f_X11_in v3 (0 : Int32) (999999 : Int32) w1) (fun x4 w3 => (if x4 = 0 then f_X11_message_50 v1 v2 v3 v4 v5 w3 else bd (f_X11_in v4 (0 : Int32) (999999 : Int32) w3) (fun x6 w5 => (if x6 = 0 then f_X11_message_50 v1 v2 v3 v4 v5 w5 else bd (f_X11_in v5 (0 : Int32) (999999 : Int32) w5) (fun x8 w7 => (if x8 = 0 then f_X11_message_50 v1 v2 v3 v4 v5 w7 else f_X11_message_51 v1 v2 v3 v4 v5 (1 : Int32) w7))))))))
/-! LetterTablesModel.word -/
def f_X11_word_64 (rc_10 : Int32 × Int64 × Int32 × Wd → Option (Int64 × Wd)) (v1 : Int32) (v4 : Int32) (t0 : Int64) (t1 : Int64) (w : Wd) : Option (Int64 × Wd) :=
  lt (t0 ||| t1) (fun y1 => lt (v4 + (1 : Int32)) (fun x2 => rc_10 (v1, y1, x2, w)))
def g_X11_word_10 (rc_10 : Int32 × Int64 × Int32 × Wd → Option (Int64 × Wd)) (v1 : Int32) (v2 : Int64) (v4 : Int32) (w : Wd) : Option (Int64 × Wd) :=
  (if (8 : Int32) ≤ v4 then some (v2, w) else bd (f_X11_in v1 (0 : Int32) (25 : Int32) w) (fun x2 w1 => (if x2 = 0 then some (v2, w1) else lt (((8 : Int32) * v1) + v4) (fun x3 => (if (w1.1 713 9) ≤ x3 then f_X11_word_64 rc_10 v1 v4 v2 (0 : Int64) w1 else ald w1 719 x3 (fun x4 => f_X11_word_64 rc_10 v1 v4 v2 (x4.toInt64 <<< (((8 : Int32) * v4).toInt64 &&& 63)) w1))))))
def f_X11_word_10  (v1 : Int32) (v2 : Int64) (v4 : Int32) (w : Wd) : Option (Int64 × Wd) :=
  loopN (fun rc σ => g_X11_word_10 rc  σ.1 σ.2.1 σ.2.2.1 σ.2.2.2) FU (v1, v2, v4, w)
def f_X11_word  (v1 : Int32) (w : Wd) : Option (Int64 × Wd) :=
  wr (setI w 713 0 (0 : Int32)) (fun w1 => f_X11_word_10 v1 (0 : Int64) (0 : Int32) w1)
/-! LetterTablesModel.encode -/
def f_X11_encode_88 (rc_30 : Int32 × Int32 × Int32 × Wd → Option (Int32 × Wd)) (v1 : Int32) (v2 : Int32) (v3 : Int32) (v4 : Int32) (w : Wd) : Option (Int32 × Wd) :=
  bd (f_X11_puts ((32 : Int32) + (v4 - v4 / (64 : Int32) * (64 : Int32))) w) (fun _ w1 => lt (v3 + (1 : Int32)) (fun x2 => rc_30 (v1, v2, x2, w1)))
def f_X11_encode_82 (rc_30 : Int32 × Int32 × Int32 × Wd → Option (Int32 × Wd)) (v1 : Int32) (v3 : Int32) (v4 : Int32) (v5 : Int32) (t1 : Int32) (w : Wd) : Option (Int32 × Wd) :=
  bd (f_X11_puts t1 w) (fun _ w1 => f_X11_encode_88 rc_30 v1 v5 v3 v4 w1)
def f_X11_encode_60 (rc_30 : Int32 × Int32 × Int32 × Wd → Option (Int32 × Wd)) (v1 : Int32) (v2 : Int32) (v3 : Int32) (v4 : Int32) (t0 : Int32) (w : Wd) : Option (Int32 × Wd) :=
  (if t0 = v2 then f_X11_encode_88 rc_30 v1 v2 v3 v4 w else (if t0 = (1 : Int32) then f_X11_encode_82 rc_30 v1 v3 v4 t0 (14 : Int32) w else f_X11_encode_82 rc_30 v1 v3 v4 t0 (15 : Int32) w))
def g_X11_encode_30 (rc_30 : Int32 × Int32 × Int32 × Wd → Option (Int32 × Wd)) (v1 : Int32) (v2 : Int32) (v3 : Int32) (w : Wd) : Option (Int32 × Wd) :=
  ald w 717 v1 (fun x1 => (if x1 ≤ v3 then (if v2 = (1 : Int32) then bd (f_X11_puts (15 : Int32) w) (fun _ w2 => some (w2.1 713 9, w2)) else some (w.1 713 9, w)) else bd (f_X11_letterAt v1 v3 w) (fun x4 w3 => (if x4 ≤ (63 : Int32) then f_X11_encode_60 rc_30 v1 v2 v3 x4 (0 : Int32) w3 else f_X11_encode_60 rc_30 v1 v2 v3 x4 (1 : Int32) w3))))
def f_X11_encode_30  (v1 : Int32) (v2 : Int32) (v3 : Int32) (w : Wd) : Option (Int32 × Wd) :=
  loopN (fun rc σ => g_X11_encode_30 rc  σ.1 σ.2.1 σ.2.2.1 σ.2.2.2) FU (v1, v2, v3, w)
def f_X11_encode_13  (v1 : Int32) (t1 : Int32) (w : Wd) : Option (Int32 × Wd) :=
  bd (f_X11_holds t1 w) (fun x2 w1 => (if x2 = 0 then some ((0 : Int32), w1) else wr (setI w1 713 9 (0 : Int32)) (fun w3 => f_X11_encode_30 v1 (0 : Int32) (0 : Int32) w3)))
def f_X11_encode  (v1 : Int32) (w : Wd) : Option (Int32 × Wd) :=
  bd (f_X11_isSlot v1 w) (fun x2 w1 => (if x2 = 0 then f_X11_encode_13 v1 (1 : Int32) w1 else f_X11_encode_13 v1 (0 : Int32) w1))
/-! LetterTablesModel.decodes -/
def f_X11_decodes_44 (rc_11 : Int32 × Int32 × Int32 × Int32 × Int32 × Int32 × Wd → Option (Int32 × Wd)) (v1 : Int32) (v2 : Int32) (v4 : Int32) (v5 : Int32) (v6 : Int32) (w : Wd) : Option (Int32 × Wd) :=
  ald w 718 v6 (fun x1 => (if x1 = (14 : Int32) then lt (v6 + (1 : Int32)) (fun x3 => rc_11 (v1, v2, (1 : Int32), v4, v5, x3, w)) else lt (v6 + (1 : Int32)) (fun x2 => rc_11 (v1, v2, (0 : Int32), v4, v5, x2, w))))
def f_X11_decodes_144 (rc_11 : Int32 × Int32 × Int32 × Int32 × Int32 × Int32 × Wd → Option (Int32 × Wd)) (v1 : Int32) (v2 : Int32) (v3 : Int32) (v4 : Int32) (v5 : Int32) (v6 : Int32) (t0 : Nat) (t1 : Int32) (t2 : Int32) (w : Wd) : Option (Int32 × Wd) :=
  ast w t0 t1 t2 (fun w1 => lt (v4 + (1 : Int32)) (fun x2 => lt (v6 + (1 : Int32)) (fun x3 => rc_11 (v1, v2, v3, x2, v5, x3, w1))))
def f_X11_decodes_102 (rc_11 : Int32 × Int32 × Int32 × Int32 × Int32 × Int32 × Wd → Option (Int32 × Wd)) (v1 : Int32) (v2 : Int32) (v3 : Int32) (v4 : Int32) (v6 : Int32) (v7 : Int32) (t0 : Int32) (t1 : Int32) (w : Wd) : Option (Int32 × Wd) :=
  lt (t0 + t1) (fun x1 => (if v2 = 0 then lt (v4 + (1 : Int32)) (fun x2 => lt (v6 + (1 : Int32)) (fun x3 => rc_11 (v1, v2, v3, x2, x1, x3, w))) else (if v7 = 0 then f_X11_decodes_144 rc_11 v1 v2 v3 v4 x1 v6 716 (((40 : Int32) * v1) + v4) (0 : Int32) w else ald w 718 v6 (fun x4 => f_X11_decodes_144 rc_11 v1 v2 v3 v4 x1 v6 716 (((40 : Int32) * v1) + v4) ((x4 - (32 : Int32)) + ((64 : Int32) * v3)) w))))
def f_X11_decodes_85 (rc_11 : Int32 × Int32 × Int32 × Int32 × Int32 × Int32 × Wd → Option (Int32 × Wd)) (v1 : Int32) (v2 : Int32) (v3 : Int32) (v4 : Int32) (v5 : Int32) (v6 : Int32) (t0 : Int32) (t1 : Int32) (t2 : Int32) (w : Wd) : Option (Int32 × Wd) :=
  bd (f_X11_in t0 t1 t2 w) (fun x2 w1 => (if x2 = 0 then f_X11_decodes_102 rc_11 v1 v2 v3 v4 v6 x2 v5 (1 : Int32) w1 else f_X11_decodes_102 rc_11 v1 v2 v3 v4 v6 x2 v5 (0 : Int32) w1))
def g_X11_decodes_11 (rc_11 : Int32 × Int32 × Int32 × Int32 × Int32 × Int32 × Wd → Option (Int32 × Wd)) (v1 : Int32) (v2 : Int32) (v3 : Int32) (v4 : Int32) (v5 : Int32) (v6 : Int32) (w : Wd) : Option (Int32 × Wd) :=
  (if (w.1 713 7) ≤ v6 then some (v4 + ((1000 : Int32) * (v5 + v3)), w) else ald w 718 v6 (fun x1 => (if x1 = (14 : Int32) then f_X11_decodes_44 rc_11 v1 v2 v4 v5 v6 w else ald w 718 v6 (fun x2 => (if x2 = (15 : Int32) then f_X11_decodes_44 rc_11 v1 v2 v4 v5 v6 w else ald w 718 v6 (fun x3 => (if v3 = 0 then f_X11_decodes_85 rc_11 v1 v2 v3 v4 v5 v6 x3 (32 : Int32) (95 : Int32) w else f_X11_decodes_85 rc_11 v1 v2 v3 v4 v5 v6 x3 (32 : Int32) (63 : Int32) w)))))))
def f_X11_decodes_11  (v1 : Int32) (v2 : Int32) (v3 : Int32) (v4 : Int32) (v5 : Int32) (v6 : Int32) (w : Wd) : Option (Int32 × Wd) :=
  loopN (fun rc σ => g_X11_decodes_11 rc  σ.1 σ.2.1 σ.2.2.1 σ.2.2.2.1 σ.2.2.2.2.1 σ.2.2.2.2.2.1 σ.2.2.2.2.2.2) FU (v1, v2, v3, v4, v5, v6, w)
def f_X11_decodes  (v1 : Int32) (v2 : Int32) (w : Wd) : Option (Int32 × Wd) :=
  f_X11_decodes_11 v1 v2 (0 : Int32) (0 : Int32) (0 : Int32) (0 : Int32) w
/-! LetterTablesModel.decode -/
def f_X11_decode_68  (v2 : Int32) (w : Wd) : Option (Int32 × Wd) :=
  wr (setI w 713 7 (0 : Int32)) (fun w1 => (if (w1.1 713 0) ≤ 0 then some (v2 / (1000 : Int32), w1) else some ((0 : Int32), w1)))
def f_X11_decode_44  (v1 : Int32) (v2 : Int32) (t1 : Int32) (w : Wd) : Option (Int32 × Wd) :=
  bd (f_X11_holds t1 w) (fun x2 w1 => (if x2 = 0 then f_X11_decode_68 v2 w1 else ast w1 717 v1 (v2 - v2 / (1000 : Int32) * (1000 : Int32)) (fun w3 => bd (f_X11_decodes v1 (1 : Int32) w3) (fun x5 w4 => f_X11_decode_68 x5 w4))))
def f_X11_decode_13  (v1 : Int32) (t1 : Int32) (w : Wd) : Option (Int32 × Wd) :=
  bd (f_X11_holds t1 w) (fun x2 w1 => (if x2 = 0 then some ((0 : Int32), w1) else bd (f_X11_decodes v1 (0 : Int32) w1) (fun x4 w3 => (if (x4 - x4 / (1000 : Int32) * (1000 : Int32)) ≤ (40 : Int32) then f_X11_decode_44 v1 x4 (0 : Int32) w3 else f_X11_decode_44 v1 x4 (2 : Int32) w3))))
def f_X11_decode  (v1 : Int32) (w : Wd) : Option (Int32 × Wd) :=
  bd (f_X11_isSlot v1 w) (fun x2 w1 => (if x2 = 0 then f_X11_decode_13 v1 (1 : Int32) w1 else f_X11_decode_13 v1 (0 : Int32) w1))
