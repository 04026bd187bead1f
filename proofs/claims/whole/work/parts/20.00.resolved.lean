/-! the objects that are there once, at their places (0 the class, 1 its network, 8 the ways, 15 the sharing, 23 the round, 30 .. 37 the sheets, 38 the reference, 39 .. 76 its rows): static references as a table; the programs resolved by it -/
def stT : List (List Nat) := [[2, 7, 0, 8, 0, 9, 13, 0, 14, 0, 15, 0, 16, 0, 24, 0, 30], [3, 4, 5, 0, 6], [], [], [], [], [], [], [2, 10, 11, 12], [], [], [], [], [], [], [17, 0, 0, 0, 0, 18, 19, 20, 21, 22, 23], [], [], [], [], [], [], [], [2, 25, 26, 27, 28, 0, 29], [], [], [], [], [], [31, 33, 35, 37], [0, 0, 0, 32], [], [0, 0, 0, 34], [], [0, 0, 0, 36], [], [0, 0, 0, 38], [], [0, 0, 40, 41, 0, 42, 43, 44, 45, 46, 47, 48, 49, 50, 51, 0, 52, 53, 54, 55, 56, 0, 0, 57, 58, 59, 60, 61, 0, 62, 63, 0, 0, 0, 0, 64, 0, 65, 66, 67, 0, 68, 69, 0, 0, 0, 70, 0, 71, 72, 73, 0, 74, 75, 76, 77], [], [], [], [], [], [], [], [], [], [], [], [], [], [], [], [], [], [], [], [], [], [], [], [], [], [], [], [], [], [], [], [], [], [], [], [], [], []]
def stLn : List Nat := [0, 0, 16, 16, 256, 14, 12, 6, 0, 496, 496, 496, 4, 4, 6, 0, 8, 6, 6, 6, 48, 6561, 14, 0, 6, 6, 6, 6, 6, 4, 0, 60, 0, 60, 0, 60, 0, 60, 0, 16, 16, 14, 14, 112, 112, 14, 14, 14, 14, 14, 112, 12, 12, 12, 12, 4, 6, 6, 6, 6, 6, 1984, 496, 4, 4, 4, 4, 14, 14, 6, 6, 6, 6, 4, 4, 240, 60]
abbrev Dn : Type := Sk
def stPf (a k d : Nat) : Nat := match (stT.getD a []).getD k 0 with
  | 0 => d
  | r + 1 => r + 1
def stNf (a d : Nat) : Nat := match stLn.getD a 0 with
  | 0 => d
  | r + 1 => r + 1
def mkS (D : Dn) : Sk := (fun a k => stPf a k (D.1 a k), D.2.1, fun a => stNf a (D.2.2.1 a), D.2.2.2)
abbrev inbL (r n : Nat) (j : Int32) : Prop := r ≠ 0 ∧ ¬ j < 0 ∧ nx j < n
def rdN (I : II) (a : Nat) (j : Int32) : Int32 := I a (nx j)
def wrN (I : II) (a : Nat) (j v : Int32) : II := upI I a (nx j) v
def Rf_X2_walkFrom (fu : Nat) (S : Sk) (I : II) (x1 : Int32) (x2 : Int32) (x3 : Int32) : Option (Int32) :=
  gd (inbL 3 16 x1) (gd (inbL 4 16 x1) (some (((jabs ((rdN I 2 x1) - x2)) + (jabs ((rdN I 3 x1) - x3))))))
def Rl_X2_addStop_32 (fu : Nat) (S : Sk) (x1 : Int32) (x2 : Int32) (x3 : Int32) (self32 : Int32 → II → Option (Int32 × II)) (x4 : Int32) (I : II) : Option (Int32 × II) :=
  if (I 1 3) ≤ x4 then some ((x3, I)) else (Rf_X2_walkFrom fu S I x4 x1 x2).bind fun q3 => (gd (inbL 5 256 ((x4 * (16 : Int32)) + x3)) (lt (wrN I 4 ((x4 * (16 : Int32)) + x3) q3) fun I7 => ((Rf_X2_walkFrom fu S I7 x4 x1 x2).bind fun q9 => (gd (inbL 5 256 ((x3 * (16 : Int32)) + x4)) (lt (wrN I7 4 ((x3 * (16 : Int32)) + x4) q9) fun I13 => (self32 (x4 + (1 : Int32)) I13))))))
def Rf_X2_addStop (fu : Nat) (S : Sk) (I : II) (x1 : Int32) (x2 : Int32) : Option (Int32 × II) :=
  lt (I 1 3) fun x3_14 => (gd (inbL 3 16 x3_14) (lt (wrN I 2 x3_14 x1) fun I17 => (gd (inbL 4 16 x3_14) (lt (wrN I17 3 x3_14 x2) fun I20 => (lt (upI I20 1 3 ((I20 1 3) + (1 : Int32))) fun I21 => (fix2 (Rl_X2_addStop_32 fu S x1 x2 x3_14) fu (0 : Int32) I21))))))
def Rf_X2_addLine (fu : Nat) (S : Sk) (I : II) (r1 : Nat) : Option (Int32 × Sk × II) :=
  gd (inbL 6 14 (I 1 5)) (gd (r1 ≠ 0) (lt (upP S 5 (nx (I 1 5)) r1) fun S4 => (lt (upI I 1 5 ((I 1 5) + (1 : Int32))) fun I10 => (some ((((I10 1 5) - (1 : Int32)), S4, I10))))))
def Rf_X2_lineAt (fu : Nat) (S : Sk) (I : II) (x1 : Int32) : Option (Nat) :=
  if x1 < 0 then some (0) else if (I 1 5) ≤ x1 then some (0) else gd (inbL 6 14 x1) (some ((S.1 5 (nx x1))))
def Rf_X2_walk (fu : Nat) (S : Sk) (I : II) (x1 : Int32) (x2 : Int32) : Option (Int32) :=
  gd (inbL 5 256 ((x1 * (16 : Int32)) + x2)) (some ((rdN I 4 ((x1 * (16 : Int32)) + x2))))
def Rl_X2_refusalOf_38 (fu : Nat) (S : Sk) (I : II) (r1 : Nat) (self38 : Int32 → Int32 → Int32 → Option (Int32)) (x2 : Int32) (x3 : Int32) (x4 : Int32) : Option (Int32) :=
  gd (r1 ≠ 0) (if ((S.2.2.1 (r1 - 1)).toInt32) ≤ x4 then if x3 = 0 then some ((0 : Int32)) else some (((-3) : Int32)) else gd (inb S r1 x4) (if (t_X2_hasStop I 1 (rd I r1 x4)) = 0 then some (((-1) : Int32)) else lt (x3 ||| (t_X10_has x2 (rd I r1 x4))) fun x3_8 => (lt (x2 ||| ((1 : Int32) <<< ((rd I r1 x4) &&& 31))) fun x2_9 => (self38 x2_9 x3_8 (x4 + (2 : Int32))))))
def Rl_X2_refusalOf_2 (fu : Nat) (S : Sk) (I : II) (r1 : Nat) (self2 : Int32 → Option (Int32)) (x2 : Int32) : Option (Int32) :=
  gd (r1 ≠ 0) (if (((S.2.2.1 (r1 - 1)).toInt32) - (2 : Int32)) ≤ x2 then fix3 (Rl_X2_refusalOf_38 fu S I r1) fu (0 : Int32) (0 : Int32) (0 : Int32) else gd (inb S r1 x2) (if (t_X10_isWithin (rd I r1 x2) (1 : Int32) (30 : Int32)) = 0 then some (((-2) : Int32)) else self2 (x2 + (2 : Int32))))
def Rf_X2_refusalOf (fu : Nat) (S : Sk) (I : II) (r1 : Nat) : Option (Int32) :=
  fix1 (Rl_X2_refusalOf_2 fu S I r1) fu (1 : Int32)
def Rl_X2_running_4 (fu : Nat) (S : Sk) (I : II) (x1 : Int32) (self4 : Int32 → Int32 → Option (Int32)) (x2 : Int32) (x3 : Int32) : Option (Int32) :=
  if (I 1 5) ≤ x3 then some (x2) else gd (inbL 6 14 x3) (gd ((S.1 5 (nx x3)) ≠ 0) (lt (x2 ||| (t_X10_bitIf (t_X1_goesOn I ((S.1 5 (nx x3)) - 1) x1) x3)) fun x2_8 => (self4 x2_8 (x3 + (1 : Int32)))))
def Rf_X2_running (fu : Nat) (S : Sk) (I : II) (x1 : Int32) : Option (Int32) :=
  fix2 (Rl_X2_running_4 fu S I x1) fu (0 : Int32) (0 : Int32)
def Rj_X2_busesLeaving_54 (fu : Nat) (S : Sk) (I : II) (self5 : Int32 → Int32 → Option (Int32)) (x1 : Int32) (x2 : Int32) (x3 : Int32) (x4 : Int32) : Option (Int32) :=
  self5 x3 (x4 + (1 : Int32))
def Rl_X2_busesLeaving_5 (fu : Nat) (S : Sk) (I : II) (x1 : Int32) (x2 : Int32) (self5 : Int32 → Int32 → Option (Int32)) (x3 : Int32) (x4 : Int32) : Option (Int32) :=
  if (I 1 5) ≤ x4 then some (x3) else gd (inbL 6 14 x4) (gd ((S.1 5 (nx x4)) ≠ 0) (if (t_X1_goesOn I ((S.1 5 (nx x4)) - 1) x2) = 0 then Rj_X2_busesLeaving_54 fu S I self5 x1 x2 x3 x4 else (f_X1_placeOf fu S I ((S.1 5 (nx x4)) - 1) x1).bind fun q8 => (if (t_X1_leavesFrom I ((S.1 5 (nx x4)) - 1) q8) = 0 then Rj_X2_busesLeaving_54 fu S I self5 x1 x2 x3 x4 else (f_X1_buses fu S I ((S.1 5 (nx x4)) - 1)).bind fun q13 => (lt (x3 + q13) fun x3_16 => (Rj_X2_busesLeaving_54 fu S I self5 x1 x2 x3_16 x4)))))
def Rf_X2_busesLeaving (fu : Nat) (S : Sk) (I : II) (x1 : Int32) (x2 : Int32) : Option (Int32) :=
  fix2 (Rl_X2_busesLeaving_5 fu S I x1 x2) fu (0 : Int32) (0 : Int32)
def Rj_X2_busMinutes_42 (fu : Nat) (S : Sk) (I : II) (self4 : Int32 → Int32 → Option (Int32)) (x1 : Int32) (x2 : Int32) (x3 : Int32) : Option (Int32) :=
  self4 x2 (x3 + (1 : Int32))
def Rl_X2_busMinutes_4 (fu : Nat) (S : Sk) (I : II) (x1 : Int32) (self4 : Int32 → Int32 → Option (Int32)) (x2 : Int32) (x3 : Int32) : Option (Int32) :=
  if (I 1 5) ≤ x3 then some (x2) else if (t_X10_has x1 x3) = 0 then Rj_X2_busMinutes_42 fu S I self4 x1 x2 x3 else gd (inbL 6 14 x3) (gd ((S.1 5 (nx x3)) ≠ 0) ((f_X1_buses fu S I ((S.1 5 (nx x3)) - 1)).bind fun q8 => ((f_X1_roundMinutes fu S I ((S.1 5 (nx x3)) - 1)).bind fun q13 => (lt (x2 + (q8 * q13)) fun x2_16 => (Rj_X2_busMinutes_42 fu S I self4 x1 x2_16 x3)))))
def Rf_X2_busMinutes (fu : Nat) (S : Sk) (I : II) (x1 : Int32) : Option (Int32) :=
  fix2 (Rl_X2_busMinutes_4 fu S I x1) fu (0 : Int32) (0 : Int32)
def Rj_X2_lastBus_65 (fu : Nat) (S : Sk) (I : II) (self5 : Int32 → Int32 → Option (Int32)) (x1 : Int32) (x2 : Int32) (x3 : Int32) (x4 : Int32) : Option (Int32) :=
  self5 x3 (x4 + (1 : Int32))
def Rl_X2_lastBus_5 (fu : Nat) (S : Sk) (I : II) (x1 : Int32) (x2 : Int32) (self5 : Int32 → Int32 → Option (Int32)) (x3 : Int32) (x4 : Int32) : Option (Int32) :=
  if (I 1 5) ≤ x4 then some (x3) else gd (inbL 6 14 x4) (gd ((S.1 5 (nx x4)) ≠ 0) ((f_X1_placeOf fu S I ((S.1 5 (nx x4)) - 1) x1).bind fun q6 => (if q6 = ((-9) : Int32) then Rj_X2_lastBus_65 fu S I self5 x1 x2 x3 x4 else if (t_X1_goesOn I ((S.1 5 (nx x4)) - 1) x2) = 0 then Rj_X2_lastBus_65 fu S I self5 x1 x2 x3 x4 else (f_X1_lastBusAt fu S I ((S.1 5 (nx x4)) - 1) q6).bind fun q16 => (lt (jmax x3 q16) fun x3_19 => (Rj_X2_lastBus_65 fu S I self5 x1 x2 x3_19 x4)))))
def Rf_X2_lastBus (fu : Nat) (S : Sk) (I : II) (x1 : Int32) (x2 : Int32) : Option (Int32) :=
  fix2 (Rl_X2_lastBus_5 fu S I x1 x2) fu (0 : Int32) (0 : Int32)
def Rj_X2_firstBus_78 (fu : Nat) (S : Sk) (I : II) (self6 : Int32 → Int32 → Option (Int32)) (x1 : Int32) (x2 : Int32) (x3 : Int32) (x4 : Int32) : Option (Int32) :=
  self6 x3 (x4 + (1 : Int32))
def Rl_X2_firstBus_6 (fu : Nat) (S : Sk) (I : II) (x1 : Int32) (x2 : Int32) (self6 : Int32 → Int32 → Option (Int32)) (x3 : Int32) (x4 : Int32) : Option (Int32) :=
  if (I 1 5) ≤ x4 then some (x3) else gd (inbL 6 14 x4) (gd ((S.1 5 (nx x4)) ≠ 0) ((f_X1_placeOf fu S I ((S.1 5 (nx x4)) - 1) x1).bind fun q6 => (if q6 = ((-9) : Int32) then Rj_X2_firstBus_78 fu S I self6 x1 x2 x3 x4 else if (t_X1_goesOn I ((S.1 5 (nx x4)) - 1) x2) = 0 then Rj_X2_firstBus_78 fu S I self6 x1 x2 x3 x4 else gd (inb S (S.1 ((S.1 5 (nx x4)) - 1) 7) q6) (lt (jmin x3 ((I ((S.1 5 (nx x4)) - 1) 2) + (rd I (S.1 ((S.1 5 (nx x4)) - 1) 7) q6))) fun x3_20 => (Rj_X2_firstBus_78 fu S I self6 x1 x2 x3_20 x4)))))
def Rf_X2_firstBus (fu : Nat) (S : Sk) (I : II) (x1 : Int32) (x2 : Int32) : Option (Int32) :=
  fix2 (Rl_X2_firstBus_6 fu S I x1 x2) fu (1073741824 : Int32) (0 : Int32)
def Rj_X3_goOn_145 (fu : Nat) (S : Sk) (I : II) (rc : II → Int32 → Int32 → Int32 → Int32 → Option II) (self34 : Int32 → II → Option (II)) (x1 : Int32) (x2 : Int32) (x3 : Int32) (x4 : Int32) (x5 : Int32) : Option (II) :=
  self34 (x5 + (1 : Int32)) I
def Rl_X3_goOn_34 (fu : Nat) (S : Sk) (rc : II → Int32 → Int32 → Int32 → Int32 → Option II) (x1 : Int32) (x2 : Int32) (x3 : Int32) (x4 : Int32) (self34 : Int32 → II → Option (II)) (x5 : Int32) (I : II) : Option (II) :=
  if (I 23 5) ≤ x5 then some (I) else if (t_X10_has x4 x5) = 0 then gd (inbL 25 6 x5) (((Rf_X2_walk fu S I x2 (rdN I 24 x5)).bind fun q8 => (gd (inbL 26 6 x5) (lt (jmax (x3 + q8) (rdN I 25 x5)) fun x6_13 => (lt (x6_13 + (5 : Int32)) fun x7_14 => (gd (inbL 27 6 x5) (if (rdN I 26 x5) < x7_14 then Rj_X3_goOn_145 fu S I rc self34 x1 x2 x3 x4 x5 else if (I 23 7) ≤ x7_14 then Rj_X3_goOn_145 fu S I rc self34 x1 x2 x3 x4 x5 else gd (inbL 28 6 x1) (lt (wrN I 27 x1 (rdN I 24 x5)) fun I22 => ((rc I22 (x1 + (1 : Int32)) (rdN I22 24 x5) x7_14 (x4 ||| ((1 : Int32) <<< (x5 &&& 31)))).bind fun q24 => (Rj_X3_goOn_145 fu S q24 rc self34 x1 x2 x3 x4 x5)))))))))) else Rj_X3_goOn_145 fu S I rc self34 x1 x2 x3 x4 x5
def Ro_X3_goOn (fu : Nat) (S : Sk) (I : II) (rc : II → Int32 → Int32 → Int32 → Int32 → Option II) (x1 : Int32) (x2 : Int32) (x3 : Int32) (x4 : Int32) : Option (II) :=
  if x1 < (I 23 5) then fix2 (Rl_X3_goOn_34 fu S rc x1 x2 x3 x4) fu (0 : Int32) I else lt (upI I 23 7 x3) fun I28 => (gd (inC S 28 (0 : Int32) 29 (0 : Int32) (I28 23 5)) (lt (cpI I28 28 (0 : Int32) 29 (0 : Int32) (I28 23 5)) fun I32 => (some (I32))))
def Rf_X3_goOn (fu : Nat) (S : Sk) : Nat → II → Int32 → Int32 → Int32 → Int32 → Option (II)
  | 0, _, _, _, _, _ => none
  | dd + 1, I, x1, x2, x3, x4 => Ro_X3_goOn fu S I (Rf_X3_goOn fu S dd) x1 x2 x3 x4
def Rj_X3_plan_109 (fu : Nat) (S : Sk) (I : II) (x3 : Int32) (x4 : Int32) : Option (II) :=
  lt (upI I 23 7 (1073741824 : Int32)) fun I1 => ((f_X3_goOn fu S 23 8 I1 (0 : Int32) x3 x4 (0 : Int32)).bind fun q2 => (some (q2)))
def Rj_X3_plan_103 (fu : Nat) (S : Sk) (I : II) (self8 : Int32 → II → Option (II)) (x1 : Int32) (x2 : Int32) (x3 : Int32) (x4 : Int32) (x5 : Int32) : Option (II) :=
  self8 (x5 + (1 : Int32)) I
def Rl_X3_plan_8 (fu : Nat) (S : Sk) (x1 : Int32) (x2 : Int32) (x3 : Int32) (x4 : Int32) (self8 : Int32 → II → Option (II)) (x5 : Int32) (I : II) : Option (II) :=
  (if (I 1 3) ≤ x5 then Rj_X3_plan_109 fu S I x3 x4 else if (6 : Int32) ≤ (I 23 5) then Rj_X3_plan_109 fu S I x3 x4 else if (t_X10_has x1 x5) = 0 then Rj_X3_plan_103 fu S I self8 x1 x2 x3 x4 x5 else gd (inbL 25 6 (I 23 5)) (lt (wrN I 24 (I 23 5) x5) fun I13 => ((Rf_X2_lastBus fu S I13 x5 x2).bind fun q16 => (gd (inbL 26 6 (I13 23 5)) (lt (wrN I13 25 (I13 23 5) q16) fun I20 => ((Rf_X2_firstBus fu S I20 x5 (x2 + (1 : Int32))).bind fun q23 => (gd (inbL 27 6 (I20 23 5)) (lt (wrN I20 26 (I20 23 5) ((1440 : Int32) + q23)) fun I27 => (lt (upI I27 23 5 ((I27 23 5) + (1 : Int32))) fun I28 => (Rj_X3_plan_103 fu S I28 self8 x1 x2 x3 x4 x5))))))))))
def Rf_X3_plan (fu : Nat) (S : Sk) (I : II) (x1 : Int32) (x2 : Int32) (x3 : Int32) (x4 : Int32) : Option (II) :=
  lt (upI I 23 5 (0 : Int32)) fun I29 => (fix2 (Rl_X3_plan_8 fu S x1 x2 x3 x4) fu (0 : Int32) I29)
def Rj_X4_begin_76 (fu : Nat) (S : Sk) (I : II) (self35 : Int32 → II → Option (II)) (x1 : Int32) (x2 : Int32) : Option (II) :=
  self35 (x2 + (1 : Int32)) I
def Rl_X4_begin_35 (fu : Nat) (S : Sk) (x1 : Int32) (self35 : Int32 → II → Option (II)) (x2 : Int32) (I : II) : Option (II) :=
  if (14 : Int32) ≤ x2 then some (I) else if (t_X10_has x1 x2) = 0 then Rj_X4_begin_76 fu S I self35 x1 x2 else if (I 15 2) = 0 then gd (inbL 17 8 (I 15 1)) (lt (wrN I 16 (I 15 1) x2) fun I7 => (lt (upI I7 15 1 ((I7 15 1) + (1 : Int32))) fun I8 => (Rj_X4_begin_76 fu S I8 self35 x1 x2))) else Rj_X4_begin_76 fu S I self35 x1 x2
def Rj_X4_begin_15 (fu : Nat) (S : Sk) (I : II) (x1 : Int32) (s1 : Int32) : Option (II) :=
  gd (s1 = 0 ∨ s1 = 1) (lt (upI I 15 2 s1) fun I10 => (lt (upI I10 15 3 (0 : Int32)) fun I11 => (lt (upI I11 15 4 (1 : Int32)) fun I12 => (lt (upI I12 15 1 (0 : Int32)) fun I13 => (fix2 (Rl_X4_begin_35 fu S x1) fu (0 : Int32) I13)))))
def Rf_X4_begin (fu : Nat) (S : Sk) (I : II) (x1 : Int32) : Option (II) :=
  if (t_J6_bitCount_0f7a4 x1) ≤ (8 : Int32) then Rj_X4_begin_15 fu S I x1 (0 : Int32) else Rj_X4_begin_15 fu S I x1 (1 : Int32)
def Rf_X4_addPlace (fu : Nat) (S : Sk) (I : II) (x1 : Int32) : Option (II) :=
  if (6 : Int32) ≤ (I 15 3) then some (I) else gd (inbL 18 6 (I 15 3)) (lt (wrN I 17 (I 15 3) (jmin x1 (I 15 1))) fun I4 => (gd (inbL 20 6 (I4 15 3)) (lt (wrN I4 19 (I4 15 3) (0 : Int32)) fun I7 => (gd (inbL 19 6 (I7 15 3)) (lt (wrN I7 18 (I7 15 3) (I7 15 4)) fun I10 => (gd (inbL 18 6 (I10 15 3)) (lt (upI I10 15 4 (jmin (6561 : Int32) ((I10 15 4) * ((rdN I10 17 (I10 15 3)) + (1 : Int32))))) fun I13 => (lt (upI I13 15 3 ((I13 15 3) + (1 : Int32))) fun I14 => (some (I14))))))))))
def Rf_X4_setCost (fu : Nat) (S : Sk) (I : II) (x1 : Int32) (x2 : Int32) (x3 : Int32) : Option (II) :=
  gd (inbL 21 48 ((x1 * (6 : Int32)) + x2)) (lt (wrN I 20 ((x1 * (6 : Int32)) + x2) x3) fun I3 => (some (I3)))
def Rf_X4_leastWith (fu : Nat) (S : Sk) (I : II) (rc : II → Int32 → Int32 → Option (Int32 × II)) (x1 : Int32) (x2 : Int32) (x3 : Int32) : Option (Int32 × II) :=
  gd (inbL 20 6 x3) (gd (inbL 18 6 x3) (if (rdN I 19 x3) < (rdN I 17 x3) then lt (wrN I 19 x3 ((rdN I 19 x3) + (1 : Int32))) fun I7 => (gd (inbL 21 48 ((x1 * (6 : Int32)) + x3)) (gd (inbL 19 6 x3) ((rc I7 (x1 + (1 : Int32)) (x2 + (rdN I7 18 x3))).bind fun q12 => (lt ((rdN I7 20 ((x1 * (6 : Int32)) + x3)) + q12.1) fun x4_15 => (lt (wrN q12.2 19 x3 ((rdN q12.2 19 x3) - (1 : Int32))) fun I17 => (some ((x4_15, I17)))))))) else some (((1073741824 : Int32), I))))
def Rj_X4_leastFrom_61 (fu : Nat) (S : Sk) (I : II) (rc : II → Int32 → Int32 → Option (Int32 × II)) (x2 : Int32) : Option (Int32 × II) :=
  gd (inbL 22 6561 x2) (some (((rdN I 21 x2), I)))
def Rl_X4_leastFrom_26 (fu : Nat) (S : Sk) (rc : II → Int32 → Int32 → Option (Int32 × II)) (x1 : Int32) (x2 : Int32) (self26 : Int32 → Int32 → II → Option (Int32 × II)) (x3 : Int32) (x4 : Int32) (I : II) : Option (Int32 × II) :=
  if (I 15 3) ≤ x4 then gd (inbL 22 6561 x2) (lt (wrN I 21 x2 x3) fun I6 => (Rj_X4_leastFrom_61 fu S I6 rc x2)) else (Rf_X4_leastWith fu S I rc x1 x2 x4).bind fun q7 => (lt (jmin x3 q7.1) fun x3_10 => (self26 x3_10 (x4 + (1 : Int32)) q7.2))
def Ro_X4_leastFrom (fu : Nat) (S : Sk) (I : II) (rc : II → Int32 → Int32 → Option (Int32 × II)) (x1 : Int32) (x2 : Int32) : Option (Int32 × II) :=
  if x1 < (I 15 1) then gd (inbL 22 6561 x2) (if (rdN I 21 x2) = ((-1) : Int32) then fix3 (Rl_X4_leastFrom_26 fu S rc x1 x2) fu (1073741824 : Int32) (0 : Int32) I else Rj_X4_leastFrom_61 fu S I rc x2) else some (((0 : Int32), I))
def Rf_X4_leastFrom (fu : Nat) (S : Sk) : Nat → II → Int32 → Int32 → Option (Int32 × II)
  | 0, _, _, _ => none
  | dd + 1, I, x1, x2 => Ro_X4_leastFrom fu S I (Rf_X4_leastFrom fu S dd) x1 x2
def Rl_X4_firstBest_2 (fu : Nat) (S : Sk) (x1 : Int32) (x2 : Int32) (self2 : Int32 → II → Option (Int32 × II)) (x3 : Int32) (I : II) : Option (Int32 × II) :=
  if ((I 15 3) - (1 : Int32)) ≤ x3 then some ((((I 15 3) - (1 : Int32)), I)) else (f_X4_leastWith fu S I (f_X4_leastFrom fu S 15 10) 15 x1 x2 x3).bind fun q2 => ((f_X4_leastFrom fu S 15 10 q2.2 x1 x2).bind fun q5 => (if q2.1 = q5.1 then some ((x3, q5.2)) else self2 (x3 + (1 : Int32)) q5.2))
def Rf_X4_firstBest (fu : Nat) (S : Sk) (I : II) (x1 : Int32) (x2 : Int32) : Option (Int32 × II) :=
  fix2 (Rl_X4_firstBest_2 fu S x1 x2) fu (0 : Int32) I
def Rl_X4_chooseFirst_13 (fu : Nat) (S : Sk) (self13 : Int32 → Int32 → II → Option (II)) (x1 : Int32) (x2 : Int32) (I : II) : Option (II) :=
  if (I 15 1) ≤ x2 then some (I) else (Rf_X4_firstBest fu S I x2 x1).bind fun q2 => (lt q2.1 fun x3_5 => (gd (inbL 17 8 x2) (gd (inbL 23 14 (rdN q2.2 16 x2)) (lt (wrN q2.2 22 (rdN q2.2 16 x2) x3_5) fun I10 => (gd (inbL 20 6 x3_5) (lt (wrN I10 19 x3_5 ((rdN I10 19 x3_5) + (1 : Int32))) fun I13 => (gd (inbL 19 6 x3_5) (lt (x1 + (rdN I13 18 x3_5)) fun x1_16 => (self13 x1_16 (x2 + (1 : Int32)) I13)))))))))
def Rf_X4_chooseFirst (fu : Nat) (S : Sk) (I : II) : Option (II) :=
  (f_J7_fill_53178 fu S I 23 ((-9) : Int32)).bind fun q18 => (fix3 (Rl_X4_chooseFirst_13 fu S) fu (0 : Int32) (0 : Int32) q18)
def Rl_X4_answer_12 (fu : Nat) (S : Sk) (x1 : Int32) (self12 : Int32 → II → Option (Int32 × II)) (x2 : Int32) (I : II) : Option (Int32 × II) :=
  if (I 15 4) ≤ x2 then (f_X4_leastFrom fu S 15 10 I (0 : Int32) (0 : Int32)).bind fun q2 => (lt q2.1 fun x2_5 => (if x2_5 = (1073741824 : Int32) then some ((((-9) : Int32), q2.2)) else if x1 = ((-1) : Int32) then some ((x2_5, q2.2)) else (Rf_X4_chooseFirst fu S q2.2).bind fun q8 => (gd (inbL 23 14 x1) (some (((rdN q8 22 x1), q8)))))) else gd (inbL 22 6561 x2) (lt (wrN I 21 x2 ((-1) : Int32)) fun I15 => (self12 (x2 + (1 : Int32)) I15))
def Rf_X4_answer (fu : Nat) (S : Sk) (I : II) (x1 : Int32) : Option (Int32 × II) :=
  if (I 15 2) = 0 then fix2 (Rl_X4_answer_12 fu S x1) fu (0 : Int32) I else some ((((-9) : Int32), I))
def Rj_X9_thin_74 (fu : Nat) (S : Sk) (I : II) (self2 : Int32 → II → Option (II)) (self25 : Int32 → Int32 → II → Option (II)) (r1 : Nat) (x2 : Int32) (x3 : Int32) (x4 : Int32) (x5 : Int32) : Option (II) :=
  self25 x4 (x5 + (1 : Int32)) I
def Rl_X9_thin_25 (fu : Nat) (S : Sk) (self2 : Int32 → II → Option (II)) (r1 : Nat) (x2 : Int32) (x3 : Int32) (self25 : Int32 → Int32 → II → Option (II)) (x4 : Int32) (x5 : Int32) (I : II) : Option (II) :=
  if ((x3 * (31 : Int32)) + x2) < x5 then self2 (x3 + (1 : Int32)) I else gd (inbL 12 496 x5) (lt (jmin x4 (rdN I 11 x5)) fun x4_4 => (gd (inb S r1 x5) (if x4_4 ≤ (rd I r1 x5) then lt (wr I r1 x5 (1073741824 : Int32)) fun I7 => (Rj_X9_thin_74 fu S I7 self2 self25 r1 x2 x3 x4_4 x5) else lt (rd I r1 x5) fun x4_8 => (Rj_X9_thin_74 fu S I self2 self25 r1 x2 x3 x4_8 x5))))
def Rl_X9_thin_2 (fu : Nat) (S : Sk) (r1 : Nat) (x2 : Int32) (self2 : Int32 → II → Option (II)) (x3 : Int32) (I : II) : Option (II) :=
  (if (I 1 3) ≤ x3 then some (I) else lt (I 8 4) fun x4_12 => (lt (x3 * (31 : Int32)) fun x5_13 => (fix3 (Rl_X9_thin_25 fu S self2 r1 x2 x3) fu x4_12 x5_13 I)))
def Rf_X9_thin (fu : Nat) (S : Sk) (I : II) (r1 : Nat) (x2 : Int32) : Option (II) :=
  fix2 (Rl_X9_thin_2 fu S r1 x2) fu (0 : Int32) I
def Rj_X9_walkFrom_82 (fu : Nat) (S : Sk) (I : II) (self16 : Int32 → II → Option (II)) (x1 : Int32) (x2 : Int32) (x3 : Int32) (x4 : Int32) (x5 : Int32) : Option (II) :=
  self16 (x5 + (1 : Int32)) I
def Rl_X9_walkFrom_16 (fu : Nat) (S : Sk) (x1 : Int32) (x2 : Int32) (x3 : Int32) (x4 : Int32) (self16 : Int32 → II → Option (II)) (x5 : Int32) (I : II) : Option (II) :=
  (if (I 1 3) ≤ x5 then some (I) else (Rf_X2_walk fu S I x1 x5).bind fun q5 => (if x3 < (x2 + q5) then Rj_X9_walkFrom_82 fu S I self16 x1 x2 x3 x4 x5 else lt (((x5 * (31 : Int32)) + x2) + q5) fun x7_9 => (gd (inbL 11 496 x7_9) (lt (wrN I 10 x7_9 (jmin (rdN I 10 x7_9) (x4 + q5))) fun I13 => (Rj_X9_walkFrom_82 fu S I13 self16 x1 x2 x3 x4 x5)))))
def Rf_X9_walkFrom (fu : Nat) (S : Sk) (I : II) (x1 : Int32) (x2 : Int32) (x3 : Int32) : Option (II) :=
  gd (inbL 10 496 ((x1 * (31 : Int32)) + x2)) (lt (rdN I 9 ((x1 * (31 : Int32)) + x2)) fun x4_16 => (fix2 (Rl_X9_walkFrom_16 fu S x1 x2 x3 x4_16) fu (0 : Int32) I))
def Rj_X9_walkOn_61 (fu : Nat) (S : Sk) (I : II) (self20 : Int32 → II → Option (II)) (self33 : Int32 → II → Option (II)) (x1 : Int32) (x2 : Int32) (x3 : Int32) : Option (II) :=
  self33 (x3 + (1 : Int32)) I
def Rl_X9_walkOn_33 (fu : Nat) (S : Sk) (self20 : Int32 → II → Option (II)) (x1 : Int32) (x2 : Int32) (self33 : Int32 → II → Option (II)) (x3 : Int32) (I : II) : Option (II) :=
  if x1 < x3 then self20 (x2 + (1 : Int32)) I else gd (inbL 10 496 ((x2 * (31 : Int32)) + x3)) (if (rdN I 9 ((x2 * (31 : Int32)) + x3)) = (1073741824 : Int32) then Rj_X9_walkOn_61 fu S I self20 self33 x1 x2 x3 else (Rf_X9_walkFrom fu S I x2 x3 x1).bind fun q5 => (Rj_X9_walkOn_61 fu S q5 self20 self33 x1 x2 x3))
def Rl_X9_walkOn_20 (fu : Nat) (S : Sk) (x1 : Int32) (self20 : Int32 → II → Option (II)) (x2 : Int32) (I : II) : Option (II) :=
  (if (I 1 3) ≤ x2 then some (I) else fix2 (Rl_X9_walkOn_33 fu S self20 x1 x2) fu (0 : Int32) I)
def Rf_X9_walkOn (fu : Nat) (S : Sk) (I : II) (x1 : Int32) : Option (II) :=
  (gd (inC S 10 (0 : Int32) 11 (0 : Int32) ((496 : Nat).toInt32)) (lt (cpI I 10 (0 : Int32) 11 (0 : Int32) ((496 : Nat).toInt32)) fun I16 => (fix2 (Rl_X9_walkOn_20 fu S x1) fu (0 : Int32) I16)))
def Rj_X9_noteArrival_51 (fu : Nat) (S : Sk) (I : II) (self2 : Int32 → II → Option (II)) (r1 : Nat) (x2 : Int32) (x3 : Int32) : Option (II) :=
  self2 (x3 + (1 : Int32)) I
def Rl_X9_noteArrival_2 (fu : Nat) (S : Sk) (r1 : Nat) (x2 : Int32) (self2 : Int32 → II → Option (II)) (x3 : Int32) (I : II) : Option (II) :=
  gd (r1 ≠ 0) (if (I (r1 - 1) 3) < x3 then some (I) else gd (inbL 11 496 (((I (r1 - 1) 1) * (31 : Int32)) + x3)) (lt (rdN I 10 (((I (r1 - 1) 1) * (31 : Int32)) + x3)) fun x4_5 => (if (I 8 4) ≤ x4_5 then Rj_X9_noteArrival_51 fu S I self2 r1 x2 x3 else lt (upI I 8 4 x4_5) fun I7 => (lt (upI I7 8 5 x2) fun I8 => (lt (upI I8 8 6 x3) fun I9 => (Rj_X9_noteArrival_51 fu S I9 self2 r1 x2 x3))))))
def Rf_X9_noteArrival (fu : Nat) (S : Sk) (I : II) (r1 : Nat) (x2 : Int32) : Option (II) :=
  fix2 (Rl_X9_noteArrival_2 fu S r1 x2) fu (0 : Int32) I
def Rj_X9_remember_66 (fu : Nat) (S : Sk) (I : II) (self4 : Int32 → Int32 → II → Option (Int32 × II)) (self18 : Int32 → Int32 → II → Option (Int32 × II)) (x1 : Int32) (x2 : Int32) (x3 : Int32) (x4 : Int32) : Option (Int32 × II) :=
  self18 x2 (x4 + (1 : Int32)) I
def Rl_X9_remember_18 (fu : Nat) (S : Sk) (self4 : Int32 → Int32 → II → Option (Int32 × II)) (x1 : Int32) (x3 : Int32) (self18 : Int32 → Int32 → II → Option (Int32 × II)) (x2 : Int32) (x4 : Int32) (I : II) : Option (Int32 × II) :=
  if x1 < x4 then self4 x2 (x3 + (1 : Int32)) I else lt ((x3 * (31 : Int32)) + x4) fun x5_2 => (gd (inbL 11 496 x5_2) (if (rdN I 10 x5_2) = (1073741824 : Int32) then Rj_X9_remember_66 fu S I self4 self18 x1 x2 x3 x4 else gd (inbL 12 496 x5_2) (lt (wrN I 11 x5_2 (rdN I 10 x5_2)) fun I9 => (lt (x2 ||| ((1 : Int32) <<< (x4 &&& 31))) fun x2_10 => (Rj_X9_remember_66 fu S I9 self4 self18 x1 x2_10 x3 x4)))))
def Rl_X9_remember_4 (fu : Nat) (S : Sk) (x1 : Int32) (self4 : Int32 → Int32 → II → Option (Int32 × II)) (x2 : Int32) (x3 : Int32) (I : II) : Option (Int32 × II) :=
  (if (I 1 3) ≤ x3 then some ((x2, I)) else fix3 (Rl_X9_remember_18 fu S self4 x1 x3) fu x2 (0 : Int32) I)
def Rf_X9_remember (fu : Nat) (S : Sk) (I : II) (x1 : Int32) : Option (Int32 × II) :=
  fix3 (Rl_X9_remember_4 fu S x1) fu (0 : Int32) (0 : Int32) I
def Rj_X9_rideAlong_91 (fu : Nat) (S : Sk) (I : II) (self6 : Int32 → Int32 → II → Option (II)) (r1 : Nat) (x2 : Int32) (x3 : Int32) (x4 : Int32) : Option (II) :=
  self6 x3 (x4 + (1 : Int32)) I
def Rj_X9_rideAlong_61 (fu : Nat) (S : Sk) (I : II) (self6 : Int32 → Int32 → II → Option (II)) (r1 : Nat) (x2 : Int32) (x3 : Int32) (x4 : Int32) (x5 : Int32) : Option (II) :=
  gd (inbL 11 496 x5) (if (rdN I 10 x5) = (1073741824 : Int32) then Rj_X9_rideAlong_91 fu S I self6 r1 x2 x3 x4 else gd (r1 ≠ 0) ((f_X1_startOfBus fu S I (r1 - 1) x4 (rdN I 10 x5)).bind fun q6 => (lt (jmin x3 q6) fun x3_9 => (Rj_X9_rideAlong_91 fu S I self6 r1 x2 x3_9 x4))))
def Rl_X9_rideAlong_6 (fu : Nat) (S : Sk) (r1 : Nat) (x2 : Int32) (self6 : Int32 → Int32 → II → Option (II)) (x3 : Int32) (x4 : Int32) (I : II) : Option (II) :=
  gd (r1 ≠ 0) (if (I (r1 - 1) 5) ≤ x4 then some (I) else gd (inb S (S.1 (r1 - 1) 6) x4) (lt (((rd I (S.1 (r1 - 1) 6) x4) * (31 : Int32)) + x2) fun x5_14 => (if x3 = (1073741824 : Int32) then Rj_X9_rideAlong_61 fu S I self6 r1 x2 x3 x4 x5_14 else gd (inbL 10 496 x5_14) (gd (inb S (S.1 (r1 - 1) 7) x4) (lt (wrN I 9 x5_14 (jmin (rdN I 9 x5_14) (x3 + (rd I (S.1 (r1 - 1) 7) x4)))) fun I21 => (Rj_X9_rideAlong_61 fu S I21 self6 r1 x2 x3 x4 x5_14))))))
def Rf_X9_rideAlong (fu : Nat) (S : Sk) (I : II) (r1 : Nat) (x2 : Int32) : Option (II) :=
  fix3 (Rl_X9_rideAlong_6 fu S r1 x2) fu (1073741824 : Int32) (0 : Int32) I
def Rj_X9_rideOn_70 (fu : Nat) (S : Sk) (I : II) (self11 : Int32 → II → Option (II)) (x1 : Int32) (x2 : Int32) (x3 : Int32) : Option (II) :=
  self11 (x3 + (1 : Int32)) I
def Rj_X9_rideOn_64 (fu : Nat) (S : Sk) (I : II) (self11 : Int32 → II → Option (II)) (self33 : Int32 → II → Option (II)) (x1 : Int32) (x2 : Int32) (x3 : Int32) (x4 : Int32) : Option (II) :=
  self33 (x4 + (1 : Int32)) I
def Rl_X9_rideOn_33 (fu : Nat) (S : Sk) (self11 : Int32 → II → Option (II)) (x1 : Int32) (x2 : Int32) (x3 : Int32) (self33 : Int32 → II → Option (II)) (x4 : Int32) (I : II) : Option (II) :=
  if (31 : Int32) ≤ x4 then Rj_X9_rideOn_70 fu S I self11 x1 x2 x3 else if (t_X10_has x2 x4) = 0 then Rj_X9_rideOn_64 fu S I self11 self33 x1 x2 x3 x4 else (gd (inbL 6 14 x3) ((Rf_X9_rideAlong fu S I (S.1 5 (nx x3)) x4).bind fun q9 => (Rj_X9_rideOn_64 fu S q9 self11 self33 x1 x2 x3 x4)))
def Rl_X9_rideOn_11 (fu : Nat) (S : Sk) (x1 : Int32) (x2 : Int32) (self11 : Int32 → II → Option (II)) (x3 : Int32) (I : II) : Option (II) :=
  (if (I 1 5) ≤ x3 then some (I) else if (t_X10_has x1 x3) = 0 then Rj_X9_rideOn_70 fu S I self11 x1 x2 x3 else fix2 (Rl_X9_rideOn_33 fu S self11 x1 x2 x3) fu (0 : Int32) I)
def Rf_X9_rideOn (fu : Nat) (S : Sk) (I : II) (x1 : Int32) (x2 : Int32) : Option (II) :=
  (f_J7_fill_53178 fu S I 10 (1073741824 : Int32)).bind fun q18 => (fix2 (Rl_X9_rideOn_11 fu S x1 x2) fu (0 : Int32) q18)
def Rj_X9_search_109 (fu : Nat) (S : Sk) (I : II) (self42 : Int32 → II → Option (II)) (r1 : Nat) (x2 : Int32) (x3 : Int32) : Option (II) :=
  self42 (x3 + (1 : Int32)) I
def Rl_X9_search_42 (fu : Nat) (S : Sk) (r1 : Nat) (x2 : Int32) (self42 : Int32 → II → Option (II)) (x3 : Int32) (I : II) : Option (II) :=
  gd (r1 ≠ 0) (if (I (r1 - 1) 4) < x3 then some (I) else (Rf_X9_thin fu S I 10 (I (r1 - 1) 3)).bind fun q4 => ((Rf_X9_walkOn fu S q4 (q4 (r1 - 1) 3)).bind fun q7 => ((Rf_X9_thin fu S q7 11 (q7 (r1 - 1) 3)).bind fun q11 => ((Rf_X9_noteArrival fu S q11 r1 x3).bind fun q14 => (if (q14 (r1 - 1) 4) ≤ x3 then Rj_X9_search_109 fu S q14 self42 r1 x2 x3 else (Rf_X9_remember fu S q14 (q14 (r1 - 1) 3)).bind fun q18 => ((Rf_X9_rideOn fu S q18.2 x2 q18.1).bind fun q21 => (Rj_X9_search_109 fu S q21 self42 r1 x2 x3)))))))
def Rf_X9_search (fu : Nat) (S : Sk) (I : II) (r1 : Nat) (x2 : Int32) : Option (II) :=
  lt (upI I 8 4 (1073741824 : Int32)) fun I24 => ((f_J7_fill_53178 fu S I24 12 (1073741824 : Int32)).bind fun q26 => ((f_J7_fill_53178 fu S q26 10 (1073741824 : Int32)).bind fun q30 => (gd (r1 ≠ 0) (gd (inbL 10 496 ((q30 (r1 - 1) 0) * (31 : Int32))) (lt (wrN q30 9 ((q30 (r1 - 1) 0) * (31 : Int32)) (q30 (r1 - 1) 2)) fun I36 => (fix2 (Rl_X9_search_42 fu S r1 x2) fu (0 : Int32) I36))))))
def Rf_X10_stop (fu : Nat) (S : Sk) (I : II) (x1 : Int32) (x2 : Int32) : Option (Int32 × II) :=
  if (t_X10_isPlace x1 x2) = 0 then some ((((-2) : Int32), I)) else (if (I 1 3) < (16 : Int32) then (Rf_X2_addStop fu S I x1 x2).bind fun q7 => (some ((q7.1, q7.2))) else some ((((-4) : Int32), I)))
def Rf_X10_fail (fu : Nat) (S : Sk) (I : II) (x1 : Int32) : Option (Int32 × II) :=
  lt (upI I 0 18 x1) fun I1 => (some (((((-10) : Int32) - x1), I1)))
def Rj_X10_days_59 (fu : Nat) (S : Sk) (I : II) (x2 : Int32) (x3 : Int32) (r4 : Nat) : Option (Int32 × II) :=
  gd (r4 ≠ 0) (lt (upI I (r4 - 1) 9 x2) fun I2 => (lt (upI I2 (r4 - 1) 10 x3) fun I3 => (some (((1 : Int32), I3)))))
def Rf_X10_days (fu : Nat) (S : Sk) (I : II) (x1 : Int32) (x2 : Int32) (x3 : Int32) : Option (Int32 × II) :=
  ((Rf_X2_lineAt fu S I x1).bind fun q6 => (if q6 = 0 then some ((((-1) : Int32), I)) else if (t_X10_isDay x2) = 0 then some ((((-2) : Int32), I)) else if (t_X10_isDay x3) = 0 then some ((((-2) : Int32), I)) else if x2 ≤ x3 then if (I (q6 - 1) 9) = x2 then if (I (q6 - 1) 10) = x3 then some (((0 : Int32), I)) else Rj_X10_days_59 fu S I x2 x3 q6 else Rj_X10_days_59 fu S I x2 x3 q6 else some ((((-2) : Int32), I))))
def Rf_X10_ofLine (fu : Nat) (S : Sk) (I : II) (x1 : Int32) (x2 : Int32) : Option (Int32) :=
  ((Rf_X2_lineAt fu S I x1).bind fun q3 => (if q3 = 0 then some (((-1) : Int32)) else if x2 = (0 : Int32) then some ((I (q3 - 1) 1)) else (if x2 = (1 : Int32) then some ((I (q3 - 1) 5)) else (if x2 = (2 : Int32) then some ((I (q3 - 1) 2)) else (if x2 = (3 : Int32) then some ((I (q3 - 1) 3)) else (if x2 = (4 : Int32) then some ((I (q3 - 1) 4)) else (if x2 = (5 : Int32) then some ((I (q3 - 1) 9)) else (if x2 = (6 : Int32) then some ((I (q3 - 1) 10)) else (if x2 = (7 : Int32) then (f_X1_roundMinutes fu S I (q3 - 1)).bind fun q15 => (some (q15)) else (if x2 = (8 : Int32) then (f_X1_buses fu S I (q3 - 1)).bind fun q19 => (some (q19)) else (if x2 < (10 : Int32) then some (((-2) : Int32)) else if (t_X1_hasPlace I (q3 - 1) (x2 - (10 : Int32))) = 0 then some (((-2) : Int32)) else gd (inb S (S.1 (q3 - 1) 6) (x2 - (10 : Int32))) (some ((rd I (S.1 (q3 - 1) 6) (x2 - (10 : Int32))))))))))))))))
def Rf_X10_runs (fu : Nat) (S : Sk) (I : II) (x1 : Int32) (x2 : Int32) : Option (Int32) :=
  ((Rf_X2_lineAt fu S I x1).bind fun q3 => (if q3 = 0 then some (((-1) : Int32)) else if (t_X10_isDay x2) = 0 then some (((-2) : Int32)) else if (t_X1_goesOn I (q3 - 1) x2) = 0 then some ((0 : Int32)) else some ((1 : Int32))))
def Rf_X10_minute (fu : Nat) (S : Sk) (I : II) (x1 : Int32) (x2 : Int32) (x3 : Int32) : Option (Int32) :=
  ((Rf_X2_lineAt fu S I x1).bind fun q3 => (if q3 = 0 then some (((-1) : Int32)) else if (t_X1_hasPlace I (q3 - 1) x2) = 0 then some (((-1) : Int32)) else if x3 < 0 then some (((-2) : Int32)) else if x3 < (2880 : Int32) then (f_X1_startOfBus fu S I (q3 - 1) x2 x3).bind fun q11 => (if q11 = (1073741824 : Int32) then some (((-9) : Int32)) else gd (inb S (S.1 (q3 - 1) 7) x2) (some ((q11 + (rd I (S.1 (q3 - 1) 7) x2))))) else some (((-2) : Int32))))
def Rf_X10_far (fu : Nat) (S : Sk) (I : II) (x1 : Int32) (x2 : Int32) : Option (Int32) :=
  (if (t_X2_hasStop I 1 x1) = 0 then some (((-1) : Int32)) else if (t_X2_hasStop I 1 x2) = 0 then some (((-1) : Int32)) else (Rf_X2_walk fu S I x1 x2).bind fun q9 => (some (q9)))
def Rf_X10_text (fu : Nat) (S : Sk) (I : II) (x1 : Int32) (x2 : Int32) (x3 : Int32) (x4 : Int32) : Option (Int32 × Sk × II) :=
  lt (upI I 0 18 (0 : Int32)) fun I1 => (if (t_X10_isSheet x1) = 0 then some ((((-1) : Int32), S, I1)) else if (t_X10_isLane x2) = 0 then some ((((-2) : Int32), S, I1)) else gd (inbL 30 4 x1) (gd ((S.1 29 (nx x1)) ≠ 0) (lt (t_X5_rowFault I1 ((S.1 29 (nx x1)) - 1) x2 x3 x4 (1 : Int32)) fun x5_11 => (if x5_11 = 0 then lt (nwS S 7 0) fun S13 => (lt (nwI S I1) fun I14 => ((f_X7_init fu S13 I14 S.2.2.2).bind fun q21 => (gd (inb q21.1 (q21.1.1 0 16) x1) (gd ((q21.1.1 ((q21.1.1 0 16) - 1) (nx x1)) ≠ 0) ((f_X5_cellsFrom fu q21.1 q21.2 ((q21.1.1 ((q21.1.1 0 16) - 1) (nx x1)) - 1) x3 x4).bind fun q34 => (gd ((q34.2.1.1 0 0) ≠ 0) ((f_X7_firstFault fu q34.2.1 q34.2.2 ((S.2.2.2 + 1) - 1) q34.1 (q34.2.2 ((q34.2.1.1 0 0) - 1) 3)).bind fun q47 => (lt q47.1 fun x7_50 => (if x7_50 < 0 then if (q47.2 0 2) < (12 : Int32) then gd (inb q34.2.1 (q34.2.1.1 0 1) (q47.2 0 2)) (lt (upP q34.2.1 ((q34.2.1.1 0 1) - 1) (nx (q47.2 0 2)) (S.2.2.2 + 1)) fun S55 => (lt (upI q47.2 0 2 ((q47.2 0 2) + (1 : Int32))) fun I67 => (some ((((I67 0 2) - (1 : Int32)), S55, I67))))) else some ((((-4) : Int32), q34.2.1, q47.2)) else some (((((-100) : Int32) - x7_50), q34.2.1, q47.2))))))))))) else (Rf_X10_fail fu S I1 x5_11).bind fun q68 => (some ((q68.1, S, q68.2)))))))
def Rl_X10_textFor_7 (fu : Nat) (S : Sk) (I : II) (x1 : Int32) (x2 : Int32) (self7 : Int32 → Option (Int32)) (x3 : Int32) : Option (Int32) :=
  if x3 < 0 then some (((-9) : Int32)) else gd (inbL 7 12 x3) (gd ((S.1 6 (nx x3)) ≠ 0) ((f_X7_isInForce fu S I ((S.1 6 (nx x3)) - 1) x1 x2).bind fun q6 => (if q6 = 0 then self7 (x3 + ((-1) : Int32)) else some (x3))))
def Rf_X10_textFor (fu : Nat) (S : Sk) (I : II) (x1 : Int32) (x2 : Int32) : Option (Int32) :=
  lt ((I 0 2) - (1 : Int32)) fun x3_10 => (fix1 (Rl_X10_textFor_7 fu S I x1 x2) fu x3_10)
def Rf_X10_owedTo (fu : Nat) (S : Sk) (I : II) (x1 : Int32) (x2 : Int32) : Option (Int32) :=
  (Rf_X10_textFor fu S I x1 x2).bind fun q1 => (if q1 = ((-9) : Int32) then some ((0 : Int32)) else gd (inbL 7 12 q1) (gd ((S.1 6 (nx q1)) ≠ 0) ((f_X7_least fu S I ((S.1 6 (nx q1)) - 1)).bind fun q9 => (some (q9)))))
def Rf_X10_owed (fu : Nat) (S : Sk) (I : II) (x1 : Int32) (x2 : Int32) : Option (Int32) :=
  (if (t_X2_hasStop I 1 x1) = 0 then some (((-1) : Int32)) else if (t_X10_isDay x2) = 0 then some (((-2) : Int32)) else (Rf_X10_owedTo fu S I x1 x2).bind fun q7 => (some (q7)))
def Rf_X10_why (fu : Nat) (S : Sk) (I : II) (x1 : Int32) (x2 : Int32) : Option (Int32) :=
  (if (t_X2_hasStop I 1 x1) = 0 then some (((-1) : Int32)) else if (t_X10_isDay x2) = 0 then some (((-2) : Int32)) else (Rf_X10_textFor fu S I x1 x2).bind fun q7 => (some (q7)))
def Rf_X10_served (fu : Nat) (S : Sk) (I : II) (x1 : Int32) (x2 : Int32) : Option (Int32) :=
  (if (t_X2_hasStop I 1 x1) = 0 then some (((-1) : Int32)) else if (t_X10_isDay x2) = 0 then some (((-2) : Int32)) else (Rf_X2_busesLeaving fu S I x1 x2).bind fun q8 => (some (q8)))
def Rj_X10_breach_49 (fu : Nat) (S : Sk) (I : II) (self14 : Int32 → Int32 → Option (Int32)) (x1 : Int32) (x2 : Int32) (x3 : Int32) : Option (Int32) :=
  self14 x2 (x3 + (1 : Int32))
def Rl_X10_breach_14 (fu : Nat) (S : Sk) (I : II) (x1 : Int32) (self14 : Int32 → Int32 → Option (Int32)) (x2 : Int32) (x3 : Int32) : Option (Int32) :=
  (if (I 1 3) ≤ x3 then some (x2) else (Rf_X2_busesLeaving fu S I x3 x1).bind fun q5 => ((Rf_X10_owedTo fu S I x3 x1).bind fun q8 => (if q8 ≤ q5 then Rj_X10_breach_49 fu S I self14 x1 x2 x3 else lt (x2 ||| ((1 : Int32) <<< (x3 &&& 31))) fun x2_12 => (Rj_X10_breach_49 fu S I self14 x1 x2_12 x3))))
def Rf_X10_breach (fu : Nat) (S : Sk) (I : II) (x1 : Int32) : Option (Int32) :=
  if (t_X10_isDay x1) = 0 then some (((-2) : Int32)) else fix2 (Rl_X10_breach_14 fu S I x1) fu (0 : Int32) (0 : Int32)
def Rf_X10_arrival (fu : Nat) (S : Sk) (I : II) (x1 : Int32) (x2 : Int32) : Option (Int32 × II) :=
  gd (inbL 8 6 x1) (((Rf_X9_search fu S I (S.1 7 (nx x1)) x2).bind fun q6 => (some (((q6 8 4), q6)))))
def Rf_X10_way (fu : Nat) (S : Sk) (I : II) (x1 : Int32) (x2 : Int32) (x3 : Int32) : Option (Int32 × II) :=
  if (t_X10_isTrip I 0 x1) = 0 then some ((((-1) : Int32), I)) else if (t_X10_isDay x2) = 0 then some ((((-2) : Int32), I)) else if (t_X10_isWithin x3 (0 : Int32) (2 : Int32)) = 0 then some ((((-2) : Int32), I)) else ((Rf_X2_running fu S I x2).bind fun q9 => ((Rf_X10_arrival fu S I x1 q9).bind fun q12 => (lt q12.1 fun x4_15 => (if x4_15 = (1073741824 : Int32) then some ((((-9) : Int32), q12.2)) else if x3 = (0 : Int32) then some ((x4_15, q12.2)) else (if x3 = (1 : Int32) then (some (((q12.2 8 5), q12.2))) else (some (((q12.2 8 6), q12.2))))))))
def Rf_X10_lose (fu : Nat) (S : Sk) (I : II) (x1 : Int32) (x2 : Int32) (x3 : Int32) : Option (Int32 × II) :=
  if (t_X10_isTrip I 0 x1) = 0 then some ((((-1) : Int32), I)) else if (t_X10_isDay x2) = 0 then some ((((-2) : Int32), I)) else if (t_X10_isDay x3) = 0 then some ((((-2) : Int32), I)) else ((Rf_X2_running fu S I x2).bind fun q9 => ((Rf_X10_arrival fu S I x1 q9).bind fun q12 => ((Rf_X2_running fu S q12.2 x3).bind fun q16 => ((Rf_X10_arrival fu S q12.2 x1 q16).bind fun q19 => (some (((t_X10_worseBy q12.1 q19.1), q19.2)))))))
def Rj_X10_who_220 (fu : Nat) (S : Sk) (I : II) (self52 : Int32 → Int32 → II → Option (Int32 × II)) (x3 : Int32) (x4 : Int32) (x5 : Int32) (x6 : Int32) (x7 : Int32) : Option (Int32 × II) :=
  self52 x6 (x7 + (1 : Int32)) I
def Rj_X10_who_144 (fu : Nat) (S : Sk) (I : II) (self52 : Int32 → Int32 → II → Option (Int32 × II)) (x3 : Int32) (x4 : Int32) (x5 : Int32) (x7 : Int32) (s0 : Int32) (s1 : Int32) : Option (Int32 × II) :=
  lt (s0 ||| (t_X10_bitIf s1 x7)) fun x6_2 => (Rj_X10_who_220 fu S I self52 x3 x4 x5 x6_2 x7)
def Rj_X10_who_167 (fu : Nat) (S : Sk) (I : II) (self52 : Int32 → Int32 → II → Option (Int32 × II)) (x3 : Int32) (x4 : Int32) (x5 : Int32) (x7 : Int32) (s0 : Int32) (s1 : Int32) : Option (Int32 × II) :=
  lt (s0 ||| (t_X10_bitIf s1 x7)) fun x6_4 => (Rj_X10_who_220 fu S I self52 x3 x4 x5 x6_4 x7)
def Rj_X10_who_192 (fu : Nat) (S : Sk) (I : II) (self52 : Int32 → Int32 → II → Option (Int32 × II)) (x3 : Int32) (x4 : Int32) (x5 : Int32) (x7 : Int32) (s0 : Int32) (s1 : Int32) : Option (Int32 × II) :=
  lt (s0 ||| (t_X10_bitIf s1 x7)) fun x6_6 => (Rj_X10_who_220 fu S I self52 x3 x4 x5 x6_6 x7)
def Rl_X10_who_52 (fu : Nat) (S : Sk) (x3 : Int32) (x4 : Int32) (x5 : Int32) (self52 : Int32 → Int32 → II → Option (Int32 × II)) (x6 : Int32) (x7 : Int32) (I : II) : Option (Int32 × II) :=
  if (I 0 4) ≤ x7 then some ((x6, I)) else (Rf_X10_arrival fu S I x7 x4).bind fun q8 => (lt q8.1 fun x8_11 => ((Rf_X10_arrival fu S q8.2 x7 x5).bind fun q12 => (lt q12.1 fun x9_15 => (lt (t_X10_worseBy x8_11 x9_15) fun x10_17 => (lt (t_X10_worseBy x9_15 x8_11) fun x11_19 => (if x3 = (0 : Int32) then if x10_17 ≤ 0 then Rj_X10_who_144 fu S q12.2 self52 x3 x4 x5 x7 x6 (0 : Int32) else Rj_X10_who_144 fu S q12.2 self52 x3 x4 x5 x7 x6 (1 : Int32) else (if x3 = (1 : Int32) then if x11_19 ≤ 0 then Rj_X10_who_167 fu S q12.2 self52 x3 x4 x5 x7 x6 (0 : Int32) else Rj_X10_who_167 fu S q12.2 self52 x3 x4 x5 x7 x6 (1 : Int32) else (if x3 = (2 : Int32) then if x9_15 = (1073741824 : Int32) then Rj_X10_who_192 fu S q12.2 self52 x3 x4 x5 x7 x6 (1 : Int32) else Rj_X10_who_192 fu S q12.2 self52 x3 x4 x5 x7 x6 (0 : Int32) else (if x3 = (3 : Int32) then lt (x6 + x10_17) fun x6_27 => (Rj_X10_who_220 fu S q12.2 self52 x3 x4 x5 x6_27 x7) else lt (x6 + x11_19) fun x6_28 => (Rj_X10_who_220 fu S q12.2 self52 x3 x4 x5 x6_28 x7))))))))))
def Rf_X10_who (fu : Nat) (S : Sk) (I : II) (x1 : Int32) (x2 : Int32) (x3 : Int32) : Option (Int32 × II) :=
  if (t_X10_isDay x1) = 0 then some ((((-2) : Int32), I)) else if (t_X10_isDay x2) = 0 then some ((((-2) : Int32), I)) else if (t_X10_isWithin x3 (0 : Int32) (4 : Int32)) = 0 then some ((((-2) : Int32), I)) else ((Rf_X2_running fu S I x1).bind fun q37 => ((Rf_X2_running fu S I x2).bind fun q41 => (fix3 (Rl_X10_who_52 fu S x3 q37 q41) fu (0 : Int32) (0 : Int32) I)))
def Rj_X10_offeredLines_34 (fu : Nat) (S : Sk) (I : II) (self4 : Int32 → Int32 → Option (Int32)) (x1 : Int32) (x2 : Int32) (x3 : Int32) : Option (Int32) :=
  self4 x2 (x3 + (1 : Int32))
def Rl_X10_offeredLines_4 (fu : Nat) (S : Sk) (I : II) (x1 : Int32) (self4 : Int32 → Int32 → Option (Int32)) (x2 : Int32) (x3 : Int32) : Option (Int32) :=
  if (I 0 7) ≤ x3 then some (x2) else if (t_X10_has x1 x3) = 0 then Rj_X10_offeredLines_34 fu S I self4 x1 x2 x3 else gd (inbL 13 4 x3) (gd ((S.1 12 (nx x3)) ≠ 0) (lt (x2 ||| ((1 : Int32) <<< ((I ((S.1 12 (nx x3)) - 1) 0) &&& 31))) fun x2_8 => (Rj_X10_offeredLines_34 fu S I self4 x1 x2_8 x3)))
def Rf_X10_offeredLines (fu : Nat) (S : Sk) (I : II) (x1 : Int32) : Option (Int32) :=
  fix2 (Rl_X10_offeredLines_4 fu S I x1) fu (0 : Int32) (0 : Int32)
def Rf_X10_offer (fu : Nat) (S : Sk) (I : II) (x1 : Int32) : Option (Int32 × Sk × II) :=
  ((Rf_X2_lineAt fu S I x1).bind fun q3 => (if q3 = 0 then some ((((-1) : Int32), S, I)) else (Rf_X10_offeredLines fu S I ((-1) : Int32)).bind fun q7 => (if (t_X10_has q7 x1) = 0 then if (I 0 7) < (4 : Int32) then gd (inbL 13 4 (I 0 7)) (lt (upP S 12 (nx (I 0 7)) q3) fun S15 => (lt (upI I 0 7 ((I 0 7) + (1 : Int32))) fun I22 => (some ((((I22 0 7) - (1 : Int32)), S15, I22))))) else some ((((-4) : Int32), S, I)) else some ((((-3) : Int32), S, I)))))
def Rj_X10_tallyOf_43 (fu : Nat) (S : Sk) (I : II) (self8 : Int32 → Int32 → Int32 → II → Option (Nat × Sk × II)) (x1 : Int32) (x2 : Int32) (x3 : Int32) (x4 : Int32) (x5 : Int32) : Option (Nat × Sk × II) :=
  self8 x3 x4 (x5 + (1 : Int32)) I
def Rl_X10_tallyOf_8 (fu : Nat) (S : Sk) (x1 : Int32) (x2 : Int32) (self8 : Int32 → Int32 → Int32 → II → Option (Nat × Sk × II)) (x3 : Int32) (x4 : Int32) (x5 : Int32) (I : II) : Option (Nat × Sk × II) :=
  if (I 0 4) ≤ x5 then lt (nwS S 6 0) fun S2 => (lt (nwI S I) fun I3 => ((f_X6_init fu S2 I3 S.2.2.2 x1 x3 x4).bind fun q8 => (some (((S.2.2.2 + 1), S2, q8))))) else (Rf_X10_arrival fu S I x5 x2).bind fun q12 => (lt q12.1 fun x6_15 => (if x6_15 = (1073741824 : Int32) then Rj_X10_tallyOf_43 fu S q12.2 self8 x1 x2 x3 x4 x5 else lt (x4 + x6_15) fun x4_17 => (Rj_X10_tallyOf_43 fu S q12.2 self8 x1 x2 (x3 + (1 : Int32)) x4_17 x5)))
def Rf_X10_tallyOf (fu : Nat) (S : Sk) (I : II) (x1 : Int32) (x2 : Int32) : Option (Nat × Sk × II) :=
  fix4 (Rl_X10_tallyOf_8 fu S x1 x2) fu (0 : Int32) (0 : Int32) (0 : Int32) I
def Rf_X10_emptyMinutes (fu : Nat) (S : Sk) (I : II) (r1 : Nat) (r2 : Nat) : Option (Int32) :=
  gd (r1 ≠ 0) (gd (inb S (S.1 (r1 - 1) 6) (0 : Int32)) (gd (r2 ≠ 0) (((Rf_X2_walkFrom fu S I (rd I (S.1 (r1 - 1) 6) (0 : Int32)) (I (r2 - 1) 0) (I (r2 - 1) 1)).bind fun q7 => (gd (inb S (S.1 (r1 - 1) 6) ((I (r1 - 1) 5) - (1 : Int32))) ((Rf_X2_walkFrom fu S I (rd I (S.1 (r1 - 1) 6) ((I (r1 - 1) 5) - (1 : Int32))) (I (r2 - 1) 0) (I (r2 - 1) 1)).bind fun q13 => (some ((q7 + q13)))))))))
def Rf_X10_empty (fu : Nat) (S : Sk) (I : II) (x1 : Int32) (x2 : Int32) : Option (Int32) :=
  ((Rf_X2_lineAt fu S I x1).bind fun q3 => (if q3 = 0 then some (((-1) : Int32)) else if x2 < 0 then some (((-1) : Int32)) else if x2 < (I 0 9) then gd (inbL 14 4 x2) ((Rf_X10_emptyMinutes fu S I q3 (S.1 13 (nx x2))).bind fun q12 => (some (q12))) else some (((-1) : Int32))))
def Rl_X10_fit_72 (fu : Nat) (S : Sk) (self45 : Int32 → II → Option (Int32 × II)) (x2 : Int32) (x3 : Int32) (self72 : Int32 → II → Option (Int32 × II)) (x4 : Int32) (I : II) : Option (Int32 × II) :=
  (if (I 15 1) ≤ x4 then self45 (x3 + (1 : Int32)) I else (gd (inbL 17 8 x4) (gd (inbL 6 14 (rdN I 16 x4)) (gd (inbL 14 4 x3) ((Rf_X10_emptyMinutes fu S I (S.1 5 (nx (rdN I 16 x4))) (S.1 13 (nx x3))).bind fun q16 => ((Rf_X4_setCost fu S I x4 x3 q16).bind fun q19 => (self72 (x4 + (1 : Int32)) q19)))))))
def Rl_X10_fit_45 (fu : Nat) (S : Sk) (x2 : Int32) (self45 : Int32 → II → Option (Int32 × II)) (x3 : Int32) (I : II) : Option (Int32 × II) :=
  if (I 0 9) ≤ x3 then ((Rf_X4_answer fu S I x2).bind fun q25 => (some ((q25.1, q25.2)))) else gd (inbL 14 4 x3) (gd ((S.1 13 (nx x3)) ≠ 0) (((Rf_X4_addPlace fu S I (I ((S.1 13 (nx x3)) - 1) 2)).bind fun q34 => (fix2 (Rl_X10_fit_72 fu S self45 x2 x3) fu (0 : Int32) q34))))
def Rj_X10_fit_28 (fu : Nat) (S : Sk) (I : II) (x1 : Int32) (x2 : Int32) : Option (Int32 × II) :=
  ((Rf_X2_running fu S I x1).bind fun q40 => (((Rf_X4_begin fu S I q40).bind fun q44 => (fix2 (Rl_X10_fit_45 fu S x2) fu (0 : Int32) q44))))
def Rf_X10_fit (fu : Nat) (S : Sk) (I : II) (x1 : Int32) (x2 : Int32) : Option (Int32 × II) :=
  if (t_X10_isDay x1) = 0 then some ((((-2) : Int32), I)) else if x2 = ((-1) : Int32) then Rj_X10_fit_28 fu S I x1 x2 else ((Rf_X2_lineAt fu S I x2).bind fun q52 => (if q52 = 0 then some ((((-1) : Int32), I)) else Rj_X10_fit_28 fu S I x1 x2))
def Rf_X10_driver (fu : Nat) (S : Sk) (I : II) : Option (Int32 × II) :=
  if (I 0 11) < (6 : Int32) then lt (upI I 0 11 ((I 0 11) + (1 : Int32))) fun I2 => (some ((((I2 0 11) - (1 : Int32)), I2))) else some ((((-4) : Int32), I))
def Rf_X10_know (fu : Nat) (S : Sk) (I : II) (x1 : Int32) (x2 : Int32) (x3 : Int32) : Option (Int32 × II) :=
  if x1 < 0 then some ((((-1) : Int32), I)) else if (I 0 11) ≤ x1 then some ((((-1) : Int32), I)) else ((Rf_X2_lineAt fu S I x2).bind fun q5 => (if q5 = 0 then some ((((-1) : Int32), I)) else gd (inbL 15 6 x1) (if (t_X10_has (rdN I 14 x1) x2) = x3 then some (((0 : Int32), I)) else lt (wrN I 14 x1 ((rdN I 14 x1) ^^^ ((1 : Int32) <<< (x2 &&& 31)))) fun I14 => (some (((1 : Int32), I14))))))
def Rj_X10_roster_126 (fu : Nat) (S : Sk) (I : II) (self45 : Int32 → II → Option (Int32 × II)) (self64 : Int32 → II → Option (Int32 × II)) (x2 : Int32) (x3 : Int32) (x4 : Int32) (q0 : Nat) (s1 : Int32) (s2 : Int32) (s3 : Int32) : Option (Int32 × II) :=
  gd (q0 ≠ 0) ((f_X4_setCost fu S I (q0 - 1) s1 s2 s3).bind fun q2 => (self64 (x4 + (1 : Int32)) q2))
def Rl_X10_roster_64 (fu : Nat) (S : Sk) (self45 : Int32 → II → Option (Int32 × II)) (x2 : Int32) (x3 : Int32) (self64 : Int32 → II → Option (Int32 × II)) (x4 : Int32) (I : II) : Option (Int32 × II) :=
  (if (I 15 1) ≤ x4 then self45 (x3 + (1 : Int32)) I else gd (inbL 17 8 x4) (lt (rdN I 16 x4) fun x5_11 => (gd (inbL 15 6 x3) (if (t_X10_has (rdN I 14 x3) x5_11) = 0 then (gd (inbL 6 14 x5_11) (gd ((S.1 5 (nx x5_11)) ≠ 0) (Rj_X10_roster_126 fu S I self45 self64 x2 x3 x4 16 x4 x3 (I ((S.1 5 (nx x5_11)) - 1) 5)))) else Rj_X10_roster_126 fu S I self45 self64 x2 x3 x4 16 x4 x3 (0 : Int32)))))
def Rl_X10_roster_45 (fu : Nat) (S : Sk) (x2 : Int32) (self45 : Int32 → II → Option (Int32 × II)) (x3 : Int32) (I : II) : Option (Int32 × II) :=
  if (I 0 11) ≤ x3 then ((Rf_X4_answer fu S I x2).bind fun q26 => (some ((q26.1, q26.2)))) else ((Rf_X4_addPlace fu S I (1 : Int32)).bind fun q31 => (fix2 (Rl_X10_roster_64 fu S self45 x2 x3) fu (0 : Int32) q31))
def Rj_X10_roster_28 (fu : Nat) (S : Sk) (I : II) (x1 : Int32) (x2 : Int32) : Option (Int32 × II) :=
  ((Rf_X2_running fu S I x1).bind fun q37 => (((Rf_X4_begin fu S I q37).bind fun q41 => (fix2 (Rl_X10_roster_45 fu S x2) fu (0 : Int32) q41))))
def Rf_X10_roster (fu : Nat) (S : Sk) (I : II) (x1 : Int32) (x2 : Int32) : Option (Int32 × II) :=
  if (t_X10_isDay x1) = 0 then some ((((-2) : Int32), I)) else if x2 = ((-1) : Int32) then Rj_X10_roster_28 fu S I x1 x2 else ((Rf_X2_lineAt fu S I x2).bind fun q49 => (if q49 = 0 then some ((((-1) : Int32), I)) else Rj_X10_roster_28 fu S I x1 x2))
def Rj_X10_board_46 (fu : Nat) (S : Sk) (I : II) (x1 : Int32) : Option (Int32 × II) :=
  lt (upI I 0 13 ((I 0 13) ^^^ ((1 : Int32) <<< (x1 &&& 31)))) fun I1 => (some (((1 : Int32), I1)))
def Rf_X10_board (fu : Nat) (S : Sk) (I : II) (x1 : Int32) (x2 : Int32) : Option (Int32 × II) :=
  (if (t_X2_hasStop I 1 x1) = 0 then some ((((-1) : Int32), I)) else if (t_X10_has (I 0 13) x1) = x2 then some (((0 : Int32), I)) else if x2 = 0 then Rj_X10_board_46 fu S I x1 else if (t_J6_bitCount_0f7a4 (I 0 13)) < (6 : Int32) then Rj_X10_board_46 fu S I x1 else some ((((-4) : Int32), I)))
def Rf_X10_night (fu : Nat) (S : Sk) (I : II) (x1 : Int32) (x2 : Int32) (x3 : Int32) (x4 : Int32) : Option (Int32 × II) :=
  (if (t_X2_hasStop I 1 x2) = 0 then some ((((-1) : Int32), I)) else if (t_X10_isWithin x4 ((-1) : Int32) ((t_J6_bitCount_0f7a4 (I 0 13)) - (1 : Int32))) = 0 then some ((((-1) : Int32), I)) else if (t_X10_isWithin x1 (0 : Int32) (58 : Int32)) = 0 then some ((((-2) : Int32), I)) else if (t_X10_isWithin x3 (0 : Int32) (2879 : Int32)) = 0 then some ((((-2) : Int32), I)) else ((Rf_X3_plan fu S I (I 0 13) x1 x2 x3).bind fun q14 => (if (q14 23 7) = (1073741824 : Int32) then some ((((-9) : Int32), q14)) else if x4 = ((-1) : Int32) then some (((q14 23 7), q14)) else gd (inbL 29 6 x4) (some (((rdN q14 28 x4), q14))))))
def Rf_X10_waiting (fu : Nat) (S : Sk) (I : II) (x1 : Int32) (x2 : Int32) (x3 : Int32) : Option (Int32 × II) :=
  ((Rf_X2_lineAt fu S I x1).bind fun q3 => (if q3 = 0 then some ((((-1) : Int32), I)) else if (t_X1_leavesFrom I (q3 - 1) x2) = 0 then some ((((-1) : Int32), I)) else if (t_X10_isWithin x3 (0 : Int32) (999 : Int32)) = 0 then some ((((-2) : Int32), I)) else gd (inb S (S.1 (q3 - 1) 8) x2) (lt (rd I (S.1 (q3 - 1) 8) x2) fun x5_13 => (lt (wr I (S.1 (q3 - 1) 8) x2 x3) fun I15 => (some ((x5_13, I15)))))))
def Rf_X10_seats (fu : Nat) (S : Sk) (I : II) (x1 : Int32) : Option (Int32 × II) :=
  if (t_X10_isWithin x1 (1 : Int32) (99 : Int32)) = 0 then some ((((-2) : Int32), I)) else lt (I 0 15) fun x2_3 => (lt (upI I 0 15 x1) fun I4 => (some ((x2_3, I4))))
def Rj_X10_standing_31 (fu : Nat) (S : Sk) (I : II) (x2 : Int32) (x3 : Int32) (r4 : Nat) : Option (Int32) :=
  if (t_X10_isWithin x3 (0 : Int32) (999 : Int32)) = 0 then some (((-2) : Int32)) else gd (r4 ≠ 0) ((f_X1_leftBehind fu S I (r4 - 1) x2 (x3 * (I 0 15))).bind fun q4 => (some (q4)))
def Rf_X10_standing (fu : Nat) (S : Sk) (I : II) (x1 : Int32) (x2 : Int32) (x3 : Int32) : Option (Int32) :=
  ((Rf_X2_lineAt fu S I x1).bind fun q9 => (if q9 = 0 then some (((-1) : Int32)) else if x2 = ((-1) : Int32) then Rj_X10_standing_31 fu S I x2 x3 q9 else if (t_X1_leavesFrom I (q9 - 1) x2) = 0 then some (((-1) : Int32)) else Rj_X10_standing_31 fu S I x2 x3 q9))
def Rf_X10_extra (fu : Nat) (S : Sk) (I : II) (x1 : Int32) : Option (Int32) :=
  ((Rf_X2_lineAt fu S I x1).bind fun q3 => (if q3 = 0 then some (((-1) : Int32)) else lt (jmax (1 : Int32) (I 0 15)) fun x3_7 => ((f_X1_leftBehind fu S I (q3 - 1) ((-1) : Int32) (0 : Int32)).bind fun q8 => (gd (¬ x3_7 = 0) (lt (((q8 + x3_7) - (1 : Int32)) / x3_7) fun x4_12 => ((f_X1_buses fu S I (q3 - 1)).bind fun q13 => (some ((jmax (0 : Int32) (x4_12 - q13))))))))))
def Rf_X10_sheet (fu : Nat) (S : Sk) (I : II) (x1 : Int32) (x2 : Int32) (x3 : Int32) : Option (Int32 × II) :=
  lt (upI I 0 18 (0 : Int32)) fun I1 => (if (t_X10_isSheet x1) = 0 then some ((((-1) : Int32), I1)) else if (t_X10_isLane x2) = 0 then some ((((-2) : Int32), I1)) else if x3 ≤ (60 : Int32) then if 0 ≤ x3 then gd (inbL 30 4 x1) (gd ((S.1 29 (nx x1)) ≠ 0) ((f_X5_renew fu S I1 ((S.1 29 (nx x1)) - 1) x2 x3).bind fun q12 => (some (((1 : Int32), q12))))) else (Rf_X10_fail fu S I1 (4 : Int32)).bind fun q15 => (some ((q15.1, q15.2))) else some ((((-2) : Int32), I1)))
def Rf_X10_drop (fu : Nat) (S : Sk) (I : II) (x1 : Int32) : Option (Int32 × II) :=
  if (t_X10_isSheet x1) = 0 then some ((((-1) : Int32), I)) else gd (inbL 30 4 x1) (gd ((S.1 29 (nx x1)) ≠ 0) (if (I ((S.1 29 (nx x1)) - 1) 0) = 0 then some (((0 : Int32), I)) else lt (upI I ((S.1 29 (nx x1)) - 1) 0 (0 : Int32)) fun I10 => (some (((1 : Int32), I10)))))
def Rf_X10_put (fu : Nat) (S : Sk) (I : II) (x1 : Int32) (x2 : Int32) (x3 : Int32) : Option (Int32 × II) :=
  lt (upI I 0 18 (0 : Int32)) fun I1 => (if (t_X10_isSheet x1) = 0 then some ((((-1) : Int32), I1)) else gd (inbL 30 4 x1) (gd ((S.1 29 (nx x1)) ≠ 0) (if (I1 ((S.1 29 (nx x1)) - 1) 0) = 0 then (Rf_X10_fail fu S I1 (1 : Int32)).bind fun q18 => (some ((q18.1, q18.2))) else if (t_X5_holds I1 ((S.1 29 (nx x1)) - 1) x2 (1 : Int64)) = 0 then (Rf_X10_fail fu S I1 (3 : Int32)).bind fun q15 => (some ((q15.1, q15.2))) else gd (inb S (S.1 ((S.1 29 (nx x1)) - 1) 3) x2) (lt (wr I1 (S.1 ((S.1 29 (nx x1)) - 1) 3) x2 (t_X5_cut I1 ((S.1 29 (nx x1)) - 1) x3)) fun I14 => (some (((1 : Int32), I14)))))))
def Rj_X10_cell_19 (fu : Nat) (S : Sk) (I : II) : Option (Int64 × II) :=
  some ((((-9223372036854775808) : Int64), I))
def Rf_X10_cell (fu : Nat) (S : Sk) (I : II) (x1 : Int32) (x2 : Int32) (x3 : Int32) : Option (Int64 × II) :=
  lt (upI I 0 18 (0 : Int32)) fun I1 => (if (t_X10_isSheet x1) = 0 then Rj_X10_cell_19 fu S I1 else if (t_X10_isLane x3) = 0 then Rj_X10_cell_19 fu S I1 else gd (inbL 30 4 x1) (gd ((S.1 29 (nx x1)) ≠ 0) (lt (t_X5_rowFault I1 ((S.1 29 (nx x1)) - 1) x3 x2 (1 : Int32) (1 : Int32)) fun x4_11 => (if x4_11 = 0 then gd (inb S (S.1 ((S.1 29 (nx x1)) - 1) 3) x2) (some ((((rd I1 (S.1 ((S.1 29 (nx x1)) - 1) 3) x2)).toInt64, I1))) else lt (upI I1 0 18 x4_11) fun I17 => (some ((((-9223372036854775808) : Int64), I17)))))))
def Rj_X10_copy_53 (fu : Nat) (S : Sk) (I : II) : Option (Int32 × II) :=
  (Rf_X10_fail fu S I (1 : Int32)).bind fun q1 => (some ((q1.1, q1.2)))
def Rj_X10_copy_103 (fu : Nat) (S : Sk) (I : II) : Option (Int32 × II) :=
  (Rf_X10_fail fu S I (3 : Int32)).bind fun q4 => (some ((q4.1, q4.2)))
def Rf_X10_copy (fu : Nat) (S : Sk) (I : II) (x1 : Int32) (x2 : Int32) (x3 : Int32) (x4 : Int32) (x5 : Int32) : Option (Int32 × II) :=
  lt (upI I 0 18 (0 : Int32)) fun I7 => (if (t_X10_isSheet x1) = 0 then some ((((-1) : Int32), I7)) else if (t_X10_isSheet x3) = 0 then some ((((-1) : Int32), I7)) else gd (inbL 30 4 x1) (gd (inbL 30 4 x3) (gd ((S.1 29 (nx x1)) ≠ 0) (if (I7 ((S.1 29 (nx x1)) - 1) 0) = 0 then Rj_X10_copy_53 fu S I7 else gd ((S.1 29 (nx x3)) ≠ 0) (if (I7 ((S.1 29 (nx x3)) - 1) 0) = 0 then Rj_X10_copy_53 fu S I7 else if (I7 ((S.1 29 (nx x1)) - 1) 1) = (I7 ((S.1 29 (nx x3)) - 1) 1) then if (t_X5_holds I7 ((S.1 29 (nx x1)) - 1) x2 x5.toInt64) = 0 then Rj_X10_copy_103 fu S I7 else if (t_X5_holds I7 ((S.1 29 (nx x3)) - 1) x4 x5.toInt64) = 0 then Rj_X10_copy_103 fu S I7 else gd (inC S (S.1 ((S.1 29 (nx x1)) - 1) 3) x2 (S.1 ((S.1 29 (nx x3)) - 1) 3) x4 x5) (lt (cpI I7 (S.1 ((S.1 29 (nx x1)) - 1) 3) x2 (S.1 ((S.1 29 (nx x3)) - 1) 3) x4 x5) fun I30 => (some ((x5, I30)))) else (Rf_X10_fail fu S I7 (2 : Int32)).bind fun q31 => (some ((q31.1, q31.2))))))))
def Rf_X10_leave (fu : Nat) (S : Sk) (I : II) (x1 : Int32) : Option (II) :=
  lt (upI I 0 17 (((31 : Int32) * (I 0 17)) + x1)) fun I1 => (some (I1))
def Rf_X10_toldByLine (fu : Nat) (S : Sk) (I : II) (r1 : Nat) : Option (Int32 × II) :=
  (Rf_X10_leave fu S I (1 : Int32)).bind fun q1 => (gd (r1 ≠ 0) (some (((q1 (r1 - 1) 5), q1))))
def Rf_X10_toldBySchool (fu : Nat) (S : Sk) (I : II) (r1 : Nat) : Option (Int32 × II) :=
  (Rf_X10_leave fu S I (2 : Int32)).bind fun q1 => ((Rf_X10_toldByLine fu S q1 r1).bind fun q4 => (gd (r1 ≠ 0) (some (((q4.1 + (q4.2 (r1 - 1) 2)), q4.2)))))
def Rf_X10_toldByNight (fu : Nat) (S : Sk) (I : II) (r1 : Nat) : Option (Int32 × II) :=
  (Rf_X10_leave fu S I (3 : Int32)).bind fun q1 => ((Rf_X10_toldBySchool fu S q1 r1).bind fun q4 => ((Rf_X10_toldByLine fu S q4.2 r1).bind fun q7 => (some (((q4.1 + q7.1), q7.2)))))
def Rf_X10_tell (fu : Nat) (S : Sk) (I : II) (x1 : Int32) : Option (Int32 × II) :=
  ((Rf_X2_lineAt fu S I x1).bind fun q3 => (if q3 = 0 then some ((((-1) : Int32), I)) else if (I (q3 - 1) 1) = (1 : Int32) then (Rf_X10_toldBySchool fu S I q3).bind fun q8 => (some ((q8.1, q8.2))) else (if (I (q3 - 1) 1) = (2 : Int32) then (Rf_X10_toldByNight fu S I q3).bind fun q12 => (some ((q12.1, q12.2))) else (Rf_X10_toldByLine fu S I q3).bind fun q15 => (some ((q15.1, q15.2))))))
def Rf_X10_hail (fu : Nat) (S : Sk) (I : II) (x1 : Int32) : Option (Int32 × II) :=
  ((Rf_X2_lineAt fu S I x1).bind fun q3 => (if q3 = 0 then some ((((-1) : Int32), I)) else if (I (q3 - 1) 1) = (2 : Int32) then (Rf_X10_leave fu S I (5 : Int32)).bind fun q11 => (some (((90 : Int32), q11))) else (Rf_X10_leave fu S I (4 : Int32)).bind fun q8 => (some (((q8 (q3 - 1) 0), q8)))))
def Rf_X10_as (fu : Nat) (S : Sk) (I : II) (x1 : Int32) (x2 : Int32) : Option (Int32 × II) :=
  lt (upI I 0 18 (0 : Int32)) fun I1 => (((Rf_X2_lineAt fu S I1 x1).bind fun q4 => (if q4 = 0 then some ((((-1) : Int32), I1)) else if (t_X10_isKind x2) = 0 then some ((((-2) : Int32), I1)) else if (I1 (q4 - 1) 1) < x2 then (Rf_X10_fail fu S I1 (2 : Int32)).bind fun q11 => (some ((q11.1, q11.2))) else some (((1 : Int32), I1)))))
def Rf_X10_many (fu : Nat) (S : Sk) (I : II) (x1 : Int32) : Option (Int32) :=
  if x1 = (0 : Int32) then (some ((I 1 3))) else (if x1 = (1 : Int32) then (some ((I 1 5))) else (if x1 = (2 : Int32) then some ((I 0 2)) else (if x1 = (3 : Int32) then some ((I 0 4)) else (if x1 = (4 : Int32) then some ((I 0 7)) else (if x1 = (5 : Int32) then some ((I 0 9)) else (if x1 = (6 : Int32) then some ((I 0 11)) else (if x1 = (7 : Int32) then some ((t_J6_bitCount_0f7a4 (I 0 13))) else some (((-2) : Int32)))))))))
def Rf_X11_refused (fu : Nat) (S : Sk) (I : II) (x1 : Int32) : Option (Int32 × II) :=
  lt (upI I 38 0 (0 : Int32)) fun I1 => (some ((x1, I1)))
def Rf_X11_failed (fu : Nat) (S : Sk) (I : II) (x1 : Int32) : Option (Int32 × II) :=
  lt (upI I 38 0 x1) fun I1 => (some (((((-10) : Int32) - x1), I1)))
def Rf_X11_failedLong (fu : Nat) (S : Sk) (I : II) (x1 : Int32) : Option (Int64 × II) :=
  lt (upI I 38 0 x1) fun I1 => (some (((t_X11_lost), I1)))
def Rj_X11_barred_44 (fu : Nat) (S : Sk) (I : II) (x1 : Int32) (x3 : Int32) (n4 : Int64) : Option (Int32 × II) :=
  gd (inbL 74 4 x1) (if 0 ≤ (rdN I 73 x1) then if 0 ≤ (lg_cmp n4 (0 : Int64)) then if (t_X11_isBeyond x3 n4 (rdN I 73 x1)) = 0 then some (((0 : Int32), I)) else (Rf_X11_failed fu S I (3 : Int32)).bind fun q8 => (some ((q8.1, q8.2))) else (Rf_X11_failed fu S I (4 : Int32)).bind fun q11 => (some ((q11.1, q11.2))) else (Rf_X11_failed fu S I (1 : Int32)).bind fun q14 => (some ((q14.1, q14.2))))
def Rf_X11_barred (fu : Nat) (S : Sk) (I : II) (x1 : Int32) (x2 : Int32) (x3 : Int32) (n4 : Int64) : Option (Int32 × II) :=
  if (t_X11_in x2.toInt64 (0 : Int64) (2 : Int64)) = 0 then (Rf_X11_refused fu S I ((-2) : Int32)).bind fun q28 => (some ((q28.1, q28.2))) else gd (inbL 74 4 x1) (if (rdN I 73 x1) < 0 then Rj_X11_barred_44 fu S I x1 x3 n4 else gd (inbL 75 4 x1) (if (rdN I 74 x1) = x2 then Rj_X11_barred_44 fu S I x1 x3 n4 else (Rf_X11_failed fu S I (2 : Int32)).bind fun q25 => (some ((q25.1, q25.2)))))
def Rf_X11_stop (fu : Nat) (S : Sk) (I : II) (x1 : Int32) (x2 : Int32) : Option (Int32 × II) :=
  if (t_X11_in x1.toInt64 (0 : Int64) (40 : Int64)) = 0 then some ((((-2) : Int32), I)) else if (t_X11_in x2.toInt64 (0 : Int64) (40 : Int64)) = 0 then some ((((-2) : Int32), I)) else if (I 38 1) = (16 : Int32) then some ((((-4) : Int32), I)) else gd (inbL 40 16 (I 38 1)) (lt (wrN I 39 (I 38 1) x1) fun I8 => (gd (inbL 41 16 (I8 38 1)) (lt (wrN I8 40 (I8 38 1) x2) fun I11 => (lt (upI I11 38 1 ((I11 38 1) + (1 : Int32))) fun I12 => (some ((((I12 38 1) - (1 : Int32)), I12)))))))
def Rf_X11_farOf (fu : Nat) (S : Sk) (I : II) (x1 : Int32) (x2 : Int32) : Option (Int32) :=
  gd (inbL 40 16 x1) (gd (inbL 40 16 x2) (gd (inbL 41 16 x1) (gd (inbL 41 16 x2) (some (((t_X11_sizeOf ((rdN I 39 x1) - (rdN I 39 x2))) + (t_X11_sizeOf ((rdN I 40 x1) - (rdN I 40 x2)))))))))
def Rf_X11_far (fu : Nat) (S : Sk) (I : II) (x1 : Int32) (x2 : Int32) : Option (Int32) :=
  if (t_X11_noStop I 38 x1) = 0 then if (t_X11_noStop I 38 x2) = 0 then (Rf_X11_farOf fu S I x1 x2).bind fun q5 => (some (q5)) else some (((-1) : Int32)) else some (((-1) : Int32))
def Rj_X11_areUnlike_55 (fu : Nat) (S : Sk) (I : II) (self5 : Int32 → Int32 → Option (Int32)) (self14 : Int32 → Int32 → Option (Int32)) (x1 : Int32) (x2 : Int32) (x4 : Int32) (x5 : Int32) (s0 : Int32) : Option (Int32) :=
  self14 s0 (x5 + (1 : Int32))
def Rj_X11_areUnlike_54 (fu : Nat) (S : Sk) (I : II) (self5 : Int32 → Int32 → Option (Int32)) (self14 : Int32 → Int32 → Option (Int32)) (x1 : Int32) (x2 : Int32) (x4 : Int32) (x5 : Int32) : Option (Int32) :=
  Rj_X11_areUnlike_55 fu S I self5 self14 x1 x2 x4 x5 (0 : Int32)
def Rl_X11_areUnlike_14 (fu : Nat) (S : Sk) (I : II) (self5 : Int32 → Int32 → Option (Int32)) (x1 : Int32) (x2 : Int32) (x4 : Int32) (self14 : Int32 → Int32 → Option (Int32)) (x3 : Int32) (x5 : Int32) : Option (Int32) :=
  if x4 ≤ x5 then self5 x3 (x4 + (1 : Int32)) else if x3 = 0 then Rj_X11_areUnlike_54 fu S I self5 self14 x1 x2 x4 x5 else gd (inbL 76 240 (x1 + ((2 : Int32) * x4))) (gd (inbL 76 240 (x1 + ((2 : Int32) * x5))) (if (rdN I 75 (x1 + ((2 : Int32) * x4))) = (rdN I 75 (x1 + ((2 : Int32) * x5))) then Rj_X11_areUnlike_54 fu S I self5 self14 x1 x2 x4 x5 else Rj_X11_areUnlike_55 fu S I self5 self14 x1 x2 x4 x5 (1 : Int32)))
def Rl_X11_areUnlike_5 (fu : Nat) (S : Sk) (I : II) (x1 : Int32) (x2 : Int32) (self5 : Int32 → Int32 → Option (Int32)) (x3 : Int32) (x4 : Int32) : Option (Int32) :=
  if x2 ≤ x4 then gd (x3 = 0 ∨ x3 = 1) (some (x3)) else fix2 (Rl_X11_areUnlike_14 fu S I self5 x1 x2 x4) fu x3 (0 : Int32)
def Rf_X11_areUnlike (fu : Nat) (S : Sk) (I : II) (x1 : Int32) (x2 : Int32) : Option (Int32) :=
  fix2 (Rl_X11_areUnlike_5 fu S I x1 x2) fu (1 : Int32) (0 : Int32)
def Rj_X11_line_64 (fu : Nat) (S : Sk) (I : II) : Option (Int32 × II) :=
  (Rf_X11_refused fu S I ((-2) : Int32)).bind fun q1 => (some ((q1.1, q1.2)))
def Rj_X11_line_426 (fu : Nat) (S : Sk) (I : II) (self322 : Int32 → II → Option (Int32 × II)) (x1 : Int32) (x8 : Int32) (x10 : Int32) (x12 : Int32) (q0 : Nat) (s1 : Int32) (s2 : Int32) : Option (Int32 × II) :=
  gd (inb S q0 s1) (lt (wr I q0 s1 s2) fun I5 => (self322 (x12 + (1 : Int32)) I5))
def Rj_X11_line_421 (fu : Nat) (S : Sk) (I : II) (self322 : Int32 → II → Option (Int32 × II)) (x1 : Int32) (x8 : Int32) (x10 : Int32) (x12 : Int32) (q0 : Nat) (s1 : Int32) (s2 : Int32) (s3 : Int32) (s4 : Int32) (s5 : Int32) : Option (Int32 × II) :=
  Rj_X11_line_426 fu S I self322 x1 x8 x10 x12 q0 s1 (s2 + (t_X11_greater s3 (s4 - s5)))
def Rl_X11_line_322 (fu : Nat) (S : Sk) (x1 : Int32) (x8 : Int32) (x10 : Int32) (self322 : Int32 → II → Option (Int32 × II)) (x12 : Int32) (I : II) : Option (Int32 × II) :=
  if x8 ≤ x12 then lt (upI I 38 4 ((I 38 4) + (1 : Int32))) fun I8 => ((Rf_X11_refused fu S I8 ((I8 38 4) - (1 : Int32))).bind fun q9 => (some ((q9.1, q9.2)))) else gd (inbL 76 240 (x10 + ((2 : Int32) * x12))) (gd (inbL 44 112 (((8 : Int32) * (I 38 4)) + x12)) (lt (wrN I 43 (((8 : Int32) * (I 38 4)) + x12) (rdN I 75 (x10 + ((2 : Int32) * x12)))) fun I16 => (if x12 = 0 then Rj_X11_line_426 fu S I16 self322 x1 x8 x10 x12 45 (((8 : Int32) * (I16 38 4)) + x12) (0 : Int32) else gd (inbL 45 112 ((((8 : Int32) * (I16 38 4)) + x12) - (1 : Int32))) (gd (inbL 76 240 ((x10 + ((2 : Int32) * x12)) - (1 : Int32))) (if x1 = (2 : Int32) then Rj_X11_line_421 fu S I16 self322 x1 x8 x10 x12 45 (((8 : Int32) * (I16 38 4)) + x12) (rdN I16 44 ((((8 : Int32) * (I16 38 4)) + x12) - (1 : Int32))) (1 : Int32) (rdN I16 75 ((x10 + ((2 : Int32) * x12)) - (1 : Int32))) (1 : Int32) else Rj_X11_line_421 fu S I16 self322 x1 x8 x10 x12 45 (((8 : Int32) * (I16 38 4)) + x12) (rdN I16 44 ((((8 : Int32) * (I16 38 4)) + x12) - (1 : Int32))) (1 : Int32) (rdN I16 75 ((x10 + ((2 : Int32) * x12)) - (1 : Int32))) (0 : Int32))))))
def Rl_X11_line_184 (fu : Nat) (S : Sk) (I : II) (x1 : Int32) (x2 : Int32) (x3 : Int32) (x4 : Int32) (x8 : Int32) (x10 : Int32) (self184 : Int32 → Option (Int32 × II)) (x12 : Int32) : Option (Int32 × II) :=
  if x8 ≤ x12 then (Rf_X11_areUnlike fu S I x10 x8).bind fun q25 => (if q25 = 0 then (Rf_X11_refused fu S I ((-3) : Int32)).bind fun q51 => (some ((q51.1, q51.2))) else if (I 38 4) = (14 : Int32) then (Rf_X11_refused fu S I ((-4) : Int32)).bind fun q48 => (some ((q48.1, q48.2))) else gd (inbL 42 14 (I 38 4)) (lt (wrN I 41 (I 38 4) x1) fun I32 => (gd (inbL 43 14 (I32 38 4)) (lt (wrN I32 42 (I32 38 4) x8) fun I35 => (gd (inbL 46 14 (I35 38 4)) (lt (wrN I35 45 (I35 38 4) x2) fun I38 => (gd (inbL 47 14 (I38 38 4)) (lt (wrN I38 46 (I38 38 4) x3) fun I41 => (gd (inbL 48 14 (I41 38 4)) (lt (wrN I41 47 (I41 38 4) x4) fun I44 => (gd (inbL 50 14 (I44 38 4)) (lt (wrN I44 49 (I44 38 4) (59 : Int32)) fun I47 => (fix2 (Rl_X11_line_322 fu S x1 x8 x10) fu (0 : Int32) I47))))))))))))) else gd (inbL 76 240 (x10 + ((2 : Int32) * x12))) (if (t_X11_noStop I 38 (rdN I 75 (x10 + ((2 : Int32) * x12)))) = 0 then self184 (x12 + (1 : Int32)) else (Rf_X11_refused fu S I ((-1) : Int32)).bind fun q58 => (some ((q58.1, q58.2))))
def Rj_X11_line_169 (fu : Nat) (S : Sk) (I : II) (x1 : Int32) (x2 : Int32) (x3 : Int32) (x4 : Int32) (x8 : Int32) (x10 : Int32) (x11 : Int32) : Option (Int32 × II) :=
  if x11 = 0 then (Rf_X11_refused fu S I ((-2) : Int32)).bind fun q62 => (some ((q62.1, q62.2))) else fix1 (Rl_X11_line_184 fu S I x1 x2 x3 x4 x8 x10) fu (0 : Int32)
def Rl_X11_line_125 (fu : Nat) (S : Sk) (I : II) (x1 : Int32) (x2 : Int32) (x3 : Int32) (x4 : Int32) (x8 : Int32) (x10 : Int32) (self125 : Int32 → Int32 → Option (Int32 × II)) (x11 : Int32) (x12 : Int32) : Option (Int32 × II) :=
  if (x8 - (1 : Int32)) ≤ x12 then Rj_X11_line_169 fu S I x1 x2 x3 x4 x8 x10 x11 else if x11 = 0 then Rj_X11_line_169 fu S I x1 x2 x3 x4 x8 x10 x11 else gd (inbL 76 240 ((x10 + ((2 : Int32) * x12)) + (1 : Int32))) (lt (t_X11_in (((rdN I 75 ((x10 + ((2 : Int32) * x12)) + (1 : Int32)))).toInt64) (1 : Int64) (30 : Int64)) fun x11_70 => (self125 x11_70 (x12 + (1 : Int32))))
def Rf_X11_line (fu : Nat) (S : Sk) (I : II) (x1 : Int32) (x2 : Int32) (x3 : Int32) (x4 : Int32) (x5 : Int32) (x6 : Int32) (x7 : Int32) (x8 : Int32) : Option (Int32 × II) :=
  if (t_X11_noSheet x5) = 0 then if (t_X11_in x1.toInt64 (0 : Int64) (2 : Int64)) = 0 then Rj_X11_line_64 fu S I else if (t_X11_in x2.toInt64 (0 : Int64) (1439 : Int64)) = 0 then Rj_X11_line_64 fu S I else if (t_X11_in x3.toInt64 (1 : Int64) (240 : Int64)) = 0 then Rj_X11_line_64 fu S I else if (t_X11_in x4.toInt64 x2.toInt64 (1439 : Int64)) = 0 then Rj_X11_line_64 fu S I else (Rf_X11_barred fu S I x5 x6 x7 ((2 : Int64) * x8.toInt64)).bind fun q81 => (lt q81.1 fun x9_84 => (if 0 ≤ x9_84 then lt (((60 : Int32) * x5) + x7) fun x10_86 => (lt (t_X11_in x8.toInt64 (2 : Int64) (8 : Int64)) fun x11_88 => (fix2 (Rl_X11_line_125 fu S q81.2 x1 x2 x3 x4 x8 x10_86) fu x11_88 (0 : Int32))) else some ((x9_84, q81.2)))) else (Rf_X11_refused fu S I ((-1) : Int32)).bind fun q89 => (some ((q89.1, q89.2)))
def Rj_X11_days_58 (fu : Nat) (S : Sk) (I : II) (x1 : Int32) (x2 : Int32) (x3 : Int32) (s0 : Int32) : Option (Int32 × II) :=
  gd (inbL 49 14 x1) (lt (wrN I 48 x1 x2) fun I3 => (gd (inbL 50 14 x1) (lt (wrN I3 49 x1 x3) fun I6 => (if s0 = 0 then some (((1 : Int32), I6)) else some (((0 : Int32), I6))))))
def Rj_X11_days_57 (fu : Nat) (S : Sk) (I : II) (x1 : Int32) (x2 : Int32) (x3 : Int32) : Option (Int32 × II) :=
  Rj_X11_days_58 fu S I x1 x2 x3 (0 : Int32)
def Rf_X11_days (fu : Nat) (S : Sk) (I : II) (x1 : Int32) (x2 : Int32) (x3 : Int32) : Option (Int32 × II) :=
  if (t_X11_noLine I 38 x1) = 0 then if (t_X11_isDay x2) = 0 then some ((((-2) : Int32), I)) else if (t_X11_in x3.toInt64 x2.toInt64 (59 : Int64)) = 0 then some ((((-2) : Int32), I)) else gd (inbL 49 14 x1) (if (rdN I 48 x1) = x2 then gd (inbL 50 14 x1) (if (rdN I 49 x1) = x3 then Rj_X11_days_58 fu S I x1 x2 x3 (1 : Int32) else Rj_X11_days_57 fu S I x1 x2 x3) else Rj_X11_days_57 fu S I x1 x2 x3) else some ((((-1) : Int32), I))
def Rf_X11_buses (fu : Nat) (S : Sk) (I : II) (x1 : Int32) : Option (Int32) :=
  gd (inbL 48 14 x1) (gd (inbL 46 14 x1) (gd (inbL 47 14 x1) (gd (¬ (rdN I 46 x1) = 0) (some (((((rdN I 47 x1) - (rdN I 45 x1)) / (rdN I 46 x1)) + (1 : Int32)))))))
def Rf_X11_roundOf (fu : Nat) (S : Sk) (I : II) (x1 : Int32) : Option (Int32) :=
  gd (inbL 43 14 x1) (gd (inbL 45 112 ((((8 : Int32) * x1) + (rdN I 42 x1)) - (1 : Int32))) (some ((rdN I 44 ((((8 : Int32) * x1) + (rdN I 42 x1)) - (1 : Int32))))))
def Rf_X11_ofLine (fu : Nat) (S : Sk) (I : II) (x1 : Int32) (x2 : Int32) : Option (Int32) :=
  if (t_X11_noLine I 38 x1) = 0 then if x2 = (0 : Int32) then gd (inbL 42 14 x1) (some ((rdN I 41 x1))) else (if x2 = (1 : Int32) then gd (inbL 43 14 x1) (some ((rdN I 42 x1))) else (if x2 = (2 : Int32) then gd (inbL 46 14 x1) (some ((rdN I 45 x1))) else (if x2 = (3 : Int32) then gd (inbL 47 14 x1) (some ((rdN I 46 x1))) else (if x2 = (4 : Int32) then gd (inbL 48 14 x1) (some ((rdN I 47 x1))) else (if x2 = (5 : Int32) then gd (inbL 49 14 x1) (some ((rdN I 48 x1))) else (if x2 = (6 : Int32) then gd (inbL 50 14 x1) (some ((rdN I 49 x1))) else (if x2 = (7 : Int32) then (Rf_X11_roundOf fu S I x1).bind fun q25 => (some (q25)) else (if x2 = (8 : Int32) then (Rf_X11_buses fu S I x1).bind fun q29 => (some (q29)) else gd (inbL 43 14 x1) (if (t_X11_in x2.toInt64 (10 : Int64) ((9 : Int64) + (((rdN I 42 x1)).toInt64))) = 0 then some (((-2) : Int32)) else gd (inbL 44 112 ((((8 : Int32) * x1) + x2) - (10 : Int32))) (some ((rdN I 43 ((((8 : Int32) * x1) + x2) - (10 : Int32)))))))))))))) else some (((-1) : Int32))
def Rf_X11_doesRun (fu : Nat) (S : Sk) (I : II) (x1 : Int32) (x2 : Int32) : Option (Int32) :=
  gd (inbL 49 14 x1) (gd (inbL 50 14 x1) (if (t_X11_in x2.toInt64 (((rdN I 48 x1)).toInt64) (((rdN I 49 x1)).toInt64)) = 0 then some ((0 : Int32)) else gd (inbL 42 14 x1) (if (rdN I 41 x1) = (1 : Int32) then if (5 : Int32) ≤ (x2 - x2 / (7 : Int32) * (7 : Int32)) then some ((0 : Int32)) else some ((1 : Int32)) else some ((1 : Int32)))))
def Rf_X11_runs (fu : Nat) (S : Sk) (I : II) (x1 : Int32) (x2 : Int32) : Option (Int32) :=
  if (t_X11_noLine I 38 x1) = 0 then if (t_X11_isDay x2) = 0 then some (((-2) : Int32)) else (Rf_X11_doesRun fu S I x1 x2).bind fun q5 => (if q5 = 0 then some ((0 : Int32)) else some ((1 : Int32))) else some (((-1) : Int32))
def Rj_X11_minuteAt_49 (fu : Nat) (S : Sk) (I : II) (x1 : Int32) (x2 : Int32) (s0 : Int32) : Option (Int32) :=
  (Rf_X11_buses fu S I x1).bind fun q1 => (if q1 ≤ s0 then some ((1000000 : Int32)) else gd (inbL 46 14 x1) (gd (inbL 47 14 x1) (gd (inbL 45 112 (((8 : Int32) * x1) + x2)) (some ((((rdN I 45 x1) + (s0 * (rdN I 46 x1))) + (rdN I 44 (((8 : Int32) * x1) + x2))))))))
def Rf_X11_minuteAt (fu : Nat) (S : Sk) (I : II) (x1 : Int32) (x2 : Int32) (x3 : Int32) : Option (Int32) :=
  gd (inbL 45 112 (((8 : Int32) * x1) + x2)) (gd (inbL 46 14 x1) (lt ((x3 - (rdN I 44 (((8 : Int32) * x1) + x2))) - (rdN I 45 x1)) fun x4_15 => (if 0 < x4_15 then gd (inbL 47 14 x1) (gd (¬ (rdN I 46 x1) = 0) (Rj_X11_minuteAt_49 fu S I x1 x2 (((x4_15 + (rdN I 46 x1)) - (1 : Int32)) / (rdN I 46 x1)))) else Rj_X11_minuteAt_49 fu S I x1 x2 (0 : Int32))))
def Rf_X11_minute (fu : Nat) (S : Sk) (I : II) (x1 : Int32) (x2 : Int32) (x3 : Int32) : Option (Int32) :=
  if (t_X11_noLine I 38 x1) = 0 then gd (inbL 43 14 x1) (if (t_X11_in x2.toInt64 (0 : Int64) ((((rdN I 42 x1)).toInt64) - (1 : Int64))) = 0 then some (((-1) : Int32)) else if (t_X11_in x3.toInt64 (0 : Int64) (2879 : Int64)) = 0 then some (((-2) : Int32)) else (Rf_X11_minuteAt fu S I x1 x2 x3).bind fun q9 => (if q9 = (1000000 : Int32) then some (((-9) : Int32)) else some (q9))) else some (((-1) : Int32))
def Rj_X11_readsNumber_199 (fu : Nat) (S : Sk) (I : II) (x4 : Int32) : Option (Int32 × II) :=
  if (I 38 21) ≤ x4 then some (((0 : Int32), I)) else some (((1 : Int32), I))
def Rj_X11_readsNumber_177 (fu : Nat) (S : Sk) (I : II) (x4 : Int32) (s0 : Int32) : Option (Int32 × II) :=
  if (I 38 21) ≤ x4 then Rj_X11_readsNumber_199 fu S I x4 else if s0 = 0 then lt (upI I 38 21 x4) fun I4 => (Rj_X11_readsNumber_199 fu S I4 x4) else Rj_X11_readsNumber_199 fu S I x4
def Rj_X11_readsNumber_172 (fu : Nat) (S : Sk) (I : II) (x4 : Int32) : Option (Int32 × II) :=
  Rj_X11_readsNumber_177 fu S I x4 (1 : Int32)
def Rj_X11_readsNumber_176 (fu : Nat) (S : Sk) (I : II) (x4 : Int32) : Option (Int32 × II) :=
  Rj_X11_readsNumber_177 fu S I x4 (0 : Int32)
def Rj_X11_readsNumber_99 (fu : Nat) (S : Sk) (I : II) (x1 : Int32) (x4 : Int32) : Option (Int32 × II) :=
  if x1 = 0 then gd (inbL 56 4 (0 : Int32)) (if (t_X11_noStop I 38 (rdN I 55 (0 : Int32))) = 0 then Rj_X11_readsNumber_177 fu S I x4 (1 : Int32) else Rj_X11_readsNumber_177 fu S I x4 (0 : Int32)) else if x1 = (1 : Int32) then Rj_X11_readsNumber_172 fu S I x4 else if x1 = (2 : Int32) then gd (inbL 56 4 (2 : Int32)) (if (t_X11_isDay (rdN I 55 (2 : Int32))) = 0 then Rj_X11_readsNumber_176 fu S I x4 else Rj_X11_readsNumber_172 fu S I x4) else gd (inbL 56 4 (3 : Int32)) (gd (inbL 56 4 (2 : Int32)) (if (t_X11_in (((rdN I 55 (3 : Int32))).toInt64) (((rdN I 55 (2 : Int32))).toInt64) (59 : Int64)) = 0 then Rj_X11_readsNumber_176 fu S I x4 else Rj_X11_readsNumber_172 fu S I x4))
def Rl_X11_readsNumber_13 (fu : Nat) (S : Sk) (x1 : Int32) (x2 : Int32) (x3 : Int32) (x4 : Int32) (self13 : II → Option (Int32 × II)) (I : II) : Option (Int32 × II) :=
  if x3 ≤ (I 38 21) then Rj_X11_readsNumber_99 fu S I x1 x4 else if (x4 + (3 : Int32)) ≤ (I 38 21) then Rj_X11_readsNumber_99 fu S I x1 x4 else gd (inbL 76 240 (x2 + (I 38 21))) (if (t_X11_in (((rdN I 75 (x2 + (I 38 21)))).toInt64) (48 : Int64) (57 : Int64)) = 0 then Rj_X11_readsNumber_99 fu S I x1 x4 else gd (inbL 56 4 x1) (lt (wrN I 55 x1 ((((10 : Int32) * (rdN I 55 x1)) + (rdN I 75 (x2 + (I 38 21)))) - (48 : Int32))) fun I32 => (lt (upI I32 38 21 ((I32 38 21) + (1 : Int32))) fun I33 => (self13 I33))))
def Rf_X11_readsNumber (fu : Nat) (S : Sk) (I : II) (x1 : Int32) (x2 : Int32) (x3 : Int32) : Option (Int32 × II) :=
  lt (I 38 21) fun x4_34 => (gd (inbL 56 4 x1) (lt (wrN I 55 x1 (0 : Int32)) fun I37 => (fix1 (Rl_X11_readsNumber_13 fu S x1 x2 x3 x4_34) fu I37)))
def Rj_X11_readText_69 (fu : Nat) (S : Sk) (I : II) : Option (Int32 × II) :=
  some (((I 38 21), I))
def Rj_X11_readText_43 (fu : Nat) (S : Sk) (I : II) (self7 : Int32 → II → Option (Int32 × II)) (x1 : Int32) (x2 : Int32) (x3 : Int32) (s0 : Int32) : Option (Int32 × II) :=
  if (I 38 21) = x2 then Rj_X11_readText_69 fu S I else gd (inbL 76 240 (x1 + (I 38 21))) (if (rdN I 75 (x1 + (I 38 21))) = s0 then lt (upI I 38 21 ((I 38 21) + (1 : Int32))) fun I5 => ((Rf_X11_readsNumber fu S I5 x3 x1 x2).bind fun q6 => (if q6.1 = 0 then some (((q6.2 38 21), q6.2)) else self7 (x3 + (1 : Int32)) q6.2)) else Rj_X11_readText_69 fu S I)
def Rl_X11_readText_7 (fu : Nat) (S : Sk) (x1 : Int32) (x2 : Int32) (self7 : Int32 → II → Option (Int32 × II)) (x3 : Int32) (I : II) : Option (Int32 × II) :=
  if (4 : Int32) ≤ x3 then if (I 38 21) = x2 then some ((((-1) : Int32), I)) else some (((I 38 21), I)) else if x3 = 0 then Rj_X11_readText_43 fu S I self7 x1 x2 x3 (115 : Int32) else if x3 = (1 : Int32) then Rj_X11_readText_43 fu S I self7 x1 x2 x3 (62 : Int32) else if x3 = (2 : Int32) then Rj_X11_readText_43 fu S I self7 x1 x2 x3 (64 : Int32) else Rj_X11_readText_43 fu S I self7 x1 x2 x3 (45 : Int32)
def Rf_X11_readText (fu : Nat) (S : Sk) (I : II) (x1 : Int32) (x2 : Int32) : Option (Int32 × II) :=
  lt (upI I 38 21 (0 : Int32)) fun I15 => (fix2 (Rl_X11_readText_7 fu S x1 x2) fu (0 : Int32) I15)
def Rf_X11_text (fu : Nat) (S : Sk) (I : II) (x1 : Int32) (x2 : Int32) (x3 : Int32) (x4 : Int32) : Option (Int32 × II) :=
  if (t_X11_noSheet x1) = 0 then (Rf_X11_barred fu S I x1 x2 x3 x4.toInt64).bind fun q3 => (lt q3.1 fun x5_6 => (if 0 ≤ x5_6 then (Rf_X11_readText fu S q3.2 (((60 : Int32) * x1) + x3) x4).bind fun q8 => (lt q8.1 fun x6_11 => (if x6_11 < 0 then if (q8.2 38 15) = (12 : Int32) then (Rf_X11_refused fu S q8.2 ((-4) : Int32)).bind fun q38 => (some ((q38.1, q38.2))) else gd (inbL 56 4 (0 : Int32)) (gd (inbL 52 12 (q8.2 38 15)) (lt (wrN q8.2 51 (q8.2 38 15) (rdN q8.2 55 (0 : Int32))) fun I18 => (gd (inbL 56 4 (1 : Int32)) (gd (inbL 53 12 (I18 38 15)) (lt (wrN I18 52 (I18 38 15) (rdN I18 55 (1 : Int32))) fun I23 => (gd (inbL 56 4 (2 : Int32)) (gd (inbL 54 12 (I23 38 15)) (lt (wrN I23 53 (I23 38 15) (rdN I23 55 (2 : Int32))) fun I28 => (gd (inbL 56 4 (3 : Int32)) (gd (inbL 55 12 (I28 38 15)) (lt (wrN I28 54 (I28 38 15) (rdN I28 55 (3 : Int32))) fun I33 => (lt (upI I33 38 15 ((I33 38 15) + (1 : Int32))) fun I34 => ((Rf_X11_refused fu S I34 ((I34 38 15) - (1 : Int32))).bind fun q35 => (some ((q35.1, q35.2)))))))))))))))) else (Rf_X11_refused fu S q8.2 (((-100) : Int32) - x6_11)).bind fun q41 => (some ((q41.1, q41.2))))) else some ((x5_6, q3.2)))) else (Rf_X11_refused fu S I ((-1) : Int32)).bind fun q44 => (some ((q44.1, q44.2)))
def Rj_X11_textFor_56 (fu : Nat) (S : Sk) (I : II) (self6 : Int32 → Int32 → Option (Int32)) (x1 : Int32) (x2 : Int32) (x4 : Int32) (s0 : Int32) : Option (Int32) :=
  self6 s0 (x4 + (1 : Int32))
def Rj_X11_textFor_55 (fu : Nat) (S : Sk) (I : II) (self6 : Int32 → Int32 → Option (Int32)) (x1 : Int32) (x2 : Int32) (x3 : Int32) (x4 : Int32) : Option (Int32) :=
  Rj_X11_textFor_56 fu S I self6 x1 x2 x4 x3
def Rl_X11_textFor_6 (fu : Nat) (S : Sk) (I : II) (x1 : Int32) (x2 : Int32) (self6 : Int32 → Int32 → Option (Int32)) (x3 : Int32) (x4 : Int32) : Option (Int32) :=
  if (I 38 15) ≤ x4 then some (x3) else gd (inbL 52 12 x4) (if (rdN I 51 x4) = x1 then gd (inbL 54 12 x4) (gd (inbL 55 12 x4) (if (t_X11_in x2.toInt64 (((rdN I 53 x4)).toInt64) (((rdN I 54 x4)).toInt64)) = 0 then Rj_X11_textFor_55 fu S I self6 x1 x2 x3 x4 else Rj_X11_textFor_56 fu S I self6 x1 x2 x4 x4)) else Rj_X11_textFor_55 fu S I self6 x1 x2 x3 x4)
def Rf_X11_textFor (fu : Nat) (S : Sk) (I : II) (x1 : Int32) (x2 : Int32) : Option (Int32) :=
  fix2 (Rl_X11_textFor_6 fu S I x1 x2) fu ((-9) : Int32) (0 : Int32)
def Rf_X11_owedTo (fu : Nat) (S : Sk) (I : II) (x1 : Int32) (x2 : Int32) : Option (Int32) :=
  (Rf_X11_textFor fu S I x1 x2).bind fun q1 => (if 0 ≤ q1 then gd (inbL 53 12 q1) (some ((rdN I 52 q1))) else some ((0 : Int32)))
def Rf_X11_owed (fu : Nat) (S : Sk) (I : II) (x1 : Int32) (x2 : Int32) : Option (Int32) :=
  if (t_X11_noStop I 38 x1) = 0 then if (t_X11_isDay x2) = 0 then some (((-2) : Int32)) else (Rf_X11_owedTo fu S I x1 x2).bind fun q5 => (some (q5)) else some (((-1) : Int32))
def Rf_X11_why (fu : Nat) (S : Sk) (I : II) (x1 : Int32) (x2 : Int32) : Option (Int32) :=
  if (t_X11_noStop I 38 x1) = 0 then if (t_X11_isDay x2) = 0 then some (((-2) : Int32)) else (Rf_X11_textFor fu S I x1 x2).bind fun q5 => (some (q5)) else some (((-1) : Int32))
def Rj_X11_servedAt_69 (fu : Nat) (S : Sk) (I : II) (self5 : Int32 → Int32 → Option (Int32)) (self17 : Int32 → Int32 → Option (Int32)) (x1 : Int32) (x2 : Int32) (x4 : Int32) (x5 : Int32) (s0 : Int32) (s1 : Int32) : Option (Int32) :=
  lt (s0 + s1) fun x3_1 => (self17 x3_1 (x5 + (1 : Int32)))
def Rj_X11_servedAt_68 (fu : Nat) (S : Sk) (I : II) (self5 : Int32 → Int32 → Option (Int32)) (self17 : Int32 → Int32 → Option (Int32)) (x1 : Int32) (x2 : Int32) (x4 : Int32) (x5 : Int32) (s0 : Int32) : Option (Int32) :=
  Rj_X11_servedAt_69 fu S I self5 self17 x1 x2 x4 x5 s0 (0 : Int32)
def Rl_X11_servedAt_17 (fu : Nat) (S : Sk) (I : II) (self5 : Int32 → Int32 → Option (Int32)) (x1 : Int32) (x2 : Int32) (x4 : Int32) (self17 : Int32 → Int32 → Option (Int32)) (x3 : Int32) (x5 : Int32) : Option (Int32) :=
  gd (inbL 43 14 x4) (if ((rdN I 42 x4) - (1 : Int32)) ≤ x5 then self5 x3 (x4 + (1 : Int32)) else gd (inbL 44 112 (((8 : Int32) * x4) + x5)) (if (rdN I 43 (((8 : Int32) * x4) + x5)) = x1 then (Rf_X11_doesRun fu S I x4 x2).bind fun q8 => (if q8 = 0 then Rj_X11_servedAt_68 fu S I self5 self17 x1 x2 x4 x5 x3 else (Rf_X11_buses fu S I x4).bind fun q12 => (Rj_X11_servedAt_69 fu S I self5 self17 x1 x2 x4 x5 x3 q12)) else Rj_X11_servedAt_68 fu S I self5 self17 x1 x2 x4 x5 x3))
def Rl_X11_servedAt_5 (fu : Nat) (S : Sk) (I : II) (x1 : Int32) (x2 : Int32) (self5 : Int32 → Int32 → Option (Int32)) (x3 : Int32) (x4 : Int32) : Option (Int32) :=
  if (I 38 4) ≤ x4 then some (x3) else fix2 (Rl_X11_servedAt_17 fu S I self5 x1 x2 x4) fu x3 (0 : Int32)
def Rf_X11_servedAt (fu : Nat) (S : Sk) (I : II) (x1 : Int32) (x2 : Int32) : Option (Int32) :=
  fix2 (Rl_X11_servedAt_5 fu S I x1 x2) fu (0 : Int32) (0 : Int32)
def Rf_X11_served (fu : Nat) (S : Sk) (I : II) (x1 : Int32) (x2 : Int32) : Option (Int32) :=
  if (t_X11_noStop I 38 x1) = 0 then if (t_X11_isDay x2) = 0 then some (((-2) : Int32)) else (Rf_X11_servedAt fu S I x1 x2).bind fun q5 => (some (q5)) else some (((-1) : Int32))
def Rj_X11_breach_45 (fu : Nat) (S : Sk) (I : II) (self14 : Int32 → Int32 → Option (Int32)) (x1 : Int32) (x3 : Int32) (s0 : Int32) (s1 : Int32) : Option (Int32) :=
  lt (s0 ||| s1) fun x2_1 => (self14 x2_1 (x3 + (1 : Int32)))
def Rl_X11_breach_14 (fu : Nat) (S : Sk) (I : II) (x1 : Int32) (self14 : Int32 → Int32 → Option (Int32)) (x2 : Int32) (x3 : Int32) : Option (Int32) :=
  if (I 38 1) ≤ x3 then some (x2) else (Rf_X11_servedAt fu S I x3 x1).bind fun q3 => ((Rf_X11_owedTo fu S I x3 x1).bind fun q6 => (if q6 ≤ q3 then Rj_X11_breach_45 fu S I self14 x1 x3 x2 (0 : Int32) else Rj_X11_breach_45 fu S I self14 x1 x3 x2 ((1 : Int32) <<< (x3 &&& 31))))
def Rf_X11_breach (fu : Nat) (S : Sk) (I : II) (x1 : Int32) : Option (Int32) :=
  if (t_X11_isDay x1) = 0 then some (((-2) : Int32)) else fix2 (Rl_X11_breach_14 fu S I x1) fu (0 : Int32) (0 : Int32)
def Rf_X11_trip (fu : Nat) (S : Sk) (I : II) (x1 : Int32) (x2 : Int32) (x3 : Int32) (x4 : Int32) (x5 : Int32) : Option (Int32 × II) :=
  if (t_X11_noStop I 38 x1) = 0 then if (t_X11_noStop I 38 x2) = 0 then if (t_X11_in x3.toInt64 (0 : Int64) (1439 : Int64)) = 0 then some ((((-2) : Int32), I)) else if (t_X11_in x4.toInt64 (0 : Int64) (30 : Int64)) = 0 then some ((((-2) : Int32), I)) else if (t_X11_in x5.toInt64 (0 : Int64) (3 : Int64)) = 0 then some ((((-2) : Int32), I)) else if (I 38 22) = (6 : Int32) then some ((((-4) : Int32), I)) else gd (inbL 57 6 (I 38 22)) (lt (wrN I 56 (I 38 22) x1) fun I14 => (gd (inbL 58 6 (I14 38 22)) (lt (wrN I14 57 (I14 38 22) x2) fun I17 => (gd (inbL 59 6 (I17 38 22)) (lt (wrN I17 58 (I17 38 22) x3) fun I20 => (gd (inbL 60 6 (I20 38 22)) (lt (wrN I20 59 (I20 38 22) x4) fun I23 => (gd (inbL 61 6 (I23 38 22)) (lt (wrN I23 60 (I23 38 22) x5) fun I26 => (lt (upI I26 38 22 ((I26 38 22) + (1 : Int32))) fun I27 => (some ((((I27 38 22) - (1 : Int32)), I27))))))))))))) else some ((((-1) : Int32), I)) else some ((((-1) : Int32), I))
def Rj_X11_walkFrom_110 (fu : Nat) (S : Sk) (I : II) (self2 : Int32 → II → Option (II)) (self10 : Int32 → II → Option (II)) (x1 : Int32) (x2 : Int32) (x3 : Int32) (x4 : Int32) : Option (II) :=
  self10 (x4 + (1 : Int32)) I
def Rj_X11_walkFrom_104 (fu : Nat) (S : Sk) (I : II) (self2 : Int32 → II → Option (II)) (self10 : Int32 → II → Option (II)) (self36 : Int32 → II → Option (II)) (x1 : Int32) (x2 : Int32) (x3 : Int32) (x4 : Int32) (x5 : Int32) (x6 : Int32) : Option (II) :=
  self36 (x6 + (1 : Int32)) I
def Rl_X11_walkFrom_36 (fu : Nat) (S : Sk) (self2 : Int32 → II → Option (II)) (self10 : Int32 → II → Option (II)) (x1 : Int32) (x2 : Int32) (x3 : Int32) (x4 : Int32) (x5 : Int32) (self36 : Int32 → II → Option (II)) (x6 : Int32) (I : II) : Option (II) :=
  if (I 38 1) ≤ x6 then Rj_X11_walkFrom_110 fu S I self2 self10 x1 x2 x3 x4 else if (1000000 : Int32) ≤ x5 then Rj_X11_walkFrom_110 fu S I self2 self10 x1 x2 x3 x4 else (Rf_X11_farOf fu S I x4 x6).bind fun q3 => (if x2 < (x3 + q3) then Rj_X11_walkFrom_104 fu S I self2 self10 self36 x1 x2 x3 x4 x5 x6 else lt (t_X11_placeOf x1 (x3 + q3) x6) fun x8_8 => (gd (inbL 62 1984 x8_8) (lt (wrN I 61 x8_8 (t_X11_lesser (rdN I 61 x8_8) (x5 + q3))) fun I13 => (Rj_X11_walkFrom_104 fu S I13 self2 self10 self36 x1 x2 x3 x4 x5 x6))))
def Rl_X11_walkFrom_10 (fu : Nat) (S : Sk) (self2 : Int32 → II → Option (II)) (x1 : Int32) (x2 : Int32) (x3 : Int32) (self10 : Int32 → II → Option (II)) (x4 : Int32) (I : II) : Option (II) :=
  if (I 38 1) ≤ x4 then self2 (x3 + (1 : Int32)) I else gd (inbL 63 496 (((16 : Int32) * x3) + x4)) (lt (rdN I 62 (((16 : Int32) * x3) + x4)) fun x5_17 => (fix2 (Rl_X11_walkFrom_36 fu S self2 self10 x1 x2 x3 x4 x5_17) fu (0 : Int32) I))
def Rl_X11_walkFrom_2 (fu : Nat) (S : Sk) (x1 : Int32) (x2 : Int32) (self2 : Int32 → II → Option (II)) (x3 : Int32) (I : II) : Option (II) :=
  if x2 < x3 then some (I) else fix2 (Rl_X11_walkFrom_10 fu S self2 x1 x2 x3) fu (0 : Int32) I
def Rf_X11_walkFrom (fu : Nat) (S : Sk) (I : II) (x1 : Int32) (x2 : Int32) : Option (II) :=
  fix2 (Rl_X11_walkFrom_2 fu S x1 x2) fu (0 : Int32) I
def Rj_X11_rideFrom_224 (fu : Nat) (S : Sk) (I : II) (self25 : Int32 → II → Option (II)) (x1 : Int32) (x2 : Int32) (x3 : Int32) : Option (II) :=
  self25 (x3 + (1 : Int32)) I
def Rj_X11_rideFrom_212 (fu : Nat) (S : Sk) (I : II) (self25 : Int32 → II → Option (II)) (self36 : Int32 → II → Option (II)) (self56 : Int32 → II → Option (II)) (x1 : Int32) (x2 : Int32) (x3 : Int32) (x4 : Int32) (x5 : Int32) : Option (II) :=
  self56 (x5 + (1 : Int32)) I
def Rl_X11_rideFrom_123 (fu : Nat) (S : Sk) (self25 : Int32 → II → Option (II)) (self36 : Int32 → II → Option (II)) (self56 : Int32 → II → Option (II)) (x1 : Int32) (x2 : Int32) (x3 : Int32) (x4 : Int32) (x5 : Int32) (x7 : Int32) (self123 : Int32 → II → Option (II)) (x8 : Int32) (I : II) : Option (II) :=
  gd (inbL 43 14 x3) (if (rdN I 42 x3) ≤ x8 then Rj_X11_rideFrom_212 fu S I self25 self36 self56 x1 x2 x3 x4 x5 else if (1000000 : Int32) ≤ x7 then Rj_X11_rideFrom_212 fu S I self25 self36 self56 x1 x2 x3 x4 x5 else gd (inbL 44 112 (((8 : Int32) * x3) + x8)) (lt (((16 : Int32) * x4) + (rdN I 43 (((8 : Int32) * x3) + x8))) fun x9_7 => (gd (inbL 63 496 x9_7) (gd (inbL 45 112 (((8 : Int32) * x3) + x8)) (gd (inbL 45 112 (((8 : Int32) * x3) + x5)) (lt (wrN I 62 x9_7 (t_X11_lesser (rdN I 62 x9_7) ((x7 + (rdN I 44 (((8 : Int32) * x3) + x8))) - (rdN I 44 (((8 : Int32) * x3) + x5))))) fun I16 => (self123 (x8 + (1 : Int32)) I16)))))))
def Rj_X11_rideFrom_115 (fu : Nat) (S : Sk) (I : II) (self25 : Int32 → II → Option (II)) (self36 : Int32 → II → Option (II)) (self56 : Int32 → II → Option (II)) (x1 : Int32) (x2 : Int32) (x3 : Int32) (x4 : Int32) (x5 : Int32) (s0 : Int32) : Option (II) :=
  lt (x5 + (1 : Int32)) fun x8_17 => (fix2 (Rl_X11_rideFrom_123 fu S self25 self36 self56 x1 x2 x3 x4 x5 s0) fu x8_17 I)
def Rl_X11_rideFrom_56 (fu : Nat) (S : Sk) (self25 : Int32 → II → Option (II)) (self36 : Int32 → II → Option (II)) (x1 : Int32) (x2 : Int32) (x3 : Int32) (x4 : Int32) (self56 : Int32 → II → Option (II)) (x5 : Int32) (I : II) : Option (II) :=
  gd (inbL 43 14 x3) (if ((rdN I 42 x3) - (1 : Int32)) ≤ x5 then self36 (x4 + (1 : Int32)) I else gd (inbL 44 112 (((8 : Int32) * x3) + x5)) (gd (inbL 62 1984 (t_X11_placeOf x1 x4 (rdN I 43 (((8 : Int32) * x3) + x5)))) (lt (rdN I 61 (t_X11_placeOf x1 x4 (rdN I 43 (((8 : Int32) * x3) + x5)))) fun x6_26 => (if (1000000 : Int32) ≤ x6_26 then Rj_X11_rideFrom_115 fu S I self25 self36 self56 x1 x2 x3 x4 x5 (1000000 : Int32) else (Rf_X11_minuteAt fu S I x3 x5 x6_26).bind fun q28 => (Rj_X11_rideFrom_115 fu S I self25 self36 self56 x1 x2 x3 x4 x5 q28)))))
def Rl_X11_rideFrom_36 (fu : Nat) (S : Sk) (self25 : Int32 → II → Option (II)) (x1 : Int32) (x2 : Int32) (x3 : Int32) (self36 : Int32 → II → Option (II)) (x4 : Int32) (I : II) : Option (II) :=
  if x2 < x4 then Rj_X11_rideFrom_224 fu S I self25 x1 x2 x3 else if (t_X11_hasBit (I 38 28) x3) = 0 then Rj_X11_rideFrom_224 fu S I self25 x1 x2 x3 else fix2 (Rl_X11_rideFrom_56 fu S self25 self36 x1 x2 x3 x4) fu (0 : Int32) I
def Rl_X11_rideFrom_25 (fu : Nat) (S : Sk) (x1 : Int32) (x2 : Int32) (self25 : Int32 → II → Option (II)) (x3 : Int32) (I : II) : Option (II) :=
  if (I 38 4) ≤ x3 then some (I) else fix2 (Rl_X11_rideFrom_36 fu S self25 x1 x2 x3) fu (0 : Int32) I
def Rl_X11_rideFrom_2 (fu : Nat) (S : Sk) (x1 : Int32) (x2 : Int32) (self2 : Int32 → II → Option (II)) (x3 : Int32) (I : II) : Option (II) :=
  if (496 : Int32) ≤ x3 then fix2 (Rl_X11_rideFrom_25 fu S x1 x2) fu (0 : Int32) I else gd (inbL 63 496 x3) (lt (wrN I 62 x3 (1000000 : Int32)) fun I38 => (self2 (x3 + (1 : Int32)) I38))
def Rf_X11_rideFrom (fu : Nat) (S : Sk) (I : II) (x1 : Int32) (x2 : Int32) : Option (II) :=
  fix2 (Rl_X11_rideFrom_2 fu S x1 x2) fu (0 : Int32) I
def Rj_X11_layWay_189 (fu : Nat) (S : Sk) (I : II) (self124 : Int32 → II → Option (II)) (self136 : Int32 → II → Option (II)) (x1 : Int32) (x2 : Int32) (x3 : Int32) : Option (II) :=
  self136 (x3 + (1 : Int32)) I
def Rl_X11_layWay_136 (fu : Nat) (S : Sk) (self124 : Int32 → II → Option (II)) (x1 : Int32) (x2 : Int32) (self136 : Int32 → II → Option (II)) (x3 : Int32) (I : II) : Option (II) :=
  gd (inbL 60 6 x1) (if (rdN I 59 x1) < x3 then self124 (x2 + (1 : Int32)) I else gd (inbL 58 6 x1) (gd (inbL 62 1984 (t_X11_placeOf x2 x3 (rdN I 57 x1))) (lt (rdN I 61 (t_X11_placeOf x2 x3 (rdN I 57 x1))) fun x4_9 => (if (I 38 31) ≤ x4_9 then Rj_X11_layWay_189 fu S I self124 self136 x1 x2 x3 else lt (upI I 38 31 x4_9) fun I11 => (lt (upI I11 38 32 x2) fun I12 => (lt (upI I12 38 33 x3) fun I13 => (Rj_X11_layWay_189 fu S I13 self124 self136 x1 x2 x3)))))))
def Rl_X11_layWay_124 (fu : Nat) (S : Sk) (x1 : Int32) (self124 : Int32 → II → Option (II)) (x2 : Int32) (I : II) : Option (II) :=
  gd (inbL 61 6 x1) (if (rdN I 60 x1) < x2 then some (I) else fix2 (Rl_X11_layWay_136 fu S self124 x1 x2) fu (0 : Int32) I)
def Rl_X11_layWay_76 (fu : Nat) (S : Sk) (x1 : Int32) (self76 : Int32 → II → Option (II)) (x2 : Int32) (I : II) : Option (II) :=
  gd (inbL 61 6 x1) (if (rdN I 60 x1) ≤ x2 then lt (upI I 38 31 (1000000 : Int32)) fun I20 => (fix2 (Rl_X11_layWay_124 fu S x1) fu (0 : Int32) I20) else gd (inbL 60 6 x1) ((Rf_X11_rideFrom fu S I x2 (rdN I 59 x1)).bind fun q23 => ((Rf_X11_walkFrom fu S q23 (x2 + (1 : Int32)) (rdN q23 59 x1)).bind fun q27 => (self76 (x2 + (1 : Int32)) q27))))
def Rl_X11_layWay_25 (fu : Nat) (S : Sk) (x1 : Int32) (self25 : Int32 → II → Option (II)) (x2 : Int32) (I : II) : Option (II) :=
  if (496 : Int32) ≤ x2 then gd (inbL 57 6 x1) (gd (inbL 59 6 x1) (gd (inbL 63 496 (rdN I 56 x1)) (lt (wrN I 62 (rdN I 56 x1) (rdN I 58 x1)) fun I37 => (gd (inbL 60 6 x1) ((Rf_X11_walkFrom fu S I37 (0 : Int32) (rdN I37 59 x1)).bind fun q40 => (fix2 (Rl_X11_layWay_76 fu S x1) fu (0 : Int32) q40)))))) else gd (inbL 63 496 x2) (lt (wrN I 62 x2 (1000000 : Int32)) fun I45 => (self25 (x2 + (1 : Int32)) I45))
def Rl_X11_layWay_2 (fu : Nat) (S : Sk) (x1 : Int32) (self2 : Int32 → II → Option (II)) (x2 : Int32) (I : II) : Option (II) :=
  if (1984 : Int32) ≤ x2 then fix2 (Rl_X11_layWay_25 fu S x1) fu (0 : Int32) I else gd (inbL 62 1984 x2) (lt (wrN I 61 x2 (1000000 : Int32)) fun I49 => (self2 (x2 + (1 : Int32)) I49))
def Rf_X11_layWay (fu : Nat) (S : Sk) (I : II) (x1 : Int32) : Option (II) :=
  fix2 (Rl_X11_layWay_2 fu S x1) fu (0 : Int32) I
def Rj_X11_runningOn_29 (fu : Nat) (S : Sk) (I : II) (self4 : Int32 → Int32 → Option (Int32)) (x1 : Int32) (x3 : Int32) (s0 : Int32) (s1 : Int32) : Option (Int32) :=
  lt (s0 ||| s1) fun x2_1 => (self4 x2_1 (x3 + (1 : Int32)))
def Rl_X11_runningOn_4 (fu : Nat) (S : Sk) (I : II) (x1 : Int32) (self4 : Int32 → Int32 → Option (Int32)) (x2 : Int32) (x3 : Int32) : Option (Int32) :=
  if (I 38 4) ≤ x3 then some (x2) else (Rf_X11_doesRun fu S I x3 x1).bind fun q3 => (if q3 = 0 then Rj_X11_runningOn_29 fu S I self4 x1 x3 x2 (0 : Int32) else Rj_X11_runningOn_29 fu S I self4 x1 x3 x2 ((1 : Int32) <<< (x3 &&& 31)))
def Rf_X11_runningOn (fu : Nat) (S : Sk) (I : II) (x1 : Int32) : Option (Int32) :=
  fix2 (Rl_X11_runningOn_4 fu S I x1) fu (0 : Int32) (0 : Int32)
def Rf_X11_way (fu : Nat) (S : Sk) (I : II) (x1 : Int32) (x2 : Int32) (x3 : Int32) : Option (Int32 × II) :=
  if (t_X11_noTrip I 38 x1) = 0 then if (t_X11_isDay x2) = 0 then some ((((-2) : Int32), I)) else if (t_X11_in x3.toInt64 (0 : Int64) (2 : Int64)) = 0 then some ((((-2) : Int32), I)) else (Rf_X11_runningOn fu S I x2).bind fun q7 => (lt (upI I 38 28 q7) fun I10 => ((Rf_X11_layWay fu S I10 x1).bind fun q11 => (if (q11 38 31) = (1000000 : Int32) then some ((((-9) : Int32), q11)) else if x3 = 0 then some (((q11 38 31), q11)) else if x3 = (1 : Int32) then some (((q11 38 32), q11)) else some (((q11 38 33), q11))))) else some ((((-1) : Int32), I))
def Rf_X11_worse (fu : Nat) (S : Sk) (I : II) (x1 : Int32) (x2 : Int32) (x3 : Int32) : Option (Int32 × II) :=
  (Rf_X11_runningOn fu S I x2).bind fun q1 => (lt (upI I 38 28 q1) fun I4 => ((Rf_X11_layWay fu S I4 x1).bind fun q5 => (lt (q5 38 31) fun x4_8 => ((Rf_X11_runningOn fu S q5 x3).bind fun q9 => (lt (upI q5 38 28 q9) fun I12 => ((Rf_X11_layWay fu S I12 x1).bind fun q13 => (if x4_8 = (1000000 : Int32) then some (((0 : Int32), q13)) else if (q13 38 31) = (1000000 : Int32) then some (((9999 : Int32), q13)) else some (((t_X11_greater (0 : Int32) ((q13 38 31) - x4_8)), q13)))))))))
def Rf_X11_lose (fu : Nat) (S : Sk) (I : II) (x1 : Int32) (x2 : Int32) (x3 : Int32) : Option (Int32 × II) :=
  if (t_X11_noTrip I 38 x1) = 0 then if (t_X11_isDay x2) = 0 then some ((((-2) : Int32), I)) else if (t_X11_isDay x3) = 0 then some ((((-2) : Int32), I)) else (Rf_X11_worse fu S I x1 x2 x3).bind fun q7 => (some ((q7.1, q7.2))) else some ((((-1) : Int32), I))
def Rj_X11_who_137 (fu : Nat) (S : Sk) (I : II) (self38 : Int32 → Int32 → Int32 → II → Option (Int32 × II)) (x1 : Int32) (x2 : Int32) (x3 : Int32) (x5 : Int32) (x6 : Int32) (x7 : Int32) (s0 : Int32) (s1 : Int32) : Option (Int32 × II) :=
  lt (s0 ||| s1) fun x4_1 => (lt (x5 + x7) fun x5_2 => (self38 x4_1 x5_2 (x6 + (1 : Int32)) I))
def Rj_X11_who_122 (fu : Nat) (S : Sk) (I : II) (self38 : Int32 → Int32 → Int32 → II → Option (Int32 × II)) (x1 : Int32) (x2 : Int32) (x3 : Int32) (x4 : Int32) (x5 : Int32) (x6 : Int32) (x7 : Int32) : Option (Int32 × II) :=
  if x7 ≤ 0 then Rj_X11_who_137 fu S I self38 x1 x2 x3 x5 x6 x7 x4 (0 : Int32) else Rj_X11_who_137 fu S I self38 x1 x2 x3 x5 x6 x7 x4 ((1 : Int32) <<< (x6 &&& 31))
def Rj_X11_who_120 (fu : Nat) (S : Sk) (I : II) (self38 : Int32 → Int32 → Int32 → II → Option (Int32 × II)) (x1 : Int32) (x2 : Int32) (x3 : Int32) (x4 : Int32) (x5 : Int32) (x6 : Int32) (s0 : Int32) : Option (Int32 × II) :=
  Rj_X11_who_122 fu S I self38 x1 x2 x3 x4 x5 x6 s0
def Rj_X11_who_84 (fu : Nat) (S : Sk) (I : II) (self38 : Int32 → Int32 → Int32 → II → Option (Int32 × II)) (x1 : Int32) (x2 : Int32) (x3 : Int32) (x4 : Int32) (x5 : Int32) (x6 : Int32) (s0 : Int32) : Option (Int32 × II) :=
  if x3 = (2 : Int32) then (Rf_X11_runningOn fu S I x2).bind fun q5 => (lt (upI I 38 28 q5) fun I8 => ((Rf_X11_layWay fu S I8 x6).bind fun q9 => (if (q9 38 31) = (1000000 : Int32) then Rj_X11_who_120 fu S q9 self38 x1 x2 x3 x4 x5 x6 (1 : Int32) else Rj_X11_who_120 fu S q9 self38 x1 x2 x3 x4 x5 x6 (0 : Int32)))) else Rj_X11_who_122 fu S I self38 x1 x2 x3 x4 x5 x6 s0
def Rj_X11_who_56 (fu : Nat) (S : Sk) (I : II) (self38 : Int32 → Int32 → Int32 → II → Option (Int32 × II)) (x1 : Int32) (x2 : Int32) (x3 : Int32) (x4 : Int32) (x5 : Int32) (x6 : Int32) : Option (Int32 × II) :=
  (Rf_X11_worse fu S I x6 x1 x2).bind fun q13 => (Rj_X11_who_84 fu S q13.2 self38 x1 x2 x3 x4 x5 x6 q13.1)
def Rl_X11_who_38 (fu : Nat) (S : Sk) (x1 : Int32) (x2 : Int32) (x3 : Int32) (self38 : Int32 → Int32 → Int32 → II → Option (Int32 × II)) (x4 : Int32) (x5 : Int32) (x6 : Int32) (I : II) : Option (Int32 × II) :=
  if (I 38 22) ≤ x6 then if (3 : Int32) ≤ x3 then some ((x5, I)) else some ((x4, I)) else if x3 = 0 then Rj_X11_who_56 fu S I self38 x1 x2 x3 x4 x5 x6 else if x3 = (3 : Int32) then Rj_X11_who_56 fu S I self38 x1 x2 x3 x4 x5 x6 else if x3 = (2 : Int32) then Rj_X11_who_84 fu S I self38 x1 x2 x3 x4 x5 x6 (0 : Int32) else (Rf_X11_worse fu S I x6 x2 x1).bind fun q21 => (Rj_X11_who_84 fu S q21.2 self38 x1 x2 x3 x4 x5 x6 q21.1)
def Rf_X11_who (fu : Nat) (S : Sk) (I : II) (x1 : Int32) (x2 : Int32) (x3 : Int32) : Option (Int32 × II) :=
  if (t_X11_isDay x1) = 0 then some ((((-2) : Int32), I)) else if (t_X11_isDay x2) = 0 then some ((((-2) : Int32), I)) else if (t_X11_in x3.toInt64 (0 : Int64) (4 : Int64)) = 0 then some ((((-2) : Int32), I)) else fix4 (Rl_X11_who_38 fu S x1 x2 x3) fu (0 : Int32) (0 : Int32) (0 : Int32) I
def Rl_X11_offer_12 (fu : Nat) (S : Sk) (I : II) (x1 : Int32) (self12 : Int32 → Option (Int32 × II)) (x2 : Int32) : Option (Int32 × II) :=
  if (I 38 34) ≤ x2 then if (I 38 34) = (4 : Int32) then some ((((-4) : Int32), I)) else gd (inbL 64 4 (I 38 34)) (lt (wrN I 63 (I 38 34) x1) fun I5 => (lt (upI I5 38 34 ((I5 38 34) + (1 : Int32))) fun I6 => (some ((((I6 38 34) - (1 : Int32)), I6))))) else gd (inbL 64 4 x2) (if (rdN I 63 x2) = x1 then some ((((-3) : Int32), I)) else self12 (x2 + (1 : Int32)))
def Rf_X11_offer (fu : Nat) (S : Sk) (I : II) (x1 : Int32) : Option (Int32 × II) :=
  if (t_X11_noLine I 38 x1) = 0 then fix1 (Rl_X11_offer_12 fu S I x1) fu (0 : Int32) else some ((((-1) : Int32), I))
def Rj_X11_busMinutes_69 (fu : Nat) (S : Sk) (I : II) (self5 : Int32 → Int32 → Option (Int32)) (x1 : Int32) (x2 : Int32) (x3 : Int32) (x4 : Int32) : Option (Int32) :=
  if x3 < (1000000 : Int32) then self5 x3 (x4 + (1 : Int32)) else some ((1000000 : Int32))
def Rj_X11_busMinutes_68 (fu : Nat) (S : Sk) (I : II) (self5 : Int32 → Int32 → Option (Int32)) (x1 : Int32) (x2 : Int32) (x4 : Int32) (s0 : Int32) : Option (Int32) :=
  Rj_X11_busMinutes_69 fu S I self5 x1 x2 s0 x4
def Rl_X11_busMinutes_5 (fu : Nat) (S : Sk) (I : II) (x1 : Int32) (x2 : Int32) (self5 : Int32 → Int32 → Option (Int32)) (x3 : Int32) (x4 : Int32) : Option (Int32) :=
  if (I 38 34) ≤ x4 then some (x3) else if (t_X11_hasBit x1 x4) = 0 then Rj_X11_busMinutes_69 fu S I self5 x1 x2 x3 x4 else gd (inbL 64 4 x4) ((Rf_X11_doesRun fu S I (rdN I 63 x4) x2).bind fun q7 => (if q7 = 0 then Rj_X11_busMinutes_68 fu S I self5 x1 x2 x4 (1000000 : Int32) else (Rf_X11_buses fu S I (rdN I 63 x4)).bind fun q12 => ((Rf_X11_roundOf fu S I (rdN I 63 x4)).bind fun q16 => (Rj_X11_busMinutes_68 fu S I self5 x1 x2 x4 (x3 + (q12 * q16))))))
def Rf_X11_busMinutes (fu : Nat) (S : Sk) (I : II) (x1 : Int32) (x2 : Int32) : Option (Int32) :=
  fix2 (Rl_X11_busMinutes_5 fu S I x1 x2) fu (0 : Int32) (0 : Int32)
def Rj_X11_rideNet_46 (fu : Nat) (S : Sk) (I : II) (self11 : Int32 → II → Option (II)) (x1 : Int32) (x3 : Int32) (s1 : Int32) (s2 : Int32) : Option (II) :=
  lt (upI I 38 28 (s1 &&& s2)) fun I1 => (self11 (x3 + (1 : Int32)) I1)
def Rl_X11_rideNet_11 (fu : Nat) (S : Sk) (x1 : Int32) (self11 : Int32 → II → Option (II)) (x3 : Int32) (I : II) : Option (II) :=
  if (I 38 34) ≤ x3 then some (I) else if (t_X11_hasBit x1 x3) = 0 then gd (inbL 64 4 x3) (Rj_X11_rideNet_46 fu S I self11 x1 x3 (I 38 28) (((1 : Int32) <<< ((rdN I 63 x3) &&& 31)) ^^^ ((-1) : Int32))) else Rj_X11_rideNet_46 fu S I self11 x1 x3 (I 38 28) ((-1) : Int32)
def Rf_X11_rideNet (fu : Nat) (S : Sk) (I : II) (x1 : Int32) (x2 : Int32) : Option (II) :=
  (Rf_X11_runningOn fu S I x2).bind fun q7 => (lt (upI I 38 28 q7) fun I10 => (fix2 (Rl_X11_rideNet_11 fu S x1) fu (0 : Int32) I10))
def Rj_X11_best_185 (fu : Nat) (S : Sk) (I : II) (self47 : Int32 → Int32 → Int32 → Int32 → II → Option (Int32 × II)) (x1 : Int32) (x2 : Int32) (x3 : Int32) (x4 : Int32) (x5 : Int32) (x6 : Int32) (x7 : Int32) : Option (Int32 × II) :=
  self47 x4 x5 x6 (x7 + (1 : Int32)) I
def Rj_X11_best_173 (fu : Nat) (S : Sk) (I : II) (self47 : Int32 → Int32 → Int32 → Int32 → II → Option (Int32 × II)) (x1 : Int32) (x2 : Int32) (x3 : Int32) (x7 : Int32) (x8 : Int32) (x9 : Int32) : Option (Int32 × II) :=
  Rj_X11_best_185 fu S I self47 x1 x2 x3 x7 x8 x9 x7
def Rj_X11_best_138 (fu : Nat) (S : Sk) (I : II) (self47 : Int32 → Int32 → Int32 → Int32 → II → Option (Int32 × II)) (self85 : Int32 → Int32 → Int32 → II → Option (Int32 × II)) (x1 : Int32) (x2 : Int32) (x3 : Int32) (x4 : Int32) (x5 : Int32) (x6 : Int32) (x7 : Int32) (x8 : Int32) (x10 : Int32) (s0 : Int32) (s1 : Int32) : Option (Int32 × II) :=
  lt (s0 + s1) fun x9_1 => (self85 x8 x9_1 (x10 + (1 : Int32)) I)
def Rj_X11_best_116 (fu : Nat) (S : Sk) (I : II) (self47 : Int32 → Int32 → Int32 → Int32 → II → Option (Int32 × II)) (self85 : Int32 → Int32 → Int32 → II → Option (Int32 × II)) (x1 : Int32) (x2 : Int32) (x3 : Int32) (x4 : Int32) (x5 : Int32) (x6 : Int32) (x7 : Int32) (x9 : Int32) (x10 : Int32) (s0 : Int32) (s1 : Int32) : Option (Int32 × II) :=
  lt (s0 + s1) fun x8_2 => (if (1000000 : Int32) ≤ (I 38 31) then Rj_X11_best_138 fu S I self47 self85 x1 x2 x3 x4 x5 x6 x7 x8_2 x10 x9 (0 : Int32) else Rj_X11_best_138 fu S I self47 self85 x1 x2 x3 x4 x5 x6 x7 x8_2 x10 x9 (I 38 31))
def Rl_X11_best_85 (fu : Nat) (S : Sk) (self47 : Int32 → Int32 → Int32 → Int32 → II → Option (Int32 × II)) (x1 : Int32) (x2 : Int32) (x3 : Int32) (x4 : Int32) (x5 : Int32) (x6 : Int32) (x7 : Int32) (self85 : Int32 → Int32 → Int32 → II → Option (Int32 × II)) (x8 : Int32) (x9 : Int32) (x10 : Int32) (I : II) : Option (Int32 × II) :=
  if (I 38 22) ≤ x10 then if x4 < 0 then Rj_X11_best_173 fu S I self47 x1 x2 x3 x7 x8 x9 else if x5 < x8 then Rj_X11_best_173 fu S I self47 x1 x2 x3 x7 x8 x9 else if x8 = x5 then if x6 ≤ x9 then Rj_X11_best_185 fu S I self47 x1 x2 x3 x4 x5 x6 x7 else Rj_X11_best_173 fu S I self47 x1 x2 x3 x7 x8 x9 else Rj_X11_best_185 fu S I self47 x1 x2 x3 x4 x5 x6 x7 else (Rf_X11_layWay fu S I x10).bind fun q9 => (if (1000000 : Int32) ≤ (q9 38 31) then Rj_X11_best_116 fu S q9 self47 self85 x1 x2 x3 x4 x5 x6 x7 x9 x10 x8 (0 : Int32) else Rj_X11_best_116 fu S q9 self47 self85 x1 x2 x3 x4 x5 x6 x7 x9 x10 x8 (1 : Int32))
def Rl_X11_best_47 (fu : Nat) (S : Sk) (x1 : Int32) (x2 : Int32) (x3 : Int32) (self47 : Int32 → Int32 → Int32 → Int32 → II → Option (Int32 × II)) (x4 : Int32) (x5 : Int32) (x6 : Int32) (x7 : Int32) (I : II) : Option (Int32 × II) :=
  if ((1 : Int32) <<< ((I 38 34) &&& 31)) ≤ x7 then if x3 = 0 then some ((x4, I)) else if x3 = (1 : Int32) then some ((x5, I)) else if x3 = (2 : Int32) then some ((x6, I)) else (Rf_X11_busMinutes fu S I x4 x1).bind fun q17 => (some ((q17, I))) else (Rf_X11_busMinutes fu S I x7 x1).bind fun q20 => (if x2 < q20 then Rj_X11_best_185 fu S I self47 x1 x2 x3 x4 x5 x6 x7 else (Rf_X11_rideNet fu S I x7 x1).bind fun q24 => (fix4 (Rl_X11_best_85 fu S self47 x1 x2 x3 x4 x5 x6 x7) fu (0 : Int32) (0 : Int32) (0 : Int32) q24))
def Rf_X11_best (fu : Nat) (S : Sk) (I : II) (x1 : Int32) (x2 : Int32) (x3 : Int32) : Option (Int32 × II) :=
  if (t_X11_isDay x1) = 0 then some ((((-2) : Int32), I)) else if (t_X11_in x2.toInt64 (0 : Int64) (99999 : Int64)) = 0 then some ((((-2) : Int32), I)) else if (t_X11_in x3.toInt64 (0 : Int64) (3 : Int64)) = 0 then some ((((-2) : Int32), I)) else fix5 (Rl_X11_best_47 fu S x1 x2 x3) fu ((-9) : Int32) (0 : Int32) (0 : Int32) (0 : Int32) I
def Rf_X11_depot (fu : Nat) (S : Sk) (I : II) (x1 : Int32) (x2 : Int32) (x3 : Int32) : Option (Int32 × II) :=
  if (t_X11_in x1.toInt64 (0 : Int64) (40 : Int64)) = 0 then some ((((-2) : Int32), I)) else if (t_X11_in x2.toInt64 (0 : Int64) (40 : Int64)) = 0 then some ((((-2) : Int32), I)) else if (t_X11_in x3.toInt64 (0 : Int64) (9 : Int64)) = 0 then some ((((-2) : Int32), I)) else if (I 38 36) = (4 : Int32) then some ((((-4) : Int32), I)) else gd (inbL 65 4 (I 38 36)) (lt (wrN I 64 (I 38 36) x1) fun I10 => (gd (inbL 66 4 (I10 38 36)) (lt (wrN I10 65 (I10 38 36) x2) fun I13 => (gd (inbL 67 4 (I13 38 36)) (lt (wrN I13 66 (I13 38 36) x3) fun I16 => (lt (upI I16 38 36 ((I16 38 36) + (1 : Int32))) fun I17 => (some ((((I17 38 36) - (1 : Int32)), I17)))))))))
def Rf_X11_toDepot (fu : Nat) (S : Sk) (I : II) (x1 : Int32) (x2 : Int32) : Option (Int32) :=
  gd (inbL 40 16 x1) (gd (inbL 65 4 x2) (gd (inbL 41 16 x1) (gd (inbL 66 4 x2) (some (((t_X11_sizeOf ((rdN I 39 x1) - (rdN I 64 x2))) + (t_X11_sizeOf ((rdN I 40 x1) - (rdN I 65 x2)))))))))
def Rf_X11_emptyOf (fu : Nat) (S : Sk) (I : II) (x1 : Int32) (x2 : Int32) : Option (Int32) :=
  gd (inbL 44 112 ((8 : Int32) * x1)) ((Rf_X11_toDepot fu S I (rdN I 43 ((8 : Int32) * x1)) x2).bind fun q3 => (gd (inbL 43 14 x1) (gd (inbL 44 112 ((((8 : Int32) * x1) + (rdN I 42 x1)) - (1 : Int32))) ((Rf_X11_toDepot fu S I (rdN I 43 ((((8 : Int32) * x1) + (rdN I 42 x1)) - (1 : Int32))) x2).bind fun q10 => (some ((q3 + q10)))))))
def Rf_X11_empty (fu : Nat) (S : Sk) (I : II) (x1 : Int32) (x2 : Int32) : Option (Int32) :=
  if (t_X11_noLine I 38 x1) = 0 then if (t_X11_in x2.toInt64 (0 : Int64) ((((I 38 36)).toInt64) - (1 : Int64))) = 0 then some (((-1) : Int32)) else (Rf_X11_emptyOf fu S I x1 x2).bind fun q5 => (some (q5)) else some (((-1) : Int32))
def Rj_X11_layRuns_44 (fu : Nat) (S : Sk) (I : II) (self7 : Int32 → II → Option (II)) (x1 : Int32) (x2 : Int32) : Option (II) :=
  self7 (x2 + (1 : Int32)) I
def Rl_X11_layRuns_7 (fu : Nat) (S : Sk) (x1 : Int32) (self7 : Int32 → II → Option (II)) (x2 : Int32) (I : II) : Option (II) :=
  if (I 38 4) ≤ x2 then some (I) else (Rf_X11_doesRun fu S I x2 x1).bind fun q2 => (if q2 = 0 then Rj_X11_layRuns_44 fu S I self7 x1 x2 else gd (inbL 68 14 (I 38 40)) (lt (wrN I 67 (I 38 40) x2) fun I8 => (lt (upI I8 38 40 ((I8 38 40) + (1 : Int32))) fun I9 => (Rj_X11_layRuns_44 fu S I9 self7 x1 x2))))
def Rf_X11_layRuns (fu : Nat) (S : Sk) (I : II) (x1 : Int32) : Option (II) :=
  lt (upI I 38 40 (0 : Int32)) fun I10 => (fix2 (Rl_X11_layRuns_7 fu S x1) fu (0 : Int32) I10)
def Rl_X11_layRow_10 (fu : Nat) (S : Sk) (x2 : Int32) (self10 : Int32 → Int32 → II → Option (II)) (x3 : Int32) (x4 : Int32) (I : II) : Option (II) :=
  if x4 < 0 then some (I) else gd (¬ x2 = 0) (gd (inbL 69 14 x4) (lt (wrN I 68 x4 (x3 - x3 / x2 * x2)) fun I5 => (gd (¬ x2 = 0) (lt (x3 / x2) fun x3_7 => (self10 x3_7 (x4 + ((-1) : Int32)) I5)))))
def Rf_X11_layRow (fu : Nat) (S : Sk) (I : II) (x1 : Int32) (x2 : Int32) : Option (II) :=
  lt ((I 38 40) - (1 : Int32)) fun x4_8 => (fix3 (Rl_X11_layRow_10 fu S x2) fu x1 x4_8 I)
def Rl_X11_power_4 (fu : Nat) (S : Sk) (I : II) (x0 : Int32) (x1 : Int32) (self4 : Int32 → Int32 → Option (Int32)) (x2 : Int32) (x3 : Int32) : Option (Int32) :=
  if x1 ≤ x3 then some (x2) else lt (x2 * x0) fun x2_2 => (self4 x2_2 (x3 + (1 : Int32)))
def Rf_X11_power (fu : Nat) (S : Sk) (I : II) (x0 : Int32) (x1 : Int32) : Option (Int32) :=
  fix2 (Rl_X11_power_4 fu S I x0 x1) fu (1 : Int32) (0 : Int32)
def Rj_X11_doFit_70 (fu : Nat) (S : Sk) (I : II) (self4 : Int32 → Int32 → Option (Int32)) (x2 : Int32) (s0 : Int32) : Option (Int32) :=
  self4 s0 (x2 + (1 : Int32))
def Rj_X11_doFit_69 (fu : Nat) (S : Sk) (I : II) (self4 : Int32 → Int32 → Option (Int32)) (x2 : Int32) : Option (Int32) :=
  Rj_X11_doFit_70 fu S I self4 x2 (0 : Int32)
def Rj_X11_doFit_43 (fu : Nat) (S : Sk) (I : II) (self4 : Int32 → Int32 → Option (Int32)) (self17 : Int32 → Int32 → Option (Int32)) (x1 : Int32) (x2 : Int32) (x4 : Int32) (s0 : Int32) (s1 : Int32) : Option (Int32) :=
  lt (s0 + s1) fun x3_1 => (self17 x3_1 (x4 + (1 : Int32)))
def Rl_X11_doFit_17 (fu : Nat) (S : Sk) (I : II) (self4 : Int32 → Int32 → Option (Int32)) (x1 : Int32) (x2 : Int32) (self17 : Int32 → Int32 → Option (Int32)) (x3 : Int32) (x4 : Int32) : Option (Int32) :=
  if (I 38 40) ≤ x4 then if x1 = 0 then Rj_X11_doFit_69 fu S I self4 x2 else gd (inbL 67 4 x2) (if (rdN I 66 x2) < x3 then Rj_X11_doFit_69 fu S I self4 x2 else Rj_X11_doFit_70 fu S I self4 x2 (1 : Int32)) else gd (inbL 69 14 x4) (if (rdN I 68 x4) = x2 then Rj_X11_doFit_43 fu S I self4 self17 x1 x2 x4 x3 (1 : Int32) else Rj_X11_doFit_43 fu S I self4 self17 x1 x2 x4 x3 (0 : Int32))
def Rl_X11_doFit_4 (fu : Nat) (S : Sk) (I : II) (self4 : Int32 → Int32 → Option (Int32)) (x1 : Int32) (x2 : Int32) : Option (Int32) :=
  if (I 38 36) ≤ x2 then gd (x1 = 0 ∨ x1 = 1) (some (x1)) else fix2 (Rl_X11_doFit_17 fu S I self4 x1 x2) fu (0 : Int32) (0 : Int32)
def Rf_X11_doFit (fu : Nat) (S : Sk) (I : II) : Option (Int32) :=
  fix2 (Rl_X11_doFit_4 fu S I) fu (1 : Int32) (0 : Int32)
def Rj_X11_areAllUnlike_43 (fu : Nat) (S : Sk) (I : II) (self4 : Int32 → Int32 → Option (Int32)) (self14 : Int32 → Int32 → Option (Int32)) (x2 : Int32) (x3 : Int32) (s0 : Int32) : Option (Int32) :=
  self14 s0 (x3 + (1 : Int32))
def Rj_X11_areAllUnlike_42 (fu : Nat) (S : Sk) (I : II) (self4 : Int32 → Int32 → Option (Int32)) (self14 : Int32 → Int32 → Option (Int32)) (x2 : Int32) (x3 : Int32) : Option (Int32) :=
  Rj_X11_areAllUnlike_43 fu S I self4 self14 x2 x3 (0 : Int32)
def Rl_X11_areAllUnlike_14 (fu : Nat) (S : Sk) (I : II) (self4 : Int32 → Int32 → Option (Int32)) (x2 : Int32) (self14 : Int32 → Int32 → Option (Int32)) (x1 : Int32) (x3 : Int32) : Option (Int32) :=
  if x2 ≤ x3 then self4 x1 (x2 + (1 : Int32)) else if x1 = 0 then Rj_X11_areAllUnlike_42 fu S I self4 self14 x2 x3 else gd (inbL 69 14 x2) (gd (inbL 69 14 x3) (if (rdN I 68 x2) = (rdN I 68 x3) then Rj_X11_areAllUnlike_42 fu S I self4 self14 x2 x3 else Rj_X11_areAllUnlike_43 fu S I self4 self14 x2 x3 (1 : Int32)))
def Rl_X11_areAllUnlike_4 (fu : Nat) (S : Sk) (I : II) (self4 : Int32 → Int32 → Option (Int32)) (x1 : Int32) (x2 : Int32) : Option (Int32) :=
  if (I 38 40) ≤ x2 then gd (x1 = 0 ∨ x1 = 1) (some (x1)) else fix2 (Rl_X11_areAllUnlike_14 fu S I self4 x2) fu x1 (0 : Int32)
def Rf_X11_areAllUnlike (fu : Nat) (S : Sk) (I : II) : Option (Int32) :=
  fix2 (Rl_X11_areAllUnlike_4 fu S I) fu (1 : Int32) (0 : Int32)
def Rf_X11_taught (fu : Nat) (S : Sk) (I : II) (x1 : Int32) (x2 : Int32) : Option (Int32) :=
  gd (inbL 70 6 x2) (if (t_X11_hasBit (rdN I 69 x2) x1) = 0 then gd (inbL 43 14 x1) (some ((rdN I 42 x1))) else some ((0 : Int32)))
def Rj_X11_findRow_154 (fu : Nat) (S : Sk) (I : II) (self23 : Int32 → II → Option (II)) (x1 : Int32) (x2 : Int32) (x3 : Int32) (x4 : Int32) : Option (II) :=
  self23 (x4 + (1 : Int32)) I
def Rj_X11_findRow_142 (fu : Nat) (S : Sk) (I : II) (self23 : Int32 → II → Option (II)) (x1 : Int32) (x2 : Int32) (x3 : Int32) (x4 : Int32) (x5 : Int32) : Option (II) :=
  lt (upI I 38 43 x4) fun I1 => (lt (upI I1 38 44 x5) fun I2 => (Rj_X11_findRow_154 fu S I2 self23 x1 x2 x3 x4))
def Rj_X11_findRow_117 (fu : Nat) (S : Sk) (I : II) (self23 : Int32 → II → Option (II)) (self63 : Int32 → Int32 → Option (II)) (x1 : Int32) (x2 : Int32) (x3 : Int32) (x4 : Int32) (x6 : Int32) (s0 : Int32) (s1 : Int32) : Option (II) :=
  lt (s0 + s1) fun x5_3 => (self63 x5_3 (x6 + (1 : Int32)))
def Rl_X11_findRow_63 (fu : Nat) (S : Sk) (I : II) (self23 : Int32 → II → Option (II)) (x1 : Int32) (x2 : Int32) (x3 : Int32) (x4 : Int32) (self63 : Int32 → Int32 → Option (II)) (x5 : Int32) (x6 : Int32) : Option (II) :=
  if (I 38 40) ≤ x6 then if (I 38 43) < 0 then Rj_X11_findRow_142 fu S I self23 x1 x2 x3 x4 x5 else if (I 38 44) ≤ x5 then Rj_X11_findRow_154 fu S I self23 x1 x2 x3 x4 else Rj_X11_findRow_142 fu S I self23 x1 x2 x3 x4 x5 else if x1 = 0 then gd (inbL 68 14 x6) (gd (inbL 69 14 x6) ((Rf_X11_emptyOf fu S I (rdN I 67 x6) (rdN I 68 x6)).bind fun q12 => (Rj_X11_findRow_117 fu S I self23 self63 x1 x2 x3 x4 x6 x5 q12))) else gd (inbL 68 14 x6) (gd (inbL 69 14 x6) ((Rf_X11_taught fu S I (rdN I 67 x6) (rdN I 68 x6)).bind fun q19 => (Rj_X11_findRow_117 fu S I self23 self63 x1 x2 x3 x4 x6 x5 q19)))
def Rj_X11_findRow_57 (fu : Nat) (S : Sk) (I : II) (self23 : Int32 → II → Option (II)) (x1 : Int32) (x2 : Int32) (x3 : Int32) (x4 : Int32) : Option (II) :=
  fix2 (Rl_X11_findRow_63 fu S I self23 x1 x2 x3 x4) fu (0 : Int32) (0 : Int32)
def Rl_X11_findRow_23 (fu : Nat) (S : Sk) (x1 : Int32) (x2 : Int32) (x3 : Int32) (self23 : Int32 → II → Option (II)) (x4 : Int32) (I : II) : Option (II) :=
  if x3 ≤ x4 then some (I) else (Rf_X11_layRow fu S I x4 x2).bind fun q23 => (if x1 = 0 then (Rf_X11_doFit fu S q23).bind fun q27 => (if q27 = 0 then Rj_X11_findRow_154 fu S q23 self23 x1 x2 x3 x4 else Rj_X11_findRow_57 fu S q23 self23 x1 x2 x3 x4) else (Rf_X11_areAllUnlike fu S q23).bind fun q31 => (if q31 = 0 then Rj_X11_findRow_154 fu S q23 self23 x1 x2 x3 x4 else Rj_X11_findRow_57 fu S q23 self23 x1 x2 x3 x4))
def Rf_X11_findRow (fu : Nat) (S : Sk) (I : II) (x1 : Int32) (x2 : Int32) : Option (II) :=
  lt (upI I 38 43 ((-9) : Int32)) fun I35 => (lt (upI I35 38 44 (0 : Int32)) fun I36 => ((f_X11_power fu S I36 x2 (I36 38 40)).bind fun q37 => (fix2 (Rl_X11_findRow_23 fu S x1 x2 q37) fu (0 : Int32) I36)))
def Rj_X11_rowTold_11 (fu : Nat) (S : Sk) (I : II) : Option (Int32 × II) :=
  if 0 ≤ (I 38 43) then some (((I 38 44), I)) else some ((((-9) : Int32), I))
def Rl_X11_rowTold_39 (fu : Nat) (S : Sk) (I : II) (x1 : Int32) (self39 : Int32 → Option (Int32 × II)) (x3 : Int32) : Option (Int32 × II) :=
  if (I 38 40) ≤ x3 then some ((((-9) : Int32), I)) else gd (inbL 68 14 x3) (if (rdN I 67 x3) = x1 then gd (inbL 69 14 x3) (some (((rdN I 68 x3), I))) else self39 (x3 + (1 : Int32)))
def Rf_X11_rowTold (fu : Nat) (S : Sk) (I : II) (x1 : Int32) (x2 : Int32) : Option (Int32 × II) :=
  if (I 38 43) < 0 then Rj_X11_rowTold_11 fu S I else if 0 ≤ x1 then (Rf_X11_layRow fu S I (I 38 43) x2).bind fun q10 => (fix1 (Rl_X11_rowTold_39 fu S q10 x1) fu (0 : Int32)) else Rj_X11_rowTold_11 fu S I
def Rf_X11_fit (fu : Nat) (S : Sk) (I : II) (x1 : Int32) (x2 : Int32) : Option (Int32 × II) :=
  if (t_X11_isDay x1) = 0 then some ((((-2) : Int32), I)) else if (t_X11_in x2.toInt64 ((-1) : Int64) ((((I 38 4)).toInt64) - (1 : Int64))) = 0 then some ((((-1) : Int32), I)) else (Rf_X11_layRuns fu S I x1).bind fun q5 => (if (q5 38 40) ≤ (8 : Int32) then (Rf_X11_findRow fu S q5 (0 : Int32) (q5 38 36)).bind fun q9 => ((Rf_X11_rowTold fu S q9 x2 (q9 38 36)).bind fun q12 => (some ((q12.1, q12.2)))) else some ((((-9) : Int32), q5)))
def Rf_X11_driver (fu : Nat) (S : Sk) (I : II) : Option (Int32 × II) :=
  if (I 38 45) = (6 : Int32) then some ((((-4) : Int32), I)) else lt (upI I 38 45 ((I 38 45) + (1 : Int32))) fun I2 => (some ((((I2 38 45) - (1 : Int32)), I2)))
def Rj_X11_know_72 (fu : Nat) (S : Sk) (I : II) (x3 : Int32) (x4 : Int32) (q0 : Nat) (s1 : Int32) (s2 : Int32) : Option (Int32 × II) :=
  gd (inb S q0 s1) (lt (wr I q0 s1 s2) fun I2 => (if x4 = x3 then some (((0 : Int32), I2)) else some (((1 : Int32), I2))))
def Rf_X11_know (fu : Nat) (S : Sk) (I : II) (x1 : Int32) (x2 : Int32) (x3 : Int32) : Option (Int32 × II) :=
  if (t_X11_in x1.toInt64 (0 : Int64) ((((I 38 45)).toInt64) - (1 : Int64))) = 0 then some ((((-1) : Int32), I)) else if (t_X11_noLine I 38 x2) = 0 then gd (inbL 70 6 x1) (lt (t_X11_hasBit (rdN I 69 x1) x2) fun x4_11 => (if x3 = 0 then Rj_X11_know_72 fu S I x3 x4_11 70 x1 ((rdN I 69 x1) &&& (((1 : Int32) <<< (x2 &&& 31)) ^^^ ((-1) : Int32))) else Rj_X11_know_72 fu S I x3 x4_11 70 x1 ((rdN I 69 x1) ||| ((1 : Int32) <<< (x2 &&& 31))))) else some ((((-1) : Int32), I))
def Rf_X11_roster (fu : Nat) (S : Sk) (I : II) (x1 : Int32) (x2 : Int32) : Option (Int32 × II) :=
  if (t_X11_isDay x1) = 0 then some ((((-2) : Int32), I)) else if (t_X11_in x2.toInt64 ((-1) : Int64) ((((I 38 4)).toInt64) - (1 : Int64))) = 0 then some ((((-1) : Int32), I)) else (Rf_X11_layRuns fu S I x1).bind fun q5 => (if (q5 38 40) ≤ (q5 38 45) then (Rf_X11_findRow fu S q5 (1 : Int32) (q5 38 45)).bind fun q9 => ((Rf_X11_rowTold fu S q9 x2 (q9 38 45)).bind fun q12 => (some ((q12.1, q12.2)))) else some ((((-9) : Int32), q5)))
def Rl_X11_boardMany_4 (fu : Nat) (S : Sk) (I : II) (self4 : Int32 → Int32 → Option (Int32)) (x1 : Int32) (x2 : Int32) : Option (Int32) :=
  if (16 : Int32) ≤ x2 then some (x1) else lt (x1 + (((I 38 47) >>> (x2 &&& 31)) &&& (1 : Int32))) fun x1_2 => (self4 x1_2 (x2 + (1 : Int32)))
def Rf_X11_boardMany (fu : Nat) (S : Sk) (I : II) : Option (Int32) :=
  fix2 (Rl_X11_boardMany_4 fu S I) fu (0 : Int32) (0 : Int32)
def Rj_X11_board_40 (fu : Nat) (S : Sk) (I : II) (x1 : Int32) : Option (Int32 × II) :=
  lt (upI I 38 47 ((I 38 47) ^^^ ((1 : Int32) <<< (x1 &&& 31)))) fun I1 => (some (((1 : Int32), I1)))
def Rf_X11_board (fu : Nat) (S : Sk) (I : II) (x1 : Int32) (x2 : Int32) : Option (Int32 × II) :=
  if (t_X11_noStop I 38 x1) = 0 then if (t_X11_hasBit (I 38 47) x1) = x2 then some (((0 : Int32), I)) else if x2 = 0 then Rj_X11_board_40 fu S I x1 else (Rf_X11_boardMany fu S I).bind fun q7 => (if q7 = (6 : Int32) then some ((((-4) : Int32), I)) else Rj_X11_board_40 fu S I x1) else some ((((-1) : Int32), I))
def Rj_X11_layBoards_245 (fu : Nat) (S : Sk) (I : II) (self4 : Int32 → Int32 → II → Option (II)) (x1 : Int32) (x2 : Int32) (x3 : Int32) : Option (II) :=
  self4 x2 (x3 + (1 : Int32)) I
def Rj_X11_layBoards_230 (fu : Nat) (S : Sk) (I : II) (self4 : Int32 → Int32 → II → Option (II)) (self48 : Int32 → II → Option (II)) (self60 : Int32 → II → Option (II)) (x1 : Int32) (x2 : Int32) (x3 : Int32) (x4 : Int32) (x5 : Int32) : Option (II) :=
  self60 (x5 + (1 : Int32)) I
def Rj_X11_layBoards_229 (fu : Nat) (S : Sk) (I : II) (self4 : Int32 → Int32 → II → Option (II)) (self48 : Int32 → II → Option (II)) (self60 : Int32 → II → Option (II)) (x1 : Int32) (x2 : Int32) (x3 : Int32) (x4 : Int32) (x5 : Int32) (q0 : Nat) (s1 : Int32) (s2 : Int32) : Option (II) :=
  gd (inb S q0 s1) (lt (wr I q0 s1 s2) fun I2 => (Rj_X11_layBoards_230 fu S I2 self4 self48 self60 x1 x2 x3 x4 x5))
def Rj_X11_layBoards_191 (fu : Nat) (S : Sk) (I : II) (self4 : Int32 → Int32 → II → Option (II)) (self48 : Int32 → II → Option (II)) (self60 : Int32 → II → Option (II)) (x1 : Int32) (x2 : Int32) (x3 : Int32) (x4 : Int32) (x5 : Int32) (x7 : Int32) (q0 : Nat) (s1 : Int32) (s2 : Int32) : Option (II) :=
  gd (inb S q0 s1) (lt (wr I q0 s1 s2) fun I4 => ((Rf_X11_doesRun fu S I4 x4 (x1 + (1 : Int32))).bind fun q6 => (if q6 = 0 then gd (inbL 73 6 x2) (Rj_X11_layBoards_229 fu S I4 self4 self48 self60 x1 x2 x3 x4 x5 73 x2 (rdN I4 72 x2)) else gd (inbL 73 6 x2) (Rj_X11_layBoards_229 fu S I4 self4 self48 self60 x1 x2 x3 x4 x5 73 x2 (t_X11_lesser (rdN I4 72 x2) x7)))))
def Rl_X11_layBoards_60 (fu : Nat) (S : Sk) (self4 : Int32 → Int32 → II → Option (II)) (self48 : Int32 → II → Option (II)) (x1 : Int32) (x2 : Int32) (x3 : Int32) (x4 : Int32) (self60 : Int32 → II → Option (II)) (x5 : Int32) (I : II) : Option (II) :=
  gd (inbL 43 14 x4) (if (rdN I 42 x4) ≤ x5 then self48 (x4 + (1 : Int32)) I else gd (inbL 44 112 (((8 : Int32) * x4) + x5)) (if (rdN I 43 (((8 : Int32) * x4) + x5)) = x3 then gd (inbL 46 14 x4) ((Rf_X11_buses fu S I x4).bind fun q23 => (gd (inbL 47 14 x4) (gd (inbL 45 112 (((8 : Int32) * x4) + x5)) (lt (((rdN I 45 x4) + ((q23 - (1 : Int32)) * (rdN I 46 x4))) + (rdN I 44 (((8 : Int32) * x4) + x5))) fun x6_30 => (lt (((1440 : Int32) + (rdN I 45 x4)) + (rdN I 44 (((8 : Int32) * x4) + x5))) fun x7_33 => ((Rf_X11_doesRun fu S I x4 x1).bind fun q35 => (if q35 = 0 then gd (inbL 72 6 x2) (Rj_X11_layBoards_191 fu S I self4 self48 self60 x1 x2 x3 x4 x5 x7_33 72 x2 (rdN I 71 x2)) else gd (inbL 72 6 x2) (Rj_X11_layBoards_191 fu S I self4 self48 self60 x1 x2 x3 x4 x5 x7_33 72 x2 (t_X11_greater (rdN I 71 x2) x6_30))))))))) else Rj_X11_layBoards_230 fu S I self4 self48 self60 x1 x2 x3 x4 x5))
def Rl_X11_layBoards_48 (fu : Nat) (S : Sk) (self4 : Int32 → Int32 → II → Option (II)) (x1 : Int32) (x2 : Int32) (x3 : Int32) (self48 : Int32 → II → Option (II)) (x4 : Int32) (I : II) : Option (II) :=
  if (I 38 4) ≤ x4 then Rj_X11_layBoards_245 fu S I self4 x1 (x2 + (1 : Int32)) x3 else fix2 (Rl_X11_layBoards_60 fu S self4 self48 x1 x2 x3 x4) fu (0 : Int32) I
def Rl_X11_layBoards_4 (fu : Nat) (S : Sk) (x1 : Int32) (self4 : Int32 → Int32 → II → Option (II)) (x2 : Int32) (x3 : Int32) (I : II) : Option (II) :=
  if (I 38 1) ≤ x3 then some (I) else if (t_X11_hasBit (I 38 47) x3) = 0 then Rj_X11_layBoards_245 fu S I self4 x1 x2 x3 else gd (inbL 71 6 x2) (lt (wrN I 70 x2 x3) fun I50 => (gd (inbL 72 6 x2) (lt (wrN I50 71 x2 (0 : Int32)) fun I53 => (gd (inbL 73 6 x2) (lt (wrN I53 72 x2 (1000000 : Int32)) fun I56 => (fix2 (Rl_X11_layBoards_48 fu S self4 x1 x2 x3) fu (0 : Int32) I56))))))
def Rf_X11_layBoards (fu : Nat) (S : Sk) (I : II) (x1 : Int32) : Option (II) :=
  fix3 (Rl_X11_layBoards_4 fu S x1) fu (0 : Int32) (0 : Int32) I
def Rl_X11_doneBy_9 (fu : Nat) (S : Sk) (I : II) (x3 : Int32) (self9 : Int32 → Int32 → Int32 → Option (Int32)) (x4 : Int32) (x5 : Int32) (x6 : Int32) : Option (Int32) :=
  if x3 ≤ x6 then some (x5) else gd (inbL 69 14 x6) (lt (rdN I 68 x6) fun x7_4 => (gd (inbL 71 6 x7_4) ((Rf_X11_farOf fu S I x4 (rdN I 70 x7_4)).bind fun q7 => (gd (inbL 72 6 x7_4) (lt ((t_X11_greater (x5 + q7) (rdN I 71 x7_4)) + (5 : Int32)) fun x5_13 => (lt (rdN I 70 x7_4) fun x4_15 => (gd (inbL 73 6 x7_4) (if x5_13 ≤ (rdN I 72 x7_4) then self9 x4_15 x5_13 (x6 + (1 : Int32)) else some ((1000000 : Int32))))))))))
def Rf_X11_doneBy (fu : Nat) (S : Sk) (I : II) (x1 : Int32) (x2 : Int32) (x3 : Int32) : Option (Int32) :=
  fix3 (Rl_X11_doneBy_9 fu S I x3) fu x1 x2 (0 : Int32)
def Rj_X11_night_159 (fu : Nat) (S : Sk) (I : II) (x7 : Int32) (x8 : Int32) : Option (Int32 × II) :=
  if 0 ≤ x7 then some ((x8, I)) else some ((((-9) : Int32), I))
def Rj_X11_night_143 (fu : Nat) (S : Sk) (I : II) (self91 : Int32 → Int32 → Int32 → II → Option (Int32 × II)) (x2 : Int32) (x3 : Int32) (x4 : Int32) (x5 : Int32) (x6 : Int32) (x7 : Int32) (x8 : Int32) (x9 : Int32) : Option (Int32 × II) :=
  self91 x7 x8 (x9 + (1 : Int32)) I
def Rj_X11_night_126 (fu : Nat) (S : Sk) (I : II) (self91 : Int32 → Int32 → Int32 → II → Option (Int32 × II)) (x2 : Int32) (x3 : Int32) (x4 : Int32) (x5 : Int32) (x6 : Int32) (x7 : Int32) (x8 : Int32) (x9 : Int32) (s0 : Int32) : Option (Int32 × II) :=
  if x8 ≤ s0 then Rj_X11_night_143 fu S I self91 x2 x3 x4 x5 x6 x7 x8 x9 else Rj_X11_night_143 fu S I self91 x2 x3 x4 x5 x6 x9 s0 x9
def Rl_X11_night_91 (fu : Nat) (S : Sk) (x2 : Int32) (x3 : Int32) (x4 : Int32) (x5 : Int32) (x6 : Int32) (self91 : Int32 → Int32 → Int32 → II → Option (Int32 × II)) (x7 : Int32) (x8 : Int32) (x9 : Int32) (I : II) : Option (Int32 × II) :=
  if x6 ≤ x9 then if x7 < 0 then Rj_X11_night_159 fu S I x7 x8 else if 0 ≤ x4 then (Rf_X11_layRow fu S I x7 x5).bind fun q6 => (gd (inbL 69 14 x4) (gd (inbL 71 6 (rdN q6 68 x4)) (some (((rdN q6 70 (rdN q6 68 x4)), q6))))) else Rj_X11_night_159 fu S I x7 x8 else (Rf_X11_layRow fu S I x9 x5).bind fun q13 => ((Rf_X11_areAllUnlike fu S q13).bind fun q16 => (if q16 = 0 then Rj_X11_night_126 fu S q13 self91 x2 x3 x4 x5 x6 x7 x8 x9 (1000000 : Int32) else (Rf_X11_doneBy fu S q13 x2 x3 x5).bind fun q20 => (Rj_X11_night_126 fu S q13 self91 x2 x3 x4 x5 x6 x7 x8 x9 q20)))
def Rf_X11_night (fu : Nat) (S : Sk) (I : II) (x1 : Int32) (x2 : Int32) (x3 : Int32) (x4 : Int32) : Option (Int32 × II) :=
  (Rf_X11_boardMany fu S I).bind fun q23 => (if (t_X11_noStop I 38 x2) = 0 then if (t_X11_in x4.toInt64 ((-1) : Int64) (q23.toInt64 - (1 : Int64))) = 0 then some ((((-1) : Int32), I)) else if (t_X11_in x1.toInt64 (0 : Int64) (58 : Int64)) = 0 then some ((((-2) : Int32), I)) else if (t_X11_in x3.toInt64 (0 : Int64) (2879 : Int64)) = 0 then some ((((-2) : Int32), I)) else (Rf_X11_layBoards fu S I x1).bind fun q34 => (lt (upI q34 38 40 q23) fun I37 => ((f_X11_power fu S I37 q23 q23).bind fun q38 => (fix4 (Rl_X11_night_91 fu S x2 x3 x4 q23 q38) fu ((-9) : Int32) (1000000 : Int32) (0 : Int32) I37))) else some ((((-1) : Int32), I)))
def Rf_X11_noQueue (fu : Nat) (S : Sk) (I : II) (x1 : Int32) (x2 : Int32) : Option (Int32) :=
  if (t_X11_noLine I 38 x1) = 0 then gd (inbL 43 14 x1) (if (t_X11_in x2.toInt64 (0 : Int64) ((((rdN I 42 x1)).toInt64) - (2 : Int64))) = 0 then some ((1 : Int32)) else some ((0 : Int32))) else some ((1 : Int32))
def Rf_X11_waiting (fu : Nat) (S : Sk) (I : II) (x1 : Int32) (x2 : Int32) (x3 : Int32) : Option (Int32 × II) :=
  (Rf_X11_noQueue fu S I x1 x2).bind fun q1 => (if q1 = 0 then if (t_X11_in x3.toInt64 (0 : Int64) (999 : Int64)) = 0 then some ((((-2) : Int32), I)) else gd (inbL 51 112 (((8 : Int32) * x1) + x2)) (lt (rdN I 50 (((8 : Int32) * x1) + x2)) fun x4_9 => (lt (wrN I 50 (((8 : Int32) * x1) + x2) x3) fun I11 => (some ((x4_9, I11))))) else some ((((-1) : Int32), I)))
def Rf_X11_seats (fu : Nat) (S : Sk) (I : II) (x1 : Int32) : Option (Int32 × II) :=
  if (t_X11_in x1.toInt64 (1 : Int64) (99 : Int64)) = 0 then some ((((-2) : Int32), I)) else lt (I 38 51) fun x2_3 => (lt (upI I 38 51 x1) fun I4 => (some ((x2_3, I4))))
def Rl_X11_standing_53 (fu : Nat) (S : Sk) (I : II) (x1 : Int32) (x2 : Int32) (self53 : Int32 → Int32 → Int32 → Option (Int32)) (x4 : Int32) (x5 : Int32) (x6 : Int32) : Option (Int32) :=
  gd (inbL 43 14 x1) (if ((rdN I 42 x1) - (1 : Int32)) ≤ x6 then some (x5) else gd (inbL 51 112 (((8 : Int32) * x1) + x6)) (lt (t_X11_lesser x4 (rdN I 50 (((8 : Int32) * x1) + x6))) fun x7_7 => (lt (x4 - x7_7) fun x4_8 => (lt ((rdN I 50 (((8 : Int32) * x1) + x6)) - x7_7) fun x8_10 => (lt (x5 + x8_10) fun x5_11 => (if x6 = x2 then some (x8_10) else self53 x4_8 x5_11 (x6 + (1 : Int32))))))))
def Rj_X11_standing_24 (fu : Nat) (S : Sk) (I : II) (x1 : Int32) (x2 : Int32) (x3 : Int32) : Option (Int32) :=
  if (t_X11_in x3.toInt64 (0 : Int64) (999 : Int64)) = 0 then some (((-2) : Int32)) else lt (x3 * (I 38 51)) fun x4_15 => (fix3 (Rl_X11_standing_53 fu S I x1 x2) fu x4_15 (0 : Int32) (0 : Int32))
def Rf_X11_standing (fu : Nat) (S : Sk) (I : II) (x1 : Int32) (x2 : Int32) (x3 : Int32) : Option (Int32) :=
  if (t_X11_noLine I 38 x1) = 0 then if x2 = ((-1) : Int32) then Rj_X11_standing_24 fu S I x1 x2 x3 else (Rf_X11_noQueue fu S I x1 x2).bind fun q19 => (if q19 = 0 then Rj_X11_standing_24 fu S I x1 x2 x3 else some (((-1) : Int32))) else some (((-1) : Int32))
def Rl_X11_extra_14 (fu : Nat) (S : Sk) (I : II) (x1 : Int32) (self14 : Int32 → Int32 → Option (Int32)) (x2 : Int32) (x3 : Int32) : Option (Int32) :=
  gd (inbL 43 14 x1) (if ((rdN I 42 x1) - (1 : Int32)) ≤ x3 then gd (¬ (I 38 51) = 0) ((Rf_X11_buses fu S I x1).bind fun q5 => (some ((t_X11_greater (0 : Int32) ((((x2 + (I 38 51)) - (1 : Int32)) / (I 38 51)) - q5))))) else gd (inbL 51 112 (((8 : Int32) * x1) + x3)) (lt (x2 + (rdN I 50 (((8 : Int32) * x1) + x3))) fun x2_11 => (self14 x2_11 (x3 + (1 : Int32)))))
def Rf_X11_extra (fu : Nat) (S : Sk) (I : II) (x1 : Int32) : Option (Int32) :=
  if (t_X11_noLine I 38 x1) = 0 then fix2 (Rl_X11_extra_14 fu S I x1) fu (0 : Int32) (0 : Int32) else some (((-1) : Int32))
def Rj_X11_sheet_31 (fu : Nat) (S : Sk) (I : II) : Option (Int32 × II) :=
  (Rf_X11_refused fu S I ((-2) : Int32)).bind fun q1 => (some ((q1.1, q1.2)))
def Rl_X11_sheet_65 (fu : Nat) (S : Sk) (x1 : Int32) (x3 : Int32) (self65 : Int32 → II → Option (Int32 × II)) (x4 : Int32) (I : II) : Option (Int32 × II) :=
  if x3 ≤ x4 then (Rf_X11_refused fu S I (1 : Int32)).bind fun q5 => (some ((q5.1, q5.2))) else gd (inbL 76 240 (((60 : Int32) * x1) + x4)) (lt (wrN I 75 (((60 : Int32) * x1) + x4) (0 : Int32)) fun I10 => (self65 (x4 + (1 : Int32)) I10))
def Rf_X11_sheet (fu : Nat) (S : Sk) (I : II) (x1 : Int32) (x2 : Int32) (x3 : Int32) : Option (Int32 × II) :=
  if (t_X11_noSheet x1) = 0 then if (t_X11_in x2.toInt64 (0 : Int64) (2 : Int64)) = 0 then Rj_X11_sheet_31 fu S I else if x3 ≤ (60 : Int32) then if 0 ≤ x3 then gd (inbL 74 4 x1) (lt (wrN I 73 x1 x3) fun I19 => (gd (inbL 75 4 x1) (lt (wrN I19 74 x1 x2) fun I22 => (fix2 (Rl_X11_sheet_65 fu S x1 x3) fu (0 : Int32) I22)))) else (Rf_X11_failed fu S I (4 : Int32)).bind fun q23 => (some ((q23.1, q23.2))) else Rj_X11_sheet_31 fu S I else (Rf_X11_refused fu S I ((-1) : Int32)).bind fun q26 => (some ((q26.1, q26.2)))
def Rj_X11_drop_23 (fu : Nat) (S : Sk) (I : II) (x1 : Int32) (s0 : Int32) : Option (Int32 × II) :=
  gd (inbL 74 4 x1) (lt (wrN I 73 x1 ((-1) : Int32)) fun I3 => (some ((s0, I3))))
def Rf_X11_drop (fu : Nat) (S : Sk) (I : II) (x1 : Int32) : Option (Int32 × II) :=
  if (t_X11_noSheet x1) = 0 then gd (inbL 74 4 x1) (if 0 ≤ (rdN I 73 x1) then Rj_X11_drop_23 fu S I x1 (1 : Int32) else Rj_X11_drop_23 fu S I x1 (0 : Int32)) else some ((((-1) : Int32), I))
def Rf_X11_noCell (fu : Nat) (S : Sk) (I : II) (x1 : Int32) (x2 : Int32) : Option (Int32) :=
  gd (inbL 74 4 x1) (if 0 ≤ (rdN I 73 x1) then if (t_X11_in x2.toInt64 (0 : Int64) ((((rdN I 73 x1)).toInt64) - (1 : Int64))) = 0 then some ((3 : Int32)) else some ((0 : Int32)) else some ((1 : Int32)))
def Rj_X11_put_73 (fu : Nat) (S : Sk) (I : II) (q0 : Nat) (s1 : Int32) (s2 : Int32) : Option (Int32 × II) :=
  gd (inb S q0 s1) (lt (wr I q0 s1 s2) fun I2 => ((Rf_X11_refused fu S I2 (1 : Int32)).bind fun q3 => (some ((q3.1, q3.2)))))
def Rf_X11_put (fu : Nat) (S : Sk) (I : II) (x1 : Int32) (x2 : Int32) (x3 : Int32) : Option (Int32 × II) :=
  if (t_X11_noSheet x1) = 0 then (Rf_X11_noCell fu S I x1 x2).bind fun q8 => (if q8 ≤ 0 then gd (inbL 75 4 x1) (if (rdN I 74 x1) = 0 then Rj_X11_put_73 fu S I 76 (((60 : Int32) * x1) + x2) ((x3).toInt8.toInt32) else if (rdN I 74 x1) = (1 : Int32) then Rj_X11_put_73 fu S I 76 (((60 : Int32) * x1) + x2) ((x3).toInt16.toInt32) else Rj_X11_put_73 fu S I 76 (((60 : Int32) * x1) + x2) x3) else (Rf_X11_noCell fu S I x1 x2).bind fun q18 => ((Rf_X11_failed fu S I q18).bind fun q21 => (some ((q21.1, q21.2))))) else (Rf_X11_refused fu S I ((-1) : Int32)).bind fun q24 => (some ((q24.1, q24.2)))
def Rj_X11_cell_24 (fu : Nat) (S : Sk) (I : II) : Option (Int64 × II) :=
  some (((t_X11_lost), I))
def Rj_X11_cell_53 (fu : Nat) (S : Sk) (I : II) (x1 : Int32) (x2 : Int32) : Option (Int64 × II) :=
  (Rf_X11_noCell fu S I x1 x2).bind fun q2 => (if q2 ≤ 0 then gd (inbL 76 240 (((60 : Int32) * x1) + x2)) (some ((((rdN I 75 (((60 : Int32) * x1) + x2))).toInt64, I))) else (Rf_X11_noCell fu S I x1 x2).bind fun q8 => ((Rf_X11_failedLong fu S I q8).bind fun q11 => (some ((q11.1, q11.2)))))
def Rf_X11_cell (fu : Nat) (S : Sk) (I : II) (x1 : Int32) (x2 : Int32) (x3 : Int32) : Option (Int64 × II) :=
  lt (upI I 38 0 (0 : Int32)) fun I14 => (if (t_X11_noSheet x1) = 0 then if (t_X11_in x3.toInt64 (0 : Int64) (2 : Int64)) = 0 then Rj_X11_cell_24 fu S I14 else gd (inbL 74 4 x1) (if (rdN I14 73 x1) < 0 then Rj_X11_cell_53 fu S I14 x1 x2 else gd (inbL 75 4 x1) (if (rdN I14 74 x1) = x3 then Rj_X11_cell_53 fu S I14 x1 x2 else (Rf_X11_failedLong fu S I14 (2 : Int32)).bind fun q25 => (some ((q25.1, q25.2))))) else Rj_X11_cell_24 fu S I14)
def Rj_X11_copy_14 (fu : Nat) (S : Sk) (I : II) : Option (Int32 × II) :=
  (Rf_X11_refused fu S I ((-1) : Int32)).bind fun q1 => (some ((q1.1, q1.2)))
def Rj_X11_copy_38 (fu : Nat) (S : Sk) (I : II) : Option (Int32 × II) :=
  (Rf_X11_failed fu S I (1 : Int32)).bind fun q4 => (some ((q4.1, q4.2)))
def Rj_X11_copy_98 (fu : Nat) (S : Sk) (I : II) : Option (Int32 × II) :=
  (Rf_X11_failed fu S I (3 : Int32)).bind fun q7 => (some ((q7.1, q7.2)))
def Rl_X11_copy_144 (fu : Nat) (S : Sk) (x3 : Int32) (x4 : Int32) (x5 : Int32) (self144 : Int32 → II → Option (Int32 × II)) (x6 : Int32) (I : II) : Option (Int32 × II) :=
  if x5 ≤ x6 then (Rf_X11_refused fu S I x5).bind fun q11 => (some ((q11.1, q11.2))) else gd (inbL 77 60 x6) (gd (inbL 76 240 ((((60 : Int32) * x3) + x4) + x6)) (lt (wrN I 75 ((((60 : Int32) * x3) + x4) + x6) (rdN I 76 x6)) fun I18 => (self144 (x6 + (1 : Int32)) I18)))
def Rl_X11_copy_107 (fu : Nat) (S : Sk) (x1 : Int32) (x2 : Int32) (x3 : Int32) (x4 : Int32) (x5 : Int32) (self107 : Int32 → II → Option (Int32 × II)) (x6 : Int32) (I : II) : Option (Int32 × II) :=
  if x5 ≤ x6 then fix2 (Rl_X11_copy_144 fu S x3 x4 x5) fu (0 : Int32) I else gd (inbL 76 240 ((((60 : Int32) * x1) + x2) + x6)) (gd (inbL 77 60 x6) (lt (wrN I 76 x6 (rdN I 75 ((((60 : Int32) * x1) + x2) + x6))) fun I24 => (self107 (x6 + (1 : Int32)) I24)))
def Rf_X11_copy (fu : Nat) (S : Sk) (I : II) (x1 : Int32) (x2 : Int32) (x3 : Int32) (x4 : Int32) (x5 : Int32) : Option (Int32 × II) :=
  if (t_X11_noSheet x1) = 0 then if (t_X11_noSheet x3) = 0 then gd (inbL 74 4 x1) (if (rdN I 73 x1) < 0 then Rj_X11_copy_38 fu S I else gd (inbL 74 4 x3) (if 0 ≤ (rdN I 73 x3) then gd (inbL 75 4 x1) (gd (inbL 75 4 x3) (if (rdN I 74 x1) = (rdN I 74 x3) then if (t_X11_isBeyond x2 x5.toInt64 (rdN I 73 x1)) = 0 then if (t_X11_isBeyond x4 x5.toInt64 (rdN I 73 x3)) = 0 then fix2 (Rl_X11_copy_107 fu S x1 x2 x3 x4 x5) fu (0 : Int32) I else Rj_X11_copy_98 fu S I else Rj_X11_copy_98 fu S I else (Rf_X11_failed fu S I (2 : Int32)).bind fun q46 => (some ((q46.1, q46.2))))) else Rj_X11_copy_38 fu S I)) else Rj_X11_copy_14 fu S I else Rj_X11_copy_14 fu S I
def Rf_X11_traced (fu : Nat) (S : Sk) (I : II) (x1 : Int32) : Option (II) :=
  lt (upI I 38 56 (((31 : Int32) * (I 38 56)) + x1)) fun I1 => (some (I1))
def Rj_X11_tell_71 (fu : Nat) (S : Sk) (I : II) (x1 : Int32) (x2 : Int32) (s0 : Int32) (s1 : Int32) : Option (Int32 × II) :=
  if x2 = (2 : Int32) then gd (inbL 43 14 x1) (some ((((s0 + s1) + (rdN I 42 x1)), I))) else some ((((s0 + s1) + (0 : Int32)), I))
def Rj_X11_tell_51 (fu : Nat) (S : Sk) (I : II) (x1 : Int32) (x2 : Int32) : Option (Int32 × II) :=
  gd (inbL 43 14 x1) (if x2 = 0 then Rj_X11_tell_71 fu S I x1 x2 (rdN I 42 x1) (0 : Int32) else gd (inbL 46 14 x1) (Rj_X11_tell_71 fu S I x1 x2 (rdN I 42 x1) (rdN I 45 x1)))
def Rj_X11_tell_36 (fu : Nat) (S : Sk) (I : II) (x1 : Int32) (x2 : Int32) : Option (Int32 × II) :=
  (Rf_X11_traced fu S I (1 : Int32)).bind fun q9 => (if x2 = (2 : Int32) then (Rf_X11_traced fu S q9 (1 : Int32)).bind fun q13 => (Rj_X11_tell_51 fu S q13 x1 x2) else Rj_X11_tell_51 fu S q9 x1 x2)
def Rj_X11_tell_27 (fu : Nat) (S : Sk) (I : II) (x1 : Int32) (x2 : Int32) : Option (Int32 × II) :=
  if x2 ≤ 0 then Rj_X11_tell_36 fu S I x1 x2 else (Rf_X11_traced fu S I (2 : Int32)).bind fun q17 => (Rj_X11_tell_36 fu S q17 x1 x2)
def Rf_X11_tell (fu : Nat) (S : Sk) (I : II) (x1 : Int32) : Option (Int32 × II) :=
  if (t_X11_noLine I 38 x1) = 0 then gd (inbL 42 14 x1) (lt (rdN I 41 x1) fun x2_24 => (if x2_24 = (2 : Int32) then (Rf_X11_traced fu S I (3 : Int32)).bind fun q26 => (Rj_X11_tell_27 fu S q26 x1 x2_24) else Rj_X11_tell_27 fu S I x1 x2_24)) else some ((((-1) : Int32), I))
def Rj_X11_hail_26 (fu : Nat) (S : Sk) (I : II) (x1 : Int32) (s1 : Int32) : Option (Int32 × II) :=
  (Rf_X11_traced fu S I s1).bind fun q1 => (gd (inbL 42 14 x1) (if (rdN q1 41 x1) = (2 : Int32) then some (((90 : Int32), q1)) else some ((x1, q1))))
def Rf_X11_hail (fu : Nat) (S : Sk) (I : II) (x1 : Int32) : Option (Int32 × II) :=
  if (t_X11_noLine I 38 x1) = 0 then gd (inbL 42 14 x1) (if (rdN I 41 x1) = (2 : Int32) then Rj_X11_hail_26 fu S I x1 (5 : Int32) else Rj_X11_hail_26 fu S I x1 (4 : Int32)) else some ((((-1) : Int32), I))
def Rf_X11_as (fu : Nat) (S : Sk) (I : II) (x1 : Int32) (x2 : Int32) : Option (Int32 × II) :=
  if (t_X11_noLine I 38 x1) = 0 then if (t_X11_in x2.toInt64 (0 : Int64) (2 : Int64)) = 0 then (Rf_X11_refused fu S I ((-2) : Int32)).bind fun q14 => (some ((q14.1, q14.2))) else gd (inbL 42 14 x1) (if (rdN I 41 x1) < x2 then (Rf_X11_failed fu S I (2 : Int32)).bind fun q8 => (some ((q8.1, q8.2))) else (Rf_X11_refused fu S I (1 : Int32)).bind fun q11 => (some ((q11.1, q11.2)))) else (Rf_X11_refused fu S I ((-1) : Int32)).bind fun q17 => (some ((q17.1, q17.2)))
def Rf_X11_many (fu : Nat) (S : Sk) (I : II) (x1 : Int32) : Option (Int32) :=
  if x1 = (0 : Int32) then some ((I 38 1)) else (if x1 = (1 : Int32) then some ((I 38 4)) else (if x1 = (2 : Int32) then some ((I 38 15)) else (if x1 = (3 : Int32) then some ((I 38 22)) else (if x1 = (4 : Int32) then some ((I 38 34)) else (if x1 = (5 : Int32) then some ((I 38 36)) else (if x1 = (6 : Int32) then some ((I 38 45)) else (if x1 = (7 : Int32) then (Rf_X11_boardMany fu S I).bind fun q9 => (some (q9)) else some (((-2) : Int32)))))))))
set_option maxRecDepth 100000 in
set_option maxHeartbeats 4000000 in
theorem re_X2_walkFrom (fu : Nat) (D : Dn) (I : II) (x1 : Int32) (x2 : Int32) (x3 : Int32) : f_X2_walkFrom fu (mkS D) I 1 x1 x2 x3 = Rf_X2_walkFrom fu (mkS D) I x1 x2 x3 := rfl
set_option maxRecDepth 100000 in
set_option maxHeartbeats 4000000 in
theorem re_X2_addStop (fu : Nat) (D : Dn) (I : II) (x1 : Int32) (x2 : Int32) : f_X2_addStop fu (mkS D) I 1 x1 x2 = Rf_X2_addStop fu (mkS D) I x1 x2 := rfl
set_option maxRecDepth 100000 in
set_option maxHeartbeats 4000000 in
theorem re_X2_addLine (fu : Nat) (D : Dn) (I : II) (r1 : Nat) : f_X2_addLine fu (mkS D) I 1 r1 = Rf_X2_addLine fu (mkS D) I r1 := rfl
set_option maxRecDepth 100000 in
set_option maxHeartbeats 4000000 in
theorem re_X2_lineAt (fu : Nat) (D : Dn) (I : II) (x1 : Int32) : f_X2_lineAt fu (mkS D) I 1 x1 = Rf_X2_lineAt fu (mkS D) I x1 := rfl
set_option maxRecDepth 100000 in
set_option maxHeartbeats 4000000 in
theorem re_X2_walk (fu : Nat) (D : Dn) (I : II) (x1 : Int32) (x2 : Int32) : f_X2_walk fu (mkS D) I 1 x1 x2 = Rf_X2_walk fu (mkS D) I x1 x2 := rfl
set_option maxRecDepth 100000 in
set_option maxHeartbeats 4000000 in
theorem re_X2_refusalOf (fu : Nat) (D : Dn) (I : II) (r1 : Nat) : f_X2_refusalOf fu (mkS D) I 1 r1 = Rf_X2_refusalOf fu (mkS D) I r1 := rfl
set_option maxRecDepth 100000 in
set_option maxHeartbeats 4000000 in
theorem re_X2_running (fu : Nat) (D : Dn) (I : II) (x1 : Int32) : f_X2_running fu (mkS D) I 1 x1 = Rf_X2_running fu (mkS D) I x1 := rfl
set_option maxRecDepth 100000 in
set_option maxHeartbeats 4000000 in
theorem re_X2_busesLeaving (fu : Nat) (D : Dn) (I : II) (x1 : Int32) (x2 : Int32) : f_X2_busesLeaving fu (mkS D) I 1 x1 x2 = Rf_X2_busesLeaving fu (mkS D) I x1 x2 := rfl
set_option maxRecDepth 100000 in
set_option maxHeartbeats 4000000 in
theorem re_X2_busMinutes (fu : Nat) (D : Dn) (I : II) (x1 : Int32) : f_X2_busMinutes fu (mkS D) I 1 x1 = Rf_X2_busMinutes fu (mkS D) I x1 := rfl
set_option maxRecDepth 100000 in
set_option maxHeartbeats 4000000 in
theorem re_X2_lastBus (fu : Nat) (D : Dn) (I : II) (x1 : Int32) (x2 : Int32) : f_X2_lastBus fu (mkS D) I 1 x1 x2 = Rf_X2_lastBus fu (mkS D) I x1 x2 := rfl
set_option maxRecDepth 100000 in
set_option maxHeartbeats 4000000 in
theorem re_X2_firstBus (fu : Nat) (D : Dn) (I : II) (x1 : Int32) (x2 : Int32) : f_X2_firstBus fu (mkS D) I 1 x1 x2 = Rf_X2_firstBus fu (mkS D) I x1 x2 := rfl
theorem ro_X3_goOn (fu : Nat) (D : Dn) (I : II) (rc : II → Int32 → Int32 → Int32 → Int32 → Option II) (x1 : Int32) (x2 : Int32) (x3 : Int32) (x4 : Int32) : o_X3_goOn fu (mkS D) I rc 23 x1 x2 x3 x4 = Ro_X3_goOn fu (mkS D) I rc x1 x2 x3 x4 := rfl
theorem re_X3_goOn (fu : Nat) (D : Dn) : ∀ (dd : Nat), f_X3_goOn fu (mkS D) 23 dd = Rf_X3_goOn fu (mkS D) dd := by
  intro dd
  induction dd with
  | zero => rfl
  | succ dd ih =>
    funext I x1 x2 x3 x4
    show o_X3_goOn fu (mkS D) I (f_X3_goOn fu (mkS D) 23 dd) 23 x1 x2 x3 x4 = Ro_X3_goOn fu (mkS D) I (Rf_X3_goOn fu (mkS D) dd) x1 x2 x3 x4
    rw [ih, ro_X3_goOn]
set_option maxRecDepth 100000 in
set_option maxHeartbeats 4000000 in
theorem re_X3_plan (fu : Nat) (D : Dn) (I : II) (x1 : Int32) (x2 : Int32) (x3 : Int32) (x4 : Int32) : f_X3_plan fu (mkS D) I 23 x1 x2 x3 x4 = Rf_X3_plan fu (mkS D) I x1 x2 x3 x4 := rfl
set_option maxRecDepth 100000 in
set_option maxHeartbeats 4000000 in
theorem re_X4_begin (fu : Nat) (D : Dn) (I : II) (x1 : Int32) : f_X4_begin fu (mkS D) I 15 x1 = Rf_X4_begin fu (mkS D) I x1 := rfl
set_option maxRecDepth 100000 in
set_option maxHeartbeats 4000000 in
theorem re_X4_addPlace (fu : Nat) (D : Dn) (I : II) (x1 : Int32) : f_X4_addPlace fu (mkS D) I 15 x1 = Rf_X4_addPlace fu (mkS D) I x1 := rfl
set_option maxRecDepth 100000 in
set_option maxHeartbeats 4000000 in
theorem re_X4_setCost (fu : Nat) (D : Dn) (I : II) (x1 : Int32) (x2 : Int32) (x3 : Int32) : f_X4_setCost fu (mkS D) I 15 x1 x2 x3 = Rf_X4_setCost fu (mkS D) I x1 x2 x3 := rfl
set_option maxRecDepth 100000 in
set_option maxHeartbeats 4000000 in
theorem re_X4_leastWith (fu : Nat) (D : Dn) (I : II) (rc : II → Int32 → Int32 → Option (Int32 × II)) (x1 : Int32) (x2 : Int32) (x3 : Int32) : f_X4_leastWith fu (mkS D) I rc 15 x1 x2 x3 = Rf_X4_leastWith fu (mkS D) I rc x1 x2 x3 := rfl
theorem ro_X4_leastFrom (fu : Nat) (D : Dn) (I : II) (rc : II → Int32 → Int32 → Option (Int32 × II)) (x1 : Int32) (x2 : Int32) : o_X4_leastFrom fu (mkS D) I rc 15 x1 x2 = Ro_X4_leastFrom fu (mkS D) I rc x1 x2 := rfl
theorem re_X4_leastFrom (fu : Nat) (D : Dn) : ∀ (dd : Nat), f_X4_leastFrom fu (mkS D) 15 dd = Rf_X4_leastFrom fu (mkS D) dd := by
  intro dd
  induction dd with
  | zero => rfl
  | succ dd ih =>
    funext I x1 x2
    show o_X4_leastFrom fu (mkS D) I (f_X4_leastFrom fu (mkS D) 15 dd) 15 x1 x2 = Ro_X4_leastFrom fu (mkS D) I (Rf_X4_leastFrom fu (mkS D) dd) x1 x2
    rw [ih, ro_X4_leastFrom]
set_option maxRecDepth 100000 in
set_option maxHeartbeats 4000000 in
theorem re_X4_firstBest (fu : Nat) (D : Dn) (I : II) (x1 : Int32) (x2 : Int32) : f_X4_firstBest fu (mkS D) I 15 x1 x2 = Rf_X4_firstBest fu (mkS D) I x1 x2 := rfl
set_option maxRecDepth 100000 in
set_option maxHeartbeats 4000000 in
theorem re_X4_chooseFirst (fu : Nat) (D : Dn) (I : II) : f_X4_chooseFirst fu (mkS D) I 15 = Rf_X4_chooseFirst fu (mkS D) I := rfl
set_option maxRecDepth 100000 in
set_option maxHeartbeats 4000000 in
theorem re_X4_answer (fu : Nat) (D : Dn) (I : II) (x1 : Int32) : f_X4_answer fu (mkS D) I 15 x1 = Rf_X4_answer fu (mkS D) I x1 := rfl
set_option maxRecDepth 100000 in
set_option maxHeartbeats 4000000 in
theorem re_X9_thin (fu : Nat) (D : Dn) (I : II) (r1 : Nat) (x2 : Int32) : f_X9_thin fu (mkS D) I 8 r1 x2 = Rf_X9_thin fu (mkS D) I r1 x2 := rfl
set_option maxRecDepth 100000 in
set_option maxHeartbeats 4000000 in
theorem re_X9_walkFrom (fu : Nat) (D : Dn) (I : II) (x1 : Int32) (x2 : Int32) (x3 : Int32) : f_X9_walkFrom fu (mkS D) I 8 x1 x2 x3 = Rf_X9_walkFrom fu (mkS D) I x1 x2 x3 := rfl
set_option maxRecDepth 100000 in
set_option maxHeartbeats 4000000 in
theorem re_X9_walkOn (fu : Nat) (D : Dn) (I : II) (x1 : Int32) : f_X9_walkOn fu (mkS D) I 8 x1 = Rf_X9_walkOn fu (mkS D) I x1 := rfl
set_option maxRecDepth 100000 in
set_option maxHeartbeats 4000000 in
theorem re_X9_noteArrival (fu : Nat) (D : Dn) (I : II) (r1 : Nat) (x2 : Int32) : f_X9_noteArrival fu (mkS D) I 8 r1 x2 = Rf_X9_noteArrival fu (mkS D) I r1 x2 := rfl
set_option maxRecDepth 100000 in
set_option maxHeartbeats 4000000 in
theorem re_X9_remember (fu : Nat) (D : Dn) (I : II) (x1 : Int32) : f_X9_remember fu (mkS D) I 8 x1 = Rf_X9_remember fu (mkS D) I x1 := rfl
set_option maxRecDepth 100000 in
set_option maxHeartbeats 4000000 in
theorem re_X9_rideAlong (fu : Nat) (D : Dn) (I : II) (r1 : Nat) (x2 : Int32) : f_X9_rideAlong fu (mkS D) I 8 r1 x2 = Rf_X9_rideAlong fu (mkS D) I r1 x2 := rfl
set_option maxRecDepth 100000 in
set_option maxHeartbeats 4000000 in
theorem re_X9_rideOn (fu : Nat) (D : Dn) (I : II) (x1 : Int32) (x2 : Int32) : f_X9_rideOn fu (mkS D) I 8 x1 x2 = Rf_X9_rideOn fu (mkS D) I x1 x2 := rfl
set_option maxRecDepth 100000 in
set_option maxHeartbeats 4000000 in
theorem re_X9_search (fu : Nat) (D : Dn) (I : II) (r1 : Nat) (x2 : Int32) : f_X9_search fu (mkS D) I 8 r1 x2 = Rf_X9_search fu (mkS D) I r1 x2 := rfl
set_option maxRecDepth 100000 in
set_option maxHeartbeats 4000000 in
theorem re_X10_stop (fu : Nat) (D : Dn) (I : II) (x1 : Int32) (x2 : Int32) : f_X10_stop fu (mkS D) I 0 x1 x2 = Rf_X10_stop fu (mkS D) I x1 x2 := rfl
set_option maxRecDepth 100000 in
set_option maxHeartbeats 4000000 in
theorem re_X10_fail (fu : Nat) (D : Dn) (I : II) (x1 : Int32) : f_X10_fail fu (mkS D) I 0 x1 = Rf_X10_fail fu (mkS D) I x1 := rfl
set_option maxRecDepth 100000 in
set_option maxHeartbeats 4000000 in
theorem re_X10_days (fu : Nat) (D : Dn) (I : II) (x1 : Int32) (x2 : Int32) (x3 : Int32) : f_X10_days fu (mkS D) I 0 x1 x2 x3 = Rf_X10_days fu (mkS D) I x1 x2 x3 := rfl
set_option maxRecDepth 100000 in
set_option maxHeartbeats 4000000 in
theorem re_X10_ofLine (fu : Nat) (D : Dn) (I : II) (x1 : Int32) (x2 : Int32) : f_X10_ofLine fu (mkS D) I 0 x1 x2 = Rf_X10_ofLine fu (mkS D) I x1 x2 := rfl
set_option maxRecDepth 100000 in
set_option maxHeartbeats 4000000 in
theorem re_X10_runs (fu : Nat) (D : Dn) (I : II) (x1 : Int32) (x2 : Int32) : f_X10_runs fu (mkS D) I 0 x1 x2 = Rf_X10_runs fu (mkS D) I x1 x2 := rfl
set_option maxRecDepth 100000 in
set_option maxHeartbeats 4000000 in
theorem re_X10_minute (fu : Nat) (D : Dn) (I : II) (x1 : Int32) (x2 : Int32) (x3 : Int32) : f_X10_minute fu (mkS D) I 0 x1 x2 x3 = Rf_X10_minute fu (mkS D) I x1 x2 x3 := rfl
set_option maxRecDepth 100000 in
set_option maxHeartbeats 4000000 in
theorem re_X10_far (fu : Nat) (D : Dn) (I : II) (x1 : Int32) (x2 : Int32) : f_X10_far fu (mkS D) I 0 x1 x2 = Rf_X10_far fu (mkS D) I x1 x2 := rfl
set_option maxRecDepth 100000 in
set_option maxHeartbeats 4000000 in
theorem re_X10_text (fu : Nat) (D : Dn) (I : II) (x1 : Int32) (x2 : Int32) (x3 : Int32) (x4 : Int32) : f_X10_text fu (mkS D) I 0 x1 x2 x3 x4 = Rf_X10_text fu (mkS D) I x1 x2 x3 x4 := rfl
set_option maxRecDepth 100000 in
set_option maxHeartbeats 4000000 in
theorem re_X10_textFor (fu : Nat) (D : Dn) (I : II) (x1 : Int32) (x2 : Int32) : f_X10_textFor fu (mkS D) I 0 x1 x2 = Rf_X10_textFor fu (mkS D) I x1 x2 := rfl
set_option maxRecDepth 100000 in
set_option maxHeartbeats 4000000 in
theorem re_X10_owedTo (fu : Nat) (D : Dn) (I : II) (x1 : Int32) (x2 : Int32) : f_X10_owedTo fu (mkS D) I 0 x1 x2 = Rf_X10_owedTo fu (mkS D) I x1 x2 := rfl
set_option maxRecDepth 100000 in
set_option maxHeartbeats 4000000 in
theorem re_X10_owed (fu : Nat) (D : Dn) (I : II) (x1 : Int32) (x2 : Int32) : f_X10_owed fu (mkS D) I 0 x1 x2 = Rf_X10_owed fu (mkS D) I x1 x2 := rfl
set_option maxRecDepth 100000 in
set_option maxHeartbeats 4000000 in
theorem re_X10_why (fu : Nat) (D : Dn) (I : II) (x1 : Int32) (x2 : Int32) : f_X10_why fu (mkS D) I 0 x1 x2 = Rf_X10_why fu (mkS D) I x1 x2 := rfl
set_option maxRecDepth 100000 in
set_option maxHeartbeats 4000000 in
theorem re_X10_served (fu : Nat) (D : Dn) (I : II) (x1 : Int32) (x2 : Int32) : f_X10_served fu (mkS D) I 0 x1 x2 = Rf_X10_served fu (mkS D) I x1 x2 := rfl
set_option maxRecDepth 100000 in
set_option maxHeartbeats 4000000 in
theorem re_X10_breach (fu : Nat) (D : Dn) (I : II) (x1 : Int32) : f_X10_breach fu (mkS D) I 0 x1 = Rf_X10_breach fu (mkS D) I x1 := rfl
set_option maxRecDepth 100000 in
set_option maxHeartbeats 4000000 in
theorem re_X10_arrival (fu : Nat) (D : Dn) (I : II) (x1 : Int32) (x2 : Int32) : f_X10_arrival fu (mkS D) I 0 x1 x2 = Rf_X10_arrival fu (mkS D) I x1 x2 := rfl
set_option maxRecDepth 100000 in
set_option maxHeartbeats 4000000 in
theorem re_X10_way (fu : Nat) (D : Dn) (I : II) (x1 : Int32) (x2 : Int32) (x3 : Int32) : f_X10_way fu (mkS D) I 0 x1 x2 x3 = Rf_X10_way fu (mkS D) I x1 x2 x3 := rfl
set_option maxRecDepth 100000 in
set_option maxHeartbeats 4000000 in
theorem re_X10_lose (fu : Nat) (D : Dn) (I : II) (x1 : Int32) (x2 : Int32) (x3 : Int32) : f_X10_lose fu (mkS D) I 0 x1 x2 x3 = Rf_X10_lose fu (mkS D) I x1 x2 x3 := rfl
set_option maxRecDepth 100000 in
set_option maxHeartbeats 4000000 in
theorem re_X10_who (fu : Nat) (D : Dn) (I : II) (x1 : Int32) (x2 : Int32) (x3 : Int32) : f_X10_who fu (mkS D) I 0 x1 x2 x3 = Rf_X10_who fu (mkS D) I x1 x2 x3 := rfl
set_option maxRecDepth 100000 in
set_option maxHeartbeats 4000000 in
theorem re_X10_offeredLines (fu : Nat) (D : Dn) (I : II) (x1 : Int32) : f_X10_offeredLines fu (mkS D) I 0 x1 = Rf_X10_offeredLines fu (mkS D) I x1 := rfl
set_option maxRecDepth 100000 in
set_option maxHeartbeats 4000000 in
theorem re_X10_offer (fu : Nat) (D : Dn) (I : II) (x1 : Int32) : f_X10_offer fu (mkS D) I 0 x1 = Rf_X10_offer fu (mkS D) I x1 := rfl
set_option maxRecDepth 100000 in
set_option maxHeartbeats 4000000 in
theorem re_X10_tallyOf (fu : Nat) (D : Dn) (I : II) (x1 : Int32) (x2 : Int32) : f_X10_tallyOf fu (mkS D) I 0 x1 x2 = Rf_X10_tallyOf fu (mkS D) I x1 x2 := rfl
set_option maxRecDepth 100000 in
set_option maxHeartbeats 4000000 in
theorem re_X10_emptyMinutes (fu : Nat) (D : Dn) (I : II) (r1 : Nat) (r2 : Nat) : f_X10_emptyMinutes fu (mkS D) I 0 r1 r2 = Rf_X10_emptyMinutes fu (mkS D) I r1 r2 := rfl
set_option maxRecDepth 100000 in
set_option maxHeartbeats 4000000 in
theorem re_X10_empty (fu : Nat) (D : Dn) (I : II) (x1 : Int32) (x2 : Int32) : f_X10_empty fu (mkS D) I 0 x1 x2 = Rf_X10_empty fu (mkS D) I x1 x2 := rfl
set_option maxRecDepth 100000 in
set_option maxHeartbeats 4000000 in
theorem re_X10_fit (fu : Nat) (D : Dn) (I : II) (x1 : Int32) (x2 : Int32) : f_X10_fit fu (mkS D) I 0 x1 x2 = Rf_X10_fit fu (mkS D) I x1 x2 := rfl
set_option maxRecDepth 100000 in
set_option maxHeartbeats 4000000 in
theorem re_X10_driver (fu : Nat) (D : Dn) (I : II) : f_X10_driver fu (mkS D) I 0 = Rf_X10_driver fu (mkS D) I := rfl
set_option maxRecDepth 100000 in
set_option maxHeartbeats 4000000 in
theorem re_X10_know (fu : Nat) (D : Dn) (I : II) (x1 : Int32) (x2 : Int32) (x3 : Int32) : f_X10_know fu (mkS D) I 0 x1 x2 x3 = Rf_X10_know fu (mkS D) I x1 x2 x3 := rfl
set_option maxRecDepth 100000 in
set_option maxHeartbeats 4000000 in
theorem re_X10_roster (fu : Nat) (D : Dn) (I : II) (x1 : Int32) (x2 : Int32) : f_X10_roster fu (mkS D) I 0 x1 x2 = Rf_X10_roster fu (mkS D) I x1 x2 := rfl
set_option maxRecDepth 100000 in
set_option maxHeartbeats 4000000 in
theorem re_X10_board (fu : Nat) (D : Dn) (I : II) (x1 : Int32) (x2 : Int32) : f_X10_board fu (mkS D) I 0 x1 x2 = Rf_X10_board fu (mkS D) I x1 x2 := rfl
set_option maxRecDepth 100000 in
set_option maxHeartbeats 4000000 in
theorem re_X10_night (fu : Nat) (D : Dn) (I : II) (x1 : Int32) (x2 : Int32) (x3 : Int32) (x4 : Int32) : f_X10_night fu (mkS D) I 0 x1 x2 x3 x4 = Rf_X10_night fu (mkS D) I x1 x2 x3 x4 := rfl
set_option maxRecDepth 100000 in
set_option maxHeartbeats 4000000 in
theorem re_X10_waiting (fu : Nat) (D : Dn) (I : II) (x1 : Int32) (x2 : Int32) (x3 : Int32) : f_X10_waiting fu (mkS D) I 0 x1 x2 x3 = Rf_X10_waiting fu (mkS D) I x1 x2 x3 := rfl
set_option maxRecDepth 100000 in
set_option maxHeartbeats 4000000 in
theorem re_X10_seats (fu : Nat) (D : Dn) (I : II) (x1 : Int32) : f_X10_seats fu (mkS D) I 0 x1 = Rf_X10_seats fu (mkS D) I x1 := rfl
set_option maxRecDepth 100000 in
set_option maxHeartbeats 4000000 in
theorem re_X10_standing (fu : Nat) (D : Dn) (I : II) (x1 : Int32) (x2 : Int32) (x3 : Int32) : f_X10_standing fu (mkS D) I 0 x1 x2 x3 = Rf_X10_standing fu (mkS D) I x1 x2 x3 := rfl
set_option maxRecDepth 100000 in
set_option maxHeartbeats 4000000 in
theorem re_X10_extra (fu : Nat) (D : Dn) (I : II) (x1 : Int32) : f_X10_extra fu (mkS D) I 0 x1 = Rf_X10_extra fu (mkS D) I x1 := rfl
set_option maxRecDepth 100000 in
set_option maxHeartbeats 4000000 in
theorem re_X10_sheet (fu : Nat) (D : Dn) (I : II) (x1 : Int32) (x2 : Int32) (x3 : Int32) : f_X10_sheet fu (mkS D) I 0 x1 x2 x3 = Rf_X10_sheet fu (mkS D) I x1 x2 x3 := rfl
set_option maxRecDepth 100000 in
set_option maxHeartbeats 4000000 in
theorem re_X10_drop (fu : Nat) (D : Dn) (I : II) (x1 : Int32) : f_X10_drop fu (mkS D) I 0 x1 = Rf_X10_drop fu (mkS D) I x1 := rfl
set_option maxRecDepth 100000 in
set_option maxHeartbeats 4000000 in
theorem re_X10_put (fu : Nat) (D : Dn) (I : II) (x1 : Int32) (x2 : Int32) (x3 : Int32) : f_X10_put fu (mkS D) I 0 x1 x2 x3 = Rf_X10_put fu (mkS D) I x1 x2 x3 := rfl
set_option maxRecDepth 100000 in
set_option maxHeartbeats 4000000 in
theorem re_X10_cell (fu : Nat) (D : Dn) (I : II) (x1 : Int32) (x2 : Int32) (x3 : Int32) : f_X10_cell fu (mkS D) I 0 x1 x2 x3 = Rf_X10_cell fu (mkS D) I x1 x2 x3 := rfl
set_option maxRecDepth 100000 in
set_option maxHeartbeats 4000000 in
theorem re_X10_copy (fu : Nat) (D : Dn) (I : II) (x1 : Int32) (x2 : Int32) (x3 : Int32) (x4 : Int32) (x5 : Int32) : f_X10_copy fu (mkS D) I 0 x1 x2 x3 x4 x5 = Rf_X10_copy fu (mkS D) I x1 x2 x3 x4 x5 := rfl
set_option maxRecDepth 100000 in
set_option maxHeartbeats 4000000 in
theorem re_X10_leave (fu : Nat) (D : Dn) (I : II) (x1 : Int32) : f_X10_leave fu (mkS D) I 0 x1 = Rf_X10_leave fu (mkS D) I x1 := rfl
set_option maxRecDepth 100000 in
set_option maxHeartbeats 4000000 in
theorem re_X10_toldByLine (fu : Nat) (D : Dn) (I : II) (r1 : Nat) : f_X10_toldByLine fu (mkS D) I 0 r1 = Rf_X10_toldByLine fu (mkS D) I r1 := rfl
set_option maxRecDepth 100000 in
set_option maxHeartbeats 4000000 in
theorem re_X10_toldBySchool (fu : Nat) (D : Dn) (I : II) (r1 : Nat) : f_X10_toldBySchool fu (mkS D) I 0 r1 = Rf_X10_toldBySchool fu (mkS D) I r1 := rfl
set_option maxRecDepth 100000 in
set_option maxHeartbeats 4000000 in
theorem re_X10_toldByNight (fu : Nat) (D : Dn) (I : II) (r1 : Nat) : f_X10_toldByNight fu (mkS D) I 0 r1 = Rf_X10_toldByNight fu (mkS D) I r1 := rfl
set_option maxRecDepth 100000 in
set_option maxHeartbeats 4000000 in
theorem re_X10_tell (fu : Nat) (D : Dn) (I : II) (x1 : Int32) : f_X10_tell fu (mkS D) I 0 x1 = Rf_X10_tell fu (mkS D) I x1 := rfl
set_option maxRecDepth 100000 in
set_option maxHeartbeats 4000000 in
theorem re_X10_hail (fu : Nat) (D : Dn) (I : II) (x1 : Int32) : f_X10_hail fu (mkS D) I 0 x1 = Rf_X10_hail fu (mkS D) I x1 := rfl
set_option maxRecDepth 100000 in
set_option maxHeartbeats 4000000 in
theorem re_X10_as (fu : Nat) (D : Dn) (I : II) (x1 : Int32) (x2 : Int32) : f_X10_as fu (mkS D) I 0 x1 x2 = Rf_X10_as fu (mkS D) I x1 x2 := rfl
set_option maxRecDepth 100000 in
set_option maxHeartbeats 4000000 in
theorem re_X10_many (fu : Nat) (D : Dn) (I : II) (x1 : Int32) : f_X10_many fu (mkS D) I 0 x1 = Rf_X10_many fu (mkS D) I x1 := rfl
set_option maxRecDepth 100000 in
set_option maxHeartbeats 4000000 in
theorem re_X11_refused (fu : Nat) (D : Dn) (I : II) (x1 : Int32) : f_X11_refused fu (mkS D) I 38 x1 = Rf_X11_refused fu (mkS D) I x1 := rfl
set_option maxRecDepth 100000 in
set_option maxHeartbeats 4000000 in
theorem re_X11_failed (fu : Nat) (D : Dn) (I : II) (x1 : Int32) : f_X11_failed fu (mkS D) I 38 x1 = Rf_X11_failed fu (mkS D) I x1 := rfl
set_option maxRecDepth 100000 in
set_option maxHeartbeats 4000000 in
theorem re_X11_failedLong (fu : Nat) (D : Dn) (I : II) (x1 : Int32) : f_X11_failedLong fu (mkS D) I 38 x1 = Rf_X11_failedLong fu (mkS D) I x1 := rfl
set_option maxRecDepth 100000 in
set_option maxHeartbeats 4000000 in
theorem re_X11_barred (fu : Nat) (D : Dn) (I : II) (x1 : Int32) (x2 : Int32) (x3 : Int32) (n4 : Int64) : f_X11_barred fu (mkS D) I 38 x1 x2 x3 n4 = Rf_X11_barred fu (mkS D) I x1 x2 x3 n4 := rfl
set_option maxRecDepth 100000 in
set_option maxHeartbeats 4000000 in
theorem re_X11_stop (fu : Nat) (D : Dn) (I : II) (x1 : Int32) (x2 : Int32) : f_X11_stop fu (mkS D) I 38 x1 x2 = Rf_X11_stop fu (mkS D) I x1 x2 := rfl
set_option maxRecDepth 100000 in
set_option maxHeartbeats 4000000 in
theorem re_X11_farOf (fu : Nat) (D : Dn) (I : II) (x1 : Int32) (x2 : Int32) : f_X11_farOf fu (mkS D) I 38 x1 x2 = Rf_X11_farOf fu (mkS D) I x1 x2 := rfl
set_option maxRecDepth 100000 in
set_option maxHeartbeats 4000000 in
theorem re_X11_far (fu : Nat) (D : Dn) (I : II) (x1 : Int32) (x2 : Int32) : f_X11_far fu (mkS D) I 38 x1 x2 = Rf_X11_far fu (mkS D) I x1 x2 := rfl
set_option maxRecDepth 100000 in
set_option maxHeartbeats 4000000 in
theorem re_X11_areUnlike (fu : Nat) (D : Dn) (I : II) (x1 : Int32) (x2 : Int32) : f_X11_areUnlike fu (mkS D) I 38 x1 x2 = Rf_X11_areUnlike fu (mkS D) I x1 x2 := rfl
set_option maxRecDepth 100000 in
set_option maxHeartbeats 4000000 in
theorem re_X11_line (fu : Nat) (D : Dn) (I : II) (x1 : Int32) (x2 : Int32) (x3 : Int32) (x4 : Int32) (x5 : Int32) (x6 : Int32) (x7 : Int32) (x8 : Int32) : f_X11_line fu (mkS D) I 38 x1 x2 x3 x4 x5 x6 x7 x8 = Rf_X11_line fu (mkS D) I x1 x2 x3 x4 x5 x6 x7 x8 := rfl
set_option maxRecDepth 100000 in
set_option maxHeartbeats 4000000 in
theorem re_X11_days (fu : Nat) (D : Dn) (I : II) (x1 : Int32) (x2 : Int32) (x3 : Int32) : f_X11_days fu (mkS D) I 38 x1 x2 x3 = Rf_X11_days fu (mkS D) I x1 x2 x3 := rfl
set_option maxRecDepth 100000 in
set_option maxHeartbeats 4000000 in
theorem re_X11_buses (fu : Nat) (D : Dn) (I : II) (x1 : Int32) : f_X11_buses fu (mkS D) I 38 x1 = Rf_X11_buses fu (mkS D) I x1 := rfl
set_option maxRecDepth 100000 in
set_option maxHeartbeats 4000000 in
theorem re_X11_roundOf (fu : Nat) (D : Dn) (I : II) (x1 : Int32) : f_X11_roundOf fu (mkS D) I 38 x1 = Rf_X11_roundOf fu (mkS D) I x1 := rfl
set_option maxRecDepth 100000 in
set_option maxHeartbeats 4000000 in
theorem re_X11_ofLine (fu : Nat) (D : Dn) (I : II) (x1 : Int32) (x2 : Int32) : f_X11_ofLine fu (mkS D) I 38 x1 x2 = Rf_X11_ofLine fu (mkS D) I x1 x2 := rfl
set_option maxRecDepth 100000 in
set_option maxHeartbeats 4000000 in
theorem re_X11_doesRun (fu : Nat) (D : Dn) (I : II) (x1 : Int32) (x2 : Int32) : f_X11_doesRun fu (mkS D) I 38 x1 x2 = Rf_X11_doesRun fu (mkS D) I x1 x2 := rfl
set_option maxRecDepth 100000 in
set_option maxHeartbeats 4000000 in
theorem re_X11_runs (fu : Nat) (D : Dn) (I : II) (x1 : Int32) (x2 : Int32) : f_X11_runs fu (mkS D) I 38 x1 x2 = Rf_X11_runs fu (mkS D) I x1 x2 := rfl
set_option maxRecDepth 100000 in
set_option maxHeartbeats 4000000 in
theorem re_X11_minuteAt (fu : Nat) (D : Dn) (I : II) (x1 : Int32) (x2 : Int32) (x3 : Int32) : f_X11_minuteAt fu (mkS D) I 38 x1 x2 x3 = Rf_X11_minuteAt fu (mkS D) I x1 x2 x3 := rfl
set_option maxRecDepth 100000 in
set_option maxHeartbeats 4000000 in
theorem re_X11_minute (fu : Nat) (D : Dn) (I : II) (x1 : Int32) (x2 : Int32) (x3 : Int32) : f_X11_minute fu (mkS D) I 38 x1 x2 x3 = Rf_X11_minute fu (mkS D) I x1 x2 x3 := rfl
set_option maxRecDepth 100000 in
set_option maxHeartbeats 4000000 in
theorem re_X11_readsNumber (fu : Nat) (D : Dn) (I : II) (x1 : Int32) (x2 : Int32) (x3 : Int32) : f_X11_readsNumber fu (mkS D) I 38 x1 x2 x3 = Rf_X11_readsNumber fu (mkS D) I x1 x2 x3 := rfl
set_option maxRecDepth 100000 in
set_option maxHeartbeats 4000000 in
theorem re_X11_readText (fu : Nat) (D : Dn) (I : II) (x1 : Int32) (x2 : Int32) : f_X11_readText fu (mkS D) I 38 x1 x2 = Rf_X11_readText fu (mkS D) I x1 x2 := rfl
set_option maxRecDepth 100000 in
set_option maxHeartbeats 4000000 in
theorem re_X11_text (fu : Nat) (D : Dn) (I : II) (x1 : Int32) (x2 : Int32) (x3 : Int32) (x4 : Int32) : f_X11_text fu (mkS D) I 38 x1 x2 x3 x4 = Rf_X11_text fu (mkS D) I x1 x2 x3 x4 := rfl
set_option maxRecDepth 100000 in
set_option maxHeartbeats 4000000 in
theorem re_X11_textFor (fu : Nat) (D : Dn) (I : II) (x1 : Int32) (x2 : Int32) : f_X11_textFor fu (mkS D) I 38 x1 x2 = Rf_X11_textFor fu (mkS D) I x1 x2 := rfl
set_option maxRecDepth 100000 in
set_option maxHeartbeats 4000000 in
theorem re_X11_owedTo (fu : Nat) (D : Dn) (I : II) (x1 : Int32) (x2 : Int32) : f_X11_owedTo fu (mkS D) I 38 x1 x2 = Rf_X11_owedTo fu (mkS D) I x1 x2 := rfl
set_option maxRecDepth 100000 in
set_option maxHeartbeats 4000000 in
theorem re_X11_owed (fu : Nat) (D : Dn) (I : II) (x1 : Int32) (x2 : Int32) : f_X11_owed fu (mkS D) I 38 x1 x2 = Rf_X11_owed fu (mkS D) I x1 x2 := rfl
set_option maxRecDepth 100000 in
set_option maxHeartbeats 4000000 in
theorem re_X11_why (fu : Nat) (D : Dn) (I : II) (x1 : Int32) (x2 : Int32) : f_X11_why fu (mkS D) I 38 x1 x2 = Rf_X11_why fu (mkS D) I x1 x2 := rfl
set_option maxRecDepth 100000 in
set_option maxHeartbeats 4000000 in
theorem re_X11_servedAt (fu : Nat) (D : Dn) (I : II) (x1 : Int32) (x2 : Int32) : f_X11_servedAt fu (mkS D) I 38 x1 x2 = Rf_X11_servedAt fu (mkS D) I x1 x2 := rfl
set_option maxRecDepth 100000 in
set_option maxHeartbeats 4000000 in
theorem re_X11_served (fu : Nat) (D : Dn) (I : II) (x1 : Int32) (x2 : Int32) : f_X11_served fu (mkS D) I 38 x1 x2 = Rf_X11_served fu (mkS D) I x1 x2 := rfl
set_option maxRecDepth 100000 in
set_option maxHeartbeats 4000000 in
theorem re_X11_breach (fu : Nat) (D : Dn) (I : II) (x1 : Int32) : f_X11_breach fu (mkS D) I 38 x1 = Rf_X11_breach fu (mkS D) I x1 := rfl
set_option maxRecDepth 100000 in
set_option maxHeartbeats 4000000 in
theorem re_X11_trip (fu : Nat) (D : Dn) (I : II) (x1 : Int32) (x2 : Int32) (x3 : Int32) (x4 : Int32) (x5 : Int32) : f_X11_trip fu (mkS D) I 38 x1 x2 x3 x4 x5 = Rf_X11_trip fu (mkS D) I x1 x2 x3 x4 x5 := rfl
set_option maxRecDepth 100000 in
set_option maxHeartbeats 4000000 in
theorem re_X11_walkFrom (fu : Nat) (D : Dn) (I : II) (x1 : Int32) (x2 : Int32) : f_X11_walkFrom fu (mkS D) I 38 x1 x2 = Rf_X11_walkFrom fu (mkS D) I x1 x2 := rfl
set_option maxRecDepth 100000 in
set_option maxHeartbeats 4000000 in
theorem re_X11_rideFrom (fu : Nat) (D : Dn) (I : II) (x1 : Int32) (x2 : Int32) : f_X11_rideFrom fu (mkS D) I 38 x1 x2 = Rf_X11_rideFrom fu (mkS D) I x1 x2 := rfl
set_option maxRecDepth 100000 in
set_option maxHeartbeats 4000000 in
theorem re_X11_layWay (fu : Nat) (D : Dn) (I : II) (x1 : Int32) : f_X11_layWay fu (mkS D) I 38 x1 = Rf_X11_layWay fu (mkS D) I x1 := rfl
set_option maxRecDepth 100000 in
set_option maxHeartbeats 4000000 in
theorem re_X11_runningOn (fu : Nat) (D : Dn) (I : II) (x1 : Int32) : f_X11_runningOn fu (mkS D) I 38 x1 = Rf_X11_runningOn fu (mkS D) I x1 := rfl
set_option maxRecDepth 100000 in
set_option maxHeartbeats 4000000 in
theorem re_X11_way (fu : Nat) (D : Dn) (I : II) (x1 : Int32) (x2 : Int32) (x3 : Int32) : f_X11_way fu (mkS D) I 38 x1 x2 x3 = Rf_X11_way fu (mkS D) I x1 x2 x3 := rfl
set_option maxRecDepth 100000 in
set_option maxHeartbeats 4000000 in
theorem re_X11_worse (fu : Nat) (D : Dn) (I : II) (x1 : Int32) (x2 : Int32) (x3 : Int32) : f_X11_worse fu (mkS D) I 38 x1 x2 x3 = Rf_X11_worse fu (mkS D) I x1 x2 x3 := rfl
set_option maxRecDepth 100000 in
set_option maxHeartbeats 4000000 in
theorem re_X11_lose (fu : Nat) (D : Dn) (I : II) (x1 : Int32) (x2 : Int32) (x3 : Int32) : f_X11_lose fu (mkS D) I 38 x1 x2 x3 = Rf_X11_lose fu (mkS D) I x1 x2 x3 := rfl
set_option maxRecDepth 100000 in
set_option maxHeartbeats 4000000 in
theorem re_X11_who (fu : Nat) (D : Dn) (I : II) (x1 : Int32) (x2 : Int32) (x3 : Int32) : f_X11_who fu (mkS D) I 38 x1 x2 x3 = Rf_X11_who fu (mkS D) I x1 x2 x3 := rfl
set_option maxRecDepth 100000 in
set_option maxHeartbeats 4000000 in
theorem re_X11_offer (fu : Nat) (D : Dn) (I : II) (x1 : Int32) : f_X11_offer fu (mkS D) I 38 x1 = Rf_X11_offer fu (mkS D) I x1 := rfl
set_option maxRecDepth 100000 in
set_option maxHeartbeats 4000000 in
theorem re_X11_busMinutes (fu : Nat) (D : Dn) (I : II) (x1 : Int32) (x2 : Int32) : f_X11_busMinutes fu (mkS D) I 38 x1 x2 = Rf_X11_busMinutes fu (mkS D) I x1 x2 := rfl
set_option maxRecDepth 100000 in
set_option maxHeartbeats 4000000 in
theorem re_X11_rideNet (fu : Nat) (D : Dn) (I : II) (x1 : Int32) (x2 : Int32) : f_X11_rideNet fu (mkS D) I 38 x1 x2 = Rf_X11_rideNet fu (mkS D) I x1 x2 := rfl
set_option maxRecDepth 100000 in
set_option maxHeartbeats 4000000 in
theorem re_X11_best (fu : Nat) (D : Dn) (I : II) (x1 : Int32) (x2 : Int32) (x3 : Int32) : f_X11_best fu (mkS D) I 38 x1 x2 x3 = Rf_X11_best fu (mkS D) I x1 x2 x3 := rfl
set_option maxRecDepth 100000 in
set_option maxHeartbeats 4000000 in
theorem re_X11_depot (fu : Nat) (D : Dn) (I : II) (x1 : Int32) (x2 : Int32) (x3 : Int32) : f_X11_depot fu (mkS D) I 38 x1 x2 x3 = Rf_X11_depot fu (mkS D) I x1 x2 x3 := rfl
set_option maxRecDepth 100000 in
set_option maxHeartbeats 4000000 in
theorem re_X11_toDepot (fu : Nat) (D : Dn) (I : II) (x1 : Int32) (x2 : Int32) : f_X11_toDepot fu (mkS D) I 38 x1 x2 = Rf_X11_toDepot fu (mkS D) I x1 x2 := rfl
set_option maxRecDepth 100000 in
set_option maxHeartbeats 4000000 in
theorem re_X11_emptyOf (fu : Nat) (D : Dn) (I : II) (x1 : Int32) (x2 : Int32) : f_X11_emptyOf fu (mkS D) I 38 x1 x2 = Rf_X11_emptyOf fu (mkS D) I x1 x2 := rfl
set_option maxRecDepth 100000 in
set_option maxHeartbeats 4000000 in
theorem re_X11_empty (fu : Nat) (D : Dn) (I : II) (x1 : Int32) (x2 : Int32) : f_X11_empty fu (mkS D) I 38 x1 x2 = Rf_X11_empty fu (mkS D) I x1 x2 := rfl
set_option maxRecDepth 100000 in
set_option maxHeartbeats 4000000 in
theorem re_X11_layRuns (fu : Nat) (D : Dn) (I : II) (x1 : Int32) : f_X11_layRuns fu (mkS D) I 38 x1 = Rf_X11_layRuns fu (mkS D) I x1 := rfl
set_option maxRecDepth 100000 in
set_option maxHeartbeats 4000000 in
theorem re_X11_layRow (fu : Nat) (D : Dn) (I : II) (x1 : Int32) (x2 : Int32) : f_X11_layRow fu (mkS D) I 38 x1 x2 = Rf_X11_layRow fu (mkS D) I x1 x2 := rfl
set_option maxRecDepth 100000 in
set_option maxHeartbeats 4000000 in
theorem re_X11_power (fu : Nat) (D : Dn) (I : II) (x0 : Int32) (x1 : Int32) : f_X11_power fu (mkS D) I x0 x1 = Rf_X11_power fu (mkS D) I x0 x1 := rfl
set_option maxRecDepth 100000 in
set_option maxHeartbeats 4000000 in
theorem re_X11_doFit (fu : Nat) (D : Dn) (I : II) : f_X11_doFit fu (mkS D) I 38 = Rf_X11_doFit fu (mkS D) I := rfl
set_option maxRecDepth 100000 in
set_option maxHeartbeats 4000000 in
theorem re_X11_areAllUnlike (fu : Nat) (D : Dn) (I : II) : f_X11_areAllUnlike fu (mkS D) I 38 = Rf_X11_areAllUnlike fu (mkS D) I := rfl
set_option maxRecDepth 100000 in
set_option maxHeartbeats 4000000 in
theorem re_X11_taught (fu : Nat) (D : Dn) (I : II) (x1 : Int32) (x2 : Int32) : f_X11_taught fu (mkS D) I 38 x1 x2 = Rf_X11_taught fu (mkS D) I x1 x2 := rfl
set_option maxRecDepth 100000 in
set_option maxHeartbeats 4000000 in
theorem re_X11_findRow (fu : Nat) (D : Dn) (I : II) (x1 : Int32) (x2 : Int32) : f_X11_findRow fu (mkS D) I 38 x1 x2 = Rf_X11_findRow fu (mkS D) I x1 x2 := rfl
set_option maxRecDepth 100000 in
set_option maxHeartbeats 4000000 in
theorem re_X11_rowTold (fu : Nat) (D : Dn) (I : II) (x1 : Int32) (x2 : Int32) : f_X11_rowTold fu (mkS D) I 38 x1 x2 = Rf_X11_rowTold fu (mkS D) I x1 x2 := rfl
set_option maxRecDepth 100000 in
set_option maxHeartbeats 4000000 in
theorem re_X11_fit (fu : Nat) (D : Dn) (I : II) (x1 : Int32) (x2 : Int32) : f_X11_fit fu (mkS D) I 38 x1 x2 = Rf_X11_fit fu (mkS D) I x1 x2 := rfl
set_option maxRecDepth 100000 in
set_option maxHeartbeats 4000000 in
theorem re_X11_driver (fu : Nat) (D : Dn) (I : II) : f_X11_driver fu (mkS D) I 38 = Rf_X11_driver fu (mkS D) I := rfl
set_option maxRecDepth 100000 in
set_option maxHeartbeats 4000000 in
theorem re_X11_know (fu : Nat) (D : Dn) (I : II) (x1 : Int32) (x2 : Int32) (x3 : Int32) : f_X11_know fu (mkS D) I 38 x1 x2 x3 = Rf_X11_know fu (mkS D) I x1 x2 x3 := rfl
set_option maxRecDepth 100000 in
set_option maxHeartbeats 4000000 in
theorem re_X11_roster (fu : Nat) (D : Dn) (I : II) (x1 : Int32) (x2 : Int32) : f_X11_roster fu (mkS D) I 38 x1 x2 = Rf_X11_roster fu (mkS D) I x1 x2 := rfl
set_option maxRecDepth 100000 in
set_option maxHeartbeats 4000000 in
theorem re_X11_boardMany (fu : Nat) (D : Dn) (I : II) : f_X11_boardMany fu (mkS D) I 38 = Rf_X11_boardMany fu (mkS D) I := rfl
set_option maxRecDepth 100000 in
set_option maxHeartbeats 4000000 in
theorem re_X11_board (fu : Nat) (D : Dn) (I : II) (x1 : Int32) (x2 : Int32) : f_X11_board fu (mkS D) I 38 x1 x2 = Rf_X11_board fu (mkS D) I x1 x2 := rfl
set_option maxRecDepth 100000 in
set_option maxHeartbeats 4000000 in
theorem re_X11_layBoards (fu : Nat) (D : Dn) (I : II) (x1 : Int32) : f_X11_layBoards fu (mkS D) I 38 x1 = Rf_X11_layBoards fu (mkS D) I x1 := rfl
set_option maxRecDepth 100000 in
set_option maxHeartbeats 4000000 in
theorem re_X11_doneBy (fu : Nat) (D : Dn) (I : II) (x1 : Int32) (x2 : Int32) (x3 : Int32) : f_X11_doneBy fu (mkS D) I 38 x1 x2 x3 = Rf_X11_doneBy fu (mkS D) I x1 x2 x3 := rfl
set_option maxRecDepth 100000 in
set_option maxHeartbeats 4000000 in
theorem re_X11_night (fu : Nat) (D : Dn) (I : II) (x1 : Int32) (x2 : Int32) (x3 : Int32) (x4 : Int32) : f_X11_night fu (mkS D) I 38 x1 x2 x3 x4 = Rf_X11_night fu (mkS D) I x1 x2 x3 x4 := rfl
set_option maxRecDepth 100000 in
set_option maxHeartbeats 4000000 in
theorem re_X11_noQueue (fu : Nat) (D : Dn) (I : II) (x1 : Int32) (x2 : Int32) : f_X11_noQueue fu (mkS D) I 38 x1 x2 = Rf_X11_noQueue fu (mkS D) I x1 x2 := rfl
set_option maxRecDepth 100000 in
set_option maxHeartbeats 4000000 in
theorem re_X11_waiting (fu : Nat) (D : Dn) (I : II) (x1 : Int32) (x2 : Int32) (x3 : Int32) : f_X11_waiting fu (mkS D) I 38 x1 x2 x3 = Rf_X11_waiting fu (mkS D) I x1 x2 x3 := rfl
set_option maxRecDepth 100000 in
set_option maxHeartbeats 4000000 in
theorem re_X11_seats (fu : Nat) (D : Dn) (I : II) (x1 : Int32) : f_X11_seats fu (mkS D) I 38 x1 = Rf_X11_seats fu (mkS D) I x1 := rfl
set_option maxRecDepth 100000 in
set_option maxHeartbeats 4000000 in
theorem re_X11_standing (fu : Nat) (D : Dn) (I : II) (x1 : Int32) (x2 : Int32) (x3 : Int32) : f_X11_standing fu (mkS D) I 38 x1 x2 x3 = Rf_X11_standing fu (mkS D) I x1 x2 x3 := rfl
set_option maxRecDepth 100000 in
set_option maxHeartbeats 4000000 in
theorem re_X11_extra (fu : Nat) (D : Dn) (I : II) (x1 : Int32) : f_X11_extra fu (mkS D) I 38 x1 = Rf_X11_extra fu (mkS D) I x1 := rfl
set_option maxRecDepth 100000 in
set_option maxHeartbeats 4000000 in
theorem re_X11_sheet (fu : Nat) (D : Dn) (I : II) (x1 : Int32) (x2 : Int32) (x3 : Int32) : f_X11_sheet fu (mkS D) I 38 x1 x2 x3 = Rf_X11_sheet fu (mkS D) I x1 x2 x3 := rfl
set_option maxRecDepth 100000 in
set_option maxHeartbeats 4000000 in
theorem re_X11_drop (fu : Nat) (D : Dn) (I : II) (x1 : Int32) : f_X11_drop fu (mkS D) I 38 x1 = Rf_X11_drop fu (mkS D) I x1 := rfl
set_option maxRecDepth 100000 in
set_option maxHeartbeats 4000000 in
theorem re_X11_noCell (fu : Nat) (D : Dn) (I : II) (x1 : Int32) (x2 : Int32) : f_X11_noCell fu (mkS D) I 38 x1 x2 = Rf_X11_noCell fu (mkS D) I x1 x2 := rfl
set_option maxRecDepth 100000 in
set_option maxHeartbeats 4000000 in
theorem re_X11_put (fu : Nat) (D : Dn) (I : II) (x1 : Int32) (x2 : Int32) (x3 : Int32) : f_X11_put fu (mkS D) I 38 x1 x2 x3 = Rf_X11_put fu (mkS D) I x1 x2 x3 := rfl
set_option maxRecDepth 100000 in
set_option maxHeartbeats 4000000 in
theorem re_X11_cell (fu : Nat) (D : Dn) (I : II) (x1 : Int32) (x2 : Int32) (x3 : Int32) : f_X11_cell fu (mkS D) I 38 x1 x2 x3 = Rf_X11_cell fu (mkS D) I x1 x2 x3 := rfl
set_option maxRecDepth 100000 in
set_option maxHeartbeats 4000000 in
theorem re_X11_copy (fu : Nat) (D : Dn) (I : II) (x1 : Int32) (x2 : Int32) (x3 : Int32) (x4 : Int32) (x5 : Int32) : f_X11_copy fu (mkS D) I 38 x1 x2 x3 x4 x5 = Rf_X11_copy fu (mkS D) I x1 x2 x3 x4 x5 := rfl
set_option maxRecDepth 100000 in
set_option maxHeartbeats 4000000 in
theorem re_X11_traced (fu : Nat) (D : Dn) (I : II) (x1 : Int32) : f_X11_traced fu (mkS D) I 38 x1 = Rf_X11_traced fu (mkS D) I x1 := rfl
set_option maxRecDepth 100000 in
set_option maxHeartbeats 4000000 in
theorem re_X11_tell (fu : Nat) (D : Dn) (I : II) (x1 : Int32) : f_X11_tell fu (mkS D) I 38 x1 = Rf_X11_tell fu (mkS D) I x1 := rfl
set_option maxRecDepth 100000 in
set_option maxHeartbeats 4000000 in
theorem re_X11_hail (fu : Nat) (D : Dn) (I : II) (x1 : Int32) : f_X11_hail fu (mkS D) I 38 x1 = Rf_X11_hail fu (mkS D) I x1 := rfl
set_option maxRecDepth 100000 in
set_option maxHeartbeats 4000000 in
theorem re_X11_as (fu : Nat) (D : Dn) (I : II) (x1 : Int32) (x2 : Int32) : f_X11_as fu (mkS D) I 38 x1 x2 = Rf_X11_as fu (mkS D) I x1 x2 := rfl
set_option maxRecDepth 100000 in
set_option maxHeartbeats 4000000 in
theorem re_X11_many (fu : Nat) (D : Dn) (I : II) (x1 : Int32) : f_X11_many fu (mkS D) I 38 x1 = Rf_X11_many fu (mkS D) I x1 := rfl
