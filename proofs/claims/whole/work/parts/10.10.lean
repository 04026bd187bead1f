def jn_L_law_1754 (fu : Nat) (S : Sk) (I : II) (sL : Nat) (sx : Nat → Int32) (self18 : Int32 → Sk → II → Option (Int32 × Sk × II)) (r1 : Nat) (r2 : Nat) (x3 : Int32) : Option (Int32 × Sk × II) :=
  self18 (x3 + (9 : Int32)) S I
def jn_L_law_1135 (fu : Nat) (S : Sk) (I : II) (sL : Nat) (sx : Nat → Int32) (self18 : Int32 → Sk → II → Option (Int32 × Sk × II)) (r1 : Nat) (r2 : Nat) (x3 : Int32) (s0 : Int32) (q1 : Nat) (s2 : Int32) (s3 : Int32) (s4 : Int32) : Option (Int32 × Sk × II) :=
  gd (q1 ≠ 0) ((f_X11_know fu S I (q1 - 1) s2 s3 s4).bind fun q2 => (if s0 = q2.1 then jn_L_law_1754 fu S q2.2 sL sx self18 r1 r2 x3 else some (((0 : Int32), S, q2.2))))
def jn_L_law_1108 (fu : Nat) (S : Sk) (I : II) (sL : Nat) (sx : Nat → Int32) (self18 : Int32 → Sk → II → Option (Int32 × Sk × II)) (r1 : Nat) (r2 : Nat) (x3 : Int32) (q0 : Nat) (s1 : Int32) (s2 : Int32) (s3 : Int32) : Option (Int32 × Sk × II) :=
  gd (q0 ≠ 0) ((f_X10_know fu S I (q0 - 1) s1 s2 s3).bind fun q7 => (gd (¬ (x3 + (1 : Int32)) < 0 ∧ nx (x3 + (1 : Int32)) < sL) (gd (¬ (x3 + (2 : Int32)) < 0 ∧ nx (x3 + (2 : Int32)) < sL) (gd (¬ (x3 + (3 : Int32)) < 0 ∧ nx (x3 + (3 : Int32)) < sL) (if (sx (nx (x3 + (3 : Int32)))) = 0 then jn_L_law_1135 fu S q7.2 sL sx self18 r1 r2 x3 q7.1 r2 (sx (nx (x3 + (1 : Int32)))) (sx (nx (x3 + (2 : Int32)))) (0 : Int32) else jn_L_law_1135 fu S q7.2 sL sx self18 r1 r2 x3 q7.1 r2 (sx (nx (x3 + (1 : Int32)))) (sx (nx (x3 + (2 : Int32)))) (1 : Int32))))))
def jn_L_law_1217 (fu : Nat) (S : Sk) (I : II) (sL : Nat) (sx : Nat → Int32) (self18 : Int32 → Sk → II → Option (Int32 × Sk × II)) (r1 : Nat) (r2 : Nat) (x3 : Int32) (s0 : Int32) (q1 : Nat) (s2 : Int32) (s3 : Int32) : Option (Int32 × Sk × II) :=
  gd (q1 ≠ 0) ((f_X11_board fu S I (q1 - 1) s2 s3).bind fun q15 => (if s0 = q15.1 then jn_L_law_1754 fu S q15.2 sL sx self18 r1 r2 x3 else some (((0 : Int32), S, q15.2))))
def jn_L_law_1195 (fu : Nat) (S : Sk) (I : II) (sL : Nat) (sx : Nat → Int32) (self18 : Int32 → Sk → II → Option (Int32 × Sk × II)) (r1 : Nat) (r2 : Nat) (x3 : Int32) (q0 : Nat) (s1 : Int32) (s2 : Int32) : Option (Int32 × Sk × II) :=
  gd (q0 ≠ 0) ((f_X10_board fu S I (q0 - 1) s1 s2).bind fun q20 => (gd (¬ (x3 + (1 : Int32)) < 0 ∧ nx (x3 + (1 : Int32)) < sL) (gd (¬ (x3 + (2 : Int32)) < 0 ∧ nx (x3 + (2 : Int32)) < sL) (if (sx (nx (x3 + (2 : Int32)))) = 0 then jn_L_law_1217 fu S q20.2 sL sx self18 r1 r2 x3 q20.1 r2 (sx (nx (x3 + (1 : Int32)))) (0 : Int32) else jn_L_law_1217 fu S q20.2 sL sx self18 r1 r2 x3 q20.1 r2 (sx (nx (x3 + (1 : Int32)))) (1 : Int32)))))
def lp_L_law_18 (fu : Nat) (sL : Nat) (sx : Nat → Int32) (r1 : Nat) (r2 : Nat) (self18 : Int32 → Sk → II → Option (Int32 × Sk × II)) (x3 : Int32) (S : Sk) (I : II) : Option (Int32 × Sk × II) :=
  if ((sL.toInt32) - (9 : Int32)) < x3 then some (((1 : Int32), S, I)) else gd (¬ x3 < 0 ∧ nx x3 < sL) (if ((sx (nx x3)) &&& (63 : Int32)) = (0 : Int32) then gd (¬ (x3 + (1 : Int32)) < 0 ∧ nx (x3 + (1 : Int32)) < sL) (gd (¬ (x3 + (2 : Int32)) < 0 ∧ nx (x3 + (2 : Int32)) < sL) (gd (r1 ≠ 0) ((f_X10_stop fu S I (r1 - 1) (sx (nx (x3 + (1 : Int32)))) (sx (nx (x3 + (2 : Int32))))).bind fun q32 => (gd (r2 ≠ 0) ((f_X11_stop fu S q32.2 (r2 - 1) (sx (nx (x3 + (1 : Int32)))) (sx (nx (x3 + (2 : Int32))))).bind fun q38 => (if q32.1 = q38.1 then jn_L_law_1754 fu S q38.2 sL sx self18 r1 r2 x3 else some (((0 : Int32), S, q38.2)))))))) else (if ((sx (nx x3)) &&& (63 : Int32)) = (1 : Int32) then gd (¬ (x3 + (1 : Int32)) < 0 ∧ nx (x3 + (1 : Int32)) < sL) (gd (¬ (x3 + (2 : Int32)) < 0 ∧ nx (x3 + (2 : Int32)) < sL) (gd (¬ (x3 + (3 : Int32)) < 0 ∧ nx (x3 + (3 : Int32)) < sL) (gd (¬ (x3 + (4 : Int32)) < 0 ∧ nx (x3 + (4 : Int32)) < sL) (gd (¬ (x3 + (5 : Int32)) < 0 ∧ nx (x3 + (5 : Int32)) < sL) (gd (¬ (x3 + (6 : Int32)) < 0 ∧ nx (x3 + (6 : Int32)) < sL) (gd (¬ (x3 + (7 : Int32)) < 0 ∧ nx (x3 + (7 : Int32)) < sL) (gd (¬ (x3 + (8 : Int32)) < 0 ∧ nx (x3 + (8 : Int32)) < sL) (gd (r1 ≠ 0) ((f_X10_line fu S I (r1 - 1) (sx (nx (x3 + (1 : Int32)))) (sx (nx (x3 + (2 : Int32)))) (sx (nx (x3 + (3 : Int32)))) (sx (nx (x3 + (4 : Int32)))) (sx (nx (x3 + (5 : Int32)))) (sx (nx (x3 + (6 : Int32)))) (sx (nx (x3 + (7 : Int32)))) (sx (nx (x3 + (8 : Int32))))).bind fun q52 => (gd (¬ (x3 + (1 : Int32)) < 0 ∧ nx (x3 + (1 : Int32)) < sL) (gd (¬ (x3 + (2 : Int32)) < 0 ∧ nx (x3 + (2 : Int32)) < sL) (gd (¬ (x3 + (3 : Int32)) < 0 ∧ nx (x3 + (3 : Int32)) < sL) (gd (¬ (x3 + (4 : Int32)) < 0 ∧ nx (x3 + (4 : Int32)) < sL) (gd (¬ (x3 + (5 : Int32)) < 0 ∧ nx (x3 + (5 : Int32)) < sL) (gd (¬ (x3 + (6 : Int32)) < 0 ∧ nx (x3 + (6 : Int32)) < sL) (gd (¬ (x3 + (7 : Int32)) < 0 ∧ nx (x3 + (7 : Int32)) < sL) (gd (¬ (x3 + (8 : Int32)) < 0 ∧ nx (x3 + (8 : Int32)) < sL) (gd (r2 ≠ 0) ((f_X11_line fu q52.2.1 q52.2.2 (r2 - 1) (sx (nx (x3 + (1 : Int32)))) (sx (nx (x3 + (2 : Int32)))) (sx (nx (x3 + (3 : Int32)))) (sx (nx (x3 + (4 : Int32)))) (sx (nx (x3 + (5 : Int32)))) (sx (nx (x3 + (6 : Int32)))) (sx (nx (x3 + (7 : Int32)))) (sx (nx (x3 + (8 : Int32))))).bind fun q68 => (if q52.1 = q68.1 then jn_L_law_1754 fu q52.2.1 q68.2 sL sx self18 r1 r2 x3 else some (((0 : Int32), q52.2.1, q68.2)))))))))))))))))))))) else (if ((sx (nx x3)) &&& (63 : Int32)) = (2 : Int32) then gd (¬ (x3 + (1 : Int32)) < 0 ∧ nx (x3 + (1 : Int32)) < sL) (gd (¬ (x3 + (2 : Int32)) < 0 ∧ nx (x3 + (2 : Int32)) < sL) (gd (¬ (x3 + (3 : Int32)) < 0 ∧ nx (x3 + (3 : Int32)) < sL) (gd (r1 ≠ 0) ((f_X10_days fu S I (r1 - 1) (sx (nx (x3 + (1 : Int32)))) (sx (nx (x3 + (2 : Int32)))) (sx (nx (x3 + (3 : Int32))))).bind fun q77 => (gd (r2 ≠ 0) ((f_X11_days fu S q77.2 (r2 - 1) (sx (nx (x3 + (1 : Int32)))) (sx (nx (x3 + (2 : Int32)))) (sx (nx (x3 + (3 : Int32))))).bind fun q84 => (if q77.1 = q84.1 then jn_L_law_1754 fu S q84.2 sL sx self18 r1 r2 x3 else some (((0 : Int32), S, q84.2))))))))) else (if ((sx (nx x3)) &&& (63 : Int32)) = (3 : Int32) then gd (¬ (x3 + (1 : Int32)) < 0 ∧ nx (x3 + (1 : Int32)) < sL) (gd (¬ (x3 + (2 : Int32)) < 0 ∧ nx (x3 + (2 : Int32)) < sL) (gd (r1 ≠ 0) ((f_X10_ofLine fu S I (r1 - 1) (sx (nx (x3 + (1 : Int32)))) (sx (nx (x3 + (2 : Int32))))).bind fun q92 => (gd (r2 ≠ 0) ((f_X11_ofLine fu S I (r2 - 1) (sx (nx (x3 + (1 : Int32)))) (sx (nx (x3 + (2 : Int32))))).bind fun q98 => (if q92 = q98 then jn_L_law_1754 fu S I sL sx self18 r1 r2 x3 else some (((0 : Int32), S, I)))))))) else (if ((sx (nx x3)) &&& (63 : Int32)) = (4 : Int32) then gd (¬ (x3 + (1 : Int32)) < 0 ∧ nx (x3 + (1 : Int32)) < sL) (gd (¬ (x3 + (2 : Int32)) < 0 ∧ nx (x3 + (2 : Int32)) < sL) (gd (r1 ≠ 0) ((f_X10_runs fu S I (r1 - 1) (sx (nx (x3 + (1 : Int32)))) (sx (nx (x3 + (2 : Int32))))).bind fun q106 => (gd (r2 ≠ 0) ((f_X11_runs fu S I (r2 - 1) (sx (nx (x3 + (1 : Int32)))) (sx (nx (x3 + (2 : Int32))))).bind fun q112 => (if q106 = q112 then jn_L_law_1754 fu S I sL sx self18 r1 r2 x3 else some (((0 : Int32), S, I)))))))) else (if ((sx (nx x3)) &&& (63 : Int32)) = (5 : Int32) then gd (¬ (x3 + (1 : Int32)) < 0 ∧ nx (x3 + (1 : Int32)) < sL) (gd (¬ (x3 + (2 : Int32)) < 0 ∧ nx (x3 + (2 : Int32)) < sL) (gd (¬ (x3 + (3 : Int32)) < 0 ∧ nx (x3 + (3 : Int32)) < sL) (gd (r1 ≠ 0) ((f_X10_minute fu S I (r1 - 1) (sx (nx (x3 + (1 : Int32)))) (sx (nx (x3 + (2 : Int32)))) (sx (nx (x3 + (3 : Int32))))).bind fun q121 => (gd (r2 ≠ 0) ((f_X11_minute fu S I (r2 - 1) (sx (nx (x3 + (1 : Int32)))) (sx (nx (x3 + (2 : Int32)))) (sx (nx (x3 + (3 : Int32))))).bind fun q128 => (if q121 = q128 then jn_L_law_1754 fu S I sL sx self18 r1 r2 x3 else some (((0 : Int32), S, I))))))))) else (if ((sx (nx x3)) &&& (63 : Int32)) = (6 : Int32) then gd (¬ (x3 + (1 : Int32)) < 0 ∧ nx (x3 + (1 : Int32)) < sL) (gd (¬ (x3 + (2 : Int32)) < 0 ∧ nx (x3 + (2 : Int32)) < sL) (gd (r1 ≠ 0) ((f_X10_far fu S I (r1 - 1) (sx (nx (x3 + (1 : Int32)))) (sx (nx (x3 + (2 : Int32))))).bind fun q136 => (gd (r2 ≠ 0) ((f_X11_far fu S I (r2 - 1) (sx (nx (x3 + (1 : Int32)))) (sx (nx (x3 + (2 : Int32))))).bind fun q142 => (if q136 = q142 then jn_L_law_1754 fu S I sL sx self18 r1 r2 x3 else some (((0 : Int32), S, I)))))))) else (if ((sx (nx x3)) &&& (63 : Int32)) = (7 : Int32) then gd (¬ (x3 + (1 : Int32)) < 0 ∧ nx (x3 + (1 : Int32)) < sL) (gd (¬ (x3 + (2 : Int32)) < 0 ∧ nx (x3 + (2 : Int32)) < sL) (gd (¬ (x3 + (3 : Int32)) < 0 ∧ nx (x3 + (3 : Int32)) < sL) (gd (¬ (x3 + (4 : Int32)) < 0 ∧ nx (x3 + (4 : Int32)) < sL) (gd (r1 ≠ 0) ((f_X10_text fu S I (r1 - 1) (sx (nx (x3 + (1 : Int32)))) (sx (nx (x3 + (2 : Int32)))) (sx (nx (x3 + (3 : Int32)))) (sx (nx (x3 + (4 : Int32))))).bind fun q152 => (gd (¬ (x3 + (1 : Int32)) < 0 ∧ nx (x3 + (1 : Int32)) < sL) (gd (¬ (x3 + (2 : Int32)) < 0 ∧ nx (x3 + (2 : Int32)) < sL) (gd (¬ (x3 + (3 : Int32)) < 0 ∧ nx (x3 + (3 : Int32)) < sL) (gd (¬ (x3 + (4 : Int32)) < 0 ∧ nx (x3 + (4 : Int32)) < sL) (gd (r2 ≠ 0) ((f_X11_text fu q152.2.1 q152.2.2 (r2 - 1) (sx (nx (x3 + (1 : Int32)))) (sx (nx (x3 + (2 : Int32)))) (sx (nx (x3 + (3 : Int32)))) (sx (nx (x3 + (4 : Int32))))).bind fun q164 => (if q152.1 = q164.1 then jn_L_law_1754 fu q152.2.1 q164.2 sL sx self18 r1 r2 x3 else some (((0 : Int32), q152.2.1, q164.2)))))))))))))) else (if ((sx (nx x3)) &&& (63 : Int32)) = (8 : Int32) then gd (¬ (x3 + (1 : Int32)) < 0 ∧ nx (x3 + (1 : Int32)) < sL) (gd (¬ (x3 + (2 : Int32)) < 0 ∧ nx (x3 + (2 : Int32)) < sL) (gd (r1 ≠ 0) ((f_X10_owed fu S I (r1 - 1) (sx (nx (x3 + (1 : Int32)))) (sx (nx (x3 + (2 : Int32))))).bind fun q172 => (gd (r2 ≠ 0) ((f_X11_owed fu S I (r2 - 1) (sx (nx (x3 + (1 : Int32)))) (sx (nx (x3 + (2 : Int32))))).bind fun q178 => (if q172 = q178 then jn_L_law_1754 fu S I sL sx self18 r1 r2 x3 else some (((0 : Int32), S, I)))))))) else (if ((sx (nx x3)) &&& (63 : Int32)) = (9 : Int32) then gd (¬ (x3 + (1 : Int32)) < 0 ∧ nx (x3 + (1 : Int32)) < sL) (gd (¬ (x3 + (2 : Int32)) < 0 ∧ nx (x3 + (2 : Int32)) < sL) (gd (r1 ≠ 0) ((f_X10_why fu S I (r1 - 1) (sx (nx (x3 + (1 : Int32)))) (sx (nx (x3 + (2 : Int32))))).bind fun q186 => (gd (r2 ≠ 0) ((f_X11_why fu S I (r2 - 1) (sx (nx (x3 + (1 : Int32)))) (sx (nx (x3 + (2 : Int32))))).bind fun q192 => (if q186 = q192 then jn_L_law_1754 fu S I sL sx self18 r1 r2 x3 else some (((0 : Int32), S, I)))))))) else (if ((sx (nx x3)) &&& (63 : Int32)) = (10 : Int32) then gd (¬ (x3 + (1 : Int32)) < 0 ∧ nx (x3 + (1 : Int32)) < sL) (gd (¬ (x3 + (2 : Int32)) < 0 ∧ nx (x3 + (2 : Int32)) < sL) (gd (r1 ≠ 0) ((f_X10_served fu S I (r1 - 1) (sx (nx (x3 + (1 : Int32)))) (sx (nx (x3 + (2 : Int32))))).bind fun q200 => (gd (r2 ≠ 0) ((f_X11_served fu S I (r2 - 1) (sx (nx (x3 + (1 : Int32)))) (sx (nx (x3 + (2 : Int32))))).bind fun q206 => (if q200 = q206 then jn_L_law_1754 fu S I sL sx self18 r1 r2 x3 else some (((0 : Int32), S, I)))))))) else (if ((sx (nx x3)) &&& (63 : Int32)) = (11 : Int32) then gd (¬ (x3 + (1 : Int32)) < 0 ∧ nx (x3 + (1 : Int32)) < sL) (gd (r1 ≠ 0) ((f_X10_breach fu S I (r1 - 1) (sx (nx (x3 + (1 : Int32))))).bind fun q213 => (gd (r2 ≠ 0) ((f_X11_breach fu S I (r2 - 1) (sx (nx (x3 + (1 : Int32))))).bind fun q218 => (if q213 = q218 then jn_L_law_1754 fu S I sL sx self18 r1 r2 x3 else some (((0 : Int32), S, I))))))) else (if ((sx (nx x3)) &&& (63 : Int32)) = (12 : Int32) then gd (¬ (x3 + (1 : Int32)) < 0 ∧ nx (x3 + (1 : Int32)) < sL) (gd (¬ (x3 + (2 : Int32)) < 0 ∧ nx (x3 + (2 : Int32)) < sL) (gd (¬ (x3 + (3 : Int32)) < 0 ∧ nx (x3 + (3 : Int32)) < sL) (gd (¬ (x3 + (4 : Int32)) < 0 ∧ nx (x3 + (4 : Int32)) < sL) (gd (¬ (x3 + (5 : Int32)) < 0 ∧ nx (x3 + (5 : Int32)) < sL) (gd (r1 ≠ 0) ((f_X10_trip fu S I (r1 - 1) (sx (nx (x3 + (1 : Int32)))) (sx (nx (x3 + (2 : Int32)))) (sx (nx (x3 + (3 : Int32)))) (sx (nx (x3 + (4 : Int32)))) (sx (nx (x3 + (5 : Int32))))).bind fun q229 => (gd (¬ (x3 + (1 : Int32)) < 0 ∧ nx (x3 + (1 : Int32)) < sL) (gd (¬ (x3 + (2 : Int32)) < 0 ∧ nx (x3 + (2 : Int32)) < sL) (gd (¬ (x3 + (3 : Int32)) < 0 ∧ nx (x3 + (3 : Int32)) < sL) (gd (¬ (x3 + (4 : Int32)) < 0 ∧ nx (x3 + (4 : Int32)) < sL) (gd (¬ (x3 + (5 : Int32)) < 0 ∧ nx (x3 + (5 : Int32)) < sL) (gd (r2 ≠ 0) ((f_X11_trip fu q229.2.1 q229.2.2 (r2 - 1) (sx (nx (x3 + (1 : Int32)))) (sx (nx (x3 + (2 : Int32)))) (sx (nx (x3 + (3 : Int32)))) (sx (nx (x3 + (4 : Int32)))) (sx (nx (x3 + (5 : Int32))))).bind fun q242 => (if q229.1 = q242.1 then jn_L_law_1754 fu q229.2.1 q242.2 sL sx self18 r1 r2 x3 else some (((0 : Int32), q229.2.1, q242.2)))))))))))))))) else (if ((sx (nx x3)) &&& (63 : Int32)) = (13 : Int32) then gd (¬ (x3 + (1 : Int32)) < 0 ∧ nx (x3 + (1 : Int32)) < sL) (gd (¬ (x3 + (2 : Int32)) < 0 ∧ nx (x3 + (2 : Int32)) < sL) (gd (¬ (x3 + (3 : Int32)) < 0 ∧ nx (x3 + (3 : Int32)) < sL) (gd (r1 ≠ 0) ((f_X10_way fu S I (r1 - 1) (sx (nx (x3 + (1 : Int32)))) (sx (nx (x3 + (2 : Int32)))) (sx (nx (x3 + (3 : Int32))))).bind fun q251 => (gd (r2 ≠ 0) ((f_X11_way fu S q251.2 (r2 - 1) (sx (nx (x3 + (1 : Int32)))) (sx (nx (x3 + (2 : Int32)))) (sx (nx (x3 + (3 : Int32))))).bind fun q258 => (if q251.1 = q258.1 then jn_L_law_1754 fu S q258.2 sL sx self18 r1 r2 x3 else some (((0 : Int32), S, q258.2))))))))) else (if ((sx (nx x3)) &&& (63 : Int32)) = (14 : Int32) then gd (¬ (x3 + (1 : Int32)) < 0 ∧ nx (x3 + (1 : Int32)) < sL) (gd (¬ (x3 + (2 : Int32)) < 0 ∧ nx (x3 + (2 : Int32)) < sL) (gd (¬ (x3 + (3 : Int32)) < 0 ∧ nx (x3 + (3 : Int32)) < sL) (gd (r1 ≠ 0) ((f_X10_lose fu S I (r1 - 1) (sx (nx (x3 + (1 : Int32)))) (sx (nx (x3 + (2 : Int32)))) (sx (nx (x3 + (3 : Int32))))).bind fun q267 => (gd (r2 ≠ 0) ((f_X11_lose fu S q267.2 (r2 - 1) (sx (nx (x3 + (1 : Int32)))) (sx (nx (x3 + (2 : Int32)))) (sx (nx (x3 + (3 : Int32))))).bind fun q274 => (if q267.1 = q274.1 then jn_L_law_1754 fu S q274.2 sL sx self18 r1 r2 x3 else some (((0 : Int32), S, q274.2))))))))) else (if ((sx (nx x3)) &&& (63 : Int32)) = (15 : Int32) then gd (¬ (x3 + (1 : Int32)) < 0 ∧ nx (x3 + (1 : Int32)) < sL) (gd (¬ (x3 + (2 : Int32)) < 0 ∧ nx (x3 + (2 : Int32)) < sL) (gd (¬ (x3 + (3 : Int32)) < 0 ∧ nx (x3 + (3 : Int32)) < sL) (gd (r1 ≠ 0) ((f_X10_who fu S I (r1 - 1) (sx (nx (x3 + (1 : Int32)))) (sx (nx (x3 + (2 : Int32)))) (sx (nx (x3 + (3 : Int32))))).bind fun q283 => (gd (r2 ≠ 0) ((f_X11_who fu S q283.2 (r2 - 1) (sx (nx (x3 + (1 : Int32)))) (sx (nx (x3 + (2 : Int32)))) (sx (nx (x3 + (3 : Int32))))).bind fun q290 => (if q283.1 = q290.1 then jn_L_law_1754 fu S q290.2 sL sx self18 r1 r2 x3 else some (((0 : Int32), S, q290.2))))))))) else (if ((sx (nx x3)) &&& (63 : Int32)) = (16 : Int32) then gd (¬ (x3 + (1 : Int32)) < 0 ∧ nx (x3 + (1 : Int32)) < sL) (gd (r1 ≠ 0) ((f_X10_offer fu S I (r1 - 1) (sx (nx (x3 + (1 : Int32))))).bind fun q297 => (gd (¬ (x3 + (1 : Int32)) < 0 ∧ nx (x3 + (1 : Int32)) < sL) (gd (r2 ≠ 0) ((f_X11_offer fu q297.2.1 q297.2.2 (r2 - 1) (sx (nx (x3 + (1 : Int32))))).bind fun q306 => (if q297.1 = q306.1 then jn_L_law_1754 fu q297.2.1 q306.2 sL sx self18 r1 r2 x3 else some (((0 : Int32), q297.2.1, q306.2)))))))) else (if ((sx (nx x3)) &&& (63 : Int32)) = (17 : Int32) then gd (¬ (x3 + (1 : Int32)) < 0 ∧ nx (x3 + (1 : Int32)) < sL) (gd (¬ (x3 + (2 : Int32)) < 0 ∧ nx (x3 + (2 : Int32)) < sL) (gd (¬ (x3 + (3 : Int32)) < 0 ∧ nx (x3 + (3 : Int32)) < sL) (gd (r1 ≠ 0) ((f_X10_best fu S I (r1 - 1) (sx (nx (x3 + (1 : Int32)))) (sx (nx (x3 + (2 : Int32)))) (sx (nx (x3 + (3 : Int32))))).bind fun q315 => (gd (¬ (x3 + (1 : Int32)) < 0 ∧ nx (x3 + (1 : Int32)) < sL) (gd (¬ (x3 + (2 : Int32)) < 0 ∧ nx (x3 + (2 : Int32)) < sL) (gd (¬ (x3 + (3 : Int32)) < 0 ∧ nx (x3 + (3 : Int32)) < sL) (gd (r2 ≠ 0) ((f_X11_best fu q315.2.1 q315.2.2 (r2 - 1) (sx (nx (x3 + (1 : Int32)))) (sx (nx (x3 + (2 : Int32)))) (sx (nx (x3 + (3 : Int32))))).bind fun q326 => (if q315.1 = q326.1 then jn_L_law_1754 fu q315.2.1 q326.2 sL sx self18 r1 r2 x3 else some (((0 : Int32), q315.2.1, q326.2)))))))))))) else (if ((sx (nx x3)) &&& (63 : Int32)) = (18 : Int32) then gd (¬ (x3 + (1 : Int32)) < 0 ∧ nx (x3 + (1 : Int32)) < sL) (gd (¬ (x3 + (2 : Int32)) < 0 ∧ nx (x3 + (2 : Int32)) < sL) (gd (¬ (x3 + (3 : Int32)) < 0 ∧ nx (x3 + (3 : Int32)) < sL) (gd (r1 ≠ 0) ((f_X10_depot fu S I (r1 - 1) (sx (nx (x3 + (1 : Int32)))) (sx (nx (x3 + (2 : Int32)))) (sx (nx (x3 + (3 : Int32))))).bind fun q335 => (gd (¬ (x3 + (1 : Int32)) < 0 ∧ nx (x3 + (1 : Int32)) < sL) (gd (¬ (x3 + (2 : Int32)) < 0 ∧ nx (x3 + (2 : Int32)) < sL) (gd (¬ (x3 + (3 : Int32)) < 0 ∧ nx (x3 + (3 : Int32)) < sL) (gd (r2 ≠ 0) ((f_X11_depot fu q335.2.1 q335.2.2 (r2 - 1) (sx (nx (x3 + (1 : Int32)))) (sx (nx (x3 + (2 : Int32)))) (sx (nx (x3 + (3 : Int32))))).bind fun q346 => (if q335.1 = q346.1 then jn_L_law_1754 fu q335.2.1 q346.2 sL sx self18 r1 r2 x3 else some (((0 : Int32), q335.2.1, q346.2)))))))))))) else (if ((sx (nx x3)) &&& (63 : Int32)) = (19 : Int32) then gd (¬ (x3 + (1 : Int32)) < 0 ∧ nx (x3 + (1 : Int32)) < sL) (gd (¬ (x3 + (2 : Int32)) < 0 ∧ nx (x3 + (2 : Int32)) < sL) (gd (r1 ≠ 0) ((f_X10_empty fu S I (r1 - 1) (sx (nx (x3 + (1 : Int32)))) (sx (nx (x3 + (2 : Int32))))).bind fun q354 => (gd (r2 ≠ 0) ((f_X11_empty fu S I (r2 - 1) (sx (nx (x3 + (1 : Int32)))) (sx (nx (x3 + (2 : Int32))))).bind fun q360 => (if q354 = q360 then jn_L_law_1754 fu S I sL sx self18 r1 r2 x3 else some (((0 : Int32), S, I)))))))) else (if ((sx (nx x3)) &&& (63 : Int32)) = (20 : Int32) then gd (¬ (x3 + (1 : Int32)) < 0 ∧ nx (x3 + (1 : Int32)) < sL) (gd (¬ (x3 + (2 : Int32)) < 0 ∧ nx (x3 + (2 : Int32)) < sL) (gd (r1 ≠ 0) ((f_X10_fit fu S I (r1 - 1) (sx (nx (x3 + (1 : Int32)))) (sx (nx (x3 + (2 : Int32))))).bind fun q368 => (gd (r2 ≠ 0) ((f_X11_fit fu S q368.2 (r2 - 1) (sx (nx (x3 + (1 : Int32)))) (sx (nx (x3 + (2 : Int32))))).bind fun q374 => (if q368.1 = q374.1 then jn_L_law_1754 fu S q374.2 sL sx self18 r1 r2 x3 else some (((0 : Int32), S, q374.2)))))))) else (if ((sx (nx x3)) &&& (63 : Int32)) = (21 : Int32) then gd (r1 ≠ 0) ((f_X10_driver fu S I (r1 - 1)).bind fun q380 => (gd (r2 ≠ 0) ((f_X11_driver fu S q380.2 (r2 - 1)).bind fun q384 => (if q380.1 = q384.1 then jn_L_law_1754 fu S q384.2 sL sx self18 r1 r2 x3 else some (((0 : Int32), S, q384.2)))))) else (if ((sx (nx x3)) &&& (63 : Int32)) = (22 : Int32) then gd (¬ (x3 + (1 : Int32)) < 0 ∧ nx (x3 + (1 : Int32)) < sL) (gd (¬ (x3 + (2 : Int32)) < 0 ∧ nx (x3 + (2 : Int32)) < sL) (gd (¬ (x3 + (3 : Int32)) < 0 ∧ nx (x3 + (3 : Int32)) < sL) (if (sx (nx (x3 + (3 : Int32)))) = 0 then jn_L_law_1108 fu S I sL sx self18 r1 r2 x3 r1 (sx (nx (x3 + (1 : Int32)))) (sx (nx (x3 + (2 : Int32)))) (0 : Int32) else jn_L_law_1108 fu S I sL sx self18 r1 r2 x3 r1 (sx (nx (x3 + (1 : Int32)))) (sx (nx (x3 + (2 : Int32)))) (1 : Int32)))) else (if ((sx (nx x3)) &&& (63 : Int32)) = (23 : Int32) then gd (¬ (x3 + (1 : Int32)) < 0 ∧ nx (x3 + (1 : Int32)) < sL) (gd (¬ (x3 + (2 : Int32)) < 0 ∧ nx (x3 + (2 : Int32)) < sL) (gd (r1 ≠ 0) ((f_X10_roster fu S I (r1 - 1) (sx (nx (x3 + (1 : Int32)))) (sx (nx (x3 + (2 : Int32))))).bind fun q397 => (gd (r2 ≠ 0) ((f_X11_roster fu S q397.2 (r2 - 1) (sx (nx (x3 + (1 : Int32)))) (sx (nx (x3 + (2 : Int32))))).bind fun q403 => (if q397.1 = q403.1 then jn_L_law_1754 fu S q403.2 sL sx self18 r1 r2 x3 else some (((0 : Int32), S, q403.2)))))))) else (if ((sx (nx x3)) &&& (63 : Int32)) = (24 : Int32) then gd (¬ (x3 + (1 : Int32)) < 0 ∧ nx (x3 + (1 : Int32)) < sL) (gd (¬ (x3 + (2 : Int32)) < 0 ∧ nx (x3 + (2 : Int32)) < sL) (if (sx (nx (x3 + (2 : Int32)))) = 0 then jn_L_law_1195 fu S I sL sx self18 r1 r2 x3 r1 (sx (nx (x3 + (1 : Int32)))) (0 : Int32) else jn_L_law_1195 fu S I sL sx self18 r1 r2 x3 r1 (sx (nx (x3 + (1 : Int32)))) (1 : Int32))) else (if ((sx (nx x3)) &&& (63 : Int32)) = (25 : Int32) then gd (¬ (x3 + (1 : Int32)) < 0 ∧ nx (x3 + (1 : Int32)) < sL) (gd (¬ (x3 + (2 : Int32)) < 0 ∧ nx (x3 + (2 : Int32)) < sL) (gd (¬ (x3 + (3 : Int32)) < 0 ∧ nx (x3 + (3 : Int32)) < sL) (gd (¬ (x3 + (4 : Int32)) < 0 ∧ nx (x3 + (4 : Int32)) < sL) (gd (r1 ≠ 0) ((f_X10_night fu S I (r1 - 1) (sx (nx (x3 + (1 : Int32)))) (sx (nx (x3 + (2 : Int32)))) (sx (nx (x3 + (3 : Int32)))) (sx (nx (x3 + (4 : Int32))))).bind fun q417 => (gd (r2 ≠ 0) ((f_X11_night fu S q417.2 (r2 - 1) (sx (nx (x3 + (1 : Int32)))) (sx (nx (x3 + (2 : Int32)))) (sx (nx (x3 + (3 : Int32)))) (sx (nx (x3 + (4 : Int32))))).bind fun q425 => (if q417.1 = q425.1 then jn_L_law_1754 fu S q425.2 sL sx self18 r1 r2 x3 else some (((0 : Int32), S, q425.2)))))))))) else (if ((sx (nx x3)) &&& (63 : Int32)) = (26 : Int32) then gd (¬ (x3 + (1 : Int32)) < 0 ∧ nx (x3 + (1 : Int32)) < sL) (gd (¬ (x3 + (2 : Int32)) < 0 ∧ nx (x3 + (2 : Int32)) < sL) (gd (¬ (x3 + (3 : Int32)) < 0 ∧ nx (x3 + (3 : Int32)) < sL) (gd (r1 ≠ 0) ((f_X10_waiting fu S I (r1 - 1) (sx (nx (x3 + (1 : Int32)))) (sx (nx (x3 + (2 : Int32)))) (sx (nx (x3 + (3 : Int32))))).bind fun q434 => (gd (r2 ≠ 0) ((f_X11_waiting fu S q434.2 (r2 - 1) (sx (nx (x3 + (1 : Int32)))) (sx (nx (x3 + (2 : Int32)))) (sx (nx (x3 + (3 : Int32))))).bind fun q441 => (if q434.1 = q441.1 then jn_L_law_1754 fu S q441.2 sL sx self18 r1 r2 x3 else some (((0 : Int32), S, q441.2))))))))) else (if ((sx (nx x3)) &&& (63 : Int32)) = (27 : Int32) then gd (¬ (x3 + (1 : Int32)) < 0 ∧ nx (x3 + (1 : Int32)) < sL) (gd (r1 ≠ 0) ((f_X10_seats fu S I (r1 - 1) (sx (nx (x3 + (1 : Int32))))).bind fun q448 => (gd (r2 ≠ 0) ((f_X11_seats fu S q448.2 (r2 - 1) (sx (nx (x3 + (1 : Int32))))).bind fun q453 => (if q448.1 = q453.1 then jn_L_law_1754 fu S q453.2 sL sx self18 r1 r2 x3 else some (((0 : Int32), S, q453.2))))))) else (if ((sx (nx x3)) &&& (63 : Int32)) = (28 : Int32) then gd (¬ (x3 + (1 : Int32)) < 0 ∧ nx (x3 + (1 : Int32)) < sL) (gd (¬ (x3 + (2 : Int32)) < 0 ∧ nx (x3 + (2 : Int32)) < sL) (gd (¬ (x3 + (3 : Int32)) < 0 ∧ nx (x3 + (3 : Int32)) < sL) (gd (r1 ≠ 0) ((f_X10_standing fu S I (r1 - 1) (sx (nx (x3 + (1 : Int32)))) (sx (nx (x3 + (2 : Int32)))) (sx (nx (x3 + (3 : Int32))))).bind fun q462 => (gd (r2 ≠ 0) ((f_X11_standing fu S I (r2 - 1) (sx (nx (x3 + (1 : Int32)))) (sx (nx (x3 + (2 : Int32)))) (sx (nx (x3 + (3 : Int32))))).bind fun q469 => (if q462 = q469 then jn_L_law_1754 fu S I sL sx self18 r1 r2 x3 else some (((0 : Int32), S, I))))))))) else (if ((sx (nx x3)) &&& (63 : Int32)) = (29 : Int32) then gd (¬ (x3 + (1 : Int32)) < 0 ∧ nx (x3 + (1 : Int32)) < sL) (gd (r1 ≠ 0) ((f_X10_extra fu S I (r1 - 1) (sx (nx (x3 + (1 : Int32))))).bind fun q476 => (gd (r2 ≠ 0) ((f_X11_extra fu S I (r2 - 1) (sx (nx (x3 + (1 : Int32))))).bind fun q481 => (if q476 = q481 then jn_L_law_1754 fu S I sL sx self18 r1 r2 x3 else some (((0 : Int32), S, I))))))) else (if ((sx (nx x3)) &&& (63 : Int32)) = (30 : Int32) then gd (¬ (x3 + (1 : Int32)) < 0 ∧ nx (x3 + (1 : Int32)) < sL) (gd (¬ (x3 + (2 : Int32)) < 0 ∧ nx (x3 + (2 : Int32)) < sL) (gd (¬ (x3 + (3 : Int32)) < 0 ∧ nx (x3 + (3 : Int32)) < sL) (gd (r1 ≠ 0) ((f_X10_sheet fu S I (r1 - 1) (sx (nx (x3 + (1 : Int32)))) (sx (nx (x3 + (2 : Int32)))) (sx (nx (x3 + (3 : Int32))))).bind fun q490 => (gd (r2 ≠ 0) ((f_X11_sheet fu S q490.2 (r2 - 1) (sx (nx (x3 + (1 : Int32)))) (sx (nx (x3 + (2 : Int32)))) (sx (nx (x3 + (3 : Int32))))).bind fun q497 => (if q490.1 = q497.1 then jn_L_law_1754 fu S q497.2 sL sx self18 r1 r2 x3 else some (((0 : Int32), S, q497.2))))))))) else (if ((sx (nx x3)) &&& (63 : Int32)) = (31 : Int32) then gd (¬ (x3 + (1 : Int32)) < 0 ∧ nx (x3 + (1 : Int32)) < sL) (gd (r1 ≠ 0) ((f_X10_drop fu S I (r1 - 1) (sx (nx (x3 + (1 : Int32))))).bind fun q504 => (gd (r2 ≠ 0) ((f_X11_drop fu S q504.2 (r2 - 1) (sx (nx (x3 + (1 : Int32))))).bind fun q509 => (if q504.1 = q509.1 then jn_L_law_1754 fu S q509.2 sL sx self18 r1 r2 x3 else some (((0 : Int32), S, q509.2))))))) else (if ((sx (nx x3)) &&& (63 : Int32)) = (32 : Int32) then gd (¬ (x3 + (1 : Int32)) < 0 ∧ nx (x3 + (1 : Int32)) < sL) (gd (¬ (x3 + (2 : Int32)) < 0 ∧ nx (x3 + (2 : Int32)) < sL) (gd (¬ (x3 + (3 : Int32)) < 0 ∧ nx (x3 + (3 : Int32)) < sL) (gd (r1 ≠ 0) ((f_X10_put fu S I (r1 - 1) (sx (nx (x3 + (1 : Int32)))) (sx (nx (x3 + (2 : Int32)))) (sx (nx (x3 + (3 : Int32))))).bind fun q518 => (gd (r2 ≠ 0) ((f_X11_put fu S q518.2 (r2 - 1) (sx (nx (x3 + (1 : Int32)))) (sx (nx (x3 + (2 : Int32)))) (sx (nx (x3 + (3 : Int32))))).bind fun q525 => (if q518.1 = q525.1 then jn_L_law_1754 fu S q525.2 sL sx self18 r1 r2 x3 else some (((0 : Int32), S, q525.2))))))))) else (if ((sx (nx x3)) &&& (63 : Int32)) = (33 : Int32) then gd (¬ (x3 + (1 : Int32)) < 0 ∧ nx (x3 + (1 : Int32)) < sL) (gd (¬ (x3 + (2 : Int32)) < 0 ∧ nx (x3 + (2 : Int32)) < sL) (gd (¬ (x3 + (3 : Int32)) < 0 ∧ nx (x3 + (3 : Int32)) < sL) (gd (r1 ≠ 0) ((f_X10_cell fu S I (r1 - 1) (sx (nx (x3 + (1 : Int32)))) (sx (nx (x3 + (2 : Int32)))) (sx (nx (x3 + (3 : Int32))))).bind fun q534 => (gd (r2 ≠ 0) ((f_X11_cell fu S q534.2 (r2 - 1) (sx (nx (x3 + (1 : Int32)))) (sx (nx (x3 + (2 : Int32)))) (sx (nx (x3 + (3 : Int32))))).bind fun q541 => (if (lg_cmp q534.1 q541.1) = 0 then jn_L_law_1754 fu S q541.2 sL sx self18 r1 r2 x3 else some (((0 : Int32), S, q541.2))))))))) else (if ((sx (nx x3)) &&& (63 : Int32)) = (34 : Int32) then gd (¬ (x3 + (1 : Int32)) < 0 ∧ nx (x3 + (1 : Int32)) < sL) (gd (¬ (x3 + (2 : Int32)) < 0 ∧ nx (x3 + (2 : Int32)) < sL) (gd (¬ (x3 + (3 : Int32)) < 0 ∧ nx (x3 + (3 : Int32)) < sL) (gd (¬ (x3 + (4 : Int32)) < 0 ∧ nx (x3 + (4 : Int32)) < sL) (gd (¬ (x3 + (5 : Int32)) < 0 ∧ nx (x3 + (5 : Int32)) < sL) (gd (r1 ≠ 0) ((f_X10_copy fu S I (r1 - 1) (sx (nx (x3 + (1 : Int32)))) (sx (nx (x3 + (2 : Int32)))) (sx (nx (x3 + (3 : Int32)))) (sx (nx (x3 + (4 : Int32)))) (sx (nx (x3 + (5 : Int32))))).bind fun q552 => (gd (r2 ≠ 0) ((f_X11_copy fu S q552.2 (r2 - 1) (sx (nx (x3 + (1 : Int32)))) (sx (nx (x3 + (2 : Int32)))) (sx (nx (x3 + (3 : Int32)))) (sx (nx (x3 + (4 : Int32)))) (sx (nx (x3 + (5 : Int32))))).bind fun q561 => (if q552.1 = q561.1 then jn_L_law_1754 fu S q561.2 sL sx self18 r1 r2 x3 else some (((0 : Int32), S, q561.2))))))))))) else (if ((sx (nx x3)) &&& (63 : Int32)) = (35 : Int32) then gd (¬ (x3 + (1 : Int32)) < 0 ∧ nx (x3 + (1 : Int32)) < sL) (gd (r1 ≠ 0) ((f_X10_tell fu S I (r1 - 1) (sx (nx (x3 + (1 : Int32))))).bind fun q568 => (gd (r2 ≠ 0) ((f_X11_tell fu S q568.2 (r2 - 1) (sx (nx (x3 + (1 : Int32))))).bind fun q573 => (if q568.1 = q573.1 then jn_L_law_1754 fu S q573.2 sL sx self18 r1 r2 x3 else some (((0 : Int32), S, q573.2))))))) else (if ((sx (nx x3)) &&& (63 : Int32)) = (36 : Int32) then gd (¬ (x3 + (1 : Int32)) < 0 ∧ nx (x3 + (1 : Int32)) < sL) (gd (r1 ≠ 0) ((f_X10_hail fu S I (r1 - 1) (sx (nx (x3 + (1 : Int32))))).bind fun q580 => (gd (r2 ≠ 0) ((f_X11_hail fu S q580.2 (r2 - 1) (sx (nx (x3 + (1 : Int32))))).bind fun q585 => (if q580.1 = q585.1 then jn_L_law_1754 fu S q585.2 sL sx self18 r1 r2 x3 else some (((0 : Int32), S, q585.2))))))) else (if ((sx (nx x3)) &&& (63 : Int32)) = (37 : Int32) then gd (¬ (x3 + (1 : Int32)) < 0 ∧ nx (x3 + (1 : Int32)) < sL) (gd (¬ (x3 + (2 : Int32)) < 0 ∧ nx (x3 + (2 : Int32)) < sL) (gd (r1 ≠ 0) ((f_X10_as fu S I (r1 - 1) (sx (nx (x3 + (1 : Int32)))) (sx (nx (x3 + (2 : Int32))))).bind fun q593 => (gd (r2 ≠ 0) ((f_X11_as fu S q593.2 (r2 - 1) (sx (nx (x3 + (1 : Int32)))) (sx (nx (x3 + (2 : Int32))))).bind fun q599 => (if q593.1 = q599.1 then jn_L_law_1754 fu S q599.2 sL sx self18 r1 r2 x3 else some (((0 : Int32), S, q599.2)))))))) else (if ((sx (nx x3)) &&& (63 : Int32)) = (38 : Int32) then gd (r1 ≠ 0) (gd (r2 ≠ 0) (if (t_X10_trace I (r1 - 1)) = (t_X11_trace I (r2 - 1)) then jn_L_law_1754 fu S I sL sx self18 r1 r2 x3 else some (((0 : Int32), S, I)))) else (if ((sx (nx x3)) &&& (63 : Int32)) = (39 : Int32) then gd (r1 ≠ 0) (gd (r2 ≠ 0) (if (t_X10_fault I (r1 - 1)) = (t_X11_fault I (r2 - 1)) then jn_L_law_1754 fu S I sL sx self18 r1 r2 x3 else some (((0 : Int32), S, I)))) else (if ((sx (nx x3)) &&& (63 : Int32)) = (40 : Int32) then gd (¬ (x3 + (1 : Int32)) < 0 ∧ nx (x3 + (1 : Int32)) < sL) (gd (r1 ≠ 0) ((f_X10_many fu S I (r1 - 1) (sx (nx (x3 + (1 : Int32))))).bind fun q618 => (gd (r2 ≠ 0) ((f_X11_many fu S I (r2 - 1) (sx (nx (x3 + (1 : Int32))))).bind fun q623 => (if q618 = q623 then jn_L_law_1754 fu S I sL sx self18 r1 r2 x3 else some (((0 : Int32), S, I))))))) else jn_L_law_1754 fu S I sL sx self18 r1 r2 x3)))))))))))))))))))))))))))))))))))))))))
def f_L_law (fu : Nat) (S : Sk) (I : II) (sL : Nat) (sx : Nat → Int32) : Option (Int32 × Sk × II) :=
  lt (nwS S 10 0) fun S627 => (lt (nwI S I) fun I628 => ((f_X10_init fu S627 I628 S.2.2.2).bind fun q632 => (lt (nwS q632.1 11 0) fun S638 => (lt (nwI q632.1 q632.2) fun I639 => ((f_X11_init fu S638 I639 q632.1.2.2.2).bind fun q644 => (fix3 (lp_L_law_18 fu sL sx (S.2.2.2 + 1) (q632.1.2.2.2 + 1)) 513 (0 : Int32) q644.1 q644.2))))))
set_option maxRecDepth 100000 in
set_option maxHeartbeats 40000000 in
theorem gg_L_law {E : EV} (fu : Nat) (S0 : Sk) (I0 : II) : GG E i_L_law (enL E) S0 I0 (0, 0) 0 [(0, vS false)] [] (f_L_law fu S0 I0 E.2.2.2.2.2.1.2.1 E.2.2.2.2.2.1.2.2) := by
  have hl18 : ∀ (r1 : Nat) (r2 : Nat) (nn : Nat) (c s : Nat) (hc : c + nn * 19 ≤ 9847) (hs : s + nn * 95 ≤ 61231) (x3 : Int32) (S : Sk) (I : II), tyR S 10 r1 ∧ tyR S 11 r2 ∧ Sx S0 S → GG E i_L_law (enL E) S I (c, s) 18 [(0, vS false), (1, vA r1), (2, vA r2), (3, vI x3)] [] (fix3 (lp_L_law_18 fu E.2.2.2.2.2.1.2.1 E.2.2.2.2.2.1.2.2 r1 r2) nn x3 S I) := by
    intro r1 r2 
    refine g_fix3A (qc := 19) (qs := 95) (CT := 9847) (CS := 61231) (fun x3 S I => S) (fun x3 S I => I) (fun x3 S I => [(0, vS false), (1, vA r1), (2, vA r2), (3, vI x3)]) (fun x3 S I => tyR S 10 r1 ∧ tyR S 11 r2 ∧ Sx S0 S) ?_
    intro nn self18 hself18 c s hc hs x3 S I hinv
    obtain ⟨h_r1, h_r2, hsx⟩ := hinv
    have hj1754 : ∀ (S : Sk) (I : II) (x3 : Int32) (h_r1 : tyR S 10 r1) (h_r2 : tyR S 11 r2) (hsx : Sx S0 S), GG E i_L_law (enL E) S I (c + 19, s + 95) 1754 [(0, vS false), (1, vA r1), (2, vA r2), (3, vI x3)] [] (jn_L_law_1754 fu S I E.2.2.2.2.2.1.2.1 E.2.2.2.2.2.1.2.2 self18 r1 r2 x3) := by
      intro S I x3 h_r1 h_r2 hsx
      unfold jn_L_law_1754
      refine g_iinc (v := (9 : Int32)) (L' := [(0, vS false), (1, vA r1), (2, vA r2), (3, vI (x3 + (9 : Int32)))]) (dk D_L_law_25 46 rfl) rfl rfl (Nat.le_of_ble_eq_true rfl) rfl ?_
      refine g_goto (tgt := 18) (dk D_L_law_25 47 rfl) rfl ?_
      exact hself18 (c + 19) (s + 95) (by omega) (by omega) (x3 + (9 : Int32)) S I ⟨h_r1, h_r2, hsx⟩
    have hj1135 : ∀ (S : Sk) (I : II) (x3 : Int32) (s0 : Int32) (q1 : Nat) (s2 : Int32) (s3 : Int32) (s4 : Int32) (h_r1 : tyR S 10 r1) (h_r2 : tyR S 11 r2) (h_q1 : tyR S 11 q1) (hsx : Sx S0 S), GG E i_L_law (enL E) S I (c, s) 1135 [(0, vS false), (1, vA r1), (2, vA r2), (3, vI x3)] [vI s4, vI s3, vI s2, vA q1, vI s0] (jn_L_law_1135 fu S I E.2.2.2.2.2.1.2.1 E.2.2.2.2.2.1.2.2 self18 r1 r2 x3 s0 q1 s2 s3 s4) := by
      intro S I x3 s0 q1 s2 s3 s4 h_r1 h_r2 h_q1 hsx
      unfold jn_L_law_1135
      refine g_gd (fun hn1 => ?_)
      refine g_bind (fun q2 hq3 => ?_)
      refine h_callV (st := [vI s0]) (c_X11_know (E := E) fu S I (q1 - 1) s2 s3 s4 q2 hq3 (h_q1.nz hn1)) cl_RL_112 h_q1 hn1 rfl rfl ⟨⟨by decide, by decide⟩, ⟨rfl, rfl⟩, by show c ≤ 600000; omega, by show s ≤ 7302250; omega⟩ (Nat.le_of_ble_eq_true rfl) (dk D_L_law_15 47 rfl) ?_
      refine g_icmp_eq (tgt := 1754) (dk D_L_law_15 48 rfl) rfl (fun hc5 => ?_) (fun hc5 => ?_)
      · refine g_wide (cs' := (c + 19, s + 95)) (by show c ≤ c + 19; omega) (by show s ≤ s + 95; omega) ?_
        exact hj1754 S q2.2 x3 h_r1 h_r2 hsx
      · refine g_iconst (v := (0 : Int32)) (dk D_L_law_15 49 rfl) rfl ?_
        exact g_lawret ⟨rfl, rfl, rfl⟩ (by show c ≤ 600000; omega) (by show s ≤ 7302250; omega) (dk D_L_law_16 0 rfl)
    have hj1108 : ∀ (S : Sk) (I : II) (x3 : Int32) (q0 : Nat) (s1 : Int32) (s2 : Int32) (s3 : Int32) (h_r1 : tyR S 10 r1) (h_r2 : tyR S 11 r2) (h_q0 : tyR S 10 q0) (hsx : Sx S0 S), GG E i_L_law (enL E) S I (c, s) 1108 [(0, vS false), (1, vA r1), (2, vA r2), (3, vI x3)] [vI s3, vI s2, vI s1, vA q0] (jn_L_law_1108 fu S I E.2.2.2.2.2.1.2.1 E.2.2.2.2.2.1.2.2 self18 r1 r2 x3 q0 s1 s2 s3) := by
      intro S I x3 q0 s1 s2 s3 h_r1 h_r2 h_q0 hsx
      unfold jn_L_law_1108
      refine g_gd (fun hn6 => ?_)
      refine g_bind (fun q7 hq8 => ?_)
      refine h_callV (st := []) (c_X10_know (E := E) fu S I (q0 - 1) s1 s2 s3 q7 hq8 (h_q0.nz hn6)) cl_RL_108 h_q0 hn6 rfl rfl ⟨⟨by decide, by decide⟩, ⟨rfl, rfl⟩, by show c ≤ 600000; omega, by show s ≤ 7302250; omega⟩ (Nat.le_of_ble_eq_true rfl) (dk D_L_law_15 26 rfl) ?_
      refine g_aload_n (dk D_L_law_15 27 rfl) rfl ?_
      refine g_aloadS_n (dk D_L_law_15 28 rfl) rfl ?_
      refine g_iload_n (dk D_L_law_15 29 rfl) rfl ?_
      refine g_iconst (v := (1 : Int32)) (dk D_L_law_15 30 rfl) rfl ?_
      refine g_iadd (dk D_L_law_15 31 rfl) ?_
      refine g_gd (fun hi10 => ?_)
      refine g_scld hi10 (dk D_L_law_15 32 rfl) ?_
      refine g_aloadS_n (dk D_L_law_15 33 rfl) rfl ?_
      refine g_iload_n (dk D_L_law_15 34 rfl) rfl ?_
      refine g_iconst (v := (2 : Int32)) (dk D_L_law_15 35 rfl) rfl ?_
      refine g_iadd (dk D_L_law_15 36 rfl) ?_
      refine g_gd (fun hi11 => ?_)
      refine g_scld hi11 (dk D_L_law_15 37 rfl) ?_
      refine g_aloadS_n (dk D_L_law_15 38 rfl) rfl ?_
      refine g_iload_n (dk D_L_law_15 39 rfl) rfl ?_
      refine g_iconst (v := (3 : Int32)) (dk D_L_law_15 40 rfl) rfl ?_
      refine g_iadd (dk D_L_law_15 41 rfl) ?_
      refine g_gd (fun hi12 => ?_)
      refine g_scld hi12 (dk D_L_law_15 42 rfl) ?_
      refine g_if_eq (tgt := 1134) (dk D_L_law_15 43 rfl) rfl (fun hc13 => ?_) (fun hc13 => ?_)
      · refine g_iconst (v := (0 : Int32)) (dk D_L_law_15 46 rfl) rfl ?_
        exact hj1135 S q7.2 x3 q7.1 r2 (E.2.2.2.2.2.1.2.2 (nx (x3 + (1 : Int32)))) (E.2.2.2.2.2.1.2.2 (nx (x3 + (2 : Int32)))) (0 : Int32) h_r1 h_r2 h_r2 hsx
      · refine g_iconst (v := (1 : Int32)) (dk D_L_law_15 44 rfl) rfl ?_
        refine g_goto (tgt := 1135) (dk D_L_law_15 45 rfl) rfl ?_
        exact hj1135 S q7.2 x3 q7.1 r2 (E.2.2.2.2.2.1.2.2 (nx (x3 + (1 : Int32)))) (E.2.2.2.2.2.1.2.2 (nx (x3 + (2 : Int32)))) (1 : Int32) h_r1 h_r2 h_r2 hsx
    have hj1217 : ∀ (S : Sk) (I : II) (x3 : Int32) (s0 : Int32) (q1 : Nat) (s2 : Int32) (s3 : Int32) (h_r1 : tyR S 10 r1) (h_r2 : tyR S 11 r2) (h_q1 : tyR S 11 q1) (hsx : Sx S0 S), GG E i_L_law (enL E) S I (c, s) 1217 [(0, vS false), (1, vA r1), (2, vA r2), (3, vI x3)] [vI s3, vI s2, vA q1, vI s0] (jn_L_law_1217 fu S I E.2.2.2.2.2.1.2.1 E.2.2.2.2.2.1.2.2 self18 r1 r2 x3 s0 q1 s2 s3) := by
      intro S I x3 s0 q1 s2 s3 h_r1 h_r2 h_q1 hsx
      unfold jn_L_law_1217
      refine g_gd (fun hn14 => ?_)
      refine g_bind (fun q15 hq16 => ?_)
      refine h_callV (st := [vI s0]) (c_X11_board (E := E) fu S I (q1 - 1) s2 s3 q15 hq16 (h_q1.nz hn14)) cl_RL_121 h_q1 hn14 rfl rfl ⟨⟨by decide, by decide⟩, ⟨rfl, rfl⟩, by show c ≤ 600000; omega, by show s ≤ 7302250; omega⟩ (Nat.le_of_ble_eq_true rfl) (dk D_L_law_17 9 rfl) ?_
      refine g_icmp_eq (tgt := 1754) (dk D_L_law_17 10 rfl) rfl (fun hc18 => ?_) (fun hc18 => ?_)
      · refine g_wide (cs' := (c + 19, s + 95)) (by show c ≤ c + 19; omega) (by show s ≤ s + 95; omega) ?_
        exact hj1754 S q15.2 x3 h_r1 h_r2 hsx
      · refine g_iconst (v := (0 : Int32)) (dk D_L_law_17 11 rfl) rfl ?_
        exact g_lawret ⟨rfl, rfl, rfl⟩ (by show c ≤ 600000; omega) (by show s ≤ 7302250; omega) (dk D_L_law_17 12 rfl)
    have hj1195 : ∀ (S : Sk) (I : II) (x3 : Int32) (q0 : Nat) (s1 : Int32) (s2 : Int32) (h_r1 : tyR S 10 r1) (h_r2 : tyR S 11 r2) (h_q0 : tyR S 10 q0) (hsx : Sx S0 S), GG E i_L_law (enL E) S I (c, s) 1195 [(0, vS false), (1, vA r1), (2, vA r2), (3, vI x3)] [vI s2, vI s1, vA q0] (jn_L_law_1195 fu S I E.2.2.2.2.2.1.2.1 E.2.2.2.2.2.1.2.2 self18 r1 r2 x3 q0 s1 s2) := by
      intro S I x3 q0 s1 s2 h_r1 h_r2 h_q0 hsx
      unfold jn_L_law_1195
      refine g_gd (fun hn19 => ?_)
      refine g_bind (fun q20 hq21 => ?_)
      refine h_callV (st := []) (c_X10_board (E := E) fu S I (q0 - 1) s1 s2 q20 hq21 (h_q0.nz hn19)) cl_RL_117 h_q0 hn19 rfl rfl ⟨⟨by decide, by decide⟩, ⟨rfl, rfl⟩, by show c ≤ 600000; omega, by show s ≤ 7302250; omega⟩ (Nat.le_of_ble_eq_true rfl) (dk D_L_law_16 43 rfl) ?_
      refine g_aload_n (dk D_L_law_16 44 rfl) rfl ?_
      refine g_aloadS_n (dk D_L_law_16 45 rfl) rfl ?_
      refine g_iload_n (dk D_L_law_16 46 rfl) rfl ?_
      refine g_iconst (v := (1 : Int32)) (dk D_L_law_16 47 rfl) rfl ?_
      refine g_iadd (dk D_L_law_16 48 rfl) ?_
      refine g_gd (fun hi23 => ?_)
      refine g_scld hi23 (dk D_L_law_16 49 rfl) ?_
      refine g_aloadS_n (dk D_L_law_17 0 rfl) rfl ?_
      refine g_iload_n (dk D_L_law_17 1 rfl) rfl ?_
      refine g_iconst (v := (2 : Int32)) (dk D_L_law_17 2 rfl) rfl ?_
      refine g_iadd (dk D_L_law_17 3 rfl) ?_
      refine g_gd (fun hi24 => ?_)
      refine g_scld hi24 (dk D_L_law_17 4 rfl) ?_
      refine g_if_eq (tgt := 1216) (dk D_L_law_17 5 rfl) rfl (fun hc25 => ?_) (fun hc25 => ?_)
      · refine g_iconst (v := (0 : Int32)) (dk D_L_law_17 8 rfl) rfl ?_
        exact hj1217 S q20.2 x3 q20.1 r2 (E.2.2.2.2.2.1.2.2 (nx (x3 + (1 : Int32)))) (0 : Int32) h_r1 h_r2 h_r2 hsx
      · refine g_iconst (v := (1 : Int32)) (dk D_L_law_17 6 rfl) rfl ?_
        refine g_goto (tgt := 1217) (dk D_L_law_17 7 rfl) rfl ?_
        exact hj1217 S q20.2 x3 q20.1 r2 (E.2.2.2.2.2.1.2.2 (nx (x3 + (1 : Int32)))) (1 : Int32) h_r1 h_r2 h_r2 hsx
    unfold lp_L_law_18
    refine g_iload_n (dk D_L_law_0 10 rfl) rfl ?_
    refine g_aloadS_n (dk D_L_law_0 11 rfl) rfl ?_
    refine g_sclen (dk D_L_law_0 12 rfl) ?_
    refine g_bipush (v := (9 : Int32)) (dk D_L_law_0 13 rfl) rfl ?_
    refine g_isub (dk D_L_law_0 14 rfl) ?_
    refine g_icmp_gt (tgt := 1760) (dk D_L_law_0 15 rfl) rfl (fun hc26 => ?_) (fun hc26 => ?_)
    · refine g_iconst (v := (1 : Int32)) (dk D_L_law_25 48 rfl) rfl ?_
      exact g_lawret ⟨rfl, rfl, rfl⟩ (by show c ≤ 600000; omega) (by show s ≤ 7302250; omega) (dk D_L_law_25 49 rfl)
    · refine g_aloadS_n (dk D_L_law_0 16 rfl) rfl ?_
      refine g_iload_n (dk D_L_law_0 17 rfl) rfl ?_
      refine g_gd (fun hi27 => ?_)
      refine g_scld hi27 (dk D_L_law_0 18 rfl) ?_
      refine g_bipush (v := (63 : Int32)) (dk D_L_law_0 19 rfl) rfl ?_
      refine g_iand (dk D_L_law_0 20 rfl) ?_
      refine g_ite (fun hc28 => ?_) (fun hc28 => ?_)
      · refine g_tabIn (tgt := 212) (off := 179) (dk D_L_law_0 21 rfl) (by rw [hc28] <;> decide +kernel) (by rw [hc28] <;> decide +kernel) (by rw [hc28] <;> decide +kernel) rfl ?_
        refine g_aload_n (dk D_L_law_0 22 rfl) rfl ?_
        refine g_aloadS_n (dk D_L_law_0 23 rfl) rfl ?_
        refine g_iload_n (dk D_L_law_0 24 rfl) rfl ?_
        refine g_iconst (v := (1 : Int32)) (dk D_L_law_0 25 rfl) rfl ?_
        refine g_iadd (dk D_L_law_0 26 rfl) ?_
        refine g_gd (fun hi29 => ?_)
        refine g_scld hi29 (dk D_L_law_0 27 rfl) ?_
        refine g_aloadS_n (dk D_L_law_0 28 rfl) rfl ?_
        refine g_iload_n (dk D_L_law_0 29 rfl) rfl ?_
        refine g_iconst (v := (2 : Int32)) (dk D_L_law_0 30 rfl) rfl ?_
        refine g_iadd (dk D_L_law_0 31 rfl) ?_
        refine g_gd (fun hi30 => ?_)
        refine g_scld hi30 (dk D_L_law_0 32 rfl) ?_
        refine g_gd (fun hn31 => ?_)
        refine g_bind (fun q32 hq33 => ?_)
        refine h_callV (st := []) (c_X10_stop (E := E) fu S I (r1 - 1) (E.2.2.2.2.2.1.2.2 (nx (x3 + (1 : Int32)))) (E.2.2.2.2.2.1.2.2 (nx (x3 + (2 : Int32)))) q32 hq33 (h_r1.nz hn31)) cl_RL_13 h_r1 hn31 rfl rfl ⟨⟨by decide, by decide⟩, ⟨rfl, rfl⟩, by show c ≤ 600000; omega, by show s ≤ 7302250; omega⟩ (Nat.le_of_ble_eq_true rfl) (dk D_L_law_0 33 rfl) ?_
        refine g_aload_n (dk D_L_law_0 34 rfl) rfl ?_
        refine g_aloadS_n (dk D_L_law_0 35 rfl) rfl ?_
        refine g_iload_n (dk D_L_law_0 36 rfl) rfl ?_
        refine g_iconst (v := (1 : Int32)) (dk D_L_law_0 37 rfl) rfl ?_
        refine g_iadd (dk D_L_law_0 38 rfl) ?_
        refine g_scld hi29 (dk D_L_law_0 39 rfl) ?_
        refine g_aloadS_n (dk D_L_law_0 40 rfl) rfl ?_
        refine g_iload_n (dk D_L_law_0 41 rfl) rfl ?_
        refine g_iconst (v := (2 : Int32)) (dk D_L_law_0 42 rfl) rfl ?_
        refine g_iadd (dk D_L_law_0 43 rfl) ?_
        refine g_scld hi30 (dk D_L_law_0 44 rfl) ?_
        refine g_gd (fun hn37 => ?_)
        refine g_bind (fun q38 hq39 => ?_)
        refine h_callV (st := [vI q32.1]) (c_X11_stop (E := E) fu S q32.2 (r2 - 1) (E.2.2.2.2.2.1.2.2 (nx (x3 + (1 : Int32)))) (E.2.2.2.2.2.1.2.2 (nx (x3 + (2 : Int32)))) q38 hq39 (h_r2.nz hn37)) cl_RL_17 h_r2 hn37 rfl rfl ⟨⟨by decide, by decide⟩, ⟨rfl, rfl⟩, by show c ≤ 600000; omega, by show s ≤ 7302250; omega⟩ (Nat.le_of_ble_eq_true rfl) (dk D_L_law_0 45 rfl) ?_
        refine g_icmp_eq (tgt := 1754) (dk D_L_law_0 46 rfl) rfl (fun hc41 => ?_) (fun hc41 => ?_)
        · refine g_wide (cs' := (c + 19, s + 95)) (by show c ≤ c + 19; omega) (by show s ≤ s + 95; omega) ?_
          exact hj1754 S q38.2 x3 h_r1 h_r2 hsx
        · refine g_iconst (v := (0 : Int32)) (dk D_L_law_0 47 rfl) rfl ?_
          exact g_lawret ⟨rfl, rfl, rfl⟩ (by show c ≤ 600000; omega) (by show s ≤ 7302250; omega) (dk D_L_law_0 48 rfl)
      refine g_ite (fun hc42 => ?_) (fun hc42 => ?_)
      · refine g_tabIn (tgt := 245) (off := 212) (dk D_L_law_0 21 rfl) (by rw [hc42] <;> decide +kernel) (by rw [hc42] <;> decide +kernel) (by rw [hc42] <;> decide +kernel) rfl ?_
        refine g_aload_n (dk D_L_law_0 49 rfl) rfl ?_
        refine g_aloadS_n (dk D_L_law_1 0 rfl) rfl ?_
        refine g_iload_n (dk D_L_law_1 1 rfl) rfl ?_
        refine g_iconst (v := (1 : Int32)) (dk D_L_law_1 2 rfl) rfl ?_
        refine g_iadd (dk D_L_law_1 3 rfl) ?_
        refine g_gd (fun hi43 => ?_)
        refine g_scld hi43 (dk D_L_law_1 4 rfl) ?_
        refine g_aloadS_n (dk D_L_law_1 5 rfl) rfl ?_
        refine g_iload_n (dk D_L_law_1 6 rfl) rfl ?_
        refine g_iconst (v := (2 : Int32)) (dk D_L_law_1 7 rfl) rfl ?_
        refine g_iadd (dk D_L_law_1 8 rfl) ?_
        refine g_gd (fun hi44 => ?_)
        refine g_scld hi44 (dk D_L_law_1 9 rfl) ?_
        refine g_aloadS_n (dk D_L_law_1 10 rfl) rfl ?_
        refine g_iload_n (dk D_L_law_1 11 rfl) rfl ?_
        refine g_iconst (v := (3 : Int32)) (dk D_L_law_1 12 rfl) rfl ?_
        refine g_iadd (dk D_L_law_1 13 rfl) ?_
        refine g_gd (fun hi45 => ?_)
        refine g_scld hi45 (dk D_L_law_1 14 rfl) ?_
        refine g_aloadS_n (dk D_L_law_1 15 rfl) rfl ?_
        refine g_iload_n (dk D_L_law_1 16 rfl) rfl ?_
        refine g_iconst (v := (4 : Int32)) (dk D_L_law_1 17 rfl) rfl ?_
        refine g_iadd (dk D_L_law_1 18 rfl) ?_
        refine g_gd (fun hi46 => ?_)
        refine g_scld hi46 (dk D_L_law_1 19 rfl) ?_
        refine g_aloadS_n (dk D_L_law_1 20 rfl) rfl ?_
        refine g_iload_n (dk D_L_law_1 21 rfl) rfl ?_
        refine g_iconst (v := (5 : Int32)) (dk D_L_law_1 22 rfl) rfl ?_
        refine g_iadd (dk D_L_law_1 23 rfl) ?_
        refine g_gd (fun hi47 => ?_)
        refine g_scld hi47 (dk D_L_law_1 24 rfl) ?_
        refine g_aloadS_n (dk D_L_law_1 25 rfl) rfl ?_
        refine g_iload_n (dk D_L_law_1 26 rfl) rfl ?_
        refine g_bipush (v := (6 : Int32)) (dk D_L_law_1 27 rfl) rfl ?_
        refine g_iadd (dk D_L_law_1 28 rfl) ?_
        refine g_gd (fun hi48 => ?_)
        refine g_scld hi48 (dk D_L_law_1 29 rfl) ?_
        refine g_aloadS_n (dk D_L_law_1 30 rfl) rfl ?_
        refine g_iload_n (dk D_L_law_1 31 rfl) rfl ?_
        refine g_bipush (v := (7 : Int32)) (dk D_L_law_1 32 rfl) rfl ?_
        refine g_iadd (dk D_L_law_1 33 rfl) ?_
        refine g_gd (fun hi49 => ?_)
        refine g_scld hi49 (dk D_L_law_1 34 rfl) ?_
        refine g_aloadS_n (dk D_L_law_1 35 rfl) rfl ?_
        refine g_iload_n (dk D_L_law_1 36 rfl) rfl ?_
        refine g_bipush (v := (8 : Int32)) (dk D_L_law_1 37 rfl) rfl ?_
        refine g_iadd (dk D_L_law_1 38 rfl) ?_
        refine g_gd (fun hi50 => ?_)
        refine g_scld hi50 (dk D_L_law_1 39 rfl) ?_
        refine g_gd (fun hn51 => ?_)
        refine g_bind (fun q52 hq53 => ?_)
        refine g_callV' (st := []) (c_X10_line (E := E) fu S I (r1 - 1) (E.2.2.2.2.2.1.2.2 (nx (x3 + (1 : Int32)))) (E.2.2.2.2.2.1.2.2 (nx (x3 + (2 : Int32)))) (E.2.2.2.2.2.1.2.2 (nx (x3 + (3 : Int32)))) (E.2.2.2.2.2.1.2.2 (nx (x3 + (4 : Int32)))) (E.2.2.2.2.2.1.2.2 (nx (x3 + (5 : Int32)))) (E.2.2.2.2.2.1.2.2 (nx (x3 + (6 : Int32)))) (E.2.2.2.2.2.1.2.2 (nx (x3 + (7 : Int32)))) (E.2.2.2.2.2.1.2.2 (nx (x3 + (8 : Int32)))) q52 hq53 (h_r1.nz hn51)) cl_RL_18.1 cl_RL_18.2.1 cl_RL_18.2.2.1 cl_RL_18.2.2.2 h_r1 hn51 rfl rfl ⟨⟨by decide, by decide⟩, by show c + 5 ≤ 600000; omega, by show s + 95 ≤ 7302250; omega⟩ (Nat.le_of_ble_eq_true rfl) (dk D_L_law_1 40 rfl) (fun hx55 ht54 => ?_)
        refine g_wide (cs' := (c + 5, s + 95)) (by show c + 5 ≤ c + 5; omega) (by show s + 95 ≤ s + 95; omega) ?_
        have ht56 := h_r1.x hx55
        have ht57 := h_r2.x hx55
        have hsx58 := Sx.tr hsx hx55
        refine g_aload_n (dk D_L_law_1 41 rfl) rfl ?_
        refine g_aloadS_n (dk D_L_law_1 42 rfl) rfl ?_
        refine g_iload_n (dk D_L_law_1 43 rfl) rfl ?_
        refine g_iconst (v := (1 : Int32)) (dk D_L_law_1 44 rfl) rfl ?_
        refine g_iadd (dk D_L_law_1 45 rfl) ?_
        refine g_gd (fun hi59 => ?_)
        refine g_scld hi59 (dk D_L_law_1 46 rfl) ?_
        refine g_aloadS_n (dk D_L_law_1 47 rfl) rfl ?_
        refine g_iload_n (dk D_L_law_1 48 rfl) rfl ?_
        refine g_iconst (v := (2 : Int32)) (dk D_L_law_1 49 rfl) rfl ?_
        refine g_iadd (dk D_L_law_2 0 rfl) ?_
        refine g_gd (fun hi60 => ?_)
        refine g_scld hi60 (dk D_L_law_2 1 rfl) ?_
        refine g_aloadS_n (dk D_L_law_2 2 rfl) rfl ?_
        refine g_iload_n (dk D_L_law_2 3 rfl) rfl ?_
        refine g_iconst (v := (3 : Int32)) (dk D_L_law_2 4 rfl) rfl ?_
        refine g_iadd (dk D_L_law_2 5 rfl) ?_
        refine g_gd (fun hi61 => ?_)
        refine g_scld hi61 (dk D_L_law_2 6 rfl) ?_
        refine g_aloadS_n (dk D_L_law_2 7 rfl) rfl ?_
        refine g_iload_n (dk D_L_law_2 8 rfl) rfl ?_
        refine g_iconst (v := (4 : Int32)) (dk D_L_law_2 9 rfl) rfl ?_
        refine g_iadd (dk D_L_law_2 10 rfl) ?_
        refine g_gd (fun hi62 => ?_)
        refine g_scld hi62 (dk D_L_law_2 11 rfl) ?_
        refine g_aloadS_n (dk D_L_law_2 12 rfl) rfl ?_
        refine g_iload_n (dk D_L_law_2 13 rfl) rfl ?_
        refine g_iconst (v := (5 : Int32)) (dk D_L_law_2 14 rfl) rfl ?_
        refine g_iadd (dk D_L_law_2 15 rfl) ?_
        refine g_gd (fun hi63 => ?_)
        refine g_scld hi63 (dk D_L_law_2 16 rfl) ?_
        refine g_aloadS_n (dk D_L_law_2 17 rfl) rfl ?_
        refine g_iload_n (dk D_L_law_2 18 rfl) rfl ?_
        refine g_bipush (v := (6 : Int32)) (dk D_L_law_2 19 rfl) rfl ?_
        refine g_iadd (dk D_L_law_2 20 rfl) ?_
        refine g_gd (fun hi64 => ?_)
        refine g_scld hi64 (dk D_L_law_2 21 rfl) ?_
        refine g_aloadS_n (dk D_L_law_2 22 rfl) rfl ?_
        refine g_iload_n (dk D_L_law_2 23 rfl) rfl ?_
        refine g_bipush (v := (7 : Int32)) (dk D_L_law_2 24 rfl) rfl ?_
        refine g_iadd (dk D_L_law_2 25 rfl) ?_
        refine g_gd (fun hi65 => ?_)
        refine g_scld hi65 (dk D_L_law_2 26 rfl) ?_
        refine g_aloadS_n (dk D_L_law_2 27 rfl) rfl ?_
        refine g_iload_n (dk D_L_law_2 28 rfl) rfl ?_
        refine g_bipush (v := (8 : Int32)) (dk D_L_law_2 29 rfl) rfl ?_
        refine g_iadd (dk D_L_law_2 30 rfl) ?_
        refine g_gd (fun hi66 => ?_)
        refine g_scld hi66 (dk D_L_law_2 31 rfl) ?_
        refine g_gd (fun hn67 => ?_)
        refine g_bind (fun q68 hq69 => ?_)
        refine h_callV (st := [vI q52.1]) (c_X11_line (E := E) fu q52.2.1 q52.2.2 (r2 - 1) (E.2.2.2.2.2.1.2.2 (nx (x3 + (1 : Int32)))) (E.2.2.2.2.2.1.2.2 (nx (x3 + (2 : Int32)))) (E.2.2.2.2.2.1.2.2 (nx (x3 + (3 : Int32)))) (E.2.2.2.2.2.1.2.2 (nx (x3 + (4 : Int32)))) (E.2.2.2.2.2.1.2.2 (nx (x3 + (5 : Int32)))) (E.2.2.2.2.2.1.2.2 (nx (x3 + (6 : Int32)))) (E.2.2.2.2.2.1.2.2 (nx (x3 + (7 : Int32)))) (E.2.2.2.2.2.1.2.2 (nx (x3 + (8 : Int32)))) q68 hq69 (ht57.nz hn67)) cl_RL_22 ht57 hn67 rfl rfl ⟨⟨by decide, by decide⟩, ⟨rfl, rfl⟩, by show c + 5 ≤ 600000; omega, by show s + 95 ≤ 7302250; omega⟩ (Nat.le_of_ble_eq_true rfl) (dk D_L_law_2 32 rfl) ?_
        refine g_icmp_eq (tgt := 1754) (dk D_L_law_2 33 rfl) rfl (fun hc71 => ?_) (fun hc71 => ?_)
        · refine g_wide (cs' := (c + 19, s + 95)) (by show c + 5 ≤ c + 19; omega) (by show s + 95 ≤ s + 95; omega) ?_
          exact hj1754 q52.2.1 q68.2 x3 ht56 ht57 hsx58
        · refine g_iconst (v := (0 : Int32)) (dk D_L_law_2 34 rfl) rfl ?_
          exact g_lawret ⟨rfl, rfl, rfl⟩ (by show c + 5 ≤ 600000; omega) (by show s + 95 ≤ 7302250; omega) (dk D_L_law_2 35 rfl)
      refine g_ite (fun hc72 => ?_) (fun hc72 => ?_)
      · refine g_tabIn (tgt := 344) (off := 311) (dk D_L_law_0 21 rfl) (by rw [hc72] <;> decide +kernel) (by rw [hc72] <;> decide +kernel) (by rw [hc72] <;> decide +kernel) rfl ?_
        refine g_aload_n (dk D_L_law_2 36 rfl) rfl ?_
        refine g_aloadS_n (dk D_L_law_2 37 rfl) rfl ?_
        refine g_iload_n (dk D_L_law_2 38 rfl) rfl ?_
        refine g_iconst (v := (1 : Int32)) (dk D_L_law_2 39 rfl) rfl ?_
        refine g_iadd (dk D_L_law_2 40 rfl) ?_
        refine g_gd (fun hi73 => ?_)
        refine g_scld hi73 (dk D_L_law_2 41 rfl) ?_
        refine g_aloadS_n (dk D_L_law_2 42 rfl) rfl ?_
        refine g_iload_n (dk D_L_law_2 43 rfl) rfl ?_
        refine g_iconst (v := (2 : Int32)) (dk D_L_law_2 44 rfl) rfl ?_
        refine g_iadd (dk D_L_law_2 45 rfl) ?_
        refine g_gd (fun hi74 => ?_)
        refine g_scld hi74 (dk D_L_law_2 46 rfl) ?_
        refine g_aloadS_n (dk D_L_law_2 47 rfl) rfl ?_
        refine g_iload_n (dk D_L_law_2 48 rfl) rfl ?_
        refine g_iconst (v := (3 : Int32)) (dk D_L_law_2 49 rfl) rfl ?_
        refine g_iadd (dk D_L_law_3 0 rfl) ?_
        refine g_gd (fun hi75 => ?_)
        refine g_scld hi75 (dk D_L_law_3 1 rfl) ?_
        refine g_gd (fun hn76 => ?_)
        refine g_bind (fun q77 hq78 => ?_)
        refine h_callV (st := []) (c_X10_days (E := E) fu S I (r1 - 1) (E.2.2.2.2.2.1.2.2 (nx (x3 + (1 : Int32)))) (E.2.2.2.2.2.1.2.2 (nx (x3 + (2 : Int32)))) (E.2.2.2.2.2.1.2.2 (nx (x3 + (3 : Int32)))) q77 hq78 (h_r1.nz hn76)) cl_RL_23 h_r1 hn76 rfl rfl ⟨⟨by decide, by decide⟩, ⟨rfl, rfl⟩, by show c ≤ 600000; omega, by show s ≤ 7302250; omega⟩ (Nat.le_of_ble_eq_true rfl) (dk D_L_law_3 2 rfl) ?_
        refine g_aload_n (dk D_L_law_3 3 rfl) rfl ?_
        refine g_aloadS_n (dk D_L_law_3 4 rfl) rfl ?_
        refine g_iload_n (dk D_L_law_3 5 rfl) rfl ?_
        refine g_iconst (v := (1 : Int32)) (dk D_L_law_3 6 rfl) rfl ?_
        refine g_iadd (dk D_L_law_3 7 rfl) ?_
        refine g_scld hi73 (dk D_L_law_3 8 rfl) ?_
        refine g_aloadS_n (dk D_L_law_3 9 rfl) rfl ?_
        refine g_iload_n (dk D_L_law_3 10 rfl) rfl ?_
        refine g_iconst (v := (2 : Int32)) (dk D_L_law_3 11 rfl) rfl ?_
        refine g_iadd (dk D_L_law_3 12 rfl) ?_
        refine g_scld hi74 (dk D_L_law_3 13 rfl) ?_
        refine g_aloadS_n (dk D_L_law_3 14 rfl) rfl ?_
        refine g_iload_n (dk D_L_law_3 15 rfl) rfl ?_
        refine g_iconst (v := (3 : Int32)) (dk D_L_law_3 16 rfl) rfl ?_
        refine g_iadd (dk D_L_law_3 17 rfl) ?_
        refine g_scld hi75 (dk D_L_law_3 18 rfl) ?_
        refine g_gd (fun hn83 => ?_)
        refine g_bind (fun q84 hq85 => ?_)
        refine h_callV (st := [vI q77.1]) (c_X11_days (E := E) fu S q77.2 (r2 - 1) (E.2.2.2.2.2.1.2.2 (nx (x3 + (1 : Int32)))) (E.2.2.2.2.2.1.2.2 (nx (x3 + (2 : Int32)))) (E.2.2.2.2.2.1.2.2 (nx (x3 + (3 : Int32)))) q84 hq85 (h_r2.nz hn83)) cl_RL_27 h_r2 hn83 rfl rfl ⟨⟨by decide, by decide⟩, ⟨rfl, rfl⟩, by show c ≤ 600000; omega, by show s ≤ 7302250; omega⟩ (Nat.le_of_ble_eq_true rfl) (dk D_L_law_3 19 rfl) ?_
        refine g_icmp_eq (tgt := 1754) (dk D_L_law_3 20 rfl) rfl (fun hc87 => ?_) (fun hc87 => ?_)
        · refine g_wide (cs' := (c + 19, s + 95)) (by show c ≤ c + 19; omega) (by show s ≤ s + 95; omega) ?_
          exact hj1754 S q84.2 x3 h_r1 h_r2 hsx
        · refine g_iconst (v := (0 : Int32)) (dk D_L_law_3 21 rfl) rfl ?_
          exact g_lawret ⟨rfl, rfl, rfl⟩ (by show c ≤ 600000; omega) (by show s ≤ 7302250; omega) (dk D_L_law_3 22 rfl)
      refine g_ite (fun hc88 => ?_) (fun hc88 => ?_)
      · refine g_tabIn (tgt := 387) (off := 354) (dk D_L_law_0 21 rfl) (by rw [hc88] <;> decide +kernel) (by rw [hc88] <;> decide +kernel) (by rw [hc88] <;> decide +kernel) rfl ?_
        refine g_aload_n (dk D_L_law_3 23 rfl) rfl ?_
        refine g_aloadS_n (dk D_L_law_3 24 rfl) rfl ?_
        refine g_iload_n (dk D_L_law_3 25 rfl) rfl ?_
        refine g_iconst (v := (1 : Int32)) (dk D_L_law_3 26 rfl) rfl ?_
        refine g_iadd (dk D_L_law_3 27 rfl) ?_
        refine g_gd (fun hi89 => ?_)
        refine g_scld hi89 (dk D_L_law_3 28 rfl) ?_
        refine g_aloadS_n (dk D_L_law_3 29 rfl) rfl ?_
        refine g_iload_n (dk D_L_law_3 30 rfl) rfl ?_
        refine g_iconst (v := (2 : Int32)) (dk D_L_law_3 31 rfl) rfl ?_
        refine g_iadd (dk D_L_law_3 32 rfl) ?_
        refine g_gd (fun hi90 => ?_)
        refine g_scld hi90 (dk D_L_law_3 33 rfl) ?_
        refine g_gd (fun hn91 => ?_)
        refine g_bind (fun q92 hq93 => ?_)
        refine h_callV (st := []) (c_X10_ofLine (E := E) fu S I (r1 - 1) (E.2.2.2.2.2.1.2.2 (nx (x3 + (1 : Int32)))) (E.2.2.2.2.2.1.2.2 (nx (x3 + (2 : Int32)))) q92 hq93 (h_r1.nz hn91)) cl_RL_28 h_r1 hn91 rfl rfl ⟨⟨by decide, by decide⟩, ⟨rfl, rfl⟩, by show c ≤ 600000; omega, by show s ≤ 7302250; omega⟩ (Nat.le_of_ble_eq_true rfl) (dk D_L_law_3 34 rfl) ?_
        refine g_aload_n (dk D_L_law_3 35 rfl) rfl ?_
        refine g_aloadS_n (dk D_L_law_3 36 rfl) rfl ?_
        refine g_iload_n (dk D_L_law_3 37 rfl) rfl ?_
        refine g_iconst (v := (1 : Int32)) (dk D_L_law_3 38 rfl) rfl ?_
        refine g_iadd (dk D_L_law_3 39 rfl) ?_
        refine g_scld hi89 (dk D_L_law_3 40 rfl) ?_
        refine g_aloadS_n (dk D_L_law_3 41 rfl) rfl ?_
        refine g_iload_n (dk D_L_law_3 42 rfl) rfl ?_
        refine g_iconst (v := (2 : Int32)) (dk D_L_law_3 43 rfl) rfl ?_
        refine g_iadd (dk D_L_law_3 44 rfl) ?_
        refine g_scld hi90 (dk D_L_law_3 45 rfl) ?_
        refine g_gd (fun hn97 => ?_)
        refine g_bind (fun q98 hq99 => ?_)
        refine h_callV (st := [vI q92]) (c_X11_ofLine (E := E) fu S I (r2 - 1) (E.2.2.2.2.2.1.2.2 (nx (x3 + (1 : Int32)))) (E.2.2.2.2.2.1.2.2 (nx (x3 + (2 : Int32)))) q98 hq99 (h_r2.nz hn97)) cl_RL_31 h_r2 hn97 rfl rfl ⟨⟨by decide, by decide⟩, ⟨rfl, rfl⟩, by show c ≤ 600000; omega, by show s ≤ 7302250; omega⟩ (Nat.le_of_ble_eq_true rfl) (dk D_L_law_3 46 rfl) ?_
        refine g_icmp_eq (tgt := 1754) (dk D_L_law_3 47 rfl) rfl (fun hc101 => ?_) (fun hc101 => ?_)
        · refine g_wide (cs' := (c + 19, s + 95)) (by show c ≤ c + 19; omega) (by show s ≤ s + 95; omega) ?_
          exact hj1754 S I x3 h_r1 h_r2 hsx
        · refine g_iconst (v := (0 : Int32)) (dk D_L_law_3 48 rfl) rfl ?_
          exact g_lawret ⟨rfl, rfl, rfl⟩ (by show c ≤ 600000; omega) (by show s ≤ 7302250; omega) (dk D_L_law_3 49 rfl)
      refine g_ite (fun hc102 => ?_) (fun hc102 => ?_)
      · refine g_tabIn (tgt := 420) (off := 387) (dk D_L_law_0 21 rfl) (by rw [hc102] <;> decide +kernel) (by rw [hc102] <;> decide +kernel) (by rw [hc102] <;> decide +kernel) rfl ?_
        refine g_aload_n (dk D_L_law_4 0 rfl) rfl ?_
        refine g_aloadS_n (dk D_L_law_4 1 rfl) rfl ?_
        refine g_iload_n (dk D_L_law_4 2 rfl) rfl ?_
        refine g_iconst (v := (1 : Int32)) (dk D_L_law_4 3 rfl) rfl ?_
        refine g_iadd (dk D_L_law_4 4 rfl) ?_
        refine g_gd (fun hi103 => ?_)
        refine g_scld hi103 (dk D_L_law_4 5 rfl) ?_
        refine g_aloadS_n (dk D_L_law_4 6 rfl) rfl ?_
        refine g_iload_n (dk D_L_law_4 7 rfl) rfl ?_
        refine g_iconst (v := (2 : Int32)) (dk D_L_law_4 8 rfl) rfl ?_
        refine g_iadd (dk D_L_law_4 9 rfl) ?_
        refine g_gd (fun hi104 => ?_)
        refine g_scld hi104 (dk D_L_law_4 10 rfl) ?_
        refine g_gd (fun hn105 => ?_)
        refine g_bind (fun q106 hq107 => ?_)
        refine h_callV (st := []) (c_X10_runs (E := E) fu S I (r1 - 1) (E.2.2.2.2.2.1.2.2 (nx (x3 + (1 : Int32)))) (E.2.2.2.2.2.1.2.2 (nx (x3 + (2 : Int32)))) q106 hq107 (h_r1.nz hn105)) cl_RL_32 h_r1 hn105 rfl rfl ⟨⟨by decide, by decide⟩, ⟨rfl, rfl⟩, by show c ≤ 600000; omega, by show s ≤ 7302250; omega⟩ (Nat.le_of_ble_eq_true rfl) (dk D_L_law_4 11 rfl) ?_
        refine g_aload_n (dk D_L_law_4 12 rfl) rfl ?_
        refine g_aloadS_n (dk D_L_law_4 13 rfl) rfl ?_
        refine g_iload_n (dk D_L_law_4 14 rfl) rfl ?_
        refine g_iconst (v := (1 : Int32)) (dk D_L_law_4 15 rfl) rfl ?_
        refine g_iadd (dk D_L_law_4 16 rfl) ?_
        refine g_scld hi103 (dk D_L_law_4 17 rfl) ?_
        refine g_aloadS_n (dk D_L_law_4 18 rfl) rfl ?_
        refine g_iload_n (dk D_L_law_4 19 rfl) rfl ?_
        refine g_iconst (v := (2 : Int32)) (dk D_L_law_4 20 rfl) rfl ?_
        refine g_iadd (dk D_L_law_4 21 rfl) ?_
        refine g_scld hi104 (dk D_L_law_4 22 rfl) ?_
        refine g_gd (fun hn111 => ?_)
        refine g_bind (fun q112 hq113 => ?_)
        refine h_callV (st := [vI q106]) (c_X11_runs (E := E) fu S I (r2 - 1) (E.2.2.2.2.2.1.2.2 (nx (x3 + (1 : Int32)))) (E.2.2.2.2.2.1.2.2 (nx (x3 + (2 : Int32)))) q112 hq113 (h_r2.nz hn111)) cl_RL_35 h_r2 hn111 rfl rfl ⟨⟨by decide, by decide⟩, ⟨rfl, rfl⟩, by show c ≤ 600000; omega, by show s ≤ 7302250; omega⟩ (Nat.le_of_ble_eq_true rfl) (dk D_L_law_4 23 rfl) ?_
        refine g_icmp_eq (tgt := 1754) (dk D_L_law_4 24 rfl) rfl (fun hc115 => ?_) (fun hc115 => ?_)
        · refine g_wide (cs' := (c + 19, s + 95)) (by show c ≤ c + 19; omega) (by show s ≤ s + 95; omega) ?_
          exact hj1754 S I x3 h_r1 h_r2 hsx
        · refine g_iconst (v := (0 : Int32)) (dk D_L_law_4 25 rfl) rfl ?_
          exact g_lawret ⟨rfl, rfl, rfl⟩ (by show c ≤ 600000; omega) (by show s ≤ 7302250; omega) (dk D_L_law_4 26 rfl)
      refine g_ite (fun hc116 => ?_) (fun hc116 => ?_)
      · refine g_tabIn (tgt := 453) (off := 420) (dk D_L_law_0 21 rfl) (by rw [hc116] <;> decide +kernel) (by rw [hc116] <;> decide +kernel) (by rw [hc116] <;> decide +kernel) rfl ?_
        refine g_aload_n (dk D_L_law_4 27 rfl) rfl ?_
        refine g_aloadS_n (dk D_L_law_4 28 rfl) rfl ?_
        refine g_iload_n (dk D_L_law_4 29 rfl) rfl ?_
        refine g_iconst (v := (1 : Int32)) (dk D_L_law_4 30 rfl) rfl ?_
        refine g_iadd (dk D_L_law_4 31 rfl) ?_
        refine g_gd (fun hi117 => ?_)
        refine g_scld hi117 (dk D_L_law_4 32 rfl) ?_
        refine g_aloadS_n (dk D_L_law_4 33 rfl) rfl ?_
        refine g_iload_n (dk D_L_law_4 34 rfl) rfl ?_
        refine g_iconst (v := (2 : Int32)) (dk D_L_law_4 35 rfl) rfl ?_
        refine g_iadd (dk D_L_law_4 36 rfl) ?_
        refine g_gd (fun hi118 => ?_)
        refine g_scld hi118 (dk D_L_law_4 37 rfl) ?_
        refine g_aloadS_n (dk D_L_law_4 38 rfl) rfl ?_
        refine g_iload_n (dk D_L_law_4 39 rfl) rfl ?_
        refine g_iconst (v := (3 : Int32)) (dk D_L_law_4 40 rfl) rfl ?_
        refine g_iadd (dk D_L_law_4 41 rfl) ?_
        refine g_gd (fun hi119 => ?_)
        refine g_scld hi119 (dk D_L_law_4 42 rfl) ?_
        refine g_gd (fun hn120 => ?_)
        refine g_bind (fun q121 hq122 => ?_)
        refine h_callV (st := []) (c_X10_minute (E := E) fu S I (r1 - 1) (E.2.2.2.2.2.1.2.2 (nx (x3 + (1 : Int32)))) (E.2.2.2.2.2.1.2.2 (nx (x3 + (2 : Int32)))) (E.2.2.2.2.2.1.2.2 (nx (x3 + (3 : Int32)))) q121 hq122 (h_r1.nz hn120)) cl_RL_36 h_r1 hn120 rfl rfl ⟨⟨by decide, by decide⟩, ⟨rfl, rfl⟩, by show c ≤ 600000; omega, by show s ≤ 7302250; omega⟩ (Nat.le_of_ble_eq_true rfl) (dk D_L_law_4 43 rfl) ?_
        refine g_aload_n (dk D_L_law_4 44 rfl) rfl ?_
        refine g_aloadS_n (dk D_L_law_4 45 rfl) rfl ?_
        refine g_iload_n (dk D_L_law_4 46 rfl) rfl ?_
        refine g_iconst (v := (1 : Int32)) (dk D_L_law_4 47 rfl) rfl ?_
        refine g_iadd (dk D_L_law_4 48 rfl) ?_
        refine g_scld hi117 (dk D_L_law_4 49 rfl) ?_
        refine g_aloadS_n (dk D_L_law_5 0 rfl) rfl ?_
        refine g_iload_n (dk D_L_law_5 1 rfl) rfl ?_
        refine g_iconst (v := (2 : Int32)) (dk D_L_law_5 2 rfl) rfl ?_
        refine g_iadd (dk D_L_law_5 3 rfl) ?_
        refine g_scld hi118 (dk D_L_law_5 4 rfl) ?_
        refine g_aloadS_n (dk D_L_law_5 5 rfl) rfl ?_
        refine g_iload_n (dk D_L_law_5 6 rfl) rfl ?_
        refine g_iconst (v := (3 : Int32)) (dk D_L_law_5 7 rfl) rfl ?_
        refine g_iadd (dk D_L_law_5 8 rfl) ?_
        refine g_scld hi119 (dk D_L_law_5 9 rfl) ?_
        refine g_gd (fun hn127 => ?_)
        refine g_bind (fun q128 hq129 => ?_)
        refine h_callV (st := [vI q121]) (c_X11_minute (E := E) fu S I (r2 - 1) (E.2.2.2.2.2.1.2.2 (nx (x3 + (1 : Int32)))) (E.2.2.2.2.2.1.2.2 (nx (x3 + (2 : Int32)))) (E.2.2.2.2.2.1.2.2 (nx (x3 + (3 : Int32)))) q128 hq129 (h_r2.nz hn127)) cl_RL_39 h_r2 hn127 rfl rfl ⟨⟨by decide, by decide⟩, ⟨rfl, rfl⟩, by show c ≤ 600000; omega, by show s ≤ 7302250; omega⟩ (Nat.le_of_ble_eq_true rfl) (dk D_L_law_5 10 rfl) ?_
        refine g_icmp_eq (tgt := 1754) (dk D_L_law_5 11 rfl) rfl (fun hc131 => ?_) (fun hc131 => ?_)
        · refine g_wide (cs' := (c + 19, s + 95)) (by show c ≤ c + 19; omega) (by show s ≤ s + 95; omega) ?_
          exact hj1754 S I x3 h_r1 h_r2 hsx
        · refine g_iconst (v := (0 : Int32)) (dk D_L_law_5 12 rfl) rfl ?_
          exact g_lawret ⟨rfl, rfl, rfl⟩ (by show c ≤ 600000; omega) (by show s ≤ 7302250; omega) (dk D_L_law_5 13 rfl)
      refine g_ite (fun hc132 => ?_) (fun hc132 => ?_)
      · refine g_tabIn (tgt := 496) (off := 463) (dk D_L_law_0 21 rfl) (by rw [hc132] <;> decide +kernel) (by rw [hc132] <;> decide +kernel) (by rw [hc132] <;> decide +kernel) rfl ?_
        refine g_aload_n (dk D_L_law_5 14 rfl) rfl ?_
        refine g_aloadS_n (dk D_L_law_5 15 rfl) rfl ?_
        refine g_iload_n (dk D_L_law_5 16 rfl) rfl ?_
        refine g_iconst (v := (1 : Int32)) (dk D_L_law_5 17 rfl) rfl ?_
        refine g_iadd (dk D_L_law_5 18 rfl) ?_
        refine g_gd (fun hi133 => ?_)
        refine g_scld hi133 (dk D_L_law_5 19 rfl) ?_
        refine g_aloadS_n (dk D_L_law_5 20 rfl) rfl ?_
        refine g_iload_n (dk D_L_law_5 21 rfl) rfl ?_
        refine g_iconst (v := (2 : Int32)) (dk D_L_law_5 22 rfl) rfl ?_
        refine g_iadd (dk D_L_law_5 23 rfl) ?_
        refine g_gd (fun hi134 => ?_)
        refine g_scld hi134 (dk D_L_law_5 24 rfl) ?_
        refine g_gd (fun hn135 => ?_)
        refine g_bind (fun q136 hq137 => ?_)
        refine h_callV (st := []) (c_X10_far (E := E) fu S I (r1 - 1) (E.2.2.2.2.2.1.2.2 (nx (x3 + (1 : Int32)))) (E.2.2.2.2.2.1.2.2 (nx (x3 + (2 : Int32)))) q136 hq137 (h_r1.nz hn135)) cl_RL_40 h_r1 hn135 rfl rfl ⟨⟨by decide, by decide⟩, ⟨rfl, rfl⟩, by show c ≤ 600000; omega, by show s ≤ 7302250; omega⟩ (Nat.le_of_ble_eq_true rfl) (dk D_L_law_5 25 rfl) ?_
        refine g_aload_n (dk D_L_law_5 26 rfl) rfl ?_
        refine g_aloadS_n (dk D_L_law_5 27 rfl) rfl ?_
        refine g_iload_n (dk D_L_law_5 28 rfl) rfl ?_
        refine g_iconst (v := (1 : Int32)) (dk D_L_law_5 29 rfl) rfl ?_
        refine g_iadd (dk D_L_law_5 30 rfl) ?_
        refine g_scld hi133 (dk D_L_law_5 31 rfl) ?_
        refine g_aloadS_n (dk D_L_law_5 32 rfl) rfl ?_
        refine g_iload_n (dk D_L_law_5 33 rfl) rfl ?_
        refine g_iconst (v := (2 : Int32)) (dk D_L_law_5 34 rfl) rfl ?_
        refine g_iadd (dk D_L_law_5 35 rfl) ?_
        refine g_scld hi134 (dk D_L_law_5 36 rfl) ?_
        refine g_gd (fun hn141 => ?_)
        refine g_bind (fun q142 hq143 => ?_)
        refine h_callV (st := [vI q136]) (c_X11_far (E := E) fu S I (r2 - 1) (E.2.2.2.2.2.1.2.2 (nx (x3 + (1 : Int32)))) (E.2.2.2.2.2.1.2.2 (nx (x3 + (2 : Int32)))) q142 hq143 (h_r2.nz hn141)) cl_RL_43 h_r2 hn141 rfl rfl ⟨⟨by decide, by decide⟩, ⟨rfl, rfl⟩, by show c ≤ 600000; omega, by show s ≤ 7302250; omega⟩ (Nat.le_of_ble_eq_true rfl) (dk D_L_law_5 37 rfl) ?_
        refine g_icmp_eq (tgt := 1754) (dk D_L_law_5 38 rfl) rfl (fun hc145 => ?_) (fun hc145 => ?_)
        · refine g_wide (cs' := (c + 19, s + 95)) (by show c ≤ c + 19; omega) (by show s ≤ s + 95; omega) ?_
          exact hj1754 S I x3 h_r1 h_r2 hsx
        · refine g_iconst (v := (0 : Int32)) (dk D_L_law_5 39 rfl) rfl ?_
          exact g_lawret ⟨rfl, rfl, rfl⟩ (by show c ≤ 600000; omega) (by show s ≤ 7302250; omega) (dk D_L_law_5 40 rfl)
      refine g_ite (fun hc146 => ?_) (fun hc146 => ?_)
      · refine g_tabIn (tgt := 529) (off := 496) (dk D_L_law_0 21 rfl) (by rw [hc146] <;> decide +kernel) (by rw [hc146] <;> decide +kernel) (by rw [hc146] <;> decide +kernel) rfl ?_
        refine g_aload_n (dk D_L_law_5 41 rfl) rfl ?_
        refine g_aloadS_n (dk D_L_law_5 42 rfl) rfl ?_
        refine g_iload_n (dk D_L_law_5 43 rfl) rfl ?_
        refine g_iconst (v := (1 : Int32)) (dk D_L_law_5 44 rfl) rfl ?_
        refine g_iadd (dk D_L_law_5 45 rfl) ?_
        refine g_gd (fun hi147 => ?_)
        refine g_scld hi147 (dk D_L_law_5 46 rfl) ?_
        refine g_aloadS_n (dk D_L_law_5 47 rfl) rfl ?_
        refine g_iload_n (dk D_L_law_5 48 rfl) rfl ?_
        refine g_iconst (v := (2 : Int32)) (dk D_L_law_5 49 rfl) rfl ?_
        refine g_iadd (dk D_L_law_6 0 rfl) ?_
        refine g_gd (fun hi148 => ?_)
        refine g_scld hi148 (dk D_L_law_6 1 rfl) ?_
        refine g_aloadS_n (dk D_L_law_6 2 rfl) rfl ?_
        refine g_iload_n (dk D_L_law_6 3 rfl) rfl ?_
        refine g_iconst (v := (3 : Int32)) (dk D_L_law_6 4 rfl) rfl ?_
        refine g_iadd (dk D_L_law_6 5 rfl) ?_
        refine g_gd (fun hi149 => ?_)
        refine g_scld hi149 (dk D_L_law_6 6 rfl) ?_
        refine g_aloadS_n (dk D_L_law_6 7 rfl) rfl ?_
        refine g_iload_n (dk D_L_law_6 8 rfl) rfl ?_
        refine g_iconst (v := (4 : Int32)) (dk D_L_law_6 9 rfl) rfl ?_
        refine g_iadd (dk D_L_law_6 10 rfl) ?_
        refine g_gd (fun hi150 => ?_)
        refine g_scld hi150 (dk D_L_law_6 11 rfl) ?_
        refine g_gd (fun hn151 => ?_)
        refine g_bind (fun q152 hq153 => ?_)
        refine g_callV' (st := []) (c_X10_text (E := E) fu S I (r1 - 1) (E.2.2.2.2.2.1.2.2 (nx (x3 + (1 : Int32)))) (E.2.2.2.2.2.1.2.2 (nx (x3 + (2 : Int32)))) (E.2.2.2.2.2.1.2.2 (nx (x3 + (3 : Int32)))) (E.2.2.2.2.2.1.2.2 (nx (x3 + (4 : Int32)))) q152 hq153 (h_r1.nz hn151)) cl_RL_44.1 cl_RL_44.2.1 cl_RL_44.2.2.1 cl_RL_44.2.2.2 h_r1 hn151 rfl rfl ⟨⟨by decide, by decide⟩, by show c + 3 ≤ 600000; omega, by show s + 65 ≤ 7302250; omega⟩ (Nat.le_of_ble_eq_true rfl) (dk D_L_law_6 12 rfl) (fun hx155 ht154 => ?_)
        refine g_wide (cs' := (c + 3, s + 65)) (by show c + 3 ≤ c + 3; omega) (by show s + 65 ≤ s + 65; omega) ?_
        have ht156 := h_r1.x hx155
        have ht157 := h_r2.x hx155
        have hsx158 := Sx.tr hsx hx155
        refine g_aload_n (dk D_L_law_6 13 rfl) rfl ?_
        refine g_aloadS_n (dk D_L_law_6 14 rfl) rfl ?_
        refine g_iload_n (dk D_L_law_6 15 rfl) rfl ?_
        refine g_iconst (v := (1 : Int32)) (dk D_L_law_6 16 rfl) rfl ?_
        refine g_iadd (dk D_L_law_6 17 rfl) ?_
        refine g_gd (fun hi159 => ?_)
        refine g_scld hi159 (dk D_L_law_6 18 rfl) ?_
        refine g_aloadS_n (dk D_L_law_6 19 rfl) rfl ?_
        refine g_iload_n (dk D_L_law_6 20 rfl) rfl ?_
        refine g_iconst (v := (2 : Int32)) (dk D_L_law_6 21 rfl) rfl ?_
        refine g_iadd (dk D_L_law_6 22 rfl) ?_
        refine g_gd (fun hi160 => ?_)
        refine g_scld hi160 (dk D_L_law_6 23 rfl) ?_
        refine g_aloadS_n (dk D_L_law_6 24 rfl) rfl ?_
        refine g_iload_n (dk D_L_law_6 25 rfl) rfl ?_
        refine g_iconst (v := (3 : Int32)) (dk D_L_law_6 26 rfl) rfl ?_
        refine g_iadd (dk D_L_law_6 27 rfl) ?_
        refine g_gd (fun hi161 => ?_)
        refine g_scld hi161 (dk D_L_law_6 28 rfl) ?_
        refine g_aloadS_n (dk D_L_law_6 29 rfl) rfl ?_
        refine g_iload_n (dk D_L_law_6 30 rfl) rfl ?_
        refine g_iconst (v := (4 : Int32)) (dk D_L_law_6 31 rfl) rfl ?_
        refine g_iadd (dk D_L_law_6 32 rfl) ?_
        refine g_gd (fun hi162 => ?_)
        refine g_scld hi162 (dk D_L_law_6 33 rfl) ?_
        refine g_gd (fun hn163 => ?_)
        refine g_bind (fun q164 hq165 => ?_)
        refine h_callV (st := [vI q152.1]) (c_X11_text (E := E) fu q152.2.1 q152.2.2 (r2 - 1) (E.2.2.2.2.2.1.2.2 (nx (x3 + (1 : Int32)))) (E.2.2.2.2.2.1.2.2 (nx (x3 + (2 : Int32)))) (E.2.2.2.2.2.1.2.2 (nx (x3 + (3 : Int32)))) (E.2.2.2.2.2.1.2.2 (nx (x3 + (4 : Int32)))) q164 hq165 (ht157.nz hn163)) cl_RL_48 ht157 hn163 rfl rfl ⟨⟨by decide, by decide⟩, ⟨rfl, rfl⟩, by show c + 3 ≤ 600000; omega, by show s + 65 ≤ 7302250; omega⟩ (Nat.le_of_ble_eq_true rfl) (dk D_L_law_6 34 rfl) ?_
        refine g_icmp_eq (tgt := 1754) (dk D_L_law_6 35 rfl) rfl (fun hc167 => ?_) (fun hc167 => ?_)
        · refine g_wide (cs' := (c + 19, s + 95)) (by show c + 3 ≤ c + 19; omega) (by show s + 65 ≤ s + 95; omega) ?_
          exact hj1754 q152.2.1 q164.2 x3 ht156 ht157 hsx158
        · refine g_iconst (v := (0 : Int32)) (dk D_L_law_6 36 rfl) rfl ?_
          exact g_lawret ⟨rfl, rfl, rfl⟩ (by show c + 3 ≤ 600000; omega) (by show s + 65 ≤ 7302250; omega) (dk D_L_law_6 37 rfl)
      refine g_ite (fun hc168 => ?_) (fun hc168 => ?_)
      · refine g_tabIn (tgt := 582) (off := 549) (dk D_L_law_0 21 rfl) (by rw [hc168] <;> decide +kernel) (by rw [hc168] <;> decide +kernel) (by rw [hc168] <;> decide +kernel) rfl ?_
        refine g_aload_n (dk D_L_law_6 38 rfl) rfl ?_
        refine g_aloadS_n (dk D_L_law_6 39 rfl) rfl ?_
        refine g_iload_n (dk D_L_law_6 40 rfl) rfl ?_
        refine g_iconst (v := (1 : Int32)) (dk D_L_law_6 41 rfl) rfl ?_
        refine g_iadd (dk D_L_law_6 42 rfl) ?_
        refine g_gd (fun hi169 => ?_)
        refine g_scld hi169 (dk D_L_law_6 43 rfl) ?_
        refine g_aloadS_n (dk D_L_law_6 44 rfl) rfl ?_
        refine g_iload_n (dk D_L_law_6 45 rfl) rfl ?_
        refine g_iconst (v := (2 : Int32)) (dk D_L_law_6 46 rfl) rfl ?_
        refine g_iadd (dk D_L_law_6 47 rfl) ?_
        refine g_gd (fun hi170 => ?_)
        refine g_scld hi170 (dk D_L_law_6 48 rfl) ?_
        refine g_gd (fun hn171 => ?_)
        refine g_bind (fun q172 hq173 => ?_)
        refine h_callV (st := []) (c_X10_owed (E := E) fu S I (r1 - 1) (E.2.2.2.2.2.1.2.2 (nx (x3 + (1 : Int32)))) (E.2.2.2.2.2.1.2.2 (nx (x3 + (2 : Int32)))) q172 hq173 (h_r1.nz hn171)) cl_RL_49 h_r1 hn171 rfl rfl ⟨⟨by decide, by decide⟩, ⟨rfl, rfl⟩, by show c ≤ 600000; omega, by show s ≤ 7302250; omega⟩ (Nat.le_of_ble_eq_true rfl) (dk D_L_law_6 49 rfl) ?_
        refine g_aload_n (dk D_L_law_7 0 rfl) rfl ?_
        refine g_aloadS_n (dk D_L_law_7 1 rfl) rfl ?_
        refine g_iload_n (dk D_L_law_7 2 rfl) rfl ?_
        refine g_iconst (v := (1 : Int32)) (dk D_L_law_7 3 rfl) rfl ?_
        refine g_iadd (dk D_L_law_7 4 rfl) ?_
        refine g_scld hi169 (dk D_L_law_7 5 rfl) ?_
        refine g_aloadS_n (dk D_L_law_7 6 rfl) rfl ?_
        refine g_iload_n (dk D_L_law_7 7 rfl) rfl ?_
        refine g_iconst (v := (2 : Int32)) (dk D_L_law_7 8 rfl) rfl ?_
        refine g_iadd (dk D_L_law_7 9 rfl) ?_
        refine g_scld hi170 (dk D_L_law_7 10 rfl) ?_
        refine g_gd (fun hn177 => ?_)
        refine g_bind (fun q178 hq179 => ?_)
        refine h_callV (st := [vI q172]) (c_X11_owed (E := E) fu S I (r2 - 1) (E.2.2.2.2.2.1.2.2 (nx (x3 + (1 : Int32)))) (E.2.2.2.2.2.1.2.2 (nx (x3 + (2 : Int32)))) q178 hq179 (h_r2.nz hn177)) cl_RL_52 h_r2 hn177 rfl rfl ⟨⟨by decide, by decide⟩, ⟨rfl, rfl⟩, by show c ≤ 600000; omega, by show s ≤ 7302250; omega⟩ (Nat.le_of_ble_eq_true rfl) (dk D_L_law_7 11 rfl) ?_
        refine g_icmp_eq (tgt := 1754) (dk D_L_law_7 12 rfl) rfl (fun hc181 => ?_) (fun hc181 => ?_)
        · refine g_wide (cs' := (c + 19, s + 95)) (by show c ≤ c + 19; omega) (by show s ≤ s + 95; omega) ?_
          exact hj1754 S I x3 h_r1 h_r2 hsx
        · refine g_iconst (v := (0 : Int32)) (dk D_L_law_7 13 rfl) rfl ?_
          exact g_lawret ⟨rfl, rfl, rfl⟩ (by show c ≤ 600000; omega) (by show s ≤ 7302250; omega) (dk D_L_law_7 14 rfl)
      refine g_ite (fun hc182 => ?_) (fun hc182 => ?_)
      · refine g_tabIn (tgt := 615) (off := 582) (dk D_L_law_0 21 rfl) (by rw [hc182] <;> decide +kernel) (by rw [hc182] <;> decide +kernel) (by rw [hc182] <;> decide +kernel) rfl ?_
        refine g_aload_n (dk D_L_law_7 15 rfl) rfl ?_
        refine g_aloadS_n (dk D_L_law_7 16 rfl) rfl ?_
        refine g_iload_n (dk D_L_law_7 17 rfl) rfl ?_
        refine g_iconst (v := (1 : Int32)) (dk D_L_law_7 18 rfl) rfl ?_
        refine g_iadd (dk D_L_law_7 19 rfl) ?_
        refine g_gd (fun hi183 => ?_)
        refine g_scld hi183 (dk D_L_law_7 20 rfl) ?_
        refine g_aloadS_n (dk D_L_law_7 21 rfl) rfl ?_
        refine g_iload_n (dk D_L_law_7 22 rfl) rfl ?_
        refine g_iconst (v := (2 : Int32)) (dk D_L_law_7 23 rfl) rfl ?_
        refine g_iadd (dk D_L_law_7 24 rfl) ?_
        refine g_gd (fun hi184 => ?_)
        refine g_scld hi184 (dk D_L_law_7 25 rfl) ?_
        refine g_gd (fun hn185 => ?_)
        refine g_bind (fun q186 hq187 => ?_)
        refine h_callV (st := []) (c_X10_why (E := E) fu S I (r1 - 1) (E.2.2.2.2.2.1.2.2 (nx (x3 + (1 : Int32)))) (E.2.2.2.2.2.1.2.2 (nx (x3 + (2 : Int32)))) q186 hq187 (h_r1.nz hn185)) cl_RL_53 h_r1 hn185 rfl rfl ⟨⟨by decide, by decide⟩, ⟨rfl, rfl⟩, by show c ≤ 600000; omega, by show s ≤ 7302250; omega⟩ (Nat.le_of_ble_eq_true rfl) (dk D_L_law_7 26 rfl) ?_
        refine g_aload_n (dk D_L_law_7 27 rfl) rfl ?_
        refine g_aloadS_n (dk D_L_law_7 28 rfl) rfl ?_
        refine g_iload_n (dk D_L_law_7 29 rfl) rfl ?_
        refine g_iconst (v := (1 : Int32)) (dk D_L_law_7 30 rfl) rfl ?_
        refine g_iadd (dk D_L_law_7 31 rfl) ?_
        refine g_scld hi183 (dk D_L_law_7 32 rfl) ?_
        refine g_aloadS_n (dk D_L_law_7 33 rfl) rfl ?_
        refine g_iload_n (dk D_L_law_7 34 rfl) rfl ?_
        refine g_iconst (v := (2 : Int32)) (dk D_L_law_7 35 rfl) rfl ?_
        refine g_iadd (dk D_L_law_7 36 rfl) ?_
        refine g_scld hi184 (dk D_L_law_7 37 rfl) ?_
        refine g_gd (fun hn191 => ?_)
        refine g_bind (fun q192 hq193 => ?_)
        refine h_callV (st := [vI q186]) (c_X11_why (E := E) fu S I (r2 - 1) (E.2.2.2.2.2.1.2.2 (nx (x3 + (1 : Int32)))) (E.2.2.2.2.2.1.2.2 (nx (x3 + (2 : Int32)))) q192 hq193 (h_r2.nz hn191)) cl_RL_56 h_r2 hn191 rfl rfl ⟨⟨by decide, by decide⟩, ⟨rfl, rfl⟩, by show c ≤ 600000; omega, by show s ≤ 7302250; omega⟩ (Nat.le_of_ble_eq_true rfl) (dk D_L_law_7 38 rfl) ?_
        refine g_icmp_eq (tgt := 1754) (dk D_L_law_7 39 rfl) rfl (fun hc195 => ?_) (fun hc195 => ?_)
        · refine g_wide (cs' := (c + 19, s + 95)) (by show c ≤ c + 19; omega) (by show s ≤ s + 95; omega) ?_
          exact hj1754 S I x3 h_r1 h_r2 hsx
        · refine g_iconst (v := (0 : Int32)) (dk D_L_law_7 40 rfl) rfl ?_
          exact g_lawret ⟨rfl, rfl, rfl⟩ (by show c ≤ 600000; omega) (by show s ≤ 7302250; omega) (dk D_L_law_7 41 rfl)
      refine g_ite (fun hc196 => ?_) (fun hc196 => ?_)
      · refine g_tabIn (tgt := 648) (off := 615) (dk D_L_law_0 21 rfl) (by rw [hc196] <;> decide +kernel) (by rw [hc196] <;> decide +kernel) (by rw [hc196] <;> decide +kernel) rfl ?_
        refine g_aload_n (dk D_L_law_7 42 rfl) rfl ?_
        refine g_aloadS_n (dk D_L_law_7 43 rfl) rfl ?_
        refine g_iload_n (dk D_L_law_7 44 rfl) rfl ?_
        refine g_iconst (v := (1 : Int32)) (dk D_L_law_7 45 rfl) rfl ?_
        refine g_iadd (dk D_L_law_7 46 rfl) ?_
        refine g_gd (fun hi197 => ?_)
        refine g_scld hi197 (dk D_L_law_7 47 rfl) ?_
        refine g_aloadS_n (dk D_L_law_7 48 rfl) rfl ?_
        refine g_iload_n (dk D_L_law_7 49 rfl) rfl ?_
        refine g_iconst (v := (2 : Int32)) (dk D_L_law_8 0 rfl) rfl ?_
        refine g_iadd (dk D_L_law_8 1 rfl) ?_
        refine g_gd (fun hi198 => ?_)
        refine g_scld hi198 (dk D_L_law_8 2 rfl) ?_
        refine g_gd (fun hn199 => ?_)
        refine g_bind (fun q200 hq201 => ?_)
        refine h_callV (st := []) (c_X10_served (E := E) fu S I (r1 - 1) (E.2.2.2.2.2.1.2.2 (nx (x3 + (1 : Int32)))) (E.2.2.2.2.2.1.2.2 (nx (x3 + (2 : Int32)))) q200 hq201 (h_r1.nz hn199)) cl_RL_57 h_r1 hn199 rfl rfl ⟨⟨by decide, by decide⟩, ⟨rfl, rfl⟩, by show c ≤ 600000; omega, by show s ≤ 7302250; omega⟩ (Nat.le_of_ble_eq_true rfl) (dk D_L_law_8 3 rfl) ?_
        refine g_aload_n (dk D_L_law_8 4 rfl) rfl ?_
        refine g_aloadS_n (dk D_L_law_8 5 rfl) rfl ?_
        refine g_iload_n (dk D_L_law_8 6 rfl) rfl ?_
        refine g_iconst (v := (1 : Int32)) (dk D_L_law_8 7 rfl) rfl ?_
        refine g_iadd (dk D_L_law_8 8 rfl) ?_
        refine g_scld hi197 (dk D_L_law_8 9 rfl) ?_
        refine g_aloadS_n (dk D_L_law_8 10 rfl) rfl ?_
        refine g_iload_n (dk D_L_law_8 11 rfl) rfl ?_
        refine g_iconst (v := (2 : Int32)) (dk D_L_law_8 12 rfl) rfl ?_
        refine g_iadd (dk D_L_law_8 13 rfl) ?_
        refine g_scld hi198 (dk D_L_law_8 14 rfl) ?_
        refine g_gd (fun hn205 => ?_)
        refine g_bind (fun q206 hq207 => ?_)
        refine h_callV (st := [vI q200]) (c_X11_served (E := E) fu S I (r2 - 1) (E.2.2.2.2.2.1.2.2 (nx (x3 + (1 : Int32)))) (E.2.2.2.2.2.1.2.2 (nx (x3 + (2 : Int32)))) q206 hq207 (h_r2.nz hn205)) cl_RL_60 h_r2 hn205 rfl rfl ⟨⟨by decide, by decide⟩, ⟨rfl, rfl⟩, by show c ≤ 600000; omega, by show s ≤ 7302250; omega⟩ (Nat.le_of_ble_eq_true rfl) (dk D_L_law_8 15 rfl) ?_
        refine g_icmp_eq (tgt := 1754) (dk D_L_law_8 16 rfl) rfl (fun hc209 => ?_) (fun hc209 => ?_)
        · refine g_wide (cs' := (c + 19, s + 95)) (by show c ≤ c + 19; omega) (by show s ≤ s + 95; omega) ?_
          exact hj1754 S I x3 h_r1 h_r2 hsx
        · refine g_iconst (v := (0 : Int32)) (dk D_L_law_8 17 rfl) rfl ?_
          exact g_lawret ⟨rfl, rfl, rfl⟩ (by show c ≤ 600000; omega) (by show s ≤ 7302250; omega) (dk D_L_law_8 18 rfl)
      refine g_ite (fun hc210 => ?_) (fun hc210 => ?_)
      · refine g_tabIn (tgt := 681) (off := 648) (dk D_L_law_0 21 rfl) (by rw [hc210] <;> decide +kernel) (by rw [hc210] <;> decide +kernel) (by rw [hc210] <;> decide +kernel) rfl ?_
        refine g_aload_n (dk D_L_law_8 19 rfl) rfl ?_
        refine g_aloadS_n (dk D_L_law_8 20 rfl) rfl ?_
        refine g_iload_n (dk D_L_law_8 21 rfl) rfl ?_
        refine g_iconst (v := (1 : Int32)) (dk D_L_law_8 22 rfl) rfl ?_
        refine g_iadd (dk D_L_law_8 23 rfl) ?_
        refine g_gd (fun hi211 => ?_)
        refine g_scld hi211 (dk D_L_law_8 24 rfl) ?_
        refine g_gd (fun hn212 => ?_)
        refine g_bind (fun q213 hq214 => ?_)
        refine h_callV (st := []) (c_X10_breach (E := E) fu S I (r1 - 1) (E.2.2.2.2.2.1.2.2 (nx (x3 + (1 : Int32)))) q213 hq214 (h_r1.nz hn212)) cl_RL_61 h_r1 hn212 rfl rfl ⟨⟨by decide, by decide⟩, ⟨rfl, rfl⟩, by show c ≤ 600000; omega, by show s ≤ 7302250; omega⟩ (Nat.le_of_ble_eq_true rfl) (dk D_L_law_8 25 rfl) ?_
        refine g_aload_n (dk D_L_law_8 26 rfl) rfl ?_
        refine g_aloadS_n (dk D_L_law_8 27 rfl) rfl ?_
        refine g_iload_n (dk D_L_law_8 28 rfl) rfl ?_
        refine g_iconst (v := (1 : Int32)) (dk D_L_law_8 29 rfl) rfl ?_
        refine g_iadd (dk D_L_law_8 30 rfl) ?_
        refine g_scld hi211 (dk D_L_law_8 31 rfl) ?_
        refine g_gd (fun hn217 => ?_)
        refine g_bind (fun q218 hq219 => ?_)
        refine h_callV (st := [vI q213]) (c_X11_breach (E := E) fu S I (r2 - 1) (E.2.2.2.2.2.1.2.2 (nx (x3 + (1 : Int32)))) q218 hq219 (h_r2.nz hn217)) cl_RL_65 h_r2 hn217 rfl rfl ⟨⟨by decide, by decide⟩, ⟨rfl, rfl⟩, by show c ≤ 600000; omega, by show s ≤ 7302250; omega⟩ (Nat.le_of_ble_eq_true rfl) (dk D_L_law_8 32 rfl) ?_
        refine g_icmp_eq (tgt := 1754) (dk D_L_law_8 33 rfl) rfl (fun hc221 => ?_) (fun hc221 => ?_)
        · refine g_wide (cs' := (c + 19, s + 95)) (by show c ≤ c + 19; omega) (by show s ≤ s + 95; omega) ?_
          exact hj1754 S I x3 h_r1 h_r2 hsx
        · refine g_iconst (v := (0 : Int32)) (dk D_L_law_8 34 rfl) rfl ?_
          exact g_lawret ⟨rfl, rfl, rfl⟩ (by show c ≤ 600000; omega) (by show s ≤ 7302250; omega) (dk D_L_law_8 35 rfl)
      refine g_ite (fun hc222 => ?_) (fun hc222 => ?_)
      · refine g_tabIn (tgt := 704) (off := 671) (dk D_L_law_0 21 rfl) (by rw [hc222] <;> decide +kernel) (by rw [hc222] <;> decide +kernel) (by rw [hc222] <;> decide +kernel) rfl ?_
        refine g_aload_n (dk D_L_law_8 36 rfl) rfl ?_
        refine g_aloadS_n (dk D_L_law_8 37 rfl) rfl ?_
        refine g_iload_n (dk D_L_law_8 38 rfl) rfl ?_
        refine g_iconst (v := (1 : Int32)) (dk D_L_law_8 39 rfl) rfl ?_
        refine g_iadd (dk D_L_law_8 40 rfl) ?_
        refine g_gd (fun hi223 => ?_)
        refine g_scld hi223 (dk D_L_law_8 41 rfl) ?_
        refine g_aloadS_n (dk D_L_law_8 42 rfl) rfl ?_
        refine g_iload_n (dk D_L_law_8 43 rfl) rfl ?_
        refine g_iconst (v := (2 : Int32)) (dk D_L_law_8 44 rfl) rfl ?_
        refine g_iadd (dk D_L_law_8 45 rfl) ?_
        refine g_gd (fun hi224 => ?_)
        refine g_scld hi224 (dk D_L_law_8 46 rfl) ?_
        refine g_aloadS_n (dk D_L_law_8 47 rfl) rfl ?_
        refine g_iload_n (dk D_L_law_8 48 rfl) rfl ?_
        refine g_iconst (v := (3 : Int32)) (dk D_L_law_8 49 rfl) rfl ?_
        refine g_iadd (dk D_L_law_9 0 rfl) ?_
        refine g_gd (fun hi225 => ?_)
        refine g_scld hi225 (dk D_L_law_9 1 rfl) ?_
        refine g_aloadS_n (dk D_L_law_9 2 rfl) rfl ?_
        refine g_iload_n (dk D_L_law_9 3 rfl) rfl ?_
        refine g_iconst (v := (4 : Int32)) (dk D_L_law_9 4 rfl) rfl ?_
        refine g_iadd (dk D_L_law_9 5 rfl) ?_
        refine g_gd (fun hi226 => ?_)
        refine g_scld hi226 (dk D_L_law_9 6 rfl) ?_
        refine g_aloadS_n (dk D_L_law_9 7 rfl) rfl ?_
        refine g_iload_n (dk D_L_law_9 8 rfl) rfl ?_
        refine g_iconst (v := (5 : Int32)) (dk D_L_law_9 9 rfl) rfl ?_
        refine g_iadd (dk D_L_law_9 10 rfl) ?_
        refine g_gd (fun hi227 => ?_)
        refine g_scld hi227 (dk D_L_law_9 11 rfl) ?_
        refine g_gd (fun hn228 => ?_)
        refine g_bind (fun q229 hq230 => ?_)
        refine g_callV' (st := []) (c_X10_trip (E := E) fu S I (r1 - 1) (E.2.2.2.2.2.1.2.2 (nx (x3 + (1 : Int32)))) (E.2.2.2.2.2.1.2.2 (nx (x3 + (2 : Int32)))) (E.2.2.2.2.2.1.2.2 (nx (x3 + (3 : Int32)))) (E.2.2.2.2.2.1.2.2 (nx (x3 + (4 : Int32)))) (E.2.2.2.2.2.1.2.2 (nx (x3 + (5 : Int32)))) q229 hq230 (h_r1.nz hn228)) cl_RL_66.1 cl_RL_66.2.1 cl_RL_66.2.2.1 cl_RL_66.2.2.2 h_r1 hn228 rfl rfl ⟨⟨by decide, by decide⟩, by show c + 1 ≤ 600000; omega, by show s + 5 ≤ 7302250; omega⟩ (Nat.le_of_ble_eq_true rfl) (dk D_L_law_9 12 rfl) (fun hx232 ht231 => ?_)
        refine g_wide (cs' := (c + 1, s + 5)) (by show c + 1 ≤ c + 1; omega) (by show s + 5 ≤ s + 5; omega) ?_
        have ht233 := h_r1.x hx232
        have ht234 := h_r2.x hx232
        have hsx235 := Sx.tr hsx hx232
        refine g_aload_n (dk D_L_law_9 13 rfl) rfl ?_
        refine g_aloadS_n (dk D_L_law_9 14 rfl) rfl ?_
        refine g_iload_n (dk D_L_law_9 15 rfl) rfl ?_
        refine g_iconst (v := (1 : Int32)) (dk D_L_law_9 16 rfl) rfl ?_
        refine g_iadd (dk D_L_law_9 17 rfl) ?_
        refine g_gd (fun hi236 => ?_)
        refine g_scld hi236 (dk D_L_law_9 18 rfl) ?_
        refine g_aloadS_n (dk D_L_law_9 19 rfl) rfl ?_
        refine g_iload_n (dk D_L_law_9 20 rfl) rfl ?_
        refine g_iconst (v := (2 : Int32)) (dk D_L_law_9 21 rfl) rfl ?_
        refine g_iadd (dk D_L_law_9 22 rfl) ?_
        refine g_gd (fun hi237 => ?_)
        refine g_scld hi237 (dk D_L_law_9 23 rfl) ?_
        refine g_aloadS_n (dk D_L_law_9 24 rfl) rfl ?_
        refine g_iload_n (dk D_L_law_9 25 rfl) rfl ?_
        refine g_iconst (v := (3 : Int32)) (dk D_L_law_9 26 rfl) rfl ?_
        refine g_iadd (dk D_L_law_9 27 rfl) ?_
        refine g_gd (fun hi238 => ?_)
        refine g_scld hi238 (dk D_L_law_9 28 rfl) ?_
        refine g_aloadS_n (dk D_L_law_9 29 rfl) rfl ?_
        refine g_iload_n (dk D_L_law_9 30 rfl) rfl ?_
        refine g_iconst (v := (4 : Int32)) (dk D_L_law_9 31 rfl) rfl ?_
        refine g_iadd (dk D_L_law_9 32 rfl) ?_
        refine g_gd (fun hi239 => ?_)
        refine g_scld hi239 (dk D_L_law_9 33 rfl) ?_
        refine g_aloadS_n (dk D_L_law_9 34 rfl) rfl ?_
        refine g_iload_n (dk D_L_law_9 35 rfl) rfl ?_
        refine g_iconst (v := (5 : Int32)) (dk D_L_law_9 36 rfl) rfl ?_
        refine g_iadd (dk D_L_law_9 37 rfl) ?_
        refine g_gd (fun hi240 => ?_)
        refine g_scld hi240 (dk D_L_law_9 38 rfl) ?_
        refine g_gd (fun hn241 => ?_)
        refine g_bind (fun q242 hq243 => ?_)
        refine h_callV (st := [vI q229.1]) (c_X11_trip (E := E) fu q229.2.1 q229.2.2 (r2 - 1) (E.2.2.2.2.2.1.2.2 (nx (x3 + (1 : Int32)))) (E.2.2.2.2.2.1.2.2 (nx (x3 + (2 : Int32)))) (E.2.2.2.2.2.1.2.2 (nx (x3 + (3 : Int32)))) (E.2.2.2.2.2.1.2.2 (nx (x3 + (4 : Int32)))) (E.2.2.2.2.2.1.2.2 (nx (x3 + (5 : Int32)))) q242 hq243 (ht234.nz hn241)) cl_RL_70 ht234 hn241 rfl rfl ⟨⟨by decide, by decide⟩, ⟨rfl, rfl⟩, by show c + 1 ≤ 600000; omega, by show s + 5 ≤ 7302250; omega⟩ (Nat.le_of_ble_eq_true rfl) (dk D_L_law_9 39 rfl) ?_
        refine g_icmp_eq (tgt := 1754) (dk D_L_law_9 40 rfl) rfl (fun hc245 => ?_) (fun hc245 => ?_)
        · refine g_wide (cs' := (c + 19, s + 95)) (by show c + 1 ≤ c + 19; omega) (by show s + 5 ≤ s + 95; omega) ?_
          exact hj1754 q229.2.1 q242.2 x3 ht233 ht234 hsx235
        · refine g_iconst (v := (0 : Int32)) (dk D_L_law_9 41 rfl) rfl ?_
          exact g_lawret ⟨rfl, rfl, rfl⟩ (by show c + 1 ≤ 600000; omega) (by show s + 5 ≤ 7302250; omega) (dk D_L_law_9 42 rfl)
      refine g_ite (fun hc246 => ?_) (fun hc246 => ?_)
      · refine g_tabIn (tgt := 767) (off := 734) (dk D_L_law_0 21 rfl) (by rw [hc246] <;> decide +kernel) (by rw [hc246] <;> decide +kernel) (by rw [hc246] <;> decide +kernel) rfl ?_
        refine g_aload_n (dk D_L_law_9 43 rfl) rfl ?_
        refine g_aloadS_n (dk D_L_law_9 44 rfl) rfl ?_
        refine g_iload_n (dk D_L_law_9 45 rfl) rfl ?_
        refine g_iconst (v := (1 : Int32)) (dk D_L_law_9 46 rfl) rfl ?_
        refine g_iadd (dk D_L_law_9 47 rfl) ?_
        refine g_gd (fun hi247 => ?_)
        refine g_scld hi247 (dk D_L_law_9 48 rfl) ?_
        refine g_aloadS_n (dk D_L_law_9 49 rfl) rfl ?_
        refine g_iload_n (dk D_L_law_10 0 rfl) rfl ?_
        refine g_iconst (v := (2 : Int32)) (dk D_L_law_10 1 rfl) rfl ?_
        refine g_iadd (dk D_L_law_10 2 rfl) ?_
        refine g_gd (fun hi248 => ?_)
        refine g_scld hi248 (dk D_L_law_10 3 rfl) ?_
        refine g_aloadS_n (dk D_L_law_10 4 rfl) rfl ?_
        refine g_iload_n (dk D_L_law_10 5 rfl) rfl ?_
        refine g_iconst (v := (3 : Int32)) (dk D_L_law_10 6 rfl) rfl ?_
        refine g_iadd (dk D_L_law_10 7 rfl) ?_
        refine g_gd (fun hi249 => ?_)
        refine g_scld hi249 (dk D_L_law_10 8 rfl) ?_
        refine g_gd (fun hn250 => ?_)
        refine g_bind (fun q251 hq252 => ?_)
        refine h_callV (st := []) (c_X10_way (E := E) fu S I (r1 - 1) (E.2.2.2.2.2.1.2.2 (nx (x3 + (1 : Int32)))) (E.2.2.2.2.2.1.2.2 (nx (x3 + (2 : Int32)))) (E.2.2.2.2.2.1.2.2 (nx (x3 + (3 : Int32)))) q251 hq252 (h_r1.nz hn250)) cl_RL_71 h_r1 hn250 rfl rfl ⟨⟨by decide, by decide⟩, ⟨rfl, rfl⟩, by show c ≤ 600000; omega, by show s ≤ 7302250; omega⟩ (Nat.le_of_ble_eq_true rfl) (dk D_L_law_10 9 rfl) ?_
        refine g_aload_n (dk D_L_law_10 10 rfl) rfl ?_
        refine g_aloadS_n (dk D_L_law_10 11 rfl) rfl ?_
        refine g_iload_n (dk D_L_law_10 12 rfl) rfl ?_
        refine g_iconst (v := (1 : Int32)) (dk D_L_law_10 13 rfl) rfl ?_
        refine g_iadd (dk D_L_law_10 14 rfl) ?_
        refine g_scld hi247 (dk D_L_law_10 15 rfl) ?_
        refine g_aloadS_n (dk D_L_law_10 16 rfl) rfl ?_
        refine g_iload_n (dk D_L_law_10 17 rfl) rfl ?_
        refine g_iconst (v := (2 : Int32)) (dk D_L_law_10 18 rfl) rfl ?_
        refine g_iadd (dk D_L_law_10 19 rfl) ?_
        refine g_scld hi248 (dk D_L_law_10 20 rfl) ?_
        refine g_aloadS_n (dk D_L_law_10 21 rfl) rfl ?_
        refine g_iload_n (dk D_L_law_10 22 rfl) rfl ?_
        refine g_iconst (v := (3 : Int32)) (dk D_L_law_10 23 rfl) rfl ?_
        refine g_iadd (dk D_L_law_10 24 rfl) ?_
        refine g_scld hi249 (dk D_L_law_10 25 rfl) ?_
        refine g_gd (fun hn257 => ?_)
        refine g_bind (fun q258 hq259 => ?_)
        refine h_callV (st := [vI q251.1]) (c_X11_way (E := E) fu S q251.2 (r2 - 1) (E.2.2.2.2.2.1.2.2 (nx (x3 + (1 : Int32)))) (E.2.2.2.2.2.1.2.2 (nx (x3 + (2 : Int32)))) (E.2.2.2.2.2.1.2.2 (nx (x3 + (3 : Int32)))) q258 hq259 (h_r2.nz hn257)) cl_RL_74 h_r2 hn257 rfl rfl ⟨⟨by decide, by decide⟩, ⟨rfl, rfl⟩, by show c ≤ 600000; omega, by show s ≤ 7302250; omega⟩ (Nat.le_of_ble_eq_true rfl) (dk D_L_law_10 26 rfl) ?_
        refine g_icmp_eq (tgt := 1754) (dk D_L_law_10 27 rfl) rfl (fun hc261 => ?_) (fun hc261 => ?_)
        · refine g_wide (cs' := (c + 19, s + 95)) (by show c ≤ c + 19; omega) (by show s ≤ s + 95; omega) ?_
          exact hj1754 S q258.2 x3 h_r1 h_r2 hsx
        · refine g_iconst (v := (0 : Int32)) (dk D_L_law_10 28 rfl) rfl ?_
          exact g_lawret ⟨rfl, rfl, rfl⟩ (by show c ≤ 600000; omega) (by show s ≤ 7302250; omega) (dk D_L_law_10 29 rfl)
      refine g_ite (fun hc262 => ?_) (fun hc262 => ?_)
      · refine g_tabIn (tgt := 810) (off := 777) (dk D_L_law_0 21 rfl) (by rw [hc262] <;> decide +kernel) (by rw [hc262] <;> decide +kernel) (by rw [hc262] <;> decide +kernel) rfl ?_
        refine g_aload_n (dk D_L_law_10 30 rfl) rfl ?_
        refine g_aloadS_n (dk D_L_law_10 31 rfl) rfl ?_
        refine g_iload_n (dk D_L_law_10 32 rfl) rfl ?_
        refine g_iconst (v := (1 : Int32)) (dk D_L_law_10 33 rfl) rfl ?_
        refine g_iadd (dk D_L_law_10 34 rfl) ?_
        refine g_gd (fun hi263 => ?_)
        refine g_scld hi263 (dk D_L_law_10 35 rfl) ?_
        refine g_aloadS_n (dk D_L_law_10 36 rfl) rfl ?_
        refine g_iload_n (dk D_L_law_10 37 rfl) rfl ?_
        refine g_iconst (v := (2 : Int32)) (dk D_L_law_10 38 rfl) rfl ?_
        refine g_iadd (dk D_L_law_10 39 rfl) ?_
        refine g_gd (fun hi264 => ?_)
        refine g_scld hi264 (dk D_L_law_10 40 rfl) ?_
        refine g_aloadS_n (dk D_L_law_10 41 rfl) rfl ?_
        refine g_iload_n (dk D_L_law_10 42 rfl) rfl ?_
        refine g_iconst (v := (3 : Int32)) (dk D_L_law_10 43 rfl) rfl ?_
        refine g_iadd (dk D_L_law_10 44 rfl) ?_
        refine g_gd (fun hi265 => ?_)
        refine g_scld hi265 (dk D_L_law_10 45 rfl) ?_
        refine g_gd (fun hn266 => ?_)
        refine g_bind (fun q267 hq268 => ?_)
        refine h_callV (st := []) (c_X10_lose (E := E) fu S I (r1 - 1) (E.2.2.2.2.2.1.2.2 (nx (x3 + (1 : Int32)))) (E.2.2.2.2.2.1.2.2 (nx (x3 + (2 : Int32)))) (E.2.2.2.2.2.1.2.2 (nx (x3 + (3 : Int32)))) q267 hq268 (h_r1.nz hn266)) cl_RL_75 h_r1 hn266 rfl rfl ⟨⟨by decide, by decide⟩, ⟨rfl, rfl⟩, by show c ≤ 600000; omega, by show s ≤ 7302250; omega⟩ (Nat.le_of_ble_eq_true rfl) (dk D_L_law_10 46 rfl) ?_
        refine g_aload_n (dk D_L_law_10 47 rfl) rfl ?_
        refine g_aloadS_n (dk D_L_law_10 48 rfl) rfl ?_
        refine g_iload_n (dk D_L_law_10 49 rfl) rfl ?_
        refine g_iconst (v := (1 : Int32)) (dk D_L_law_11 0 rfl) rfl ?_
        refine g_iadd (dk D_L_law_11 1 rfl) ?_
        refine g_scld hi263 (dk D_L_law_11 2 rfl) ?_
        refine g_aloadS_n (dk D_L_law_11 3 rfl) rfl ?_
        refine g_iload_n (dk D_L_law_11 4 rfl) rfl ?_
        refine g_iconst (v := (2 : Int32)) (dk D_L_law_11 5 rfl) rfl ?_
        refine g_iadd (dk D_L_law_11 6 rfl) ?_
        refine g_scld hi264 (dk D_L_law_11 7 rfl) ?_
        refine g_aloadS_n (dk D_L_law_11 8 rfl) rfl ?_
        refine g_iload_n (dk D_L_law_11 9 rfl) rfl ?_
        refine g_iconst (v := (3 : Int32)) (dk D_L_law_11 10 rfl) rfl ?_
        refine g_iadd (dk D_L_law_11 11 rfl) ?_
        refine g_scld hi265 (dk D_L_law_11 12 rfl) ?_
        refine g_gd (fun hn273 => ?_)
        refine g_bind (fun q274 hq275 => ?_)
        refine h_callV (st := [vI q267.1]) (c_X11_lose (E := E) fu S q267.2 (r2 - 1) (E.2.2.2.2.2.1.2.2 (nx (x3 + (1 : Int32)))) (E.2.2.2.2.2.1.2.2 (nx (x3 + (2 : Int32)))) (E.2.2.2.2.2.1.2.2 (nx (x3 + (3 : Int32)))) q274 hq275 (h_r2.nz hn273)) cl_RL_78 h_r2 hn273 rfl rfl ⟨⟨by decide, by decide⟩, ⟨rfl, rfl⟩, by show c ≤ 600000; omega, by show s ≤ 7302250; omega⟩ (Nat.le_of_ble_eq_true rfl) (dk D_L_law_11 13 rfl) ?_
        refine g_icmp_eq (tgt := 1754) (dk D_L_law_11 14 rfl) rfl (fun hc277 => ?_) (fun hc277 => ?_)
        · refine g_wide (cs' := (c + 19, s + 95)) (by show c ≤ c + 19; omega) (by show s ≤ s + 95; omega) ?_
          exact hj1754 S q274.2 x3 h_r1 h_r2 hsx
        · refine g_iconst (v := (0 : Int32)) (dk D_L_law_11 15 rfl) rfl ?_
          exact g_lawret ⟨rfl, rfl, rfl⟩ (by show c ≤ 600000; omega) (by show s ≤ 7302250; omega) (dk D_L_law_11 16 rfl)
      refine g_ite (fun hc278 => ?_) (fun hc278 => ?_)
      · refine g_tabIn (tgt := 853) (off := 820) (dk D_L_law_0 21 rfl) (by rw [hc278] <;> decide +kernel) (by rw [hc278] <;> decide +kernel) (by rw [hc278] <;> decide +kernel) rfl ?_
        refine g_aload_n (dk D_L_law_11 17 rfl) rfl ?_
        refine g_aloadS_n (dk D_L_law_11 18 rfl) rfl ?_
        refine g_iload_n (dk D_L_law_11 19 rfl) rfl ?_
        refine g_iconst (v := (1 : Int32)) (dk D_L_law_11 20 rfl) rfl ?_
        refine g_iadd (dk D_L_law_11 21 rfl) ?_
        refine g_gd (fun hi279 => ?_)
        refine g_scld hi279 (dk D_L_law_11 22 rfl) ?_
        refine g_aloadS_n (dk D_L_law_11 23 rfl) rfl ?_
        refine g_iload_n (dk D_L_law_11 24 rfl) rfl ?_
        refine g_iconst (v := (2 : Int32)) (dk D_L_law_11 25 rfl) rfl ?_
        refine g_iadd (dk D_L_law_11 26 rfl) ?_
        refine g_gd (fun hi280 => ?_)
        refine g_scld hi280 (dk D_L_law_11 27 rfl) ?_
        refine g_aloadS_n (dk D_L_law_11 28 rfl) rfl ?_
        refine g_iload_n (dk D_L_law_11 29 rfl) rfl ?_
        refine g_iconst (v := (3 : Int32)) (dk D_L_law_11 30 rfl) rfl ?_
        refine g_iadd (dk D_L_law_11 31 rfl) ?_
        refine g_gd (fun hi281 => ?_)
        refine g_scld hi281 (dk D_L_law_11 32 rfl) ?_
        refine g_gd (fun hn282 => ?_)
        refine g_bind (fun q283 hq284 => ?_)
        refine h_callV (st := []) (c_X10_who (E := E) fu S I (r1 - 1) (E.2.2.2.2.2.1.2.2 (nx (x3 + (1 : Int32)))) (E.2.2.2.2.2.1.2.2 (nx (x3 + (2 : Int32)))) (E.2.2.2.2.2.1.2.2 (nx (x3 + (3 : Int32)))) q283 hq284 (h_r1.nz hn282)) cl_RL_79 h_r1 hn282 rfl rfl ⟨⟨by decide, by decide⟩, ⟨rfl, rfl⟩, by show c ≤ 600000; omega, by show s ≤ 7302250; omega⟩ (Nat.le_of_ble_eq_true rfl) (dk D_L_law_11 33 rfl) ?_
        refine g_aload_n (dk D_L_law_11 34 rfl) rfl ?_
        refine g_aloadS_n (dk D_L_law_11 35 rfl) rfl ?_
        refine g_iload_n (dk D_L_law_11 36 rfl) rfl ?_
        refine g_iconst (v := (1 : Int32)) (dk D_L_law_11 37 rfl) rfl ?_
        refine g_iadd (dk D_L_law_11 38 rfl) ?_
        refine g_scld hi279 (dk D_L_law_11 39 rfl) ?_
        refine g_aloadS_n (dk D_L_law_11 40 rfl) rfl ?_
        refine g_iload_n (dk D_L_law_11 41 rfl) rfl ?_
        refine g_iconst (v := (2 : Int32)) (dk D_L_law_11 42 rfl) rfl ?_
        refine g_iadd (dk D_L_law_11 43 rfl) ?_
        refine g_scld hi280 (dk D_L_law_11 44 rfl) ?_
        refine g_aloadS_n (dk D_L_law_11 45 rfl) rfl ?_
        refine g_iload_n (dk D_L_law_11 46 rfl) rfl ?_
        refine g_iconst (v := (3 : Int32)) (dk D_L_law_11 47 rfl) rfl ?_
        refine g_iadd (dk D_L_law_11 48 rfl) ?_
        refine g_scld hi281 (dk D_L_law_11 49 rfl) ?_
        refine g_gd (fun hn289 => ?_)
        refine g_bind (fun q290 hq291 => ?_)
        refine h_callV (st := [vI q283.1]) (c_X11_who (E := E) fu S q283.2 (r2 - 1) (E.2.2.2.2.2.1.2.2 (nx (x3 + (1 : Int32)))) (E.2.2.2.2.2.1.2.2 (nx (x3 + (2 : Int32)))) (E.2.2.2.2.2.1.2.2 (nx (x3 + (3 : Int32)))) q290 hq291 (h_r2.nz hn289)) cl_RL_82 h_r2 hn289 rfl rfl ⟨⟨by decide, by decide⟩, ⟨rfl, rfl⟩, by show c ≤ 600000; omega, by show s ≤ 7302250; omega⟩ (Nat.le_of_ble_eq_true rfl) (dk D_L_law_12 0 rfl) ?_
        refine g_icmp_eq (tgt := 1754) (dk D_L_law_12 1 rfl) rfl (fun hc293 => ?_) (fun hc293 => ?_)
        · refine g_wide (cs' := (c + 19, s + 95)) (by show c ≤ c + 19; omega) (by show s ≤ s + 95; omega) ?_
          exact hj1754 S q290.2 x3 h_r1 h_r2 hsx
        · refine g_iconst (v := (0 : Int32)) (dk D_L_law_12 2 rfl) rfl ?_
          exact g_lawret ⟨rfl, rfl, rfl⟩ (by show c ≤ 600000; omega) (by show s ≤ 7302250; omega) (dk D_L_law_12 3 rfl)
      refine g_ite (fun hc294 => ?_) (fun hc294 => ?_)
      · refine g_tabIn (tgt := 896) (off := 863) (dk D_L_law_0 21 rfl) (by rw [hc294] <;> decide +kernel) (by rw [hc294] <;> decide +kernel) (by rw [hc294] <;> decide +kernel) rfl ?_
        refine g_aload_n (dk D_L_law_12 4 rfl) rfl ?_
        refine g_aloadS_n (dk D_L_law_12 5 rfl) rfl ?_
        refine g_iload_n (dk D_L_law_12 6 rfl) rfl ?_
        refine g_iconst (v := (1 : Int32)) (dk D_L_law_12 7 rfl) rfl ?_
        refine g_iadd (dk D_L_law_12 8 rfl) ?_
        refine g_gd (fun hi295 => ?_)
        refine g_scld hi295 (dk D_L_law_12 9 rfl) ?_
        refine g_gd (fun hn296 => ?_)
        refine g_bind (fun q297 hq298 => ?_)
        refine g_callV' (st := []) (c_X10_offer (E := E) fu S I (r1 - 1) (E.2.2.2.2.2.1.2.2 (nx (x3 + (1 : Int32)))) q297 hq298 (h_r1.nz hn296)) cl_RL_83.1 cl_RL_83.2.1 cl_RL_83.2.2.1 cl_RL_83.2.2.2 h_r1 hn296 rfl rfl ⟨⟨by decide, by decide⟩, by show c + 0 ≤ 600000; omega, by show s + 0 ≤ 7302250; omega⟩ (Nat.le_of_ble_eq_true rfl) (dk D_L_law_12 10 rfl) (fun hx300 ht299 => ?_)
        refine g_wide (cs' := (c, s)) (by show c + 0 ≤ c; omega) (by show s + 0 ≤ s; omega) ?_
        have ht301 := h_r1.x hx300
        have ht302 := h_r2.x hx300
        have hsx303 := Sx.tr hsx hx300
        refine g_aload_n (dk D_L_law_12 11 rfl) rfl ?_
        refine g_aloadS_n (dk D_L_law_12 12 rfl) rfl ?_
        refine g_iload_n (dk D_L_law_12 13 rfl) rfl ?_
        refine g_iconst (v := (1 : Int32)) (dk D_L_law_12 14 rfl) rfl ?_
        refine g_iadd (dk D_L_law_12 15 rfl) ?_
        refine g_gd (fun hi304 => ?_)
        refine g_scld hi304 (dk D_L_law_12 16 rfl) ?_
        refine g_gd (fun hn305 => ?_)
        refine g_bind (fun q306 hq307 => ?_)
        refine h_callV (st := [vI q297.1]) (c_X11_offer (E := E) fu q297.2.1 q297.2.2 (r2 - 1) (E.2.2.2.2.2.1.2.2 (nx (x3 + (1 : Int32)))) q306 hq307 (ht302.nz hn305)) cl_RL_86 ht302 hn305 rfl rfl ⟨⟨by decide, by decide⟩, ⟨rfl, rfl⟩, by show c ≤ 600000; omega, by show s ≤ 7302250; omega⟩ (Nat.le_of_ble_eq_true rfl) (dk D_L_law_12 17 rfl) ?_
        refine g_icmp_eq (tgt := 1754) (dk D_L_law_12 18 rfl) rfl (fun hc309 => ?_) (fun hc309 => ?_)
        · refine g_wide (cs' := (c + 19, s + 95)) (by show c ≤ c + 19; omega) (by show s ≤ s + 95; omega) ?_
          exact hj1754 q297.2.1 q306.2 x3 ht301 ht302 hsx303
        · refine g_iconst (v := (0 : Int32)) (dk D_L_law_12 19 rfl) rfl ?_
          exact g_lawret ⟨rfl, rfl, rfl⟩ (by show c ≤ 600000; omega) (by show s ≤ 7302250; omega) (dk D_L_law_12 20 rfl)
      refine g_ite (fun hc310 => ?_) (fun hc310 => ?_)
      · refine g_tabIn (tgt := 919) (off := 886) (dk D_L_law_0 21 rfl) (by rw [hc310] <;> decide +kernel) (by rw [hc310] <;> decide +kernel) (by rw [hc310] <;> decide +kernel) rfl ?_
        refine g_aload_n (dk D_L_law_12 21 rfl) rfl ?_
        refine g_aloadS_n (dk D_L_law_12 22 rfl) rfl ?_
        refine g_iload_n (dk D_L_law_12 23 rfl) rfl ?_
        refine g_iconst (v := (1 : Int32)) (dk D_L_law_12 24 rfl) rfl ?_
        refine g_iadd (dk D_L_law_12 25 rfl) ?_
        refine g_gd (fun hi311 => ?_)
        refine g_scld hi311 (dk D_L_law_12 26 rfl) ?_
        refine g_aloadS_n (dk D_L_law_12 27 rfl) rfl ?_
        refine g_iload_n (dk D_L_law_12 28 rfl) rfl ?_
        refine g_iconst (v := (2 : Int32)) (dk D_L_law_12 29 rfl) rfl ?_
        refine g_iadd (dk D_L_law_12 30 rfl) ?_
        refine g_gd (fun hi312 => ?_)
        refine g_scld hi312 (dk D_L_law_12 31 rfl) ?_
        refine g_aloadS_n (dk D_L_law_12 32 rfl) rfl ?_
        refine g_iload_n (dk D_L_law_12 33 rfl) rfl ?_
        refine g_iconst (v := (3 : Int32)) (dk D_L_law_12 34 rfl) rfl ?_
        refine g_iadd (dk D_L_law_12 35 rfl) ?_
        refine g_gd (fun hi313 => ?_)
        refine g_scld hi313 (dk D_L_law_12 36 rfl) ?_
        refine g_gd (fun hn314 => ?_)
        refine g_bind (fun q315 hq316 => ?_)
        refine g_callV' (st := []) (c_X10_best (E := E) fu S I (r1 - 1) (E.2.2.2.2.2.1.2.2 (nx (x3 + (1 : Int32)))) (E.2.2.2.2.2.1.2.2 (nx (x3 + (2 : Int32)))) (E.2.2.2.2.2.1.2.2 (nx (x3 + (3 : Int32)))) q315 hq316 (h_r1.nz hn314)) cl_RL_87.1 cl_RL_87.2.1 cl_RL_87.2.2.1 cl_RL_87.2.2.2 h_r1 hn314 rfl rfl ⟨⟨by decide, by decide⟩, by show c + 19 ≤ 600000; omega, by show s + 57 ≤ 7302250; omega⟩ (Nat.le_of_ble_eq_true rfl) (dk D_L_law_12 37 rfl) (fun hx318 ht317 => ?_)
        refine g_wide (cs' := (c + 19, s + 57)) (by show c + 19 ≤ c + 19; omega) (by show s + 57 ≤ s + 57; omega) ?_
        have ht319 := h_r1.x hx318
        have ht320 := h_r2.x hx318
        have hsx321 := Sx.tr hsx hx318
        refine g_aload_n (dk D_L_law_12 38 rfl) rfl ?_
        refine g_aloadS_n (dk D_L_law_12 39 rfl) rfl ?_
        refine g_iload_n (dk D_L_law_12 40 rfl) rfl ?_
        refine g_iconst (v := (1 : Int32)) (dk D_L_law_12 41 rfl) rfl ?_
        refine g_iadd (dk D_L_law_12 42 rfl) ?_
        refine g_gd (fun hi322 => ?_)
        refine g_scld hi322 (dk D_L_law_12 43 rfl) ?_
        refine g_aloadS_n (dk D_L_law_12 44 rfl) rfl ?_
        refine g_iload_n (dk D_L_law_12 45 rfl) rfl ?_
        refine g_iconst (v := (2 : Int32)) (dk D_L_law_12 46 rfl) rfl ?_
        refine g_iadd (dk D_L_law_12 47 rfl) ?_
        refine g_gd (fun hi323 => ?_)
        refine g_scld hi323 (dk D_L_law_12 48 rfl) ?_
        refine g_aloadS_n (dk D_L_law_12 49 rfl) rfl ?_
        refine g_iload_n (dk D_L_law_13 0 rfl) rfl ?_
        refine g_iconst (v := (3 : Int32)) (dk D_L_law_13 1 rfl) rfl ?_
        refine g_iadd (dk D_L_law_13 2 rfl) ?_
        refine g_gd (fun hi324 => ?_)
        refine g_scld hi324 (dk D_L_law_13 3 rfl) ?_
        refine g_gd (fun hn325 => ?_)
        refine g_bind (fun q326 hq327 => ?_)
        refine h_callV (st := [vI q315.1]) (c_X11_best (E := E) fu q315.2.1 q315.2.2 (r2 - 1) (E.2.2.2.2.2.1.2.2 (nx (x3 + (1 : Int32)))) (E.2.2.2.2.2.1.2.2 (nx (x3 + (2 : Int32)))) (E.2.2.2.2.2.1.2.2 (nx (x3 + (3 : Int32)))) q326 hq327 (ht320.nz hn325)) cl_RL_90 ht320 hn325 rfl rfl ⟨⟨by decide, by decide⟩, ⟨rfl, rfl⟩, by show c + 19 ≤ 600000; omega, by show s + 57 ≤ 7302250; omega⟩ (Nat.le_of_ble_eq_true rfl) (dk D_L_law_13 4 rfl) ?_
        refine g_icmp_eq (tgt := 1754) (dk D_L_law_13 5 rfl) rfl (fun hc329 => ?_) (fun hc329 => ?_)
        · refine g_wide (cs' := (c + 19, s + 95)) (by show c + 19 ≤ c + 19; omega) (by show s + 57 ≤ s + 95; omega) ?_
          exact hj1754 q315.2.1 q326.2 x3 ht319 ht320 hsx321
        · refine g_iconst (v := (0 : Int32)) (dk D_L_law_13 6 rfl) rfl ?_
          exact g_lawret ⟨rfl, rfl, rfl⟩ (by show c + 19 ≤ 600000; omega) (by show s + 57 ≤ 7302250; omega) (dk D_L_law_13 7 rfl)
      refine g_ite (fun hc330 => ?_) (fun hc330 => ?_)
      · refine g_tabIn (tgt := 962) (off := 929) (dk D_L_law_0 21 rfl) (by rw [hc330] <;> decide +kernel) (by rw [hc330] <;> decide +kernel) (by rw [hc330] <;> decide +kernel) rfl ?_
        refine g_aload_n (dk D_L_law_13 8 rfl) rfl ?_
        refine g_aloadS_n (dk D_L_law_13 9 rfl) rfl ?_
        refine g_iload_n (dk D_L_law_13 10 rfl) rfl ?_
        refine g_iconst (v := (1 : Int32)) (dk D_L_law_13 11 rfl) rfl ?_
        refine g_iadd (dk D_L_law_13 12 rfl) ?_
        refine g_gd (fun hi331 => ?_)
        refine g_scld hi331 (dk D_L_law_13 13 rfl) ?_
        refine g_aloadS_n (dk D_L_law_13 14 rfl) rfl ?_
        refine g_iload_n (dk D_L_law_13 15 rfl) rfl ?_
        refine g_iconst (v := (2 : Int32)) (dk D_L_law_13 16 rfl) rfl ?_
        refine g_iadd (dk D_L_law_13 17 rfl) ?_
        refine g_gd (fun hi332 => ?_)
        refine g_scld hi332 (dk D_L_law_13 18 rfl) ?_
        refine g_aloadS_n (dk D_L_law_13 19 rfl) rfl ?_
        refine g_iload_n (dk D_L_law_13 20 rfl) rfl ?_
        refine g_iconst (v := (3 : Int32)) (dk D_L_law_13 21 rfl) rfl ?_
        refine g_iadd (dk D_L_law_13 22 rfl) ?_
        refine g_gd (fun hi333 => ?_)
        refine g_scld hi333 (dk D_L_law_13 23 rfl) ?_
        refine g_gd (fun hn334 => ?_)
        refine g_bind (fun q335 hq336 => ?_)
        refine g_callV' (st := []) (c_X10_depot (E := E) fu S I (r1 - 1) (E.2.2.2.2.2.1.2.2 (nx (x3 + (1 : Int32)))) (E.2.2.2.2.2.1.2.2 (nx (x3 + (2 : Int32)))) (E.2.2.2.2.2.1.2.2 (nx (x3 + (3 : Int32)))) q335 hq336 (h_r1.nz hn334)) cl_RL_91.1 cl_RL_91.2.1 cl_RL_91.2.2.1 cl_RL_91.2.2.2 h_r1 hn334 rfl rfl ⟨⟨by decide, by decide⟩, by show c + 1 ≤ 600000; omega, by show s + 3 ≤ 7302250; omega⟩ (Nat.le_of_ble_eq_true rfl) (dk D_L_law_13 24 rfl) (fun hx338 ht337 => ?_)
        refine g_wide (cs' := (c + 1, s + 3)) (by show c + 1 ≤ c + 1; omega) (by show s + 3 ≤ s + 3; omega) ?_
        have ht339 := h_r1.x hx338
        have ht340 := h_r2.x hx338
        have hsx341 := Sx.tr hsx hx338
        refine g_aload_n (dk D_L_law_13 25 rfl) rfl ?_
        refine g_aloadS_n (dk D_L_law_13 26 rfl) rfl ?_
        refine g_iload_n (dk D_L_law_13 27 rfl) rfl ?_
        refine g_iconst (v := (1 : Int32)) (dk D_L_law_13 28 rfl) rfl ?_
        refine g_iadd (dk D_L_law_13 29 rfl) ?_
        refine g_gd (fun hi342 => ?_)
        refine g_scld hi342 (dk D_L_law_13 30 rfl) ?_
        refine g_aloadS_n (dk D_L_law_13 31 rfl) rfl ?_
        refine g_iload_n (dk D_L_law_13 32 rfl) rfl ?_
        refine g_iconst (v := (2 : Int32)) (dk D_L_law_13 33 rfl) rfl ?_
        refine g_iadd (dk D_L_law_13 34 rfl) ?_
        refine g_gd (fun hi343 => ?_)
        refine g_scld hi343 (dk D_L_law_13 35 rfl) ?_
        refine g_aloadS_n (dk D_L_law_13 36 rfl) rfl ?_
        refine g_iload_n (dk D_L_law_13 37 rfl) rfl ?_
        refine g_iconst (v := (3 : Int32)) (dk D_L_law_13 38 rfl) rfl ?_
        refine g_iadd (dk D_L_law_13 39 rfl) ?_
        refine g_gd (fun hi344 => ?_)
        refine g_scld hi344 (dk D_L_law_13 40 rfl) ?_
        refine g_gd (fun hn345 => ?_)
        refine g_bind (fun q346 hq347 => ?_)
        refine h_callV (st := [vI q335.1]) (c_X11_depot (E := E) fu q335.2.1 q335.2.2 (r2 - 1) (E.2.2.2.2.2.1.2.2 (nx (x3 + (1 : Int32)))) (E.2.2.2.2.2.1.2.2 (nx (x3 + (2 : Int32)))) (E.2.2.2.2.2.1.2.2 (nx (x3 + (3 : Int32)))) q346 hq347 (ht340.nz hn345)) cl_RL_94 ht340 hn345 rfl rfl ⟨⟨by decide, by decide⟩, ⟨rfl, rfl⟩, by show c + 1 ≤ 600000; omega, by show s + 3 ≤ 7302250; omega⟩ (Nat.le_of_ble_eq_true rfl) (dk D_L_law_13 41 rfl) ?_
        refine g_icmp_eq (tgt := 1754) (dk D_L_law_13 42 rfl) rfl (fun hc349 => ?_) (fun hc349 => ?_)
        · refine g_wide (cs' := (c + 19, s + 95)) (by show c + 1 ≤ c + 19; omega) (by show s + 3 ≤ s + 95; omega) ?_
          exact hj1754 q335.2.1 q346.2 x3 ht339 ht340 hsx341
        · refine g_iconst (v := (0 : Int32)) (dk D_L_law_13 43 rfl) rfl ?_
          exact g_lawret ⟨rfl, rfl, rfl⟩ (by show c + 1 ≤ 600000; omega) (by show s + 3 ≤ 7302250; omega) (dk D_L_law_13 44 rfl)
      refine g_ite (fun hc350 => ?_) (fun hc350 => ?_)
      · refine g_tabIn (tgt := 1005) (off := 972) (dk D_L_law_0 21 rfl) (by rw [hc350] <;> decide +kernel) (by rw [hc350] <;> decide +kernel) (by rw [hc350] <;> decide +kernel) rfl ?_
        refine g_aload_n (dk D_L_law_13 45 rfl) rfl ?_
        refine g_aloadS_n (dk D_L_law_13 46 rfl) rfl ?_
        refine g_iload_n (dk D_L_law_13 47 rfl) rfl ?_
        refine g_iconst (v := (1 : Int32)) (dk D_L_law_13 48 rfl) rfl ?_
        refine g_iadd (dk D_L_law_13 49 rfl) ?_
        refine g_gd (fun hi351 => ?_)
        refine g_scld hi351 (dk D_L_law_14 0 rfl) ?_
        refine g_aloadS_n (dk D_L_law_14 1 rfl) rfl ?_
        refine g_iload_n (dk D_L_law_14 2 rfl) rfl ?_
        refine g_iconst (v := (2 : Int32)) (dk D_L_law_14 3 rfl) rfl ?_
        refine g_iadd (dk D_L_law_14 4 rfl) ?_
        refine g_gd (fun hi352 => ?_)
        refine g_scld hi352 (dk D_L_law_14 5 rfl) ?_
        refine g_gd (fun hn353 => ?_)
        refine g_bind (fun q354 hq355 => ?_)
        refine h_callV (st := []) (c_X10_empty (E := E) fu S I (r1 - 1) (E.2.2.2.2.2.1.2.2 (nx (x3 + (1 : Int32)))) (E.2.2.2.2.2.1.2.2 (nx (x3 + (2 : Int32)))) q354 hq355 (h_r1.nz hn353)) cl_RL_95 h_r1 hn353 rfl rfl ⟨⟨by decide, by decide⟩, ⟨rfl, rfl⟩, by show c ≤ 600000; omega, by show s ≤ 7302250; omega⟩ (Nat.le_of_ble_eq_true rfl) (dk D_L_law_14 6 rfl) ?_
        refine g_aload_n (dk D_L_law_14 7 rfl) rfl ?_
        refine g_aloadS_n (dk D_L_law_14 8 rfl) rfl ?_
        refine g_iload_n (dk D_L_law_14 9 rfl) rfl ?_
        refine g_iconst (v := (1 : Int32)) (dk D_L_law_14 10 rfl) rfl ?_
        refine g_iadd (dk D_L_law_14 11 rfl) ?_
        refine g_scld hi351 (dk D_L_law_14 12 rfl) ?_
        refine g_aloadS_n (dk D_L_law_14 13 rfl) rfl ?_
        refine g_iload_n (dk D_L_law_14 14 rfl) rfl ?_
        refine g_iconst (v := (2 : Int32)) (dk D_L_law_14 15 rfl) rfl ?_
        refine g_iadd (dk D_L_law_14 16 rfl) ?_
        refine g_scld hi352 (dk D_L_law_14 17 rfl) ?_
        refine g_gd (fun hn359 => ?_)
        refine g_bind (fun q360 hq361 => ?_)
        refine h_callV (st := [vI q354]) (c_X11_empty (E := E) fu S I (r2 - 1) (E.2.2.2.2.2.1.2.2 (nx (x3 + (1 : Int32)))) (E.2.2.2.2.2.1.2.2 (nx (x3 + (2 : Int32)))) q360 hq361 (h_r2.nz hn359)) cl_RL_98 h_r2 hn359 rfl rfl ⟨⟨by decide, by decide⟩, ⟨rfl, rfl⟩, by show c ≤ 600000; omega, by show s ≤ 7302250; omega⟩ (Nat.le_of_ble_eq_true rfl) (dk D_L_law_14 18 rfl) ?_
        refine g_icmp_eq (tgt := 1754) (dk D_L_law_14 19 rfl) rfl (fun hc363 => ?_) (fun hc363 => ?_)
        · refine g_wide (cs' := (c + 19, s + 95)) (by show c ≤ c + 19; omega) (by show s ≤ s + 95; omega) ?_
          exact hj1754 S I x3 h_r1 h_r2 hsx
        · refine g_iconst (v := (0 : Int32)) (dk D_L_law_14 20 rfl) rfl ?_
          exact g_lawret ⟨rfl, rfl, rfl⟩ (by show c ≤ 600000; omega) (by show s ≤ 7302250; omega) (dk D_L_law_14 21 rfl)
      refine g_ite (fun hc364 => ?_) (fun hc364 => ?_)
      · refine g_tabIn (tgt := 1038) (off := 1005) (dk D_L_law_0 21 rfl) (by rw [hc364] <;> decide +kernel) (by rw [hc364] <;> decide +kernel) (by rw [hc364] <;> decide +kernel) rfl ?_
        refine g_aload_n (dk D_L_law_14 22 rfl) rfl ?_
        refine g_aloadS_n (dk D_L_law_14 23 rfl) rfl ?_
        refine g_iload_n (dk D_L_law_14 24 rfl) rfl ?_
        refine g_iconst (v := (1 : Int32)) (dk D_L_law_14 25 rfl) rfl ?_
        refine g_iadd (dk D_L_law_14 26 rfl) ?_
        refine g_gd (fun hi365 => ?_)
        refine g_scld hi365 (dk D_L_law_14 27 rfl) ?_
        refine g_aloadS_n (dk D_L_law_14 28 rfl) rfl ?_
        refine g_iload_n (dk D_L_law_14 29 rfl) rfl ?_
        refine g_iconst (v := (2 : Int32)) (dk D_L_law_14 30 rfl) rfl ?_
        refine g_iadd (dk D_L_law_14 31 rfl) ?_
        refine g_gd (fun hi366 => ?_)
        refine g_scld hi366 (dk D_L_law_14 32 rfl) ?_
        refine g_gd (fun hn367 => ?_)
        refine g_bind (fun q368 hq369 => ?_)
        refine h_callV (st := []) (c_X10_fit (E := E) fu S I (r1 - 1) (E.2.2.2.2.2.1.2.2 (nx (x3 + (1 : Int32)))) (E.2.2.2.2.2.1.2.2 (nx (x3 + (2 : Int32)))) q368 hq369 (h_r1.nz hn367)) cl_RL_99 h_r1 hn367 rfl rfl ⟨⟨by decide, by decide⟩, ⟨rfl, rfl⟩, by show c ≤ 600000; omega, by show s ≤ 7302250; omega⟩ (Nat.le_of_ble_eq_true rfl) (dk D_L_law_14 33 rfl) ?_
        refine g_aload_n (dk D_L_law_14 34 rfl) rfl ?_
        refine g_aloadS_n (dk D_L_law_14 35 rfl) rfl ?_
        refine g_iload_n (dk D_L_law_14 36 rfl) rfl ?_
        refine g_iconst (v := (1 : Int32)) (dk D_L_law_14 37 rfl) rfl ?_
        refine g_iadd (dk D_L_law_14 38 rfl) ?_
        refine g_scld hi365 (dk D_L_law_14 39 rfl) ?_
        refine g_aloadS_n (dk D_L_law_14 40 rfl) rfl ?_
        refine g_iload_n (dk D_L_law_14 41 rfl) rfl ?_
        refine g_iconst (v := (2 : Int32)) (dk D_L_law_14 42 rfl) rfl ?_
        refine g_iadd (dk D_L_law_14 43 rfl) ?_
        refine g_scld hi366 (dk D_L_law_14 44 rfl) ?_
        refine g_gd (fun hn373 => ?_)
        refine g_bind (fun q374 hq375 => ?_)
        refine h_callV (st := [vI q368.1]) (c_X11_fit (E := E) fu S q368.2 (r2 - 1) (E.2.2.2.2.2.1.2.2 (nx (x3 + (1 : Int32)))) (E.2.2.2.2.2.1.2.2 (nx (x3 + (2 : Int32)))) q374 hq375 (h_r2.nz hn373)) cl_RL_102 h_r2 hn373 rfl rfl ⟨⟨by decide, by decide⟩, ⟨rfl, rfl⟩, by show c ≤ 600000; omega, by show s ≤ 7302250; omega⟩ (Nat.le_of_ble_eq_true rfl) (dk D_L_law_14 45 rfl) ?_
        refine g_icmp_eq (tgt := 1754) (dk D_L_law_14 46 rfl) rfl (fun hc377 => ?_) (fun hc377 => ?_)
        · refine g_wide (cs' := (c + 19, s + 95)) (by show c ≤ c + 19; omega) (by show s ≤ s + 95; omega) ?_
          exact hj1754 S q374.2 x3 h_r1 h_r2 hsx
        · refine g_iconst (v := (0 : Int32)) (dk D_L_law_14 47 rfl) rfl ?_
          exact g_lawret ⟨rfl, rfl, rfl⟩ (by show c ≤ 600000; omega) (by show s ≤ 7302250; omega) (dk D_L_law_14 48 rfl)
      refine g_ite (fun hc378 => ?_) (fun hc378 => ?_)
      · refine g_tabIn (tgt := 1071) (off := 1038) (dk D_L_law_0 21 rfl) (by rw [hc378] <;> decide +kernel) (by rw [hc378] <;> decide +kernel) (by rw [hc378] <;> decide +kernel) rfl ?_
        refine g_aload_n (dk D_L_law_14 49 rfl) rfl ?_
        refine g_gd (fun hn379 => ?_)
        refine g_bind (fun q380 hq381 => ?_)
        refine h_callV (st := []) (c_X10_driver (E := E) fu S I (r1 - 1) q380 hq381 (h_r1.nz hn379)) cl_RL_103 h_r1 hn379 rfl rfl ⟨⟨by decide, by decide⟩, ⟨rfl, rfl⟩, by show c ≤ 600000; omega, by show s ≤ 7302250; omega⟩ (Nat.le_of_ble_eq_true rfl) (dk D_L_law_15 0 rfl) ?_
        refine g_aload_n (dk D_L_law_15 1 rfl) rfl ?_
        refine g_gd (fun hn383 => ?_)
        refine g_bind (fun q384 hq385 => ?_)
        refine h_callV (st := [vI q380.1]) (c_X11_driver (E := E) fu S q380.2 (r2 - 1) q384 hq385 (h_r2.nz hn383)) cl_RL_107 h_r2 hn383 rfl rfl ⟨⟨by decide, by decide⟩, ⟨rfl, rfl⟩, by show c ≤ 600000; omega, by show s ≤ 7302250; omega⟩ (Nat.le_of_ble_eq_true rfl) (dk D_L_law_15 2 rfl) ?_
        refine g_icmp_eq (tgt := 1754) (dk D_L_law_15 3 rfl) rfl (fun hc387 => ?_) (fun hc387 => ?_)
        · refine g_wide (cs' := (c + 19, s + 95)) (by show c ≤ c + 19; omega) (by show s ≤ s + 95; omega) ?_
          exact hj1754 S q384.2 x3 h_r1 h_r2 hsx
        · refine g_iconst (v := (0 : Int32)) (dk D_L_law_15 4 rfl) rfl ?_
          exact g_lawret ⟨rfl, rfl, rfl⟩ (by show c ≤ 600000; omega) (by show s ≤ 7302250; omega) (dk D_L_law_15 5 rfl)
      refine g_ite (fun hc388 => ?_) (fun hc388 => ?_)
      · refine g_tabIn (tgt := 1084) (off := 1051) (dk D_L_law_0 21 rfl) (by rw [hc388] <;> decide +kernel) (by rw [hc388] <;> decide +kernel) (by rw [hc388] <;> decide +kernel) rfl ?_
        refine g_aload_n (dk D_L_law_15 6 rfl) rfl ?_
        refine g_aloadS_n (dk D_L_law_15 7 rfl) rfl ?_
        refine g_iload_n (dk D_L_law_15 8 rfl) rfl ?_
        refine g_iconst (v := (1 : Int32)) (dk D_L_law_15 9 rfl) rfl ?_
        refine g_iadd (dk D_L_law_15 10 rfl) ?_
        refine g_gd (fun hi389 => ?_)
        refine g_scld hi389 (dk D_L_law_15 11 rfl) ?_
        refine g_aloadS_n (dk D_L_law_15 12 rfl) rfl ?_
        refine g_iload_n (dk D_L_law_15 13 rfl) rfl ?_
        refine g_iconst (v := (2 : Int32)) (dk D_L_law_15 14 rfl) rfl ?_
        refine g_iadd (dk D_L_law_15 15 rfl) ?_
        refine g_gd (fun hi390 => ?_)
        refine g_scld hi390 (dk D_L_law_15 16 rfl) ?_
        refine g_aloadS_n (dk D_L_law_15 17 rfl) rfl ?_
        refine g_iload_n (dk D_L_law_15 18 rfl) rfl ?_
        refine g_iconst (v := (3 : Int32)) (dk D_L_law_15 19 rfl) rfl ?_
        refine g_iadd (dk D_L_law_15 20 rfl) ?_
        refine g_gd (fun hi391 => ?_)
        refine g_scld hi391 (dk D_L_law_15 21 rfl) ?_
        refine g_if_eq (tgt := 1107) (dk D_L_law_15 22 rfl) rfl (fun hc392 => ?_) (fun hc392 => ?_)
        · refine g_iconst (v := (0 : Int32)) (dk D_L_law_15 25 rfl) rfl ?_
          exact hj1108 S I x3 r1 (E.2.2.2.2.2.1.2.2 (nx (x3 + (1 : Int32)))) (E.2.2.2.2.2.1.2.2 (nx (x3 + (2 : Int32)))) (0 : Int32) h_r1 h_r2 h_r1 hsx
        · refine g_iconst (v := (1 : Int32)) (dk D_L_law_15 23 rfl) rfl ?_
          refine g_goto (tgt := 1108) (dk D_L_law_15 24 rfl) rfl ?_
          exact hj1108 S I x3 r1 (E.2.2.2.2.2.1.2.2 (nx (x3 + (1 : Int32)))) (E.2.2.2.2.2.1.2.2 (nx (x3 + (2 : Int32)))) (1 : Int32) h_r1 h_r2 h_r1 hsx
      refine g_ite (fun hc393 => ?_) (fun hc393 => ?_)
      · refine g_tabIn (tgt := 1143) (off := 1110) (dk D_L_law_0 21 rfl) (by rw [hc393] <;> decide +kernel) (by rw [hc393] <;> decide +kernel) (by rw [hc393] <;> decide +kernel) rfl ?_
        refine g_aload_n (dk D_L_law_16 1 rfl) rfl ?_
        refine g_aloadS_n (dk D_L_law_16 2 rfl) rfl ?_
        refine g_iload_n (dk D_L_law_16 3 rfl) rfl ?_
        refine g_iconst (v := (1 : Int32)) (dk D_L_law_16 4 rfl) rfl ?_
        refine g_iadd (dk D_L_law_16 5 rfl) ?_
        refine g_gd (fun hi394 => ?_)
        refine g_scld hi394 (dk D_L_law_16 6 rfl) ?_
        refine g_aloadS_n (dk D_L_law_16 7 rfl) rfl ?_
        refine g_iload_n (dk D_L_law_16 8 rfl) rfl ?_
        refine g_iconst (v := (2 : Int32)) (dk D_L_law_16 9 rfl) rfl ?_
        refine g_iadd (dk D_L_law_16 10 rfl) ?_
        refine g_gd (fun hi395 => ?_)
        refine g_scld hi395 (dk D_L_law_16 11 rfl) ?_
        refine g_gd (fun hn396 => ?_)
        refine g_bind (fun q397 hq398 => ?_)
        refine h_callV (st := []) (c_X10_roster (E := E) fu S I (r1 - 1) (E.2.2.2.2.2.1.2.2 (nx (x3 + (1 : Int32)))) (E.2.2.2.2.2.1.2.2 (nx (x3 + (2 : Int32)))) q397 hq398 (h_r1.nz hn396)) cl_RL_113 h_r1 hn396 rfl rfl ⟨⟨by decide, by decide⟩, ⟨rfl, rfl⟩, by show c ≤ 600000; omega, by show s ≤ 7302250; omega⟩ (Nat.le_of_ble_eq_true rfl) (dk D_L_law_16 12 rfl) ?_
        refine g_aload_n (dk D_L_law_16 13 rfl) rfl ?_
        refine g_aloadS_n (dk D_L_law_16 14 rfl) rfl ?_
        refine g_iload_n (dk D_L_law_16 15 rfl) rfl ?_
        refine g_iconst (v := (1 : Int32)) (dk D_L_law_16 16 rfl) rfl ?_
        refine g_iadd (dk D_L_law_16 17 rfl) ?_
        refine g_scld hi394 (dk D_L_law_16 18 rfl) ?_
        refine g_aloadS_n (dk D_L_law_16 19 rfl) rfl ?_
        refine g_iload_n (dk D_L_law_16 20 rfl) rfl ?_
        refine g_iconst (v := (2 : Int32)) (dk D_L_law_16 21 rfl) rfl ?_
        refine g_iadd (dk D_L_law_16 22 rfl) ?_
        refine g_scld hi395 (dk D_L_law_16 23 rfl) ?_
        refine g_gd (fun hn402 => ?_)
        refine g_bind (fun q403 hq404 => ?_)
        refine h_callV (st := [vI q397.1]) (c_X11_roster (E := E) fu S q397.2 (r2 - 1) (E.2.2.2.2.2.1.2.2 (nx (x3 + (1 : Int32)))) (E.2.2.2.2.2.1.2.2 (nx (x3 + (2 : Int32)))) q403 hq404 (h_r2.nz hn402)) cl_RL_116 h_r2 hn402 rfl rfl ⟨⟨by decide, by decide⟩, ⟨rfl, rfl⟩, by show c ≤ 600000; omega, by show s ≤ 7302250; omega⟩ (Nat.le_of_ble_eq_true rfl) (dk D_L_law_16 24 rfl) ?_
        refine g_icmp_eq (tgt := 1754) (dk D_L_law_16 25 rfl) rfl (fun hc406 => ?_) (fun hc406 => ?_)
        · refine g_wide (cs' := (c + 19, s + 95)) (by show c ≤ c + 19; omega) (by show s ≤ s + 95; omega) ?_
          exact hj1754 S q403.2 x3 h_r1 h_r2 hsx
        · refine g_iconst (v := (0 : Int32)) (dk D_L_law_16 26 rfl) rfl ?_
          exact g_lawret ⟨rfl, rfl, rfl⟩ (by show c ≤ 600000; omega) (by show s ≤ 7302250; omega) (dk D_L_law_16 27 rfl)
      refine g_ite (fun hc407 => ?_) (fun hc407 => ?_)
      · refine g_tabIn (tgt := 1176) (off := 1143) (dk D_L_law_0 21 rfl) (by rw [hc407] <;> decide +kernel) (by rw [hc407] <;> decide +kernel) (by rw [hc407] <;> decide +kernel) rfl ?_
        refine g_aload_n (dk D_L_law_16 28 rfl) rfl ?_
        refine g_aloadS_n (dk D_L_law_16 29 rfl) rfl ?_
        refine g_iload_n (dk D_L_law_16 30 rfl) rfl ?_
        refine g_iconst (v := (1 : Int32)) (dk D_L_law_16 31 rfl) rfl ?_
        refine g_iadd (dk D_L_law_16 32 rfl) ?_
        refine g_gd (fun hi408 => ?_)
        refine g_scld hi408 (dk D_L_law_16 33 rfl) ?_
        refine g_aloadS_n (dk D_L_law_16 34 rfl) rfl ?_
        refine g_iload_n (dk D_L_law_16 35 rfl) rfl ?_
        refine g_iconst (v := (2 : Int32)) (dk D_L_law_16 36 rfl) rfl ?_
        refine g_iadd (dk D_L_law_16 37 rfl) ?_
        refine g_gd (fun hi409 => ?_)
        refine g_scld hi409 (dk D_L_law_16 38 rfl) ?_
        refine g_if_eq (tgt := 1194) (dk D_L_law_16 39 rfl) rfl (fun hc410 => ?_) (fun hc410 => ?_)
        · refine g_iconst (v := (0 : Int32)) (dk D_L_law_16 42 rfl) rfl ?_
          exact hj1195 S I x3 r1 (E.2.2.2.2.2.1.2.2 (nx (x3 + (1 : Int32)))) (0 : Int32) h_r1 h_r2 h_r1 hsx
        · refine g_iconst (v := (1 : Int32)) (dk D_L_law_16 40 rfl) rfl ?_
          refine g_goto (tgt := 1195) (dk D_L_law_16 41 rfl) rfl ?_
          exact hj1195 S I x3 r1 (E.2.2.2.2.2.1.2.2 (nx (x3 + (1 : Int32)))) (1 : Int32) h_r1 h_r2 h_r1 hsx
      refine g_ite (fun hc411 => ?_) (fun hc411 => ?_)
      · refine g_tabIn (tgt := 1225) (off := 1192) (dk D_L_law_0 21 rfl) (by rw [hc411] <;> decide +kernel) (by rw [hc411] <;> decide +kernel) (by rw [hc411] <;> decide +kernel) rfl ?_
        refine g_aload_n (dk D_L_law_17 13 rfl) rfl ?_
        refine g_aloadS_n (dk D_L_law_17 14 rfl) rfl ?_
        refine g_iload_n (dk D_L_law_17 15 rfl) rfl ?_
        refine g_iconst (v := (1 : Int32)) (dk D_L_law_17 16 rfl) rfl ?_
        refine g_iadd (dk D_L_law_17 17 rfl) ?_
        refine g_gd (fun hi412 => ?_)
        refine g_scld hi412 (dk D_L_law_17 18 rfl) ?_
        refine g_aloadS_n (dk D_L_law_17 19 rfl) rfl ?_
        refine g_iload_n (dk D_L_law_17 20 rfl) rfl ?_
        refine g_iconst (v := (2 : Int32)) (dk D_L_law_17 21 rfl) rfl ?_
        refine g_iadd (dk D_L_law_17 22 rfl) ?_
        refine g_gd (fun hi413 => ?_)
        refine g_scld hi413 (dk D_L_law_17 23 rfl) ?_
        refine g_aloadS_n (dk D_L_law_17 24 rfl) rfl ?_
        refine g_iload_n (dk D_L_law_17 25 rfl) rfl ?_
        refine g_iconst (v := (3 : Int32)) (dk D_L_law_17 26 rfl) rfl ?_
        refine g_iadd (dk D_L_law_17 27 rfl) ?_
        refine g_gd (fun hi414 => ?_)
        refine g_scld hi414 (dk D_L_law_17 28 rfl) ?_
        refine g_aloadS_n (dk D_L_law_17 29 rfl) rfl ?_
        refine g_iload_n (dk D_L_law_17 30 rfl) rfl ?_
        refine g_iconst (v := (4 : Int32)) (dk D_L_law_17 31 rfl) rfl ?_
        refine g_iadd (dk D_L_law_17 32 rfl) ?_
        refine g_gd (fun hi415 => ?_)
        refine g_scld hi415 (dk D_L_law_17 33 rfl) ?_
        refine g_gd (fun hn416 => ?_)
        refine g_bind (fun q417 hq418 => ?_)
        refine h_callV (st := []) (c_X10_night (E := E) fu S I (r1 - 1) (E.2.2.2.2.2.1.2.2 (nx (x3 + (1 : Int32)))) (E.2.2.2.2.2.1.2.2 (nx (x3 + (2 : Int32)))) (E.2.2.2.2.2.1.2.2 (nx (x3 + (3 : Int32)))) (E.2.2.2.2.2.1.2.2 (nx (x3 + (4 : Int32)))) q417 hq418 (h_r1.nz hn416)) cl_RL_122 h_r1 hn416 rfl rfl ⟨⟨by decide, by decide⟩, ⟨rfl, rfl⟩, by show c ≤ 600000; omega, by show s ≤ 7302250; omega⟩ (Nat.le_of_ble_eq_true rfl) (dk D_L_law_17 34 rfl) ?_
        refine g_aload_n (dk D_L_law_17 35 rfl) rfl ?_
        refine g_aloadS_n (dk D_L_law_17 36 rfl) rfl ?_
        refine g_iload_n (dk D_L_law_17 37 rfl) rfl ?_
        refine g_iconst (v := (1 : Int32)) (dk D_L_law_17 38 rfl) rfl ?_
        refine g_iadd (dk D_L_law_17 39 rfl) ?_
        refine g_scld hi412 (dk D_L_law_17 40 rfl) ?_
        refine g_aloadS_n (dk D_L_law_17 41 rfl) rfl ?_
        refine g_iload_n (dk D_L_law_17 42 rfl) rfl ?_
        refine g_iconst (v := (2 : Int32)) (dk D_L_law_17 43 rfl) rfl ?_
        refine g_iadd (dk D_L_law_17 44 rfl) ?_
        refine g_scld hi413 (dk D_L_law_17 45 rfl) ?_
        refine g_aloadS_n (dk D_L_law_17 46 rfl) rfl ?_
        refine g_iload_n (dk D_L_law_17 47 rfl) rfl ?_
        refine g_iconst (v := (3 : Int32)) (dk D_L_law_17 48 rfl) rfl ?_
        refine g_iadd (dk D_L_law_17 49 rfl) ?_
        refine g_scld hi414 (dk D_L_law_18 0 rfl) ?_
        refine g_aloadS_n (dk D_L_law_18 1 rfl) rfl ?_
        refine g_iload_n (dk D_L_law_18 2 rfl) rfl ?_
        refine g_iconst (v := (4 : Int32)) (dk D_L_law_18 3 rfl) rfl ?_
        refine g_iadd (dk D_L_law_18 4 rfl) ?_
        refine g_scld hi415 (dk D_L_law_18 5 rfl) ?_
        refine g_gd (fun hn424 => ?_)
        refine g_bind (fun q425 hq426 => ?_)
        refine h_callV (st := [vI q417.1]) (c_X11_night (E := E) fu S q417.2 (r2 - 1) (E.2.2.2.2.2.1.2.2 (nx (x3 + (1 : Int32)))) (E.2.2.2.2.2.1.2.2 (nx (x3 + (2 : Int32)))) (E.2.2.2.2.2.1.2.2 (nx (x3 + (3 : Int32)))) (E.2.2.2.2.2.1.2.2 (nx (x3 + (4 : Int32)))) q425 hq426 (h_r2.nz hn424)) cl_RL_125 h_r2 hn424 rfl rfl ⟨⟨by decide, by decide⟩, ⟨rfl, rfl⟩, by show c ≤ 600000; omega, by show s ≤ 7302250; omega⟩ (Nat.le_of_ble_eq_true rfl) (dk D_L_law_18 6 rfl) ?_
        refine g_icmp_eq (tgt := 1754) (dk D_L_law_18 7 rfl) rfl (fun hc428 => ?_) (fun hc428 => ?_)
        · refine g_wide (cs' := (c + 19, s + 95)) (by show c ≤ c + 19; omega) (by show s ≤ s + 95; omega) ?_
          exact hj1754 S q425.2 x3 h_r1 h_r2 hsx
        · refine g_iconst (v := (0 : Int32)) (dk D_L_law_18 8 rfl) rfl ?_
          exact g_lawret ⟨rfl, rfl, rfl⟩ (by show c ≤ 600000; omega) (by show s ≤ 7302250; omega) (dk D_L_law_18 9 rfl)
      refine g_ite (fun hc429 => ?_) (fun hc429 => ?_)
      · refine g_tabIn (tgt := 1278) (off := 1245) (dk D_L_law_0 21 rfl) (by rw [hc429] <;> decide +kernel) (by rw [hc429] <;> decide +kernel) (by rw [hc429] <;> decide +kernel) rfl ?_
        refine g_aload_n (dk D_L_law_18 10 rfl) rfl ?_
        refine g_aloadS_n (dk D_L_law_18 11 rfl) rfl ?_
        refine g_iload_n (dk D_L_law_18 12 rfl) rfl ?_
        refine g_iconst (v := (1 : Int32)) (dk D_L_law_18 13 rfl) rfl ?_
        refine g_iadd (dk D_L_law_18 14 rfl) ?_
        refine g_gd (fun hi430 => ?_)
        refine g_scld hi430 (dk D_L_law_18 15 rfl) ?_
        refine g_aloadS_n (dk D_L_law_18 16 rfl) rfl ?_
        refine g_iload_n (dk D_L_law_18 17 rfl) rfl ?_
        refine g_iconst (v := (2 : Int32)) (dk D_L_law_18 18 rfl) rfl ?_
        refine g_iadd (dk D_L_law_18 19 rfl) ?_
        refine g_gd (fun hi431 => ?_)
        refine g_scld hi431 (dk D_L_law_18 20 rfl) ?_
        refine g_aloadS_n (dk D_L_law_18 21 rfl) rfl ?_
        refine g_iload_n (dk D_L_law_18 22 rfl) rfl ?_
        refine g_iconst (v := (3 : Int32)) (dk D_L_law_18 23 rfl) rfl ?_
        refine g_iadd (dk D_L_law_18 24 rfl) ?_
        refine g_gd (fun hi432 => ?_)
        refine g_scld hi432 (dk D_L_law_18 25 rfl) ?_
        refine g_gd (fun hn433 => ?_)
        refine g_bind (fun q434 hq435 => ?_)
        refine h_callV (st := []) (c_X10_waiting (E := E) fu S I (r1 - 1) (E.2.2.2.2.2.1.2.2 (nx (x3 + (1 : Int32)))) (E.2.2.2.2.2.1.2.2 (nx (x3 + (2 : Int32)))) (E.2.2.2.2.2.1.2.2 (nx (x3 + (3 : Int32)))) q434 hq435 (h_r1.nz hn433)) cl_RL_126 h_r1 hn433 rfl rfl ⟨⟨by decide, by decide⟩, ⟨rfl, rfl⟩, by show c ≤ 600000; omega, by show s ≤ 7302250; omega⟩ (Nat.le_of_ble_eq_true rfl) (dk D_L_law_18 26 rfl) ?_
        refine g_aload_n (dk D_L_law_18 27 rfl) rfl ?_
        refine g_aloadS_n (dk D_L_law_18 28 rfl) rfl ?_
        refine g_iload_n (dk D_L_law_18 29 rfl) rfl ?_
        refine g_iconst (v := (1 : Int32)) (dk D_L_law_18 30 rfl) rfl ?_
        refine g_iadd (dk D_L_law_18 31 rfl) ?_
        refine g_scld hi430 (dk D_L_law_18 32 rfl) ?_
        refine g_aloadS_n (dk D_L_law_18 33 rfl) rfl ?_
        refine g_iload_n (dk D_L_law_18 34 rfl) rfl ?_
        refine g_iconst (v := (2 : Int32)) (dk D_L_law_18 35 rfl) rfl ?_
        refine g_iadd (dk D_L_law_18 36 rfl) ?_
        refine g_scld hi431 (dk D_L_law_18 37 rfl) ?_
        refine g_aloadS_n (dk D_L_law_18 38 rfl) rfl ?_
        refine g_iload_n (dk D_L_law_18 39 rfl) rfl ?_
        refine g_iconst (v := (3 : Int32)) (dk D_L_law_18 40 rfl) rfl ?_
        refine g_iadd (dk D_L_law_18 41 rfl) ?_
        refine g_scld hi432 (dk D_L_law_18 42 rfl) ?_
        refine g_gd (fun hn440 => ?_)
        refine g_bind (fun q441 hq442 => ?_)
        refine h_callV (st := [vI q434.1]) (c_X11_waiting (E := E) fu S q434.2 (r2 - 1) (E.2.2.2.2.2.1.2.2 (nx (x3 + (1 : Int32)))) (E.2.2.2.2.2.1.2.2 (nx (x3 + (2 : Int32)))) (E.2.2.2.2.2.1.2.2 (nx (x3 + (3 : Int32)))) q441 hq442 (h_r2.nz hn440)) cl_RL_129 h_r2 hn440 rfl rfl ⟨⟨by decide, by decide⟩, ⟨rfl, rfl⟩, by show c ≤ 600000; omega, by show s ≤ 7302250; omega⟩ (Nat.le_of_ble_eq_true rfl) (dk D_L_law_18 43 rfl) ?_
        refine g_icmp_eq (tgt := 1754) (dk D_L_law_18 44 rfl) rfl (fun hc444 => ?_) (fun hc444 => ?_)
        · refine g_wide (cs' := (c + 19, s + 95)) (by show c ≤ c + 19; omega) (by show s ≤ s + 95; omega) ?_
          exact hj1754 S q441.2 x3 h_r1 h_r2 hsx
        · refine g_iconst (v := (0 : Int32)) (dk D_L_law_18 45 rfl) rfl ?_
          exact g_lawret ⟨rfl, rfl, rfl⟩ (by show c ≤ 600000; omega) (by show s ≤ 7302250; omega) (dk D_L_law_18 46 rfl)
      refine g_ite (fun hc445 => ?_) (fun hc445 => ?_)
      · refine g_tabIn (tgt := 1321) (off := 1288) (dk D_L_law_0 21 rfl) (by rw [hc445] <;> decide +kernel) (by rw [hc445] <;> decide +kernel) (by rw [hc445] <;> decide +kernel) rfl ?_
        refine g_aload_n (dk D_L_law_18 47 rfl) rfl ?_
        refine g_aloadS_n (dk D_L_law_18 48 rfl) rfl ?_
        refine g_iload_n (dk D_L_law_18 49 rfl) rfl ?_
        refine g_iconst (v := (1 : Int32)) (dk D_L_law_19 0 rfl) rfl ?_
        refine g_iadd (dk D_L_law_19 1 rfl) ?_
        refine g_gd (fun hi446 => ?_)
        refine g_scld hi446 (dk D_L_law_19 2 rfl) ?_
        refine g_gd (fun hn447 => ?_)
        refine g_bind (fun q448 hq449 => ?_)
        refine h_callV (st := []) (c_X10_seats (E := E) fu S I (r1 - 1) (E.2.2.2.2.2.1.2.2 (nx (x3 + (1 : Int32)))) q448 hq449 (h_r1.nz hn447)) cl_RL_130 h_r1 hn447 rfl rfl ⟨⟨by decide, by decide⟩, ⟨rfl, rfl⟩, by show c ≤ 600000; omega, by show s ≤ 7302250; omega⟩ (Nat.le_of_ble_eq_true rfl) (dk D_L_law_19 3 rfl) ?_
        refine g_aload_n (dk D_L_law_19 4 rfl) rfl ?_
        refine g_aloadS_n (dk D_L_law_19 5 rfl) rfl ?_
        refine g_iload_n (dk D_L_law_19 6 rfl) rfl ?_
        refine g_iconst (v := (1 : Int32)) (dk D_L_law_19 7 rfl) rfl ?_
        refine g_iadd (dk D_L_law_19 8 rfl) ?_
        refine g_scld hi446 (dk D_L_law_19 9 rfl) ?_
        refine g_gd (fun hn452 => ?_)
        refine g_bind (fun q453 hq454 => ?_)
        refine h_callV (st := [vI q448.1]) (c_X11_seats (E := E) fu S q448.2 (r2 - 1) (E.2.2.2.2.2.1.2.2 (nx (x3 + (1 : Int32)))) q453 hq454 (h_r2.nz hn452)) cl_RL_133 h_r2 hn452 rfl rfl ⟨⟨by decide, by decide⟩, ⟨rfl, rfl⟩, by show c ≤ 600000; omega, by show s ≤ 7302250; omega⟩ (Nat.le_of_ble_eq_true rfl) (dk D_L_law_19 10 rfl) ?_
        refine g_icmp_eq (tgt := 1754) (dk D_L_law_19 11 rfl) rfl (fun hc456 => ?_) (fun hc456 => ?_)
        · refine g_wide (cs' := (c + 19, s + 95)) (by show c ≤ c + 19; omega) (by show s ≤ s + 95; omega) ?_
          exact hj1754 S q453.2 x3 h_r1 h_r2 hsx
        · refine g_iconst (v := (0 : Int32)) (dk D_L_law_19 12 rfl) rfl ?_
          exact g_lawret ⟨rfl, rfl, rfl⟩ (by show c ≤ 600000; omega) (by show s ≤ 7302250; omega) (dk D_L_law_19 13 rfl)
      refine g_ite (fun hc457 => ?_) (fun hc457 => ?_)
      · refine g_tabIn (tgt := 1344) (off := 1311) (dk D_L_law_0 21 rfl) (by rw [hc457] <;> decide +kernel) (by rw [hc457] <;> decide +kernel) (by rw [hc457] <;> decide +kernel) rfl ?_
        refine g_aload_n (dk D_L_law_19 14 rfl) rfl ?_
        refine g_aloadS_n (dk D_L_law_19 15 rfl) rfl ?_
        refine g_iload_n (dk D_L_law_19 16 rfl) rfl ?_
        refine g_iconst (v := (1 : Int32)) (dk D_L_law_19 17 rfl) rfl ?_
        refine g_iadd (dk D_L_law_19 18 rfl) ?_
        refine g_gd (fun hi458 => ?_)
        refine g_scld hi458 (dk D_L_law_19 19 rfl) ?_
        refine g_aloadS_n (dk D_L_law_19 20 rfl) rfl ?_
        refine g_iload_n (dk D_L_law_19 21 rfl) rfl ?_
        refine g_iconst (v := (2 : Int32)) (dk D_L_law_19 22 rfl) rfl ?_
        refine g_iadd (dk D_L_law_19 23 rfl) ?_
        refine g_gd (fun hi459 => ?_)
        refine g_scld hi459 (dk D_L_law_19 24 rfl) ?_
        refine g_aloadS_n (dk D_L_law_19 25 rfl) rfl ?_
        refine g_iload_n (dk D_L_law_19 26 rfl) rfl ?_
        refine g_iconst (v := (3 : Int32)) (dk D_L_law_19 27 rfl) rfl ?_
        refine g_iadd (dk D_L_law_19 28 rfl) ?_
        refine g_gd (fun hi460 => ?_)
        refine g_scld hi460 (dk D_L_law_19 29 rfl) ?_
        refine g_gd (fun hn461 => ?_)
        refine g_bind (fun q462 hq463 => ?_)
        refine h_callV (st := []) (c_X10_standing (E := E) fu S I (r1 - 1) (E.2.2.2.2.2.1.2.2 (nx (x3 + (1 : Int32)))) (E.2.2.2.2.2.1.2.2 (nx (x3 + (2 : Int32)))) (E.2.2.2.2.2.1.2.2 (nx (x3 + (3 : Int32)))) q462 hq463 (h_r1.nz hn461)) cl_RL_134 h_r1 hn461 rfl rfl ⟨⟨by decide, by decide⟩, ⟨rfl, rfl⟩, by show c ≤ 600000; omega, by show s ≤ 7302250; omega⟩ (Nat.le_of_ble_eq_true rfl) (dk D_L_law_19 30 rfl) ?_
        refine g_aload_n (dk D_L_law_19 31 rfl) rfl ?_
        refine g_aloadS_n (dk D_L_law_19 32 rfl) rfl ?_
        refine g_iload_n (dk D_L_law_19 33 rfl) rfl ?_
        refine g_iconst (v := (1 : Int32)) (dk D_L_law_19 34 rfl) rfl ?_
        refine g_iadd (dk D_L_law_19 35 rfl) ?_
        refine g_scld hi458 (dk D_L_law_19 36 rfl) ?_
        refine g_aloadS_n (dk D_L_law_19 37 rfl) rfl ?_
        refine g_iload_n (dk D_L_law_19 38 rfl) rfl ?_
        refine g_iconst (v := (2 : Int32)) (dk D_L_law_19 39 rfl) rfl ?_
        refine g_iadd (dk D_L_law_19 40 rfl) ?_
        refine g_scld hi459 (dk D_L_law_19 41 rfl) ?_
        refine g_aloadS_n (dk D_L_law_19 42 rfl) rfl ?_
        refine g_iload_n (dk D_L_law_19 43 rfl) rfl ?_
        refine g_iconst (v := (3 : Int32)) (dk D_L_law_19 44 rfl) rfl ?_
        refine g_iadd (dk D_L_law_19 45 rfl) ?_
        refine g_scld hi460 (dk D_L_law_19 46 rfl) ?_
        refine g_gd (fun hn468 => ?_)
        refine g_bind (fun q469 hq470 => ?_)
        refine h_callV (st := [vI q462]) (c_X11_standing (E := E) fu S I (r2 - 1) (E.2.2.2.2.2.1.2.2 (nx (x3 + (1 : Int32)))) (E.2.2.2.2.2.1.2.2 (nx (x3 + (2 : Int32)))) (E.2.2.2.2.2.1.2.2 (nx (x3 + (3 : Int32)))) q469 hq470 (h_r2.nz hn468)) cl_RL_137 h_r2 hn468 rfl rfl ⟨⟨by decide, by decide⟩, ⟨rfl, rfl⟩, by show c ≤ 600000; omega, by show s ≤ 7302250; omega⟩ (Nat.le_of_ble_eq_true rfl) (dk D_L_law_19 47 rfl) ?_
        refine g_icmp_eq (tgt := 1754) (dk D_L_law_19 48 rfl) rfl (fun hc472 => ?_) (fun hc472 => ?_)
        · refine g_wide (cs' := (c + 19, s + 95)) (by show c ≤ c + 19; omega) (by show s ≤ s + 95; omega) ?_
          exact hj1754 S I x3 h_r1 h_r2 hsx
        · refine g_iconst (v := (0 : Int32)) (dk D_L_law_19 49 rfl) rfl ?_
          exact g_lawret ⟨rfl, rfl, rfl⟩ (by show c ≤ 600000; omega) (by show s ≤ 7302250; omega) (dk D_L_law_20 0 rfl)
      refine g_ite (fun hc473 => ?_) (fun hc473 => ?_)
      · refine g_tabIn (tgt := 1387) (off := 1354) (dk D_L_law_0 21 rfl) (by rw [hc473] <;> decide +kernel) (by rw [hc473] <;> decide +kernel) (by rw [hc473] <;> decide +kernel) rfl ?_
        refine g_aload_n (dk D_L_law_20 1 rfl) rfl ?_
        refine g_aloadS_n (dk D_L_law_20 2 rfl) rfl ?_
        refine g_iload_n (dk D_L_law_20 3 rfl) rfl ?_
        refine g_iconst (v := (1 : Int32)) (dk D_L_law_20 4 rfl) rfl ?_
        refine g_iadd (dk D_L_law_20 5 rfl) ?_
        refine g_gd (fun hi474 => ?_)
        refine g_scld hi474 (dk D_L_law_20 6 rfl) ?_
        refine g_gd (fun hn475 => ?_)
        refine g_bind (fun q476 hq477 => ?_)
        refine h_callV (st := []) (c_X10_extra (E := E) fu S I (r1 - 1) (E.2.2.2.2.2.1.2.2 (nx (x3 + (1 : Int32)))) q476 hq477 (h_r1.nz hn475)) cl_RL_138 h_r1 hn475 rfl rfl ⟨⟨by decide, by decide⟩, ⟨rfl, rfl⟩, by show c ≤ 600000; omega, by show s ≤ 7302250; omega⟩ (Nat.le_of_ble_eq_true rfl) (dk D_L_law_20 7 rfl) ?_
        refine g_aload_n (dk D_L_law_20 8 rfl) rfl ?_
        refine g_aloadS_n (dk D_L_law_20 9 rfl) rfl ?_
        refine g_iload_n (dk D_L_law_20 10 rfl) rfl ?_
        refine g_iconst (v := (1 : Int32)) (dk D_L_law_20 11 rfl) rfl ?_
        refine g_iadd (dk D_L_law_20 12 rfl) ?_
        refine g_scld hi474 (dk D_L_law_20 13 rfl) ?_
        refine g_gd (fun hn480 => ?_)
        refine g_bind (fun q481 hq482 => ?_)
        refine h_callV (st := [vI q476]) (c_X11_extra (E := E) fu S I (r2 - 1) (E.2.2.2.2.2.1.2.2 (nx (x3 + (1 : Int32)))) q481 hq482 (h_r2.nz hn480)) cl_RL_141 h_r2 hn480 rfl rfl ⟨⟨by decide, by decide⟩, ⟨rfl, rfl⟩, by show c ≤ 600000; omega, by show s ≤ 7302250; omega⟩ (Nat.le_of_ble_eq_true rfl) (dk D_L_law_20 14 rfl) ?_
        refine g_icmp_eq (tgt := 1754) (dk D_L_law_20 15 rfl) rfl (fun hc484 => ?_) (fun hc484 => ?_)
        · refine g_wide (cs' := (c + 19, s + 95)) (by show c ≤ c + 19; omega) (by show s ≤ s + 95; omega) ?_
          exact hj1754 S I x3 h_r1 h_r2 hsx
        · refine g_iconst (v := (0 : Int32)) (dk D_L_law_20 16 rfl) rfl ?_
          exact g_lawret ⟨rfl, rfl, rfl⟩ (by show c ≤ 600000; omega) (by show s ≤ 7302250; omega) (dk D_L_law_20 17 rfl)
      refine g_ite (fun hc485 => ?_) (fun hc485 => ?_)
      · refine g_tabIn (tgt := 1410) (off := 1377) (dk D_L_law_0 21 rfl) (by rw [hc485] <;> decide +kernel) (by rw [hc485] <;> decide +kernel) (by rw [hc485] <;> decide +kernel) rfl ?_
        refine g_aload_n (dk D_L_law_20 18 rfl) rfl ?_
        refine g_aloadS_n (dk D_L_law_20 19 rfl) rfl ?_
        refine g_iload_n (dk D_L_law_20 20 rfl) rfl ?_
        refine g_iconst (v := (1 : Int32)) (dk D_L_law_20 21 rfl) rfl ?_
        refine g_iadd (dk D_L_law_20 22 rfl) ?_
        refine g_gd (fun hi486 => ?_)
        refine g_scld hi486 (dk D_L_law_20 23 rfl) ?_
        refine g_aloadS_n (dk D_L_law_20 24 rfl) rfl ?_
        refine g_iload_n (dk D_L_law_20 25 rfl) rfl ?_
        refine g_iconst (v := (2 : Int32)) (dk D_L_law_20 26 rfl) rfl ?_
        refine g_iadd (dk D_L_law_20 27 rfl) ?_
        refine g_gd (fun hi487 => ?_)
        refine g_scld hi487 (dk D_L_law_20 28 rfl) ?_
        refine g_aloadS_n (dk D_L_law_20 29 rfl) rfl ?_
        refine g_iload_n (dk D_L_law_20 30 rfl) rfl ?_
        refine g_iconst (v := (3 : Int32)) (dk D_L_law_20 31 rfl) rfl ?_
        refine g_iadd (dk D_L_law_20 32 rfl) ?_
        refine g_gd (fun hi488 => ?_)
        refine g_scld hi488 (dk D_L_law_20 33 rfl) ?_
        refine g_gd (fun hn489 => ?_)
        refine g_bind (fun q490 hq491 => ?_)
        refine h_callV (st := []) (c_X10_sheet (E := E) fu S I (r1 - 1) (E.2.2.2.2.2.1.2.2 (nx (x3 + (1 : Int32)))) (E.2.2.2.2.2.1.2.2 (nx (x3 + (2 : Int32)))) (E.2.2.2.2.2.1.2.2 (nx (x3 + (3 : Int32)))) q490 hq491 (h_r1.nz hn489)) cl_RL_142 h_r1 hn489 rfl rfl ⟨⟨by decide, by decide⟩, ⟨rfl, rfl⟩, by show c ≤ 600000; omega, by show s ≤ 7302250; omega⟩ (Nat.le_of_ble_eq_true rfl) (dk D_L_law_20 34 rfl) ?_
        refine g_aload_n (dk D_L_law_20 35 rfl) rfl ?_
        refine g_aloadS_n (dk D_L_law_20 36 rfl) rfl ?_
        refine g_iload_n (dk D_L_law_20 37 rfl) rfl ?_
        refine g_iconst (v := (1 : Int32)) (dk D_L_law_20 38 rfl) rfl ?_
        refine g_iadd (dk D_L_law_20 39 rfl) ?_
        refine g_scld hi486 (dk D_L_law_20 40 rfl) ?_
        refine g_aloadS_n (dk D_L_law_20 41 rfl) rfl ?_
        refine g_iload_n (dk D_L_law_20 42 rfl) rfl ?_
        refine g_iconst (v := (2 : Int32)) (dk D_L_law_20 43 rfl) rfl ?_
        refine g_iadd (dk D_L_law_20 44 rfl) ?_
        refine g_scld hi487 (dk D_L_law_20 45 rfl) ?_
        refine g_aloadS_n (dk D_L_law_20 46 rfl) rfl ?_
        refine g_iload_n (dk D_L_law_20 47 rfl) rfl ?_
        refine g_iconst (v := (3 : Int32)) (dk D_L_law_20 48 rfl) rfl ?_
        refine g_iadd (dk D_L_law_20 49 rfl) ?_
        refine g_scld hi488 (dk D_L_law_21 0 rfl) ?_
        refine g_gd (fun hn496 => ?_)
        refine g_bind (fun q497 hq498 => ?_)
        refine h_callV (st := [vI q490.1]) (c_X11_sheet (E := E) fu S q490.2 (r2 - 1) (E.2.2.2.2.2.1.2.2 (nx (x3 + (1 : Int32)))) (E.2.2.2.2.2.1.2.2 (nx (x3 + (2 : Int32)))) (E.2.2.2.2.2.1.2.2 (nx (x3 + (3 : Int32)))) q497 hq498 (h_r2.nz hn496)) cl_RL_145 h_r2 hn496 rfl rfl ⟨⟨by decide, by decide⟩, ⟨rfl, rfl⟩, by show c ≤ 600000; omega, by show s ≤ 7302250; omega⟩ (Nat.le_of_ble_eq_true rfl) (dk D_L_law_21 1 rfl) ?_
        refine g_icmp_eq (tgt := 1754) (dk D_L_law_21 2 rfl) rfl (fun hc500 => ?_) (fun hc500 => ?_)
        · refine g_wide (cs' := (c + 19, s + 95)) (by show c ≤ c + 19; omega) (by show s ≤ s + 95; omega) ?_
          exact hj1754 S q497.2 x3 h_r1 h_r2 hsx
        · refine g_iconst (v := (0 : Int32)) (dk D_L_law_21 3 rfl) rfl ?_
          exact g_lawret ⟨rfl, rfl, rfl⟩ (by show c ≤ 600000; omega) (by show s ≤ 7302250; omega) (dk D_L_law_21 4 rfl)
      refine g_ite (fun hc501 => ?_) (fun hc501 => ?_)
      · refine g_tabIn (tgt := 1453) (off := 1420) (dk D_L_law_0 21 rfl) (by rw [hc501] <;> decide +kernel) (by rw [hc501] <;> decide +kernel) (by rw [hc501] <;> decide +kernel) rfl ?_
        refine g_aload_n (dk D_L_law_21 5 rfl) rfl ?_
        refine g_aloadS_n (dk D_L_law_21 6 rfl) rfl ?_
        refine g_iload_n (dk D_L_law_21 7 rfl) rfl ?_
        refine g_iconst (v := (1 : Int32)) (dk D_L_law_21 8 rfl) rfl ?_
        refine g_iadd (dk D_L_law_21 9 rfl) ?_
        refine g_gd (fun hi502 => ?_)
        refine g_scld hi502 (dk D_L_law_21 10 rfl) ?_
        refine g_gd (fun hn503 => ?_)
        refine g_bind (fun q504 hq505 => ?_)
        refine h_callV (st := []) (c_X10_drop (E := E) fu S I (r1 - 1) (E.2.2.2.2.2.1.2.2 (nx (x3 + (1 : Int32)))) q504 hq505 (h_r1.nz hn503)) cl_RL_146 h_r1 hn503 rfl rfl ⟨⟨by decide, by decide⟩, ⟨rfl, rfl⟩, by show c ≤ 600000; omega, by show s ≤ 7302250; omega⟩ (Nat.le_of_ble_eq_true rfl) (dk D_L_law_21 11 rfl) ?_
        refine g_aload_n (dk D_L_law_21 12 rfl) rfl ?_
        refine g_aloadS_n (dk D_L_law_21 13 rfl) rfl ?_
        refine g_iload_n (dk D_L_law_21 14 rfl) rfl ?_
        refine g_iconst (v := (1 : Int32)) (dk D_L_law_21 15 rfl) rfl ?_
        refine g_iadd (dk D_L_law_21 16 rfl) ?_
        refine g_scld hi502 (dk D_L_law_21 17 rfl) ?_
        refine g_gd (fun hn508 => ?_)
        refine g_bind (fun q509 hq510 => ?_)
        refine h_callV (st := [vI q504.1]) (c_X11_drop (E := E) fu S q504.2 (r2 - 1) (E.2.2.2.2.2.1.2.2 (nx (x3 + (1 : Int32)))) q509 hq510 (h_r2.nz hn508)) cl_RL_149 h_r2 hn508 rfl rfl ⟨⟨by decide, by decide⟩, ⟨rfl, rfl⟩, by show c ≤ 600000; omega, by show s ≤ 7302250; omega⟩ (Nat.le_of_ble_eq_true rfl) (dk D_L_law_21 18 rfl) ?_
        refine g_icmp_eq (tgt := 1754) (dk D_L_law_21 19 rfl) rfl (fun hc512 => ?_) (fun hc512 => ?_)
        · refine g_wide (cs' := (c + 19, s + 95)) (by show c ≤ c + 19; omega) (by show s ≤ s + 95; omega) ?_
          exact hj1754 S q509.2 x3 h_r1 h_r2 hsx
        · refine g_iconst (v := (0 : Int32)) (dk D_L_law_21 20 rfl) rfl ?_
          exact g_lawret ⟨rfl, rfl, rfl⟩ (by show c ≤ 600000; omega) (by show s ≤ 7302250; omega) (dk D_L_law_21 21 rfl)
      refine g_ite (fun hc513 => ?_) (fun hc513 => ?_)
      · refine g_tabIn (tgt := 1476) (off := 1443) (dk D_L_law_0 21 rfl) (by rw [hc513] <;> decide +kernel) (by rw [hc513] <;> decide +kernel) (by rw [hc513] <;> decide +kernel) rfl ?_
        refine g_aload_n (dk D_L_law_21 22 rfl) rfl ?_
        refine g_aloadS_n (dk D_L_law_21 23 rfl) rfl ?_
        refine g_iload_n (dk D_L_law_21 24 rfl) rfl ?_
        refine g_iconst (v := (1 : Int32)) (dk D_L_law_21 25 rfl) rfl ?_
        refine g_iadd (dk D_L_law_21 26 rfl) ?_
        refine g_gd (fun hi514 => ?_)
        refine g_scld hi514 (dk D_L_law_21 27 rfl) ?_
        refine g_aloadS_n (dk D_L_law_21 28 rfl) rfl ?_
        refine g_iload_n (dk D_L_law_21 29 rfl) rfl ?_
        refine g_iconst (v := (2 : Int32)) (dk D_L_law_21 30 rfl) rfl ?_
        refine g_iadd (dk D_L_law_21 31 rfl) ?_
        refine g_gd (fun hi515 => ?_)
        refine g_scld hi515 (dk D_L_law_21 32 rfl) ?_
        refine g_aloadS_n (dk D_L_law_21 33 rfl) rfl ?_
        refine g_iload_n (dk D_L_law_21 34 rfl) rfl ?_
        refine g_iconst (v := (3 : Int32)) (dk D_L_law_21 35 rfl) rfl ?_
        refine g_iadd (dk D_L_law_21 36 rfl) ?_
        refine g_gd (fun hi516 => ?_)
        refine g_scld hi516 (dk D_L_law_21 37 rfl) ?_
        refine g_gd (fun hn517 => ?_)
        refine g_bind (fun q518 hq519 => ?_)
        refine h_callV (st := []) (c_X10_put (E := E) fu S I (r1 - 1) (E.2.2.2.2.2.1.2.2 (nx (x3 + (1 : Int32)))) (E.2.2.2.2.2.1.2.2 (nx (x3 + (2 : Int32)))) (E.2.2.2.2.2.1.2.2 (nx (x3 + (3 : Int32)))) q518 hq519 (h_r1.nz hn517)) cl_RL_150 h_r1 hn517 rfl rfl ⟨⟨by decide, by decide⟩, ⟨rfl, rfl⟩, by show c ≤ 600000; omega, by show s ≤ 7302250; omega⟩ (Nat.le_of_ble_eq_true rfl) (dk D_L_law_21 38 rfl) ?_
        refine g_aload_n (dk D_L_law_21 39 rfl) rfl ?_
        refine g_aloadS_n (dk D_L_law_21 40 rfl) rfl ?_
        refine g_iload_n (dk D_L_law_21 41 rfl) rfl ?_
        refine g_iconst (v := (1 : Int32)) (dk D_L_law_21 42 rfl) rfl ?_
        refine g_iadd (dk D_L_law_21 43 rfl) ?_
        refine g_scld hi514 (dk D_L_law_21 44 rfl) ?_
        refine g_aloadS_n (dk D_L_law_21 45 rfl) rfl ?_
        refine g_iload_n (dk D_L_law_21 46 rfl) rfl ?_
        refine g_iconst (v := (2 : Int32)) (dk D_L_law_21 47 rfl) rfl ?_
        refine g_iadd (dk D_L_law_21 48 rfl) ?_
        refine g_scld hi515 (dk D_L_law_21 49 rfl) ?_
        refine g_aloadS_n (dk D_L_law_22 0 rfl) rfl ?_
        refine g_iload_n (dk D_L_law_22 1 rfl) rfl ?_
        refine g_iconst (v := (3 : Int32)) (dk D_L_law_22 2 rfl) rfl ?_
        refine g_iadd (dk D_L_law_22 3 rfl) ?_
        refine g_scld hi516 (dk D_L_law_22 4 rfl) ?_
        refine g_gd (fun hn524 => ?_)
        refine g_bind (fun q525 hq526 => ?_)
        refine h_callV (st := [vI q518.1]) (c_X11_put (E := E) fu S q518.2 (r2 - 1) (E.2.2.2.2.2.1.2.2 (nx (x3 + (1 : Int32)))) (E.2.2.2.2.2.1.2.2 (nx (x3 + (2 : Int32)))) (E.2.2.2.2.2.1.2.2 (nx (x3 + (3 : Int32)))) q525 hq526 (h_r2.nz hn524)) cl_RL_153 h_r2 hn524 rfl rfl ⟨⟨by decide, by decide⟩, ⟨rfl, rfl⟩, by show c ≤ 600000; omega, by show s ≤ 7302250; omega⟩ (Nat.le_of_ble_eq_true rfl) (dk D_L_law_22 5 rfl) ?_
        refine g_icmp_eq (tgt := 1754) (dk D_L_law_22 6 rfl) rfl (fun hc528 => ?_) (fun hc528 => ?_)
        · refine g_wide (cs' := (c + 19, s + 95)) (by show c ≤ c + 19; omega) (by show s ≤ s + 95; omega) ?_
          exact hj1754 S q525.2 x3 h_r1 h_r2 hsx
        · refine g_iconst (v := (0 : Int32)) (dk D_L_law_22 7 rfl) rfl ?_
          exact g_lawret ⟨rfl, rfl, rfl⟩ (by show c ≤ 600000; omega) (by show s ≤ 7302250; omega) (dk D_L_law_22 8 rfl)
      refine g_ite (fun hc529 => ?_) (fun hc529 => ?_)
      · refine g_tabIn (tgt := 1519) (off := 1486) (dk D_L_law_0 21 rfl) (by rw [hc529] <;> decide +kernel) (by rw [hc529] <;> decide +kernel) (by rw [hc529] <;> decide +kernel) rfl ?_
        refine g_aload_n (dk D_L_law_22 9 rfl) rfl ?_
        refine g_aloadS_n (dk D_L_law_22 10 rfl) rfl ?_
        refine g_iload_n (dk D_L_law_22 11 rfl) rfl ?_
        refine g_iconst (v := (1 : Int32)) (dk D_L_law_22 12 rfl) rfl ?_
        refine g_iadd (dk D_L_law_22 13 rfl) ?_
        refine g_gd (fun hi530 => ?_)
        refine g_scld hi530 (dk D_L_law_22 14 rfl) ?_
        refine g_aloadS_n (dk D_L_law_22 15 rfl) rfl ?_
        refine g_iload_n (dk D_L_law_22 16 rfl) rfl ?_
        refine g_iconst (v := (2 : Int32)) (dk D_L_law_22 17 rfl) rfl ?_
        refine g_iadd (dk D_L_law_22 18 rfl) ?_
        refine g_gd (fun hi531 => ?_)
        refine g_scld hi531 (dk D_L_law_22 19 rfl) ?_
        refine g_aloadS_n (dk D_L_law_22 20 rfl) rfl ?_
        refine g_iload_n (dk D_L_law_22 21 rfl) rfl ?_
        refine g_iconst (v := (3 : Int32)) (dk D_L_law_22 22 rfl) rfl ?_
        refine g_iadd (dk D_L_law_22 23 rfl) ?_
        refine g_gd (fun hi532 => ?_)
        refine g_scld hi532 (dk D_L_law_22 24 rfl) ?_
        refine g_gd (fun hn533 => ?_)
        refine g_bind (fun q534 hq535 => ?_)
        refine h_callV (st := []) (c_X10_cell (E := E) fu S I (r1 - 1) (E.2.2.2.2.2.1.2.2 (nx (x3 + (1 : Int32)))) (E.2.2.2.2.2.1.2.2 (nx (x3 + (2 : Int32)))) (E.2.2.2.2.2.1.2.2 (nx (x3 + (3 : Int32)))) q534 hq535 (h_r1.nz hn533)) cl_RL_154 h_r1 hn533 rfl rfl ⟨⟨by decide, by decide⟩, ⟨rfl, rfl⟩, by show c ≤ 600000; omega, by show s ≤ 7302250; omega⟩ (Nat.le_of_ble_eq_true rfl) (dk D_L_law_22 25 rfl) ?_
        refine g_aload_n (dk D_L_law_22 26 rfl) rfl ?_
        refine g_aloadS_n (dk D_L_law_22 27 rfl) rfl ?_
        refine g_iload_n (dk D_L_law_22 28 rfl) rfl ?_
        refine g_iconst (v := (1 : Int32)) (dk D_L_law_22 29 rfl) rfl ?_
        refine g_iadd (dk D_L_law_22 30 rfl) ?_
        refine g_scld hi530 (dk D_L_law_22 31 rfl) ?_
        refine g_aloadS_n (dk D_L_law_22 32 rfl) rfl ?_
        refine g_iload_n (dk D_L_law_22 33 rfl) rfl ?_
        refine g_iconst (v := (2 : Int32)) (dk D_L_law_22 34 rfl) rfl ?_
        refine g_iadd (dk D_L_law_22 35 rfl) ?_
        refine g_scld hi531 (dk D_L_law_22 36 rfl) ?_
        refine g_aloadS_n (dk D_L_law_22 37 rfl) rfl ?_
        refine g_iload_n (dk D_L_law_22 38 rfl) rfl ?_
        refine g_iconst (v := (3 : Int32)) (dk D_L_law_22 39 rfl) rfl ?_
        refine g_iadd (dk D_L_law_22 40 rfl) ?_
        refine g_scld hi532 (dk D_L_law_22 41 rfl) ?_
        refine g_gd (fun hn540 => ?_)
        refine g_bind (fun q541 hq542 => ?_)
        refine h_callV (st := [vL q534.1]) (c_X11_cell (E := E) fu S q534.2 (r2 - 1) (E.2.2.2.2.2.1.2.2 (nx (x3 + (1 : Int32)))) (E.2.2.2.2.2.1.2.2 (nx (x3 + (2 : Int32)))) (E.2.2.2.2.2.1.2.2 (nx (x3 + (3 : Int32)))) q541 hq542 (h_r2.nz hn540)) cl_RL_158 h_r2 hn540 rfl rfl ⟨⟨by decide, by decide⟩, ⟨rfl, rfl⟩, by show c ≤ 600000; omega, by show s ≤ 7302250; omega⟩ (Nat.le_of_ble_eq_true rfl) (dk D_L_law_22 42 rfl) ?_
        refine g_lcmp (dk D_L_law_22 43 rfl) ?_
        refine g_if_eq (tgt := 1754) (dk D_L_law_22 44 rfl) rfl (fun hc544 => ?_) (fun hc544 => ?_)
        · refine g_wide (cs' := (c + 19, s + 95)) (by show c ≤ c + 19; omega) (by show s ≤ s + 95; omega) ?_
          exact hj1754 S q541.2 x3 h_r1 h_r2 hsx
        · refine g_iconst (v := (0 : Int32)) (dk D_L_law_22 45 rfl) rfl ?_
          exact g_lawret ⟨rfl, rfl, rfl⟩ (by show c ≤ 600000; omega) (by show s ≤ 7302250; omega) (dk D_L_law_22 46 rfl)
      refine g_ite (fun hc545 => ?_) (fun hc545 => ?_)
      · refine g_tabIn (tgt := 1563) (off := 1530) (dk D_L_law_0 21 rfl) (by rw [hc545] <;> decide +kernel) (by rw [hc545] <;> decide +kernel) (by rw [hc545] <;> decide +kernel) rfl ?_
        refine g_aload_n (dk D_L_law_22 47 rfl) rfl ?_
        refine g_aloadS_n (dk D_L_law_22 48 rfl) rfl ?_
        refine g_iload_n (dk D_L_law_22 49 rfl) rfl ?_
        refine g_iconst (v := (1 : Int32)) (dk D_L_law_23 0 rfl) rfl ?_
        refine g_iadd (dk D_L_law_23 1 rfl) ?_
        refine g_gd (fun hi546 => ?_)
        refine g_scld hi546 (dk D_L_law_23 2 rfl) ?_
        refine g_aloadS_n (dk D_L_law_23 3 rfl) rfl ?_
        refine g_iload_n (dk D_L_law_23 4 rfl) rfl ?_
        refine g_iconst (v := (2 : Int32)) (dk D_L_law_23 5 rfl) rfl ?_
        refine g_iadd (dk D_L_law_23 6 rfl) ?_
        refine g_gd (fun hi547 => ?_)
        refine g_scld hi547 (dk D_L_law_23 7 rfl) ?_
        refine g_aloadS_n (dk D_L_law_23 8 rfl) rfl ?_
        refine g_iload_n (dk D_L_law_23 9 rfl) rfl ?_
        refine g_iconst (v := (3 : Int32)) (dk D_L_law_23 10 rfl) rfl ?_
        refine g_iadd (dk D_L_law_23 11 rfl) ?_
        refine g_gd (fun hi548 => ?_)
        refine g_scld hi548 (dk D_L_law_23 12 rfl) ?_
        refine g_aloadS_n (dk D_L_law_23 13 rfl) rfl ?_
        refine g_iload_n (dk D_L_law_23 14 rfl) rfl ?_
        refine g_iconst (v := (4 : Int32)) (dk D_L_law_23 15 rfl) rfl ?_
        refine g_iadd (dk D_L_law_23 16 rfl) ?_
        refine g_gd (fun hi549 => ?_)
        refine g_scld hi549 (dk D_L_law_23 17 rfl) ?_
        refine g_aloadS_n (dk D_L_law_23 18 rfl) rfl ?_
        refine g_iload_n (dk D_L_law_23 19 rfl) rfl ?_
        refine g_iconst (v := (5 : Int32)) (dk D_L_law_23 20 rfl) rfl ?_
        refine g_iadd (dk D_L_law_23 21 rfl) ?_
        refine g_gd (fun hi550 => ?_)
        refine g_scld hi550 (dk D_L_law_23 22 rfl) ?_
        refine g_gd (fun hn551 => ?_)
        refine g_bind (fun q552 hq553 => ?_)
        refine h_callV (st := []) (c_X10_copy (E := E) fu S I (r1 - 1) (E.2.2.2.2.2.1.2.2 (nx (x3 + (1 : Int32)))) (E.2.2.2.2.2.1.2.2 (nx (x3 + (2 : Int32)))) (E.2.2.2.2.2.1.2.2 (nx (x3 + (3 : Int32)))) (E.2.2.2.2.2.1.2.2 (nx (x3 + (4 : Int32)))) (E.2.2.2.2.2.1.2.2 (nx (x3 + (5 : Int32)))) q552 hq553 (h_r1.nz hn551)) cl_RL_159 h_r1 hn551 rfl rfl ⟨⟨by decide, by decide⟩, ⟨rfl, rfl⟩, by show c ≤ 600000; omega, by show s ≤ 7302250; omega⟩ (Nat.le_of_ble_eq_true rfl) (dk D_L_law_23 23 rfl) ?_
        refine g_aload_n (dk D_L_law_23 24 rfl) rfl ?_
        refine g_aloadS_n (dk D_L_law_23 25 rfl) rfl ?_
        refine g_iload_n (dk D_L_law_23 26 rfl) rfl ?_
        refine g_iconst (v := (1 : Int32)) (dk D_L_law_23 27 rfl) rfl ?_
        refine g_iadd (dk D_L_law_23 28 rfl) ?_
        refine g_scld hi546 (dk D_L_law_23 29 rfl) ?_
        refine g_aloadS_n (dk D_L_law_23 30 rfl) rfl ?_
        refine g_iload_n (dk D_L_law_23 31 rfl) rfl ?_
        refine g_iconst (v := (2 : Int32)) (dk D_L_law_23 32 rfl) rfl ?_
        refine g_iadd (dk D_L_law_23 33 rfl) ?_
        refine g_scld hi547 (dk D_L_law_23 34 rfl) ?_
        refine g_aloadS_n (dk D_L_law_23 35 rfl) rfl ?_
        refine g_iload_n (dk D_L_law_23 36 rfl) rfl ?_
        refine g_iconst (v := (3 : Int32)) (dk D_L_law_23 37 rfl) rfl ?_
        refine g_iadd (dk D_L_law_23 38 rfl) ?_
        refine g_scld hi548 (dk D_L_law_23 39 rfl) ?_
        refine g_aloadS_n (dk D_L_law_23 40 rfl) rfl ?_
        refine g_iload_n (dk D_L_law_23 41 rfl) rfl ?_
        refine g_iconst (v := (4 : Int32)) (dk D_L_law_23 42 rfl) rfl ?_
        refine g_iadd (dk D_L_law_23 43 rfl) ?_
        refine g_scld hi549 (dk D_L_law_23 44 rfl) ?_
        refine g_aloadS_n (dk D_L_law_23 45 rfl) rfl ?_
        refine g_iload_n (dk D_L_law_23 46 rfl) rfl ?_
        refine g_iconst (v := (5 : Int32)) (dk D_L_law_23 47 rfl) rfl ?_
        refine g_iadd (dk D_L_law_23 48 rfl) ?_
        refine g_scld hi550 (dk D_L_law_23 49 rfl) ?_
        refine g_gd (fun hn560 => ?_)
        refine g_bind (fun q561 hq562 => ?_)
        refine h_callV (st := [vI q552.1]) (c_X11_copy (E := E) fu S q552.2 (r2 - 1) (E.2.2.2.2.2.1.2.2 (nx (x3 + (1 : Int32)))) (E.2.2.2.2.2.1.2.2 (nx (x3 + (2 : Int32)))) (E.2.2.2.2.2.1.2.2 (nx (x3 + (3 : Int32)))) (E.2.2.2.2.2.1.2.2 (nx (x3 + (4 : Int32)))) (E.2.2.2.2.2.1.2.2 (nx (x3 + (5 : Int32)))) q561 hq562 (h_r2.nz hn560)) cl_RL_162 h_r2 hn560 rfl rfl ⟨⟨by decide, by decide⟩, ⟨rfl, rfl⟩, by show c ≤ 600000; omega, by show s ≤ 7302250; omega⟩ (Nat.le_of_ble_eq_true rfl) (dk D_L_law_24 0 rfl) ?_
        refine g_icmp_eq (tgt := 1754) (dk D_L_law_24 1 rfl) rfl (fun hc564 => ?_) (fun hc564 => ?_)
        · refine g_wide (cs' := (c + 19, s + 95)) (by show c ≤ c + 19; omega) (by show s ≤ s + 95; omega) ?_
          exact hj1754 S q561.2 x3 h_r1 h_r2 hsx
        · refine g_iconst (v := (0 : Int32)) (dk D_L_law_24 2 rfl) rfl ?_
          exact g_lawret ⟨rfl, rfl, rfl⟩ (by show c ≤ 600000; omega) (by show s ≤ 7302250; omega) (dk D_L_law_24 3 rfl)
      refine g_ite (fun hc565 => ?_) (fun hc565 => ?_)
      · refine g_tabIn (tgt := 1626) (off := 1593) (dk D_L_law_0 21 rfl) (by rw [hc565] <;> decide +kernel) (by rw [hc565] <;> decide +kernel) (by rw [hc565] <;> decide +kernel) rfl ?_
        refine g_aload_n (dk D_L_law_24 4 rfl) rfl ?_
        refine g_aloadS_n (dk D_L_law_24 5 rfl) rfl ?_
        refine g_iload_n (dk D_L_law_24 6 rfl) rfl ?_
        refine g_iconst (v := (1 : Int32)) (dk D_L_law_24 7 rfl) rfl ?_
        refine g_iadd (dk D_L_law_24 8 rfl) ?_
        refine g_gd (fun hi566 => ?_)
        refine g_scld hi566 (dk D_L_law_24 9 rfl) ?_
        refine g_gd (fun hn567 => ?_)
        refine g_bind (fun q568 hq569 => ?_)
        refine h_callV (st := []) (c_X10_tell (E := E) fu S I (r1 - 1) (E.2.2.2.2.2.1.2.2 (nx (x3 + (1 : Int32)))) q568 hq569 (h_r1.nz hn567)) cl_RL_163 h_r1 hn567 rfl rfl ⟨⟨by decide, by decide⟩, ⟨rfl, rfl⟩, by show c ≤ 600000; omega, by show s ≤ 7302250; omega⟩ (Nat.le_of_ble_eq_true rfl) (dk D_L_law_24 10 rfl) ?_
        refine g_aload_n (dk D_L_law_24 11 rfl) rfl ?_
        refine g_aloadS_n (dk D_L_law_24 12 rfl) rfl ?_
        refine g_iload_n (dk D_L_law_24 13 rfl) rfl ?_
        refine g_iconst (v := (1 : Int32)) (dk D_L_law_24 14 rfl) rfl ?_
        refine g_iadd (dk D_L_law_24 15 rfl) ?_
        refine g_scld hi566 (dk D_L_law_24 16 rfl) ?_
        refine g_gd (fun hn572 => ?_)
        refine g_bind (fun q573 hq574 => ?_)
        refine h_callV (st := [vI q568.1]) (c_X11_tell (E := E) fu S q568.2 (r2 - 1) (E.2.2.2.2.2.1.2.2 (nx (x3 + (1 : Int32)))) q573 hq574 (h_r2.nz hn572)) cl_RL_166 h_r2 hn572 rfl rfl ⟨⟨by decide, by decide⟩, ⟨rfl, rfl⟩, by show c ≤ 600000; omega, by show s ≤ 7302250; omega⟩ (Nat.le_of_ble_eq_true rfl) (dk D_L_law_24 17 rfl) ?_
        refine g_icmp_eq (tgt := 1754) (dk D_L_law_24 18 rfl) rfl (fun hc576 => ?_) (fun hc576 => ?_)
        · refine g_wide (cs' := (c + 19, s + 95)) (by show c ≤ c + 19; omega) (by show s ≤ s + 95; omega) ?_
          exact hj1754 S q573.2 x3 h_r1 h_r2 hsx
        · refine g_iconst (v := (0 : Int32)) (dk D_L_law_24 19 rfl) rfl ?_
          exact g_lawret ⟨rfl, rfl, rfl⟩ (by show c ≤ 600000; omega) (by show s ≤ 7302250; omega) (dk D_L_law_24 20 rfl)
      refine g_ite (fun hc577 => ?_) (fun hc577 => ?_)
      · refine g_tabIn (tgt := 1649) (off := 1616) (dk D_L_law_0 21 rfl) (by rw [hc577] <;> decide +kernel) (by rw [hc577] <;> decide +kernel) (by rw [hc577] <;> decide +kernel) rfl ?_
        refine g_aload_n (dk D_L_law_24 21 rfl) rfl ?_
        refine g_aloadS_n (dk D_L_law_24 22 rfl) rfl ?_
        refine g_iload_n (dk D_L_law_24 23 rfl) rfl ?_
        refine g_iconst (v := (1 : Int32)) (dk D_L_law_24 24 rfl) rfl ?_
        refine g_iadd (dk D_L_law_24 25 rfl) ?_
        refine g_gd (fun hi578 => ?_)
        refine g_scld hi578 (dk D_L_law_24 26 rfl) ?_
        refine g_gd (fun hn579 => ?_)
        refine g_bind (fun q580 hq581 => ?_)
        refine h_callV (st := []) (c_X10_hail (E := E) fu S I (r1 - 1) (E.2.2.2.2.2.1.2.2 (nx (x3 + (1 : Int32)))) q580 hq581 (h_r1.nz hn579)) cl_RL_167 h_r1 hn579 rfl rfl ⟨⟨by decide, by decide⟩, ⟨rfl, rfl⟩, by show c ≤ 600000; omega, by show s ≤ 7302250; omega⟩ (Nat.le_of_ble_eq_true rfl) (dk D_L_law_24 27 rfl) ?_
        refine g_aload_n (dk D_L_law_24 28 rfl) rfl ?_
        refine g_aloadS_n (dk D_L_law_24 29 rfl) rfl ?_
        refine g_iload_n (dk D_L_law_24 30 rfl) rfl ?_
        refine g_iconst (v := (1 : Int32)) (dk D_L_law_24 31 rfl) rfl ?_
        refine g_iadd (dk D_L_law_24 32 rfl) ?_
        refine g_scld hi578 (dk D_L_law_24 33 rfl) ?_
        refine g_gd (fun hn584 => ?_)
        refine g_bind (fun q585 hq586 => ?_)
        refine h_callV (st := [vI q580.1]) (c_X11_hail (E := E) fu S q580.2 (r2 - 1) (E.2.2.2.2.2.1.2.2 (nx (x3 + (1 : Int32)))) q585 hq586 (h_r2.nz hn584)) cl_RL_170 h_r2 hn584 rfl rfl ⟨⟨by decide, by decide⟩, ⟨rfl, rfl⟩, by show c ≤ 600000; omega, by show s ≤ 7302250; omega⟩ (Nat.le_of_ble_eq_true rfl) (dk D_L_law_24 34 rfl) ?_
        refine g_icmp_eq (tgt := 1754) (dk D_L_law_24 35 rfl) rfl (fun hc588 => ?_) (fun hc588 => ?_)
        · refine g_wide (cs' := (c + 19, s + 95)) (by show c ≤ c + 19; omega) (by show s ≤ s + 95; omega) ?_
          exact hj1754 S q585.2 x3 h_r1 h_r2 hsx
        · refine g_iconst (v := (0 : Int32)) (dk D_L_law_24 36 rfl) rfl ?_
          exact g_lawret ⟨rfl, rfl, rfl⟩ (by show c ≤ 600000; omega) (by show s ≤ 7302250; omega) (dk D_L_law_24 37 rfl)
      refine g_ite (fun hc589 => ?_) (fun hc589 => ?_)
      · refine g_tabIn (tgt := 1672) (off := 1639) (dk D_L_law_0 21 rfl) (by rw [hc589] <;> decide +kernel) (by rw [hc589] <;> decide +kernel) (by rw [hc589] <;> decide +kernel) rfl ?_
        refine g_aload_n (dk D_L_law_24 38 rfl) rfl ?_
        refine g_aloadS_n (dk D_L_law_24 39 rfl) rfl ?_
        refine g_iload_n (dk D_L_law_24 40 rfl) rfl ?_
        refine g_iconst (v := (1 : Int32)) (dk D_L_law_24 41 rfl) rfl ?_
        refine g_iadd (dk D_L_law_24 42 rfl) ?_
        refine g_gd (fun hi590 => ?_)
        refine g_scld hi590 (dk D_L_law_24 43 rfl) ?_
        refine g_aloadS_n (dk D_L_law_24 44 rfl) rfl ?_
        refine g_iload_n (dk D_L_law_24 45 rfl) rfl ?_
        refine g_iconst (v := (2 : Int32)) (dk D_L_law_24 46 rfl) rfl ?_
        refine g_iadd (dk D_L_law_24 47 rfl) ?_
        refine g_gd (fun hi591 => ?_)
        refine g_scld hi591 (dk D_L_law_24 48 rfl) ?_
        refine g_gd (fun hn592 => ?_)
        refine g_bind (fun q593 hq594 => ?_)
        refine h_callV (st := []) (c_X10_as (E := E) fu S I (r1 - 1) (E.2.2.2.2.2.1.2.2 (nx (x3 + (1 : Int32)))) (E.2.2.2.2.2.1.2.2 (nx (x3 + (2 : Int32)))) q593 hq594 (h_r1.nz hn592)) cl_RL_171 h_r1 hn592 rfl rfl ⟨⟨by decide, by decide⟩, ⟨rfl, rfl⟩, by show c ≤ 600000; omega, by show s ≤ 7302250; omega⟩ (Nat.le_of_ble_eq_true rfl) (dk D_L_law_24 49 rfl) ?_
        refine g_aload_n (dk D_L_law_25 0 rfl) rfl ?_
        refine g_aloadS_n (dk D_L_law_25 1 rfl) rfl ?_
        refine g_iload_n (dk D_L_law_25 2 rfl) rfl ?_
        refine g_iconst (v := (1 : Int32)) (dk D_L_law_25 3 rfl) rfl ?_
        refine g_iadd (dk D_L_law_25 4 rfl) ?_
        refine g_scld hi590 (dk D_L_law_25 5 rfl) ?_
        refine g_aloadS_n (dk D_L_law_25 6 rfl) rfl ?_
        refine g_iload_n (dk D_L_law_25 7 rfl) rfl ?_
        refine g_iconst (v := (2 : Int32)) (dk D_L_law_25 8 rfl) rfl ?_
        refine g_iadd (dk D_L_law_25 9 rfl) ?_
        refine g_scld hi591 (dk D_L_law_25 10 rfl) ?_
        refine g_gd (fun hn598 => ?_)
        refine g_bind (fun q599 hq600 => ?_)
        refine h_callV (st := [vI q593.1]) (c_X11_as (E := E) fu S q593.2 (r2 - 1) (E.2.2.2.2.2.1.2.2 (nx (x3 + (1 : Int32)))) (E.2.2.2.2.2.1.2.2 (nx (x3 + (2 : Int32)))) q599 hq600 (h_r2.nz hn598)) cl_RL_174 h_r2 hn598 rfl rfl ⟨⟨by decide, by decide⟩, ⟨rfl, rfl⟩, by show c ≤ 600000; omega, by show s ≤ 7302250; omega⟩ (Nat.le_of_ble_eq_true rfl) (dk D_L_law_25 11 rfl) ?_
        refine g_icmp_eq (tgt := 1754) (dk D_L_law_25 12 rfl) rfl (fun hc602 => ?_) (fun hc602 => ?_)
        · refine g_wide (cs' := (c + 19, s + 95)) (by show c ≤ c + 19; omega) (by show s ≤ s + 95; omega) ?_
          exact hj1754 S q599.2 x3 h_r1 h_r2 hsx
        · refine g_iconst (v := (0 : Int32)) (dk D_L_law_25 13 rfl) rfl ?_
          exact g_lawret ⟨rfl, rfl, rfl⟩ (by show c ≤ 600000; omega) (by show s ≤ 7302250; omega) (dk D_L_law_25 14 rfl)
      refine g_ite (fun hc603 => ?_) (fun hc603 => ?_)
      · refine g_tabIn (tgt := 1705) (off := 1672) (dk D_L_law_0 21 rfl) (by rw [hc603] <;> decide +kernel) (by rw [hc603] <;> decide +kernel) (by rw [hc603] <;> decide +kernel) rfl ?_
        refine g_aload_n (dk D_L_law_25 15 rfl) rfl ?_
        refine g_gd (fun hn604 => ?_)
        refine h_callV (st := []) (c_X10_trace (E := E) S I (r1 - 1) (h_r1.nz hn604)) cl_RL_175 h_r1 hn604 rfl rfl ⟨⟨by decide, by decide⟩, ⟨rfl, rfl⟩, by show c ≤ 600000; omega, by show s ≤ 7302250; omega⟩ (Nat.le_of_ble_eq_true rfl) (dk D_L_law_25 16 rfl) ?_
        refine g_aload_n (dk D_L_law_25 17 rfl) rfl ?_
        refine g_gd (fun hn606 => ?_)
        refine h_callV (st := [vI (t_X10_trace I (r1 - 1))]) (c_X11_trace (E := E) S I (r2 - 1) (h_r2.nz hn606)) cl_RL_178 h_r2 hn606 rfl rfl ⟨⟨by decide, by decide⟩, ⟨rfl, rfl⟩, by show c ≤ 600000; omega, by show s ≤ 7302250; omega⟩ (Nat.le_of_ble_eq_true rfl) (dk D_L_law_25 18 rfl) ?_
        refine g_icmp_eq (tgt := 1754) (dk D_L_law_25 19 rfl) rfl (fun hc608 => ?_) (fun hc608 => ?_)
        · refine g_wide (cs' := (c + 19, s + 95)) (by show c ≤ c + 19; omega) (by show s ≤ s + 95; omega) ?_
          exact hj1754 S I x3 h_r1 h_r2 hsx
        · refine g_iconst (v := (0 : Int32)) (dk D_L_law_25 20 rfl) rfl ?_
          exact g_lawret ⟨rfl, rfl, rfl⟩ (by show c ≤ 600000; omega) (by show s ≤ 7302250; omega) (dk D_L_law_25 21 rfl)
      refine g_ite (fun hc609 => ?_) (fun hc609 => ?_)
      · refine g_tabIn (tgt := 1718) (off := 1685) (dk D_L_law_0 21 rfl) (by rw [hc609] <;> decide +kernel) (by rw [hc609] <;> decide +kernel) (by rw [hc609] <;> decide +kernel) rfl ?_
        refine g_aload_n (dk D_L_law_25 22 rfl) rfl ?_
        refine g_gd (fun hn610 => ?_)
        refine h_callV (st := []) (c_X10_fault (E := E) S I (r1 - 1) (h_r1.nz hn610)) cl_RL_179 h_r1 hn610 rfl rfl ⟨⟨by decide, by decide⟩, ⟨rfl, rfl⟩, by show c ≤ 600000; omega, by show s ≤ 7302250; omega⟩ (Nat.le_of_ble_eq_true rfl) (dk D_L_law_25 23 rfl) ?_
        refine g_aload_n (dk D_L_law_25 24 rfl) rfl ?_
        refine g_gd (fun hn612 => ?_)
        refine h_callV (st := [vI (t_X10_fault I (r1 - 1))]) (c_X11_fault (E := E) S I (r2 - 1) (h_r2.nz hn612)) cl_RL_182 h_r2 hn612 rfl rfl ⟨⟨by decide, by decide⟩, ⟨rfl, rfl⟩, by show c ≤ 600000; omega, by show s ≤ 7302250; omega⟩ (Nat.le_of_ble_eq_true rfl) (dk D_L_law_25 25 rfl) ?_
        refine g_icmp_eq (tgt := 1754) (dk D_L_law_25 26 rfl) rfl (fun hc614 => ?_) (fun hc614 => ?_)
        · refine g_wide (cs' := (c + 19, s + 95)) (by show c ≤ c + 19; omega) (by show s ≤ s + 95; omega) ?_
          exact hj1754 S I x3 h_r1 h_r2 hsx
        · refine g_iconst (v := (0 : Int32)) (dk D_L_law_25 27 rfl) rfl ?_
          exact g_lawret ⟨rfl, rfl, rfl⟩ (by show c ≤ 600000; omega) (by show s ≤ 7302250; omega) (dk D_L_law_25 28 rfl)
      refine g_ite (fun hc615 => ?_) (fun hc615 => ?_)
      · refine g_tabIn (tgt := 1731) (off := 1698) (dk D_L_law_0 21 rfl) (by rw [hc615] <;> decide +kernel) (by rw [hc615] <;> decide +kernel) (by rw [hc615] <;> decide +kernel) rfl ?_
        refine g_aload_n (dk D_L_law_25 29 rfl) rfl ?_
        refine g_aloadS_n (dk D_L_law_25 30 rfl) rfl ?_
        refine g_iload_n (dk D_L_law_25 31 rfl) rfl ?_
        refine g_iconst (v := (1 : Int32)) (dk D_L_law_25 32 rfl) rfl ?_
        refine g_iadd (dk D_L_law_25 33 rfl) ?_
        refine g_gd (fun hi616 => ?_)
        refine g_scld hi616 (dk D_L_law_25 34 rfl) ?_
        refine g_gd (fun hn617 => ?_)
        refine g_bind (fun q618 hq619 => ?_)
        refine h_callV (st := []) (c_X10_many (E := E) fu S I (r1 - 1) (E.2.2.2.2.2.1.2.2 (nx (x3 + (1 : Int32)))) q618 hq619 (h_r1.nz hn617)) cl_RL_183 h_r1 hn617 rfl rfl ⟨⟨by decide, by decide⟩, ⟨rfl, rfl⟩, by show c ≤ 600000; omega, by show s ≤ 7302250; omega⟩ (Nat.le_of_ble_eq_true rfl) (dk D_L_law_25 35 rfl) ?_
        refine g_aload_n (dk D_L_law_25 36 rfl) rfl ?_
        refine g_aloadS_n (dk D_L_law_25 37 rfl) rfl ?_
        refine g_iload_n (dk D_L_law_25 38 rfl) rfl ?_
        refine g_iconst (v := (1 : Int32)) (dk D_L_law_25 39 rfl) rfl ?_
        refine g_iadd (dk D_L_law_25 40 rfl) ?_
        refine g_scld hi616 (dk D_L_law_25 41 rfl) ?_
        refine g_gd (fun hn622 => ?_)
        refine g_bind (fun q623 hq624 => ?_)
        refine h_callV (st := [vI q618]) (c_X11_many (E := E) fu S I (r2 - 1) (E.2.2.2.2.2.1.2.2 (nx (x3 + (1 : Int32)))) q623 hq624 (h_r2.nz hn622)) cl_RL_186 h_r2 hn622 rfl rfl ⟨⟨by decide, by decide⟩, ⟨rfl, rfl⟩, by show c ≤ 600000; omega, by show s ≤ 7302250; omega⟩ (Nat.le_of_ble_eq_true rfl) (dk D_L_law_25 42 rfl) ?_
        refine g_icmp_eq (tgt := 1754) (dk D_L_law_25 43 rfl) rfl (fun hc626 => ?_) (fun hc626 => ?_)
        · refine g_wide (cs' := (c + 19, s + 95)) (by show c ≤ c + 19; omega) (by show s ≤ s + 95; omega) ?_
          exact hj1754 S I x3 h_r1 h_r2 hsx
        · refine g_iconst (v := (0 : Int32)) (dk D_L_law_25 44 rfl) rfl ?_
          exact g_lawret ⟨rfl, rfl, rfl⟩ (by show c ≤ 600000; omega) (by show s ≤ 7302250; omega) (dk D_L_law_25 45 rfl)
      refine g_tabOut (tgt := 1754) (dk D_L_law_0 21 rfl) (tabOut (n := 41) (by decide) (fun k hk => (match k, hk with | 0, _ => hc28 | 1, _ => hc42 | 2, _ => hc72 | 3, _ => hc88 | 4, _ => hc102 | 5, _ => hc116 | 6, _ => hc132 | 7, _ => hc146 | 8, _ => hc168 | 9, _ => hc182 | 10, _ => hc196 | 11, _ => hc210 | 12, _ => hc222 | 13, _ => hc246 | 14, _ => hc262 | 15, _ => hc278 | 16, _ => hc294 | 17, _ => hc310 | 18, _ => hc330 | 19, _ => hc350 | 20, _ => hc364 | 21, _ => hc378 | 22, _ => hc388 | 23, _ => hc393 | 24, _ => hc407 | 25, _ => hc411 | 26, _ => hc429 | 27, _ => hc445 | 28, _ => hc457 | 29, _ => hc473 | 30, _ => hc485 | 31, _ => hc501 | 32, _ => hc513 | 33, _ => hc529 | 34, _ => hc545 | 35, _ => hc565 | 36, _ => hc577 | 37, _ => hc589 | 38, _ => hc603 | 39, _ => hc609 | 40, _ => hc615 | k + 41, hk => absurd hk (by omega)))) rfl ?_
      refine g_wide (cs' := (c + 19, s + 95)) (by show c ≤ c + 19; omega) (by show s ≤ s + 95; omega) ?_
      exact hj1754 S I x3 h_r1 h_r2 hsx
  unfold f_L_law
  refine g_new nw_RL_7 (by show 0 + 1 ≤ 600000; omega) (by show 0 + 19 ≤ 7302250; omega) (dk D_L_law_0 0 rfl) ?_
  refine g_wide (cs' := (1, 19)) (by show 0 + 1 ≤ 1; omega) (by show 0 + 19 ≤ 19; omega) ?_
  refine g_ltS (fun S627 eS627 => ?_)
  refine g_ltI (fun I628 eI628 => ?_)
  have hx629 : Sx S0 S627 := eS627 ▸ nwS_x
  have hsx630 := Sx.tr Sx.rf hx629
  have ht631 : tyR S627 10 (S0.2.2.2 + 1) := eS627 ▸ nwS_ty.R
  refine g_dup (dk D_L_law_0 1 rfl) rfl ?_
  refine g_bind (fun q632 hq633 => ?_)
  refine g_callI (st := [vA (S0.2.2.2 + 1)]) (c_X10_init (E := E) fu S627 I628 S0.2.2.2 q632 hq633 (ht631.nz (Nat.succ_ne_zero _))) cl_RL_9 rfl si_X10_init rfl rfl rfl ⟨⟨by decide, by decide⟩, by show 1 + 41 ≤ 600000; omega, by show 19 + 8921 ≤ 7302250; omega⟩ (Nat.le_of_ble_eq_true rfl) (dk D_L_law_0 2 rfl) (fun hx635 => ?_)
  refine g_wide (cs' := (42, 8940)) (by show 1 + 41 ≤ 42; omega) (by show 19 + 8921 ≤ 8940; omega) ?_
  have ht636 := ht631.x hx635
  have hsx637 := Sx.tr hsx630 hx635
  refine g_astore_n (L' := [(0, vS false), (1, vA (S0.2.2.2 + 1))]) (dk D_L_law_0 3 rfl) (Nat.le_of_ble_eq_true rfl) rfl ?_
  refine g_new nw_RL_10 (by show 42 + 1 ≤ 600000; omega) (by show 8940 + 57 ≤ 7302250; omega) (dk D_L_law_0 4 rfl) ?_
  refine g_wide (cs' := (43, 8997)) (by show 42 + 1 ≤ 43; omega) (by show 8940 + 57 ≤ 8997; omega) ?_
  refine g_ltS (fun S638 eS638 => ?_)
  refine g_ltI (fun I639 eI639 => ?_)
  have hx640 : Sx q632.1 S638 := eS638 ▸ nwS_x
  have ht641 := ht636.x hx640
  have hsx642 := Sx.tr hsx637 hx640
  have ht643 : tyR S638 11 (q632.1.2.2.2 + 1) := eS638 ▸ nwS_ty.R
  refine g_dup (dk D_L_law_0 5 rfl) rfl ?_
  refine g_bind (fun q644 hq645 => ?_)
  refine g_callI (st := [vA (q632.1.2.2.2 + 1)]) (c_X11_init (E := E) fu S638 I639 q632.1.2.2.2 q644 hq645 (ht643.nz (Nat.succ_ne_zero _))) cl_RL_12 rfl si_X11_init rfl rfl rfl ⟨⟨by decide, by decide⟩, by show 43 + 38 ≤ 600000; omega, by show 8997 + 3404 ≤ 7302250; omega⟩ (Nat.le_of_ble_eq_true rfl) (dk D_L_law_0 6 rfl) (fun hx647 => ?_)
  refine g_wide (cs' := (81, 12401)) (by show 43 + 38 ≤ 81; omega) (by show 8997 + 3404 ≤ 12401; omega) ?_
  have ht648 := ht641.x hx647
  have ht649 := ht643.x hx647
  have hsx650 := Sx.tr hsx642 hx647
  refine g_astore_n (L' := [(0, vS false), (1, vA (S0.2.2.2 + 1)), (2, vA (q632.1.2.2.2 + 1))]) (dk D_L_law_0 7 rfl) (Nat.le_of_ble_eq_true rfl) rfl ?_
  refine g_iconst (v := (0 : Int32)) (dk D_L_law_0 8 rfl) rfl ?_
  refine g_istore_n (L' := [(0, vS false), (1, vA (S0.2.2.2 + 1)), (2, vA (q632.1.2.2.2 + 1)), (3, vI (0 : Int32))]) (dk D_L_law_0 9 rfl) (Nat.le_of_ble_eq_true rfl) rfl ?_
  exact hl18 (S0.2.2.2 + 1) (q632.1.2.2.2 + 1) 513 (81) (12401) (by omega) (by omega) (0 : Int32) q644.1 q644.2 ⟨ht648, ht649, hsx650⟩
