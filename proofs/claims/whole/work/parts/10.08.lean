def tb_X11_doneBy : List (Nat × Instr × Nat) := [(0, .iload_n 1, 1), (1, .istore 4, 2), (3, .iload_n 2, 1), (4, .istore 5, 2), (6, .iconst 0, 1), (7, .istore 6, 2), (9, .iload 6, 2), (11, .iload_n 3, 1), (12, .if_icmp .ge 72, 3), (15, .aload_n 0, 1), (16, .getfield 97, 3), (19, .iload 6, 2), (21, .iaload, 1), (22, .istore 7, 2), (24, .iload 5, 2), (26, .aload_n 0, 1), (27, .iload 4, 2), (29, .aload_n 0, 1), (30, .getfield 103, 3), (33, .iload 7, 2), (35, .iaload, 1), (36, .invokevirtual 168, 3), (39, .iadd, 1), (40, .aload_n 0, 1), (41, .getfield 106, 3), (44, .iload 7, 2), (46, .iaload, 1), (47, .invokestatic 194, 3), (50, .iconst 5, 1), (51, .iadd, 1), (52, .istore 5, 2), (54, .aload_n 0, 1), (55, .getfield 103, 3), (58, .iload 7, 2), (60, .iaload, 1), (61, .istore 4, 2), (63, .iload 5, 2), (65, .aload_n 0, 1), (66, .getfield 109, 3), (69, .iload 7, 2), (71, .iaload, 1), (72, .if_icmp .le 6, 3), (75, .ldc 216, 2), (77, .ireturn, 1), (78, .iinc 6 1, 3), (81, .goto (-72), 3), (84, .iload 5, 2), (86, .ireturn, 1)]
def i_X11_doneBy : MI := (RX11, cX11_doneBy, 8, (some .int), "doneBy", { frames := 2, cells := 0, slots := 0, locals := 42 })
theorem D_X11_doneBy : tbOK (i_X11_doneBy).2.1 tb_X11_doneBy := by show ∀ q ∈ tb_X11_doneBy, decode cX11_doneBy q.1 = .ok (q.2.1, q.2.2); decide +kernel
def po_X11_doneBy (S : Sk) (I : II) (r : Int32) : Option LV × Sk × II := (some (vI r), S, I)
def lp_X11_doneBy_9 (fu : Nat) (S : Sk) (I : II) (a0 : Nat) (x3 : Int32) (self9 : Int32 → Int32 → Int32 → Option (Int32)) (x4 : Int32) (x5 : Int32) (x6 : Int32) : Option (Int32) :=
  if x3 ≤ x6 then some (x5) else gd (inb S (S.1 a0 42) x6) (lt (rd I (S.1 a0 42) x6) fun x7_4 => (gd (inb S (S.1 a0 48) x7_4) ((f_X11_farOf fu S I a0 x4 (rd I (S.1 a0 48) x7_4)).bind fun q7 => (gd (inb S (S.1 a0 49) x7_4) (lt ((t_X11_greater (x5 + q7) (rd I (S.1 a0 49) x7_4)) + (5 : Int32)) fun x5_13 => (lt (rd I (S.1 a0 48) x7_4) fun x4_15 => (gd (inb S (S.1 a0 50) x7_4) (if x5_13 ≤ (rd I (S.1 a0 50) x7_4) then self9 x4_15 x5_13 (x6 + (1 : Int32)) else some ((1000000 : Int32))))))))))
def f_X11_doneBy (fu : Nat) (S : Sk) (I : II) (a0 : Nat) (x1 : Int32) (x2 : Int32) (x3 : Int32) : Option (Int32) :=
  fix3 (lp_X11_doneBy_9 fu S I a0 x3) fu x1 x2 (0 : Int32)
set_option maxRecDepth 100000 in
set_option maxHeartbeats 4000000 in
theorem gg_X11_doneBy {E : EV} (fu : Nat) (S0 : Sk) (I0 : II) (a0 : Nat) (x1 : Int32) (x2 : Int32) (x3 : Int32) (ht0 : tyO S0 11 a0) : GG E i_X11_doneBy (enM E i_X11_doneBy S0 (po_X11_doneBy S0 I0)) S0 I0 (0, 0) 0 [(0, vA (a0 + 1)), (1, vI x1), (2, vI x2), (3, vI x3)] [] (f_X11_doneBy fu S0 I0 a0 x1 x2 x3) := by
  have hl9 : ∀ (nn : Nat) (x4 : Int32) (x5 : Int32) (x6 : Int32), True → GG E i_X11_doneBy (enM E i_X11_doneBy S0 (po_X11_doneBy S0 I0)) S0 I0 (0, 0) 9 [(0, vA (a0 + 1)), (3, vI x3), (4, vI x4), (5, vI x5), (6, vI x6)] [] (fix3 (lp_X11_doneBy_9 fu S0 I0 a0 x3) nn x4 x5 x6) := by
    refine g_fix3 (fun _ _ _ => S0) (fun _ _ _ => I0) (fun x4 x5 x6 => [(0, vA (a0 + 1)), (3, vI x3), (4, vI x4), (5, vI x5), (6, vI x6)]) (fun x4 x5 x6 => True) ?_
    intro self9 hself9 x4 x5 x6 hinv
    unfold lp_X11_doneBy_9
    refine g_iload (dk D_X11_doneBy 6 rfl) rfl ?_
    refine g_iload_n (dk D_X11_doneBy 7 rfl) rfl ?_
    refine g_icmp_ge (tgt := 84) (dk D_X11_doneBy 8 rfl) rfl (fun hc1 => ?_) (fun hc1 => ?_)
    · refine g_iload (dk D_X11_doneBy 46 rfl) rfl ?_
      exact g_ireturn rfl rfl Sx.rf rfl (by decide) (by decide) (dk D_X11_doneBy 47 rfl)
    · refine g_aload_n (dk D_X11_doneBy 9 rfl) rfl ?_
      refine g_getAt (t := 100) fl_RX11_97 rfl ht0 (dk D_X11_doneBy 10 rfl) (fun ht2 => ?_)
      refine g_iload (dk D_X11_doneBy 11 rfl) rfl ?_
      refine g_gd (fun hi3 => ?_)
      refine g_iaload ht2 hi3 (dk D_X11_doneBy 12 rfl) ?_
      refine g_ltV (fun x7_4 ex7_4 => ?_)
      refine g_istore (L' := [(0, vA (a0 + 1)), (3, vI x3), (4, vI x4), (5, vI x5), (6, vI x6), (7, vI x7_4)]) (dk D_X11_doneBy 13 rfl) (Nat.le_of_ble_eq_true rfl) rfl ?_
      refine g_iload (dk D_X11_doneBy 14 rfl) rfl ?_
      refine g_aload_n (dk D_X11_doneBy 15 rfl) rfl ?_
      refine g_iload (dk D_X11_doneBy 16 rfl) rfl ?_
      refine g_aload_n (dk D_X11_doneBy 17 rfl) rfl ?_
      refine g_getAt (t := 100) fl_RX11_103 rfl ht0 (dk D_X11_doneBy 18 rfl) (fun ht5 => ?_)
      refine g_iload (dk D_X11_doneBy 19 rfl) rfl ?_
      refine g_gd (fun hi6 => ?_)
      refine g_iaload ht5 hi6 (dk D_X11_doneBy 20 rfl) ?_
      refine g_bind (fun q7 hq8 => ?_)
      refine h_callVt (st := [vI x5]) (c_X11_farOf (E := E) fu S0 I0 a0 x4 (rd I0 (S0.1 a0 48) x7_4) q7 hq8 (ht0)) cl_RX11_168 ht0 rfl rfl (by decide) (Nat.le_of_ble_eq_true rfl) (dk D_X11_doneBy 21 rfl) ?_
      refine g_iadd (dk D_X11_doneBy 22 rfl) ?_
      refine g_aload_n (dk D_X11_doneBy 23 rfl) rfl ?_
      refine g_getAt (t := 100) fl_RX11_106 rfl ht0 (dk D_X11_doneBy 24 rfl) (fun ht10 => ?_)
      refine g_iload (dk D_X11_doneBy 25 rfl) rfl ?_
      refine g_gd (fun hi11 => ?_)
      refine g_iaload ht10 hi11 (dk D_X11_doneBy 26 rfl) ?_
      refine h_callS (st := []) (c_X11_greater (E := E) S0 I0 (x5 + q7) (rd I0 (S0.1 a0 49) x7_4)) cl_RX11_194 rfl rfl (by decide) (Nat.le_of_ble_eq_true rfl) (dk D_X11_doneBy 27 rfl) ?_
      refine g_iconst (v := (5 : Int32)) (dk D_X11_doneBy 28 rfl) rfl ?_
      refine g_iadd (dk D_X11_doneBy 29 rfl) ?_
      refine g_ltV (fun x5_13 ex5_13 => ?_)
      refine g_istore (L' := [(0, vA (a0 + 1)), (3, vI x3), (4, vI x4), (5, vI x5_13), (6, vI x6), (7, vI x7_4)]) (dk D_X11_doneBy 30 rfl) (Nat.le_of_ble_eq_true rfl) rfl ?_
      refine g_aload_n (dk D_X11_doneBy 31 rfl) rfl ?_
      refine g_getAt (t := 100) fl_RX11_103 rfl ht0 (dk D_X11_doneBy 32 rfl) (fun ht14 => ?_)
      refine g_iload (dk D_X11_doneBy 33 rfl) rfl ?_
      refine g_iaload ht5 hi6 (dk D_X11_doneBy 34 rfl) ?_
      refine g_ltV (fun x4_15 ex4_15 => ?_)
      refine g_istore (L' := [(0, vA (a0 + 1)), (3, vI x3), (4, vI x4_15), (5, vI x5_13), (6, vI x6), (7, vI x7_4)]) (dk D_X11_doneBy 35 rfl) (Nat.le_of_ble_eq_true rfl) rfl ?_
      refine g_iload (dk D_X11_doneBy 36 rfl) rfl ?_
      refine g_aload_n (dk D_X11_doneBy 37 rfl) rfl ?_
      refine g_getAt (t := 100) fl_RX11_109 rfl ht0 (dk D_X11_doneBy 38 rfl) (fun ht16 => ?_)
      refine g_iload (dk D_X11_doneBy 39 rfl) rfl ?_
      refine g_gd (fun hi17 => ?_)
      refine g_iaload ht16 hi17 (dk D_X11_doneBy 40 rfl) ?_
      refine g_icmp_le (tgt := 78) (dk D_X11_doneBy 41 rfl) rfl (fun hc18 => ?_) (fun hc18 => ?_)
      · refine g_iinc (v := (1 : Int32)) (L' := [(0, vA (a0 + 1)), (3, vI x3), (4, vI x4_15), (5, vI x5_13), (6, vI (x6 + (1 : Int32))), (7, vI x7_4)]) (dk D_X11_doneBy 44 rfl) rfl rfl (Nat.le_of_ble_eq_true rfl) rfl ?_
        refine g_goto (tgt := 9) (dk D_X11_doneBy 45 rfl) rfl ?_
        refine g_Lp [0, 1, 2, 3, 4] rfl ?_
        exact hself9 x4_15 x5_13 (x6 + (1 : Int32)) trivial
      · refine g_ldc (dk D_X11_doneBy 42 rfl) lk_RX11_216 ?_
        exact g_ireturn rfl rfl Sx.rf rfl (by decide) (by decide) (dk D_X11_doneBy 43 rfl)
  unfold f_X11_doneBy
  refine g_iload_n (dk D_X11_doneBy 0 rfl) rfl ?_
  refine g_istore (L' := [(0, vA (a0 + 1)), (1, vI x1), (2, vI x2), (3, vI x3), (4, vI x1)]) (dk D_X11_doneBy 1 rfl) (Nat.le_of_ble_eq_true rfl) rfl ?_
  refine g_iload_n (dk D_X11_doneBy 2 rfl) rfl ?_
  refine g_istore (L' := [(0, vA (a0 + 1)), (1, vI x1), (2, vI x2), (3, vI x3), (4, vI x1), (5, vI x2)]) (dk D_X11_doneBy 3 rfl) (Nat.le_of_ble_eq_true rfl) rfl ?_
  refine g_iconst (v := (0 : Int32)) (dk D_X11_doneBy 4 rfl) rfl ?_
  refine g_istore (L' := [(0, vA (a0 + 1)), (1, vI x1), (2, vI x2), (3, vI x3), (4, vI x1), (5, vI x2), (6, vI (0 : Int32))]) (dk D_X11_doneBy 5 rfl) (Nat.le_of_ble_eq_true rfl) rfl ?_
  refine g_Lp [0, 3, 4, 5, 6] rfl ?_
  exact hl9 fu x1 x2 (0 : Int32) trivial
theorem c_X11_doneBy {E : EV} (fu : Nat) (S0 : Sk) (I0 : II) (a0 : Nat) (x1 : Int32) (x2 : Int32) (x3 : Int32) (r : Int32) (h : f_X11_doneBy fu S0 I0 a0 x1 x2 x3 = some r) (ht0 : tyO S0 11 a0) : MX E yX11_doneBy i_X11_doneBy S0 I0 [vA (a0 + 1), vI x1, vI x2, vI x3] (po_X11_doneBy S0 I0 r) :=
  MX.of h (by decide) rfl rfl (Nat.le_of_ble_eq_true rfl) (gg_X11_doneBy fu S0 I0 a0 x1 x2 x3 ht0)
theorem cl_RX11_369 : CV0 RX11 369 yX11_doneBy i_X11_doneBy 3 11 := ⟨⟨(gm 1442 (by decide +kernel) (by decide +kernel)), (gm 72 (by decide +kernel) (by decide +kernel)), ((gm 1445 (by decide +kernel) (by decide +kernel))), by decide +kernel, by decide +kernel, by decide +kernel⟩, ⟨(gm 1444 (by decide +kernel) (by decide +kernel)), (gm 60 (by decide +kernel) (by decide +kernel))⟩, rfl, by decide⟩
theorem lk_RX11_364 : Cond.constantLong RX11 364 (58 : Int64) ∈ lw_good := (gm 1437 (by decide +kernel) (by decide +kernel))
theorem cl_RX11_366 : CV0 RX11 366 yX11_layBoards i_X11_layBoards 1 11 := ⟨⟨(gm 1438 (by decide +kernel) (by decide +kernel)), (gm 72 (by decide +kernel) (by decide +kernel)), ((gm 1441 (by decide +kernel) (by decide +kernel))), by decide +kernel, by decide +kernel, by decide +kernel⟩, ⟨(gm 1440 (by decide +kernel) (by decide +kernel)), (gm 59 (by decide +kernel) (by decide +kernel))⟩, rfl, by decide⟩
def tb_X11_night : List (Nat × Instr × Nat) := [(0, .aload_n 0, 1), (1, .invokevirtual 360, 3), (4, .istore 5, 2), (6, .aload_n 0, 1), (7, .iload_n 2, 1), (8, .invokevirtual 164, 3), (11, .ifCond .ne 20, 3), (14, .iload 4, 2), (16, .i2l, 1), (17, .ldc2_w 342, 3), (20, .iload 5, 2), (22, .i2l, 1), (23, .lconst 1, 1), (24, .lsub, 1), (25, .invokestatic 132, 3), (28, .ifCond .ne 5, 3), (31, .iconst (-1), 1), (32, .ireturn, 1), (33, .iload_n 1, 1), (34, .i2l, 1), (35, .lconst 0, 1), (36, .ldc2_w 364, 3), (39, .invokestatic 132, 3), (42, .ifCond .eq 15, 3), (45, .iload_n 3, 1), (46, .i2l, 1), (47, .lconst 0, 1), (48, .ldc2_w 217, 3), (51, .invokestatic 132, 3), (54, .ifCond .ne 6, 3), (57, .bipush (-2), 2), (59, .ireturn, 1), (60, .aload_n 0, 1), (61, .iload_n 1, 1), (62, .invokevirtual 366, 3), (65, .aload_n 0, 1), (66, .iload 5, 2), (68, .putfield 317, 3), (71, .iload 5, 2), (73, .iload 5, 2), (75, .invokestatic 326, 3), (78, .istore 6, 2), (80, .bipush (-9), 2), (82, .istore 7, 2), (84, .ldc 216, 2), (86, .istore 8, 2), (88, .iconst 0, 1), (89, .istore 9, 2), (91, .iload 9, 2), (93, .iload 6, 2), (95, .if_icmp .ge 54, 3), (98, .aload_n 0, 1), (99, .iload 9, 2), (101, .iload 5, 2), (103, .invokevirtual 329, 3), (106, .aload_n 0, 1), (107, .invokevirtual 332, 3), (110, .ifCond .eq 14, 3), (113, .aload_n 0, 1), (114, .iload_n 2, 1), (115, .iload_n 3, 1), (116, .iload 5, 2), (118, .invokevirtual 369, 3), (121, .goto 5, 3), (124, .ldc 216, 2), (126, .istore 10, 2), (128, .iload 10, 2), (130, .iload 8, 2), (132, .if_icmp .ge 11, 3), (135, .iload 9, 2), (137, .istore 7, 2), (139, .iload 10, 2), (141, .istore 8, 2), (143, .iinc 9 1, 3), (146, .goto (-55), 3), (149, .iload 7, 2), (151, .ifCond .lt 8, 3), (154, .iload 4, 2), (156, .ifCond .ge 16, 3), (159, .iload 7, 2), (161, .ifCond .ge 8, 3), (164, .bipush (-9), 2), (166, .goto 5, 3), (169, .iload 8, 2), (171, .ireturn, 1), (172, .aload_n 0, 1), (173, .iload 7, 2), (175, .iload 5, 2), (177, .invokevirtual 329, 3), (180, .aload_n 0, 1), (181, .getfield 103, 3), (184, .aload_n 0, 1), (185, .getfield 97, 3), (188, .iload 4, 2), (190, .iaload, 1), (191, .iaload, 1), (192, .ireturn, 1)]
def i_X11_night : MI := (RX11, cX11_night, 11, (some .int), "night", { frames := 3, cells := 0, slots := 0, locals := 74 })
theorem D_X11_night : tbOK (i_X11_night).2.1 tb_X11_night := by show ∀ q ∈ tb_X11_night, decode cX11_night q.1 = .ok (q.2.1, q.2.2); decide +kernel
def po_X11_night (S : Sk) (I : II) (r : Int32 × II) : Option LV × Sk × II := (some (vI r.1), S, r.2)
def jn_X11_night_159 (fu : Nat) (S : Sk) (I : II) (a0 : Nat) (x7 : Int32) (x8 : Int32) : Option (Int32 × II) :=
  if 0 ≤ x7 then some ((x8, I)) else some ((((-9) : Int32), I))
def jn_X11_night_143 (fu : Nat) (S : Sk) (I : II) (self91 : Int32 → Int32 → Int32 → II → Option (Int32 × II)) (a0 : Nat) (x2 : Int32) (x3 : Int32) (x4 : Int32) (x5 : Int32) (x6 : Int32) (x7 : Int32) (x8 : Int32) (x9 : Int32) : Option (Int32 × II) :=
  self91 x7 x8 (x9 + (1 : Int32)) I
def jn_X11_night_126 (fu : Nat) (S : Sk) (I : II) (self91 : Int32 → Int32 → Int32 → II → Option (Int32 × II)) (a0 : Nat) (x2 : Int32) (x3 : Int32) (x4 : Int32) (x5 : Int32) (x6 : Int32) (x7 : Int32) (x8 : Int32) (x9 : Int32) (s0 : Int32) : Option (Int32 × II) :=
  if x8 ≤ s0 then jn_X11_night_143 fu S I self91 a0 x2 x3 x4 x5 x6 x7 x8 x9 else jn_X11_night_143 fu S I self91 a0 x2 x3 x4 x5 x6 x9 s0 x9
def lp_X11_night_91 (fu : Nat) (S : Sk) (a0 : Nat) (x2 : Int32) (x3 : Int32) (x4 : Int32) (x5 : Int32) (x6 : Int32) (self91 : Int32 → Int32 → Int32 → II → Option (Int32 × II)) (x7 : Int32) (x8 : Int32) (x9 : Int32) (I : II) : Option (Int32 × II) :=
  if x6 ≤ x9 then if x7 < 0 then jn_X11_night_159 fu S I a0 x7 x8 else if 0 ≤ x4 then (f_X11_layRow fu S I a0 x7 x5).bind fun q6 => (gd (inb S (S.1 a0 42) x4) (gd (inb S (S.1 a0 48) (rd q6 (S.1 a0 42) x4)) (some (((rd q6 (S.1 a0 48) (rd q6 (S.1 a0 42) x4)), q6))))) else jn_X11_night_159 fu S I a0 x7 x8 else (f_X11_layRow fu S I a0 x9 x5).bind fun q13 => ((f_X11_areAllUnlike fu S q13 a0).bind fun q16 => (if q16 = 0 then jn_X11_night_126 fu S q13 self91 a0 x2 x3 x4 x5 x6 x7 x8 x9 (1000000 : Int32) else (f_X11_doneBy fu S q13 a0 x2 x3 x5).bind fun q20 => (jn_X11_night_126 fu S q13 self91 a0 x2 x3 x4 x5 x6 x7 x8 x9 q20)))
def f_X11_night (fu : Nat) (S : Sk) (I : II) (a0 : Nat) (x1 : Int32) (x2 : Int32) (x3 : Int32) (x4 : Int32) : Option (Int32 × II) :=
  (f_X11_boardMany fu S I a0).bind fun q23 => (if (t_X11_noStop I a0 x2) = 0 then if (t_X11_in x4.toInt64 ((-1) : Int64) (q23.toInt64 - (1 : Int64))) = 0 then some ((((-1) : Int32), I)) else if (t_X11_in x1.toInt64 (0 : Int64) (58 : Int64)) = 0 then some ((((-2) : Int32), I)) else if (t_X11_in x3.toInt64 (0 : Int64) (2879 : Int64)) = 0 then some ((((-2) : Int32), I)) else (f_X11_layBoards fu S I a0 x1).bind fun q34 => (lt (upI q34 a0 40 q23) fun I37 => ((f_X11_power fu S I37 q23 q23).bind fun q38 => (fix4 (lp_X11_night_91 fu S a0 x2 x3 x4 q23 q38) fu ((-9) : Int32) (1000000 : Int32) (0 : Int32) I37))) else some ((((-1) : Int32), I)))
set_option maxRecDepth 100000 in
set_option maxHeartbeats 4000000 in
theorem gg_X11_night {E : EV} (fu : Nat) (S0 : Sk) (I0 : II) (a0 : Nat) (x1 : Int32) (x2 : Int32) (x3 : Int32) (x4 : Int32) (ht0 : tyO S0 11 a0) : GG E i_X11_night (enM E i_X11_night S0 (po_X11_night S0 I0)) S0 I0 (0, 0) 0 [(0, vA (a0 + 1)), (1, vI x1), (2, vI x2), (3, vI x3), (4, vI x4)] [] (f_X11_night fu S0 I0 a0 x1 x2 x3 x4) := by
  have hj159 : ∀ (I : II) (x7 : Int32) (x8 : Int32), GG E i_X11_night (enM E i_X11_night S0 (po_X11_night S0 I0)) S0 I (0, 0) 159 [(7, vI x7), (8, vI x8)] [] (jn_X11_night_159 fu S0 I a0 x7 x8) := by
    intro I x7 x8 
    unfold jn_X11_night_159
    refine g_iload (dk D_X11_night 79 rfl) rfl ?_
    refine g_if_ge (tgt := 169) (dk D_X11_night 80 rfl) rfl (fun hc1 => ?_) (fun hc1 => ?_)
    · refine g_iload (dk D_X11_night 83 rfl) rfl ?_
      exact g_ireturn rfl rfl Sx.rf rfl (by decide) (by decide) (dk D_X11_night 84 rfl)
    · refine g_bipush (v := ((-9) : Int32)) (dk D_X11_night 81 rfl) rfl ?_
      refine g_goto (tgt := 171) (dk D_X11_night 82 rfl) rfl ?_
      exact g_ireturn rfl rfl Sx.rf rfl (by decide) (by decide) (dk D_X11_night 84 rfl)
  have hl91 : ∀ (x5 : Int32) (x6 : Int32) (nn : Nat) (x7 : Int32) (x8 : Int32) (x9 : Int32) (I : II), True → GG E i_X11_night (enM E i_X11_night S0 (po_X11_night S0 I0)) S0 I (0, 0) 91 [(0, vA (a0 + 1)), (2, vI x2), (3, vI x3), (4, vI x4), (5, vI x5), (6, vI x6), (7, vI x7), (8, vI x8), (9, vI x9)] [] (fix4 (lp_X11_night_91 fu S0 a0 x2 x3 x4 x5 x6) nn x7 x8 x9 I) := by
    intro x5 x6 
    refine g_fix4 (fun _ _ _ _ => S0) (fun x7 x8 x9 I => I) (fun x7 x8 x9 I => [(0, vA (a0 + 1)), (2, vI x2), (3, vI x3), (4, vI x4), (5, vI x5), (6, vI x6), (7, vI x7), (8, vI x8), (9, vI x9)]) (fun x7 x8 x9 I => True) ?_
    intro self91 hself91 x7 x8 x9 I hinv
    have hj143 : ∀ (I : II) (x7 : Int32) (x8 : Int32) (x9 : Int32), GG E i_X11_night (enM E i_X11_night S0 (po_X11_night S0 I0)) S0 I (0, 0) 143 [(0, vA (a0 + 1)), (2, vI x2), (3, vI x3), (4, vI x4), (5, vI x5), (6, vI x6), (7, vI x7), (8, vI x8), (9, vI x9)] [] (jn_X11_night_143 fu S0 I self91 a0 x2 x3 x4 x5 x6 x7 x8 x9) := by
      intro I x7 x8 x9 
      unfold jn_X11_night_143
      refine g_iinc (v := (1 : Int32)) (L' := [(0, vA (a0 + 1)), (2, vI x2), (3, vI x3), (4, vI x4), (5, vI x5), (6, vI x6), (7, vI x7), (8, vI x8), (9, vI (x9 + (1 : Int32)))]) (dk D_X11_night 73 rfl) rfl rfl (Nat.le_of_ble_eq_true rfl) rfl ?_
      refine g_goto (tgt := 91) (dk D_X11_night 74 rfl) rfl ?_
      exact hself91 x7 x8 (x9 + (1 : Int32)) I trivial
    have hj126 : ∀ (I : II) (x7 : Int32) (x8 : Int32) (x9 : Int32) (s0 : Int32), GG E i_X11_night (enM E i_X11_night S0 (po_X11_night S0 I0)) S0 I (0, 0) 126 [(0, vA (a0 + 1)), (2, vI x2), (3, vI x3), (4, vI x4), (5, vI x5), (6, vI x6), (7, vI x7), (8, vI x8), (9, vI x9)] [vI s0] (jn_X11_night_126 fu S0 I self91 a0 x2 x3 x4 x5 x6 x7 x8 x9 s0) := by
      intro I x7 x8 x9 s0 
      unfold jn_X11_night_126
      refine g_istore (L' := [(0, vA (a0 + 1)), (2, vI x2), (3, vI x3), (4, vI x4), (5, vI x5), (6, vI x6), (7, vI x7), (8, vI x8), (9, vI x9), (10, vI s0)]) (dk D_X11_night 65 rfl) (Nat.le_of_ble_eq_true rfl) rfl ?_
      refine g_iload (dk D_X11_night 66 rfl) rfl ?_
      refine g_iload (dk D_X11_night 67 rfl) rfl ?_
      refine g_icmp_ge (tgt := 143) (dk D_X11_night 68 rfl) rfl (fun hc2 => ?_) (fun hc2 => ?_)
      · refine g_Lp [0, 1, 2, 3, 4, 5, 6, 7, 8] rfl ?_
        exact hj143 I x7 x8 x9
      · refine g_iload (dk D_X11_night 69 rfl) rfl ?_
        refine g_istore (L' := [(0, vA (a0 + 1)), (2, vI x2), (3, vI x3), (4, vI x4), (5, vI x5), (6, vI x6), (7, vI x9), (8, vI x8), (9, vI x9), (10, vI s0)]) (dk D_X11_night 70 rfl) (Nat.le_of_ble_eq_true rfl) rfl ?_
        refine g_iload (dk D_X11_night 71 rfl) rfl ?_
        refine g_istore (L' := [(0, vA (a0 + 1)), (2, vI x2), (3, vI x3), (4, vI x4), (5, vI x5), (6, vI x6), (7, vI x9), (8, vI s0), (9, vI x9), (10, vI s0)]) (dk D_X11_night 72 rfl) (Nat.le_of_ble_eq_true rfl) rfl ?_
        refine g_Lp [0, 1, 2, 3, 4, 5, 6, 7, 8] rfl ?_
        exact hj143 I x9 s0 x9
    unfold lp_X11_night_91
    refine g_iload (dk D_X11_night 48 rfl) rfl ?_
    refine g_iload (dk D_X11_night 49 rfl) rfl ?_
    refine g_icmp_ge (tgt := 149) (dk D_X11_night 50 rfl) rfl (fun hc3 => ?_) (fun hc3 => ?_)
    · refine g_iload (dk D_X11_night 75 rfl) rfl ?_
      refine g_if_lt (tgt := 159) (dk D_X11_night 76 rfl) rfl (fun hc4 => ?_) (fun hc4 => ?_)
      · refine g_Lp [6, 7] rfl ?_
        exact hj159 I x7 x8
      · refine g_iload (dk D_X11_night 77 rfl) rfl ?_
        refine g_if_ge (tgt := 172) (dk D_X11_night 78 rfl) rfl (fun hc5 => ?_) (fun hc5 => ?_)
        · refine g_aload_n (dk D_X11_night 85 rfl) rfl ?_
          refine g_iload (dk D_X11_night 86 rfl) rfl ?_
          refine g_iload (dk D_X11_night 87 rfl) rfl ?_
          refine g_bind (fun q6 hq7 => ?_)
          refine h_callVt (st := []) (c_X11_layRow (E := E) fu S0 I a0 x7 x5 q6 hq7 (ht0)) cl_RX11_329 ht0 rfl rfl (by decide) (Nat.le_of_ble_eq_true rfl) (dk D_X11_night 88 rfl) ?_
          refine g_aload_n (dk D_X11_night 89 rfl) rfl ?_
          refine g_getAt (t := 100) fl_RX11_103 rfl ht0 (dk D_X11_night 90 rfl) (fun ht9 => ?_)
          refine g_aload_n (dk D_X11_night 91 rfl) rfl ?_
          refine g_getAt (t := 100) fl_RX11_97 rfl ht0 (dk D_X11_night 92 rfl) (fun ht10 => ?_)
          refine g_iload (dk D_X11_night 93 rfl) rfl ?_
          refine g_gd (fun hi11 => ?_)
          refine g_iaload ht10 hi11 (dk D_X11_night 94 rfl) ?_
          refine g_gd (fun hi12 => ?_)
          refine g_iaload ht9 hi12 (dk D_X11_night 95 rfl) ?_
          exact g_ireturn rfl rfl Sx.rf rfl (by decide) (by decide) (dk D_X11_night 96 rfl)
        · refine g_Lp [6, 7] rfl ?_
          exact hj159 I x7 x8
    · refine g_aload_n (dk D_X11_night 51 rfl) rfl ?_
      refine g_iload (dk D_X11_night 52 rfl) rfl ?_
      refine g_iload (dk D_X11_night 53 rfl) rfl ?_
      refine g_bind (fun q13 hq14 => ?_)
      refine h_callVt (st := []) (c_X11_layRow (E := E) fu S0 I a0 x9 x5 q13 hq14 (ht0)) cl_RX11_329 ht0 rfl rfl (by decide) (Nat.le_of_ble_eq_true rfl) (dk D_X11_night 54 rfl) ?_
      refine g_aload_n (dk D_X11_night 55 rfl) rfl ?_
      refine g_bind (fun q16 hq17 => ?_)
      refine h_callVt (st := []) (c_X11_areAllUnlike (E := E) fu S0 q13 a0 q16 hq17 (ht0)) cl_RX11_332 ht0 rfl rfl (by decide) (Nat.le_of_ble_eq_true rfl) (dk D_X11_night 56 rfl) ?_
      refine g_if_eq (tgt := 124) (dk D_X11_night 57 rfl) rfl (fun hc19 => ?_) (fun hc19 => ?_)
      · refine g_ldc (dk D_X11_night 64 rfl) lk_RX11_216 ?_
        exact hj126 q13 x7 x8 x9 (1000000 : Int32)
      · refine g_aload_n (dk D_X11_night 58 rfl) rfl ?_
        refine g_iload_n (dk D_X11_night 59 rfl) rfl ?_
        refine g_iload_n (dk D_X11_night 60 rfl) rfl ?_
        refine g_iload (dk D_X11_night 61 rfl) rfl ?_
        refine g_bind (fun q20 hq21 => ?_)
        refine h_callVt (st := []) (c_X11_doneBy (E := E) fu S0 q13 a0 x2 x3 x5 q20 hq21 (ht0)) cl_RX11_369 ht0 rfl rfl (by decide) (Nat.le_of_ble_eq_true rfl) (dk D_X11_night 62 rfl) ?_
        refine g_goto (tgt := 126) (dk D_X11_night 63 rfl) rfl ?_
        exact hj126 q13 x7 x8 x9 q20
  unfold f_X11_night
  refine g_aload_n (dk D_X11_night 0 rfl) rfl ?_
  refine g_bind (fun q23 hq24 => ?_)
  refine h_callVt (st := []) (c_X11_boardMany (E := E) fu S0 I0 a0 q23 hq24 (ht0)) cl_RX11_360 ht0 rfl rfl (by decide) (Nat.le_of_ble_eq_true rfl) (dk D_X11_night 1 rfl) ?_
  refine g_istore (L' := [(0, vA (a0 + 1)), (1, vI x1), (2, vI x2), (3, vI x3), (4, vI x4), (5, vI q23)]) (dk D_X11_night 2 rfl) (Nat.le_of_ble_eq_true rfl) rfl ?_
  refine g_aload_n (dk D_X11_night 3 rfl) rfl ?_
  refine g_iload_n (dk D_X11_night 4 rfl) rfl ?_
  refine h_callVt (st := []) (c_X11_noStop (E := E) S0 I0 a0 x2 (ht0)) cl_RX11_164 ht0 rfl rfl (by decide) (Nat.le_of_ble_eq_true rfl) (dk D_X11_night 5 rfl) ?_
  refine g_if_ne (tgt := 31) (dk D_X11_night 6 rfl) rfl (fun hc27 => ?_) (fun hc27 => ?_)
  · refine g_iconst (v := ((-1) : Int32)) (dk D_X11_night 16 rfl) rfl ?_
    exact g_ireturn rfl rfl Sx.rf rfl (by decide) (by decide) (dk D_X11_night 17 rfl)
  · refine g_iload (dk D_X11_night 7 rfl) rfl ?_
    refine g_i2l (dk D_X11_night 8 rfl) ?_
    refine g_ldc2 (dk D_X11_night 9 rfl) lk_RX11_342 ?_
    refine g_iload (dk D_X11_night 10 rfl) rfl ?_
    refine g_i2l (dk D_X11_night 11 rfl) ?_
    refine g_lconst (v := (1 : Int64)) (dk D_X11_night 12 rfl) rfl ?_
    refine g_lsub (dk D_X11_night 13 rfl) ?_
    refine h_callS (st := []) (c_X11_in (E := E) S0 I0 x4.toInt64 ((-1) : Int64) (q23.toInt64 - (1 : Int64))) cl_RX11_132 rfl rfl (by decide) (Nat.le_of_ble_eq_true rfl) (dk D_X11_night 14 rfl) ?_
    refine g_if_ne (tgt := 33) (dk D_X11_night 15 rfl) rfl (fun hc29 => ?_) (fun hc29 => ?_)
    · refine g_iload_n (dk D_X11_night 18 rfl) rfl ?_
      refine g_i2l (dk D_X11_night 19 rfl) ?_
      refine g_lconst (v := (0 : Int64)) (dk D_X11_night 20 rfl) rfl ?_
      refine g_ldc2 (dk D_X11_night 21 rfl) lk_RX11_364 ?_
      refine h_callS (st := []) (c_X11_in (E := E) S0 I0 x1.toInt64 (0 : Int64) (58 : Int64)) cl_RX11_132 rfl rfl (by decide) (Nat.le_of_ble_eq_true rfl) (dk D_X11_night 22 rfl) ?_
      refine g_if_eq (tgt := 57) (dk D_X11_night 23 rfl) rfl (fun hc31 => ?_) (fun hc31 => ?_)
      · refine g_bipush (v := ((-2) : Int32)) (dk D_X11_night 30 rfl) rfl ?_
        exact g_ireturn rfl rfl Sx.rf rfl (by decide) (by decide) (dk D_X11_night 31 rfl)
      · refine g_iload_n (dk D_X11_night 24 rfl) rfl ?_
        refine g_i2l (dk D_X11_night 25 rfl) ?_
        refine g_lconst (v := (0 : Int64)) (dk D_X11_night 26 rfl) rfl ?_
        refine g_ldc2 (dk D_X11_night 27 rfl) lk_RX11_217 ?_
        refine h_callS (st := []) (c_X11_in (E := E) S0 I0 x3.toInt64 (0 : Int64) (2879 : Int64)) cl_RX11_132 rfl rfl (by decide) (Nat.le_of_ble_eq_true rfl) (dk D_X11_night 28 rfl) ?_
        refine g_if_ne (tgt := 60) (dk D_X11_night 29 rfl) rfl (fun hc33 => ?_) (fun hc33 => ?_)
        · refine g_aload_n (dk D_X11_night 32 rfl) rfl ?_
          refine g_iload_n (dk D_X11_night 33 rfl) rfl ?_
          refine g_bind (fun q34 hq35 => ?_)
          refine h_callVt (st := []) (c_X11_layBoards (E := E) fu S0 I0 a0 x1 q34 hq35 (ht0)) cl_RX11_366 ht0 rfl rfl (by decide) (Nat.le_of_ble_eq_true rfl) (dk D_X11_night 34 rfl) ?_
          refine g_aload_n (dk D_X11_night 35 rfl) rfl ?_
          refine g_iload (dk D_X11_night 36 rfl) rfl ?_
          refine g_putIt fl_RX11_317 fp_11_40 (fun h => (by cases h)) (by decide) rfl rfl ht0 (dk D_X11_night 37 rfl) ?_
          refine g_ltI (fun I37 eI37 => ?_)
          refine g_iload (dk D_X11_night 38 rfl) rfl ?_
          refine g_iload (dk D_X11_night 39 rfl) rfl ?_
          refine g_bind (fun q38 hq39 => ?_)
          refine h_callS (st := []) (c_X11_power (E := E) fu S0 I37 q23 q23 q38 hq39) cl_RX11_326 rfl rfl (by decide) (Nat.le_of_ble_eq_true rfl) (dk D_X11_night 40 rfl) ?_
          refine g_istore (L' := [(0, vA (a0 + 1)), (1, vI x1), (2, vI x2), (3, vI x3), (4, vI x4), (5, vI q23), (6, vI q38)]) (dk D_X11_night 41 rfl) (Nat.le_of_ble_eq_true rfl) rfl ?_
          refine g_bipush (v := ((-9) : Int32)) (dk D_X11_night 42 rfl) rfl ?_
          refine g_istore (L' := [(0, vA (a0 + 1)), (1, vI x1), (2, vI x2), (3, vI x3), (4, vI x4), (5, vI q23), (6, vI q38), (7, vI ((-9) : Int32))]) (dk D_X11_night 43 rfl) (Nat.le_of_ble_eq_true rfl) rfl ?_
          refine g_ldc (dk D_X11_night 44 rfl) lk_RX11_216 ?_
          refine g_istore (L' := [(0, vA (a0 + 1)), (1, vI x1), (2, vI x2), (3, vI x3), (4, vI x4), (5, vI q23), (6, vI q38), (7, vI ((-9) : Int32)), (8, vI (1000000 : Int32))]) (dk D_X11_night 45 rfl) (Nat.le_of_ble_eq_true rfl) rfl ?_
          refine g_iconst (v := (0 : Int32)) (dk D_X11_night 46 rfl) rfl ?_
          refine g_istore (L' := [(0, vA (a0 + 1)), (1, vI x1), (2, vI x2), (3, vI x3), (4, vI x4), (5, vI q23), (6, vI q38), (7, vI ((-9) : Int32)), (8, vI (1000000 : Int32)), (9, vI (0 : Int32))]) (dk D_X11_night 47 rfl) (Nat.le_of_ble_eq_true rfl) rfl ?_
          refine g_Lp [0, 2, 3, 4, 5, 6, 7, 8, 9] rfl ?_
          exact hl91 q23 q38 fu ((-9) : Int32) (1000000 : Int32) (0 : Int32) I37 trivial
        · refine g_bipush (v := ((-2) : Int32)) (dk D_X11_night 30 rfl) rfl ?_
          exact g_ireturn rfl rfl Sx.rf rfl (by decide) (by decide) (dk D_X11_night 31 rfl)
    · refine g_iconst (v := ((-1) : Int32)) (dk D_X11_night 16 rfl) rfl ?_
      exact g_ireturn rfl rfl Sx.rf rfl (by decide) (by decide) (dk D_X11_night 17 rfl)
theorem c_X11_night {E : EV} (fu : Nat) (S0 : Sk) (I0 : II) (a0 : Nat) (x1 : Int32) (x2 : Int32) (x3 : Int32) (x4 : Int32) (r : Int32 × II) (h : f_X11_night fu S0 I0 a0 x1 x2 x3 x4 = some r) (ht0 : tyO S0 11 a0) : MX E yX11_night i_X11_night S0 I0 [vA (a0 + 1), vI x1, vI x2, vI x3, vI x4] (po_X11_night S0 I0 r) :=
  MX.of h (by decide) rfl rfl (Nat.le_of_ble_eq_true rfl) (gg_X11_night fu S0 I0 a0 x1 x2 x3 x4 ht0)
def tb_X11_noQueue : List (Nat × Instr × Nat) := [(0, .aload_n 0, 1), (1, .iload_n 1, 1), (2, .invokevirtual 197, 3), (5, .ifCond .ne 23, 3), (8, .iload_n 2, 1), (9, .i2l, 1), (10, .lconst 0, 1), (11, .aload_n 0, 1), (12, .getfield 19, 3), (15, .iload_n 1, 1), (16, .iaload, 1), (17, .i2l, 1), (18, .ldc2_w 143, 3), (21, .lsub, 1), (22, .invokestatic 132, 3), (25, .ifCond .ne 7, 3), (28, .iconst 1, 1), (29, .goto 4, 3), (32, .iconst 0, 1), (33, .ireturn, 1)]
def i_X11_noQueue : MI := (RX11, cX11_noQueue, 3, (some .boolean), "noQueue", { frames := 2, cells := 0, slots := 0, locals := 46 })
theorem D_X11_noQueue : tbOK (i_X11_noQueue).2.1 tb_X11_noQueue := by show ∀ q ∈ tb_X11_noQueue, decode cX11_noQueue q.1 = .ok (q.2.1, q.2.2); decide +kernel
def po_X11_noQueue (S : Sk) (I : II) (r : Int32) : Option LV × Sk × II := (some (vI r), S, I)
def f_X11_noQueue (fu : Nat) (S : Sk) (I : II) (a0 : Nat) (x1 : Int32) (x2 : Int32) : Option (Int32) :=
  if (t_X11_noLine I a0 x1) = 0 then gd (inb S (S.1 a0 6) x1) (if (t_X11_in x2.toInt64 (0 : Int64) ((((rd I (S.1 a0 6) x1)).toInt64) - (2 : Int64))) = 0 then some ((1 : Int32)) else some ((0 : Int32))) else some ((1 : Int32))
set_option maxRecDepth 100000 in
set_option maxHeartbeats 4000000 in
theorem gg_X11_noQueue {E : EV} (fu : Nat) (S0 : Sk) (I0 : II) (a0 : Nat) (x1 : Int32) (x2 : Int32) (ht0 : tyO S0 11 a0) : GG E i_X11_noQueue (enM E i_X11_noQueue S0 (po_X11_noQueue S0 I0)) S0 I0 (0, 0) 0 [(0, vA (a0 + 1)), (1, vI x1), (2, vI x2)] [] (f_X11_noQueue fu S0 I0 a0 x1 x2) := by
  unfold f_X11_noQueue
  refine g_aload_n (dk D_X11_noQueue 0 rfl) rfl ?_
  refine g_iload_n (dk D_X11_noQueue 1 rfl) rfl ?_
  refine h_callVt (st := []) (c_X11_noLine (E := E) S0 I0 a0 x1 (ht0)) cl_RX11_197 ht0 rfl rfl (by decide) (Nat.le_of_ble_eq_true rfl) (dk D_X11_noQueue 2 rfl) ?_
  refine g_if_ne (tgt := 28) (dk D_X11_noQueue 3 rfl) rfl (fun hc2 => ?_) (fun hc2 => ?_)
  · refine g_iconst (v := (1 : Int32)) (dk D_X11_noQueue 16 rfl) rfl ?_
    refine g_goto (tgt := 33) (dk D_X11_noQueue 17 rfl) rfl ?_
    exact g_zreturn rfl rfl (Or.inr rfl) Sx.rf rfl (by decide) (by decide) (dk D_X11_noQueue 19 rfl)
  · refine g_iload_n (dk D_X11_noQueue 4 rfl) rfl ?_
    refine g_i2l (dk D_X11_noQueue 5 rfl) ?_
    refine g_lconst (v := (0 : Int64)) (dk D_X11_noQueue 6 rfl) rfl ?_
    refine g_aload_n (dk D_X11_noQueue 7 rfl) rfl ?_
    refine g_getAt (t := 100) fl_RX11_19 rfl ht0 (dk D_X11_noQueue 8 rfl) (fun ht3 => ?_)
    refine g_iload_n (dk D_X11_noQueue 9 rfl) rfl ?_
    refine g_gd (fun hi4 => ?_)
    refine g_iaload ht3 hi4 (dk D_X11_noQueue 10 rfl) ?_
    refine g_i2l (dk D_X11_noQueue 11 rfl) ?_
    refine g_ldc2 (dk D_X11_noQueue 12 rfl) lk_RX11_143 ?_
    refine g_lsub (dk D_X11_noQueue 13 rfl) ?_
    refine h_callS (st := []) (c_X11_in (E := E) S0 I0 x2.toInt64 (0 : Int64) ((((rd I0 (S0.1 a0 6) x1)).toInt64) - (2 : Int64))) cl_RX11_132 rfl rfl (by decide) (Nat.le_of_ble_eq_true rfl) (dk D_X11_noQueue 14 rfl) ?_
    refine g_if_ne (tgt := 32) (dk D_X11_noQueue 15 rfl) rfl (fun hc6 => ?_) (fun hc6 => ?_)
    · refine g_iconst (v := (0 : Int32)) (dk D_X11_noQueue 18 rfl) rfl ?_
      exact g_zreturn rfl rfl (Or.inl rfl) Sx.rf rfl (by decide) (by decide) (dk D_X11_noQueue 19 rfl)
    · refine g_iconst (v := (1 : Int32)) (dk D_X11_noQueue 16 rfl) rfl ?_
      refine g_goto (tgt := 33) (dk D_X11_noQueue 17 rfl) rfl ?_
      exact g_zreturn rfl rfl (Or.inr rfl) Sx.rf rfl (by decide) (by decide) (dk D_X11_noQueue 19 rfl)
theorem c_X11_noQueue {E : EV} (fu : Nat) (S0 : Sk) (I0 : II) (a0 : Nat) (x1 : Int32) (x2 : Int32) (r : Int32) (h : f_X11_noQueue fu S0 I0 a0 x1 x2 = some r) (ht0 : tyO S0 11 a0) : MX E yX11_noQueue i_X11_noQueue S0 I0 [vA (a0 + 1), vI x1, vI x2] (po_X11_noQueue S0 I0 r) :=
  MX.of h (by decide) rfl rfl (Nat.le_of_ble_eq_true rfl) (gg_X11_noQueue fu S0 I0 a0 x1 x2 ht0)
theorem cl_RX11_372 : CV0 RX11 372 yX11_noQueue i_X11_noQueue 2 11 := ⟨⟨(gm 1450 (by decide +kernel) (by decide +kernel)), (gm 72 (by decide +kernel) (by decide +kernel)), ((gm 1453 (by decide +kernel) (by decide +kernel))), by decide +kernel, by decide +kernel, by decide +kernel⟩, ⟨(gm 1452 (by decide +kernel) (by decide +kernel)), (gm 61 (by decide +kernel) (by decide +kernel))⟩, rfl, by decide⟩
theorem lk_RX11_375 : Cond.constantLong RX11 375 (999 : Int64) ∈ lw_good := (gm 1454 (by decide +kernel) (by decide +kernel))
def tb_X11_waiting : List (Nat × Instr × Nat) := [(0, .aload_n 0, 1), (1, .iload_n 1, 1), (2, .iload_n 2, 1), (3, .invokevirtual 372, 3), (6, .ifCond .eq 5, 3), (9, .iconst (-1), 1), (10, .ireturn, 1), (11, .iload_n 3, 1), (12, .i2l, 1), (13, .lconst 0, 1), (14, .ldc2_w 375, 3), (17, .invokestatic 132, 3), (20, .ifCond .ne 6, 3), (23, .bipush (-2), 2), (25, .ireturn, 1), (26, .aload_n 0, 1), (27, .getfield 43, 3), (30, .bipush 8, 2), (32, .iload_n 1, 1), (33, .imul, 1), (34, .iload_n 2, 1), (35, .iadd, 1), (36, .iaload, 1), (37, .istore 4, 2), (39, .aload_n 0, 1), (40, .getfield 43, 3), (43, .bipush 8, 2), (45, .iload_n 1, 1), (46, .imul, 1), (47, .iload_n 2, 1), (48, .iadd, 1), (49, .iload_n 3, 1), (50, .iastore, 1), (51, .iload 4, 2), (53, .ireturn, 1)]
def i_X11_waiting : MI := (RX11, cX11_waiting, 5, (some .int), "waiting", { frames := 3, cells := 0, slots := 0, locals := 68 })
theorem D_X11_waiting : tbOK (i_X11_waiting).2.1 tb_X11_waiting := by show ∀ q ∈ tb_X11_waiting, decode cX11_waiting q.1 = .ok (q.2.1, q.2.2); decide +kernel
def po_X11_waiting (S : Sk) (I : II) (r : Int32 × II) : Option LV × Sk × II := (some (vI r.1), S, r.2)
def f_X11_waiting (fu : Nat) (S : Sk) (I : II) (a0 : Nat) (x1 : Int32) (x2 : Int32) (x3 : Int32) : Option (Int32 × II) :=
  (f_X11_noQueue fu S I a0 x1 x2).bind fun q1 => (if q1 = 0 then if (t_X11_in x3.toInt64 (0 : Int64) (999 : Int64)) = 0 then some ((((-2) : Int32), I)) else gd (inb S (S.1 a0 14) (((8 : Int32) * x1) + x2)) (lt (rd I (S.1 a0 14) (((8 : Int32) * x1) + x2)) fun x4_9 => (lt (wr I (S.1 a0 14) (((8 : Int32) * x1) + x2) x3) fun I11 => (some ((x4_9, I11))))) else some ((((-1) : Int32), I)))
set_option maxRecDepth 100000 in
set_option maxHeartbeats 4000000 in
theorem gg_X11_waiting {E : EV} (fu : Nat) (S0 : Sk) (I0 : II) (a0 : Nat) (x1 : Int32) (x2 : Int32) (x3 : Int32) (ht0 : tyO S0 11 a0) : GG E i_X11_waiting (enM E i_X11_waiting S0 (po_X11_waiting S0 I0)) S0 I0 (0, 0) 0 [(0, vA (a0 + 1)), (1, vI x1), (2, vI x2), (3, vI x3)] [] (f_X11_waiting fu S0 I0 a0 x1 x2 x3) := by
  unfold f_X11_waiting
  refine g_aload_n (dk D_X11_waiting 0 rfl) rfl ?_
  refine g_iload_n (dk D_X11_waiting 1 rfl) rfl ?_
  refine g_iload_n (dk D_X11_waiting 2 rfl) rfl ?_
  refine g_bind (fun q1 hq2 => ?_)
  refine h_callVt (st := []) (c_X11_noQueue (E := E) fu S0 I0 a0 x1 x2 q1 hq2 (ht0)) cl_RX11_372 ht0 rfl rfl (by decide) (Nat.le_of_ble_eq_true rfl) (dk D_X11_waiting 3 rfl) ?_
  refine g_if_eq (tgt := 11) (dk D_X11_waiting 4 rfl) rfl (fun hc4 => ?_) (fun hc4 => ?_)
  · refine g_iload_n (dk D_X11_waiting 7 rfl) rfl ?_
    refine g_i2l (dk D_X11_waiting 8 rfl) ?_
    refine g_lconst (v := (0 : Int64)) (dk D_X11_waiting 9 rfl) rfl ?_
    refine g_ldc2 (dk D_X11_waiting 10 rfl) lk_RX11_375 ?_
    refine h_callS (st := []) (c_X11_in (E := E) S0 I0 x3.toInt64 (0 : Int64) (999 : Int64)) cl_RX11_132 rfl rfl (by decide) (Nat.le_of_ble_eq_true rfl) (dk D_X11_waiting 11 rfl) ?_
    refine g_if_ne (tgt := 26) (dk D_X11_waiting 12 rfl) rfl (fun hc6 => ?_) (fun hc6 => ?_)
    · refine g_aload_n (dk D_X11_waiting 15 rfl) rfl ?_
      refine g_getAt (t := 100) fl_RX11_43 rfl ht0 (dk D_X11_waiting 16 rfl) (fun ht7 => ?_)
      refine g_bipush (v := (8 : Int32)) (dk D_X11_waiting 17 rfl) rfl ?_
      refine g_iload_n (dk D_X11_waiting 18 rfl) rfl ?_
      refine g_imul (dk D_X11_waiting 19 rfl) ?_
      refine g_iload_n (dk D_X11_waiting 20 rfl) rfl ?_
      refine g_iadd (dk D_X11_waiting 21 rfl) ?_
      refine g_gd (fun hi8 => ?_)
      refine g_iaload ht7 hi8 (dk D_X11_waiting 22 rfl) ?_
      refine g_ltV (fun x4_9 ex4_9 => ?_)
      refine g_istore (L' := [(0, vA (a0 + 1)), (1, vI x1), (2, vI x2), (3, vI x3), (4, vI x4_9)]) (dk D_X11_waiting 23 rfl) (Nat.le_of_ble_eq_true rfl) rfl ?_
      refine g_aload_n (dk D_X11_waiting 24 rfl) rfl ?_
      refine g_getAt (t := 100) fl_RX11_43 rfl ht0 (dk D_X11_waiting 25 rfl) (fun ht10 => ?_)
      refine g_bipush (v := (8 : Int32)) (dk D_X11_waiting 26 rfl) rfl ?_
      refine g_iload_n (dk D_X11_waiting 27 rfl) rfl ?_
      refine g_imul (dk D_X11_waiting 28 rfl) ?_
      refine g_iload_n (dk D_X11_waiting 29 rfl) rfl ?_
      refine g_iadd (dk D_X11_waiting 30 rfl) ?_
      refine g_iload_n (dk D_X11_waiting 31 rfl) rfl ?_
      refine g_iastore ht7 hi8 (dk D_X11_waiting 32 rfl) ?_
      refine g_ltI (fun I11 eI11 => ?_)
      refine g_iload (dk D_X11_waiting 33 rfl) rfl ?_
      exact g_ireturn rfl rfl Sx.rf rfl (by decide) (by decide) (dk D_X11_waiting 34 rfl)
    · refine g_bipush (v := ((-2) : Int32)) (dk D_X11_waiting 13 rfl) rfl ?_
      exact g_ireturn rfl rfl Sx.rf rfl (by decide) (by decide) (dk D_X11_waiting 14 rfl)
  · refine g_iconst (v := ((-1) : Int32)) (dk D_X11_waiting 5 rfl) rfl ?_
    exact g_ireturn rfl rfl Sx.rf rfl (by decide) (by decide) (dk D_X11_waiting 6 rfl)
theorem c_X11_waiting {E : EV} (fu : Nat) (S0 : Sk) (I0 : II) (a0 : Nat) (x1 : Int32) (x2 : Int32) (x3 : Int32) (r : Int32 × II) (h : f_X11_waiting fu S0 I0 a0 x1 x2 x3 = some r) (ht0 : tyO S0 11 a0) : MX E yX11_waiting i_X11_waiting S0 I0 [vA (a0 + 1), vI x1, vI x2, vI x3] (po_X11_waiting S0 I0 r) :=
  MX.of h (by decide) rfl rfl (Nat.le_of_ble_eq_true rfl) (gg_X11_waiting fu S0 I0 a0 x1 x2 x3 ht0)
theorem lk_RX11_377 : Cond.constantLong RX11 377 (99 : Int64) ∈ lw_good := (gm 1459 (by decide +kernel) (by decide +kernel))
def tb_X11_seats : List (Nat × Instr × Nat) := [(0, .iload_n 1, 1), (1, .i2l, 1), (2, .lconst 1, 1), (3, .ldc2_w 377, 3), (6, .invokestatic 132, 3), (9, .ifCond .ne 6, 3), (12, .bipush (-2), 2), (14, .ireturn, 1), (15, .aload_n 0, 1), (16, .getfield 124, 3), (19, .istore_n 2, 1), (20, .aload_n 0, 1), (21, .iload_n 1, 1), (22, .putfield 124, 3), (25, .iload_n 2, 1), (26, .ireturn, 1)]
def i_X11_seats : MI := (RX11, cX11_seats, 3, (some .int), "seats", { frames := 1, cells := 0, slots := 0, locals := 25 })
theorem D_X11_seats : tbOK (i_X11_seats).2.1 tb_X11_seats := by show ∀ q ∈ tb_X11_seats, decode cX11_seats q.1 = .ok (q.2.1, q.2.2); decide +kernel
def po_X11_seats (S : Sk) (I : II) (r : Int32 × II) : Option LV × Sk × II := (some (vI r.1), S, r.2)
def f_X11_seats (fu : Nat) (S : Sk) (I : II) (a0 : Nat) (x1 : Int32) : Option (Int32 × II) :=
  if (t_X11_in x1.toInt64 (1 : Int64) (99 : Int64)) = 0 then some ((((-2) : Int32), I)) else lt (I a0 51) fun x2_3 => (lt (upI I a0 51 x1) fun I4 => (some ((x2_3, I4))))
set_option maxRecDepth 100000 in
set_option maxHeartbeats 4000000 in
theorem gg_X11_seats {E : EV} (fu : Nat) (S0 : Sk) (I0 : II) (a0 : Nat) (x1 : Int32) (ht0 : tyO S0 11 a0) : GG E i_X11_seats (enM E i_X11_seats S0 (po_X11_seats S0 I0)) S0 I0 (0, 0) 0 [(0, vA (a0 + 1)), (1, vI x1)] [] (f_X11_seats fu S0 I0 a0 x1) := by
  unfold f_X11_seats
  refine g_iload_n (dk D_X11_seats 0 rfl) rfl ?_
  refine g_i2l (dk D_X11_seats 1 rfl) ?_
  refine g_lconst (v := (1 : Int64)) (dk D_X11_seats 2 rfl) rfl ?_
  refine g_ldc2 (dk D_X11_seats 3 rfl) lk_RX11_377 ?_
  refine h_callS (st := []) (c_X11_in (E := E) S0 I0 x1.toInt64 (1 : Int64) (99 : Int64)) cl_RX11_132 rfl rfl (by decide) (Nat.le_of_ble_eq_true rfl) (dk D_X11_seats 4 rfl) ?_
  refine g_if_ne (tgt := 15) (dk D_X11_seats 5 rfl) rfl (fun hc2 => ?_) (fun hc2 => ?_)
  · refine g_aload_n (dk D_X11_seats 8 rfl) rfl ?_
    refine g_getIt fl_RX11_124 (by decide) ht0 (dk D_X11_seats 9 rfl) ?_
    refine g_ltV (fun x2_3 ex2_3 => ?_)
    refine g_istore_n (L' := [(0, vA (a0 + 1)), (1, vI x1), (2, vI x2_3)]) (dk D_X11_seats 10 rfl) (Nat.le_of_ble_eq_true rfl) rfl ?_
    refine g_aload_n (dk D_X11_seats 11 rfl) rfl ?_
    refine g_iload_n (dk D_X11_seats 12 rfl) rfl ?_
    refine g_putIt fl_RX11_124 fp_11_51 (fun h => (by cases h)) (by decide) rfl rfl ht0 (dk D_X11_seats 13 rfl) ?_
    refine g_ltI (fun I4 eI4 => ?_)
    refine g_iload_n (dk D_X11_seats 14 rfl) rfl ?_
    exact g_ireturn rfl rfl Sx.rf rfl (by decide) (by decide) (dk D_X11_seats 15 rfl)
  · refine g_bipush (v := ((-2) : Int32)) (dk D_X11_seats 6 rfl) rfl ?_
    exact g_ireturn rfl rfl Sx.rf rfl (by decide) (by decide) (dk D_X11_seats 7 rfl)
theorem c_X11_seats {E : EV} (fu : Nat) (S0 : Sk) (I0 : II) (a0 : Nat) (x1 : Int32) (r : Int32 × II) (h : f_X11_seats fu S0 I0 a0 x1 = some r) (ht0 : tyO S0 11 a0) : MX E yX11_seats i_X11_seats S0 I0 [vA (a0 + 1), vI x1] (po_X11_seats S0 I0 r) :=
  MX.of h (by decide) rfl rfl (Nat.le_of_ble_eq_true rfl) (gg_X11_seats fu S0 I0 a0 x1 ht0)
def tb_X11_standing : List (Nat × Instr × Nat) := [(0, .aload_n 0, 1), (1, .iload_n 1, 1), (2, .invokevirtual 197, 3), (5, .ifCond .ne 17, 3), (8, .iload_n 2, 1), (9, .iconst (-1), 1), (10, .if_icmp .eq 14, 3), (13, .aload_n 0, 1), (14, .iload_n 1, 1), (15, .iload_n 2, 1), (16, .invokevirtual 372, 3), (19, .ifCond .eq 5, 3), (22, .iconst (-1), 1), (23, .ireturn, 1), (24, .iload_n 3, 1), (25, .i2l, 1), (26, .lconst 0, 1), (27, .ldc2_w 375, 3), (30, .invokestatic 132, 3), (33, .ifCond .ne 6, 3), (36, .bipush (-2), 2), (38, .ireturn, 1), (39, .iload_n 3, 1), (40, .aload_n 0, 1), (41, .getfield 124, 3), (44, .imul, 1), (45, .istore 4, 2), (47, .iconst 0, 1), (48, .istore 5, 2), (50, .iconst 0, 1), (51, .istore 6, 2), (53, .iload 6, 2), (55, .aload_n 0, 1), (56, .getfield 19, 3), (59, .iload_n 1, 1), (60, .iaload, 1), (61, .iconst 1, 1), (62, .isub, 1), (63, .if_icmp .ge 68, 3), (66, .iload 4, 2), (68, .aload_n 0, 1), (69, .getfield 43, 3), (72, .bipush 8, 2), (74, .iload_n 1, 1), (75, .imul, 1), (76, .iload 6, 2), (78, .iadd, 1), (79, .iaload, 1), (80, .invokestatic 257, 3), (83, .istore 7, 2), (85, .iload 4, 2), (87, .iload 7, 2), (89, .isub, 1), (90, .istore 4, 2), (92, .aload_n 0, 1), (93, .getfield 43, 3), (96, .bipush 8, 2), (98, .iload_n 1, 1), (99, .imul, 1), (100, .iload 6, 2), (102, .iadd, 1), (103, .iaload, 1), (104, .iload 7, 2), (106, .isub, 1), (107, .istore 8, 2), (109, .iload 5, 2), (111, .iload 8, 2), (113, .iadd, 1), (114, .istore 5, 2), (116, .iload 6, 2), (118, .iload_n 2, 1), (119, .if_icmp .ne 6, 3), (122, .iload 8, 2), (124, .ireturn, 1), (125, .iinc 6 1, 3), (128, .goto (-75), 3), (131, .iload 5, 2), (133, .ireturn, 1)]
def i_X11_standing : MI := (RX11, cX11_standing, 9, (some .int), "standing", { frames := 3, cells := 0, slots := 0, locals := 68 })
theorem D_X11_standing : tbOK (i_X11_standing).2.1 tb_X11_standing := by show ∀ q ∈ tb_X11_standing, decode cX11_standing q.1 = .ok (q.2.1, q.2.2); decide +kernel
def po_X11_standing (S : Sk) (I : II) (r : Int32) : Option LV × Sk × II := (some (vI r), S, I)
def lp_X11_standing_53 (fu : Nat) (S : Sk) (I : II) (a0 : Nat) (x1 : Int32) (x2 : Int32) (self53 : Int32 → Int32 → Int32 → Option (Int32)) (x4 : Int32) (x5 : Int32) (x6 : Int32) : Option (Int32) :=
  gd (inb S (S.1 a0 6) x1) (if ((rd I (S.1 a0 6) x1) - (1 : Int32)) ≤ x6 then some (x5) else gd (inb S (S.1 a0 14) (((8 : Int32) * x1) + x6)) (lt (t_X11_lesser x4 (rd I (S.1 a0 14) (((8 : Int32) * x1) + x6))) fun x7_7 => (lt (x4 - x7_7) fun x4_8 => (lt ((rd I (S.1 a0 14) (((8 : Int32) * x1) + x6)) - x7_7) fun x8_10 => (lt (x5 + x8_10) fun x5_11 => (if x6 = x2 then some (x8_10) else self53 x4_8 x5_11 (x6 + (1 : Int32))))))))
def jn_X11_standing_24 (fu : Nat) (S : Sk) (I : II) (a0 : Nat) (x1 : Int32) (x2 : Int32) (x3 : Int32) : Option (Int32) :=
  if (t_X11_in x3.toInt64 (0 : Int64) (999 : Int64)) = 0 then some (((-2) : Int32)) else lt (x3 * (I a0 51)) fun x4_15 => (fix3 (lp_X11_standing_53 fu S I a0 x1 x2) fu x4_15 (0 : Int32) (0 : Int32))
def f_X11_standing (fu : Nat) (S : Sk) (I : II) (a0 : Nat) (x1 : Int32) (x2 : Int32) (x3 : Int32) : Option (Int32) :=
  if (t_X11_noLine I a0 x1) = 0 then if x2 = ((-1) : Int32) then jn_X11_standing_24 fu S I a0 x1 x2 x3 else (f_X11_noQueue fu S I a0 x1 x2).bind fun q19 => (if q19 = 0 then jn_X11_standing_24 fu S I a0 x1 x2 x3 else some (((-1) : Int32))) else some (((-1) : Int32))
set_option maxRecDepth 100000 in
set_option maxHeartbeats 4000000 in
theorem gg_X11_standing {E : EV} (fu : Nat) (S0 : Sk) (I0 : II) (a0 : Nat) (x1 : Int32) (x2 : Int32) (x3 : Int32) (ht0 : tyO S0 11 a0) : GG E i_X11_standing (enM E i_X11_standing S0 (po_X11_standing S0 I0)) S0 I0 (0, 0) 0 [(0, vA (a0 + 1)), (1, vI x1), (2, vI x2), (3, vI x3)] [] (f_X11_standing fu S0 I0 a0 x1 x2 x3) := by
  have hl53 : ∀ (nn : Nat) (x4 : Int32) (x5 : Int32) (x6 : Int32), True → GG E i_X11_standing (enM E i_X11_standing S0 (po_X11_standing S0 I0)) S0 I0 (0, 0) 53 [(0, vA (a0 + 1)), (1, vI x1), (2, vI x2), (4, vI x4), (5, vI x5), (6, vI x6)] [] (fix3 (lp_X11_standing_53 fu S0 I0 a0 x1 x2) nn x4 x5 x6) := by
    refine g_fix3 (fun _ _ _ => S0) (fun _ _ _ => I0) (fun x4 x5 x6 => [(0, vA (a0 + 1)), (1, vI x1), (2, vI x2), (4, vI x4), (5, vI x5), (6, vI x6)]) (fun x4 x5 x6 => True) ?_
    intro self53 hself53 x4 x5 x6 hinv
    unfold lp_X11_standing_53
    refine g_iload (dk D_X11_standing 31 rfl) rfl ?_
    refine g_aload_n (dk D_X11_standing 32 rfl) rfl ?_
    refine g_getAt (t := 100) fl_RX11_19 rfl ht0 (dk D_X11_standing 33 rfl) (fun ht1 => ?_)
    refine g_iload_n (dk D_X11_standing 34 rfl) rfl ?_
    refine g_gd (fun hi2 => ?_)
    refine g_iaload ht1 hi2 (dk D_X11_standing 35 rfl) ?_
    refine g_iconst (v := (1 : Int32)) (dk D_X11_standing 36 rfl) rfl ?_
    refine g_isub (dk D_X11_standing 37 rfl) ?_
    refine g_icmp_ge (tgt := 131) (dk D_X11_standing 38 rfl) rfl (fun hc3 => ?_) (fun hc3 => ?_)
    · refine g_iload (dk D_X11_standing 76 rfl) rfl ?_
      exact g_ireturn rfl rfl Sx.rf rfl (by decide) (by decide) (dk D_X11_standing 77 rfl)
    · refine g_iload (dk D_X11_standing 39 rfl) rfl ?_
      refine g_aload_n (dk D_X11_standing 40 rfl) rfl ?_
      refine g_getAt (t := 100) fl_RX11_43 rfl ht0 (dk D_X11_standing 41 rfl) (fun ht4 => ?_)
      refine g_bipush (v := (8 : Int32)) (dk D_X11_standing 42 rfl) rfl ?_
      refine g_iload_n (dk D_X11_standing 43 rfl) rfl ?_
      refine g_imul (dk D_X11_standing 44 rfl) ?_
      refine g_iload (dk D_X11_standing 45 rfl) rfl ?_
      refine g_iadd (dk D_X11_standing 46 rfl) ?_
      refine g_gd (fun hi5 => ?_)
      refine g_iaload ht4 hi5 (dk D_X11_standing 47 rfl) ?_
      refine h_callS (st := []) (c_X11_lesser (E := E) S0 I0 x4 (rd I0 (S0.1 a0 14) (((8 : Int32) * x1) + x6))) cl_RX11_257 rfl rfl (by decide) (Nat.le_of_ble_eq_true rfl) (dk D_X11_standing 48 rfl) ?_
      refine g_ltV (fun x7_7 ex7_7 => ?_)
      refine g_istore (L' := [(0, vA (a0 + 1)), (1, vI x1), (2, vI x2), (4, vI x4), (5, vI x5), (6, vI x6), (7, vI x7_7)]) (dk D_X11_standing 49 rfl) (Nat.le_of_ble_eq_true rfl) rfl ?_
      refine g_iload (dk D_X11_standing 50 rfl) rfl ?_
      refine g_iload (dk D_X11_standing 51 rfl) rfl ?_
      refine g_isub (dk D_X11_standing 52 rfl) ?_
      refine g_ltV (fun x4_8 ex4_8 => ?_)
      refine g_istore (L' := [(0, vA (a0 + 1)), (1, vI x1), (2, vI x2), (4, vI x4_8), (5, vI x5), (6, vI x6), (7, vI x7_7)]) (dk D_X11_standing 53 rfl) (Nat.le_of_ble_eq_true rfl) rfl ?_
      refine g_aload_n (dk D_X11_standing 54 rfl) rfl ?_
      refine g_getAt (t := 100) fl_RX11_43 rfl ht0 (dk D_X11_standing 55 rfl) (fun ht9 => ?_)
      refine g_bipush (v := (8 : Int32)) (dk D_X11_standing 56 rfl) rfl ?_
      refine g_iload_n (dk D_X11_standing 57 rfl) rfl ?_
      refine g_imul (dk D_X11_standing 58 rfl) ?_
      refine g_iload (dk D_X11_standing 59 rfl) rfl ?_
      refine g_iadd (dk D_X11_standing 60 rfl) ?_
      refine g_iaload ht4 hi5 (dk D_X11_standing 61 rfl) ?_
      refine g_iload (dk D_X11_standing 62 rfl) rfl ?_
      refine g_isub (dk D_X11_standing 63 rfl) ?_
      refine g_ltV (fun x8_10 ex8_10 => ?_)
      refine g_istore (L' := [(0, vA (a0 + 1)), (1, vI x1), (2, vI x2), (4, vI x4_8), (5, vI x5), (6, vI x6), (7, vI x7_7), (8, vI x8_10)]) (dk D_X11_standing 64 rfl) (Nat.le_of_ble_eq_true rfl) rfl ?_
      refine g_iload (dk D_X11_standing 65 rfl) rfl ?_
      refine g_iload (dk D_X11_standing 66 rfl) rfl ?_
      refine g_iadd (dk D_X11_standing 67 rfl) ?_
      refine g_ltV (fun x5_11 ex5_11 => ?_)
      refine g_istore (L' := [(0, vA (a0 + 1)), (1, vI x1), (2, vI x2), (4, vI x4_8), (5, vI x5_11), (6, vI x6), (7, vI x7_7), (8, vI x8_10)]) (dk D_X11_standing 68 rfl) (Nat.le_of_ble_eq_true rfl) rfl ?_
      refine g_iload (dk D_X11_standing 69 rfl) rfl ?_
      refine g_iload_n (dk D_X11_standing 70 rfl) rfl ?_
      refine g_icmp_ne (tgt := 125) (dk D_X11_standing 71 rfl) rfl (fun hc12 => ?_) (fun hc12 => ?_)
      · refine g_iinc (v := (1 : Int32)) (L' := [(0, vA (a0 + 1)), (1, vI x1), (2, vI x2), (4, vI x4_8), (5, vI x5_11), (6, vI (x6 + (1 : Int32))), (7, vI x7_7), (8, vI x8_10)]) (dk D_X11_standing 74 rfl) rfl rfl (Nat.le_of_ble_eq_true rfl) rfl ?_
        refine g_goto (tgt := 53) (dk D_X11_standing 75 rfl) rfl ?_
        refine g_Lp [0, 1, 2, 3, 4, 5] rfl ?_
        exact hself53 x4_8 x5_11 (x6 + (1 : Int32)) trivial
      · refine g_iload (dk D_X11_standing 72 rfl) rfl ?_
        exact g_ireturn rfl rfl Sx.rf rfl (by decide) (by decide) (dk D_X11_standing 73 rfl)
  have hj24 : GG E i_X11_standing (enM E i_X11_standing S0 (po_X11_standing S0 I0)) S0 I0 (0, 0) 24 [(0, vA (a0 + 1)), (1, vI x1), (2, vI x2), (3, vI x3)] [] (jn_X11_standing_24 fu S0 I0 a0 x1 x2 x3) := by
    unfold jn_X11_standing_24
    refine g_iload_n (dk D_X11_standing 14 rfl) rfl ?_
    refine g_i2l (dk D_X11_standing 15 rfl) ?_
    refine g_lconst (v := (0 : Int64)) (dk D_X11_standing 16 rfl) rfl ?_
    refine g_ldc2 (dk D_X11_standing 17 rfl) lk_RX11_375 ?_
    refine h_callS (st := []) (c_X11_in (E := E) S0 I0 x3.toInt64 (0 : Int64) (999 : Int64)) cl_RX11_132 rfl rfl (by decide) (Nat.le_of_ble_eq_true rfl) (dk D_X11_standing 18 rfl) ?_
    refine g_if_ne (tgt := 39) (dk D_X11_standing 19 rfl) rfl (fun hc14 => ?_) (fun hc14 => ?_)
    · refine g_iload_n (dk D_X11_standing 22 rfl) rfl ?_
      refine g_aload_n (dk D_X11_standing 23 rfl) rfl ?_
      refine g_getIt fl_RX11_124 (by decide) ht0 (dk D_X11_standing 24 rfl) ?_
      refine g_imul (dk D_X11_standing 25 rfl) ?_
      refine g_ltV (fun x4_15 ex4_15 => ?_)
      refine g_istore (L' := [(0, vA (a0 + 1)), (1, vI x1), (2, vI x2), (3, vI x3), (4, vI x4_15)]) (dk D_X11_standing 26 rfl) (Nat.le_of_ble_eq_true rfl) rfl ?_
      refine g_iconst (v := (0 : Int32)) (dk D_X11_standing 27 rfl) rfl ?_
      refine g_istore (L' := [(0, vA (a0 + 1)), (1, vI x1), (2, vI x2), (3, vI x3), (4, vI x4_15), (5, vI (0 : Int32))]) (dk D_X11_standing 28 rfl) (Nat.le_of_ble_eq_true rfl) rfl ?_
      refine g_iconst (v := (0 : Int32)) (dk D_X11_standing 29 rfl) rfl ?_
      refine g_istore (L' := [(0, vA (a0 + 1)), (1, vI x1), (2, vI x2), (3, vI x3), (4, vI x4_15), (5, vI (0 : Int32)), (6, vI (0 : Int32))]) (dk D_X11_standing 30 rfl) (Nat.le_of_ble_eq_true rfl) rfl ?_
      refine g_Lp [0, 1, 2, 4, 5, 6] rfl ?_
      exact hl53 fu x4_15 (0 : Int32) (0 : Int32) trivial
    · refine g_bipush (v := ((-2) : Int32)) (dk D_X11_standing 20 rfl) rfl ?_
      exact g_ireturn rfl rfl Sx.rf rfl (by decide) (by decide) (dk D_X11_standing 21 rfl)
  unfold f_X11_standing
  refine g_aload_n (dk D_X11_standing 0 rfl) rfl ?_
  refine g_iload_n (dk D_X11_standing 1 rfl) rfl ?_
  refine h_callVt (st := []) (c_X11_noLine (E := E) S0 I0 a0 x1 (ht0)) cl_RX11_197 ht0 rfl rfl (by decide) (Nat.le_of_ble_eq_true rfl) (dk D_X11_standing 2 rfl) ?_
  refine g_if_ne (tgt := 22) (dk D_X11_standing 3 rfl) rfl (fun hc17 => ?_) (fun hc17 => ?_)
  · refine g_iconst (v := ((-1) : Int32)) (dk D_X11_standing 12 rfl) rfl ?_
    exact g_ireturn rfl rfl Sx.rf rfl (by decide) (by decide) (dk D_X11_standing 13 rfl)
  · refine g_iload_n (dk D_X11_standing 4 rfl) rfl ?_
    refine g_iconst (v := ((-1) : Int32)) (dk D_X11_standing 5 rfl) rfl ?_
    refine g_icmp_eq (tgt := 24) (dk D_X11_standing 6 rfl) rfl (fun hc18 => ?_) (fun hc18 => ?_)
    · exact hj24
    · refine g_aload_n (dk D_X11_standing 7 rfl) rfl ?_
      refine g_iload_n (dk D_X11_standing 8 rfl) rfl ?_
      refine g_iload_n (dk D_X11_standing 9 rfl) rfl ?_
      refine g_bind (fun q19 hq20 => ?_)
      refine h_callVt (st := []) (c_X11_noQueue (E := E) fu S0 I0 a0 x1 x2 q19 hq20 (ht0)) cl_RX11_372 ht0 rfl rfl (by decide) (Nat.le_of_ble_eq_true rfl) (dk D_X11_standing 10 rfl) ?_
      refine g_if_eq (tgt := 24) (dk D_X11_standing 11 rfl) rfl (fun hc22 => ?_) (fun hc22 => ?_)
      · exact hj24
      · refine g_iconst (v := ((-1) : Int32)) (dk D_X11_standing 12 rfl) rfl ?_
        exact g_ireturn rfl rfl Sx.rf rfl (by decide) (by decide) (dk D_X11_standing 13 rfl)
theorem c_X11_standing {E : EV} (fu : Nat) (S0 : Sk) (I0 : II) (a0 : Nat) (x1 : Int32) (x2 : Int32) (x3 : Int32) (r : Int32) (h : f_X11_standing fu S0 I0 a0 x1 x2 x3 = some r) (ht0 : tyO S0 11 a0) : MX E yX11_standing i_X11_standing S0 I0 [vA (a0 + 1), vI x1, vI x2, vI x3] (po_X11_standing S0 I0 r) :=
  MX.of h (by decide) rfl rfl (Nat.le_of_ble_eq_true rfl) (gg_X11_standing fu S0 I0 a0 x1 x2 x3 ht0)
def tb_X11_extra : List (Nat × Instr × Nat) := [(0, .aload_n 0, 1), (1, .iload_n 1, 1), (2, .invokevirtual 197, 3), (5, .ifCond .eq 5, 3), (8, .iconst (-1), 1), (9, .ireturn, 1), (10, .iconst 0, 1), (11, .istore_n 2, 1), (12, .iconst 0, 1), (13, .istore_n 3, 1), (14, .iload_n 3, 1), (15, .aload_n 0, 1), (16, .getfield 19, 3), (19, .iload_n 1, 1), (20, .iaload, 1), (21, .iconst 1, 1), (22, .isub, 1), (23, .if_icmp .ge 23, 3), (26, .iload_n 2, 1), (27, .aload_n 0, 1), (28, .getfield 43, 3), (31, .bipush 8, 2), (33, .iload_n 1, 1), (34, .imul, 1), (35, .iload_n 3, 1), (36, .iadd, 1), (37, .iaload, 1), (38, .iadd, 1), (39, .istore_n 2, 1), (40, .iinc 3 1, 3), (43, .goto (-29), 3), (46, .iconst 0, 1), (47, .iload_n 2, 1), (48, .aload_n 0, 1), (49, .getfield 124, 3), (52, .iadd, 1), (53, .iconst 1, 1), (54, .isub, 1), (55, .aload_n 0, 1), (56, .getfield 124, 3), (59, .idiv, 1), (60, .aload_n 0, 1), (61, .iload_n 1, 1), (62, .invokevirtual 206, 3), (65, .isub, 1), (66, .invokestatic 194, 3), (69, .ireturn, 1)]
def i_X11_extra : MI := (RX11, cX11_extra, 4, (some .int), "extra", { frames := 2, cells := 0, slots := 0, locals := 46 })
theorem D_X11_extra : tbOK (i_X11_extra).2.1 tb_X11_extra := by show ∀ q ∈ tb_X11_extra, decode cX11_extra q.1 = .ok (q.2.1, q.2.2); decide +kernel
def po_X11_extra (S : Sk) (I : II) (r : Int32) : Option LV × Sk × II := (some (vI r), S, I)
def lp_X11_extra_14 (fu : Nat) (S : Sk) (I : II) (a0 : Nat) (x1 : Int32) (self14 : Int32 → Int32 → Option (Int32)) (x2 : Int32) (x3 : Int32) : Option (Int32) :=
  gd (inb S (S.1 a0 6) x1) (if ((rd I (S.1 a0 6) x1) - (1 : Int32)) ≤ x3 then gd (¬ (I a0 51) = 0) ((f_X11_buses fu S I a0 x1).bind fun q5 => (some ((t_X11_greater (0 : Int32) ((((x2 + (I a0 51)) - (1 : Int32)) / (I a0 51)) - q5))))) else gd (inb S (S.1 a0 14) (((8 : Int32) * x1) + x3)) (lt (x2 + (rd I (S.1 a0 14) (((8 : Int32) * x1) + x3))) fun x2_11 => (self14 x2_11 (x3 + (1 : Int32)))))
def f_X11_extra (fu : Nat) (S : Sk) (I : II) (a0 : Nat) (x1 : Int32) : Option (Int32) :=
  if (t_X11_noLine I a0 x1) = 0 then fix2 (lp_X11_extra_14 fu S I a0 x1) fu (0 : Int32) (0 : Int32) else some (((-1) : Int32))
set_option maxRecDepth 100000 in
set_option maxHeartbeats 4000000 in
theorem gg_X11_extra {E : EV} (fu : Nat) (S0 : Sk) (I0 : II) (a0 : Nat) (x1 : Int32) (ht0 : tyO S0 11 a0) : GG E i_X11_extra (enM E i_X11_extra S0 (po_X11_extra S0 I0)) S0 I0 (0, 0) 0 [(0, vA (a0 + 1)), (1, vI x1)] [] (f_X11_extra fu S0 I0 a0 x1) := by
  have hl14 : ∀ (nn : Nat) (x2 : Int32) (x3 : Int32), True → GG E i_X11_extra (enM E i_X11_extra S0 (po_X11_extra S0 I0)) S0 I0 (0, 0) 14 [(0, vA (a0 + 1)), (1, vI x1), (2, vI x2), (3, vI x3)] [] (fix2 (lp_X11_extra_14 fu S0 I0 a0 x1) nn x2 x3) := by
    refine g_fix2 (fun _ _ => S0) (fun _ _ => I0) (fun x2 x3 => [(0, vA (a0 + 1)), (1, vI x1), (2, vI x2), (3, vI x3)]) (fun x2 x3 => True) ?_
    intro self14 hself14 x2 x3 hinv
    unfold lp_X11_extra_14
    refine g_iload_n (dk D_X11_extra 10 rfl) rfl ?_
    refine g_aload_n (dk D_X11_extra 11 rfl) rfl ?_
    refine g_getAt (t := 100) fl_RX11_19 rfl ht0 (dk D_X11_extra 12 rfl) (fun ht1 => ?_)
    refine g_iload_n (dk D_X11_extra 13 rfl) rfl ?_
    refine g_gd (fun hi2 => ?_)
    refine g_iaload ht1 hi2 (dk D_X11_extra 14 rfl) ?_
    refine g_iconst (v := (1 : Int32)) (dk D_X11_extra 15 rfl) rfl ?_
    refine g_isub (dk D_X11_extra 16 rfl) ?_
    refine g_icmp_ge (tgt := 46) (dk D_X11_extra 17 rfl) rfl (fun hc3 => ?_) (fun hc3 => ?_)
    · refine g_iconst (v := (0 : Int32)) (dk D_X11_extra 31 rfl) rfl ?_
      refine g_iload_n (dk D_X11_extra 32 rfl) rfl ?_
      refine g_aload_n (dk D_X11_extra 33 rfl) rfl ?_
      refine g_getIt fl_RX11_124 (by decide) ht0 (dk D_X11_extra 34 rfl) ?_
      refine g_iadd (dk D_X11_extra 35 rfl) ?_
      refine g_iconst (v := (1 : Int32)) (dk D_X11_extra 36 rfl) rfl ?_
      refine g_isub (dk D_X11_extra 37 rfl) ?_
      refine g_aload_n (dk D_X11_extra 38 rfl) rfl ?_
      refine g_getIt fl_RX11_124 (by decide) ht0 (dk D_X11_extra 39 rfl) ?_
      refine g_gd (fun hz4 => ?_)
      refine g_idiv (dk D_X11_extra 40 rfl) hz4 ?_
      refine g_aload_n (dk D_X11_extra 41 rfl) rfl ?_
      refine g_iload_n (dk D_X11_extra 42 rfl) rfl ?_
      refine g_bind (fun q5 hq6 => ?_)
      refine h_callVt (st := [vI (((x2 + (I0 a0 51)) - (1 : Int32)) / (I0 a0 51)), vI (0 : Int32)]) (c_X11_buses (E := E) fu S0 I0 a0 x1 q5 hq6 (ht0)) cl_RX11_206 ht0 rfl rfl (by decide) (Nat.le_of_ble_eq_true rfl) (dk D_X11_extra 43 rfl) ?_
      refine g_isub (dk D_X11_extra 44 rfl) ?_
      refine h_callS (st := []) (c_X11_greater (E := E) S0 I0 (0 : Int32) ((((x2 + (I0 a0 51)) - (1 : Int32)) / (I0 a0 51)) - q5)) cl_RX11_194 rfl rfl (by decide) (Nat.le_of_ble_eq_true rfl) (dk D_X11_extra 45 rfl) ?_
      exact g_ireturn rfl rfl Sx.rf rfl (by decide) (by decide) (dk D_X11_extra 46 rfl)
    · refine g_iload_n (dk D_X11_extra 18 rfl) rfl ?_
      refine g_aload_n (dk D_X11_extra 19 rfl) rfl ?_
      refine g_getAt (t := 100) fl_RX11_43 rfl ht0 (dk D_X11_extra 20 rfl) (fun ht9 => ?_)
      refine g_bipush (v := (8 : Int32)) (dk D_X11_extra 21 rfl) rfl ?_
      refine g_iload_n (dk D_X11_extra 22 rfl) rfl ?_
      refine g_imul (dk D_X11_extra 23 rfl) ?_
      refine g_iload_n (dk D_X11_extra 24 rfl) rfl ?_
      refine g_iadd (dk D_X11_extra 25 rfl) ?_
      refine g_gd (fun hi10 => ?_)
      refine g_iaload ht9 hi10 (dk D_X11_extra 26 rfl) ?_
      refine g_iadd (dk D_X11_extra 27 rfl) ?_
      refine g_ltV (fun x2_11 ex2_11 => ?_)
      refine g_istore_n (L' := [(0, vA (a0 + 1)), (1, vI x1), (2, vI x2_11), (3, vI x3)]) (dk D_X11_extra 28 rfl) (Nat.le_of_ble_eq_true rfl) rfl ?_
      refine g_iinc (v := (1 : Int32)) (L' := [(0, vA (a0 + 1)), (1, vI x1), (2, vI x2_11), (3, vI (x3 + (1 : Int32)))]) (dk D_X11_extra 29 rfl) rfl rfl (Nat.le_of_ble_eq_true rfl) rfl ?_
      refine g_goto (tgt := 14) (dk D_X11_extra 30 rfl) rfl ?_
      exact hself14 x2_11 (x3 + (1 : Int32)) trivial
  unfold f_X11_extra
  refine g_aload_n (dk D_X11_extra 0 rfl) rfl ?_
  refine g_iload_n (dk D_X11_extra 1 rfl) rfl ?_
  refine h_callVt (st := []) (c_X11_noLine (E := E) S0 I0 a0 x1 (ht0)) cl_RX11_197 ht0 rfl rfl (by decide) (Nat.le_of_ble_eq_true rfl) (dk D_X11_extra 2 rfl) ?_
  refine g_if_eq (tgt := 10) (dk D_X11_extra 3 rfl) rfl (fun hc13 => ?_) (fun hc13 => ?_)
  · refine g_iconst (v := (0 : Int32)) (dk D_X11_extra 6 rfl) rfl ?_
    refine g_istore_n (L' := [(0, vA (a0 + 1)), (1, vI x1), (2, vI (0 : Int32))]) (dk D_X11_extra 7 rfl) (Nat.le_of_ble_eq_true rfl) rfl ?_
    refine g_iconst (v := (0 : Int32)) (dk D_X11_extra 8 rfl) rfl ?_
    refine g_istore_n (L' := [(0, vA (a0 + 1)), (1, vI x1), (2, vI (0 : Int32)), (3, vI (0 : Int32))]) (dk D_X11_extra 9 rfl) (Nat.le_of_ble_eq_true rfl) rfl ?_
    exact hl14 fu (0 : Int32) (0 : Int32) trivial
  · refine g_iconst (v := ((-1) : Int32)) (dk D_X11_extra 4 rfl) rfl ?_
    exact g_ireturn rfl rfl Sx.rf rfl (by decide) (by decide) (dk D_X11_extra 5 rfl)
theorem c_X11_extra {E : EV} (fu : Nat) (S0 : Sk) (I0 : II) (a0 : Nat) (x1 : Int32) (r : Int32) (h : f_X11_extra fu S0 I0 a0 x1 = some r) (ht0 : tyO S0 11 a0) : MX E yX11_extra i_X11_extra S0 I0 [vA (a0 + 1), vI x1] (po_X11_extra S0 I0 r) :=
  MX.of h (by decide) rfl rfl (Nat.le_of_ble_eq_true rfl) (gg_X11_extra fu S0 I0 a0 x1 ht0)
def tb_X11_sheet : List (Nat × Instr × Nat) := [(0, .iload_n 1, 1), (1, .invokestatic 175, 3), (4, .ifCond .eq 9, 3), (7, .aload_n 0, 1), (8, .iconst (-1), 1), (9, .invokevirtual 145, 3), (12, .ireturn, 1), (13, .iload_n 2, 1), (14, .i2l, 1), (15, .lconst 0, 1), (16, .ldc2_w 143, 3), (19, .invokestatic 132, 3), (22, .ifCond .eq 9, 3), (25, .iload_n 3, 1), (26, .bipush 60, 2), (28, .if_icmp .le 10, 3), (31, .aload_n 0, 1), (32, .bipush (-2), 2), (34, .invokevirtual 145, 3), (37, .ireturn, 1), (38, .iload_n 3, 1), (39, .ifCond .ge 9, 3), (42, .aload_n 0, 1), (43, .iconst 4, 1), (44, .invokevirtual 149, 3), (47, .ireturn, 1), (48, .aload_n 0, 1), (49, .getfield 112, 3), (52, .iload_n 1, 1), (53, .iload_n 3, 1), (54, .iastore, 1), (55, .aload_n 0, 1), (56, .getfield 115, 3), (59, .iload_n 1, 1), (60, .iload_n 2, 1), (61, .iastore, 1), (62, .iconst 0, 1), (63, .istore 4, 2), (65, .iload 4, 2), (67, .iload_n 3, 1), (68, .if_icmp .ge 22, 3), (71, .aload_n 0, 1), (72, .getfield 118, 3), (75, .bipush 60, 2), (77, .iload_n 1, 1), (78, .imul, 1), (79, .iload 4, 2), (81, .iadd, 1), (82, .iconst 0, 1), (83, .iastore, 1), (84, .iinc 4 1, 3), (87, .goto (-22), 3), (90, .aload_n 0, 1), (91, .iconst 1, 1), (92, .invokevirtual 145, 3), (95, .ireturn, 1)]
def i_X11_sheet : MI := (RX11, cX11_sheet, 5, (some .int), "sheet", { frames := 2, cells := 0, slots := 0, locals := 45 })
theorem D_X11_sheet : tbOK (i_X11_sheet).2.1 tb_X11_sheet := by show ∀ q ∈ tb_X11_sheet, decode cX11_sheet q.1 = .ok (q.2.1, q.2.2); decide +kernel
def po_X11_sheet (S : Sk) (I : II) (r : Int32 × II) : Option LV × Sk × II := (some (vI r.1), S, r.2)
def jn_X11_sheet_31 (fu : Nat) (S : Sk) (I : II) (a0 : Nat) : Option (Int32 × II) :=
  (f_X11_refused fu S I a0 ((-2) : Int32)).bind fun q1 => (some ((q1.1, q1.2)))
def lp_X11_sheet_65 (fu : Nat) (S : Sk) (a0 : Nat) (x1 : Int32) (x3 : Int32) (self65 : Int32 → II → Option (Int32 × II)) (x4 : Int32) (I : II) : Option (Int32 × II) :=
  if x3 ≤ x4 then (f_X11_refused fu S I a0 (1 : Int32)).bind fun q5 => (some ((q5.1, q5.2))) else gd (inb S (S.1 a0 54) (((60 : Int32) * x1) + x4)) (lt (wr I (S.1 a0 54) (((60 : Int32) * x1) + x4) (0 : Int32)) fun I10 => (self65 (x4 + (1 : Int32)) I10))
def f_X11_sheet (fu : Nat) (S : Sk) (I : II) (a0 : Nat) (x1 : Int32) (x2 : Int32) (x3 : Int32) : Option (Int32 × II) :=
  if (t_X11_noSheet x1) = 0 then if (t_X11_in x2.toInt64 (0 : Int64) (2 : Int64)) = 0 then jn_X11_sheet_31 fu S I a0 else if x3 ≤ (60 : Int32) then if 0 ≤ x3 then gd (inb S (S.1 a0 52) x1) (lt (wr I (S.1 a0 52) x1 x3) fun I19 => (gd (inb S (S.1 a0 53) x1) (lt (wr I19 (S.1 a0 53) x1 x2) fun I22 => (fix2 (lp_X11_sheet_65 fu S a0 x1 x3) fu (0 : Int32) I22)))) else (f_X11_failed fu S I a0 (4 : Int32)).bind fun q23 => (some ((q23.1, q23.2))) else jn_X11_sheet_31 fu S I a0 else (f_X11_refused fu S I a0 ((-1) : Int32)).bind fun q26 => (some ((q26.1, q26.2)))
set_option maxRecDepth 100000 in
set_option maxHeartbeats 4000000 in
theorem gg_X11_sheet {E : EV} (fu : Nat) (S0 : Sk) (I0 : II) (a0 : Nat) (x1 : Int32) (x2 : Int32) (x3 : Int32) (ht0 : tyO S0 11 a0) : GG E i_X11_sheet (enM E i_X11_sheet S0 (po_X11_sheet S0 I0)) S0 I0 (0, 0) 0 [(0, vA (a0 + 1)), (1, vI x1), (2, vI x2), (3, vI x3)] [] (f_X11_sheet fu S0 I0 a0 x1 x2 x3) := by
  have hj31 : ∀ (I : II), GG E i_X11_sheet (enM E i_X11_sheet S0 (po_X11_sheet S0 I0)) S0 I (0, 0) 31 [(0, vA (a0 + 1))] [] (jn_X11_sheet_31 fu S0 I a0) := by
    intro I  
    unfold jn_X11_sheet_31
    refine g_aload_n (dk D_X11_sheet 16 rfl) rfl ?_
    refine g_bipush (v := ((-2) : Int32)) (dk D_X11_sheet 17 rfl) rfl ?_
    refine g_bind (fun q1 hq2 => ?_)
    refine h_callVt (st := []) (c_X11_refused (E := E) fu S0 I a0 ((-2) : Int32) q1 hq2 (ht0)) cl_RX11_145 ht0 rfl rfl (by decide) (Nat.le_of_ble_eq_true rfl) (dk D_X11_sheet 18 rfl) ?_
    exact g_ireturn rfl rfl Sx.rf rfl (by decide) (by decide) (dk D_X11_sheet 19 rfl)
  have hl65 : ∀ (nn : Nat) (x4 : Int32) (I : II), True → GG E i_X11_sheet (enM E i_X11_sheet S0 (po_X11_sheet S0 I0)) S0 I (0, 0) 65 [(0, vA (a0 + 1)), (1, vI x1), (3, vI x3), (4, vI x4)] [] (fix2 (lp_X11_sheet_65 fu S0 a0 x1 x3) nn x4 I) := by
    refine g_fix2 (fun _ _ => S0) (fun x4 I => I) (fun x4 I => [(0, vA (a0 + 1)), (1, vI x1), (3, vI x3), (4, vI x4)]) (fun x4 I => True) ?_
    intro self65 hself65 x4 I hinv
    unfold lp_X11_sheet_65
    refine g_iload (dk D_X11_sheet 38 rfl) rfl ?_
    refine g_iload_n (dk D_X11_sheet 39 rfl) rfl ?_
    refine g_icmp_ge (tgt := 90) (dk D_X11_sheet 40 rfl) rfl (fun hc4 => ?_) (fun hc4 => ?_)
    · refine g_aload_n (dk D_X11_sheet 52 rfl) rfl ?_
      refine g_iconst (v := (1 : Int32)) (dk D_X11_sheet 53 rfl) rfl ?_
      refine g_bind (fun q5 hq6 => ?_)
      refine h_callVt (st := []) (c_X11_refused (E := E) fu S0 I a0 (1 : Int32) q5 hq6 (ht0)) cl_RX11_145 ht0 rfl rfl (by decide) (Nat.le_of_ble_eq_true rfl) (dk D_X11_sheet 54 rfl) ?_
      exact g_ireturn rfl rfl Sx.rf rfl (by decide) (by decide) (dk D_X11_sheet 55 rfl)
    · refine g_aload_n (dk D_X11_sheet 41 rfl) rfl ?_
      refine g_getAt (t := 100) fl_RX11_118 rfl ht0 (dk D_X11_sheet 42 rfl) (fun ht8 => ?_)
      refine g_bipush (v := (60 : Int32)) (dk D_X11_sheet 43 rfl) rfl ?_
      refine g_iload_n (dk D_X11_sheet 44 rfl) rfl ?_
      refine g_imul (dk D_X11_sheet 45 rfl) ?_
      refine g_iload (dk D_X11_sheet 46 rfl) rfl ?_
      refine g_iadd (dk D_X11_sheet 47 rfl) ?_
      refine g_iconst (v := (0 : Int32)) (dk D_X11_sheet 48 rfl) rfl ?_
      refine g_gd (fun hi9 => ?_)
      refine g_iastore ht8 hi9 (dk D_X11_sheet 49 rfl) ?_
      refine g_ltI (fun I10 eI10 => ?_)
      refine g_iinc (v := (1 : Int32)) (L' := [(0, vA (a0 + 1)), (1, vI x1), (3, vI x3), (4, vI (x4 + (1 : Int32)))]) (dk D_X11_sheet 50 rfl) rfl rfl (Nat.le_of_ble_eq_true rfl) rfl ?_
      refine g_goto (tgt := 65) (dk D_X11_sheet 51 rfl) rfl ?_
      exact hself65 (x4 + (1 : Int32)) I10 trivial
  unfold f_X11_sheet
  refine g_iload_n (dk D_X11_sheet 0 rfl) rfl ?_
  refine h_callS (st := []) (c_X11_noSheet (E := E) S0 I0 x1) cl_RX11_175 rfl rfl (by decide) (Nat.le_of_ble_eq_true rfl) (dk D_X11_sheet 1 rfl) ?_
  refine g_if_eq (tgt := 13) (dk D_X11_sheet 2 rfl) rfl (fun hc12 => ?_) (fun hc12 => ?_)
  · refine g_iload_n (dk D_X11_sheet 7 rfl) rfl ?_
    refine g_i2l (dk D_X11_sheet 8 rfl) ?_
    refine g_lconst (v := (0 : Int64)) (dk D_X11_sheet 9 rfl) rfl ?_
    refine g_ldc2 (dk D_X11_sheet 10 rfl) lk_RX11_143 ?_
    refine h_callS (st := []) (c_X11_in (E := E) S0 I0 x2.toInt64 (0 : Int64) (2 : Int64)) cl_RX11_132 rfl rfl (by decide) (Nat.le_of_ble_eq_true rfl) (dk D_X11_sheet 11 rfl) ?_
    refine g_if_eq (tgt := 31) (dk D_X11_sheet 12 rfl) rfl (fun hc14 => ?_) (fun hc14 => ?_)
    · refine g_Lp [0] rfl ?_
      exact hj31 I0
    · refine g_iload_n (dk D_X11_sheet 13 rfl) rfl ?_
      refine g_bipush (v := (60 : Int32)) (dk D_X11_sheet 14 rfl) rfl ?_
      refine g_icmp_le (tgt := 38) (dk D_X11_sheet 15 rfl) rfl (fun hc15 => ?_) (fun hc15 => ?_)
      · refine g_iload_n (dk D_X11_sheet 20 rfl) rfl ?_
        refine g_if_ge (tgt := 48) (dk D_X11_sheet 21 rfl) rfl (fun hc16 => ?_) (fun hc16 => ?_)
        · refine g_aload_n (dk D_X11_sheet 26 rfl) rfl ?_
          refine g_getAt (t := 100) fl_RX11_112 rfl ht0 (dk D_X11_sheet 27 rfl) (fun ht17 => ?_)
          refine g_iload_n (dk D_X11_sheet 28 rfl) rfl ?_
          refine g_iload_n (dk D_X11_sheet 29 rfl) rfl ?_
          refine g_gd (fun hi18 => ?_)
          refine g_iastore ht17 hi18 (dk D_X11_sheet 30 rfl) ?_
          refine g_ltI (fun I19 eI19 => ?_)
          refine g_aload_n (dk D_X11_sheet 31 rfl) rfl ?_
          refine g_getAt (t := 100) fl_RX11_115 rfl ht0 (dk D_X11_sheet 32 rfl) (fun ht20 => ?_)
          refine g_iload_n (dk D_X11_sheet 33 rfl) rfl ?_
          refine g_iload_n (dk D_X11_sheet 34 rfl) rfl ?_
          refine g_gd (fun hi21 => ?_)
          refine g_iastore ht20 hi21 (dk D_X11_sheet 35 rfl) ?_
          refine g_ltI (fun I22 eI22 => ?_)
          refine g_iconst (v := (0 : Int32)) (dk D_X11_sheet 36 rfl) rfl ?_
          refine g_istore (L' := [(0, vA (a0 + 1)), (1, vI x1), (2, vI x2), (3, vI x3), (4, vI (0 : Int32))]) (dk D_X11_sheet 37 rfl) (Nat.le_of_ble_eq_true rfl) rfl ?_
          refine g_Lp [0, 1, 3, 4] rfl ?_
          exact hl65 fu (0 : Int32) I22 trivial
        · refine g_aload_n (dk D_X11_sheet 22 rfl) rfl ?_
          refine g_iconst (v := (4 : Int32)) (dk D_X11_sheet 23 rfl) rfl ?_
          refine g_bind (fun q23 hq24 => ?_)
          refine h_callVt (st := []) (c_X11_failed (E := E) fu S0 I0 a0 (4 : Int32) q23 hq24 (ht0)) cl_RX11_149 ht0 rfl rfl (by decide) (Nat.le_of_ble_eq_true rfl) (dk D_X11_sheet 24 rfl) ?_
          exact g_ireturn rfl rfl Sx.rf rfl (by decide) (by decide) (dk D_X11_sheet 25 rfl)
      · refine g_Lp [0] rfl ?_
        exact hj31 I0
  · refine g_aload_n (dk D_X11_sheet 3 rfl) rfl ?_
    refine g_iconst (v := ((-1) : Int32)) (dk D_X11_sheet 4 rfl) rfl ?_
    refine g_bind (fun q26 hq27 => ?_)
    refine h_callVt (st := []) (c_X11_refused (E := E) fu S0 I0 a0 ((-1) : Int32) q26 hq27 (ht0)) cl_RX11_145 ht0 rfl rfl (by decide) (Nat.le_of_ble_eq_true rfl) (dk D_X11_sheet 5 rfl) ?_
    exact g_ireturn rfl rfl Sx.rf rfl (by decide) (by decide) (dk D_X11_sheet 6 rfl)
theorem c_X11_sheet {E : EV} (fu : Nat) (S0 : Sk) (I0 : II) (a0 : Nat) (x1 : Int32) (x2 : Int32) (x3 : Int32) (r : Int32 × II) (h : f_X11_sheet fu S0 I0 a0 x1 x2 x3 = some r) (ht0 : tyO S0 11 a0) : MX E yX11_sheet i_X11_sheet S0 I0 [vA (a0 + 1), vI x1, vI x2, vI x3] (po_X11_sheet S0 I0 r) :=
  MX.of h (by decide) rfl rfl (Nat.le_of_ble_eq_true rfl) (gg_X11_sheet fu S0 I0 a0 x1 x2 x3 ht0)
def tb_X11_drop : List (Nat × Instr × Nat) := [(0, .iload_n 1, 1), (1, .invokestatic 175, 3), (4, .ifCond .eq 5, 3), (7, .iconst (-1), 1), (8, .ireturn, 1), (9, .aload_n 0, 1), (10, .getfield 112, 3), (13, .iload_n 1, 1), (14, .iaload, 1), (15, .ifCond .ge 7, 3), (18, .iconst 0, 1), (19, .goto 4, 3), (22, .iconst 1, 1), (23, .istore_n 2, 1), (24, .aload_n 0, 1), (25, .getfield 112, 3), (28, .iload_n 1, 1), (29, .iconst (-1), 1), (30, .iastore, 1), (31, .iload_n 2, 1), (32, .ireturn, 1)]
def i_X11_drop : MI := (RX11, cX11_drop, 3, (some .int), "drop", { frames := 2, cells := 0, slots := 0, locals := 45 })
theorem D_X11_drop : tbOK (i_X11_drop).2.1 tb_X11_drop := by show ∀ q ∈ tb_X11_drop, decode cX11_drop q.1 = .ok (q.2.1, q.2.2); decide +kernel
def po_X11_drop (S : Sk) (I : II) (r : Int32 × II) : Option LV × Sk × II := (some (vI r.1), S, r.2)
def jn_X11_drop_23 (fu : Nat) (S : Sk) (I : II) (a0 : Nat) (x1 : Int32) (s0 : Int32) : Option (Int32 × II) :=
  gd (inb S (S.1 a0 52) x1) (lt (wr I (S.1 a0 52) x1 ((-1) : Int32)) fun I3 => (some ((s0, I3))))
def f_X11_drop (fu : Nat) (S : Sk) (I : II) (a0 : Nat) (x1 : Int32) : Option (Int32 × II) :=
  if (t_X11_noSheet x1) = 0 then gd (inb S (S.1 a0 52) x1) (if 0 ≤ (rd I (S.1 a0 52) x1) then jn_X11_drop_23 fu S I a0 x1 (1 : Int32) else jn_X11_drop_23 fu S I a0 x1 (0 : Int32)) else some ((((-1) : Int32), I))
set_option maxRecDepth 100000 in
set_option maxHeartbeats 4000000 in
theorem gg_X11_drop {E : EV} (fu : Nat) (S0 : Sk) (I0 : II) (a0 : Nat) (x1 : Int32) (ht0 : tyO S0 11 a0) : GG E i_X11_drop (enM E i_X11_drop S0 (po_X11_drop S0 I0)) S0 I0 (0, 0) 0 [(0, vA (a0 + 1)), (1, vI x1)] [] (f_X11_drop fu S0 I0 a0 x1) := by
  have hj23 : ∀ (I : II) (s0 : Int32), GG E i_X11_drop (enM E i_X11_drop S0 (po_X11_drop S0 I0)) S0 I (0, 0) 23 [(0, vA (a0 + 1)), (1, vI x1)] [vI s0] (jn_X11_drop_23 fu S0 I a0 x1 s0) := by
    intro I s0 
    unfold jn_X11_drop_23
    refine g_istore_n (L' := [(0, vA (a0 + 1)), (1, vI x1), (2, vI s0)]) (dk D_X11_drop 13 rfl) (Nat.le_of_ble_eq_true rfl) rfl ?_
    refine g_aload_n (dk D_X11_drop 14 rfl) rfl ?_
    refine g_getAt (t := 100) fl_RX11_112 rfl ht0 (dk D_X11_drop 15 rfl) (fun ht1 => ?_)
    refine g_iload_n (dk D_X11_drop 16 rfl) rfl ?_
    refine g_iconst (v := ((-1) : Int32)) (dk D_X11_drop 17 rfl) rfl ?_
    refine g_gd (fun hi2 => ?_)
    refine g_iastore ht1 hi2 (dk D_X11_drop 18 rfl) ?_
    refine g_ltI (fun I3 eI3 => ?_)
    refine g_iload_n (dk D_X11_drop 19 rfl) rfl ?_
    exact g_ireturn rfl rfl Sx.rf rfl (by decide) (by decide) (dk D_X11_drop 20 rfl)
  unfold f_X11_drop
  refine g_iload_n (dk D_X11_drop 0 rfl) rfl ?_
  refine h_callS (st := []) (c_X11_noSheet (E := E) S0 I0 x1) cl_RX11_175 rfl rfl (by decide) (Nat.le_of_ble_eq_true rfl) (dk D_X11_drop 1 rfl) ?_
  refine g_if_eq (tgt := 9) (dk D_X11_drop 2 rfl) rfl (fun hc5 => ?_) (fun hc5 => ?_)
  · refine g_aload_n (dk D_X11_drop 5 rfl) rfl ?_
    refine g_getAt (t := 100) fl_RX11_112 rfl ht0 (dk D_X11_drop 6 rfl) (fun ht6 => ?_)
    refine g_iload_n (dk D_X11_drop 7 rfl) rfl ?_
    refine g_gd (fun hi7 => ?_)
    refine g_iaload ht6 hi7 (dk D_X11_drop 8 rfl) ?_
    refine g_if_ge (tgt := 22) (dk D_X11_drop 9 rfl) rfl (fun hc8 => ?_) (fun hc8 => ?_)
    · refine g_iconst (v := (1 : Int32)) (dk D_X11_drop 12 rfl) rfl ?_
      exact hj23 I0 (1 : Int32)
    · refine g_iconst (v := (0 : Int32)) (dk D_X11_drop 10 rfl) rfl ?_
      refine g_goto (tgt := 23) (dk D_X11_drop 11 rfl) rfl ?_
      exact hj23 I0 (0 : Int32)
  · refine g_iconst (v := ((-1) : Int32)) (dk D_X11_drop 3 rfl) rfl ?_
    exact g_ireturn rfl rfl Sx.rf rfl (by decide) (by decide) (dk D_X11_drop 4 rfl)
theorem c_X11_drop {E : EV} (fu : Nat) (S0 : Sk) (I0 : II) (a0 : Nat) (x1 : Int32) (r : Int32 × II) (h : f_X11_drop fu S0 I0 a0 x1 = some r) (ht0 : tyO S0 11 a0) : MX E yX11_drop i_X11_drop S0 I0 [vA (a0 + 1), vI x1] (po_X11_drop S0 I0 r) :=
  MX.of h (by decide) rfl rfl (Nat.le_of_ble_eq_true rfl) (gg_X11_drop fu S0 I0 a0 x1 ht0)
def tb_X11_noCell : List (Nat × Instr × Nat) := [(0, .aload_n 0, 1), (1, .getfield 112, 3), (4, .iload_n 1, 1), (5, .iaload, 1), (6, .ifCond .ge 7, 3), (9, .iconst 1, 1), (10, .goto 26, 3), (13, .iload_n 2, 1), (14, .i2l, 1), (15, .lconst 0, 1), (16, .aload_n 0, 1), (17, .getfield 112, 3), (20, .iload_n 1, 1), (21, .iaload, 1), (22, .i2l, 1), (23, .lconst 1, 1), (24, .lsub, 1), (25, .invokestatic 132, 3), (28, .ifCond .eq 7, 3), (31, .iconst 0, 1), (32, .goto 4, 3), (35, .iconst 3, 1), (36, .ireturn, 1)]
def i_X11_noCell : MI := (RX11, cX11_noCell, 3, (some .int), "noCell", { frames := 1, cells := 0, slots := 0, locals := 25 })
theorem D_X11_noCell : tbOK (i_X11_noCell).2.1 tb_X11_noCell := by show ∀ q ∈ tb_X11_noCell, decode cX11_noCell q.1 = .ok (q.2.1, q.2.2); decide +kernel
def po_X11_noCell (S : Sk) (I : II) (r : Int32) : Option LV × Sk × II := (some (vI r), S, I)
def f_X11_noCell (fu : Nat) (S : Sk) (I : II) (a0 : Nat) (x1 : Int32) (x2 : Int32) : Option (Int32) :=
  gd (inb S (S.1 a0 52) x1) (if 0 ≤ (rd I (S.1 a0 52) x1) then if (t_X11_in x2.toInt64 (0 : Int64) ((((rd I (S.1 a0 52) x1)).toInt64) - (1 : Int64))) = 0 then some ((3 : Int32)) else some ((0 : Int32)) else some ((1 : Int32)))
set_option maxRecDepth 100000 in
set_option maxHeartbeats 4000000 in
theorem gg_X11_noCell {E : EV} (fu : Nat) (S0 : Sk) (I0 : II) (a0 : Nat) (x1 : Int32) (x2 : Int32) (ht0 : tyO S0 11 a0) : GG E i_X11_noCell (enM E i_X11_noCell S0 (po_X11_noCell S0 I0)) S0 I0 (0, 0) 0 [(0, vA (a0 + 1)), (1, vI x1), (2, vI x2)] [] (f_X11_noCell fu S0 I0 a0 x1 x2) := by
  unfold f_X11_noCell
  refine g_aload_n (dk D_X11_noCell 0 rfl) rfl ?_
  refine g_getAt (t := 100) fl_RX11_112 rfl ht0 (dk D_X11_noCell 1 rfl) (fun ht1 => ?_)
  refine g_iload_n (dk D_X11_noCell 2 rfl) rfl ?_
  refine g_gd (fun hi2 => ?_)
  refine g_iaload ht1 hi2 (dk D_X11_noCell 3 rfl) ?_
  refine g_if_ge (tgt := 13) (dk D_X11_noCell 4 rfl) rfl (fun hc3 => ?_) (fun hc3 => ?_)
  · refine g_iload_n (dk D_X11_noCell 7 rfl) rfl ?_
    refine g_i2l (dk D_X11_noCell 8 rfl) ?_
    refine g_lconst (v := (0 : Int64)) (dk D_X11_noCell 9 rfl) rfl ?_
    refine g_aload_n (dk D_X11_noCell 10 rfl) rfl ?_
    refine g_getAt (t := 100) fl_RX11_112 rfl ht0 (dk D_X11_noCell 11 rfl) (fun ht4 => ?_)
    refine g_iload_n (dk D_X11_noCell 12 rfl) rfl ?_
    refine g_iaload ht1 hi2 (dk D_X11_noCell 13 rfl) ?_
    refine g_i2l (dk D_X11_noCell 14 rfl) ?_
    refine g_lconst (v := (1 : Int64)) (dk D_X11_noCell 15 rfl) rfl ?_
    refine g_lsub (dk D_X11_noCell 16 rfl) ?_
    refine h_callS (st := []) (c_X11_in (E := E) S0 I0 x2.toInt64 (0 : Int64) ((((rd I0 (S0.1 a0 52) x1)).toInt64) - (1 : Int64))) cl_RX11_132 rfl rfl (by decide) (Nat.le_of_ble_eq_true rfl) (dk D_X11_noCell 17 rfl) ?_
    refine g_if_eq (tgt := 35) (dk D_X11_noCell 18 rfl) rfl (fun hc6 => ?_) (fun hc6 => ?_)
    · refine g_iconst (v := (3 : Int32)) (dk D_X11_noCell 21 rfl) rfl ?_
      exact g_ireturn rfl rfl Sx.rf rfl (by decide) (by decide) (dk D_X11_noCell 22 rfl)
    · refine g_iconst (v := (0 : Int32)) (dk D_X11_noCell 19 rfl) rfl ?_
      refine g_goto (tgt := 36) (dk D_X11_noCell 20 rfl) rfl ?_
      exact g_ireturn rfl rfl Sx.rf rfl (by decide) (by decide) (dk D_X11_noCell 22 rfl)
  · refine g_iconst (v := (1 : Int32)) (dk D_X11_noCell 5 rfl) rfl ?_
    refine g_goto (tgt := 36) (dk D_X11_noCell 6 rfl) rfl ?_
    exact g_ireturn rfl rfl Sx.rf rfl (by decide) (by decide) (dk D_X11_noCell 22 rfl)
theorem c_X11_noCell {E : EV} (fu : Nat) (S0 : Sk) (I0 : II) (a0 : Nat) (x1 : Int32) (x2 : Int32) (r : Int32) (h : f_X11_noCell fu S0 I0 a0 x1 x2 = some r) (ht0 : tyO S0 11 a0) : MX E yX11_noCell i_X11_noCell S0 I0 [vA (a0 + 1), vI x1, vI x2] (po_X11_noCell S0 I0 r) :=
  MX.of h (by decide) rfl rfl (Nat.le_of_ble_eq_true rfl) (gg_X11_noCell fu S0 I0 a0 x1 x2 ht0)
theorem cl_RX11_379 : CV0 RX11 379 yX11_noCell i_X11_noCell 2 11 := ⟨⟨(gm 1480 (by decide +kernel) (by decide +kernel)), (gm 72 (by decide +kernel) (by decide +kernel)), ((gm 1483 (by decide +kernel) (by decide +kernel))), by decide +kernel, by decide +kernel, by decide +kernel⟩, ⟨(gm 1482 (by decide +kernel) (by decide +kernel)), (gm 62 (by decide +kernel) (by decide +kernel))⟩, rfl, by decide⟩
def tb_X11_put : List (Nat × Instr × Nat) := [(0, .iload_n 1, 1), (1, .invokestatic 175, 3), (4, .ifCond .eq 9, 3), (7, .aload_n 0, 1), (8, .iconst (-1), 1), (9, .invokevirtual 145, 3), (12, .ireturn, 1), (13, .aload_n 0, 1), (14, .iload_n 1, 1), (15, .iload_n 2, 1), (16, .invokevirtual 379, 3), (19, .ifCond .le 14, 3), (22, .aload_n 0, 1), (23, .aload_n 0, 1), (24, .iload_n 1, 1), (25, .iload_n 2, 1), (26, .invokevirtual 379, 3), (29, .invokevirtual 149, 3), (32, .ireturn, 1), (33, .aload_n 0, 1), (34, .getfield 118, 3), (37, .bipush 60, 2), (39, .iload_n 1, 1), (40, .imul, 1), (41, .iload_n 2, 1), (42, .iadd, 1), (43, .aload_n 0, 1), (44, .getfield 115, 3), (47, .iload_n 1, 1), (48, .iaload, 1), (49, .ifCond .ne 8, 3), (52, .iload_n 3, 1), (53, .i2b, 1), (54, .goto 19, 3), (57, .aload_n 0, 1), (58, .getfield 115, 3), (61, .iload_n 1, 1), (62, .iaload, 1), (63, .iconst 1, 1), (64, .if_icmp .ne 8, 3), (67, .iload_n 3, 1), (68, .i2s, 1), (69, .goto 4, 3), (72, .iload_n 3, 1), (73, .iastore, 1), (74, .aload_n 0, 1), (75, .iconst 1, 1), (76, .invokevirtual 145, 3), (79, .ireturn, 1)]
def i_X11_put : MI := (RX11, cX11_put, 4, (some .int), "put", { frames := 2, cells := 0, slots := 0, locals := 47 })
theorem D_X11_put : tbOK (i_X11_put).2.1 tb_X11_put := by show ∀ q ∈ tb_X11_put, decode cX11_put q.1 = .ok (q.2.1, q.2.2); decide +kernel
def po_X11_put (S : Sk) (I : II) (r : Int32 × II) : Option LV × Sk × II := (some (vI r.1), S, r.2)
def jn_X11_put_73 (fu : Nat) (S : Sk) (I : II) (a0 : Nat) (q0 : Nat) (s1 : Int32) (s2 : Int32) : Option (Int32 × II) :=
  gd (inb S q0 s1) (lt (wr I q0 s1 s2) fun I2 => ((f_X11_refused fu S I2 a0 (1 : Int32)).bind fun q3 => (some ((q3.1, q3.2)))))
def f_X11_put (fu : Nat) (S : Sk) (I : II) (a0 : Nat) (x1 : Int32) (x2 : Int32) (x3 : Int32) : Option (Int32 × II) :=
  if (t_X11_noSheet x1) = 0 then (f_X11_noCell fu S I a0 x1 x2).bind fun q8 => (if q8 ≤ 0 then gd (inb S (S.1 a0 53) x1) (if (rd I (S.1 a0 53) x1) = 0 then jn_X11_put_73 fu S I a0 (S.1 a0 54) (((60 : Int32) * x1) + x2) ((x3).toInt8.toInt32) else if (rd I (S.1 a0 53) x1) = (1 : Int32) then jn_X11_put_73 fu S I a0 (S.1 a0 54) (((60 : Int32) * x1) + x2) ((x3).toInt16.toInt32) else jn_X11_put_73 fu S I a0 (S.1 a0 54) (((60 : Int32) * x1) + x2) x3) else (f_X11_noCell fu S I a0 x1 x2).bind fun q18 => ((f_X11_failed fu S I a0 q18).bind fun q21 => (some ((q21.1, q21.2))))) else (f_X11_refused fu S I a0 ((-1) : Int32)).bind fun q24 => (some ((q24.1, q24.2)))
set_option maxRecDepth 100000 in
set_option maxHeartbeats 4000000 in
theorem gg_X11_put {E : EV} (fu : Nat) (S0 : Sk) (I0 : II) (a0 : Nat) (x1 : Int32) (x2 : Int32) (x3 : Int32) (ht0 : tyO S0 11 a0) : GG E i_X11_put (enM E i_X11_put S0 (po_X11_put S0 I0)) S0 I0 (0, 0) 0 [(0, vA (a0 + 1)), (1, vI x1), (2, vI x2), (3, vI x3)] [] (f_X11_put fu S0 I0 a0 x1 x2 x3) := by
  have hj73 : ∀ (I : II) (q0 : Nat) (s1 : Int32) (s2 : Int32) (h_q0 : tyR S0 100 q0), GG E i_X11_put (enM E i_X11_put S0 (po_X11_put S0 I0)) S0 I (0, 0) 73 [(0, vA (a0 + 1))] [vI s2, vI s1, vA q0] (jn_X11_put_73 fu S0 I a0 q0 s1 s2) := by
    intro I q0 s1 s2 h_q0
    unfold jn_X11_put_73
    refine g_gd (fun hi1 => ?_)
    refine g_iastore h_q0 hi1 (dk D_X11_put 44 rfl) ?_
    refine g_ltI (fun I2 eI2 => ?_)
    refine g_aload_n (dk D_X11_put 45 rfl) rfl ?_
    refine g_iconst (v := (1 : Int32)) (dk D_X11_put 46 rfl) rfl ?_
    refine g_bind (fun q3 hq4 => ?_)
    refine h_callVt (st := []) (c_X11_refused (E := E) fu S0 I2 a0 (1 : Int32) q3 hq4 (ht0)) cl_RX11_145 ht0 rfl rfl (by decide) (Nat.le_of_ble_eq_true rfl) (dk D_X11_put 47 rfl) ?_
    exact g_ireturn rfl rfl Sx.rf rfl (by decide) (by decide) (dk D_X11_put 48 rfl)
  unfold f_X11_put
  refine g_iload_n (dk D_X11_put 0 rfl) rfl ?_
  refine h_callS (st := []) (c_X11_noSheet (E := E) S0 I0 x1) cl_RX11_175 rfl rfl (by decide) (Nat.le_of_ble_eq_true rfl) (dk D_X11_put 1 rfl) ?_
  refine g_if_eq (tgt := 13) (dk D_X11_put 2 rfl) rfl (fun hc7 => ?_) (fun hc7 => ?_)
  · refine g_aload_n (dk D_X11_put 7 rfl) rfl ?_
    refine g_iload_n (dk D_X11_put 8 rfl) rfl ?_
    refine g_iload_n (dk D_X11_put 9 rfl) rfl ?_
    refine g_bind (fun q8 hq9 => ?_)
    refine h_callVt (st := []) (c_X11_noCell (E := E) fu S0 I0 a0 x1 x2 q8 hq9 (ht0)) cl_RX11_379 ht0 rfl rfl (by decide) (Nat.le_of_ble_eq_true rfl) (dk D_X11_put 10 rfl) ?_
    refine g_if_le (tgt := 33) (dk D_X11_put 11 rfl) rfl (fun hc11 => ?_) (fun hc11 => ?_)
    · refine g_aload_n (dk D_X11_put 19 rfl) rfl ?_
      refine g_getAt (t := 100) fl_RX11_118 rfl ht0 (dk D_X11_put 20 rfl) (fun ht12 => ?_)
      refine g_bipush (v := (60 : Int32)) (dk D_X11_put 21 rfl) rfl ?_
      refine g_iload_n (dk D_X11_put 22 rfl) rfl ?_
      refine g_imul (dk D_X11_put 23 rfl) ?_
      refine g_iload_n (dk D_X11_put 24 rfl) rfl ?_
      refine g_iadd (dk D_X11_put 25 rfl) ?_
      refine g_aload_n (dk D_X11_put 26 rfl) rfl ?_
      refine g_getAt (t := 100) fl_RX11_115 rfl ht0 (dk D_X11_put 27 rfl) (fun ht13 => ?_)
      refine g_iload_n (dk D_X11_put 28 rfl) rfl ?_
      refine g_gd (fun hi14 => ?_)
      refine g_iaload ht13 hi14 (dk D_X11_put 29 rfl) ?_
      refine g_if_ne (tgt := 57) (dk D_X11_put 30 rfl) rfl (fun hc15 => ?_) (fun hc15 => ?_)
      · refine g_aload_n (dk D_X11_put 34 rfl) rfl ?_
        refine g_getAt (t := 100) fl_RX11_115 rfl ht0 (dk D_X11_put 35 rfl) (fun ht16 => ?_)
        refine g_iload_n (dk D_X11_put 36 rfl) rfl ?_
        refine g_iaload ht13 hi14 (dk D_X11_put 37 rfl) ?_
        refine g_iconst (v := (1 : Int32)) (dk D_X11_put 38 rfl) rfl ?_
        refine g_icmp_ne (tgt := 72) (dk D_X11_put 39 rfl) rfl (fun hc17 => ?_) (fun hc17 => ?_)
        · refine g_iload_n (dk D_X11_put 43 rfl) rfl ?_
          refine g_Lp [0] rfl ?_
          exact hj73 I0 (S0.1 a0 54) (((60 : Int32) * x1) + x2) x3 ht12
        · refine g_iload_n (dk D_X11_put 40 rfl) rfl ?_
          refine g_i2s (dk D_X11_put 41 rfl) ?_
          refine g_goto (tgt := 73) (dk D_X11_put 42 rfl) rfl ?_
          refine g_Lp [0] rfl ?_
          exact hj73 I0 (S0.1 a0 54) (((60 : Int32) * x1) + x2) ((x3).toInt16.toInt32) ht12
      · refine g_iload_n (dk D_X11_put 31 rfl) rfl ?_
        refine g_i2b (dk D_X11_put 32 rfl) ?_
        refine g_goto (tgt := 73) (dk D_X11_put 33 rfl) rfl ?_
        refine g_Lp [0] rfl ?_
        exact hj73 I0 (S0.1 a0 54) (((60 : Int32) * x1) + x2) ((x3).toInt8.toInt32) ht12
    · refine g_aload_n (dk D_X11_put 12 rfl) rfl ?_
      refine g_aload_n (dk D_X11_put 13 rfl) rfl ?_
      refine g_iload_n (dk D_X11_put 14 rfl) rfl ?_
      refine g_iload_n (dk D_X11_put 15 rfl) rfl ?_
      refine g_bind (fun q18 hq19 => ?_)
      refine h_callVt (st := [vA (a0 + 1)]) (c_X11_noCell (E := E) fu S0 I0 a0 x1 x2 q18 hq19 (ht0)) cl_RX11_379 ht0 rfl rfl (by decide) (Nat.le_of_ble_eq_true rfl) (dk D_X11_put 16 rfl) ?_
      refine g_bind (fun q21 hq22 => ?_)
      refine h_callVt (st := []) (c_X11_failed (E := E) fu S0 I0 a0 q18 q21 hq22 (ht0)) cl_RX11_149 ht0 rfl rfl (by decide) (Nat.le_of_ble_eq_true rfl) (dk D_X11_put 17 rfl) ?_
      exact g_ireturn rfl rfl Sx.rf rfl (by decide) (by decide) (dk D_X11_put 18 rfl)
  · refine g_aload_n (dk D_X11_put 3 rfl) rfl ?_
    refine g_iconst (v := ((-1) : Int32)) (dk D_X11_put 4 rfl) rfl ?_
    refine g_bind (fun q24 hq25 => ?_)
    refine h_callVt (st := []) (c_X11_refused (E := E) fu S0 I0 a0 ((-1) : Int32) q24 hq25 (ht0)) cl_RX11_145 ht0 rfl rfl (by decide) (Nat.le_of_ble_eq_true rfl) (dk D_X11_put 5 rfl) ?_
    exact g_ireturn rfl rfl Sx.rf rfl (by decide) (by decide) (dk D_X11_put 6 rfl)
theorem c_X11_put {E : EV} (fu : Nat) (S0 : Sk) (I0 : II) (a0 : Nat) (x1 : Int32) (x2 : Int32) (x3 : Int32) (r : Int32 × II) (h : f_X11_put fu S0 I0 a0 x1 x2 x3 = some r) (ht0 : tyO S0 11 a0) : MX E yX11_put i_X11_put S0 I0 [vA (a0 + 1), vI x1, vI x2, vI x3] (po_X11_put S0 I0 r) :=
  MX.of h (by decide) rfl rfl (Nat.le_of_ble_eq_true rfl) (gg_X11_put fu S0 I0 a0 x1 x2 x3 ht0)
theorem cl_RX11_382 : CV0 RX11 382 yX11_failedLong i_X11_failedLong 1 11 := ⟨⟨(gm 1492 (by decide +kernel) (by decide +kernel)), (gm 72 (by decide +kernel) (by decide +kernel)), ((gm 1495 (by decide +kernel) (by decide +kernel))), by decide +kernel, by decide +kernel, by decide +kernel⟩, ⟨(gm 1494 (by decide +kernel) (by decide +kernel)), (gm 63 (by decide +kernel) (by decide +kernel))⟩, rfl, by decide⟩
def tb_X11_cell : List (Nat × Instr × Nat) := [(0, .aload_n 0, 1), (1, .iconst 0, 1), (2, .putfield 136, 3), (5, .iload_n 1, 1), (6, .invokestatic 175, 3), (9, .ifCond .ne 15, 3), (12, .iload_n 3, 1), (13, .i2l, 1), (14, .lconst 0, 1), (15, .ldc2_w 143, 3), (18, .invokestatic 132, 3), (21, .ifCond .ne 7, 3), (24, .invokestatic 139, 3), (27, .lreturn, 1), (28, .aload_n 0, 1), (29, .getfield 112, 3), (32, .iload_n 1, 1), (33, .iaload, 1), (34, .ifCond .lt 19, 3), (37, .aload_n 0, 1), (38, .getfield 115, 3), (41, .iload_n 1, 1), (42, .iaload, 1), (43, .iload_n 3, 1), (44, .if_icmp .eq 9, 3), (47, .aload_n 0, 1), (48, .iconst 2, 1), (49, .invokevirtual 382, 3), (52, .lreturn, 1), (53, .aload_n 0, 1), (54, .iload_n 1, 1), (55, .iload_n 2, 1), (56, .invokevirtual 379, 3), (59, .ifCond .le 16, 3), (62, .aload_n 0, 1), (63, .aload_n 0, 1), (64, .iload_n 1, 1), (65, .iload_n 2, 1), (66, .invokevirtual 379, 3), (69, .invokevirtual 382, 3), (72, .goto 15, 3), (75, .aload_n 0, 1), (76, .getfield 118, 3), (79, .bipush 60, 2), (81, .iload_n 1, 1), (82, .imul, 1), (83, .iload_n 2, 1), (84, .iadd, 1), (85, .iaload, 1), (86, .i2l, 1), (87, .lreturn, 1)]
def i_X11_cell : MI := (RX11, cX11_cell, 4, (some .long), "cell", { frames := 2, cells := 0, slots := 0, locals := 47 })
theorem D_X11_cell : tbOK (i_X11_cell).2.1 tb_X11_cell := by show ∀ q ∈ tb_X11_cell, decode cX11_cell q.1 = .ok (q.2.1, q.2.2); decide +kernel
def po_X11_cell (S : Sk) (I : II) (r : Int64 × II) : Option LV × Sk × II := (some (vL r.1), S, r.2)
def jn_X11_cell_24 (fu : Nat) (S : Sk) (I : II) (a0 : Nat) : Option (Int64 × II) :=
  some (((t_X11_lost), I))
def jn_X11_cell_53 (fu : Nat) (S : Sk) (I : II) (a0 : Nat) (x1 : Int32) (x2 : Int32) : Option (Int64 × II) :=
  (f_X11_noCell fu S I a0 x1 x2).bind fun q2 => (if q2 ≤ 0 then gd (inb S (S.1 a0 54) (((60 : Int32) * x1) + x2)) (some ((((rd I (S.1 a0 54) (((60 : Int32) * x1) + x2))).toInt64, I))) else (f_X11_noCell fu S I a0 x1 x2).bind fun q8 => ((f_X11_failedLong fu S I a0 q8).bind fun q11 => (some ((q11.1, q11.2)))))
def f_X11_cell (fu : Nat) (S : Sk) (I : II) (a0 : Nat) (x1 : Int32) (x2 : Int32) (x3 : Int32) : Option (Int64 × II) :=
  lt (upI I a0 0 (0 : Int32)) fun I14 => (if (t_X11_noSheet x1) = 0 then if (t_X11_in x3.toInt64 (0 : Int64) (2 : Int64)) = 0 then jn_X11_cell_24 fu S I14 a0 else gd (inb S (S.1 a0 52) x1) (if (rd I14 (S.1 a0 52) x1) < 0 then jn_X11_cell_53 fu S I14 a0 x1 x2 else gd (inb S (S.1 a0 53) x1) (if (rd I14 (S.1 a0 53) x1) = x3 then jn_X11_cell_53 fu S I14 a0 x1 x2 else (f_X11_failedLong fu S I14 a0 (2 : Int32)).bind fun q25 => (some ((q25.1, q25.2))))) else jn_X11_cell_24 fu S I14 a0)
set_option maxRecDepth 100000 in
set_option maxHeartbeats 4000000 in
theorem gg_X11_cell {E : EV} (fu : Nat) (S0 : Sk) (I0 : II) (a0 : Nat) (x1 : Int32) (x2 : Int32) (x3 : Int32) (ht0 : tyO S0 11 a0) : GG E i_X11_cell (enM E i_X11_cell S0 (po_X11_cell S0 I0)) S0 I0 (0, 0) 0 [(0, vA (a0 + 1)), (1, vI x1), (2, vI x2), (3, vI x3)] [] (f_X11_cell fu S0 I0 a0 x1 x2 x3) := by
  have hj24 : ∀ (I : II), GG E i_X11_cell (enM E i_X11_cell S0 (po_X11_cell S0 I0)) S0 I (0, 0) 24 [] [] (jn_X11_cell_24 fu S0 I a0) := by
    intro I  
    unfold jn_X11_cell_24
    refine h_callS (st := []) (c_X11_lost (E := E) S0 I) cl_RX11_139 rfl rfl (by decide) (Nat.le_of_ble_eq_true rfl) (dk D_X11_cell 12 rfl) ?_
    exact g_lreturn rfl rfl Sx.rf rfl (by decide) (by decide) (dk D_X11_cell 13 rfl)
  have hj53 : ∀ (I : II), GG E i_X11_cell (enM E i_X11_cell S0 (po_X11_cell S0 I0)) S0 I (0, 0) 53 [(0, vA (a0 + 1)), (1, vI x1), (2, vI x2)] [] (jn_X11_cell_53 fu S0 I a0 x1 x2) := by
    intro I  
    unfold jn_X11_cell_53
    refine g_aload_n (dk D_X11_cell 29 rfl) rfl ?_
    refine g_iload_n (dk D_X11_cell 30 rfl) rfl ?_
    refine g_iload_n (dk D_X11_cell 31 rfl) rfl ?_
    refine g_bind (fun q2 hq3 => ?_)
    refine h_callVt (st := []) (c_X11_noCell (E := E) fu S0 I a0 x1 x2 q2 hq3 (ht0)) cl_RX11_379 ht0 rfl rfl (by decide) (Nat.le_of_ble_eq_true rfl) (dk D_X11_cell 32 rfl) ?_
    refine g_if_le (tgt := 75) (dk D_X11_cell 33 rfl) rfl (fun hc5 => ?_) (fun hc5 => ?_)
    · refine g_aload_n (dk D_X11_cell 41 rfl) rfl ?_
      refine g_getAt (t := 100) fl_RX11_118 rfl ht0 (dk D_X11_cell 42 rfl) (fun ht6 => ?_)
      refine g_bipush (v := (60 : Int32)) (dk D_X11_cell 43 rfl) rfl ?_
      refine g_iload_n (dk D_X11_cell 44 rfl) rfl ?_
      refine g_imul (dk D_X11_cell 45 rfl) ?_
      refine g_iload_n (dk D_X11_cell 46 rfl) rfl ?_
      refine g_iadd (dk D_X11_cell 47 rfl) ?_
      refine g_gd (fun hi7 => ?_)
      refine g_iaload ht6 hi7 (dk D_X11_cell 48 rfl) ?_
      refine g_i2l (dk D_X11_cell 49 rfl) ?_
      exact g_lreturn rfl rfl Sx.rf rfl (by decide) (by decide) (dk D_X11_cell 50 rfl)
    · refine g_aload_n (dk D_X11_cell 34 rfl) rfl ?_
      refine g_aload_n (dk D_X11_cell 35 rfl) rfl ?_
      refine g_iload_n (dk D_X11_cell 36 rfl) rfl ?_
      refine g_iload_n (dk D_X11_cell 37 rfl) rfl ?_
      refine g_bind (fun q8 hq9 => ?_)
      refine h_callVt (st := [vA (a0 + 1)]) (c_X11_noCell (E := E) fu S0 I a0 x1 x2 q8 hq9 (ht0)) cl_RX11_379 ht0 rfl rfl (by decide) (Nat.le_of_ble_eq_true rfl) (dk D_X11_cell 38 rfl) ?_
      refine g_bind (fun q11 hq12 => ?_)
      refine h_callVt (st := []) (c_X11_failedLong (E := E) fu S0 I a0 q8 q11 hq12 (ht0)) cl_RX11_382 ht0 rfl rfl (by decide) (Nat.le_of_ble_eq_true rfl) (dk D_X11_cell 39 rfl) ?_
      refine g_goto (tgt := 87) (dk D_X11_cell 40 rfl) rfl ?_
      exact g_lreturn rfl rfl Sx.rf rfl (by decide) (by decide) (dk D_X11_cell 50 rfl)
  unfold f_X11_cell
  refine g_aload_n (dk D_X11_cell 0 rfl) rfl ?_
  refine g_iconst (v := (0 : Int32)) (dk D_X11_cell 1 rfl) rfl ?_
  refine g_putIt fl_RX11_136 fp_11_0 (fun h => (by cases h)) (by decide) rfl rfl ht0 (dk D_X11_cell 2 rfl) ?_
  refine g_ltI (fun I14 eI14 => ?_)
  refine g_iload_n (dk D_X11_cell 3 rfl) rfl ?_
  refine h_callS (st := []) (c_X11_noSheet (E := E) S0 I14 x1) cl_RX11_175 rfl rfl (by decide) (Nat.le_of_ble_eq_true rfl) (dk D_X11_cell 4 rfl) ?_
  refine g_if_ne (tgt := 24) (dk D_X11_cell 5 rfl) rfl (fun hc16 => ?_) (fun hc16 => ?_)
  · refine g_Lp [] rfl ?_
    exact hj24 I14
  · refine g_iload_n (dk D_X11_cell 6 rfl) rfl ?_
    refine g_i2l (dk D_X11_cell 7 rfl) ?_
    refine g_lconst (v := (0 : Int64)) (dk D_X11_cell 8 rfl) rfl ?_
    refine g_ldc2 (dk D_X11_cell 9 rfl) lk_RX11_143 ?_
    refine h_callS (st := []) (c_X11_in (E := E) S0 I14 x3.toInt64 (0 : Int64) (2 : Int64)) cl_RX11_132 rfl rfl (by decide) (Nat.le_of_ble_eq_true rfl) (dk D_X11_cell 10 rfl) ?_
    refine g_if_ne (tgt := 28) (dk D_X11_cell 11 rfl) rfl (fun hc18 => ?_) (fun hc18 => ?_)
    · refine g_aload_n (dk D_X11_cell 14 rfl) rfl ?_
      refine g_getAt (t := 100) fl_RX11_112 rfl ht0 (dk D_X11_cell 15 rfl) (fun ht19 => ?_)
      refine g_iload_n (dk D_X11_cell 16 rfl) rfl ?_
      refine g_gd (fun hi20 => ?_)
      refine g_iaload ht19 hi20 (dk D_X11_cell 17 rfl) ?_
      refine g_if_lt (tgt := 53) (dk D_X11_cell 18 rfl) rfl (fun hc21 => ?_) (fun hc21 => ?_)
      · refine g_Lp [0, 1, 2] rfl ?_
        exact hj53 I14
      · refine g_aload_n (dk D_X11_cell 19 rfl) rfl ?_
        refine g_getAt (t := 100) fl_RX11_115 rfl ht0 (dk D_X11_cell 20 rfl) (fun ht22 => ?_)
        refine g_iload_n (dk D_X11_cell 21 rfl) rfl ?_
        refine g_gd (fun hi23 => ?_)
        refine g_iaload ht22 hi23 (dk D_X11_cell 22 rfl) ?_
        refine g_iload_n (dk D_X11_cell 23 rfl) rfl ?_
        refine g_icmp_eq (tgt := 53) (dk D_X11_cell 24 rfl) rfl (fun hc24 => ?_) (fun hc24 => ?_)
        · refine g_Lp [0, 1, 2] rfl ?_
          exact hj53 I14
        · refine g_aload_n (dk D_X11_cell 25 rfl) rfl ?_
          refine g_iconst (v := (2 : Int32)) (dk D_X11_cell 26 rfl) rfl ?_
          refine g_bind (fun q25 hq26 => ?_)
          refine h_callVt (st := []) (c_X11_failedLong (E := E) fu S0 I14 a0 (2 : Int32) q25 hq26 (ht0)) cl_RX11_382 ht0 rfl rfl (by decide) (Nat.le_of_ble_eq_true rfl) (dk D_X11_cell 27 rfl) ?_
          exact g_lreturn rfl rfl Sx.rf rfl (by decide) (by decide) (dk D_X11_cell 28 rfl)
    · refine g_Lp [] rfl ?_
      exact hj24 I14
theorem c_X11_cell {E : EV} (fu : Nat) (S0 : Sk) (I0 : II) (a0 : Nat) (x1 : Int32) (x2 : Int32) (x3 : Int32) (r : Int64 × II) (h : f_X11_cell fu S0 I0 a0 x1 x2 x3 = some r) (ht0 : tyO S0 11 a0) : MX E yX11_cell i_X11_cell S0 I0 [vA (a0 + 1), vI x1, vI x2, vI x3] (po_X11_cell S0 I0 r) :=
  MX.of h (by decide) rfl rfl (Nat.le_of_ble_eq_true rfl) (gg_X11_cell fu S0 I0 a0 x1 x2 x3 ht0)
def tb_X11_copy : List (Nat × Instr × Nat) := [(0, .iload_n 1, 1), (1, .invokestatic 175, 3), (4, .ifCond .ne 10, 3), (7, .iload_n 3, 1), (8, .invokestatic 175, 3), (11, .ifCond .eq 9, 3), (14, .aload_n 0, 1), (15, .iconst (-1), 1), (16, .invokevirtual 145, 3), (19, .ireturn, 1), (20, .aload_n 0, 1), (21, .getfield 112, 3), (24, .iload_n 1, 1), (25, .iaload, 1), (26, .ifCond .lt 12, 3), (29, .aload_n 0, 1), (30, .getfield 112, 3), (33, .iload_n 3, 1), (34, .iaload, 1), (35, .ifCond .ge 9, 3), (38, .aload_n 0, 1), (39, .iconst 1, 1), (40, .invokevirtual 149, 3), (43, .ireturn, 1), (44, .aload_n 0, 1), (45, .getfield 115, 3), (48, .iload_n 1, 1), (49, .iaload, 1), (50, .aload_n 0, 1), (51, .getfield 115, 3), (54, .iload_n 3, 1), (55, .iaload, 1), (56, .if_icmp .eq 9, 3), (59, .aload_n 0, 1), (60, .iconst 2, 1), (61, .invokevirtual 149, 3), (64, .ireturn, 1), (65, .iload_n 2, 1), (66, .iload 5, 2), (68, .i2l, 1), (69, .aload_n 0, 1), (70, .getfield 112, 3), (73, .iload_n 1, 1), (74, .iaload, 1), (75, .invokestatic 152, 3), (78, .ifCond .ne 20, 3), (81, .iload 4, 2), (83, .iload 5, 2), (85, .i2l, 1), (86, .aload_n 0, 1), (87, .getfield 112, 3), (90, .iload_n 3, 1), (91, .iaload, 1), (92, .invokestatic 152, 3), (95, .ifCond .eq 9, 3), (98, .aload_n 0, 1), (99, .iconst 3, 1), (100, .invokevirtual 149, 3), (103, .ireturn, 1), (104, .iconst 0, 1), (105, .istore 6, 2), (107, .iload 6, 2), (109, .iload 5, 2), (111, .if_icmp .ge 30, 3), (114, .aload_n 0, 1), (115, .getfield 121, 3), (118, .iload 6, 2), (120, .aload_n 0, 1), (121, .getfield 118, 3), (124, .bipush 60, 2), (126, .iload_n 1, 1), (127, .imul, 1), (128, .iload_n 2, 1), (129, .iadd, 1), (130, .iload 6, 2), (132, .iadd, 1), (133, .iaload, 1), (134, .iastore, 1), (135, .iinc 6 1, 3), (138, .goto (-31), 3), (141, .iconst 0, 1), (142, .istore 6, 2), (144, .iload 6, 2), (146, .iload 5, 2), (148, .if_icmp .ge 31, 3), (151, .aload_n 0, 1), (152, .getfield 118, 3), (155, .bipush 60, 2), (157, .iload_n 3, 1), (158, .imul, 1), (159, .iload 4, 2), (161, .iadd, 1), (162, .iload 6, 2), (164, .iadd, 1), (165, .aload_n 0, 1), (166, .getfield 121, 3), (169, .iload 6, 2), (171, .iaload, 1), (172, .iastore, 1), (173, .iinc 6 1, 3), (176, .goto (-32), 3), (179, .aload_n 0, 1), (180, .iload 5, 2), (182, .invokevirtual 145, 3), (185, .ireturn, 1)]
def i_X11_copy : MI := (RX11, cX11_copy, 7, (some .int), "copy", { frames := 2, cells := 0, slots := 0, locals := 45 })
theorem D_X11_copy : tbOK (i_X11_copy).2.1 tb_X11_copy := by show ∀ q ∈ tb_X11_copy, decode cX11_copy q.1 = .ok (q.2.1, q.2.2); decide +kernel
def po_X11_copy (S : Sk) (I : II) (r : Int32 × II) : Option LV × Sk × II := (some (vI r.1), S, r.2)
def jn_X11_copy_14 (fu : Nat) (S : Sk) (I : II) (a0 : Nat) : Option (Int32 × II) :=
  (f_X11_refused fu S I a0 ((-1) : Int32)).bind fun q1 => (some ((q1.1, q1.2)))
def jn_X11_copy_38 (fu : Nat) (S : Sk) (I : II) (a0 : Nat) : Option (Int32 × II) :=
  (f_X11_failed fu S I a0 (1 : Int32)).bind fun q4 => (some ((q4.1, q4.2)))
def jn_X11_copy_98 (fu : Nat) (S : Sk) (I : II) (a0 : Nat) : Option (Int32 × II) :=
  (f_X11_failed fu S I a0 (3 : Int32)).bind fun q7 => (some ((q7.1, q7.2)))
def lp_X11_copy_144 (fu : Nat) (S : Sk) (a0 : Nat) (x3 : Int32) (x4 : Int32) (x5 : Int32) (self144 : Int32 → II → Option (Int32 × II)) (x6 : Int32) (I : II) : Option (Int32 × II) :=
  if x5 ≤ x6 then (f_X11_refused fu S I a0 x5).bind fun q11 => (some ((q11.1, q11.2))) else gd (inb S (S.1 a0 55) x6) (gd (inb S (S.1 a0 54) ((((60 : Int32) * x3) + x4) + x6)) (lt (wr I (S.1 a0 54) ((((60 : Int32) * x3) + x4) + x6) (rd I (S.1 a0 55) x6)) fun I18 => (self144 (x6 + (1 : Int32)) I18)))
def lp_X11_copy_107 (fu : Nat) (S : Sk) (a0 : Nat) (x1 : Int32) (x2 : Int32) (x3 : Int32) (x4 : Int32) (x5 : Int32) (self107 : Int32 → II → Option (Int32 × II)) (x6 : Int32) (I : II) : Option (Int32 × II) :=
  if x5 ≤ x6 then fix2 (lp_X11_copy_144 fu S a0 x3 x4 x5) fu (0 : Int32) I else gd (inb S (S.1 a0 54) ((((60 : Int32) * x1) + x2) + x6)) (gd (inb S (S.1 a0 55) x6) (lt (wr I (S.1 a0 55) x6 (rd I (S.1 a0 54) ((((60 : Int32) * x1) + x2) + x6))) fun I24 => (self107 (x6 + (1 : Int32)) I24)))
def f_X11_copy (fu : Nat) (S : Sk) (I : II) (a0 : Nat) (x1 : Int32) (x2 : Int32) (x3 : Int32) (x4 : Int32) (x5 : Int32) : Option (Int32 × II) :=
  if (t_X11_noSheet x1) = 0 then if (t_X11_noSheet x3) = 0 then gd (inb S (S.1 a0 52) x1) (if (rd I (S.1 a0 52) x1) < 0 then jn_X11_copy_38 fu S I a0 else gd (inb S (S.1 a0 52) x3) (if 0 ≤ (rd I (S.1 a0 52) x3) then gd (inb S (S.1 a0 53) x1) (gd (inb S (S.1 a0 53) x3) (if (rd I (S.1 a0 53) x1) = (rd I (S.1 a0 53) x3) then if (t_X11_isBeyond x2 x5.toInt64 (rd I (S.1 a0 52) x1)) = 0 then if (t_X11_isBeyond x4 x5.toInt64 (rd I (S.1 a0 52) x3)) = 0 then fix2 (lp_X11_copy_107 fu S a0 x1 x2 x3 x4 x5) fu (0 : Int32) I else jn_X11_copy_98 fu S I a0 else jn_X11_copy_98 fu S I a0 else (f_X11_failed fu S I a0 (2 : Int32)).bind fun q46 => (some ((q46.1, q46.2))))) else jn_X11_copy_38 fu S I a0)) else jn_X11_copy_14 fu S I a0 else jn_X11_copy_14 fu S I a0
set_option maxRecDepth 100000 in
set_option maxHeartbeats 4000000 in
theorem gg_X11_copy {E : EV} (fu : Nat) (S0 : Sk) (I0 : II) (a0 : Nat) (x1 : Int32) (x2 : Int32) (x3 : Int32) (x4 : Int32) (x5 : Int32) (ht0 : tyO S0 11 a0) : GG E i_X11_copy (enM E i_X11_copy S0 (po_X11_copy S0 I0)) S0 I0 (0, 0) 0 [(0, vA (a0 + 1)), (1, vI x1), (2, vI x2), (3, vI x3), (4, vI x4), (5, vI x5)] [] (f_X11_copy fu S0 I0 a0 x1 x2 x3 x4 x5) := by
  have hj14 : ∀ (I : II), GG E i_X11_copy (enM E i_X11_copy S0 (po_X11_copy S0 I0)) S0 I (0, 0) 14 [(0, vA (a0 + 1))] [] (jn_X11_copy_14 fu S0 I a0) := by
    intro I  
    unfold jn_X11_copy_14
    refine g_aload_n (dk D_X11_copy 6 rfl) rfl ?_
    refine g_iconst (v := ((-1) : Int32)) (dk D_X11_copy 7 rfl) rfl ?_
    refine g_bind (fun q1 hq2 => ?_)
    refine h_callVt (st := []) (c_X11_refused (E := E) fu S0 I a0 ((-1) : Int32) q1 hq2 (ht0)) cl_RX11_145 ht0 rfl rfl (by decide) (Nat.le_of_ble_eq_true rfl) (dk D_X11_copy 8 rfl) ?_
    exact g_ireturn rfl rfl Sx.rf rfl (by decide) (by decide) (dk D_X11_copy 9 rfl)
  have hj38 : ∀ (I : II), GG E i_X11_copy (enM E i_X11_copy S0 (po_X11_copy S0 I0)) S0 I (0, 0) 38 [(0, vA (a0 + 1))] [] (jn_X11_copy_38 fu S0 I a0) := by
    intro I  
    unfold jn_X11_copy_38
    refine g_aload_n (dk D_X11_copy 20 rfl) rfl ?_
    refine g_iconst (v := (1 : Int32)) (dk D_X11_copy 21 rfl) rfl ?_
    refine g_bind (fun q4 hq5 => ?_)
    refine h_callVt (st := []) (c_X11_failed (E := E) fu S0 I a0 (1 : Int32) q4 hq5 (ht0)) cl_RX11_149 ht0 rfl rfl (by decide) (Nat.le_of_ble_eq_true rfl) (dk D_X11_copy 22 rfl) ?_
    exact g_ireturn rfl rfl Sx.rf rfl (by decide) (by decide) (dk D_X11_copy 23 rfl)
  have hj98 : ∀ (I : II), GG E i_X11_copy (enM E i_X11_copy S0 (po_X11_copy S0 I0)) S0 I (0, 0) 98 [(0, vA (a0 + 1))] [] (jn_X11_copy_98 fu S0 I a0) := by
    intro I  
    unfold jn_X11_copy_98
    refine g_aload_n (dk D_X11_copy 55 rfl) rfl ?_
    refine g_iconst (v := (3 : Int32)) (dk D_X11_copy 56 rfl) rfl ?_
    refine g_bind (fun q7 hq8 => ?_)
    refine h_callVt (st := []) (c_X11_failed (E := E) fu S0 I a0 (3 : Int32) q7 hq8 (ht0)) cl_RX11_149 ht0 rfl rfl (by decide) (Nat.le_of_ble_eq_true rfl) (dk D_X11_copy 57 rfl) ?_
    exact g_ireturn rfl rfl Sx.rf rfl (by decide) (by decide) (dk D_X11_copy 58 rfl)
  have hl144 : ∀ (nn : Nat) (x6 : Int32) (I : II), True → GG E i_X11_copy (enM E i_X11_copy S0 (po_X11_copy S0 I0)) S0 I (0, 0) 144 [(0, vA (a0 + 1)), (3, vI x3), (4, vI x4), (5, vI x5), (6, vI x6)] [] (fix2 (lp_X11_copy_144 fu S0 a0 x3 x4 x5) nn x6 I) := by
    refine g_fix2 (fun _ _ => S0) (fun x6 I => I) (fun x6 I => [(0, vA (a0 + 1)), (3, vI x3), (4, vI x4), (5, vI x5), (6, vI x6)]) (fun x6 I => True) ?_
    intro self144 hself144 x6 I hinv
    unfold lp_X11_copy_144
    refine g_iload (dk D_X11_copy 82 rfl) rfl ?_
    refine g_iload (dk D_X11_copy 83 rfl) rfl ?_
    refine g_icmp_ge (tgt := 179) (dk D_X11_copy 84 rfl) rfl (fun hc10 => ?_) (fun hc10 => ?_)
    · refine g_aload_n (dk D_X11_copy 101 rfl) rfl ?_
      refine g_iload (dk D_X11_copy 102 rfl) rfl ?_
      refine g_bind (fun q11 hq12 => ?_)
      refine h_callVt (st := []) (c_X11_refused (E := E) fu S0 I a0 x5 q11 hq12 (ht0)) cl_RX11_145 ht0 rfl rfl (by decide) (Nat.le_of_ble_eq_true rfl) (dk D_X11_copy 103 rfl) ?_
      exact g_ireturn rfl rfl Sx.rf rfl (by decide) (by decide) (dk D_X11_copy 104 rfl)
    · refine g_aload_n (dk D_X11_copy 85 rfl) rfl ?_
      refine g_getAt (t := 100) fl_RX11_118 rfl ht0 (dk D_X11_copy 86 rfl) (fun ht14 => ?_)
      refine g_bipush (v := (60 : Int32)) (dk D_X11_copy 87 rfl) rfl ?_
      refine g_iload_n (dk D_X11_copy 88 rfl) rfl ?_
      refine g_imul (dk D_X11_copy 89 rfl) ?_
      refine g_iload (dk D_X11_copy 90 rfl) rfl ?_
      refine g_iadd (dk D_X11_copy 91 rfl) ?_
      refine g_iload (dk D_X11_copy 92 rfl) rfl ?_
      refine g_iadd (dk D_X11_copy 93 rfl) ?_
      refine g_aload_n (dk D_X11_copy 94 rfl) rfl ?_
      refine g_getAt (t := 100) fl_RX11_121 rfl ht0 (dk D_X11_copy 95 rfl) (fun ht15 => ?_)
      refine g_iload (dk D_X11_copy 96 rfl) rfl ?_
      refine g_gd (fun hi16 => ?_)
      refine g_iaload ht15 hi16 (dk D_X11_copy 97 rfl) ?_
      refine g_gd (fun hi17 => ?_)
      refine g_iastore ht14 hi17 (dk D_X11_copy 98 rfl) ?_
      refine g_ltI (fun I18 eI18 => ?_)
      refine g_iinc (v := (1 : Int32)) (L' := [(0, vA (a0 + 1)), (3, vI x3), (4, vI x4), (5, vI x5), (6, vI (x6 + (1 : Int32)))]) (dk D_X11_copy 99 rfl) rfl rfl (Nat.le_of_ble_eq_true rfl) rfl ?_
      refine g_goto (tgt := 144) (dk D_X11_copy 100 rfl) rfl ?_
      exact hself144 (x6 + (1 : Int32)) I18 trivial
  have hl107 : ∀ (nn : Nat) (x6 : Int32) (I : II), True → GG E i_X11_copy (enM E i_X11_copy S0 (po_X11_copy S0 I0)) S0 I (0, 0) 107 [(0, vA (a0 + 1)), (1, vI x1), (2, vI x2), (3, vI x3), (4, vI x4), (5, vI x5), (6, vI x6)] [] (fix2 (lp_X11_copy_107 fu S0 a0 x1 x2 x3 x4 x5) nn x6 I) := by
    refine g_fix2 (fun _ _ => S0) (fun x6 I => I) (fun x6 I => [(0, vA (a0 + 1)), (1, vI x1), (2, vI x2), (3, vI x3), (4, vI x4), (5, vI x5), (6, vI x6)]) (fun x6 I => True) ?_
    intro self107 hself107 x6 I hinv
    unfold lp_X11_copy_107
    refine g_iload (dk D_X11_copy 61 rfl) rfl ?_
    refine g_iload (dk D_X11_copy 62 rfl) rfl ?_
    refine g_icmp_ge (tgt := 141) (dk D_X11_copy 63 rfl) rfl (fun hc19 => ?_) (fun hc19 => ?_)
    · refine g_iconst (v := (0 : Int32)) (dk D_X11_copy 80 rfl) rfl ?_
      refine g_istore (L' := [(0, vA (a0 + 1)), (1, vI x1), (2, vI x2), (3, vI x3), (4, vI x4), (5, vI x5), (6, vI (0 : Int32))]) (dk D_X11_copy 81 rfl) (Nat.le_of_ble_eq_true rfl) rfl ?_
      refine g_Lp [0, 3, 4, 5, 6] rfl ?_
      exact hl144 fu (0 : Int32) I trivial
    · refine g_aload_n (dk D_X11_copy 64 rfl) rfl ?_
      refine g_getAt (t := 100) fl_RX11_121 rfl ht0 (dk D_X11_copy 65 rfl) (fun ht20 => ?_)
      refine g_iload (dk D_X11_copy 66 rfl) rfl ?_
      refine g_aload_n (dk D_X11_copy 67 rfl) rfl ?_
      refine g_getAt (t := 100) fl_RX11_118 rfl ht0 (dk D_X11_copy 68 rfl) (fun ht21 => ?_)
      refine g_bipush (v := (60 : Int32)) (dk D_X11_copy 69 rfl) rfl ?_
      refine g_iload_n (dk D_X11_copy 70 rfl) rfl ?_
      refine g_imul (dk D_X11_copy 71 rfl) ?_
      refine g_iload_n (dk D_X11_copy 72 rfl) rfl ?_
      refine g_iadd (dk D_X11_copy 73 rfl) ?_
      refine g_iload (dk D_X11_copy 74 rfl) rfl ?_
      refine g_iadd (dk D_X11_copy 75 rfl) ?_
      refine g_gd (fun hi22 => ?_)
      refine g_iaload ht21 hi22 (dk D_X11_copy 76 rfl) ?_
      refine g_gd (fun hi23 => ?_)
      refine g_iastore ht20 hi23 (dk D_X11_copy 77 rfl) ?_
      refine g_ltI (fun I24 eI24 => ?_)
      refine g_iinc (v := (1 : Int32)) (L' := [(0, vA (a0 + 1)), (1, vI x1), (2, vI x2), (3, vI x3), (4, vI x4), (5, vI x5), (6, vI (x6 + (1 : Int32)))]) (dk D_X11_copy 78 rfl) rfl rfl (Nat.le_of_ble_eq_true rfl) rfl ?_
      refine g_goto (tgt := 107) (dk D_X11_copy 79 rfl) rfl ?_
      exact hself107 (x6 + (1 : Int32)) I24 trivial
  unfold f_X11_copy
  refine g_iload_n (dk D_X11_copy 0 rfl) rfl ?_
  refine h_callS (st := []) (c_X11_noSheet (E := E) S0 I0 x1) cl_RX11_175 rfl rfl (by decide) (Nat.le_of_ble_eq_true rfl) (dk D_X11_copy 1 rfl) ?_
  refine g_if_ne (tgt := 14) (dk D_X11_copy 2 rfl) rfl (fun hc26 => ?_) (fun hc26 => ?_)
  · refine g_Lp [0] rfl ?_
    exact hj14 I0
  · refine g_iload_n (dk D_X11_copy 3 rfl) rfl ?_
    refine h_callS (st := []) (c_X11_noSheet (E := E) S0 I0 x3) cl_RX11_175 rfl rfl (by decide) (Nat.le_of_ble_eq_true rfl) (dk D_X11_copy 4 rfl) ?_
    refine g_if_eq (tgt := 20) (dk D_X11_copy 5 rfl) rfl (fun hc28 => ?_) (fun hc28 => ?_)
    · refine g_aload_n (dk D_X11_copy 10 rfl) rfl ?_
      refine g_getAt (t := 100) fl_RX11_112 rfl ht0 (dk D_X11_copy 11 rfl) (fun ht29 => ?_)
      refine g_iload_n (dk D_X11_copy 12 rfl) rfl ?_
      refine g_gd (fun hi30 => ?_)
      refine g_iaload ht29 hi30 (dk D_X11_copy 13 rfl) ?_
      refine g_if_lt (tgt := 38) (dk D_X11_copy 14 rfl) rfl (fun hc31 => ?_) (fun hc31 => ?_)
      · refine g_Lp [0] rfl ?_
        exact hj38 I0
      · refine g_aload_n (dk D_X11_copy 15 rfl) rfl ?_
        refine g_getAt (t := 100) fl_RX11_112 rfl ht0 (dk D_X11_copy 16 rfl) (fun ht32 => ?_)
        refine g_iload_n (dk D_X11_copy 17 rfl) rfl ?_
        refine g_gd (fun hi33 => ?_)
        refine g_iaload ht29 hi33 (dk D_X11_copy 18 rfl) ?_
        refine g_if_ge (tgt := 44) (dk D_X11_copy 19 rfl) rfl (fun hc34 => ?_) (fun hc34 => ?_)
        · refine g_aload_n (dk D_X11_copy 24 rfl) rfl ?_
          refine g_getAt (t := 100) fl_RX11_115 rfl ht0 (dk D_X11_copy 25 rfl) (fun ht35 => ?_)
          refine g_iload_n (dk D_X11_copy 26 rfl) rfl ?_
          refine g_gd (fun hi36 => ?_)
          refine g_iaload ht35 hi36 (dk D_X11_copy 27 rfl) ?_
          refine g_aload_n (dk D_X11_copy 28 rfl) rfl ?_
          refine g_getAt (t := 100) fl_RX11_115 rfl ht0 (dk D_X11_copy 29 rfl) (fun ht37 => ?_)
          refine g_iload_n (dk D_X11_copy 30 rfl) rfl ?_
          refine g_gd (fun hi38 => ?_)
          refine g_iaload ht35 hi38 (dk D_X11_copy 31 rfl) ?_
          refine g_icmp_eq (tgt := 65) (dk D_X11_copy 32 rfl) rfl (fun hc39 => ?_) (fun hc39 => ?_)
          · refine g_iload_n (dk D_X11_copy 37 rfl) rfl ?_
            refine g_iload (dk D_X11_copy 38 rfl) rfl ?_
            refine g_i2l (dk D_X11_copy 39 rfl) ?_
            refine g_aload_n (dk D_X11_copy 40 rfl) rfl ?_
            refine g_getAt (t := 100) fl_RX11_112 rfl ht0 (dk D_X11_copy 41 rfl) (fun ht40 => ?_)
            refine g_iload_n (dk D_X11_copy 42 rfl) rfl ?_
            refine g_iaload ht29 hi30 (dk D_X11_copy 43 rfl) ?_
            refine h_callS (st := []) (c_X11_isBeyond (E := E) S0 I0 x2 x5.toInt64 (rd I0 (S0.1 a0 52) x1)) cl_RX11_152 rfl rfl (by decide) (Nat.le_of_ble_eq_true rfl) (dk D_X11_copy 44 rfl) ?_
            refine g_if_ne (tgt := 98) (dk D_X11_copy 45 rfl) rfl (fun hc42 => ?_) (fun hc42 => ?_)
            · refine g_Lp [0] rfl ?_
              exact hj98 I0
            · refine g_iload (dk D_X11_copy 46 rfl) rfl ?_
              refine g_iload (dk D_X11_copy 47 rfl) rfl ?_
              refine g_i2l (dk D_X11_copy 48 rfl) ?_
              refine g_aload_n (dk D_X11_copy 49 rfl) rfl ?_
              refine g_getAt (t := 100) fl_RX11_112 rfl ht0 (dk D_X11_copy 50 rfl) (fun ht43 => ?_)
              refine g_iload_n (dk D_X11_copy 51 rfl) rfl ?_
              refine g_iaload ht29 hi33 (dk D_X11_copy 52 rfl) ?_
              refine h_callS (st := []) (c_X11_isBeyond (E := E) S0 I0 x4 x5.toInt64 (rd I0 (S0.1 a0 52) x3)) cl_RX11_152 rfl rfl (by decide) (Nat.le_of_ble_eq_true rfl) (dk D_X11_copy 53 rfl) ?_
              refine g_if_eq (tgt := 104) (dk D_X11_copy 54 rfl) rfl (fun hc45 => ?_) (fun hc45 => ?_)
              · refine g_iconst (v := (0 : Int32)) (dk D_X11_copy 59 rfl) rfl ?_
                refine g_istore (L' := [(0, vA (a0 + 1)), (1, vI x1), (2, vI x2), (3, vI x3), (4, vI x4), (5, vI x5), (6, vI (0 : Int32))]) (dk D_X11_copy 60 rfl) (Nat.le_of_ble_eq_true rfl) rfl ?_
                exact hl107 fu (0 : Int32) I0 trivial
              · refine g_Lp [0] rfl ?_
                exact hj98 I0
          · refine g_aload_n (dk D_X11_copy 33 rfl) rfl ?_
            refine g_iconst (v := (2 : Int32)) (dk D_X11_copy 34 rfl) rfl ?_
            refine g_bind (fun q46 hq47 => ?_)
            refine h_callVt (st := []) (c_X11_failed (E := E) fu S0 I0 a0 (2 : Int32) q46 hq47 (ht0)) cl_RX11_149 ht0 rfl rfl (by decide) (Nat.le_of_ble_eq_true rfl) (dk D_X11_copy 35 rfl) ?_
            exact g_ireturn rfl rfl Sx.rf rfl (by decide) (by decide) (dk D_X11_copy 36 rfl)
        · refine g_Lp [0] rfl ?_
          exact hj38 I0
    · refine g_Lp [0] rfl ?_
      exact hj14 I0
theorem c_X11_copy {E : EV} (fu : Nat) (S0 : Sk) (I0 : II) (a0 : Nat) (x1 : Int32) (x2 : Int32) (x3 : Int32) (x4 : Int32) (x5 : Int32) (r : Int32 × II) (h : f_X11_copy fu S0 I0 a0 x1 x2 x3 x4 x5 = some r) (ht0 : tyO S0 11 a0) : MX E yX11_copy i_X11_copy S0 I0 [vA (a0 + 1), vI x1, vI x2, vI x3, vI x4, vI x5] (po_X11_copy S0 I0 r) :=
  MX.of h (by decide) rfl rfl (Nat.le_of_ble_eq_true rfl) (gg_X11_copy fu S0 I0 a0 x1 x2 x3 x4 x5 ht0)
theorem fl_RX11_386 : FL RX11 386 11 56 := ⟨RX11, TX11, 57, rfl, by decide, rfl, by decide, (gm 1034 (by decide +kernel) (by decide +kernel)), inG11⟩
theorem fp_11_56 : FP 11 56 (tyX11 56) false := ⟨RX11, TX11, 57, tyX11, rfl, tyX11_ok, nmX11, rfl, rfl, rfl⟩
def tb_X11_traced : List (Nat × Instr × Nat) := [(0, .aload_n 0, 1), (1, .bipush 31, 2), (3, .aload_n 0, 1), (4, .getfield 386, 3), (7, .imul, 1), (8, .iload_n 1, 1), (9, .iadd, 1), (10, .putfield 386, 3), (13, .return_, 1)]
def i_X11_traced : MI := (RX11, cX11_traced, 2, none, "traced", { frames := 0, cells := 0, slots := 0, locals := 0 })
theorem D_X11_traced : tbOK (i_X11_traced).2.1 tb_X11_traced := by show ∀ q ∈ tb_X11_traced, decode cX11_traced q.1 = .ok (q.2.1, q.2.2); decide +kernel
def po_X11_traced (S : Sk) (I : II) (r : II) : Option LV × Sk × II := (none, S, r)
def f_X11_traced (fu : Nat) (S : Sk) (I : II) (a0 : Nat) (x1 : Int32) : Option (II) :=
  lt (upI I a0 56 (((31 : Int32) * (I a0 56)) + x1)) fun I1 => (some (I1))
set_option maxRecDepth 100000 in
set_option maxHeartbeats 4000000 in
theorem gg_X11_traced {E : EV} (fu : Nat) (S0 : Sk) (I0 : II) (a0 : Nat) (x1 : Int32) (ht0 : tyO S0 11 a0) : GG E i_X11_traced (enM E i_X11_traced S0 (po_X11_traced S0 I0)) S0 I0 (0, 0) 0 [(0, vA (a0 + 1)), (1, vI x1)] [] (f_X11_traced fu S0 I0 a0 x1) := by
  unfold f_X11_traced
  refine g_aload_n (dk D_X11_traced 0 rfl) rfl ?_
  refine g_bipush (v := (31 : Int32)) (dk D_X11_traced 1 rfl) rfl ?_
  refine g_aload_n (dk D_X11_traced 2 rfl) rfl ?_
  refine g_getIt fl_RX11_386 (by decide) ht0 (dk D_X11_traced 3 rfl) ?_
  refine g_imul (dk D_X11_traced 4 rfl) ?_
  refine g_iload_n (dk D_X11_traced 5 rfl) rfl ?_
  refine g_iadd (dk D_X11_traced 6 rfl) ?_
  refine g_putIt fl_RX11_386 fp_11_56 (fun h => (by cases h)) (by decide) rfl rfl ht0 (dk D_X11_traced 7 rfl) ?_
  refine g_ltI (fun I1 eI1 => ?_)
  exact g_return rfl rfl Sx.rf rfl (by decide) (by decide) (dk D_X11_traced 8 rfl)
theorem c_X11_traced {E : EV} (fu : Nat) (S0 : Sk) (I0 : II) (a0 : Nat) (x1 : Int32) (r : II) (h : f_X11_traced fu S0 I0 a0 x1 = some r) (ht0 : tyO S0 11 a0) : MX E yX11_traced i_X11_traced S0 I0 [vA (a0 + 1), vI x1] (po_X11_traced S0 I0 r) :=
  MX.of h (by decide) rfl rfl (Nat.le_of_ble_eq_true rfl) (gg_X11_traced fu S0 I0 a0 x1 ht0)
theorem cl_RX11_389 : CV0 RX11 389 yX11_traced i_X11_traced 1 11 := ⟨⟨(gm 1504 (by decide +kernel) (by decide +kernel)), (gm 72 (by decide +kernel) (by decide +kernel)), ((gm 1507 (by decide +kernel) (by decide +kernel))), by decide +kernel, by decide +kernel, by decide +kernel⟩, ⟨(gm 1506 (by decide +kernel) (by decide +kernel)), (gm 64 (by decide +kernel) (by decide +kernel))⟩, rfl, by decide⟩
def tb_X11_tell : List (Nat × Instr × Nat) := [(0, .aload_n 0, 1), (1, .iload_n 1, 1), (2, .invokevirtual 197, 3), (5, .ifCond .eq 5, 3), (8, .iconst (-1), 1), (9, .ireturn, 1), (10, .aload_n 0, 1), (11, .getfield 16, 3), (14, .iload_n 1, 1), (15, .iaload, 1), (16, .istore_n 2, 1), (17, .iload_n 2, 1), (18, .iconst 2, 1), (19, .if_icmp .ne 8, 3), (22, .aload_n 0, 1), (23, .iconst 3, 1), (24, .invokevirtual 389, 3), (27, .iload_n 2, 1), (28, .ifCond .le 8, 3), (31, .aload_n 0, 1), (32, .iconst 2, 1), (33, .invokevirtual 389, 3), (36, .aload_n 0, 1), (37, .iconst 1, 1), (38, .invokevirtual 389, 3), (41, .iload_n 2, 1), (42, .iconst 2, 1), (43, .if_icmp .ne 8, 3), (46, .aload_n 0, 1), (47, .iconst 1, 1), (48, .invokevirtual 389, 3), (51, .aload_n 0, 1), (52, .getfield 19, 3), (55, .iload_n 1, 1), (56, .iaload, 1), (57, .iload_n 2, 1), (58, .ifCond .ne 7, 3), (61, .iconst 0, 1), (62, .goto 9, 3), (65, .aload_n 0, 1), (66, .getfield 28, 3), (69, .iload_n 1, 1), (70, .iaload, 1), (71, .iadd, 1), (72, .iload_n 2, 1), (73, .iconst 2, 1), (74, .if_icmp .ne 12, 3), (77, .aload_n 0, 1), (78, .getfield 19, 3), (81, .iload_n 1, 1), (82, .iaload, 1), (83, .goto 4, 3), (86, .iconst 0, 1), (87, .iadd, 1), (88, .ireturn, 1)]
def i_X11_tell : MI := (RX11, cX11_tell, 3, (some .int), "tell", { frames := 2, cells := 0, slots := 0, locals := 46 })
theorem D_X11_tell : tbOK (i_X11_tell).2.1 tb_X11_tell := by show ∀ q ∈ tb_X11_tell, decode cX11_tell q.1 = .ok (q.2.1, q.2.2); decide +kernel
def po_X11_tell (S : Sk) (I : II) (r : Int32 × II) : Option LV × Sk × II := (some (vI r.1), S, r.2)
def jn_X11_tell_71 (fu : Nat) (S : Sk) (I : II) (a0 : Nat) (x1 : Int32) (x2 : Int32) (s0 : Int32) (s1 : Int32) : Option (Int32 × II) :=
  if x2 = (2 : Int32) then gd (inb S (S.1 a0 6) x1) (some ((((s0 + s1) + (rd I (S.1 a0 6) x1)), I))) else some ((((s0 + s1) + (0 : Int32)), I))
def jn_X11_tell_51 (fu : Nat) (S : Sk) (I : II) (a0 : Nat) (x1 : Int32) (x2 : Int32) : Option (Int32 × II) :=
  gd (inb S (S.1 a0 6) x1) (if x2 = 0 then jn_X11_tell_71 fu S I a0 x1 x2 (rd I (S.1 a0 6) x1) (0 : Int32) else gd (inb S (S.1 a0 9) x1) (jn_X11_tell_71 fu S I a0 x1 x2 (rd I (S.1 a0 6) x1) (rd I (S.1 a0 9) x1)))
def jn_X11_tell_36 (fu : Nat) (S : Sk) (I : II) (a0 : Nat) (x1 : Int32) (x2 : Int32) : Option (Int32 × II) :=
  (f_X11_traced fu S I a0 (1 : Int32)).bind fun q9 => (if x2 = (2 : Int32) then (f_X11_traced fu S q9 a0 (1 : Int32)).bind fun q13 => (jn_X11_tell_51 fu S q13 a0 x1 x2) else jn_X11_tell_51 fu S q9 a0 x1 x2)
def jn_X11_tell_27 (fu : Nat) (S : Sk) (I : II) (a0 : Nat) (x1 : Int32) (x2 : Int32) : Option (Int32 × II) :=
  if x2 ≤ 0 then jn_X11_tell_36 fu S I a0 x1 x2 else (f_X11_traced fu S I a0 (2 : Int32)).bind fun q17 => (jn_X11_tell_36 fu S q17 a0 x1 x2)
def f_X11_tell (fu : Nat) (S : Sk) (I : II) (a0 : Nat) (x1 : Int32) : Option (Int32 × II) :=
  if (t_X11_noLine I a0 x1) = 0 then gd (inb S (S.1 a0 5) x1) (lt (rd I (S.1 a0 5) x1) fun x2_24 => (if x2_24 = (2 : Int32) then (f_X11_traced fu S I a0 (3 : Int32)).bind fun q26 => (jn_X11_tell_27 fu S q26 a0 x1 x2_24) else jn_X11_tell_27 fu S I a0 x1 x2_24)) else some ((((-1) : Int32), I))
set_option maxRecDepth 100000 in
set_option maxHeartbeats 4000000 in
theorem gg_X11_tell {E : EV} (fu : Nat) (S0 : Sk) (I0 : II) (a0 : Nat) (x1 : Int32) (ht0 : tyO S0 11 a0) : GG E i_X11_tell (enM E i_X11_tell S0 (po_X11_tell S0 I0)) S0 I0 (0, 0) 0 [(0, vA (a0 + 1)), (1, vI x1)] [] (f_X11_tell fu S0 I0 a0 x1) := by
  have hj71 : ∀ (I : II) (x2 : Int32) (s0 : Int32) (s1 : Int32), GG E i_X11_tell (enM E i_X11_tell S0 (po_X11_tell S0 I0)) S0 I (0, 0) 71 [(0, vA (a0 + 1)), (1, vI x1), (2, vI x2)] [vI s1, vI s0] (jn_X11_tell_71 fu S0 I a0 x1 x2 s0 s1) := by
    intro I x2 s0 s1 
    unfold jn_X11_tell_71
    refine g_iadd (dk D_X11_tell 43 rfl) ?_
    refine g_iload_n (dk D_X11_tell 44 rfl) rfl ?_
    refine g_iconst (v := (2 : Int32)) (dk D_X11_tell 45 rfl) rfl ?_
    refine g_icmp_ne (tgt := 86) (dk D_X11_tell 46 rfl) rfl (fun hc1 => ?_) (fun hc1 => ?_)
    · refine g_iconst (v := (0 : Int32)) (dk D_X11_tell 52 rfl) rfl ?_
      refine g_iadd (dk D_X11_tell 53 rfl) ?_
      exact g_ireturn rfl rfl Sx.rf rfl (by decide) (by decide) (dk D_X11_tell 54 rfl)
    · refine g_aload_n (dk D_X11_tell 47 rfl) rfl ?_
      refine g_getAt (t := 100) fl_RX11_19 rfl ht0 (dk D_X11_tell 48 rfl) (fun ht2 => ?_)
      refine g_iload_n (dk D_X11_tell 49 rfl) rfl ?_
      refine g_gd (fun hi3 => ?_)
      refine g_iaload ht2 hi3 (dk D_X11_tell 50 rfl) ?_
      refine g_goto (tgt := 87) (dk D_X11_tell 51 rfl) rfl ?_
      refine g_iadd (dk D_X11_tell 53 rfl) ?_
      exact g_ireturn rfl rfl Sx.rf rfl (by decide) (by decide) (dk D_X11_tell 54 rfl)
  have hj51 : ∀ (I : II) (x2 : Int32), GG E i_X11_tell (enM E i_X11_tell S0 (po_X11_tell S0 I0)) S0 I (0, 0) 51 [(0, vA (a0 + 1)), (1, vI x1), (2, vI x2)] [] (jn_X11_tell_51 fu S0 I a0 x1 x2) := by
    intro I x2 
    unfold jn_X11_tell_51
    refine g_aload_n (dk D_X11_tell 31 rfl) rfl ?_
    refine g_getAt (t := 100) fl_RX11_19 rfl ht0 (dk D_X11_tell 32 rfl) (fun ht4 => ?_)
    refine g_iload_n (dk D_X11_tell 33 rfl) rfl ?_
    refine g_gd (fun hi5 => ?_)
    refine g_iaload ht4 hi5 (dk D_X11_tell 34 rfl) ?_
    refine g_iload_n (dk D_X11_tell 35 rfl) rfl ?_
    refine g_if_ne (tgt := 65) (dk D_X11_tell 36 rfl) rfl (fun hc6 => ?_) (fun hc6 => ?_)
    · refine g_aload_n (dk D_X11_tell 39 rfl) rfl ?_
      refine g_getAt (t := 100) fl_RX11_28 rfl ht0 (dk D_X11_tell 40 rfl) (fun ht7 => ?_)
      refine g_iload_n (dk D_X11_tell 41 rfl) rfl ?_
      refine g_gd (fun hi8 => ?_)
      refine g_iaload ht7 hi8 (dk D_X11_tell 42 rfl) ?_
      exact hj71 I x2 (rd I (S0.1 a0 6) x1) (rd I (S0.1 a0 9) x1)
    · refine g_iconst (v := (0 : Int32)) (dk D_X11_tell 37 rfl) rfl ?_
      refine g_goto (tgt := 71) (dk D_X11_tell 38 rfl) rfl ?_
      exact hj71 I x2 (rd I (S0.1 a0 6) x1) (0 : Int32)
  have hj36 : ∀ (I : II) (x2 : Int32), GG E i_X11_tell (enM E i_X11_tell S0 (po_X11_tell S0 I0)) S0 I (0, 0) 36 [(0, vA (a0 + 1)), (1, vI x1), (2, vI x2)] [] (jn_X11_tell_36 fu S0 I a0 x1 x2) := by
    intro I x2 
    unfold jn_X11_tell_36
    refine g_aload_n (dk D_X11_tell 22 rfl) rfl ?_
    refine g_iconst (v := (1 : Int32)) (dk D_X11_tell 23 rfl) rfl ?_
    refine g_bind (fun q9 hq10 => ?_)
    refine h_callVt (st := []) (c_X11_traced (E := E) fu S0 I a0 (1 : Int32) q9 hq10 (ht0)) cl_RX11_389 ht0 rfl rfl (by decide) (Nat.le_of_ble_eq_true rfl) (dk D_X11_tell 24 rfl) ?_
    refine g_iload_n (dk D_X11_tell 25 rfl) rfl ?_
    refine g_iconst (v := (2 : Int32)) (dk D_X11_tell 26 rfl) rfl ?_
    refine g_icmp_ne (tgt := 51) (dk D_X11_tell 27 rfl) rfl (fun hc12 => ?_) (fun hc12 => ?_)
    · exact hj51 q9 x2
    · refine g_aload_n (dk D_X11_tell 28 rfl) rfl ?_
      refine g_iconst (v := (1 : Int32)) (dk D_X11_tell 29 rfl) rfl ?_
      refine g_bind (fun q13 hq14 => ?_)
      refine h_callVt (st := []) (c_X11_traced (E := E) fu S0 q9 a0 (1 : Int32) q13 hq14 (ht0)) cl_RX11_389 ht0 rfl rfl (by decide) (Nat.le_of_ble_eq_true rfl) (dk D_X11_tell 30 rfl) ?_
      exact hj51 q13 x2
  have hj27 : ∀ (I : II) (x2 : Int32), GG E i_X11_tell (enM E i_X11_tell S0 (po_X11_tell S0 I0)) S0 I (0, 0) 27 [(0, vA (a0 + 1)), (1, vI x1), (2, vI x2)] [] (jn_X11_tell_27 fu S0 I a0 x1 x2) := by
    intro I x2 
    unfold jn_X11_tell_27
    refine g_iload_n (dk D_X11_tell 17 rfl) rfl ?_
    refine g_if_le (tgt := 36) (dk D_X11_tell 18 rfl) rfl (fun hc16 => ?_) (fun hc16 => ?_)
    · exact hj36 I x2
    · refine g_aload_n (dk D_X11_tell 19 rfl) rfl ?_
      refine g_iconst (v := (2 : Int32)) (dk D_X11_tell 20 rfl) rfl ?_
      refine g_bind (fun q17 hq18 => ?_)
      refine h_callVt (st := []) (c_X11_traced (E := E) fu S0 I a0 (2 : Int32) q17 hq18 (ht0)) cl_RX11_389 ht0 rfl rfl (by decide) (Nat.le_of_ble_eq_true rfl) (dk D_X11_tell 21 rfl) ?_
      exact hj36 q17 x2
  unfold f_X11_tell
  refine g_aload_n (dk D_X11_tell 0 rfl) rfl ?_
  refine g_iload_n (dk D_X11_tell 1 rfl) rfl ?_
  refine h_callVt (st := []) (c_X11_noLine (E := E) S0 I0 a0 x1 (ht0)) cl_RX11_197 ht0 rfl rfl (by decide) (Nat.le_of_ble_eq_true rfl) (dk D_X11_tell 2 rfl) ?_
  refine g_if_eq (tgt := 10) (dk D_X11_tell 3 rfl) rfl (fun hc21 => ?_) (fun hc21 => ?_)
  · refine g_aload_n (dk D_X11_tell 6 rfl) rfl ?_
    refine g_getAt (t := 100) fl_RX11_16 rfl ht0 (dk D_X11_tell 7 rfl) (fun ht22 => ?_)
    refine g_iload_n (dk D_X11_tell 8 rfl) rfl ?_
    refine g_gd (fun hi23 => ?_)
    refine g_iaload ht22 hi23 (dk D_X11_tell 9 rfl) ?_
    refine g_ltV (fun x2_24 ex2_24 => ?_)
    refine g_istore_n (L' := [(0, vA (a0 + 1)), (1, vI x1), (2, vI x2_24)]) (dk D_X11_tell 10 rfl) (Nat.le_of_ble_eq_true rfl) rfl ?_
    refine g_iload_n (dk D_X11_tell 11 rfl) rfl ?_
    refine g_iconst (v := (2 : Int32)) (dk D_X11_tell 12 rfl) rfl ?_
    refine g_icmp_ne (tgt := 27) (dk D_X11_tell 13 rfl) rfl (fun hc25 => ?_) (fun hc25 => ?_)
    · exact hj27 I0 x2_24
    · refine g_aload_n (dk D_X11_tell 14 rfl) rfl ?_
      refine g_iconst (v := (3 : Int32)) (dk D_X11_tell 15 rfl) rfl ?_
      refine g_bind (fun q26 hq27 => ?_)
      refine h_callVt (st := []) (c_X11_traced (E := E) fu S0 I0 a0 (3 : Int32) q26 hq27 (ht0)) cl_RX11_389 ht0 rfl rfl (by decide) (Nat.le_of_ble_eq_true rfl) (dk D_X11_tell 16 rfl) ?_
      exact hj27 q26 x2_24
  · refine g_iconst (v := ((-1) : Int32)) (dk D_X11_tell 4 rfl) rfl ?_
    exact g_ireturn rfl rfl Sx.rf rfl (by decide) (by decide) (dk D_X11_tell 5 rfl)
theorem c_X11_tell {E : EV} (fu : Nat) (S0 : Sk) (I0 : II) (a0 : Nat) (x1 : Int32) (r : Int32 × II) (h : f_X11_tell fu S0 I0 a0 x1 = some r) (ht0 : tyO S0 11 a0) : MX E yX11_tell i_X11_tell S0 I0 [vA (a0 + 1), vI x1] (po_X11_tell S0 I0 r) :=
  MX.of h (by decide) rfl rfl (Nat.le_of_ble_eq_true rfl) (gg_X11_tell fu S0 I0 a0 x1 ht0)
def tb_X11_hail : List (Nat × Instr × Nat) := [(0, .aload_n 0, 1), (1, .iload_n 1, 1), (2, .invokevirtual 197, 3), (5, .ifCond .eq 5, 3), (8, .iconst (-1), 1), (9, .ireturn, 1), (10, .aload_n 0, 1), (11, .aload_n 0, 1), (12, .getfield 16, 3), (15, .iload_n 1, 1), (16, .iaload, 1), (17, .iconst 2, 1), (18, .if_icmp .ne 7, 3), (21, .iconst 5, 1), (22, .goto 4, 3), (25, .iconst 4, 1), (26, .invokevirtual 389, 3), (29, .aload_n 0, 1), (30, .getfield 16, 3), (33, .iload_n 1, 1), (34, .iaload, 1), (35, .iconst 2, 1), (36, .if_icmp .ne 8, 3), (39, .bipush 90, 2), (41, .goto 4, 3), (44, .iload_n 1, 1), (45, .ireturn, 1)]
def i_X11_hail : MI := (RX11, cX11_hail, 2, (some .int), "hail", { frames := 2, cells := 0, slots := 0, locals := 46 })
theorem D_X11_hail : tbOK (i_X11_hail).2.1 tb_X11_hail := by show ∀ q ∈ tb_X11_hail, decode cX11_hail q.1 = .ok (q.2.1, q.2.2); decide +kernel
def po_X11_hail (S : Sk) (I : II) (r : Int32 × II) : Option LV × Sk × II := (some (vI r.1), S, r.2)
def jn_X11_hail_26 (fu : Nat) (S : Sk) (I : II) (a0 : Nat) (x1 : Int32) (s1 : Int32) : Option (Int32 × II) :=
  (f_X11_traced fu S I a0 s1).bind fun q1 => (gd (inb S (S.1 a0 5) x1) (if (rd q1 (S.1 a0 5) x1) = (2 : Int32) then some (((90 : Int32), q1)) else some ((x1, q1))))
def f_X11_hail (fu : Nat) (S : Sk) (I : II) (a0 : Nat) (x1 : Int32) : Option (Int32 × II) :=
  if (t_X11_noLine I a0 x1) = 0 then gd (inb S (S.1 a0 5) x1) (if (rd I (S.1 a0 5) x1) = (2 : Int32) then jn_X11_hail_26 fu S I a0 x1 (5 : Int32) else jn_X11_hail_26 fu S I a0 x1 (4 : Int32)) else some ((((-1) : Int32), I))
set_option maxRecDepth 100000 in
set_option maxHeartbeats 4000000 in
theorem gg_X11_hail {E : EV} (fu : Nat) (S0 : Sk) (I0 : II) (a0 : Nat) (x1 : Int32) (ht0 : tyO S0 11 a0) : GG E i_X11_hail (enM E i_X11_hail S0 (po_X11_hail S0 I0)) S0 I0 (0, 0) 0 [(0, vA (a0 + 1)), (1, vI x1)] [] (f_X11_hail fu S0 I0 a0 x1) := by
  have hj26 : ∀ (I : II) (s1 : Int32), GG E i_X11_hail (enM E i_X11_hail S0 (po_X11_hail S0 I0)) S0 I (0, 0) 26 [(0, vA (a0 + 1)), (1, vI x1)] [vI s1, vA (a0 + 1)] (jn_X11_hail_26 fu S0 I a0 x1 s1) := by
    intro I s1 
    unfold jn_X11_hail_26
    refine g_bind (fun q1 hq2 => ?_)
    refine h_callVt (st := []) (c_X11_traced (E := E) fu S0 I a0 s1 q1 hq2 (ht0)) cl_RX11_389 ht0 rfl rfl (by decide) (Nat.le_of_ble_eq_true rfl) (dk D_X11_hail 16 rfl) ?_
    refine g_aload_n (dk D_X11_hail 17 rfl) rfl ?_
    refine g_getAt (t := 100) fl_RX11_16 rfl ht0 (dk D_X11_hail 18 rfl) (fun ht4 => ?_)
    refine g_iload_n (dk D_X11_hail 19 rfl) rfl ?_
    refine g_gd (fun hi5 => ?_)
    refine g_iaload ht4 hi5 (dk D_X11_hail 20 rfl) ?_
    refine g_iconst (v := (2 : Int32)) (dk D_X11_hail 21 rfl) rfl ?_
    refine g_icmp_ne (tgt := 44) (dk D_X11_hail 22 rfl) rfl (fun hc6 => ?_) (fun hc6 => ?_)
    · refine g_iload_n (dk D_X11_hail 25 rfl) rfl ?_
      exact g_ireturn rfl rfl Sx.rf rfl (by decide) (by decide) (dk D_X11_hail 26 rfl)
    · refine g_bipush (v := (90 : Int32)) (dk D_X11_hail 23 rfl) rfl ?_
      refine g_goto (tgt := 45) (dk D_X11_hail 24 rfl) rfl ?_
      exact g_ireturn rfl rfl Sx.rf rfl (by decide) (by decide) (dk D_X11_hail 26 rfl)
  unfold f_X11_hail
  refine g_aload_n (dk D_X11_hail 0 rfl) rfl ?_
  refine g_iload_n (dk D_X11_hail 1 rfl) rfl ?_
  refine h_callVt (st := []) (c_X11_noLine (E := E) S0 I0 a0 x1 (ht0)) cl_RX11_197 ht0 rfl rfl (by decide) (Nat.le_of_ble_eq_true rfl) (dk D_X11_hail 2 rfl) ?_
  refine g_if_eq (tgt := 10) (dk D_X11_hail 3 rfl) rfl (fun hc8 => ?_) (fun hc8 => ?_)
  · refine g_aload_n (dk D_X11_hail 6 rfl) rfl ?_
    refine g_aload_n (dk D_X11_hail 7 rfl) rfl ?_
    refine g_getAt (t := 100) fl_RX11_16 rfl ht0 (dk D_X11_hail 8 rfl) (fun ht9 => ?_)
    refine g_iload_n (dk D_X11_hail 9 rfl) rfl ?_
    refine g_gd (fun hi10 => ?_)
    refine g_iaload ht9 hi10 (dk D_X11_hail 10 rfl) ?_
    refine g_iconst (v := (2 : Int32)) (dk D_X11_hail 11 rfl) rfl ?_
    refine g_icmp_ne (tgt := 25) (dk D_X11_hail 12 rfl) rfl (fun hc11 => ?_) (fun hc11 => ?_)
    · refine g_iconst (v := (4 : Int32)) (dk D_X11_hail 15 rfl) rfl ?_
      exact hj26 I0 (4 : Int32)
    · refine g_iconst (v := (5 : Int32)) (dk D_X11_hail 13 rfl) rfl ?_
      refine g_goto (tgt := 26) (dk D_X11_hail 14 rfl) rfl ?_
      exact hj26 I0 (5 : Int32)
  · refine g_iconst (v := ((-1) : Int32)) (dk D_X11_hail 4 rfl) rfl ?_
    exact g_ireturn rfl rfl Sx.rf rfl (by decide) (by decide) (dk D_X11_hail 5 rfl)
theorem c_X11_hail {E : EV} (fu : Nat) (S0 : Sk) (I0 : II) (a0 : Nat) (x1 : Int32) (r : Int32 × II) (h : f_X11_hail fu S0 I0 a0 x1 = some r) (ht0 : tyO S0 11 a0) : MX E yX11_hail i_X11_hail S0 I0 [vA (a0 + 1), vI x1] (po_X11_hail S0 I0 r) :=
  MX.of h (by decide) rfl rfl (Nat.le_of_ble_eq_true rfl) (gg_X11_hail fu S0 I0 a0 x1 ht0)
def tb_X11_as : List (Nat × Instr × Nat) := [(0, .aload_n 0, 1), (1, .iload_n 1, 1), (2, .invokevirtual 197, 3), (5, .ifCond .eq 9, 3), (8, .aload_n 0, 1), (9, .iconst (-1), 1), (10, .invokevirtual 145, 3), (13, .ireturn, 1), (14, .iload_n 2, 1), (15, .i2l, 1), (16, .lconst 0, 1), (17, .ldc2_w 143, 3), (20, .invokestatic 132, 3), (23, .ifCond .ne 10, 3), (26, .aload_n 0, 1), (27, .bipush (-2), 2), (29, .invokevirtual 145, 3), (32, .ireturn, 1), (33, .aload_n 0, 1), (34, .getfield 16, 3), (37, .iload_n 1, 1), (38, .iaload, 1), (39, .iload_n 2, 1), (40, .if_icmp .lt 11, 3), (43, .aload_n 0, 1), (44, .iconst 1, 1), (45, .invokevirtual 145, 3), (48, .goto 8, 3), (51, .aload_n 0, 1), (52, .iconst 2, 1), (53, .invokevirtual 149, 3), (56, .ireturn, 1)]
def i_X11_as : MI := (RX11, cX11_as, 3, (some .int), "as", { frames := 2, cells := 0, slots := 0, locals := 46 })
theorem D_X11_as : tbOK (i_X11_as).2.1 tb_X11_as := by show ∀ q ∈ tb_X11_as, decode cX11_as q.1 = .ok (q.2.1, q.2.2); decide +kernel
def po_X11_as (S : Sk) (I : II) (r : Int32 × II) : Option LV × Sk × II := (some (vI r.1), S, r.2)
def f_X11_as (fu : Nat) (S : Sk) (I : II) (a0 : Nat) (x1 : Int32) (x2 : Int32) : Option (Int32 × II) :=
  if (t_X11_noLine I a0 x1) = 0 then if (t_X11_in x2.toInt64 (0 : Int64) (2 : Int64)) = 0 then (f_X11_refused fu S I a0 ((-2) : Int32)).bind fun q14 => (some ((q14.1, q14.2))) else gd (inb S (S.1 a0 5) x1) (if (rd I (S.1 a0 5) x1) < x2 then (f_X11_failed fu S I a0 (2 : Int32)).bind fun q8 => (some ((q8.1, q8.2))) else (f_X11_refused fu S I a0 (1 : Int32)).bind fun q11 => (some ((q11.1, q11.2)))) else (f_X11_refused fu S I a0 ((-1) : Int32)).bind fun q17 => (some ((q17.1, q17.2)))
set_option maxRecDepth 100000 in
set_option maxHeartbeats 4000000 in
theorem gg_X11_as {E : EV} (fu : Nat) (S0 : Sk) (I0 : II) (a0 : Nat) (x1 : Int32) (x2 : Int32) (ht0 : tyO S0 11 a0) : GG E i_X11_as (enM E i_X11_as S0 (po_X11_as S0 I0)) S0 I0 (0, 0) 0 [(0, vA (a0 + 1)), (1, vI x1), (2, vI x2)] [] (f_X11_as fu S0 I0 a0 x1 x2) := by
  unfold f_X11_as
  refine g_aload_n (dk D_X11_as 0 rfl) rfl ?_
  refine g_iload_n (dk D_X11_as 1 rfl) rfl ?_
  refine h_callVt (st := []) (c_X11_noLine (E := E) S0 I0 a0 x1 (ht0)) cl_RX11_197 ht0 rfl rfl (by decide) (Nat.le_of_ble_eq_true rfl) (dk D_X11_as 2 rfl) ?_
  refine g_if_eq (tgt := 14) (dk D_X11_as 3 rfl) rfl (fun hc2 => ?_) (fun hc2 => ?_)
  · refine g_iload_n (dk D_X11_as 8 rfl) rfl ?_
    refine g_i2l (dk D_X11_as 9 rfl) ?_
    refine g_lconst (v := (0 : Int64)) (dk D_X11_as 10 rfl) rfl ?_
    refine g_ldc2 (dk D_X11_as 11 rfl) lk_RX11_143 ?_
    refine h_callS (st := []) (c_X11_in (E := E) S0 I0 x2.toInt64 (0 : Int64) (2 : Int64)) cl_RX11_132 rfl rfl (by decide) (Nat.le_of_ble_eq_true rfl) (dk D_X11_as 12 rfl) ?_
    refine g_if_ne (tgt := 33) (dk D_X11_as 13 rfl) rfl (fun hc4 => ?_) (fun hc4 => ?_)
    · refine g_aload_n (dk D_X11_as 18 rfl) rfl ?_
      refine g_getAt (t := 100) fl_RX11_16 rfl ht0 (dk D_X11_as 19 rfl) (fun ht5 => ?_)
      refine g_iload_n (dk D_X11_as 20 rfl) rfl ?_
      refine g_gd (fun hi6 => ?_)
      refine g_iaload ht5 hi6 (dk D_X11_as 21 rfl) ?_
      refine g_iload_n (dk D_X11_as 22 rfl) rfl ?_
      refine g_icmp_lt (tgt := 51) (dk D_X11_as 23 rfl) rfl (fun hc7 => ?_) (fun hc7 => ?_)
      · refine g_aload_n (dk D_X11_as 28 rfl) rfl ?_
        refine g_iconst (v := (2 : Int32)) (dk D_X11_as 29 rfl) rfl ?_
        refine g_bind (fun q8 hq9 => ?_)
        refine h_callVt (st := []) (c_X11_failed (E := E) fu S0 I0 a0 (2 : Int32) q8 hq9 (ht0)) cl_RX11_149 ht0 rfl rfl (by decide) (Nat.le_of_ble_eq_true rfl) (dk D_X11_as 30 rfl) ?_
        exact g_ireturn rfl rfl Sx.rf rfl (by decide) (by decide) (dk D_X11_as 31 rfl)
      · refine g_aload_n (dk D_X11_as 24 rfl) rfl ?_
        refine g_iconst (v := (1 : Int32)) (dk D_X11_as 25 rfl) rfl ?_
        refine g_bind (fun q11 hq12 => ?_)
        refine h_callVt (st := []) (c_X11_refused (E := E) fu S0 I0 a0 (1 : Int32) q11 hq12 (ht0)) cl_RX11_145 ht0 rfl rfl (by decide) (Nat.le_of_ble_eq_true rfl) (dk D_X11_as 26 rfl) ?_
        refine g_goto (tgt := 56) (dk D_X11_as 27 rfl) rfl ?_
        exact g_ireturn rfl rfl Sx.rf rfl (by decide) (by decide) (dk D_X11_as 31 rfl)
    · refine g_aload_n (dk D_X11_as 14 rfl) rfl ?_
      refine g_bipush (v := ((-2) : Int32)) (dk D_X11_as 15 rfl) rfl ?_
      refine g_bind (fun q14 hq15 => ?_)
      refine h_callVt (st := []) (c_X11_refused (E := E) fu S0 I0 a0 ((-2) : Int32) q14 hq15 (ht0)) cl_RX11_145 ht0 rfl rfl (by decide) (Nat.le_of_ble_eq_true rfl) (dk D_X11_as 16 rfl) ?_
      exact g_ireturn rfl rfl Sx.rf rfl (by decide) (by decide) (dk D_X11_as 17 rfl)
  · refine g_aload_n (dk D_X11_as 4 rfl) rfl ?_
    refine g_iconst (v := ((-1) : Int32)) (dk D_X11_as 5 rfl) rfl ?_
    refine g_bind (fun q17 hq18 => ?_)
    refine h_callVt (st := []) (c_X11_refused (E := E) fu S0 I0 a0 ((-1) : Int32) q17 hq18 (ht0)) cl_RX11_145 ht0 rfl rfl (by decide) (Nat.le_of_ble_eq_true rfl) (dk D_X11_as 6 rfl) ?_
    exact g_ireturn rfl rfl Sx.rf rfl (by decide) (by decide) (dk D_X11_as 7 rfl)
theorem c_X11_as {E : EV} (fu : Nat) (S0 : Sk) (I0 : II) (a0 : Nat) (x1 : Int32) (x2 : Int32) (r : Int32 × II) (h : f_X11_as fu S0 I0 a0 x1 x2 = some r) (ht0 : tyO S0 11 a0) : MX E yX11_as i_X11_as S0 I0 [vA (a0 + 1), vI x1, vI x2] (po_X11_as S0 I0 r) :=
  MX.of h (by decide) rfl rfl (Nat.le_of_ble_eq_true rfl) (gg_X11_as fu S0 I0 a0 x1 x2 ht0)
def tb_X11_trace : List (Nat × Instr × Nat) := [(0, .aload_n 0, 1), (1, .getfield 386, 3), (4, .ireturn, 1)]
def i_X11_trace : MI := (RX11, cX11_trace, 1, (some .int), "trace", { frames := 0, cells := 0, slots := 0, locals := 0 })
theorem D_X11_trace : tbOK (i_X11_trace).2.1 tb_X11_trace := by show ∀ q ∈ tb_X11_trace, decode cX11_trace q.1 = .ok (q.2.1, q.2.2); decide +kernel
def po_X11_trace (S : Sk) (I : II) (r : Int32) : Option LV × Sk × II := (some (vI r), S, I)
def f_X11_trace (fu : Nat) (S : Sk) (I : II) (a0 : Nat) : Option (Int32) :=
  some ((I a0 56))
set_option maxRecDepth 100000 in
set_option maxHeartbeats 4000000 in
theorem gg_X11_trace {E : EV} (fu : Nat) (S0 : Sk) (I0 : II) (a0 : Nat) (ht0 : tyO S0 11 a0) : GG E i_X11_trace (enM E i_X11_trace S0 (po_X11_trace S0 I0)) S0 I0 (0, 0) 0 [(0, vA (a0 + 1))] [] (f_X11_trace fu S0 I0 a0) := by
  unfold f_X11_trace
  refine g_aload_n (dk D_X11_trace 0 rfl) rfl ?_
  refine g_getIt fl_RX11_386 (by decide) ht0 (dk D_X11_trace 1 rfl) ?_
  exact g_ireturn rfl rfl Sx.rf rfl (by decide) (by decide) (dk D_X11_trace 2 rfl)
def t_X11_trace (I : II) (a0 : Nat) : Int32 :=
  (I a0 56)
theorem ft_X11_trace (fu : Nat) (S : Sk) (I0 : II) (a0 : Nat) : f_X11_trace fu S I0 a0 = some (t_X11_trace I0 a0) := by
  simp only [f_X11_trace, t_X11_trace, lt, apply_ite some]
theorem c_X11_trace {E : EV} (S0 : Sk) (I0 : II) (a0 : Nat) (ht0 : tyO S0 11 a0) : MX E yX11_trace i_X11_trace S0 I0 [vA (a0 + 1)] (po_X11_trace S0 I0 (t_X11_trace I0 a0)) :=
  MX.of (ft_X11_trace 0 S0 I0 a0) (by decide) rfl rfl (Nat.le_of_ble_eq_true rfl) (gg_X11_trace 0 S0 I0 a0 ht0)
def tb_X11_fault : List (Nat × Instr × Nat) := [(0, .aload_n 0, 1), (1, .getfield 136, 3), (4, .ireturn, 1)]
def i_X11_fault : MI := (RX11, cX11_fault, 1, (some .int), "fault", { frames := 0, cells := 0, slots := 0, locals := 0 })
theorem D_X11_fault : tbOK (i_X11_fault).2.1 tb_X11_fault := by show ∀ q ∈ tb_X11_fault, decode cX11_fault q.1 = .ok (q.2.1, q.2.2); decide +kernel
def po_X11_fault (S : Sk) (I : II) (r : Int32) : Option LV × Sk × II := (some (vI r), S, I)
def f_X11_fault (fu : Nat) (S : Sk) (I : II) (a0 : Nat) : Option (Int32) :=
  some ((I a0 0))
set_option maxRecDepth 100000 in
set_option maxHeartbeats 4000000 in
theorem gg_X11_fault {E : EV} (fu : Nat) (S0 : Sk) (I0 : II) (a0 : Nat) (ht0 : tyO S0 11 a0) : GG E i_X11_fault (enM E i_X11_fault S0 (po_X11_fault S0 I0)) S0 I0 (0, 0) 0 [(0, vA (a0 + 1))] [] (f_X11_fault fu S0 I0 a0) := by
  unfold f_X11_fault
  refine g_aload_n (dk D_X11_fault 0 rfl) rfl ?_
  refine g_getIt fl_RX11_136 (by decide) ht0 (dk D_X11_fault 1 rfl) ?_
  exact g_ireturn rfl rfl Sx.rf rfl (by decide) (by decide) (dk D_X11_fault 2 rfl)
def t_X11_fault (I : II) (a0 : Nat) : Int32 :=
  (I a0 0)
theorem ft_X11_fault (fu : Nat) (S : Sk) (I0 : II) (a0 : Nat) : f_X11_fault fu S I0 a0 = some (t_X11_fault I0 a0) := by
  simp only [f_X11_fault, t_X11_fault, lt, apply_ite some]
theorem c_X11_fault {E : EV} (S0 : Sk) (I0 : II) (a0 : Nat) (ht0 : tyO S0 11 a0) : MX E yX11_fault i_X11_fault S0 I0 [vA (a0 + 1)] (po_X11_fault S0 I0 (t_X11_fault I0 a0)) :=
  MX.of (ft_X11_fault 0 S0 I0 a0) (by decide) rfl rfl (Nat.le_of_ble_eq_true rfl) (gg_X11_fault 0 S0 I0 a0 ht0)
def tb_X11_many : List (Nat × Instr × Nat) := [(0, .iload_n 1, 1), (1, .tableswitch 87 0 7 #[47, 52, 57, 62, 67, 72, 77, 82], 47), (48, .aload_n 0, 1), (49, .getfield 156, 3), (52, .ireturn, 1), (53, .aload_n 0, 1), (54, .getfield 172, 3), (57, .ireturn, 1), (58, .aload_n 0, 1), (59, .getfield 237, 3), (62, .ireturn, 1), (63, .aload_n 0, 1), (64, .getfield 249, 3), (67, .ireturn, 1), (68, .aload_n 0, 1), (69, .getfield 297, 3), (72, .ireturn, 1), (73, .aload_n 0, 1), (74, .getfield 308, 3), (77, .ireturn, 1), (78, .aload_n 0, 1), (79, .getfield 354, 3), (82, .ireturn, 1), (83, .aload_n 0, 1), (84, .invokevirtual 360, 3), (87, .ireturn, 1), (88, .bipush (-2), 2), (90, .ireturn, 1)]
def i_X11_many : MI := (RX11, cX11_many, 2, (some .int), "many", { frames := 1, cells := 0, slots := 0, locals := 22 })
theorem D_X11_many : tbOK (i_X11_many).2.1 tb_X11_many := by show ∀ q ∈ tb_X11_many, decode cX11_many q.1 = .ok (q.2.1, q.2.2); decide +kernel
def po_X11_many (S : Sk) (I : II) (r : Int32) : Option LV × Sk × II := (some (vI r), S, I)
def f_X11_many (fu : Nat) (S : Sk) (I : II) (a0 : Nat) (x1 : Int32) : Option (Int32) :=
  if x1 = (0 : Int32) then some ((I a0 1)) else (if x1 = (1 : Int32) then some ((I a0 4)) else (if x1 = (2 : Int32) then some ((I a0 15)) else (if x1 = (3 : Int32) then some ((I a0 22)) else (if x1 = (4 : Int32) then some ((I a0 34)) else (if x1 = (5 : Int32) then some ((I a0 36)) else (if x1 = (6 : Int32) then some ((I a0 45)) else (if x1 = (7 : Int32) then (f_X11_boardMany fu S I a0).bind fun q9 => (some (q9)) else some (((-2) : Int32)))))))))
set_option maxRecDepth 100000 in
set_option maxHeartbeats 4000000 in
theorem gg_X11_many {E : EV} (fu : Nat) (S0 : Sk) (I0 : II) (a0 : Nat) (x1 : Int32) (ht0 : tyO S0 11 a0) : GG E i_X11_many (enM E i_X11_many S0 (po_X11_many S0 I0)) S0 I0 (0, 0) 0 [(0, vA (a0 + 1)), (1, vI x1)] [] (f_X11_many fu S0 I0 a0 x1) := by
  unfold f_X11_many
  refine g_iload_n (dk D_X11_many 0 rfl) rfl ?_
  refine g_ite (fun hc1 => ?_) (fun hc1 => ?_)
  · refine g_tabIn (tgt := 48) (off := 47) (dk D_X11_many 1 rfl) (by rw [hc1] <;> decide +kernel) (by rw [hc1] <;> decide +kernel) (by rw [hc1] <;> decide +kernel) rfl ?_
    refine g_aload_n (dk D_X11_many 2 rfl) rfl ?_
    refine g_getIt fl_RX11_156 (by decide) ht0 (dk D_X11_many 3 rfl) ?_
    exact g_ireturn rfl rfl Sx.rf rfl (by decide) (by decide) (dk D_X11_many 4 rfl)
  refine g_ite (fun hc2 => ?_) (fun hc2 => ?_)
  · refine g_tabIn (tgt := 53) (off := 52) (dk D_X11_many 1 rfl) (by rw [hc2] <;> decide +kernel) (by rw [hc2] <;> decide +kernel) (by rw [hc2] <;> decide +kernel) rfl ?_
    refine g_aload_n (dk D_X11_many 5 rfl) rfl ?_
    refine g_getIt fl_RX11_172 (by decide) ht0 (dk D_X11_many 6 rfl) ?_
    exact g_ireturn rfl rfl Sx.rf rfl (by decide) (by decide) (dk D_X11_many 7 rfl)
  refine g_ite (fun hc3 => ?_) (fun hc3 => ?_)
  · refine g_tabIn (tgt := 58) (off := 57) (dk D_X11_many 1 rfl) (by rw [hc3] <;> decide +kernel) (by rw [hc3] <;> decide +kernel) (by rw [hc3] <;> decide +kernel) rfl ?_
    refine g_aload_n (dk D_X11_many 8 rfl) rfl ?_
    refine g_getIt fl_RX11_237 (by decide) ht0 (dk D_X11_many 9 rfl) ?_
    exact g_ireturn rfl rfl Sx.rf rfl (by decide) (by decide) (dk D_X11_many 10 rfl)
  refine g_ite (fun hc4 => ?_) (fun hc4 => ?_)
  · refine g_tabIn (tgt := 63) (off := 62) (dk D_X11_many 1 rfl) (by rw [hc4] <;> decide +kernel) (by rw [hc4] <;> decide +kernel) (by rw [hc4] <;> decide +kernel) rfl ?_
    refine g_aload_n (dk D_X11_many 11 rfl) rfl ?_
    refine g_getIt fl_RX11_249 (by decide) ht0 (dk D_X11_many 12 rfl) ?_
    exact g_ireturn rfl rfl Sx.rf rfl (by decide) (by decide) (dk D_X11_many 13 rfl)
  refine g_ite (fun hc5 => ?_) (fun hc5 => ?_)
  · refine g_tabIn (tgt := 68) (off := 67) (dk D_X11_many 1 rfl) (by rw [hc5] <;> decide +kernel) (by rw [hc5] <;> decide +kernel) (by rw [hc5] <;> decide +kernel) rfl ?_
    refine g_aload_n (dk D_X11_many 14 rfl) rfl ?_
    refine g_getIt fl_RX11_297 (by decide) ht0 (dk D_X11_many 15 rfl) ?_
    exact g_ireturn rfl rfl Sx.rf rfl (by decide) (by decide) (dk D_X11_many 16 rfl)
  refine g_ite (fun hc6 => ?_) (fun hc6 => ?_)
  · refine g_tabIn (tgt := 73) (off := 72) (dk D_X11_many 1 rfl) (by rw [hc6] <;> decide +kernel) (by rw [hc6] <;> decide +kernel) (by rw [hc6] <;> decide +kernel) rfl ?_
    refine g_aload_n (dk D_X11_many 17 rfl) rfl ?_
    refine g_getIt fl_RX11_308 (by decide) ht0 (dk D_X11_many 18 rfl) ?_
    exact g_ireturn rfl rfl Sx.rf rfl (by decide) (by decide) (dk D_X11_many 19 rfl)
  refine g_ite (fun hc7 => ?_) (fun hc7 => ?_)
  · refine g_tabIn (tgt := 78) (off := 77) (dk D_X11_many 1 rfl) (by rw [hc7] <;> decide +kernel) (by rw [hc7] <;> decide +kernel) (by rw [hc7] <;> decide +kernel) rfl ?_
    refine g_aload_n (dk D_X11_many 20 rfl) rfl ?_
    refine g_getIt fl_RX11_354 (by decide) ht0 (dk D_X11_many 21 rfl) ?_
    exact g_ireturn rfl rfl Sx.rf rfl (by decide) (by decide) (dk D_X11_many 22 rfl)
  refine g_ite (fun hc8 => ?_) (fun hc8 => ?_)
  · refine g_tabIn (tgt := 83) (off := 82) (dk D_X11_many 1 rfl) (by rw [hc8] <;> decide +kernel) (by rw [hc8] <;> decide +kernel) (by rw [hc8] <;> decide +kernel) rfl ?_
    refine g_aload_n (dk D_X11_many 23 rfl) rfl ?_
    refine g_bind (fun q9 hq10 => ?_)
    refine h_callVt (st := []) (c_X11_boardMany (E := E) fu S0 I0 a0 q9 hq10 (ht0)) cl_RX11_360 ht0 rfl rfl (by decide) (Nat.le_of_ble_eq_true rfl) (dk D_X11_many 24 rfl) ?_
    exact g_ireturn rfl rfl Sx.rf rfl (by decide) (by decide) (dk D_X11_many 25 rfl)
  refine g_tabOut (tgt := 88) (dk D_X11_many 1 rfl) (tabOut (n := 8) (by decide) (fun k hk => (match k, hk with | 0, _ => hc1 | 1, _ => hc2 | 2, _ => hc3 | 3, _ => hc4 | 4, _ => hc5 | 5, _ => hc6 | 6, _ => hc7 | 7, _ => hc8 | k + 8, hk => absurd hk (by omega)))) rfl ?_
  refine g_bipush (v := ((-2) : Int32)) (dk D_X11_many 26 rfl) rfl ?_
  exact g_ireturn rfl rfl Sx.rf rfl (by decide) (by decide) (dk D_X11_many 27 rfl)
theorem c_X11_many {E : EV} (fu : Nat) (S0 : Sk) (I0 : II) (a0 : Nat) (x1 : Int32) (r : Int32) (h : f_X11_many fu S0 I0 a0 x1 = some r) (ht0 : tyO S0 11 a0) : MX E yX11_many i_X11_many S0 I0 [vA (a0 + 1), vI x1] (po_X11_many S0 I0 r) :=
  MX.of h (by decide) rfl rfl (Nat.le_of_ble_eq_true rfl) (gg_X11_many fu S0 I0 a0 x1 ht0)
theorem cl_RL_112 : CV0 RL 112 yX11_know i_X11_know 3 11 := ⟨⟨(gm 1417 (by decide +kernel) (by decide +kernel)), (gm 72 (by decide +kernel) (by decide +kernel)), ((gm 1420 (by decide +kernel) (by decide +kernel))), by decide +kernel, by decide +kernel, by decide +kernel⟩, ⟨(gm 1418 (by decide +kernel) (by decide +kernel)), (gm 1419 (by decide +kernel) (by decide +kernel))⟩, rfl, by decide⟩
theorem cl_RL_108 : CV0 RL 108 yX10_know i_X10_know 3 10 := ⟨⟨(gm 834 (by decide +kernel) (by decide +kernel)), (gm 66 (by decide +kernel) (by decide +kernel)), ((gm 837 (by decide +kernel) (by decide +kernel))), by decide +kernel, by decide +kernel, by decide +kernel⟩, ⟨(gm 835 (by decide +kernel) (by decide +kernel)), (gm 836 (by decide +kernel) (by decide +kernel))⟩, rfl, by decide⟩
theorem cl_RL_121 : CV0 RL 121 yX11_board i_X11_board 2 11 := ⟨⟨(gm 1425 (by decide +kernel) (by decide +kernel)), (gm 72 (by decide +kernel) (by decide +kernel)), ((gm 1428 (by decide +kernel) (by decide +kernel))), by decide +kernel, by decide +kernel, by decide +kernel⟩, ⟨(gm 1426 (by decide +kernel) (by decide +kernel)), (gm 1427 (by decide +kernel) (by decide +kernel))⟩, rfl, by decide⟩
theorem cl_RL_117 : CV0 RL 117 yX10_board i_X10_board 2 10 := ⟨⟨(gm 842 (by decide +kernel) (by decide +kernel)), (gm 66 (by decide +kernel) (by decide +kernel)), ((gm 845 (by decide +kernel) (by decide +kernel))), by decide +kernel, by decide +kernel, by decide +kernel⟩, ⟨(gm 843 (by decide +kernel) (by decide +kernel)), (gm 844 (by decide +kernel) (by decide +kernel))⟩, rfl, by decide⟩
theorem cl_RL_13 : CV0 RL 13 yX10_stop i_X10_stop 2 10 := ⟨⟨(gm 321 (by decide +kernel) (by decide +kernel)), (gm 66 (by decide +kernel) (by decide +kernel)), ((gm 324 (by decide +kernel) (by decide +kernel))), by decide +kernel, by decide +kernel, by decide +kernel⟩, ⟨(gm 322 (by decide +kernel) (by decide +kernel)), (gm 323 (by decide +kernel) (by decide +kernel))⟩, rfl, by decide⟩
theorem cl_RL_17 : CV0 RL 17 yX11_stop i_X11_stop 2 11 := ⟨⟨(gm 1150 (by decide +kernel) (by decide +kernel)), (gm 72 (by decide +kernel) (by decide +kernel)), ((gm 1153 (by decide +kernel) (by decide +kernel))), by decide +kernel, by decide +kernel, by decide +kernel⟩, ⟨(gm 1151 (by decide +kernel) (by decide +kernel)), (gm 1152 (by decide +kernel) (by decide +kernel))⟩, rfl, by decide⟩
theorem cl_RL_18 : CV0 RL 18 yX10_line i_X10_line 8 10 := ⟨⟨(gm 342 (by decide +kernel) (by decide +kernel)), (gm 66 (by decide +kernel) (by decide +kernel)), ((gm 345 (by decide +kernel) (by decide +kernel))), by decide +kernel, by decide +kernel, by decide +kernel⟩, ⟨(gm 343 (by decide +kernel) (by decide +kernel)), (gm 344 (by decide +kernel) (by decide +kernel))⟩, rfl, by decide⟩
theorem cl_RL_22 : CV0 RL 22 yX11_line i_X11_line 8 11 := ⟨⟨(gm 1173 (by decide +kernel) (by decide +kernel)), (gm 72 (by decide +kernel) (by decide +kernel)), ((gm 1176 (by decide +kernel) (by decide +kernel))), by decide +kernel, by decide +kernel, by decide +kernel⟩, ⟨(gm 1174 (by decide +kernel) (by decide +kernel)), (gm 1175 (by decide +kernel) (by decide +kernel))⟩, rfl, by decide⟩
theorem cl_RL_23 : CV0 RL 23 yX10_days i_X10_days 3 10 := ⟨⟨(gm 474 (by decide +kernel) (by decide +kernel)), (gm 66 (by decide +kernel) (by decide +kernel)), ((gm 477 (by decide +kernel) (by decide +kernel))), by decide +kernel, by decide +kernel, by decide +kernel⟩, ⟨(gm 475 (by decide +kernel) (by decide +kernel)), (gm 476 (by decide +kernel) (by decide +kernel))⟩, rfl, by decide⟩
theorem cl_RL_27 : CV0 RL 27 yX11_days i_X11_days 3 11 := ⟨⟨(gm 1208 (by decide +kernel) (by decide +kernel)), (gm 72 (by decide +kernel) (by decide +kernel)), ((gm 1211 (by decide +kernel) (by decide +kernel))), by decide +kernel, by decide +kernel, by decide +kernel⟩, ⟨(gm 1209 (by decide +kernel) (by decide +kernel)), (gm 1210 (by decide +kernel) (by decide +kernel))⟩, rfl, by decide⟩
theorem cl_RL_28 : CV0 RL 28 yX10_ofLine i_X10_ofLine 2 10 := ⟨⟨(gm 485 (by decide +kernel) (by decide +kernel)), (gm 66 (by decide +kernel) (by decide +kernel)), ((gm 488 (by decide +kernel) (by decide +kernel))), by decide +kernel, by decide +kernel, by decide +kernel⟩, ⟨(gm 486 (by decide +kernel) (by decide +kernel)), (gm 487 (by decide +kernel) (by decide +kernel))⟩, rfl, by decide⟩
theorem cl_RL_31 : CV0 RL 31 yX11_ofLine i_X11_ofLine 2 11 := ⟨⟨(gm 1220 (by decide +kernel) (by decide +kernel)), (gm 72 (by decide +kernel) (by decide +kernel)), ((gm 1223 (by decide +kernel) (by decide +kernel))), by decide +kernel, by decide +kernel, by decide +kernel⟩, ⟨(gm 1221 (by decide +kernel) (by decide +kernel)), (gm 1222 (by decide +kernel) (by decide +kernel))⟩, rfl, by decide⟩
theorem cl_RL_32 : CV0 RL 32 yX10_runs i_X10_runs 2 10 := ⟨⟨(gm 501 (by decide +kernel) (by decide +kernel)), (gm 66 (by decide +kernel) (by decide +kernel)), ((gm 504 (by decide +kernel) (by decide +kernel))), by decide +kernel, by decide +kernel, by decide +kernel⟩, ⟨(gm 502 (by decide +kernel) (by decide +kernel)), (gm 503 (by decide +kernel) (by decide +kernel))⟩, rfl, by decide⟩
theorem cl_RL_35 : CV0 RL 35 yX11_runs i_X11_runs 2 11 := ⟨⟨(gm 1234 (by decide +kernel) (by decide +kernel)), (gm 72 (by decide +kernel) (by decide +kernel)), ((gm 1237 (by decide +kernel) (by decide +kernel))), by decide +kernel, by decide +kernel, by decide +kernel⟩, ⟨(gm 1235 (by decide +kernel) (by decide +kernel)), (gm 1236 (by decide +kernel) (by decide +kernel))⟩, rfl, by decide⟩
theorem cl_RL_36 : CV0 RL 36 yX10_minute i_X10_minute 3 10 := ⟨⟨(gm 509 (by decide +kernel) (by decide +kernel)), (gm 66 (by decide +kernel) (by decide +kernel)), ((gm 512 (by decide +kernel) (by decide +kernel))), by decide +kernel, by decide +kernel, by decide +kernel⟩, ⟨(gm 510 (by decide +kernel) (by decide +kernel)), (gm 511 (by decide +kernel) (by decide +kernel))⟩, rfl, by decide⟩
theorem cl_RL_39 : CV0 RL 39 yX11_minute i_X11_minute 3 11 := ⟨⟨(gm 1242 (by decide +kernel) (by decide +kernel)), (gm 72 (by decide +kernel) (by decide +kernel)), ((gm 1245 (by decide +kernel) (by decide +kernel))), by decide +kernel, by decide +kernel, by decide +kernel⟩, ⟨(gm 1243 (by decide +kernel) (by decide +kernel)), (gm 1244 (by decide +kernel) (by decide +kernel))⟩, rfl, by decide⟩
theorem cl_RL_40 : CV0 RL 40 yX10_far i_X10_far 2 10 := ⟨⟨(gm 519 (by decide +kernel) (by decide +kernel)), (gm 66 (by decide +kernel) (by decide +kernel)), ((gm 522 (by decide +kernel) (by decide +kernel))), by decide +kernel, by decide +kernel, by decide +kernel⟩, ⟨(gm 520 (by decide +kernel) (by decide +kernel)), (gm 521 (by decide +kernel) (by decide +kernel))⟩, rfl, by decide⟩
theorem cl_RL_43 : CV0 RL 43 yX11_far i_X11_far 2 11 := ⟨⟨(gm 1158 (by decide +kernel) (by decide +kernel)), (gm 72 (by decide +kernel) (by decide +kernel)), ((gm 1161 (by decide +kernel) (by decide +kernel))), by decide +kernel, by decide +kernel, by decide +kernel⟩, ⟨(gm 1159 (by decide +kernel) (by decide +kernel)), (gm 1160 (by decide +kernel) (by decide +kernel))⟩, rfl, by decide⟩
theorem cl_RL_44 : CV0 RL 44 yX10_text i_X10_text 4 10 := ⟨⟨(gm 528 (by decide +kernel) (by decide +kernel)), (gm 66 (by decide +kernel) (by decide +kernel)), ((gm 531 (by decide +kernel) (by decide +kernel))), by decide +kernel, by decide +kernel, by decide +kernel⟩, ⟨(gm 529 (by decide +kernel) (by decide +kernel)), (gm 530 (by decide +kernel) (by decide +kernel))⟩, rfl, by decide⟩
theorem cl_RL_48 : CV0 RL 48 yX11_text i_X11_text 4 11 := ⟨⟨(gm 1252 (by decide +kernel) (by decide +kernel)), (gm 72 (by decide +kernel) (by decide +kernel)), ((gm 1255 (by decide +kernel) (by decide +kernel))), by decide +kernel, by decide +kernel, by decide +kernel⟩, ⟨(gm 1253 (by decide +kernel) (by decide +kernel)), (gm 1254 (by decide +kernel) (by decide +kernel))⟩, rfl, by decide⟩
theorem cl_RL_49 : CV0 RL 49 yX10_owed i_X10_owed 2 10 := ⟨⟨(gm 558 (by decide +kernel) (by decide +kernel)), (gm 66 (by decide +kernel) (by decide +kernel)), ((gm 561 (by decide +kernel) (by decide +kernel))), by decide +kernel, by decide +kernel, by decide +kernel⟩, ⟨(gm 559 (by decide +kernel) (by decide +kernel)), (gm 560 (by decide +kernel) (by decide +kernel))⟩, rfl, by decide⟩
theorem cl_RL_52 : CV0 RL 52 yX11_owed i_X11_owed 2 11 := ⟨⟨(gm 1266 (by decide +kernel) (by decide +kernel)), (gm 72 (by decide +kernel) (by decide +kernel)), ((gm 1269 (by decide +kernel) (by decide +kernel))), by decide +kernel, by decide +kernel, by decide +kernel⟩, ⟨(gm 1267 (by decide +kernel) (by decide +kernel)), (gm 1268 (by decide +kernel) (by decide +kernel))⟩, rfl, by decide⟩
theorem cl_RL_53 : CV0 RL 53 yX10_why i_X10_why 2 10 := ⟨⟨(gm 579 (by decide +kernel) (by decide +kernel)), (gm 66 (by decide +kernel) (by decide +kernel)), ((gm 582 (by decide +kernel) (by decide +kernel))), by decide +kernel, by decide +kernel, by decide +kernel⟩, ⟨(gm 580 (by decide +kernel) (by decide +kernel)), (gm 581 (by decide +kernel) (by decide +kernel))⟩, rfl, by decide⟩
theorem cl_RL_56 : CV0 RL 56 yX11_why i_X11_why 2 11 := ⟨⟨(gm 1278 (by decide +kernel) (by decide +kernel)), (gm 72 (by decide +kernel) (by decide +kernel)), ((gm 1281 (by decide +kernel) (by decide +kernel))), by decide +kernel, by decide +kernel, by decide +kernel⟩, ⟨(gm 1279 (by decide +kernel) (by decide +kernel)), (gm 1280 (by decide +kernel) (by decide +kernel))⟩, rfl, by decide⟩
theorem cl_RL_57 : CV0 RL 57 yX10_served i_X10_served 2 10 := ⟨⟨(gm 583 (by decide +kernel) (by decide +kernel)), (gm 66 (by decide +kernel) (by decide +kernel)), ((gm 586 (by decide +kernel) (by decide +kernel))), by decide +kernel, by decide +kernel, by decide +kernel⟩, ⟨(gm 584 (by decide +kernel) (by decide +kernel)), (gm 585 (by decide +kernel) (by decide +kernel))⟩, rfl, by decide⟩
theorem cl_RL_60 : CV0 RL 60 yX11_served i_X11_served 2 11 := ⟨⟨(gm 1282 (by decide +kernel) (by decide +kernel)), (gm 72 (by decide +kernel) (by decide +kernel)), ((gm 1285 (by decide +kernel) (by decide +kernel))), by decide +kernel, by decide +kernel, by decide +kernel⟩, ⟨(gm 1283 (by decide +kernel) (by decide +kernel)), (gm 1284 (by decide +kernel) (by decide +kernel))⟩, rfl, by decide⟩
theorem cl_RL_61 : CV0 RL 61 yX10_breach i_X10_breach 1 10 := ⟨⟨(gm 601 (by decide +kernel) (by decide +kernel)), (gm 66 (by decide +kernel) (by decide +kernel)), ((gm 604 (by decide +kernel) (by decide +kernel))), by decide +kernel, by decide +kernel, by decide +kernel⟩, ⟨(gm 602 (by decide +kernel) (by decide +kernel)), (gm 603 (by decide +kernel) (by decide +kernel))⟩, rfl, by decide⟩
theorem cl_RL_65 : CV0 RL 65 yX11_breach i_X11_breach 1 11 := ⟨⟨(gm 1290 (by decide +kernel) (by decide +kernel)), (gm 72 (by decide +kernel) (by decide +kernel)), ((gm 1293 (by decide +kernel) (by decide +kernel))), by decide +kernel, by decide +kernel, by decide +kernel⟩, ⟨(gm 1291 (by decide +kernel) (by decide +kernel)), (gm 1292 (by decide +kernel) (by decide +kernel))⟩, rfl, by decide⟩
theorem cl_RL_66 : CV0 RL 66 yX10_trip i_X10_trip 5 10 := ⟨⟨(gm 605 (by decide +kernel) (by decide +kernel)), (gm 66 (by decide +kernel) (by decide +kernel)), ((gm 608 (by decide +kernel) (by decide +kernel))), by decide +kernel, by decide +kernel, by decide +kernel⟩, ⟨(gm 606 (by decide +kernel) (by decide +kernel)), (gm 607 (by decide +kernel) (by decide +kernel))⟩, rfl, by decide⟩
theorem cl_RL_70 : CV0 RL 70 yX11_trip i_X11_trip 5 11 := ⟨⟨(gm 1294 (by decide +kernel) (by decide +kernel)), (gm 72 (by decide +kernel) (by decide +kernel)), ((gm 1297 (by decide +kernel) (by decide +kernel))), by decide +kernel, by decide +kernel, by decide +kernel⟩, ⟨(gm 1295 (by decide +kernel) (by decide +kernel)), (gm 1296 (by decide +kernel) (by decide +kernel))⟩, rfl, by decide⟩
theorem cl_RL_71 : CV0 RL 71 yX10_way i_X10_way 3 10 := ⟨⟨(gm 635 (by decide +kernel) (by decide +kernel)), (gm 66 (by decide +kernel) (by decide +kernel)), ((gm 638 (by decide +kernel) (by decide +kernel))), by decide +kernel, by decide +kernel, by decide +kernel⟩, ⟨(gm 636 (by decide +kernel) (by decide +kernel)), (gm 637 (by decide +kernel) (by decide +kernel))⟩, rfl, by decide⟩
theorem cl_RL_74 : CV0 RL 74 yX11_way i_X11_way 3 11 := ⟨⟨(gm 1298 (by decide +kernel) (by decide +kernel)), (gm 72 (by decide +kernel) (by decide +kernel)), ((gm 1301 (by decide +kernel) (by decide +kernel))), by decide +kernel, by decide +kernel, by decide +kernel⟩, ⟨(gm 1299 (by decide +kernel) (by decide +kernel)), (gm 1300 (by decide +kernel) (by decide +kernel))⟩, rfl, by decide⟩
theorem cl_RL_75 : CV0 RL 75 yX10_lose i_X10_lose 3 10 := ⟨⟨(gm 694 (by decide +kernel) (by decide +kernel)), (gm 66 (by decide +kernel) (by decide +kernel)), ((gm 697 (by decide +kernel) (by decide +kernel))), by decide +kernel, by decide +kernel, by decide +kernel⟩, ⟨(gm 695 (by decide +kernel) (by decide +kernel)), (gm 696 (by decide +kernel) (by decide +kernel))⟩, rfl, by decide⟩
theorem cl_RL_78 : CV0 RL 78 yX11_lose i_X11_lose 3 11 := ⟨⟨(gm 1331 (by decide +kernel) (by decide +kernel)), (gm 72 (by decide +kernel) (by decide +kernel)), ((gm 1334 (by decide +kernel) (by decide +kernel))), by decide +kernel, by decide +kernel, by decide +kernel⟩, ⟨(gm 1332 (by decide +kernel) (by decide +kernel)), (gm 1333 (by decide +kernel) (by decide +kernel))⟩, rfl, by decide⟩
theorem cl_RL_79 : CV0 RL 79 yX10_who i_X10_who 3 10 := ⟨⟨(gm 702 (by decide +kernel) (by decide +kernel)), (gm 66 (by decide +kernel) (by decide +kernel)), ((gm 705 (by decide +kernel) (by decide +kernel))), by decide +kernel, by decide +kernel, by decide +kernel⟩, ⟨(gm 703 (by decide +kernel) (by decide +kernel)), (gm 704 (by decide +kernel) (by decide +kernel))⟩, rfl, by decide⟩
theorem cl_RL_82 : CV0 RL 82 yX11_who i_X11_who 3 11 := ⟨⟨(gm 1339 (by decide +kernel) (by decide +kernel)), (gm 72 (by decide +kernel) (by decide +kernel)), ((gm 1342 (by decide +kernel) (by decide +kernel))), by decide +kernel, by decide +kernel, by decide +kernel⟩, ⟨(gm 1340 (by decide +kernel) (by decide +kernel)), (gm 1341 (by decide +kernel) (by decide +kernel))⟩, rfl, by decide⟩
theorem cl_RL_83 : CV0 RL 83 yX10_offer i_X10_offer 1 10 := ⟨⟨(gm 707 (by decide +kernel) (by decide +kernel)), (gm 66 (by decide +kernel) (by decide +kernel)), ((gm 710 (by decide +kernel) (by decide +kernel))), by decide +kernel, by decide +kernel, by decide +kernel⟩, ⟨(gm 708 (by decide +kernel) (by decide +kernel)), (gm 709 (by decide +kernel) (by decide +kernel))⟩, rfl, by decide⟩
theorem cl_RL_86 : CV0 RL 86 yX11_offer i_X11_offer 1 11 := ⟨⟨(gm 1344 (by decide +kernel) (by decide +kernel)), (gm 72 (by decide +kernel) (by decide +kernel)), ((gm 1347 (by decide +kernel) (by decide +kernel))), by decide +kernel, by decide +kernel, by decide +kernel⟩, ⟨(gm 1345 (by decide +kernel) (by decide +kernel)), (gm 1346 (by decide +kernel) (by decide +kernel))⟩, rfl, by decide⟩
theorem cl_RL_87 : CV0 RL 87 yX10_best i_X10_best 3 10 := ⟨⟨(gm 716 (by decide +kernel) (by decide +kernel)), (gm 66 (by decide +kernel) (by decide +kernel)), ((gm 719 (by decide +kernel) (by decide +kernel))), by decide +kernel, by decide +kernel, by decide +kernel⟩, ⟨(gm 717 (by decide +kernel) (by decide +kernel)), (gm 718 (by decide +kernel) (by decide +kernel))⟩, rfl, by decide⟩
theorem cl_RL_90 : CV0 RL 90 yX11_best i_X11_best 3 11 := ⟨⟨(gm 1348 (by decide +kernel) (by decide +kernel)), (gm 72 (by decide +kernel) (by decide +kernel)), ((gm 1351 (by decide +kernel) (by decide +kernel))), by decide +kernel, by decide +kernel, by decide +kernel⟩, ⟨(gm 1349 (by decide +kernel) (by decide +kernel)), (gm 1350 (by decide +kernel) (by decide +kernel))⟩, rfl, by decide⟩
theorem cl_RL_91 : CV0 RL 91 yX10_depot i_X10_depot 3 10 := ⟨⟨(gm 753 (by decide +kernel) (by decide +kernel)), (gm 66 (by decide +kernel) (by decide +kernel)), ((gm 756 (by decide +kernel) (by decide +kernel))), by decide +kernel, by decide +kernel, by decide +kernel⟩, ⟨(gm 754 (by decide +kernel) (by decide +kernel)), (gm 755 (by decide +kernel) (by decide +kernel))⟩, rfl, by decide⟩
theorem cl_RL_94 : CV0 RL 94 yX11_depot i_X11_depot 3 11 := ⟨⟨(gm 1361 (by decide +kernel) (by decide +kernel)), (gm 72 (by decide +kernel) (by decide +kernel)), ((gm 1364 (by decide +kernel) (by decide +kernel))), by decide +kernel, by decide +kernel, by decide +kernel⟩, ⟨(gm 1362 (by decide +kernel) (by decide +kernel)), (gm 1363 (by decide +kernel) (by decide +kernel))⟩, rfl, by decide⟩
theorem cl_RL_95 : CV0 RL 95 yX10_empty i_X10_empty 2 10 := ⟨⟨(gm 775 (by decide +kernel) (by decide +kernel)), (gm 66 (by decide +kernel) (by decide +kernel)), ((gm 778 (by decide +kernel) (by decide +kernel))), by decide +kernel, by decide +kernel, by decide +kernel⟩, ⟨(gm 776 (by decide +kernel) (by decide +kernel)), (gm 777 (by decide +kernel) (by decide +kernel))⟩, rfl, by decide⟩
theorem cl_RL_98 : CV0 RL 98 yX11_empty i_X11_empty 2 11 := ⟨⟨(gm 1365 (by decide +kernel) (by decide +kernel)), (gm 72 (by decide +kernel) (by decide +kernel)), ((gm 1368 (by decide +kernel) (by decide +kernel))), by decide +kernel, by decide +kernel, by decide +kernel⟩, ⟨(gm 1366 (by decide +kernel) (by decide +kernel)), (gm 1367 (by decide +kernel) (by decide +kernel))⟩, rfl, by decide⟩
theorem cl_RL_99 : CV0 RL 99 yX10_fit i_X10_fit 2 10 := ⟨⟨(gm 784 (by decide +kernel) (by decide +kernel)), (gm 66 (by decide +kernel) (by decide +kernel)), ((gm 787 (by decide +kernel) (by decide +kernel))), by decide +kernel, by decide +kernel, by decide +kernel⟩, ⟨(gm 785 (by decide +kernel) (by decide +kernel)), (gm 786 (by decide +kernel) (by decide +kernel))⟩, rfl, by decide⟩
theorem cl_RL_102 : CV0 RL 102 yX11_fit i_X11_fit 2 11 := ⟨⟨(gm 1377 (by decide +kernel) (by decide +kernel)), (gm 72 (by decide +kernel) (by decide +kernel)), ((gm 1380 (by decide +kernel) (by decide +kernel))), by decide +kernel, by decide +kernel, by decide +kernel⟩, ⟨(gm 1378 (by decide +kernel) (by decide +kernel)), (gm 1379 (by decide +kernel) (by decide +kernel))⟩, rfl, by decide⟩
theorem cl_RL_103 : CV0 RL 103 yX10_driver i_X10_driver 0 10 := ⟨⟨(gm 830 (by decide +kernel) (by decide +kernel)), (gm 66 (by decide +kernel) (by decide +kernel)), ((gm 833 (by decide +kernel) (by decide +kernel))), by decide +kernel, by decide +kernel, by decide +kernel⟩, ⟨(gm 831 (by decide +kernel) (by decide +kernel)), (gm 832 (by decide +kernel) (by decide +kernel))⟩, rfl, by decide⟩
theorem cl_RL_107 : CV0 RL 107 yX11_driver i_X11_driver 0 11 := ⟨⟨(gm 1413 (by decide +kernel) (by decide +kernel)), (gm 72 (by decide +kernel) (by decide +kernel)), ((gm 1416 (by decide +kernel) (by decide +kernel))), by decide +kernel, by decide +kernel, by decide +kernel⟩, ⟨(gm 1414 (by decide +kernel) (by decide +kernel)), (gm 1415 (by decide +kernel) (by decide +kernel))⟩, rfl, by decide⟩
theorem cl_RL_113 : CV0 RL 113 yX10_roster i_X10_roster 2 10 := ⟨⟨(gm 838 (by decide +kernel) (by decide +kernel)), (gm 66 (by decide +kernel) (by decide +kernel)), ((gm 841 (by decide +kernel) (by decide +kernel))), by decide +kernel, by decide +kernel, by decide +kernel⟩, ⟨(gm 839 (by decide +kernel) (by decide +kernel)), (gm 840 (by decide +kernel) (by decide +kernel))⟩, rfl, by decide⟩
theorem cl_RL_116 : CV0 RL 116 yX11_roster i_X11_roster 2 11 := ⟨⟨(gm 1421 (by decide +kernel) (by decide +kernel)), (gm 72 (by decide +kernel) (by decide +kernel)), ((gm 1424 (by decide +kernel) (by decide +kernel))), by decide +kernel, by decide +kernel, by decide +kernel⟩, ⟨(gm 1422 (by decide +kernel) (by decide +kernel)), (gm 1423 (by decide +kernel) (by decide +kernel))⟩, rfl, by decide⟩
theorem cl_RL_122 : CV0 RL 122 yX10_night i_X10_night 4 10 := ⟨⟨(gm 847 (by decide +kernel) (by decide +kernel)), (gm 66 (by decide +kernel) (by decide +kernel)), ((gm 850 (by decide +kernel) (by decide +kernel))), by decide +kernel, by decide +kernel, by decide +kernel⟩, ⟨(gm 848 (by decide +kernel) (by decide +kernel)), (gm 849 (by decide +kernel) (by decide +kernel))⟩, rfl, by decide⟩
theorem cl_RL_125 : CV0 RL 125 yX11_night i_X11_night 4 11 := ⟨⟨(gm 1433 (by decide +kernel) (by decide +kernel)), (gm 72 (by decide +kernel) (by decide +kernel)), ((gm 1436 (by decide +kernel) (by decide +kernel))), by decide +kernel, by decide +kernel, by decide +kernel⟩, ⟨(gm 1434 (by decide +kernel) (by decide +kernel)), (gm 1435 (by decide +kernel) (by decide +kernel))⟩, rfl, by decide⟩
theorem cl_RL_126 : CV0 RL 126 yX10_waiting i_X10_waiting 3 10 := ⟨⟨(gm 879 (by decide +kernel) (by decide +kernel)), (gm 66 (by decide +kernel) (by decide +kernel)), ((gm 882 (by decide +kernel) (by decide +kernel))), by decide +kernel, by decide +kernel, by decide +kernel⟩, ⟨(gm 880 (by decide +kernel) (by decide +kernel)), (gm 881 (by decide +kernel) (by decide +kernel))⟩, rfl, by decide⟩
theorem cl_RL_129 : CV0 RL 129 yX11_waiting i_X11_waiting 3 11 := ⟨⟨(gm 1446 (by decide +kernel) (by decide +kernel)), (gm 72 (by decide +kernel) (by decide +kernel)), ((gm 1449 (by decide +kernel) (by decide +kernel))), by decide +kernel, by decide +kernel, by decide +kernel⟩, ⟨(gm 1447 (by decide +kernel) (by decide +kernel)), (gm 1448 (by decide +kernel) (by decide +kernel))⟩, rfl, by decide⟩
theorem cl_RL_130 : CV0 RL 130 yX10_seats i_X10_seats 1 10 := ⟨⟨(gm 884 (by decide +kernel) (by decide +kernel)), (gm 66 (by decide +kernel) (by decide +kernel)), ((gm 887 (by decide +kernel) (by decide +kernel))), by decide +kernel, by decide +kernel, by decide +kernel⟩, ⟨(gm 885 (by decide +kernel) (by decide +kernel)), (gm 886 (by decide +kernel) (by decide +kernel))⟩, rfl, by decide⟩
theorem cl_RL_133 : CV0 RL 133 yX11_seats i_X11_seats 1 11 := ⟨⟨(gm 1455 (by decide +kernel) (by decide +kernel)), (gm 72 (by decide +kernel) (by decide +kernel)), ((gm 1458 (by decide +kernel) (by decide +kernel))), by decide +kernel, by decide +kernel, by decide +kernel⟩, ⟨(gm 1456 (by decide +kernel) (by decide +kernel)), (gm 1457 (by decide +kernel) (by decide +kernel))⟩, rfl, by decide⟩
theorem cl_RL_134 : CV0 RL 134 yX10_standing i_X10_standing 3 10 := ⟨⟨(gm 888 (by decide +kernel) (by decide +kernel)), (gm 66 (by decide +kernel) (by decide +kernel)), ((gm 891 (by decide +kernel) (by decide +kernel))), by decide +kernel, by decide +kernel, by decide +kernel⟩, ⟨(gm 889 (by decide +kernel) (by decide +kernel)), (gm 890 (by decide +kernel) (by decide +kernel))⟩, rfl, by decide⟩
theorem cl_RL_137 : CV0 RL 137 yX11_standing i_X11_standing 3 11 := ⟨⟨(gm 1460 (by decide +kernel) (by decide +kernel)), (gm 72 (by decide +kernel) (by decide +kernel)), ((gm 1463 (by decide +kernel) (by decide +kernel))), by decide +kernel, by decide +kernel, by decide +kernel⟩, ⟨(gm 1461 (by decide +kernel) (by decide +kernel)), (gm 1462 (by decide +kernel) (by decide +kernel))⟩, rfl, by decide⟩
theorem cl_RL_138 : CV0 RL 138 yX10_extra i_X10_extra 1 10 := ⟨⟨(gm 896 (by decide +kernel) (by decide +kernel)), (gm 66 (by decide +kernel) (by decide +kernel)), ((gm 899 (by decide +kernel) (by decide +kernel))), by decide +kernel, by decide +kernel, by decide +kernel⟩, ⟨(gm 897 (by decide +kernel) (by decide +kernel)), (gm 898 (by decide +kernel) (by decide +kernel))⟩, rfl, by decide⟩
theorem cl_RL_141 : CV0 RL 141 yX11_extra i_X11_extra 1 11 := ⟨⟨(gm 1464 (by decide +kernel) (by decide +kernel)), (gm 72 (by decide +kernel) (by decide +kernel)), ((gm 1467 (by decide +kernel) (by decide +kernel))), by decide +kernel, by decide +kernel, by decide +kernel⟩, ⟨(gm 1465 (by decide +kernel) (by decide +kernel)), (gm 1466 (by decide +kernel) (by decide +kernel))⟩, rfl, by decide⟩
theorem cl_RL_142 : CV0 RL 142 yX10_sheet i_X10_sheet 3 10 := ⟨⟨(gm 900 (by decide +kernel) (by decide +kernel)), (gm 66 (by decide +kernel) (by decide +kernel)), ((gm 903 (by decide +kernel) (by decide +kernel))), by decide +kernel, by decide +kernel, by decide +kernel⟩, ⟨(gm 901 (by decide +kernel) (by decide +kernel)), (gm 902 (by decide +kernel) (by decide +kernel))⟩, rfl, by decide⟩
theorem cl_RL_145 : CV0 RL 145 yX11_sheet i_X11_sheet 3 11 := ⟨⟨(gm 1468 (by decide +kernel) (by decide +kernel)), (gm 72 (by decide +kernel) (by decide +kernel)), ((gm 1471 (by decide +kernel) (by decide +kernel))), by decide +kernel, by decide +kernel, by decide +kernel⟩, ⟨(gm 1469 (by decide +kernel) (by decide +kernel)), (gm 1470 (by decide +kernel) (by decide +kernel))⟩, rfl, by decide⟩
theorem cl_RL_146 : CV0 RL 146 yX10_drop i_X10_drop 1 10 := ⟨⟨(gm 909 (by decide +kernel) (by decide +kernel)), (gm 66 (by decide +kernel) (by decide +kernel)), ((gm 912 (by decide +kernel) (by decide +kernel))), by decide +kernel, by decide +kernel, by decide +kernel⟩, ⟨(gm 910 (by decide +kernel) (by decide +kernel)), (gm 911 (by decide +kernel) (by decide +kernel))⟩, rfl, by decide⟩
theorem cl_RL_149 : CV0 RL 149 yX11_drop i_X11_drop 1 11 := ⟨⟨(gm 1472 (by decide +kernel) (by decide +kernel)), (gm 72 (by decide +kernel) (by decide +kernel)), ((gm 1475 (by decide +kernel) (by decide +kernel))), by decide +kernel, by decide +kernel, by decide +kernel⟩, ⟨(gm 1473 (by decide +kernel) (by decide +kernel)), (gm 1474 (by decide +kernel) (by decide +kernel))⟩, rfl, by decide⟩
theorem cl_RL_150 : CV0 RL 150 yX10_put i_X10_put 3 10 := ⟨⟨(gm 913 (by decide +kernel) (by decide +kernel)), (gm 66 (by decide +kernel) (by decide +kernel)), ((gm 916 (by decide +kernel) (by decide +kernel))), by decide +kernel, by decide +kernel, by decide +kernel⟩, ⟨(gm 914 (by decide +kernel) (by decide +kernel)), (gm 915 (by decide +kernel) (by decide +kernel))⟩, rfl, by decide⟩
theorem cl_RL_153 : CV0 RL 153 yX11_put i_X11_put 3 11 := ⟨⟨(gm 1476 (by decide +kernel) (by decide +kernel)), (gm 72 (by decide +kernel) (by decide +kernel)), ((gm 1479 (by decide +kernel) (by decide +kernel))), by decide +kernel, by decide +kernel, by decide +kernel⟩, ⟨(gm 1477 (by decide +kernel) (by decide +kernel)), (gm 1478 (by decide +kernel) (by decide +kernel))⟩, rfl, by decide⟩
theorem cl_RL_154 : CV0 RL 154 yX10_cell i_X10_cell 3 10 := ⟨⟨(gm 922 (by decide +kernel) (by decide +kernel)), (gm 66 (by decide +kernel) (by decide +kernel)), ((gm 925 (by decide +kernel) (by decide +kernel))), by decide +kernel, by decide +kernel, by decide +kernel⟩, ⟨(gm 923 (by decide +kernel) (by decide +kernel)), (gm 924 (by decide +kernel) (by decide +kernel))⟩, rfl, by decide⟩
theorem cl_RL_158 : CV0 RL 158 yX11_cell i_X11_cell 3 11 := ⟨⟨(gm 1484 (by decide +kernel) (by decide +kernel)), (gm 72 (by decide +kernel) (by decide +kernel)), ((gm 1487 (by decide +kernel) (by decide +kernel))), by decide +kernel, by decide +kernel, by decide +kernel⟩, ⟨(gm 1485 (by decide +kernel) (by decide +kernel)), (gm 1486 (by decide +kernel) (by decide +kernel))⟩, rfl, by decide⟩
theorem cl_RL_159 : CV0 RL 159 yX10_copy i_X10_copy 5 10 := ⟨⟨(gm 927 (by decide +kernel) (by decide +kernel)), (gm 66 (by decide +kernel) (by decide +kernel)), ((gm 930 (by decide +kernel) (by decide +kernel))), by decide +kernel, by decide +kernel, by decide +kernel⟩, ⟨(gm 928 (by decide +kernel) (by decide +kernel)), (gm 929 (by decide +kernel) (by decide +kernel))⟩, rfl, by decide⟩
theorem cl_RL_162 : CV0 RL 162 yX11_copy i_X11_copy 5 11 := ⟨⟨(gm 1496 (by decide +kernel) (by decide +kernel)), (gm 72 (by decide +kernel) (by decide +kernel)), ((gm 1499 (by decide +kernel) (by decide +kernel))), by decide +kernel, by decide +kernel, by decide +kernel⟩, ⟨(gm 1497 (by decide +kernel) (by decide +kernel)), (gm 1498 (by decide +kernel) (by decide +kernel))⟩, rfl, by decide⟩
theorem cl_RL_163 : CV0 RL 163 yX10_tell i_X10_tell 1 10 := ⟨⟨(gm 932 (by decide +kernel) (by decide +kernel)), (gm 66 (by decide +kernel) (by decide +kernel)), ((gm 935 (by decide +kernel) (by decide +kernel))), by decide +kernel, by decide +kernel, by decide +kernel⟩, ⟨(gm 933 (by decide +kernel) (by decide +kernel)), (gm 934 (by decide +kernel) (by decide +kernel))⟩, rfl, by decide⟩
theorem cl_RL_166 : CV0 RL 166 yX11_tell i_X11_tell 1 11 := ⟨⟨(gm 1500 (by decide +kernel) (by decide +kernel)), (gm 72 (by decide +kernel) (by decide +kernel)), ((gm 1503 (by decide +kernel) (by decide +kernel))), by decide +kernel, by decide +kernel, by decide +kernel⟩, ⟨(gm 1501 (by decide +kernel) (by decide +kernel)), (gm 1502 (by decide +kernel) (by decide +kernel))⟩, rfl, by decide⟩
theorem cl_RL_167 : CV0 RL 167 yX10_hail i_X10_hail 1 10 := ⟨⟨(gm 952 (by decide +kernel) (by decide +kernel)), (gm 66 (by decide +kernel) (by decide +kernel)), ((gm 955 (by decide +kernel) (by decide +kernel))), by decide +kernel, by decide +kernel, by decide +kernel⟩, ⟨(gm 953 (by decide +kernel) (by decide +kernel)), (gm 954 (by decide +kernel) (by decide +kernel))⟩, rfl, by decide⟩
theorem cl_RL_170 : CV0 RL 170 yX11_hail i_X11_hail 1 11 := ⟨⟨(gm 1508 (by decide +kernel) (by decide +kernel)), (gm 72 (by decide +kernel) (by decide +kernel)), ((gm 1511 (by decide +kernel) (by decide +kernel))), by decide +kernel, by decide +kernel, by decide +kernel⟩, ⟨(gm 1509 (by decide +kernel) (by decide +kernel)), (gm 1510 (by decide +kernel) (by decide +kernel))⟩, rfl, by decide⟩
theorem cl_RL_171 : CV0 RL 171 yX10_as i_X10_as 2 10 := ⟨⟨(gm 956 (by decide +kernel) (by decide +kernel)), (gm 66 (by decide +kernel) (by decide +kernel)), ((gm 959 (by decide +kernel) (by decide +kernel))), by decide +kernel, by decide +kernel, by decide +kernel⟩, ⟨(gm 957 (by decide +kernel) (by decide +kernel)), (gm 958 (by decide +kernel) (by decide +kernel))⟩, rfl, by decide⟩
theorem cl_RL_174 : CV0 RL 174 yX11_as i_X11_as 2 11 := ⟨⟨(gm 1512 (by decide +kernel) (by decide +kernel)), (gm 72 (by decide +kernel) (by decide +kernel)), ((gm 1515 (by decide +kernel) (by decide +kernel))), by decide +kernel, by decide +kernel, by decide +kernel⟩, ⟨(gm 1513 (by decide +kernel) (by decide +kernel)), (gm 1514 (by decide +kernel) (by decide +kernel))⟩, rfl, by decide⟩
theorem cl_RL_175 : CV0 RL 175 yX10_trace i_X10_trace 0 10 := ⟨⟨(gm 960 (by decide +kernel) (by decide +kernel)), (gm 66 (by decide +kernel) (by decide +kernel)), ((gm 963 (by decide +kernel) (by decide +kernel))), by decide +kernel, by decide +kernel, by decide +kernel⟩, ⟨(gm 961 (by decide +kernel) (by decide +kernel)), (gm 962 (by decide +kernel) (by decide +kernel))⟩, rfl, by decide⟩
theorem cl_RL_178 : CV0 RL 178 yX11_trace i_X11_trace 0 11 := ⟨⟨(gm 1516 (by decide +kernel) (by decide +kernel)), (gm 72 (by decide +kernel) (by decide +kernel)), ((gm 1519 (by decide +kernel) (by decide +kernel))), by decide +kernel, by decide +kernel, by decide +kernel⟩, ⟨(gm 1517 (by decide +kernel) (by decide +kernel)), (gm 1518 (by decide +kernel) (by decide +kernel))⟩, rfl, by decide⟩
theorem cl_RL_179 : CV0 RL 179 yX10_fault i_X10_fault 0 10 := ⟨⟨(gm 964 (by decide +kernel) (by decide +kernel)), (gm 66 (by decide +kernel) (by decide +kernel)), ((gm 967 (by decide +kernel) (by decide +kernel))), by decide +kernel, by decide +kernel, by decide +kernel⟩, ⟨(gm 965 (by decide +kernel) (by decide +kernel)), (gm 966 (by decide +kernel) (by decide +kernel))⟩, rfl, by decide⟩
theorem cl_RL_182 : CV0 RL 182 yX11_fault i_X11_fault 0 11 := ⟨⟨(gm 1520 (by decide +kernel) (by decide +kernel)), (gm 72 (by decide +kernel) (by decide +kernel)), ((gm 1523 (by decide +kernel) (by decide +kernel))), by decide +kernel, by decide +kernel, by decide +kernel⟩, ⟨(gm 1521 (by decide +kernel) (by decide +kernel)), (gm 1522 (by decide +kernel) (by decide +kernel))⟩, rfl, by decide⟩
theorem cl_RL_183 : CV0 RL 183 yX10_many i_X10_many 1 10 := ⟨⟨(gm 968 (by decide +kernel) (by decide +kernel)), (gm 66 (by decide +kernel) (by decide +kernel)), ((gm 971 (by decide +kernel) (by decide +kernel))), by decide +kernel, by decide +kernel, by decide +kernel⟩, ⟨(gm 969 (by decide +kernel) (by decide +kernel)), (gm 970 (by decide +kernel) (by decide +kernel))⟩, rfl, by decide⟩
theorem cl_RL_186 : CV0 RL 186 yX11_many i_X11_many 1 11 := ⟨⟨(gm 1524 (by decide +kernel) (by decide +kernel)), (gm 72 (by decide +kernel) (by decide +kernel)), ((gm 1527 (by decide +kernel) (by decide +kernel))), by decide +kernel, by decide +kernel, by decide +kernel⟩, ⟨(gm 1525 (by decide +kernel) (by decide +kernel)), (gm 1526 (by decide +kernel) (by decide +kernel))⟩, rfl, by decide⟩
theorem nw_RL_7 : NW RL 7 10 := ⟨RX10, TX10, 19, tyX10, rfl, rfl, by decide, tyX10_ok, by decide +kernel, (gm 82 (by decide +kernel) (by decide +kernel)), (gm 83 (by decide +kernel) (by decide +kernel)), (gm 66 (by decide +kernel) (by decide +kernel)), inG10⟩
theorem cl_RL_9 : LkB RL 9 yX10_init i_X10_init 0 := ⟨(gm 84 (by decide +kernel) (by decide +kernel)), (gm 66 (by decide +kernel) (by decide +kernel)), (gm 86 (by decide +kernel) (by decide +kernel)), by decide +kernel, by decide +kernel, by decide +kernel⟩
theorem si_X10_init : Cond.instanceMethod yX10_init ∈ lw_good := (gm 85 (by decide +kernel) (by decide +kernel))
theorem nw_RL_10 : NW RL 10 11 := ⟨RX11, TX11, 57, tyX11, rfl, rfl, by decide, tyX11_ok, by decide +kernel, (gm 972 (by decide +kernel) (by decide +kernel)), (gm 973 (by decide +kernel) (by decide +kernel)), (gm 72 (by decide +kernel) (by decide +kernel)), inG11⟩
theorem cl_RL_12 : LkB RL 12 yX11_init i_X11_init 0 := ⟨(gm 974 (by decide +kernel) (by decide +kernel)), (gm 72 (by decide +kernel) (by decide +kernel)), (gm 976 (by decide +kernel) (by decide +kernel)), by decide +kernel, by decide +kernel, by decide +kernel⟩
theorem si_X11_init : Cond.instanceMethod yX11_init ∈ lw_good := (gm 975 (by decide +kernel) (by decide +kernel))
