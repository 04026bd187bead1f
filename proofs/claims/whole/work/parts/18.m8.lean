def tb_X11_doneBy : List (Nat × Instr × Nat) := [(0, .iload_n 1, 1), (1, .istore 4, 2), (3, .iload_n 2, 1), (4, .istore 5, 2), (6, .iconst 0, 1), (7, .istore 6, 2), (9, .iload 6, 2), (11, .iload_n 3, 1), (12, .if_icmp .ge 72, 3), (15, .aload_n 0, 1), (16, .getfield 97, 3), (19, .iload 6, 2), (21, .iaload, 1), (22, .istore 7, 2), (24, .iload 5, 2), (26, .aload_n 0, 1), (27, .iload 4, 2), (29, .aload_n 0, 1), (30, .getfield 103, 3), (33, .iload 7, 2), (35, .iaload, 1), (36, .invokevirtual 168, 3), (39, .iadd, 1), (40, .aload_n 0, 1), (41, .getfield 106, 3), (44, .iload 7, 2), (46, .iaload, 1), (47, .invokestatic 194, 3), (50, .iconst 5, 1), (51, .iadd, 1), (52, .istore 5, 2), (54, .aload_n 0, 1), (55, .getfield 103, 3), (58, .iload 7, 2), (60, .iaload, 1), (61, .istore 4, 2), (63, .iload 5, 2), (65, .aload_n 0, 1), (66, .getfield 109, 3), (69, .iload 7, 2), (71, .iaload, 1), (72, .if_icmp .le 6, 3), (75, .ldc 216, 2), (77, .ireturn, 1), (78, .iinc 6 1, 3), (81, .goto (-72), 3), (84, .iload 5, 2), (86, .ireturn, 1)]
def i_X11_doneBy : MI := (RX11, cX11_doneBy, 8, (some .int), "doneBy", { frames := 2, cells := 0, slots := 0, locals := 42 })
theorem D_X11_doneBy : tbOK (i_X11_doneBy).2.1 tb_X11_doneBy := by show ∀ q ∈ tb_X11_doneBy, decode cX11_doneBy q.1 = .ok (q.2.1, q.2.2); decide +kernel
def po_X11_doneBy (S : Sk) (I : II) (r : Int32) : Option LV × Sk × II := (some (vI r), S, I)
def lp_X11_doneBy_9 (fu : Nat) (S : Sk) (I : II) (a0 : Nat) (x3 : Int32) (self9 : Int32 → Int32 → Int32 → Option (Int32)) (x4 : Int32) (x5 : Int32) (x6 : Int32) : Option (Int32) :=
  if x3 ≤ x6 then some (x5) else gd (inb S (S.1 a0 42) x6) (lt (rd I (S.1 a0 42) x6) fun x7_4 => (gd (inb S (S.1 a0 48) x7_4) ((f_X11_farOf fu S I a0 x4 (rd I (S.1 a0 48) x7_4)).bind fun q7 => (gd (inb S (S.1 a0 49) x7_4) (lt ((t_X11_greater (x5 + q7) (rd I (S.1 a0 49) x7_4)) + (5 : Int32)) fun x5_13 => (lt (rd I (S.1 a0 48) x7_4) fun x4_15 => (gd (inb S (S.1 a0 50) x7_4) (if x5_13 ≤ (rd I (S.1 a0 50) x7_4) then self9 x4_15 x5_13 (x6 + (1 : Int32)) else some ((1000000 : Int32))))))))))
def f_X11_doneBy (fu : Nat) (S : Sk) (I : II) (a0 : Nat) (x1 : Int32) (x2 : Int32) (x3 : Int32) : Option (Int32) :=
  fix3 (lp_X11_doneBy_9 fu S I a0 x3) fu x1 x2 (0 : Int32)
set_option maxRecDepth 100000 in
set_option maxHeartbeats 4000000 in
theorem gg_X11_doneBy {E : EV} (fu : Nat) (S0 : Sk) (I0 : II) (a0 : Nat) (x1 : Int32) (x2 : Int32) (x3 : Int32) (ht0 : tyO S0 11 a0) : GG E i_X11_doneBy (enM E i_X11_doneBy S0 (po_X11_doneBy S0 I0)) S0 I0 (0, 0) 0 [(0, vA (a0 + 1)), (1, vI x1), (2, vI x2), (3, vI x3)] [] (f_X11_doneBy fu S0 I0 a0 x1 x2 x3) := by
  have hl9 : ∀ (nn : Nat) (x4 : Int32) (x5 : Int32) (x6 : Int32), True → GG E i_X11_doneBy (enM E i_X11_doneBy S0 (po_X11_doneBy S0 I0)) S0 I0 (0, 0) 9 [(0, vA (a0 + 1)), (3, vI x3), (4, vI x4), (5, vI x5), (6, vI x6)] [] (fix3 (lp_X11_doneBy_9 fu S0 I0 a0 x3) nn x4 x5 x6) := by
    refine g_fix3 (fun _ _ _ => S0) (fun _ _ _ => I0) (fun x4 x5 x6 => [(0, vA (a0 + 1)), (3, vI x3), (4, vI x4), (5, vI x5), (6, vI x6)]) (fun x4 x5 x6 => True) ?_
    intro self9 hself9 x4 x5 x6 hinv
    unfold lp_X11_doneBy_9
    refine g_iload (dk D_X11_doneBy 6 rfl) rfl ?_
    refine g_iload_n (dk D_X11_doneBy 7 rfl) rfl ?_
    refine g_icmp_ge (tgt := 84) (dk D_X11_doneBy 8 rfl) rfl (fun hc1 => ?_) (fun hc1 => ?_)
    · refine g_iload (dk D_X11_doneBy 46 rfl) rfl ?_
      exact g_ireturn rfl rfl Sx.rf rfl (by decide) (by decide) (dk D_X11_doneBy 47 rfl)
    · refine g_aload_n (dk D_X11_doneBy 9 rfl) rfl ?_
      refine g_getAt (t := 100) fl_RX11_97 rfl ht0 (dk D_X11_doneBy 10 rfl) (fun ht2 => ?_)
      refine g_iload (dk D_X11_doneBy 11 rfl) rfl ?_
      refine g_gd (fun hi3 => ?_)
      refine g_iaload ht2 hi3 (dk D_X11_doneBy 12 rfl) ?_
      refine g_ltV (fun x7_4 ex7_4 => ?_)
      refine g_istore (L' := [(0, vA (a0 + 1)), (3, vI x3), (4, vI x4), (5, vI x5), (6, vI x6), (7, vI x7_4)]) (dk D_X11_doneBy 13 rfl) (Nat.le_of_ble_eq_true rfl) rfl ?_
      refine g_iload (dk D_X11_doneBy 14 rfl) rfl ?_
      refine g_aload_n (dk D_X11_doneBy 15 rfl) rfl ?_
      refine g_iload (dk D_X11_doneBy 16 rfl) rfl ?_
      refine g_aload_n (dk D_X11_doneBy 17 rfl) rfl ?_
      refine g_getAt (t := 100) fl_RX11_103 rfl ht0 (dk D_X11_doneBy 18 rfl) (fun ht5 => ?_)
      refine g_iload (dk D_X11_doneBy 19 rfl) rfl ?_
      refine g_gd (fun hi6 => ?_)
      refine g_iaload ht5 hi6 (dk D_X11_doneBy 20 rfl) ?_
      refine g_bind (fun q7 hq8 => ?_)
      refine h_callVt (st := [vI x5]) (c_X11_farOf (E := E) fu S0 I0 a0 x4 (rd I0 (S0.1 a0 48) x7_4) q7 hq8 (ht0)) cl_RX11_168 ht0 rfl rfl (by decide) (Nat.le_of_ble_eq_true rfl) (dk D_X11_doneBy 21 rfl) ?_
      refine g_iadd (dk D_X11_doneBy 22 rfl) ?_
      refine g_aload_n (dk D_X11_doneBy 23 rfl) rfl ?_
      refine g_getAt (t := 100) fl_RX11_106 rfl ht0 (dk D_X11_doneBy 24 rfl) (fun ht10 => ?_)
      refine g_iload (dk D_X11_doneBy 25 rfl) rfl ?_
      refine g_gd (fun hi11 => ?_)
      refine g_iaload ht10 hi11 (dk D_X11_doneBy 26 rfl) ?_
      refine h_callS (st := []) (c_X11_greater (E := E) S0 I0 (x5 + q7) (rd I0 (S0.1 a0 49) x7_4)) cl_RX11_194 rfl rfl (by decide) (Nat.le_of_ble_eq_true rfl) (dk D_X11_doneBy 27 rfl) ?_
      refine g_iconst (v := (5 : Int32)) (dk D_X11_doneBy 28 rfl) rfl ?_
      refine g_iadd (dk D_X11_doneBy 29 rfl) ?_
      refine g_ltV (fun x5_13 ex5_13 => ?_)
      refine g_istore (L' := [(0, vA (a0 + 1)), (3, vI x3), (4, vI x4), (5, vI x5_13), (6, vI x6), (7, vI x7_4)]) (dk D_X11_doneBy 30 rfl) (Nat.le_of_ble_eq_true rfl) rfl ?_
      refine g_aload_n (dk D_X11_doneBy 31 rfl) rfl ?_
      refine g_getAt (t := 100) fl_RX11_103 rfl ht0 (dk D_X11_doneBy 32 rfl) (fun ht14 => ?_)
      refine g_iload (dk D_X11_doneBy 33 rfl) rfl ?_
      refine g_iaload ht5 hi6 (dk D_X11_doneBy 34 rfl) ?_
      refine g_ltV (fun x4_15 ex4_15 => ?_)
      refine g_istore (L' := [(0, vA (a0 + 1)), (3, vI x3), (4, vI x4_15), (5, vI x5_13), (6, vI x6), (7, vI x7_4)]) (dk D_X11_doneBy 35 rfl) (Nat.le_of_ble_eq_true rfl) rfl ?_
      refine g_iload (dk D_X11_doneBy 36 rfl) rfl ?_
      refine g_aload_n (dk D_X11_doneBy 37 rfl) rfl ?_
      refine g_getAt (t := 100) fl_RX11_109 rfl ht0 (dk D_X11_doneBy 38 rfl) (fun ht16 => ?_)
      refine g_iload (dk D_X11_doneBy 39 rfl) rfl ?_
      refine g_gd (fun hi17 => ?_)
      refine g_iaload ht16 hi17 (dk D_X11_doneBy 40 rfl) ?_
      refine g_icmp_le (tgt := 78) (dk D_X11_doneBy 41 rfl) rfl (fun hc18 => ?_) (fun hc18 => ?_)
      · refine g_iinc (v := (1 : Int32)) (L' := [(0, vA (a0 + 1)), (3, vI x3), (4, vI x4_15), (5, vI x5_13), (6, vI (x6 + (1 : Int32))), (7, vI x7_4)]) (dk D_X11_doneBy 44 rfl) rfl rfl (Nat.le_of_ble_eq_true rfl) rfl ?_
        refine g_goto (tgt := 9) (dk D_X11_doneBy 45 rfl) rfl ?_
        refine g_Lp [0, 1, 2, 3, 4] rfl ?_
        exact hself9 x4_15 x5_13 (x6 + (1 : Int32)) trivial
      · refine g_ldc (dk D_X11_doneBy 42 rfl) lk_RX11_216 ?_
        exact g_ireturn rfl rfl Sx.rf rfl (by decide) (by decide) (dk D_X11_doneBy 43 rfl)
  unfold f_X11_doneBy
  refine g_iload_n (dk D_X11_doneBy 0 rfl) rfl ?_
  refine g_istore (L' := [(0, vA (a0 + 1)), (1, vI x1), (2, vI x2), (3, vI x3), (4, vI x1)]) (dk D_X11_doneBy 1 rfl) (Nat.le_of_ble_eq_true rfl) rfl ?_
  refine g_iload_n (dk D_X11_doneBy 2 rfl) rfl ?_
  refine g_istore (L' := [(0, vA (a0 + 1)), (1, vI x1), (2, vI x2), (3, vI x3), (4, vI x1), (5, vI x2)]) (dk D_X11_doneBy 3 rfl) (Nat.le_of_ble_eq_true rfl) rfl ?_
  refine g_iconst (v := (0 : Int32)) (dk D_X11_doneBy 4 rfl) rfl ?_
  refine g_istore (L' := [(0, vA (a0 + 1)), (1, vI x1), (2, vI x2), (3, vI x3), (4, vI x1), (5, vI x2), (6, vI (0 : Int32))]) (dk D_X11_doneBy 5 rfl) (Nat.le_of_ble_eq_true rfl) rfl ?_
  refine g_Lp [0, 3, 4, 5, 6] rfl ?_
  exact hl9 fu x1 x2 (0 : Int32) trivial
theorem c_X11_doneBy {E : EV} (fu : Nat) (S0 : Sk) (I0 : II) (a0 : Nat) (x1 : Int32) (x2 : Int32) (x3 : Int32) (r : Int32) (h : f_X11_doneBy fu S0 I0 a0 x1 x2 x3 = some r) (ht0 : tyO S0 11 a0) : MX E yX11_doneBy i_X11_doneBy S0 I0 [vA (a0 + 1), vI x1, vI x2, vI x3] (po_X11_doneBy S0 I0 r) :=
  MX.of h (by decide) rfl rfl (Nat.le_of_ble_eq_true rfl) (gg_X11_doneBy fu S0 I0 a0 x1 x2 x3 ht0)
theorem cl_RX11_369 : CV0 RX11 369 yX11_doneBy i_X11_doneBy 3 11 := ⟨⟨(gm 1442 (by decide +kernel) (by decide +kernel)), (gm 72 (by decide +kernel) (by decide +kernel)), ((gm 1445 (by decide +kernel) (by decide +kernel))), by decide +kernel, by decide +kernel, by decide +kernel⟩, ⟨(gm 1444 (by decide +kernel) (by decide +kernel)), (gm 60 (by decide +kernel) (by decide +kernel))⟩, rfl, by decide⟩
theorem lk_RX11_364 : Cond.constantLong RX11 364 (58 : Int64) ∈ lw_good := (gm 1437 (by decide +kernel) (by decide +kernel))
theorem cl_RX11_366 : CV0 RX11 366 yX11_layBoards i_X11_layBoards 1 11 := ⟨⟨(gm 1438 (by decide +kernel) (by decide +kernel)), (gm 72 (by decide +kernel) (by decide +kernel)), ((gm 1441 (by decide +kernel) (by decide +kernel))), by decide +kernel, by decide +kernel, by decide +kernel⟩, ⟨(gm 1440 (by decide +kernel) (by decide +kernel)), (gm 59 (by decide +kernel) (by decide +kernel))⟩, rfl, by decide⟩
def tb_X11_night : List (Nat × Instr × Nat) := [(0, .aload_n 0, 1), (1, .invokevirtual 360, 3), (4, .istore 5, 2), (6, .aload_n 0, 1), (7, .iload_n 2, 1), (8, .invokevirtual 164, 3), (11, .ifCond .ne 20, 3), (14, .iload 4, 2), (16, .i2l, 1), (17, .ldc2_w 342, 3), (20, .iload 5, 2), (22, .i2l, 1), (23, .lconst 1, 1), (24, .lsub, 1), (25, .invokestatic 132, 3), (28, .ifCond .ne 5, 3), (31, .iconst (-1), 1), (32, .ireturn, 1), (33, .iload_n 1, 1), (34, .i2l, 1), (35, .lconst 0, 1), (36, .ldc2_w 364, 3), (39, .invokestatic 132, 3), (42, .ifCond .eq 15, 3), (45, .iload_n 3, 1), (46, .i2l, 1), (47, .lconst 0, 1), (48, .ldc2_w 217, 3), (51, .invokestatic 132, 3), (54, .ifCond .ne 6, 3), (57, .bipush (-2), 2), (59, .ireturn, 1), (60, .aload_n 0, 1), (61, .iload_n 1, 1), (62, .invokevirtual 366, 3), (65, .aload_n 0, 1), (66, .iload 5, 2), (68, .putfield 317, 3), (71, .iload 5, 2), (73, .iload 5, 2), (75, .invokestatic 326, 3), (78, .istore 6, 2), (80, .bipush (-9), 2), (82, .istore 7, 2), (84, .ldc 216, 2), (86, .istore 8, 2), (88, .iconst 0, 1), (89, .istore 9, 2), (91, .iload 9, 2), (93, .iload 6, 2), (95, .if_icmp .ge 54, 3), (98, .aload_n 0, 1), (99, .iload 9, 2), (101, .iload 5, 2), (103, .invokevirtual 329, 3), (106, .aload_n 0, 1), (107, .invokevirtual 332, 3), (110, .ifCond .eq 14, 3), (113, .aload_n 0, 1), (114, .iload_n 2, 1), (115, .iload_n 3, 1), (116, .iload 5, 2), (118, .invokevirtual 369, 3), (121, .goto 5, 3), (124, .ldc 216, 2), (126, .istore 10, 2), (128, .iload 10, 2), (130, .iload 8, 2), (132, .if_icmp .ge 11, 3), (135, .iload 9, 2), (137, .istore 7, 2), (139, .iload 10, 2), (141, .istore 8, 2), (143, .iinc 9 1, 3), (146, .goto (-55), 3), (149, .iload 7, 2), (151, .ifCond .lt 8, 3), (154, .iload 4, 2), (156, .ifCond .ge 16, 3), (159, .iload 7, 2), (161, .ifCond .ge 8, 3), (164, .bipush (-9), 2), (166, .goto 5, 3), (169, .iload 8, 2), (171, .ireturn, 1), (172, .aload_n 0, 1), (173, .iload 7, 2), (175, .iload 5, 2), (177, .invokevirtual 329, 3), (180, .aload_n 0, 1), (181, .getfield 103, 3), (184, .aload_n 0, 1), (185, .getfield 97, 3), (188, .iload 4, 2), (190, .iaload, 1), (191, .iaload, 1), (192, .ireturn, 1)]
def i_X11_night : MI := (RX11, cX11_night, 11, (some .int), "night", { frames := 3, cells := 0, slots := 0, locals := 74 })
theorem D_X11_night : tbOK (i_X11_night).2.1 tb_X11_night := by show ∀ q ∈ tb_X11_night, decode cX11_night q.1 = .ok (q.2.1, q.2.2); decide +kernel
def po_X11_night (S : Sk) (I : II) (r : Int32 × II) : Option LV × Sk × II := (some (vI r.1), S, r.2)
def jn_X11_night_159 (fu : Nat) (S : Sk) (I : II) (a0 : Nat) (x7 : Int32) (x8 : Int32) : Option (Int32 × II) :=
  if 0 ≤ x7 then some ((x8, I)) else some ((((-9) : Int32), I))
def jn_X11_night_143 (fu : Nat) (S : Sk) (I : II) (self91 : Int32 → Int32 → Int32 → II → Option (Int32 × II)) (a0 : Nat) (x2 : Int32) (x3 : Int32) (x4 : Int32) (x5 : Int32) (x6 : Int32) (x7 : Int32) (x8 : Int32) (x9 : Int32) : Option (Int32 × II) :=
  self91 x7 x8 (x9 + (1 : Int32)) I
def jn_X11_night_126 (fu : Nat) (S : Sk) (I : II) (self91 : Int32 → Int32 → Int32 → II → Option (Int32 × II)) (a0 : Nat) (x2 : Int32) (x3 : Int32) (x4 : Int32) (x5 : Int32) (x6 : Int32) (x7 : Int32) (x8 : Int32) (x9 : Int32) (s0 : Int32) : Option (Int32 × II) :=
  if x8 ≤ s0 then jn_X11_night_143 fu S I self91 a0 x2 x3 x4 x5 x6 x7 x8 x9 else jn_X11_night_143 fu S I self91 a0 x2 x3 x4 x5 x6 x9 s0 x9
def lp_X11_night_91 (fu : Nat) (S : Sk) (a0 : Nat) (x2 : Int32) (x3 : Int32) (x4 : Int32) (x5 : Int32) (x6 : Int32) (self91 : Int32 → Int32 → Int32 → II → Option (Int32 × II)) (x7 : Int32) (x8 : Int32) (x9 : Int32) (I : II) : Option (Int32 × II) :=
  if x6 ≤ x9 then if x7 < 0 then jn_X11_night_159 fu S I a0 x7 x8 else if 0 ≤ x4 then (f_X11_layRow fu S I a0 x7 x5).bind fun q6 => (gd (inb S (S.1 a0 42) x4) (gd (inb S (S.1 a0 48) (rd q6 (S.1 a0 42) x4)) (some (((rd q6 (S.1 a0 48) (rd q6 (S.1 a0 42) x4)), q6))))) else jn_X11_night_159 fu S I a0 x7 x8 else (f_X11_layRow fu S I a0 x9 x5).bind fun q13 => ((f_X11_areAllUnlike fu S q13 a0).bind fun q16 => (if q16 = 0 then jn_X11_night_126 fu S q13 self91 a0 x2 x3 x4 x5 x6 x7 x8 x9 (1000000 : Int32) else (f_X11_doneBy fu S q13 a0 x2 x3 x5).bind fun q20 => (jn_X11_night_126 fu S q13 self91 a0 x2 x3 x4 x5 x6 x7 x8 x9 q20)))
def f_X11_night (fu : Nat) (S : Sk) (I : II) (a0 : Nat) (x1 : Int32) (x2 : Int32) (x3 : Int32) (x4 : Int32) : Option (Int32 × II) :=
  (f_X11_boardMany fu S I a0).bind fun q23 => (if (t_X11_noStop I a0 x2) = 0 then if (t_X11_in x4.toInt64 ((-1) : Int64) (q23.toInt64 - (1 : Int64))) = 0 then some ((((-1) : Int32), I)) else if (t_X11_in x1.toInt64 (0 : Int64) (58 : Int64)) = 0 then some ((((-2) : Int32), I)) else if (t_X11_in x3.toInt64 (0 : Int64) (2879 : Int64)) = 0 then some ((((-2) : Int32), I)) else (f_X11_layBoards fu S I a0 x1).bind fun q34 => (lt (upI q34 a0 40 q23) fun I37 => ((f_X11_power fu S I37 q23 q23).bind fun q38 => (fix4 (lp_X11_night_91 fu S a0 x2 x3 x4 q23 q38) fu ((-9) : Int32) (1000000 : Int32) (0 : Int32) I37))) else some ((((-1) : Int32), I)))
set_option maxRecDepth 100000 in
set_option maxHeartbeats 4000000 in
theorem gg_X11_night {E : EV} (fu : Nat) (S0 : Sk) (I0 : II) (a0 : Nat) (x1 : Int32) (x2 : Int32) (x3 : Int32) (x4 : Int32) (ht0 : tyO S0 11 a0) : GG E i_X11_night (enM E i_X11_night S0 (po_X11_night S0 I0)) S0 I0 (0, 0) 0 [(0, vA (a0 + 1)), (1, vI x1), (2, vI x2), (3, vI x3), (4, vI x4)] [] (f_X11_night fu S0 I0 a0 x1 x2 x3 x4) := by
  have hj159 : ∀ (I : II) (x7 : Int32) (x8 : Int32), GG E i_X11_night (enM E i_X11_night S0 (po_X11_night S0 I0)) S0 I (0, 0) 159 [(7, vI x7), (8, vI x8)] [] (jn_X11_night_159 fu S0 I a0 x7 x8) := by
    intro I x7 x8 
    unfold jn_X11_night_159
    refine g_iload (dk D_X11_night 79 rfl) rfl ?_
    refine g_if_ge (tgt := 169) (dk D_X11_night 80 rfl) rfl (fun hc1 => ?_) (fun hc1 => ?_)
    · refine g_iload (dk D_X11_night 83 rfl) rfl ?_
      exact g_ireturn rfl rfl Sx.rf rfl (by decide) (by decide) (dk D_X11_night 84 rfl)
    · refine g_bipush (v := ((-9) : Int32)) (dk D_X11_night 81 rfl) rfl ?_
      refine g_goto (tgt := 171) (dk D_X11_night 82 rfl) rfl ?_
      exact g_ireturn rfl rfl Sx.rf rfl (by decide) (by decide) (dk D_X11_night 84 rfl)
  have hl91 : ∀ (x5 : Int32) (x6 : Int32) (nn : Nat) (x7 : Int32) (x8 : Int32) (x9 : Int32) (I : II), True → GG E i_X11_night (enM E i_X11_night S0 (po_X11_night S0 I0)) S0 I (0, 0) 91 [(0, vA (a0 + 1)), (2, vI x2), (3, vI x3), (4, vI x4), (5, vI x5), (6, vI x6), (7, vI x7), (8, vI x8), (9, vI x9)] [] (fix4 (lp_X11_night_91 fu S0 a0 x2 x3 x4 x5 x6) nn x7 x8 x9 I) := by
    intro x5 x6 
    refine g_fix4 (fun _ _ _ _ => S0) (fun x7 x8 x9 I => I) (fun x7 x8 x9 I => [(0, vA (a0 + 1)), (2, vI x2), (3, vI x3), (4, vI x4), (5, vI x5), (6, vI x6), (7, vI x7), (8, vI x8), (9, vI x9)]) (fun x7 x8 x9 I => True) ?_
    intro self91 hself91 x7 x8 x9 I hinv
    have hj143 : ∀ (I : II) (x7 : Int32) (x8 : Int32) (x9 : Int32), GG E i_X11_night (enM E i_X11_night S0 (po_X11_night S0 I0)) S0 I (0, 0) 143 [(0, vA (a0 + 1)), (2, vI x2), (3, vI x3), (4, vI x4), (5, vI x5), (6, vI x6), (7, vI x7), (8, vI x8), (9, vI x9)] [] (jn_X11_night_143 fu S0 I self91 a0 x2 x3 x4 x5 x6 x7 x8 x9) := by
      intro I x7 x8 x9 
      unfold jn_X11_night_143
      refine g_iinc (v := (1 : Int32)) (L' := [(0, vA (a0 + 1)), (2, vI x2), (3, vI x3), (4, vI x4), (5, vI x5), (6, vI x6), (7, vI x7), (8, vI x8), (9, vI (x9 + (1 : Int32)))]) (dk D_X11_night 73 rfl) rfl rfl (Nat.le_of_ble_eq_true rfl) rfl ?_
      refine g_goto (tgt := 91) (dk D_X11_night 74 rfl) rfl ?_
      exact hself91 x7 x8 (x9 + (1 : Int32)) I trivial
    have hj126 : ∀ (I : II) (x7 : Int32) (x8 : Int32) (x9 : Int32) (s0 : Int32), GG E i_X11_night (enM E i_X11_night S0 (po_X11_night S0 I0)) S0 I (0, 0) 126 [(0, vA (a0 + 1)), (2, vI x2), (3, vI x3), (4, vI x4), (5, vI x5), (6, vI x6), (7, vI x7), (8, vI x8), (9, vI x9)] [vI s0] (jn_X11_night_126 fu S0 I self91 a0 x2 x3 x4 x5 x6 x7 x8 x9 s0) := by
      intro I x7 x8 x9 s0 
      unfold jn_X11_night_126
      refine g_istore (L' := [(0, vA (a0 + 1)), (2, vI x2), (3, vI x3), (4, vI x4), (5, vI x5), (6, vI x6), (7, vI x7), (8, vI x8), (9, vI x9), (10, vI s0)]) (dk D_X11_night 65 rfl) (Nat.le_of_ble_eq_true rfl) rfl ?_
      refine g_iload (dk D_X11_night 66 rfl) rfl ?_
      refine g_iload (dk D_X11_night 67 rfl) rfl ?_
      refine g_icmp_ge (tgt := 143) (dk D_X11_night 68 rfl) rfl (fun hc2 => ?_) (fun hc2 => ?_)
      · refine g_Lp [0, 1, 2, 3, 4, 5, 6, 7, 8] rfl ?_
        exact hj143 I x7 x8 x9
      · refine g_iload (dk D_X11_night 69 rfl) rfl ?_
        refine g_istore (L' := [(0, vA (a0 + 1)), (2, vI x2), (3, vI x3), (4, vI x4), (5, vI x5), (6, vI x6), (7, vI x9), (8, vI x8), (9, vI x9), (10, vI s0)]) (dk D_X11_night 70 rfl) (Nat.le_of_ble_eq_true rfl) rfl ?_
        refine g_iload (dk D_X11_night 71 rfl) rfl ?_
        refine g_istore (L' := [(0, vA (a0 + 1)), (2, vI x2), (3, vI x3), (4, vI x4), (5, vI x5), (6, vI x6), (7, vI x9), (8, vI s0), (9, vI x9), (10, vI s0)]) (dk D_X11_night 72 rfl) (Nat.le_of_ble_eq_true rfl) rfl ?_
        refine g_Lp [0, 1, 2, 3, 4, 5, 6, 7, 8] rfl ?_
        exact hj143 I x9 s0 x9
    unfold lp_X11_night_91
    refine g_iload (dk D_X11_night 48 rfl) rfl ?_
    refine g_iload (dk D_X11_night 49 rfl) rfl ?_
    refine g_icmp_ge (tgt := 149) (dk D_X11_night 50 rfl) rfl (fun hc3 => ?_) (fun hc3 => ?_)
    · refine g_iload (dk D_X11_night 75 rfl) rfl ?_
      refine g_if_lt (tgt := 159) (dk D_X11_night 76 rfl) rfl (fun hc4 => ?_) (fun hc4 => ?_)
      · refine g_Lp [6, 7] rfl ?_
        exact hj159 I x7 x8
      · refine g_iload (dk D_X11_night 77 rfl) rfl ?_
        refine g_if_ge (tgt := 172) (dk D_X11_night 78 rfl) rfl (fun hc5 => ?_) (fun hc5 => ?_)
        · refine g_aload_n (dk D_X11_night 85 rfl) rfl ?_
          refine g_iload (dk D_X11_night 86 rfl) rfl ?_
          refine g_iload (dk D_X11_night 87 rfl) rfl ?_
          refine g_bind (fun q6 hq7 => ?_)
          refine h_callVt (st := []) (c_X11_layRow (E := E) fu S0 I a0 x7 x5 q6 hq7 (ht0)) cl_RX11_329 ht0 rfl rfl (by decide) (Nat.le_of_ble_eq_true rfl) (dk D_X11_night 88 rfl) ?_
          refine g_aload_n (dk D_X11_night 89 rfl) rfl ?_
          refine g_getAt (t := 100) fl_RX11_103 rfl ht0 (dk D_X11_night 90 rfl) (fun ht9 => ?_)
          refine g_aload_n (dk D_X11_night 91 rfl) rfl ?_
          refine g_getAt (t := 100) fl_RX11_97 rfl ht0 (dk D_X11_night 92 rfl) (fun ht10 => ?_)
          refine g_iload (dk D_X11_night 93 rfl) rfl ?_
          refine g_gd (fun hi11 => ?_)
          refine g_iaload ht10 hi11 (dk D_X11_night 94 rfl) ?_
          refine g_gd (fun hi12 => ?_)
          refine g_iaload ht9 hi12 (dk D_X11_night 95 rfl) ?_
          exact g_ireturn rfl rfl Sx.rf rfl (by decide) (by decide) (dk D_X11_night 96 rfl)
        · refine g_Lp [6, 7] rfl ?_
          exact hj159 I x7 x8
    · refine g_aload_n (dk D_X11_night 51 rfl) rfl ?_
      refine g_iload (dk D_X11_night 52 rfl) rfl ?_
      refine g_iload (dk D_X11_night 53 rfl) rfl ?_
      refine g_bind (fun q13 hq14 => ?_)
      refine h_callVt (st := []) (c_X11_layRow (E := E) fu S0 I a0 x9 x5 q13 hq14 (ht0)) cl_RX11_329 ht0 rfl rfl (by decide) (Nat.le_of_ble_eq_true rfl) (dk D_X11_night 54 rfl) ?_
      refine g_aload_n (dk D_X11_night 55 rfl) rfl ?_
      refine g_bind (fun q16 hq17 => ?_)
      refine h_callVt (st := []) (c_X11_areAllUnlike (E := E) fu S0 q13 a0 q16 hq17 (ht0)) cl_RX11_332 ht0 rfl rfl (by decide) (Nat.le_of_ble_eq_true rfl) (dk D_X11_night 56 rfl) ?_
      refine g_if_eq (tgt := 124) (dk D_X11_night 57 rfl) rfl (fun hc19 => ?_) (fun hc19 => ?_)
      · refine g_ldc (dk D_X11_night 64 rfl) lk_RX11_216 ?_
        exact hj126 q13 x7 x8 x9 (1000000 : Int32)
      · refine g_aload_n (dk D_X11_night 58 rfl) rfl ?_
        refine g_iload_n (dk D_X11_night 59 rfl) rfl ?_
        refine g_iload_n (dk D_X11_night 60 rfl) rfl ?_
        refine g_iload (dk D_X11_night 61 rfl) rfl ?_
        refine g_bind (fun q20 hq21 => ?_)
        refine h_callVt (st := []) (c_X11_doneBy (E := E) fu S0 q13 a0 x2 x3 x5 q20 hq21 (ht0)) cl_RX11_369 ht0 rfl rfl (by decide) (Nat.le_of_ble_eq_true rfl) (dk D_X11_night 62 rfl) ?_
        refine g_goto (tgt := 126) (dk D_X11_night 63 rfl) rfl ?_
        exact hj126 q13 x7 x8 x9 q20
  unfold f_X11_night
  refine g_aload_n (dk D_X11_night 0 rfl) rfl ?_
  refine g_bind (fun q23 hq24 => ?_)
  refine h_callVt (st := []) (c_X11_boardMany (E := E) fu S0 I0 a0 q23 hq24 (ht0)) cl_RX11_360 ht0 rfl rfl (by decide) (Nat.le_of_ble_eq_true rfl) (dk D_X11_night 1 rfl) ?_
  refine g_istore (L' := [(0, vA (a0 + 1)), (1, vI x1), (2, vI x2), (3, vI x3), (4, vI x4), (5, vI q23)]) (dk D_X11_night 2 rfl) (Nat.le_of_ble_eq_true rfl) rfl ?_
  refine g_aload_n (dk D_X11_night 3 rfl) rfl ?_
  refine g_iload_n (dk D_X11_night 4 rfl) rfl ?_
  refine h_callVt (st := []) (c_X11_noStop (E := E) S0 I0 a0 x2 (ht0)) cl_RX11_164 ht0 rfl rfl (by decide) (Nat.le_of_ble_eq_true rfl) (dk D_X11_night 5 rfl) ?_
  refine g_if_ne (tgt := 31) (dk D_X11_night 6 rfl) rfl (fun hc27 => ?_) (fun hc27 => ?_)
  · refine g_iconst (v := ((-1) : Int32)) (dk D_X11_night 16 rfl) rfl ?_
    exact g_ireturn rfl rfl Sx.rf rfl (by decide) (by decide) (dk D_X11_night 17 rfl)
  · refine g_iload (dk D_X11_night 7 rfl) rfl ?_
    refine g_i2l (dk D_X11_night 8 rfl) ?_
    refine g_ldc2 (dk D_X11_night 9 rfl) lk_RX11_342 ?_
    refine g_iload (dk D_X11_night 10 rfl) rfl ?_
    refine g_i2l (dk D_X11_night 11 rfl) ?_
    refine g_lconst (v := (1 : Int64)) (dk D_X11_night 12 rfl) rfl ?_
    refine g_lsub (dk D_X11_night 13 rfl) ?_
    refine h_callS (st := []) (c_X11_in (E := E) S0 I0 x4.toInt64 ((-1) : Int64) (q23.toInt64 - (1 : Int64))) cl_RX11_132 rfl rfl (by decide) (Nat.le_of_ble_eq_true rfl) (dk D_X11_night 14 rfl) ?_
    refine g_if_ne (tgt := 33) (dk D_X11_night 15 rfl) rfl (fun hc29 => ?_) (fun hc29 => ?_)
    · refine g_iload_n (dk D_X11_night 18 rfl) rfl ?_
      refine g_i2l (dk D_X11_night 19 rfl) ?_
      refine g_lconst (v := (0 : Int64)) (dk D_X11_night 20 rfl) rfl ?_
      refine g_ldc2 (dk D_X11_night 21 rfl) lk_RX11_364 ?_
      refine h_callS (st := []) (c_X11_in (E := E) S0 I0 x1.toInt64 (0 : Int64) (58 : Int64)) cl_RX11_132 rfl rfl (by decide) (Nat.le_of_ble_eq_true rfl) (dk D_X11_night 22 rfl) ?_
      refine g_if_eq (tgt := 57) (dk D_X11_night 23 rfl) rfl (fun hc31 => ?_) (fun hc31 => ?_)
      · refine g_bipush (v := ((-2) : Int32)) (dk D_X11_night 30 rfl) rfl ?_
        exact g_ireturn rfl rfl Sx.rf rfl (by decide) (by decide) (dk D_X11_night 31 rfl)
      · refine g_iload_n (dk D_X11_night 24 rfl) rfl ?_
        refine g_i2l (dk D_X11_night 25 rfl) ?_
        refine g_lconst (v := (0 : Int64)) (dk D_X11_night 26 rfl) rfl ?_
        refine g_ldc2 (dk D_X11_night 27 rfl) lk_RX11_217 ?_
        refine h_callS (st := []) (c_X11_in (E := E) S0 I0 x3.toInt64 (0 : Int64) (2879 : Int64)) cl_RX11_132 rfl rfl (by decide) (Nat.le_of_ble_eq_true rfl) (dk D_X11_night 28 rfl) ?_
        refine g_if_ne (tgt := 60) (dk D_X11_night 29 rfl) rfl (fun hc33 => ?_) (fun hc33 => ?_)
        · refine g_aload_n (dk D_X11_night 32 rfl) rfl ?_
          refine g_iload_n (dk D_X11_night 33 rfl) rfl ?_
          refine g_bind (fun q34 hq35 => ?_)
          refine h_callVt (st := []) (c_X11_layBoards (E := E) fu S0 I0 a0 x1 q34 hq35 (ht0)) cl_RX11_366 ht0 rfl rfl (by decide) (Nat.le_of_ble_eq_true rfl) (dk D_X11_night 34 rfl) ?_
          refine g_aload_n (dk D_X11_night 35 rfl) rfl ?_
          refine g_iload (dk D_X11_night 36 rfl) rfl ?_
          refine g_putIt fl_RX11_317 fp_11_40 (fun h => (by cases h)) (by decide) rfl rfl ht0 (dk D_X11_night 37 rfl) ?_
          refine g_ltI (fun I37 eI37 => ?_)
          refine g_iload (dk D_X11_night 38 rfl) rfl ?_
          refine g_iload (dk D_X11_night 39 rfl) rfl ?_
          refine g_bind (fun q38 hq39 => ?_)
          refine h_callS (st := []) (c_X11_power (E := E) fu S0 I37 q23 q23 q38 hq39) cl_RX11_326 rfl rfl (by decide) (Nat.le_of_ble_eq_true rfl) (dk D_X11_night 40 rfl) ?_
          refine g_istore (L' := [(0, vA (a0 + 1)), (1, vI x1), (2, vI x2), (3, vI x3), (4, vI x4), (5, vI q23), (6, vI q38)]) (dk D_X11_night 41 rfl) (Nat.le_of_ble_eq_true rfl) rfl ?_
          refine g_bipush (v := ((-9) : Int32)) (dk D_X11_night 42 rfl) rfl ?_
          refine g_istore (L' := [(0, vA (a0 + 1)), (1, vI x1), (2, vI x2), (3, vI x3), (4, vI x4), (5, vI q23), (6, vI q38), (7, vI ((-9) : Int32))]) (dk D_X11_night 43 rfl) (Nat.le_of_ble_eq_true rfl) rfl ?_
          refine g_ldc (dk D_X11_night 44 rfl) lk_RX11_216 ?_
          refine g_istore (L' := [(0, vA (a0 + 1)), (1, vI x1), (2, vI x2), (3, vI x3), (4, vI x4), (5, vI q23), (6, vI q38), (7, vI ((-9) : Int32)), (8, vI (1000000 : Int32))]) (dk D_X11_night 45 rfl) (Nat.le_of_ble_eq_true rfl) rfl ?_
          refine g_iconst (v := (0 : Int32)) (dk D_X11_night 46 rfl) rfl ?_
          refine g_istore (L' := [(0, vA (a0 + 1)), (1, vI x1), (2, vI x2), (3, vI x3), (4, vI x4), (5, vI q23), (6, vI q38), (7, vI ((-9) : Int32)), (8, vI (1000000 : Int32)), (9, vI (0 : Int32))]) (dk D_X11_night 47 rfl) (Nat.le_of_ble_eq_true rfl) rfl ?_
          refine g_Lp [0, 2, 3, 4, 5, 6, 7, 8, 9] rfl ?_
          exact hl91 q23 q38 fu ((-9) : Int32) (1000000 : Int32) (0 : Int32) I37 trivial
        · refine g_bipush (v := ((-2) : Int32)) (dk D_X11_night 30 rfl) rfl ?_
          exact g_ireturn rfl rfl Sx.rf rfl (by decide) (by decide) (dk D_X11_night 31 rfl)
    · refine g_iconst (v := ((-1) : Int32)) (dk D_X11_night 16 rfl) rfl ?_
      exact g_ireturn rfl rfl Sx.rf rfl (by decide) (by decide) (dk D_X11_night 17 rfl)
theorem c_X11_night {E : EV} (fu : Nat) (S0 : Sk) (I0 : II) (a0 : Nat) (x1 : Int32) (x2 : Int32) (x3 : Int32) (x4 : Int32) (r : Int32 × II) (h : f_X11_night fu S0 I0 a0 x1 x2 x3 x4 = some r) (ht0 : tyO S0 11 a0) : MX E yX11_night i_X11_night S0 I0 [vA (a0 + 1), vI x1, vI x2, vI x3, vI x4] (po_X11_night S0 I0 r) :=
  MX.of h (by decide) rfl rfl (Nat.le_of_ble_eq_true rfl) (gg_X11_night fu S0 I0 a0 x1 x2 x3 x4 ht0)
def tb_X11_noQueue : List (Nat × Instr × Nat) := [(0, .aload_n 0, 1), (1, .iload_n 1, 1), (2, .invokevirtual 197, 3), (5, .ifCond .ne 23, 3), (8, .iload_n 2, 1), (9, .i2l, 1), (10, .lconst 0, 1), (11, .aload_n 0, 1), (12, .getfield 19, 3), (15, .iload_n 1, 1), (16, .iaload, 1), (17, .i2l, 1), (18, .ldc2_w 143, 3), (21, .lsub, 1), (22, .invokestatic 132, 3), (25, .ifCond .ne 7, 3), (28, .iconst 1, 1), (29, .goto 4, 3), (32, .iconst 0, 1), (33, .ireturn, 1)]
def i_X11_noQueue : MI := (RX11, cX11_noQueue, 3, (some .boolean), "noQueue", { frames := 2, cells := 0, slots := 0, locals := 46 })
theorem D_X11_noQueue : tbOK (i_X11_noQueue).2.1 tb_X11_noQueue := by show ∀ q ∈ tb_X11_noQueue, decode cX11_noQueue q.1 = .ok (q.2.1, q.2.2); decide +kernel
def po_X11_noQueue (S : Sk) (I : II) (r : Int32) : Option LV × Sk × II := (some (vI r), S, I)
def f_X11_noQueue (fu : Nat) (S : Sk) (I : II) (a0 : Nat) (x1 : Int32) (x2 : Int32) : Option (Int32) :=
  if (t_X11_noLine I a0 x1) = 0 then gd (inb S (S.1 a0 6) x1) (if (t_X11_in x2.toInt64 (0 : Int64) ((((rd I (S.1 a0 6) x1)).toInt64) - (2 : Int64))) = 0 then some ((1 : Int32)) else some ((0 : Int32))) else some ((1 : Int32))
set_option maxRecDepth 100000 in
set_option maxHeartbeats 4000000 in
theorem gg_X11_noQueue {E : EV} (fu : Nat) (S0 : Sk) (I0 : II) (a0 : Nat) (x1 : Int32) (x2 : Int32) (ht0 : tyO S0 11 a0) : GG E i_X11_noQueue (enM E i_X11_noQueue S0 (po_X11_noQueue S0 I0)) S0 I0 (0, 0) 0 [(0, vA (a0 + 1)), (1, vI x1), (2, vI x2)] [] (f_X11_noQueue fu S0 I0 a0 x1 x2) := by
  unfold f_X11_noQueue
  refine g_aload_n (dk D_X11_noQueue 0 rfl) rfl ?_
  refine g_iload_n (dk D_X11_noQueue 1 rfl) rfl ?_
  refine h_callVt (st := []) (c_X11_noLine (E := E) S0 I0 a0 x1 (ht0)) cl_RX11_197 ht0 rfl rfl (by decide) (Nat.le_of_ble_eq_true rfl) (dk D_X11_noQueue 2 rfl) ?_
  refine g_if_ne (tgt := 28) (dk D_X11_noQueue 3 rfl) rfl (fun hc2 => ?_) (fun hc2 => ?_)
  · refine g_iconst (v := (1 : Int32)) (dk D_X11_noQueue 16 rfl) rfl ?_
    refine g_goto (tgt := 33) (dk D_X11_noQueue 17 rfl) rfl ?_
    exact g_zreturn rfl rfl (Or.inr rfl) Sx.rf rfl (by decide) (by decide) (dk D_X11_noQueue 19 rfl)
  · refine g_iload_n (dk D_X11_noQueue 4 rfl) rfl ?_
    refine g_i2l (dk D_X11_noQueue 5 rfl) ?_
    refine g_lconst (v := (0 : Int64)) (dk D_X11_noQueue 6 rfl) rfl ?_
    refine g_aload_n (dk D_X11_noQueue 7 rfl) rfl ?_
    refine g_getAt (t := 100) fl_RX11_19 rfl ht0 (dk D_X11_noQueue 8 rfl) (fun ht3 => ?_)
    refine g_iload_n (dk D_X11_noQueue 9 rfl) rfl ?_
    refine g_gd (fun hi4 => ?_)
    refine g_iaload ht3 hi4 (dk D_X11_noQueue 10 rfl) ?_
    refine g_i2l (dk D_X11_noQueue 11 rfl) ?_
    refine g_ldc2 (dk D_X11_noQueue 12 rfl) lk_RX11_143 ?_
    refine g_lsub (dk D_X11_noQueue 13 rfl) ?_
    refine h_callS (st := []) (c_X11_in (E := E) S0 I0 x2.toInt64 (0 : Int64) ((((rd I0 (S0.1 a0 6) x1)).toInt64) - (2 : Int64))) cl_RX11_132 rfl rfl (by decide) (Nat.le_of_ble_eq_true rfl) (dk D_X11_noQueue 14 rfl) ?_
    refine g_if_ne (tgt := 32) (dk D_X11_noQueue 15 rfl) rfl (fun hc6 => ?_) (fun hc6 => ?_)
    · refine g_iconst (v := (0 : Int32)) (dk D_X11_noQueue 18 rfl) rfl ?_
      exact g_zreturn rfl rfl (Or.inl rfl) Sx.rf rfl (by decide) (by decide) (dk D_X11_noQueue 19 rfl)
    · refine g_iconst (v := (1 : Int32)) (dk D_X11_noQueue 16 rfl) rfl ?_
      refine g_goto (tgt := 33) (dk D_X11_noQueue 17 rfl) rfl ?_
      exact g_zreturn rfl rfl (Or.inr rfl) Sx.rf rfl (by decide) (by decide) (dk D_X11_noQueue 19 rfl)
theorem c_X11_noQueue {E : EV} (fu : Nat) (S0 : Sk) (I0 : II) (a0 : Nat) (x1 : Int32) (x2 : Int32) (r : Int32) (h : f_X11_noQueue fu S0 I0 a0 x1 x2 = some r) (ht0 : tyO S0 11 a0) : MX E yX11_noQueue i_X11_noQueue S0 I0 [vA (a0 + 1), vI x1, vI x2] (po_X11_noQueue S0 I0 r) :=
  MX.of h (by decide) rfl rfl (Nat.le_of_ble_eq_true rfl) (gg_X11_noQueue fu S0 I0 a0 x1 x2 ht0)
theorem cl_RX11_372 : CV0 RX11 372 yX11_noQueue i_X11_noQueue 2 11 := ⟨⟨(gm 1450 (by decide +kernel) (by decide +kernel)), (gm 72 (by decide +kernel) (by decide +kernel)), ((gm 1453 (by decide +kernel) (by decide +kernel))), by decide +kernel, by decide +kernel, by decide +kernel⟩, ⟨(gm 1452 (by decide +kernel) (by decide +kernel)), (gm 61 (by decide +kernel) (by decide +kernel))⟩, rfl, by decide⟩
theorem lk_RX11_375 : Cond.constantLong RX11 375 (999 : Int64) ∈ lw_good := (gm 1454 (by decide +kernel) (by decide +kernel))
def tb_X11_waiting : List (Nat × Instr × Nat) := [(0, .aload_n 0, 1), (1, .iload_n 1, 1), (2, .iload_n 2, 1), (3, .invokevirtual 372, 3), (6, .ifCond .eq 5, 3), (9, .iconst (-1), 1), (10, .ireturn, 1), (11, .iload_n 3, 1), (12, .i2l, 1), (13, .lconst 0, 1), (14, .ldc2_w 375, 3), (17, .invokestatic 132, 3), (20, .ifCond .ne 6, 3), (23, .bipush (-2), 2), (25, .ireturn, 1), (26, .aload_n 0, 1), (27, .getfield 43, 3), (30, .bipush 8, 2), (32, .iload_n 1, 1), (33, .imul, 1), (34, .iload_n 2, 1), (35, .iadd, 1), (36, .iaload, 1), (37, .istore 4, 2), (39, .aload_n 0, 1), (40, .getfield 43, 3), (43, .bipush 8, 2), (45, .iload_n 1, 1), (46, .imul, 1), (47, .iload_n 2, 1), (48, .iadd, 1), (49, .iload_n 3, 1), (50, .iastore, 1), (51, .iload 4, 2), (53, .ireturn, 1)]
def i_X11_waiting : MI := (RX11, cX11_waiting, 5, (some .int), "waiting", { frames := 3, cells := 0, slots := 0, locals := 68 })
theorem D_X11_waiting : tbOK (i_X11_waiting).2.1 tb_X11_waiting := by show ∀ q ∈ tb_X11_waiting, decode cX11_waiting q.1 = .ok (q.2.1, q.2.2); decide +kernel
def po_X11_waiting (S : Sk) (I : II) (r : Int32 × II) : Option LV × Sk × II := (some (vI r.1), S, r.2)
def f_X11_waiting (fu : Nat) (S : Sk) (I : II) (a0 : Nat) (x1 : Int32) (x2 : Int32) (x3 : Int32) : Option (Int32 × II) :=
  (f_X11_noQueue fu S I a0 x1 x2).bind fun q1 => (if q1 = 0 then if (t_X11_in x3.toInt64 (0 : Int64) (999 : Int64)) = 0 then some ((((-2) : Int32), I)) else gd (inb S (S.1 a0 14) (((8 : Int32) * x1) + x2)) (lt (rd I (S.1 a0 14) (((8 : Int32) * x1) + x2)) fun x4_9 => (lt (wr I (S.1 a0 14) (((8 : Int32) * x1) + x2) x3) fun I11 => (some ((x4_9, I11))))) else some ((((-1) : Int32), I)))
set_option maxRecDepth 100000 in
set_option maxHeartbeats 4000000 in
theorem gg_X11_waiting {E : EV} (fu : Nat) (S0 : Sk) (I0 : II) (a0 : Nat) (x1 : Int32) (x2 : Int32) (x3 : Int32) (ht0 : tyO S0 11 a0) : GG E i_X11_waiting (enM E i_X11_waiting S0 (po_X11_waiting S0 I0)) S0 I0 (0, 0) 0 [(0, vA (a0 + 1)), (1, vI x1), (2, vI x2), (3, vI x3)] [] (f_X11_waiting fu S0 I0 a0 x1 x2 x3) := by
  unfold f_X11_waiting
  refine g_aload_n (dk D_X11_waiting 0 rfl) rfl ?_
  refine g_iload_n (dk D_X11_waiting 1 rfl) rfl ?_
  refine g_iload_n (dk D_X11_waiting 2 rfl) rfl ?_
  refine g_bind (fun q1 hq2 => ?_)
  refine h_callVt (st := []) (c_X11_noQueue (E := E) fu S0 I0 a0 x1 x2 q1 hq2 (ht0)) cl_RX11_372 ht0 rfl rfl (by decide) (Nat.le_of_ble_eq_true rfl) (dk D_X11_waiting 3 rfl) ?_
  refine g_if_eq (tgt := 11) (dk D_X11_waiting 4 rfl) rfl (fun hc4 => ?_) (fun hc4 => ?_)
  · refine g_iload_n (dk D_X11_waiting 7 rfl) rfl ?_
    refine g_i2l (dk D_X11_waiting 8 rfl) ?_
    refine g_lconst (v := (0 : Int64)) (dk D_X11_waiting 9 rfl) rfl ?_
    refine g_ldc2 (dk D_X11_waiting 10 rfl) lk_RX11_375 ?_
    refine h_callS (st := []) (c_X11_in (E := E) S0 I0 x3.toInt64 (0 : Int64) (999 : Int64)) cl_RX11_132 rfl rfl (by decide) (Nat.le_of_ble_eq_true rfl) (dk D_X11_waiting 11 rfl) ?_
    refine g_if_ne (tgt := 26) (dk D_X11_waiting 12 rfl) rfl (fun hc6 => ?_) (fun hc6 => ?_)
    · refine g_aload_n (dk D_X11_waiting 15 rfl) rfl ?_
      refine g_getAt (t := 100) fl_RX11_43 rfl ht0 (dk D_X11_waiting 16 rfl) (fun ht7 => ?_)
      refine g_bipush (v := (8 : Int32)) (dk D_X11_waiting 17 rfl) rfl ?_
      refine g_iload_n (dk D_X11_waiting 18 rfl) rfl ?_
      refine g_imul (dk D_X11_waiting 19 rfl) ?_
      refine g_iload_n (dk D_X11_waiting 20 rfl) rfl ?_
      refine g_iadd (dk D_X11_waiting 21 rfl) ?_
      refine g_gd (fun hi8 => ?_)
      refine g_iaload ht7 hi8 (dk D_X11_waiting 22 rfl) ?_
      refine g_ltV (fun x4_9 ex4_9 => ?_)
      refine g_istore (L' := [(0, vA (a0 + 1)), (1, vI x1), (2, vI x2), (3, vI x3), (4, vI x4_9)]) (dk D_X11_waiting 23 rfl) (Nat.le_of_ble_eq_true rfl) rfl ?_
      refine g_aload_n (dk D_X11_waiting 24 rfl) rfl ?_
      refine g_getAt (t := 100) fl_RX11_43 rfl ht0 (dk D_X11_waiting 25 rfl) (fun ht10 => ?_)
      refine g_bipush (v := (8 : Int32)) (dk D_X11_waiting 26 rfl) rfl ?_
      refine g_iload_n (dk D_X11_waiting 27 rfl) rfl ?_
      refine g_imul (dk D_X11_waiting 28 rfl) ?_
      refine g_iload_n (dk D_X11_waiting 29 rfl) rfl ?_
      refine g_iadd (dk D_X11_waiting 30 rfl) ?_
      refine g_iload_n (dk D_X11_waiting 31 rfl) rfl ?_
      refine g_iastore ht7 hi8 (dk D_X11_waiting 32 rfl) ?_
      refine g_ltI (fun I11 eI11 => ?_)
      refine g_iload (dk D_X11_waiting 33 rfl) rfl ?_
      exact g_ireturn rfl rfl Sx.rf rfl (by decide) (by decide) (dk D_X11_waiting 34 rfl)
    · refine g_bipush (v := ((-2) : Int32)) (dk D_X11_waiting 13 rfl) rfl ?_
      exact g_ireturn rfl rfl Sx.rf rfl (by decide) (by decide) (dk D_X11_waiting 14 rfl)
  · refine g_iconst (v := ((-1) : Int32)) (dk D_X11_waiting 5 rfl) rfl ?_
    exact g_ireturn rfl rfl Sx.rf rfl (by decide) (by decide) (dk D_X11_waiting 6 rfl)
theorem c_X11_waiting {E : EV} (fu : Nat) (S0 : Sk) (I0 : II) (a0 : Nat) (x1 : Int32) (x2 : Int32) (x3 : Int32) (r : Int32 × II) (h : f_X11_waiting fu S0 I0 a0 x1 x2 x3 = some r) (ht0 : tyO S0 11 a0) : MX E yX11_waiting i_X11_waiting S0 I0 [vA (a0 + 1), vI x1, vI x2, vI x3] (po_X11_waiting S0 I0 r) :=
  MX.of h (by decide) rfl rfl (Nat.le_of_ble_eq_true rfl) (gg_X11_waiting fu S0 I0 a0 x1 x2 x3 ht0)
theorem lk_RX11_377 : Cond.constantLong RX11 377 (99 : Int64) ∈ lw_good := (gm 1459 (by decide +kernel) (by decide +kernel))
def tb_X11_seats : List (Nat × Instr × Nat) := [(0, .iload_n 1, 1), (1, .i2l, 1), (2, .lconst 1, 1), (3, .ldc2_w 377, 3), (6, .invokestatic 132, 3), (9, .ifCond .ne 6, 3), (12, .bipush (-2), 2), (14, .ireturn, 1), (15, .aload_n 0, 1), (16, .getfield 124, 3), (19, .istore_n 2, 1), (20, .aload_n 0, 1), (21, .iload_n 1, 1), (22, .putfield 124, 3), (25, .iload_n 2, 1), (26, .ireturn, 1)]
def i_X11_seats : MI := (RX11, cX11_seats, 3, (some .int), "seats", { frames := 1, cells := 0, slots := 0, locals := 25 })
theorem D_X11_seats : tbOK (i_X11_seats).2.1 tb_X11_seats := by show ∀ q ∈ tb_X11_seats, decode cX11_seats q.1 = .ok (q.2.1, q.2.2); decide +kernel
def po_X11_seats (S : Sk) (I : II) (r : Int32 × II) : Option LV × Sk × II := (some (vI r.1), S, r.2)
def f_X11_seats (fu : Nat) (S : Sk) (I : II) (a0 : Nat) (x1 : Int32) : Option (Int32 × II) :=
  if (t_X11_in x1.toInt64 (1 : Int64) (99 : Int64)) = 0 then some ((((-2) : Int32), I)) else lt (I a0 51) fun x2_3 => (lt (upI I a0 51 x1) fun I4 => (some ((x2_3, I4))))
set_option maxRecDepth 100000 in
set_option maxHeartbeats 4000000 in
theorem gg_X11_seats {E : EV} (fu : Nat) (S0 : Sk) (I0 : II) (a0 : Nat) (x1 : Int32) (ht0 : tyO S0 11 a0) : GG E i_X11_seats (enM E i_X11_seats S0 (po_X11_seats S0 I0)) S0 I0 (0, 0) 0 [(0, vA (a0 + 1)), (1, vI x1)] [] (f_X11_seats fu S0 I0 a0 x1) := by
  unfold f_X11_seats
  refine g_iload_n (dk D_X11_seats 0 rfl) rfl ?_
  refine g_i2l (dk D_X11_seats 1 rfl) ?_
  refine g_lconst (v := (1 : Int64)) (dk D_X11_seats 2 rfl) rfl ?_
  refine g_ldc2 (dk D_X11_seats 3 rfl) lk_RX11_377 ?_
  refine h_callS (st := []) (c_X11_in (E := E) S0 I0 x1.toInt64 (1 : Int64) (99 : Int64)) cl_RX11_132 rfl rfl (by decide) (Nat.le_of_ble_eq_true rfl) (dk D_X11_seats 4 rfl) ?_
  refine g_if_ne (tgt := 15) (dk D_X11_seats 5 rfl) rfl (fun hc2 => ?_) (fun hc2 => ?_)
  · refine g_aload_n (dk D_X11_seats 8 rfl) rfl ?_
    refine g_getIt fl_RX11_124 (by decide) ht0 (dk D_X11_seats 9 rfl) ?_
    refine g_ltV (fun x2_3 ex2_3 => ?_)
    refine g_istore_n (L' := [(0, vA (a0 + 1)), (1, vI x1), (2, vI x2_3)]) (dk D_X11_seats 10 rfl) (Nat.le_of_ble_eq_true rfl) rfl ?_
    refine g_aload_n (dk D_X11_seats 11 rfl) rfl ?_
    refine g_iload_n (dk D_X11_seats 12 rfl) rfl ?_
    refine g_putIt fl_RX11_124 fp_11_51 (fun h => (by cases h)) (by decide) rfl rfl ht0 (dk D_X11_seats 13 rfl) ?_
    refine g_ltI (fun I4 eI4 => ?_)
    refine g_iload_n (dk D_X11_seats 14 rfl) rfl ?_
    exact g_ireturn rfl rfl Sx.rf rfl (by decide) (by decide) (dk D_X11_seats 15 rfl)
  · refine g_bipush (v := ((-2) : Int32)) (dk D_X11_seats 6 rfl) rfl ?_
    exact g_ireturn rfl rfl Sx.rf rfl (by decide) (by decide) (dk D_X11_seats 7 rfl)
theorem c_X11_seats {E : EV} (fu : Nat) (S0 : Sk) (I0 : II) (a0 : Nat) (x1 : Int32) (r : Int32 × II) (h : f_X11_seats fu S0 I0 a0 x1 = some r) (ht0 : tyO S0 11 a0) : MX E yX11_seats i_X11_seats S0 I0 [vA (a0 + 1), vI x1] (po_X11_seats S0 I0 r) :=
  MX.of h (by decide) rfl rfl (Nat.le_of_ble_eq_true rfl) (gg_X11_seats fu S0 I0 a0 x1 ht0)
def tb_X11_standing : List (Nat × Instr × Nat) := [(0, .aload_n 0, 1), (1, .iload_n 1, 1), (2, .invokevirtual 197, 3), (5, .ifCond .ne 17, 3), (8, .iload_n 2, 1), (9, .iconst (-1), 1), (10, .if_icmp .eq 14, 3), (13, .aload_n 0, 1), (14, .iload_n 1, 1), (15, .iload_n 2, 1), (16, .invokevirtual 372, 3), (19, .ifCond .eq 5, 3), (22, .iconst (-1), 1), (23, .ireturn, 1), (24, .iload_n 3, 1), (25, .i2l, 1), (26, .lconst 0, 1), (27, .ldc2_w 375, 3), (30, .invokestatic 132, 3), (33, .ifCond .ne 6, 3), (36, .bipush (-2), 2), (38, .ireturn, 1), (39, .iload_n 3, 1), (40, .aload_n 0, 1), (41, .getfield 124, 3), (44, .imul, 1), (45, .istore 4, 2), (47, .iconst 0, 1), (48, .istore 5, 2), (50, .iconst 0, 1), (51, .istore 6, 2), (53, .iload 6, 2), (55, .aload_n 0, 1), (56, .getfield 19, 3), (59, .iload_n 1, 1), (60, .iaload, 1), (61, .iconst 1, 1), (62, .isub, 1), (63, .if_icmp .ge 68, 3), (66, .iload 4, 2), (68, .aload_n 0, 1), (69, .getfield 43, 3), (72, .bipush 8, 2), (74, .iload_n 1, 1), (75, .imul, 1), (76, .iload 6, 2), (78, .iadd, 1), (79, .iaload, 1), (80, .invokestatic 257, 3), (83, .istore 7, 2), (85, .iload 4, 2), (87, .iload 7, 2), (89, .isub, 1), (90, .istore 4, 2), (92, .aload_n 0, 1), (93, .getfield 43, 3), (96, .bipush 8, 2), (98, .iload_n 1, 1), (99, .imul, 1), (100, .iload 6, 2), (102, .iadd, 1), (103, .iaload, 1), (104, .iload 7, 2), (106, .isub, 1), (107, .istore 8, 2), (109, .iload 5, 2), (111, .iload 8, 2), (113, .iadd, 1), (114, .istore 5, 2), (116, .iload 6, 2), (118, .iload_n 2, 1), (119, .if_icmp .ne 6, 3), (122, .iload 8, 2), (124, .ireturn, 1), (125, .iinc 6 1, 3), (128, .goto (-75), 3), (131, .iload 5, 2), (133, .ireturn, 1)]
def i_X11_standing : MI := (RX11, cX11_standing, 9, (some .int), "standing", { frames := 3, cells := 0, slots := 0, locals := 68 })
theorem D_X11_standing : tbOK (i_X11_standing).2.1 tb_X11_standing := by show ∀ q ∈ tb_X11_standing, decode cX11_standing q.1 = .ok (q.2.1, q.2.2); decide +kernel
def po_X11_standing (S : Sk) (I : II) (r : Int32) : Option LV × Sk × II := (some (vI r), S, I)
def lp_X11_standing_53 (fu : Nat) (S : Sk) (I : II) (a0 : Nat) (x1 : Int32) (x2 : Int32) (self53 : Int32 → Int32 → Int32 → Option (Int32)) (x4 : Int32) (x5 : Int32) (x6 : Int32) : Option (Int32) :=
  gd (inb S (S.1 a0 6) x1) (if ((rd I (S.1 a0 6) x1) - (1 : Int32)) ≤ x6 then some (x5) else gd (inb S (S.1 a0 14) (((8 : Int32) * x1) + x6)) (lt (t_X11_lesser x4 (rd I (S.1 a0 14) (((8 : Int32) * x1) + x6))) fun x7_7 => (lt (x4 - x7_7) fun x4_8 => (lt ((rd I (S.1 a0 14) (((8 : Int32) * x1) + x6)) - x7_7) fun x8_10 => (lt (x5 + x8_10) fun x5_11 => (if x6 = x2 then some (x8_10) else self53 x4_8 x5_11 (x6 + (1 : Int32))))))))
def jn_X11_standing_24 (fu : Nat) (S : Sk) (I : II) (a0 : Nat) (x1 : Int32) (x2 : Int32) (x3 : Int32) : Option (Int32) :=
  if (t_X11_in x3.toInt64 (0 : Int64) (999 : Int64)) = 0 then some (((-2) : Int32)) else lt (x3 * (I a0 51)) fun x4_15 => (fix3 (lp_X11_standing_53 fu S I a0 x1 x2) fu x4_15 (0 : Int32) (0 : Int32))
def f_X11_standing (fu : Nat) (S : Sk) (I : II) (a0 : Nat) (x1 : Int32) (x2 : Int32) (x3 : Int32) : Option (Int32) :=
  if (t_X11_noLine I a0 x1) = 0 then if x2 = ((-1) : Int32) then jn_X11_standing_24 fu S I a0 x1 x2 x3 else (f_X11_noQueue fu S I a0 x1 x2).bind fun q19 => (if q19 = 0 then jn_X11_standing_24 fu S I a0 x1 x2 x3 else some (((-1) : Int32))) else some (((-1) : Int32))
set_option maxRecDepth 100000 in
set_option maxHeartbeats 4000000 in
theorem gg_X11_standing {E : EV} (fu : Nat) (S0 : Sk) (I0 : II) (a0 : Nat) (x1 : Int32) (x2 : Int32) (x3 : Int32) (ht0 : tyO S0 11 a0) : GG E i_X11_standing (enM E i_X11_standing S0 (po_X11_standing S0 I0)) S0 I0 (0, 0) 0 [(0, vA (a0 + 1)), (1, vI x1), (2, vI x2), (3, vI x3)] [] (f_X11_standing fu S0 I0 a0 x1 x2 x3) := by
  have hl53 : ∀ (nn : Nat) (x4 : Int32) (x5 : Int32) (x6 : Int32), True → GG E i_X11_standing (enM E i_X11_standing S0 (po_X11_standing S0 I0)) S0 I0 (0, 0) 53 [(0, vA (a0 + 1)), (1, vI x1), (2, vI x2), (4, vI x4), (5, vI x5), (6, vI x6)] [] (fix3 (lp_X11_standing_53 fu S0 I0 a0 x1 x2) nn x4 x5 x6) := by
    refine g_fix3 (fun _ _ _ => S0) (fun _ _ _ => I0) (fun x4 x5 x6 => [(0, vA (a0 + 1)), (1, vI x1), (2, vI x2), (4, vI x4), (5, vI x5), (6, vI x6)]) (fun x4 x5 x6 => True) ?_
    intro self53 hself53 x4 x5 x6 hinv
    unfold lp_X11_standing_53
    refine g_iload (dk D_X11_standing 31 rfl) rfl ?_
    refine g_aload_n (dk D_X11_standing 32 rfl) rfl ?_
    refine g_getAt (t := 100) fl_RX11_19 rfl ht0 (dk D_X11_standing 33 rfl) (fun ht1 => ?_)
    refine g_iload_n (dk D_X11_standing 34 rfl) rfl ?_
    refine g_gd (fun hi2 => ?_)
    refine g_iaload ht1 hi2 (dk D_X11_standing 35 rfl) ?_
    refine g_iconst (v := (1 : Int32)) (dk D_X11_standing 36 rfl) rfl ?_
    refine g_isub (dk D_X11_standing 37 rfl) ?_
    refine g_icmp_ge (tgt := 131) (dk D_X11_standing 38 rfl) rfl (fun hc3 => ?_) (fun hc3 => ?_)
    · refine g_iload (dk D_X11_standing 76 rfl) rfl ?_
      exact g_ireturn rfl rfl Sx.rf rfl (by decide) (by decide) (dk D_X11_standing 77 rfl)
    · refine g_iload (dk D_X11_standing 39 rfl) rfl ?_
      refine g_aload_n (dk D_X11_standing 40 rfl) rfl ?_
      refine g_getAt (t := 100) fl_RX11_43 rfl ht0 (dk D_X11_standing 41 rfl) (fun ht4 => ?_)
      refine g_bipush (v := (8 : Int32)) (dk D_X11_standing 42 rfl) rfl ?_
      refine g_iload_n (dk D_X11_standing 43 rfl) rfl ?_
      refine g_imul (dk D_X11_standing 44 rfl) ?_
      refine g_iload (dk D_X11_standing 45 rfl) rfl ?_
      refine g_iadd (dk D_X11_standing 46 rfl) ?_
      refine g_gd (fun hi5 => ?_)
      refine g_iaload ht4 hi5 (dk D_X11_standing 47 rfl) ?_
      refine h_callS (st := []) (c_X11_lesser (E := E) S0 I0 x4 (rd I0 (S0.1 a0 14) (((8 : Int32) * x1) + x6))) cl_RX11_257 rfl rfl (by decide) (Nat.le_of_ble_eq_true rfl) (dk D_X11_standing 48 rfl) ?_
      refine g_ltV (fun x7_7 ex7_7 => ?_)
      refine g_istore (L' := [(0, vA (a0 + 1)), (1, vI x1), (2, vI x2), (4, vI x4), (5, vI x5), (6, vI x6), (7, vI x7_7)]) (dk D_X11_standing 49 rfl) (Nat.le_of_ble_eq_true rfl) rfl ?_
      refine g_iload (dk D_X11_standing 50 rfl) rfl ?_
      refine g_iload (dk D_X11_standing 51 rfl) rfl ?_
      refine g_isub (dk D_X11_standing 52 rfl) ?_
      refine g_ltV (fun x4_8 ex4_8 => ?_)
      refine g_istore (L' := [(0, vA (a0 + 1)), (1, vI x1), (2, vI x2), (4, vI x4_8), (5, vI x5), (6, vI x6), (7, vI x7_7)]) (dk D_X11_standing 53 rfl) (Nat.le_of_ble_eq_true rfl) rfl ?_
      refine g_aload_n (dk D_X11_standing 54 rfl) rfl ?_
      refine g_getAt (t := 100) fl_RX11_43 rfl ht0 (dk D_X11_standing 55 rfl) (fun ht9 => ?_)
      refine g_bipush (v := (8 : Int32)) (dk D_X11_standing 56 rfl) rfl ?_
      refine g_iload_n (dk D_X11_standing 57 rfl) rfl ?_
      refine g_imul (dk D_X11_standing 58 rfl) ?_
      refine g_iload (dk D_X11_standing 59 rfl) rfl ?_
      refine g_iadd (dk D_X11_standing 60 rfl) ?_
      refine g_iaload ht4 hi5 (dk D_X11_standing 61 rfl) ?_
      refine g_iload (dk D_X11_standing 62 rfl) rfl ?_
      refine g_isub (dk D_X11_standing 63 rfl) ?_
      refine g_ltV (fun x8_10 ex8_10 => ?_)
      refine g_istore (L' := [(0, vA (a0 + 1)), (1, vI x1), (2, vI x2), (4, vI x4_8), (5, vI x5), (6, vI x6), (7, vI x7_7), (8, vI x8_10)]) (dk D_X11_standing 64 rfl) (Nat.le_of_ble_eq_true rfl) rfl ?_
      refine g_iload (dk D_X11_standing 65 rfl) rfl ?_
      refine g_iload (dk D_X11_standing 66 rfl) rfl ?_
      refine g_iadd (dk D_X11_standing 67 rfl) ?_
      refine g_ltV (fun x5_11 ex5_11 => ?_)
      refine g_istore (L' := [(0, vA (a0 + 1)), (1, vI x1), (2, vI x2), (4, vI x4_8), (5, vI x5_11), (6, vI x6), (7, vI x7_7), (8, vI x8_10)]) (dk D_X11_standing 68 rfl) (Nat.le_of_ble_eq_true rfl) rfl ?_
      refine g_iload (dk D_X11_standing 69 rfl) rfl ?_
      refine g_iload_n (dk D_X11_standing 70 rfl) rfl ?_
      refine g_icmp_ne (tgt := 125) (dk D_X11_standing 71 rfl) rfl (fun hc12 => ?_) (fun hc12 => ?_)
      · refine g_iinc (v := (1 : Int32)) (L' := [(0, vA (a0 + 1)), (1, vI x1), (2, vI x2), (4, vI x4_8), (5, vI x5_11), (6, vI (x6 + (1 : Int32))), (7, vI x7_7), (8, vI x8_10)]) (dk D_X11_standing 74 rfl) rfl rfl (Nat.le_of_ble_eq_true rfl) rfl ?_
        refine g_goto (tgt := 53) (dk D_X11_standing 75 rfl) rfl ?_
        refine g_Lp [0, 1, 2, 3, 4, 5] rfl ?_
        exact hself53 x4_8 x5_11 (x6 + (1 : Int32)) trivial
      · refine g_iload (dk D_X11_standing 72 rfl) rfl ?_
        exact g_ireturn rfl rfl Sx.rf rfl (by decide) (by decide) (dk D_X11_standing 73 rfl)
  have hj24 : GG E i_X11_standing (enM E i_X11_standing S0 (po_X11_standing S0 I0)) S0 I0 (0, 0) 24 [(0, vA (a0 + 1)), (1, vI x1), (2, vI x2), (3, vI x3)] [] (jn_X11_standing_24 fu S0 I0 a0 x1 x2 x3) := by
    unfold jn_X11_standing_24
    refine g_iload_n (dk D_X11_standing 14 rfl) rfl ?_
    refine g_i2l (dk D_X11_standing 15 rfl) ?_
    refine g_lconst (v := (0 : Int64)) (dk D_X11_standing 16 rfl) rfl ?_
    refine g_ldc2 (dk D_X11_standing 17 rfl) lk_RX11_375 ?_
    refine h_callS (st := []) (c_X11_in (E := E) S0 I0 x3.toInt64 (0 : Int64) (999 : Int64)) cl_RX11_132 rfl rfl (by decide) (Nat.le_of_ble_eq_true rfl) (dk D_X11_standing 18 rfl) ?_
    refine g_if_ne (tgt := 39) (dk D_X11_standing 19 rfl) rfl (fun hc14 => ?_) (fun hc14 => ?_)
    · refine g_iload_n (dk D_X11_standing 22 rfl) rfl ?_
      refine g_aload_n (dk D_X11_standing 23 rfl) rfl ?_
      refine g_getIt fl_RX11_124 (by decide) ht0 (dk D_X11_standing 24 rfl) ?_
      refine g_imul (dk D_X11_standing 25 rfl) ?_
      refine g_ltV (fun x4_15 ex4_15 => ?_)
      refine g_istore (L' := [(0, vA (a0 + 1)), (1, vI x1), (2, vI x2), (3, vI x3), (4, vI x4_15)]) (dk D_X11_standing 26 rfl) (Nat.le_of_ble_eq_true rfl) rfl ?_
      refine g_iconst (v := (0 : Int32)) (dk D_X11_standing 27 rfl) rfl ?_
      refine g_istore (L' := [(0, vA (a0 + 1)), (1, vI x1), (2, vI x2), (3, vI x3), (4, vI x4_15), (5, vI (0 : Int32))]) (dk D_X11_standing 28 rfl) (Nat.le_of_ble_eq_true rfl) rfl ?_
      refine g_iconst (v := (0 : Int32)) (dk D_X11_standing 29 rfl) rfl ?_
      refine g_istore (L' := [(0, vA (a0 + 1)), (1, vI x1), (2, vI x2), (3, vI x3), (4, vI x4_15), (5, vI (0 : Int32)), (6, vI (0 : Int32))]) (dk D_X11_standing 30 rfl) (Nat.le_of_ble_eq_true rfl) rfl ?_
      refine g_Lp [0, 1, 2, 4, 5, 6] rfl ?_
      exact hl53 fu x4_15 (0 : Int32) (0 : Int32) trivial
    · refine g_bipush (v := ((-2) : Int32)) (dk D_X11_standing 20 rfl) rfl ?_
      exact g_ireturn rfl rfl Sx.rf rfl (by decide) (by decide) (dk D_X11_standing 21 rfl)
  unfold f_X11_standing
  refine g_aload_n (dk D_X11_standing 0 rfl) rfl ?_
  refine g_iload_n (dk D_X11_standing 1 rfl) rfl ?_
  refine h_callVt (st := []) (c_X11_noLine (E := E) S0 I0 a0 x1 (ht0)) cl_RX11_197 ht0 rfl rfl (by decide) (Nat.le_of_ble_eq_true rfl) (dk D_X11_standing 2 rfl) ?_
  refine g_if_ne (tgt := 22) (dk D_X11_standing 3 rfl) rfl (fun hc17 => ?_) (fun hc17 => ?_)
  · refine g_iconst (v := ((-1) : Int32)) (dk D_X11_standing 12 rfl) rfl ?_
    exact g_ireturn rfl rfl Sx.rf rfl (by decide) (by decide) (dk D_X11_standing 13 rfl)
  · refine g_iload_n (dk D_X11_standing 4 rfl) rfl ?_
    refine g_iconst (v := ((-1) : Int32)) (dk D_X11_standing 5 rfl) rfl ?_
    refine g_icmp_eq (tgt := 24) (dk D_X11_standing 6 rfl) rfl (fun hc18 => ?_) (fun hc18 => ?_)
    · exact hj24
    · refine g_aload_n (dk D_X11_standing 7 rfl) rfl ?_
      refine g_iload_n (dk D_X11_standing 8 rfl) rfl ?_
      refine g_iload_n (dk D_X11_standing 9 rfl) rfl ?_
      refine g_bind (fun q19 hq20 => ?_)
      refine h_callVt (st := []) (c_X11_noQueue (E := E) fu S0 I0 a0 x1 x2 q19 hq20 (ht0)) cl_RX11_372 ht0 rfl rfl (by decide) (Nat.le_of_ble_eq_true rfl) (dk D_X11_standing 10 rfl) ?_
      refine g_if_eq (tgt := 24) (dk D_X11_standing 11 rfl) rfl (fun hc22 => ?_) (fun hc22 => ?_)
      · exact hj24
      · refine g_iconst (v := ((-1) : Int32)) (dk D_X11_standing 12 rfl) rfl ?_
        exact g_ireturn rfl rfl Sx.rf rfl (by decide) (by decide) (dk D_X11_standing 13 rfl)
theorem c_X11_standing {E : EV} (fu : Nat) (S0 : Sk) (I0 : II) (a0 : Nat) (x1 : Int32) (x2 : Int32) (x3 : Int32) (r : Int32) (h : f_X11_standing fu S0 I0 a0 x1 x2 x3 = some r) (ht0 : tyO S0 11 a0) : MX E yX11_standing i_X11_standing S0 I0 [vA (a0 + 1), vI x1, vI x2, vI x3] (po_X11_standing S0 I0 r) :=
  MX.of h (by decide) rfl rfl (Nat.le_of_ble_eq_true rfl) (gg_X11_standing fu S0 I0 a0 x1 x2 x3 ht0)
def tb_X11_extra : List (Nat × Instr × Nat) := [(0, .aload_n 0, 1), (1, .iload_n 1, 1), (2, .invokevirtual 197, 3), (5, .ifCond .eq 5, 3), (8, .iconst (-1), 1), (9, .ireturn, 1), (10, .iconst 0, 1), (11, .istore_n 2, 1), (12, .iconst 0, 1), (13, .istore_n 3, 1), (14, .iload_n 3, 1), (15, .aload_n 0, 1), (16, .getfield 19, 3), (19, .iload_n 1, 1), (20, .iaload, 1), (21, .iconst 1, 1), (22, .isub, 1), (23, .if_icmp .ge 23, 3), (26, .iload_n 2, 1), (27, .aload_n 0, 1), (28, .getfield 43, 3), (31, .bipush 8, 2), (33, .iload_n 1, 1), (34, .imul, 1), (35, .iload_n 3, 1), (36, .iadd, 1), (37, .iaload, 1), (38, .iadd, 1), (39, .istore_n 2, 1), (40, .iinc 3 1, 3), (43, .goto (-29), 3), (46, .iconst 0, 1), (47, .iload_n 2, 1), (48, .aload_n 0, 1), (49, .getfield 124, 3), (52, .iadd, 1), (53, .iconst 1, 1), (54, .isub, 1), (55, .aload_n 0, 1), (56, .getfield 124, 3), (59, .idiv, 1), (60, .aload_n 0, 1), (61, .iload_n 1, 1), (62, .invokevirtual 206, 3), (65, .isub, 1), (66, .invokestatic 194, 3), (69, .ireturn, 1)]
def i_X11_extra : MI := (RX11, cX11_extra, 4, (some .int), "extra", { frames := 2, cells := 0, slots := 0, locals := 46 })
theorem D_X11_extra : tbOK (i_X11_extra).2.1 tb_X11_extra := by show ∀ q ∈ tb_X11_extra, decode cX11_extra q.1 = .ok (q.2.1, q.2.2); decide +kernel
def po_X11_extra (S : Sk) (I : II) (r : Int32) : Option LV × Sk × II := (some (vI r), S, I)
def lp_X11_extra_14 (fu : Nat) (S : Sk) (I : II) (a0 : Nat) (x1 : Int32) (self14 : Int32 → Int32 → Option (Int32)) (x2 : Int32) (x3 : Int32) : Option (Int32) :=
  gd (inb S (S.1 a0 6) x1) (if ((rd I (S.1 a0 6) x1) - (1 : Int32)) ≤ x3 then gd (¬ (I a0 51) = 0) ((f_X11_buses fu S I a0 x1).bind fun q5 => (some ((t_X11_greater (0 : Int32) ((((x2 + (I a0 51)) - (1 : Int32)) / (I a0 51)) - q5))))) else gd (inb S (S.1 a0 14) (((8 : Int32) * x1) + x3)) (lt (x2 + (rd I (S.1 a0 14) (((8 : Int32) * x1) + x3))) fun x2_11 => (self14 x2_11 (x3 + (1 : Int32)))))
def f_X11_extra (fu : Nat) (S : Sk) (I : II) (a0 : Nat) (x1 : Int32) : Option (Int32) :=
  if (t_X11_noLine I a0 x1) = 0 then fix2 (lp_X11_extra_14 fu S I a0 x1) fu (0 : Int32) (0 : Int32) else some (((-1) : Int32))
set_option maxRecDepth 100000 in
set_option maxHeartbeats 4000000 in
theorem gg_X11_extra {E : EV} (fu : Nat) (S0 : Sk) (I0 : II) (a0 : Nat) (x1 : Int32) (ht0 : tyO S0 11 a0) : GG E i_X11_extra (enM E i_X11_extra S0 (po_X11_extra S0 I0)) S0 I0 (0, 0) 0 [(0, vA (a0 + 1)), (1, vI x1)] [] (f_X11_extra fu S0 I0 a0 x1) := by
  have hl14 : ∀ (nn : Nat) (x2 : Int32) (x3 : Int32), True → GG E i_X11_extra (enM E i_X11_extra S0 (po_X11_extra S0 I0)) S0 I0 (0, 0) 14 [(0, vA (a0 + 1)), (1, vI x1), (2, vI x2), (3, vI x3)] [] (fix2 (lp_X11_extra_14 fu S0 I0 a0 x1) nn x2 x3) := by
    refine g_fix2 (fun _ _ => S0) (fun _ _ => I0) (fun x2 x3 => [(0, vA (a0 + 1)), (1, vI x1), (2, vI x2), (3, vI x3)]) (fun x2 x3 => True) ?_
    intro self14 hself14 x2 x3 hinv
    unfold lp_X11_extra_14
    refine g_iload_n (dk D_X11_extra 10 rfl) rfl ?_
    refine g_aload_n (dk D_X11_extra 11 rfl) rfl ?_
    refine g_getAt (t := 100) fl_RX11_19 rfl ht0 (dk D_X11_extra 12 rfl) (fun ht1 => ?_)
    refine g_iload_n (dk D_X11_extra 13 rfl) rfl ?_
    refine g_gd (fun hi2 => ?_)
    refine g_iaload ht1 hi2 (dk D_X11_extra 14 rfl) ?_
    refine g_iconst (v := (1 : Int32)) (dk D_X11_extra 15 rfl) rfl ?_
    refine g_isub (dk D_X11_extra 16 rfl) ?_
    refine g_icmp_ge (tgt := 46) (dk D_X11_extra 17 rfl) rfl (fun hc3 => ?_) (fun hc3 => ?_)
    · refine g_iconst (v := (0 : Int32)) (dk D_X11_extra 31 rfl) rfl ?_
      refine g_iload_n (dk D_X11_extra 32 rfl) rfl ?_
      refine g_aload_n (dk D_X11_extra 33 rfl) rfl ?_
      refine g_getIt fl_RX11_124 (by decide) ht0 (dk D_X11_extra 34 rfl) ?_
      refine g_iadd (dk D_X11_extra 35 rfl) ?_
      refine g_iconst (v := (1 : Int32)) (dk D_X11_extra 36 rfl) rfl ?_
      refine g_isub (dk D_X11_extra 37 rfl) ?_
      refine g_aload_n (dk D_X11_extra 38 rfl) rfl ?_
      refine g_getIt fl_RX11_124 (by decide) ht0 (dk D_X11_extra 39 rfl) ?_
      refine g_gd (fun hz4 => ?_)
      refine g_idiv (dk D_X11_extra 40 rfl) hz4 ?_
      refine g_aload_n (dk D_X11_extra 41 rfl) rfl ?_
      refine g_iload_n (dk D_X11_extra 42 rfl) rfl ?_
      refine g_bind (fun q5 hq6 => ?_)
      refine h_callVt (st := [vI (((x2 + (I0 a0 51)) - (1 : Int32)) / (I0 a0 51)), vI (0 : Int32)]) (c_X11_buses (E := E) fu S0 I0 a0 x1 q5 hq6 (ht0)) cl_RX11_206 ht0 rfl rfl (by decide) (Nat.le_of_ble_eq_true rfl) (dk D_X11_extra 43 rfl) ?_
      refine g_isub (dk D_X11_extra 44 rfl) ?_
      refine h_callS (st := []) (c_X11_greater (E := E) S0 I0 (0 : Int32) ((((x2 + (I0 a0 51)) - (1 : Int32)) / (I0 a0 51)) - q5)) cl_RX11_194 rfl rfl (by decide) (Nat.le_of_ble_eq_true rfl) (dk D_X11_extra 45 rfl) ?_
      exact g_ireturn rfl rfl Sx.rf rfl (by decide) (by decide) (dk D_X11_extra 46 rfl)
    · refine g_iload_n (dk D_X11_extra 18 rfl) rfl ?_
      refine g_aload_n (dk D_X11_extra 19 rfl) rfl ?_
      refine g_getAt (t := 100) fl_RX11_43 rfl ht0 (dk D_X11_extra 20 rfl) (fun ht9 => ?_)
      refine g_bipush (v := (8 : Int32)) (dk D_X11_extra 21 rfl) rfl ?_
      refine g_iload_n (dk D_X11_extra 22 rfl) rfl ?_
      refine g_imul (dk D_X11_extra 23 rfl) ?_
      refine g_iload_n (dk D_X11_extra 24 rfl) rfl ?_
      refine g_iadd (dk D_X11_extra 25 rfl) ?_
      refine g_gd (fun hi10 => ?_)
      refine g_iaload ht9 hi10 (dk D_X11_extra 26 rfl) ?_
      refine g_iadd (dk D_X11_extra 27 rfl) ?_
      refine g_ltV (fun x2_11 ex2_11 => ?_)
      refine g_istore_n (L' := [(0, vA (a0 + 1)), (1, vI x1), (2, vI x2_11), (3, vI x3)]) (dk D_X11_extra 28 rfl) (Nat.le_of_ble_eq_true rfl) rfl ?_
      refine g_iinc (v := (1 : Int32)) (L' := [(0, vA (a0 + 1)), (1, vI x1), (2, vI x2_11), (3, vI (x3 + (1 : Int32)))]) (dk D_X11_extra 29 rfl) rfl rfl (Nat.le_of_ble_eq_true rfl) rfl ?_
      refine g_goto (tgt := 14) (dk D_X11_extra 30 rfl) rfl ?_
      exact hself14 x2_11 (x3 + (1 : Int32)) trivial
  unfold f_X11_extra
  refine g_aload_n (dk D_X11_extra 0 rfl) rfl ?_
  refine g_iload_n (dk D_X11_extra 1 rfl) rfl ?_
  refine h_callVt (st := []) (c_X11_noLine (E := E) S0 I0 a0 x1 (ht0)) cl_RX11_197 ht0 rfl rfl (by decide) (Nat.le_of_ble_eq_true rfl) (dk D_X11_extra 2 rfl) ?_
  refine g_if_eq (tgt := 10) (dk D_X11_extra 3 rfl) rfl (fun hc13 => ?_) (fun hc13 => ?_)
  · refine g_iconst (v := (0 : Int32)) (dk D_X11_extra 6 rfl) rfl ?_
    refine g_istore_n (L' := [(0, vA (a0 + 1)), (1, vI x1), (2, vI (0 : Int32))]) (dk D_X11_extra 7 rfl) (Nat.le_of_ble_eq_true rfl) rfl ?_
    refine g_iconst (v := (0 : Int32)) (dk D_X11_extra 8 rfl) rfl ?_
    refine g_istore_n (L' := [(0, vA (a0 + 1)), (1, vI x1), (2, vI (0 : Int32)), (3, vI (0 : Int32))]) (dk D_X11_extra 9 rfl) (Nat.le_of_ble_eq_true rfl) rfl ?_
    exact hl14 fu (0 : Int32) (0 : Int32) trivial
  · refine g_iconst (v := ((-1) : Int32)) (dk D_X11_extra 4 rfl) rfl ?_
    exact g_ireturn rfl rfl Sx.rf rfl (by decide) (by decide) (dk D_X11_extra 5 rfl)
theorem c_X11_extra {E : EV} (fu : Nat) (S0 : Sk) (I0 : II) (a0 : Nat) (x1 : Int32) (r : Int32) (h : f_X11_extra fu S0 I0 a0 x1 = some r) (ht0 : tyO S0 11 a0) : MX E yX11_extra i_X11_extra S0 I0 [vA (a0 + 1), vI x1] (po_X11_extra S0 I0 r) :=
  MX.of h (by decide) rfl rfl (Nat.le_of_ble_eq_true rfl) (gg_X11_extra fu S0 I0 a0 x1 ht0)
def tb_X11_sheet : List (Nat × Instr × Nat) := [(0, .iload_n 1, 1), (1, .invokestatic 175, 3), (4, .ifCond .eq 9, 3), (7, .aload_n 0, 1), (8, .iconst (-1), 1), (9, .invokevirtual 145, 3), (12, .ireturn, 1), (13, .iload_n 2, 1), (14, .i2l, 1), (15, .lconst 0, 1), (16, .ldc2_w 143, 3), (19, .invokestatic 132, 3), (22, .ifCond .eq 9, 3), (25, .iload_n 3, 1), (26, .bipush 60, 2), (28, .if_icmp .le 10, 3), (31, .aload_n 0, 1), (32, .bipush (-2), 2), (34, .invokevirtual 145, 3), (37, .ireturn, 1), (38, .iload_n 3, 1), (39, .ifCond .ge 9, 3), (42, .aload_n 0, 1), (43, .iconst 4, 1), (44, .invokevirtual 149, 3), (47, .ireturn, 1), (48, .aload_n 0, 1), (49, .getfield 112, 3), (52, .iload_n 1, 1), (53, .iload_n 3, 1), (54, .iastore, 1), (55, .aload_n 0, 1), (56, .getfield 115, 3), (59, .iload_n 1, 1), (60, .iload_n 2, 1), (61, .iastore, 1), (62, .iconst 0, 1), (63, .istore 4, 2), (65, .iload 4, 2), (67, .iload_n 3, 1), (68, .if_icmp .ge 22, 3), (71, .aload_n 0, 1), (72, .getfield 118, 3), (75, .bipush 60, 2), (77, .iload_n 1, 1), (78, .imul, 1), (79, .iload 4, 2), (81, .iadd, 1), (82, .iconst 0, 1), (83, .iastore, 1), (84, .iinc 4 1, 3), (87, .goto (-22), 3), (90, .aload_n 0, 1), (91, .iconst 1, 1), (92, .invokevirtual 145, 3), (95, .ireturn, 1)]
def i_X11_sheet : MI := (RX11, cX11_sheet, 5, (some .int), "sheet", { frames := 2, cells := 0, slots := 0, locals := 45 })
theorem D_X11_sheet : tbOK (i_X11_sheet).2.1 tb_X11_sheet := by show ∀ q ∈ tb_X11_sheet, decode cX11_sheet q.1 = .ok (q.2.1, q.2.2); decide +kernel
def po_X11_sheet (S : Sk) (I : II) (r : Int32 × II) : Option LV × Sk × II := (some (vI r.1), S, r.2)
def jn_X11_sheet_31 (fu : Nat) (S : Sk) (I : II) (a0 : Nat) : Option (Int32 × II) :=
  (f_X11_refused fu S I a0 ((-2) : Int32)).bind fun q1 => (some ((q1.1, q1.2)))
def lp_X11_sheet_65 (fu : Nat) (S : Sk) (a0 : Nat) (x1 : Int32) (x3 : Int32) (self65 : Int32 → II → Option (Int32 × II)) (x4 : Int32) (I : II) : Option (Int32 × II) :=
  if x3 ≤ x4 then (f_X11_refused fu S I a0 (1 : Int32)).bind fun q5 => (some ((q5.1, q5.2))) else gd (inb S (S.1 a0 54) (((60 : Int32) * x1) + x4)) (lt (wr I (S.1 a0 54) (((60 : Int32) * x1) + x4) (0 : Int32)) fun I10 => (self65 (x4 + (1 : Int32)) I10))
def f_X11_sheet (fu : Nat) (S : Sk) (I : II) (a0 : Nat) (x1 : Int32) (x2 : Int32) (x3 : Int32) : Option (Int32 × II) :=
  if (t_X11_noSheet x1) = 0 then if (t_X11_in x2.toInt64 (0 : Int64) (2 : Int64)) = 0 then jn_X11_sheet_31 fu S I a0 else if x3 ≤ (60 : Int32) then if 0 ≤ x3 then gd (inb S (S.1 a0 52) x1) (lt (wr I (S.1 a0 52) x1 x3) fun I19 => (gd (inb S (S.1 a0 53) x1) (lt (wr I19 (S.1 a0 53) x1 x2) fun I22 => (fix2 (lp_X11_sheet_65 fu S a0 x1 x3) fu (0 : Int32) I22)))) else (f_X11_failed fu S I a0 (4 : Int32)).bind fun q23 => (some ((q23.1, q23.2))) else jn_X11_sheet_31 fu S I a0 else (f_X11_refused fu S I a0 ((-1) : Int32)).bind fun q26 => (some ((q26.1, q26.2)))
set_option maxRecDepth 100000 in
set_option maxHeartbeats 4000000 in
theorem gg_X11_sheet {E : EV} (fu : Nat) (S0 : Sk) (I0 : II) (a0 : Nat) (x1 : Int32) (x2 : Int32) (x3 : Int32) (ht0 : tyO S0 11 a0) : GG E i_X11_sheet (enM E i_X11_sheet S0 (po_X11_sheet S0 I0)) S0 I0 (0, 0) 0 [(0, vA (a0 + 1)), (1, vI x1), (2, vI x2), (3, vI x3)] [] (f_X11_sheet fu S0 I0 a0 x1 x2 x3) := by
  have hj31 : ∀ (I : II), GG E i_X11_sheet (enM E i_X11_sheet S0 (po_X11_sheet S0 I0)) S0 I (0, 0) 31 [(0, vA (a0 + 1))] [] (jn_X11_sheet_31 fu S0 I a0) := by
    intro I  
    unfold jn_X11_sheet_31
    refine g_aload_n (dk D_X11_sheet 16 rfl) rfl ?_
    refine g_bipush (v := ((-2) : Int32)) (dk D_X11_sheet 17 rfl) rfl ?_
    refine g_bind (fun q1 hq2 => ?_)
    refine h_callVt (st := []) (c_X11_refused (E := E) fu S0 I a0 ((-2) : Int32) q1 hq2 (ht0)) cl_RX11_145 ht0 rfl rfl (by decide) (Nat.le_of_ble_eq_true rfl) (dk D_X11_sheet 18 rfl) ?_
    exact g_ireturn rfl rfl Sx.rf rfl (by decide) (by decide) (dk D_X11_sheet 19 rfl)
  have hl65 : ∀ (nn : Nat) (x4 : Int32) (I : II), True → GG E i_X11_sheet (enM E i_X11_sheet S0 (po_X11_sheet S0 I0)) S0 I (0, 0) 65 [(0, vA (a0 + 1)), (1, vI x1), (3, vI x3), (4, vI x4)] [] (fix2 (lp_X11_sheet_65 fu S0 a0 x1 x3) nn x4 I) := by
    refine g_fix2 (fun _ _ => S0) (fun x4 I => I) (fun x4 I => [(0, vA (a0 + 1)), (1, vI x1), (3, vI x3), (4, vI x4)]) (fun x4 I => True) ?_
    intro self65 hself65 x4 I hinv
    unfold lp_X11_sheet_65
    refine g_iload (dk D_X11_sheet 38 rfl) rfl ?_
    refine g_iload_n (dk D_X11_sheet 39 rfl) rfl ?_
    refine g_icmp_ge (tgt := 90) (dk D_X11_sheet 40 rfl) rfl (fun hc4 => ?_) (fun hc4 => ?_)
    · refine g_aload_n (dk D_X11_sheet 52 rfl) rfl ?_
      refine g_iconst (v := (1 : Int32)) (dk D_X11_sheet 53 rfl) rfl ?_
      refine g_bind (fun q5 hq6 => ?_)
      refine h_callVt (st := []) (c_X11_refused (E := E) fu S0 I a0 (1 : Int32) q5 hq6 (ht0)) cl_RX11_145 ht0 rfl rfl (by decide) (Nat.le_of_ble_eq_true rfl) (dk D_X11_sheet 54 rfl) ?_
      exact g_ireturn rfl rfl Sx.rf rfl (by decide) (by decide) (dk D_X11_sheet 55 rfl)
    · refine g_aload_n (dk D_X11_sheet 41 rfl) rfl ?_
      refine g_getAt (t := 100) fl_RX11_118 rfl ht0 (dk D_X11_sheet 42 rfl) (fun ht8 => ?_)
      refine g_bipush (v := (60 : Int32)) (dk D_X11_sheet 43 rfl) rfl ?_
      refine g_iload_n (dk D_X11_sheet 44 rfl) rfl ?_
      refine g_imul (dk D_X11_sheet 45 rfl) ?_
      refine g_iload (dk D_X11_sheet 46 rfl) rfl ?_
      refine g_iadd (dk D_X11_sheet 47 rfl) ?_
      refine g_iconst (v := (0 : Int32)) (dk D_X11_sheet 48 rfl) rfl ?_
      refine g_gd (fun hi9 => ?_)
      refine g_iastore ht8 hi9 (dk D_X11_sheet 49 rfl) ?_
      refine g_ltI (fun I10 eI10 => ?_)
      refine g_iinc (v := (1 : Int32)) (L' := [(0, vA (a0 + 1)), (1, vI x1), (3, vI x3), (4, vI (x4 + (1 : Int32)))]) (dk D_X11_sheet 50 rfl) rfl rfl (Nat.le_of_ble_eq_true rfl) rfl ?_
      refine g_goto (tgt := 65) (dk D_X11_sheet 51 rfl) rfl ?_
      exact hself65 (x4 + (1 : Int32)) I10 trivial
  unfold f_X11_sheet
  refine g_iload_n (dk D_X11_sheet 0 rfl) rfl ?_
  refine h_callS (st := []) (c_X11_noSheet (E := E) S0 I0 x1) cl_RX11_175 rfl rfl (by decide) (Nat.le_of_ble_eq_true rfl) (dk D_X11_sheet 1 rfl) ?_
  refine g_if_eq (tgt := 13) (dk D_X11_sheet 2 rfl) rfl (fun hc12 => ?_) (fun hc12 => ?_)
  · refine g_iload_n (dk D_X11_sheet 7 rfl) rfl ?_
    refine g_i2l (dk D_X11_sheet 8 rfl) ?_
    refine g_lconst (v := (0 : Int64)) (dk D_X11_sheet 9 rfl) rfl ?_
    refine g_ldc2 (dk D_X11_sheet 10 rfl) lk_RX11_143 ?_
    refine h_callS (st := []) (c_X11_in (E := E) S0 I0 x2.toInt64 (0 : Int64) (2 : Int64)) cl_RX11_132 rfl rfl (by decide) (Nat.le_of_ble_eq_true rfl) (dk D_X11_sheet 11 rfl) ?_
    refine g_if_eq (tgt := 31) (dk D_X11_sheet 12 rfl) rfl (fun hc14 => ?_) (fun hc14 => ?_)
    · refine g_Lp [0] rfl ?_
      exact hj31 I0
    · refine g_iload_n (dk D_X11_sheet 13 rfl) rfl ?_
      refine g_bipush (v := (60 : Int32)) (dk D_X11_sheet 14 rfl) rfl ?_
      refine g_icmp_le (tgt := 38) (dk D_X11_sheet 15 rfl) rfl (fun hc15 => ?_) (fun hc15 => ?_)
      · refine g_iload_n (dk D_X11_sheet 20 rfl) rfl ?_
        refine g_if_ge (tgt := 48) (dk D_X11_sheet 21 rfl) rfl (fun hc16 => ?_) (fun hc16 => ?_)
        · refine g_aload_n (dk D_X11_sheet 26 rfl) rfl ?_
          refine g_getAt (t := 100) fl_RX11_112 rfl ht0 (dk D_X11_sheet 27 rfl) (fun ht17 => ?_)
          refine g_iload_n (dk D_X11_sheet 28 rfl) rfl ?_
          refine g_iload_n (dk D_X11_sheet 29 rfl) rfl ?_
          refine g_gd (fun hi18 => ?_)
          refine g_iastore ht17 hi18 (dk D_X11_sheet 30 rfl) ?_
          refine g_ltI (fun I19 eI19 => ?_)
          refine g_aload_n (dk D_X11_sheet 31 rfl) rfl ?_
          refine g_getAt (t := 100) fl_RX11_115 rfl ht0 (dk D_X11_sheet 32 rfl) (fun ht20 => ?_)
          refine g_iload_n (dk D_X11_sheet 33 rfl) rfl ?_
          refine g_iload_n (dk D_X11_sheet 34 rfl) rfl ?_
          refine g_gd (fun hi21 => ?_)
          refine g_iastore ht20 hi21 (dk D_X11_sheet 35 rfl) ?_
          refine g_ltI (fun I22 eI22 => ?_)
          refine g_iconst (v := (0 : Int32)) (dk D_X11_sheet 36 rfl) rfl ?_
          refine g_istore (L' := [(0, vA (a0 + 1)), (1, vI x1), (2, vI x2), (3, vI x3), (4, vI (0 : Int32))]) (dk D_X11_sheet 37 rfl) (Nat.le_of_ble_eq_true rfl) rfl ?_
          refine g_Lp [0, 1, 3, 4] rfl ?_
          exact hl65 fu (0 : Int32) I22 trivial
        · refine g_aload_n (dk D_X11_sheet 22 rfl) rfl ?_
          refine g_iconst (v := (4 : Int32)) (dk D_X11_sheet 23 rfl) rfl ?_
          refine g_bind (fun q23 hq24 => ?_)
          refine h_callVt (st := []) (c_X11_failed (E := E) fu S0 I0 a0 (4 : Int32) q23 hq24 (ht0)) cl_RX11_149 ht0 rfl rfl (by decide) (Nat.le_of_ble_eq_true rfl) (dk D_X11_sheet 24 rfl) ?_
          exact g_ireturn rfl rfl Sx.rf rfl (by decide) (by decide) (dk D_X11_sheet 25 rfl)
      · refine g_Lp [0] rfl ?_
        exact hj31 I0
  · refine g_aload_n (dk D_X11_sheet 3 rfl) rfl ?_
    refine g_iconst (v := ((-1) : Int32)) (dk D_X11_sheet 4 rfl) rfl ?_
    refine g_bind (fun q26 hq27 => ?_)
    refine h_callVt (st := []) (c_X11_refused (E := E) fu S0 I0 a0 ((-1) : Int32) q26 hq27 (ht0)) cl_RX11_145 ht0 rfl rfl (by decide) (Nat.le_of_ble_eq_true rfl) (dk D_X11_sheet 5 rfl) ?_
    exact g_ireturn rfl rfl Sx.rf rfl (by decide) (by decide) (dk D_X11_sheet 6 rfl)
theorem c_X11_sheet {E : EV} (fu : Nat) (S0 : Sk) (I0 : II) (a0 : Nat) (x1 : Int32) (x2 : Int32) (x3 : Int32) (r : Int32 × II) (h : f_X11_sheet fu S0 I0 a0 x1 x2 x3 = some r) (ht0 : tyO S0 11 a0) : MX E yX11_sheet i_X11_sheet S0 I0 [vA (a0 + 1), vI x1, vI x2, vI x3] (po_X11_sheet S0 I0 r) :=
  MX.of h (by decide) rfl rfl (Nat.le_of_ble_eq_true rfl) (gg_X11_sheet fu S0 I0 a0 x1 x2 x3 ht0)
def tb_X11_drop : List (Nat × Instr × Nat) := [(0, .iload_n 1, 1), (1, .invokestatic 175, 3), (4, .ifCond .eq 5, 3), (7, .iconst (-1), 1), (8, .ireturn, 1), (9, .aload_n 0, 1), (10, .getfield 112, 3), (13, .iload_n 1, 1), (14, .iaload, 1), (15, .ifCond .ge 7, 3), (18, .iconst 0, 1), (19, .goto 4, 3), (22, .iconst 1, 1), (23, .istore_n 2, 1), (24, .aload_n 0, 1), (25, .getfield 112, 3), (28, .iload_n 1, 1), (29, .iconst (-1), 1), (30, .iastore, 1), (31, .iload_n 2, 1), (32, .ireturn, 1)]
def i_X11_drop : MI := (RX11, cX11_drop, 3, (some .int), "drop", { frames := 2, cells := 0, slots := 0, locals := 45 })
theorem D_X11_drop : tbOK (i_X11_drop).2.1 tb_X11_drop := by show ∀ q ∈ tb_X11_drop, decode cX11_drop q.1 = .ok (q.2.1, q.2.2); decide +kernel
def po_X11_drop (S : Sk) (I : II) (r : Int32 × II) : Option LV × Sk × II := (some (vI r.1), S, r.2)
def jn_X11_drop_23 (fu : Nat) (S : Sk) (I : II) (a0 : Nat) (x1 : Int32) (s0 : Int32) : Option (Int32 × II) :=
  gd (inb S (S.1 a0 52) x1) (lt (wr I (S.1 a0 52) x1 ((-1) : Int32)) fun I3 => (some ((s0, I3))))
def f_X11_drop (fu : Nat) (S : Sk) (I : II) (a0 : Nat) (x1 : Int32) : Option (Int32 × II) :=
  if (t_X11_noSheet x1) = 0 then gd (inb S (S.1 a0 52) x1) (if 0 ≤ (rd I (S.1 a0 52) x1) then jn_X11_drop_23 fu S I a0 x1 (1 : Int32) else jn_X11_drop_23 fu S I a0 x1 (0 : Int32)) else some ((((-1) : Int32), I))
set_option maxRecDepth 100000 in
set_option maxHeartbeats 4000000 in
theorem gg_X11_drop {E : EV} (fu : Nat) (S0 : Sk) (I0 : II) (a0 : Nat) (x1 : Int32) (ht0 : tyO S0 11 a0) : GG E i_X11_drop (enM E i_X11_drop S0 (po_X11_drop S0 I0)) S0 I0 (0, 0) 0 [(0, vA (a0 + 1)), (1, vI x1)] [] (f_X11_drop fu S0 I0 a0 x1) := by
  have hj23 : ∀ (I : II) (s0 : Int32), GG E i_X11_drop (enM E i_X11_drop S0 (po_X11_drop S0 I0)) S0 I (0, 0) 23 [(0, vA (a0 + 1)), (1, vI x1)] [vI s0] (jn_X11_drop_23 fu S0 I a0 x1 s0) := by
    intro I s0 
    unfold jn_X11_drop_23
    refine g_istore_n (L' := [(0, vA (a0 + 1)), (1, vI x1), (2, vI s0)]) (dk D_X11_drop 13 rfl) (Nat.le_of_ble_eq_true rfl) rfl ?_
    refine g_aload_n (dk D_X11_drop 14 rfl) rfl ?_
    refine g_getAt (t := 100) fl_RX11_112 rfl ht0 (dk D_X11_drop 15 rfl) (fun ht1 => ?_)
    refine g_iload_n (dk D_X11_drop 16 rfl) rfl ?_
    refine g_iconst (v := ((-1) : Int32)) (dk D_X11_drop 17 rfl) rfl ?_
    refine g_gd (fun hi2 => ?_)
    refine g_iastore ht1 hi2 (dk D_X11_drop 18 rfl) ?_
    refine g_ltI (fun I3 eI3 => ?_)
    refine g_iload_n (dk D_X11_drop 19 rfl) rfl ?_
    exact g_ireturn rfl rfl Sx.rf rfl (by decide) (by decide) (dk D_X11_drop 20 rfl)
  unfold f_X11_drop
  refine g_iload_n (dk D_X11_drop 0 rfl) rfl ?_
  refine h_callS (st := []) (c_X11_noSheet (E := E) S0 I0 x1) cl_RX11_175 rfl rfl (by decide) (Nat.le_of_ble_eq_true rfl) (dk D_X11_drop 1 rfl) ?_
  refine g_if_eq (tgt := 9) (dk D_X11_drop 2 rfl) rfl (fun hc5 => ?_) (fun hc5 => ?_)
  · refine g_aload_n (dk D_X11_drop 5 rfl) rfl ?_
    refine g_getAt (t := 100) fl_RX11_112 rfl ht0 (dk D_X11_drop 6 rfl) (fun ht6 => ?_)
    refine g_iload_n (dk D_X11_drop 7 rfl) rfl ?_
    refine g_gd (fun hi7 => ?_)
    refine g_iaload ht6 hi7 (dk D_X11_drop 8 rfl) ?_
    refine g_if_ge (tgt := 22) (dk D_X11_drop 9 rfl) rfl (fun hc8 => ?_) (fun hc8 => ?_)
    · refine g_iconst (v := (1 : Int32)) (dk D_X11_drop 12 rfl) rfl ?_
      exact hj23 I0 (1 : Int32)
    · refine g_iconst (v := (0 : Int32)) (dk D_X11_drop 10 rfl) rfl ?_
      refine g_goto (tgt := 23) (dk D_X11_drop 11 rfl) rfl ?_
      exact hj23 I0 (0 : Int32)
  · refine g_iconst (v := ((-1) : Int32)) (dk D_X11_drop 3 rfl) rfl ?_
    exact g_ireturn rfl rfl Sx.rf rfl (by decide) (by decide) (dk D_X11_drop 4 rfl)
theorem c_X11_drop {E : EV} (fu : Nat) (S0 : Sk) (I0 : II) (a0 : Nat) (x1 : Int32) (r : Int32 × II) (h : f_X11_drop fu S0 I0 a0 x1 = some r) (ht0 : tyO S0 11 a0) : MX E yX11_drop i_X11_drop S0 I0 [vA (a0 + 1), vI x1] (po_X11_drop S0 I0 r) :=
  MX.of h (by decide) rfl rfl (Nat.le_of_ble_eq_true rfl) (gg_X11_drop fu S0 I0 a0 x1 ht0)
def tb_X11_noCell : List (Nat × Instr × Nat) := [(0, .aload_n 0, 1), (1, .getfield 112, 3), (4, .iload_n 1, 1), (5, .iaload, 1), (6, .ifCond .ge 7, 3), (9, .iconst 1, 1), (10, .goto 26, 3), (13, .iload_n 2, 1), (14, .i2l, 1), (15, .lconst 0, 1), (16, .aload_n 0, 1), (17, .getfield 112, 3), (20, .iload_n 1, 1), (21, .iaload, 1), (22, .i2l, 1), (23, .lconst 1, 1), (24, .lsub, 1), (25, .invokestatic 132, 3), (28, .ifCond .eq 7, 3), (31, .iconst 0, 1), (32, .goto 4, 3), (35, .iconst 3, 1), (36, .ireturn, 1)]
def i_X11_noCell : MI := (RX11, cX11_noCell, 3, (some .int), "noCell", { frames := 1, cells := 0, slots := 0, locals := 25 })
theorem D_X11_noCell : tbOK (i_X11_noCell).2.1 tb_X11_noCell := by show ∀ q ∈ tb_X11_noCell, decode cX11_noCell q.1 = .ok (q.2.1, q.2.2); decide +kernel
def po_X11_noCell (S : Sk) (I : II) (r : Int32) : Option LV × Sk × II := (some (vI r), S, I)
def f_X11_noCell (fu : Nat) (S : Sk) (I : II) (a0 : Nat) (x1 : Int32) (x2 : Int32) : Option (Int32) :=
  gd (inb S (S.1 a0 52) x1) (if 0 ≤ (rd I (S.1 a0 52) x1) then if (t_X11_in x2.toInt64 (0 : Int64) ((((rd I (S.1 a0 52) x1)).toInt64) - (1 : Int64))) = 0 then some ((3 : Int32)) else some ((0 : Int32)) else some ((1 : Int32)))
set_option maxRecDepth 100000 in
set_option maxHeartbeats 4000000 in
theorem gg_X11_noCell {E : EV} (fu : Nat) (S0 : Sk) (I0 : II) (a0 : Nat) (x1 : Int32) (x2 : Int32) (ht0 : tyO S0 11 a0) : GG E i_X11_noCell (enM E i_X11_noCell S0 (po_X11_noCell S0 I0)) S0 I0 (0, 0) 0 [(0, vA (a0 + 1)), (1, vI x1), (2, vI x2)] [] (f_X11_noCell fu S0 I0 a0 x1 x2) := by
  unfold f_X11_noCell
  refine g_aload_n (dk D_X11_noCell 0 rfl) rfl ?_
  refine g_getAt (t := 100) fl_RX11_112 rfl ht0 (dk D_X11_noCell 1 rfl) (fun ht1 => ?_)
  refine g_iload_n (dk D_X11_noCell 2 rfl) rfl ?_
  refine g_gd (fun hi2 => ?_)
  refine g_iaload ht1 hi2 (dk D_X11_noCell 3 rfl) ?_
  refine g_if_ge (tgt := 13) (dk D_X11_noCell 4 rfl) rfl (fun hc3 => ?_) (fun hc3 => ?_)
  · refine g_iload_n (dk D_X11_noCell 7 rfl) rfl ?_
    refine g_i2l (dk D_X11_noCell 8 rfl) ?_
    refine g_lconst (v := (0 : Int64)) (dk D_X11_noCell 9 rfl) rfl ?_
    refine g_aload_n (dk D_X11_noCell 10 rfl) rfl ?_
    refine g_getAt (t := 100) fl_RX11_112 rfl ht0 (dk D_X11_noCell 11 rfl) (fun ht4 => ?_)
    refine g_iload_n (dk D_X11_noCell 12 rfl) rfl ?_
    refine g_iaload ht1 hi2 (dk D_X11_noCell 13 rfl) ?_
    refine g_i2l (dk D_X11_noCell 14 rfl) ?_
    refine g_lconst (v := (1 : Int64)) (dk D_X11_noCell 15 rfl) rfl ?_
    refine g_lsub (dk D_X11_noCell 16 rfl) ?_
    refine h_callS (st := []) (c_X11_in (E := E) S0 I0 x2.toInt64 (0 : Int64) ((((rd I0 (S0.1 a0 52) x1)).toInt64) - (1 : Int64))) cl_RX11_132 rfl rfl (by decide) (Nat.le_of_ble_eq_true rfl) (dk D_X11_noCell 17 rfl) ?_
    refine g_if_eq (tgt := 35) (dk D_X11_noCell 18 rfl) rfl (fun hc6 => ?_) (fun hc6 => ?_)
    · refine g_iconst (v := (3 : Int32)) (dk D_X11_noCell 21 rfl) rfl ?_
      exact g_ireturn rfl rfl Sx.rf rfl (by decide) (by decide) (dk D_X11_noCell 22 rfl)
    · refine g_iconst (v := (0 : Int32)) (dk D_X11_noCell 19 rfl) rfl ?_
      refine g_goto (tgt := 36) (dk D_X11_noCell 20 rfl) rfl ?_
      exact g_ireturn rfl rfl Sx.rf rfl (by decide) (by decide) (dk D_X11_noCell 22 rfl)
  · refine g_iconst (v := (1 : Int32)) (dk D_X11_noCell 5 rfl) rfl ?_
    refine g_goto (tgt := 36) (dk D_X11_noCell 6 rfl) rfl ?_
    exact g_ireturn rfl rfl Sx.rf rfl (by decide) (by decide) (dk D_X11_noCell 22 rfl)
theorem c_X11_noCell {E : EV} (fu : Nat) (S0 : Sk) (I0 : II) (a0 : Nat) (x1 : Int32) (x2 : Int32) (r : Int32) (h : f_X11_noCell fu S0 I0 a0 x1 x2 = some r) (ht0 : tyO S0 11 a0) : MX E yX11_noCell i_X11_noCell S0 I0 [vA (a0 + 1), vI x1, vI x2] (po_X11_noCell S0 I0 r) :=
  MX.of h (by decide) rfl rfl (Nat.le_of_ble_eq_true rfl) (gg_X11_noCell fu S0 I0 a0 x1 x2 ht0)
theorem cl_RX11_379 : CV0 RX11 379 yX11_noCell i_X11_noCell 2 11 := ⟨⟨(gm 1480 (by decide +kernel) (by decide +kernel)), (gm 72 (by decide +kernel) (by decide +kernel)), ((gm 1483 (by decide +kernel) (by decide +kernel))), by decide +kernel, by decide +kernel, by decide +kernel⟩, ⟨(gm 1482 (by decide +kernel) (by decide +kernel)), (gm 62 (by decide +kernel) (by decide +kernel))⟩, rfl, by decide⟩
def tb_X11_put : List (Nat × Instr × Nat) := [(0, .iload_n 1, 1), (1, .invokestatic 175, 3), (4, .ifCond .eq 9, 3), (7, .aload_n 0, 1), (8, .iconst (-1), 1), (9, .invokevirtual 145, 3), (12, .ireturn, 1), (13, .aload_n 0, 1), (14, .iload_n 1, 1), (15, .iload_n 2, 1), (16, .invokevirtual 379, 3), (19, .ifCond .le 14, 3), (22, .aload_n 0, 1), (23, .aload_n 0, 1), (24, .iload_n 1, 1), (25, .iload_n 2, 1), (26, .invokevirtual 379, 3), (29, .invokevirtual 149, 3), (32, .ireturn, 1), (33, .aload_n 0, 1), (34, .getfield 118, 3), (37, .bipush 60, 2), (39, .iload_n 1, 1), (40, .imul, 1), (41, .iload_n 2, 1), (42, .iadd, 1), (43, .aload_n 0, 1), (44, .getfield 115, 3), (47, .iload_n 1, 1), (48, .iaload, 1), (49, .ifCond .ne 8, 3), (52, .iload_n 3, 1), (53, .i2b, 1), (54, .goto 19, 3), (57, .aload_n 0, 1), (58, .getfield 115, 3), (61, .iload_n 1, 1), (62, .iaload, 1), (63, .iconst 1, 1), (64, .if_icmp .ne 8, 3), (67, .iload_n 3, 1), (68, .i2s, 1), (69, .goto 4, 3), (72, .iload_n 3, 1), (73, .iastore, 1), (74, .aload_n 0, 1), (75, .iconst 1, 1), (76, .invokevirtual 145, 3), (79, .ireturn, 1)]
def i_X11_put : MI := (RX11, cX11_put, 4, (some .int), "put", { frames := 2, cells := 0, slots := 0, locals := 47 })
theorem D_X11_put : tbOK (i_X11_put).2.1 tb_X11_put := by show ∀ q ∈ tb_X11_put, decode cX11_put q.1 = .ok (q.2.1, q.2.2); decide +kernel
def po_X11_put (S : Sk) (I : II) (r : Int32 × II) : Option LV × Sk × II := (some (vI r.1), S, r.2)
def jn_X11_put_73 (fu : Nat) (S : Sk) (I : II) (a0 : Nat) (q0 : Nat) (s1 : Int32) (s2 : Int32) : Option (Int32 × II) :=
  gd (inb S q0 s1) (lt (wr I q0 s1 s2) fun I2 => ((f_X11_refused fu S I2 a0 (1 : Int32)).bind fun q3 => (some ((q3.1, q3.2)))))
def f_X11_put (fu : Nat) (S : Sk) (I : II) (a0 : Nat) (x1 : Int32) (x2 : Int32) (x3 : Int32) : Option (Int32 × II) :=
  if (t_X11_noSheet x1) = 0 then (f_X11_noCell fu S I a0 x1 x2).bind fun q8 => (if q8 ≤ 0 then gd (inb S (S.1 a0 53) x1) (if (rd I (S.1 a0 53) x1) = 0 then jn_X11_put_73 fu S I a0 (S.1 a0 54) (((60 : Int32) * x1) + x2) ((x3).toInt8.toInt32) else if (rd I (S.1 a0 53) x1) = (1 : Int32) then jn_X11_put_73 fu S I a0 (S.1 a0 54) (((60 : Int32) * x1) + x2) ((x3).toInt16.toInt32) else jn_X11_put_73 fu S I a0 (S.1 a0 54) (((60 : Int32) * x1) + x2) x3) else (f_X11_noCell fu S I a0 x1 x2).bind fun q18 => ((f_X11_failed fu S I a0 q18).bind fun q21 => (some ((q21.1, q21.2))))) else (f_X11_refused fu S I a0 ((-1) : Int32)).bind fun q24 => (some ((q24.1, q24.2)))
set_option maxRecDepth 100000 in
set_option maxHeartbeats 4000000 in
theorem gg_X11_put {E : EV} (fu : Nat) (S0 : Sk) (I0 : II) (a0 : Nat) (x1 : Int32) (x2 : Int32) (x3 : Int32) (ht0 : tyO S0 11 a0) : GG E i_X11_put (enM E i_X11_put S0 (po_X11_put S0 I0)) S0 I0 (0, 0) 0 [(0, vA (a0 + 1)), (1, vI x1), (2, vI x2), (3, vI x3)] [] (f_X11_put fu S0 I0 a0 x1 x2 x3) := by
  have hj73 : ∀ (I : II) (q0 : Nat) (s1 : Int32) (s2 : Int32) (h_q0 : tyR S0 100 q0), GG E i_X11_put (enM E i_X11_put S0 (po_X11_put S0 I0)) S0 I (0, 0) 73 [(0, vA (a0 + 1))] [vI s2, vI s1, vA q0] (jn_X11_put_73 fu S0 I a0 q0 s1 s2) := by
    intro I q0 s1 s2 h_q0
    unfold jn_X11_put_73
    refine g_gd (fun hi1 => ?_)
    refine g_iastore h_q0 hi1 (dk D_X11_put 44 rfl) ?_
    refine g_ltI (fun I2 eI2 => ?_)
    refine g_aload_n (dk D_X11_put 45 rfl) rfl ?_
    refine g_iconst (v := (1 : Int32)) (dk D_X11_put 46 rfl) rfl ?_
    refine g_bind (fun q3 hq4 => ?_)
    refine h_callVt (st := []) (c_X11_refused (E := E) fu S0 I2 a0 (1 : Int32) q3 hq4 (ht0)) cl_RX11_145 ht0 rfl rfl (by decide) (Nat.le_of_ble_eq_true rfl) (dk D_X11_put 47 rfl) ?_
    exact g_ireturn rfl rfl Sx.rf rfl (by decide) (by decide) (dk D_X11_put 48 rfl)
  unfold f_X11_put
  refine g_iload_n (dk D_X11_put 0 rfl) rfl ?_
  refine h_callS (st := []) (c_X11_noSheet (E := E) S0 I0 x1) cl_RX11_175 rfl rfl (by decide) (Nat.le_of_ble_eq_true rfl) (dk D_X11_put 1 rfl) ?_
  refine g_if_eq (tgt := 13) (dk D_X11_put 2 rfl) rfl (fun hc7 => ?_) (fun hc7 => ?_)
  · refine g_aload_n (dk D_X11_put 7 rfl) rfl ?_
    refine g_iload_n (dk D_X11_put 8 rfl) rfl ?_
    refine g_iload_n (dk D_X11_put 9 rfl) rfl ?_
    refine g_bind (fun q8 hq9 => ?_)
    refine h_callVt (st := []) (c_X11_noCell (E := E) fu S0 I0 a0 x1 x2 q8 hq9 (ht0)) cl_RX11_379 ht0 rfl rfl (by decide) (Nat.le_of_ble_eq_true rfl) (dk D_X11_put 10 rfl) ?_
    refine g_if_le (tgt := 33) (dk D_X11_put 11 rfl) rfl (fun hc11 => ?_) (fun hc11 => ?_)
    · refine g_aload_n (dk D_X11_put 19 rfl) rfl ?_
      refine g_getAt (t := 100) fl_RX11_118 rfl ht0 (dk D_X11_put 20 rfl) (fun ht12 => ?_)
      refine g_bipush (v := (60 : Int32)) (dk D_X11_put 21 rfl) rfl ?_
      refine g_iload_n (dk D_X11_put 22 rfl) rfl ?_
      refine g_imul (dk D_X11_put 23 rfl) ?_
      refine g_iload_n (dk D_X11_put 24 rfl) rfl ?_
      refine g_iadd (dk D_X11_put 25 rfl) ?_
      refine g_aload_n (dk D_X11_put 26 rfl) rfl ?_
      refine g_getAt (t := 100) fl_RX11_115 rfl ht0 (dk D_X11_put 27 rfl) (fun ht13 => ?_)
      refine g_iload_n (dk D_X11_put 28 rfl) rfl ?_
      refine g_gd (fun hi14 => ?_)
      refine g_iaload ht13 hi14 (dk D_X11_put 29 rfl) ?_
      refine g_if_ne (tgt := 57) (dk D_X11_put 30 rfl) rfl (fun hc15 => ?_) (fun hc15 => ?_)
      · refine g_aload_n (dk D_X11_put 34 rfl) rfl ?_
        refine g_getAt (t := 100) fl_RX11_115 rfl ht0 (dk D_X11_put 35 rfl) (fun ht16 => ?_)
        refine g_iload_n (dk D_X11_put 36 rfl) rfl ?_
        refine g_iaload ht13 hi14 (dk D_X11_put 37 rfl) ?_
        refine g_iconst (v := (1 : Int32)) (dk D_X11_put 38 rfl) rfl ?_
        refine g_icmp_ne (tgt := 72) (dk D_X11_put 39 rfl) rfl (fun hc17 => ?_) (fun hc17 => ?_)
        · refine g_iload_n (dk D_X11_put 43 rfl) rfl ?_
          refine g_Lp [0] rfl ?_
          exact hj73 I0 (S0.1 a0 54) (((60 : Int32) * x1) + x2) x3 ht12
        · refine g_iload_n (dk D_X11_put 40 rfl) rfl ?_
          refine g_i2s (dk D_X11_put 41 rfl) ?_
          refine g_goto (tgt := 73) (dk D_X11_put 42 rfl) rfl ?_
          refine g_Lp [0] rfl ?_
          exact hj73 I0 (S0.1 a0 54) (((60 : Int32) * x1) + x2) ((x3).toInt16.toInt32) ht12
      · refine g_iload_n (dk D_X11_put 31 rfl) rfl ?_
        refine g_i2b (dk D_X11_put 32 rfl) ?_
        refine g_goto (tgt := 73) (dk D_X11_put 33 rfl) rfl ?_
        refine g_Lp [0] rfl ?_
        exact hj73 I0 (S0.1 a0 54) (((60 : Int32) * x1) + x2) ((x3).toInt8.toInt32) ht12
    · refine g_aload_n (dk D_X11_put 12 rfl) rfl ?_
      refine g_aload_n (dk D_X11_put 13 rfl) rfl ?_
      refine g_iload_n (dk D_X11_put 14 rfl) rfl ?_
      refine g_iload_n (dk D_X11_put 15 rfl) rfl ?_
      refine g_bind (fun q18 hq19 => ?_)
      refine h_callVt (st := [vA (a0 + 1)]) (c_X11_noCell (E := E) fu S0 I0 a0 x1 x2 q18 hq19 (ht0)) cl_RX11_379 ht0 rfl rfl (by decide) (Nat.le_of_ble_eq_true rfl) (dk D_X11_put 16 rfl) ?_
      refine g_bind (fun q21 hq22 => ?_)
      refine h_callVt (st := []) (c_X11_failed (E := E) fu S0 I0 a0 q18 q21 hq22 (ht0)) cl_RX11_149 ht0 rfl rfl (by decide) (Nat.le_of_ble_eq_true rfl) (dk D_X11_put 17 rfl) ?_
      exact g_ireturn rfl rfl Sx.rf rfl (by decide) (by decide) (dk D_X11_put 18 rfl)
  · refine g_aload_n (dk D_X11_put 3 rfl) rfl ?_
    refine g_iconst (v := ((-1) : Int32)) (dk D_X11_put 4 rfl) rfl ?_
    refine g_bind (fun q24 hq25 => ?_)
    refine h_callVt (st := []) (c_X11_refused (E := E) fu S0 I0 a0 ((-1) : Int32) q24 hq25 (ht0)) cl_RX11_145 ht0 rfl rfl (by decide) (Nat.le_of_ble_eq_true rfl) (dk D_X11_put 5 rfl) ?_
    exact g_ireturn rfl rfl Sx.rf rfl (by decide) (by decide) (dk D_X11_put 6 rfl)
theorem c_X11_put {E : EV} (fu : Nat) (S0 : Sk) (I0 : II) (a0 : Nat) (x1 : Int32) (x2 : Int32) (x3 : Int32) (r : Int32 × II) (h : f_X11_put fu S0 I0 a0 x1 x2 x3 = some r) (ht0 : tyO S0 11 a0) : MX E yX11_put i_X11_put S0 I0 [vA (a0 + 1), vI x1, vI x2, vI x3] (po_X11_put S0 I0 r) :=
  MX.of h (by decide) rfl rfl (Nat.le_of_ble_eq_true rfl) (gg_X11_put fu S0 I0 a0 x1 x2 x3 ht0)
theorem cl_RX11_382 : CV0 RX11 382 yX11_failedLong i_X11_failedLong 1 11 := ⟨⟨(gm 1492 (by decide +kernel) (by decide +kernel)), (gm 72 (by decide +kernel) (by decide +kernel)), ((gm 1495 (by decide +kernel) (by decide +kernel))), by decide +kernel, by decide +kernel, by decide +kernel⟩, ⟨(gm 1494 (by decide +kernel) (by decide +kernel)), (gm 63 (by decide +kernel) (by decide +kernel))⟩, rfl, by decide⟩
def tb_X11_cell : List (Nat × Instr × Nat) := [(0, .aload_n 0, 1), (1, .iconst 0, 1), (2, .putfield 136, 3), (5, .iload_n 1, 1), (6, .invokestatic 175, 3), (9, .ifCond .ne 15, 3), (12, .iload_n 3, 1), (13, .i2l, 1), (14, .lconst 0, 1), (15, .ldc2_w 143, 3), (18, .invokestatic 132, 3), (21, .ifCond .ne 7, 3), (24, .invokestatic 139, 3), (27, .lreturn, 1), (28, .aload_n 0, 1), (29, .getfield 112, 3), (32, .iload_n 1, 1), (33, .iaload, 1), (34, .ifCond .lt 19, 3), (37, .aload_n 0, 1), (38, .getfield 115, 3), (41, .iload_n 1, 1), (42, .iaload, 1), (43, .iload_n 3, 1), (44, .if_icmp .eq 9, 3), (47, .aload_n 0, 1), (48, .iconst 2, 1), (49, .invokevirtual 382, 3), (52, .lreturn, 1), (53, .aload_n 0, 1), (54, .iload_n 1, 1), (55, .iload_n 2, 1), (56, .invokevirtual 379, 3), (59, .ifCond .le 16, 3), (62, .aload_n 0, 1), (63, .aload_n 0, 1), (64, .iload_n 1, 1), (65, .iload_n 2, 1), (66, .invokevirtual 379, 3), (69, .invokevirtual 382, 3), (72, .goto 15, 3), (75, .aload_n 0, 1), (76, .getfield 118, 3), (79, .bipush 60, 2), (81, .iload_n 1, 1), (82, .imul, 1), (83, .iload_n 2, 1), (84, .iadd, 1), (85, .iaload, 1), (86, .i2l, 1), (87, .lreturn, 1)]
def i_X11_cell : MI := (RX11, cX11_cell, 4, (some .long), "cell", { frames := 2, cells := 0, slots := 0, locals := 47 })
theorem D_X11_cell : tbOK (i_X11_cell).2.1 tb_X11_cell := by show ∀ q ∈ tb_X11_cell, decode cX11_cell q.1 = .ok (q.2.1, q.2.2); decide +kernel
def po_X11_cell (S : Sk) (I : II) (r : Int64 × II) : Option LV × Sk × II := (some (vL r.1), S, r.2)
def jn_X11_cell_24 (fu : Nat) (S : Sk) (I : II) (a0 : Nat) : Option (Int64 × II) :=
  some (((t_X11_lost), I))
def jn_X11_cell_53 (fu : Nat) (S : Sk) (I : II) (a0 : Nat) (x1 : Int32) (x2 : Int32) : Option (Int64 × II) :=
  (f_X11_noCell fu S I a0 x1 x2).bind fun q2 => (if q2 ≤ 0 then gd (inb S (S.1 a0 54) (((60 : Int32) * x1) + x2)) (some ((((rd I (S.1 a0 54) (((60 : Int32) * x1) + x2))).toInt64, I))) else (f_X11_noCell fu S I a0 x1 x2).bind fun q8 => ((f_X11_failedLong fu S I a0 q8).bind fun q11 => (some ((q11.1, q11.2)))))
def f_X11_cell (fu : Nat) (S : Sk) (I : II) (a0 : Nat) (x1 : Int32) (x2 : Int32) (x3 : Int32) : Option (Int64 × II) :=
  lt (upI I a0 0 (0 : Int32)) fun I14 => (if (t_X11_noSheet x1) = 0 then if (t_X11_in x3.toInt64 (0 : Int64) (2 : Int64)) = 0 then jn_X11_cell_24 fu S I14 a0 else gd (inb S (S.1 a0 52) x1) (if (rd I14 (S.1 a0 52) x1) < 0 then jn_X11_cell_53 fu S I14 a0 x1 x2 else gd (inb S (S.1 a0 53) x1) (if (rd I14 (S.1 a0 53) x1) = x3 then jn_X11_cell_53 fu S I14 a0 x1 x2 else (f_X11_failedLong fu S I14 a0 (2 : Int32)).bind fun q25 => (some ((q25.1, q25.2))))) else jn_X11_cell_24 fu S I14 a0)
set_option maxRecDepth 100000 in
set_option maxHeartbeats 4000000 in
theorem gg_X11_cell {E : EV} (fu : Nat) (S0 : Sk) (I0 : II) (a0 : Nat) (x1 : Int32) (x2 : Int32) (x3 : Int32) (ht0 : tyO S0 11 a0) : GG E i_X11_cell (enM E i_X11_cell S0 (po_X11_cell S0 I0)) S0 I0 (0, 0) 0 [(0, vA (a0 + 1)), (1, vI x1), (2, vI x2), (3, vI x3)] [] (f_X11_cell fu S0 I0 a0 x1 x2 x3) := by
  have hj24 : ∀ (I : II), GG E i_X11_cell (enM E i_X11_cell S0 (po_X11_cell S0 I0)) S0 I (0, 0) 24 [] [] (jn_X11_cell_24 fu S0 I a0) := by
    intro I  
    unfold jn_X11_cell_24
    refine h_callS (st := []) (c_X11_lost (E := E) S0 I) cl_RX11_139 rfl rfl (by decide) (Nat.le_of_ble_eq_true rfl) (dk D_X11_cell 12 rfl) ?_
    exact g_lreturn rfl rfl Sx.rf rfl (by decide) (by decide) (dk D_X11_cell 13 rfl)
  have hj53 : ∀ (I : II), GG E i_X11_cell (enM E i_X11_cell S0 (po_X11_cell S0 I0)) S0 I (0, 0) 53 [(0, vA (a0 + 1)), (1, vI x1), (2, vI x2)] [] (jn_X11_cell_53 fu S0 I a0 x1 x2) := by
    intro I  
    unfold jn_X11_cell_53
    refine g_aload_n (dk D_X11_cell 29 rfl) rfl ?_
    refine g_iload_n (dk D_X11_cell 30 rfl) rfl ?_
    refine g_iload_n (dk D_X11_cell 31 rfl) rfl ?_
    refine g_bind (fun q2 hq3 => ?_)
    refine h_callVt (st := []) (c_X11_noCell (E := E) fu S0 I a0 x1 x2 q2 hq3 (ht0)) cl_RX11_379 ht0 rfl rfl (by decide) (Nat.le_of_ble_eq_true rfl) (dk D_X11_cell 32 rfl) ?_
    refine g_if_le (tgt := 75) (dk D_X11_cell 33 rfl) rfl (fun hc5 => ?_) (fun hc5 => ?_)
    · refine g_aload_n (dk D_X11_cell 41 rfl) rfl ?_
      refine g_getAt (t := 100) fl_RX11_118 rfl ht0 (dk D_X11_cell 42 rfl) (fun ht6 => ?_)
      refine g_bipush (v := (60 : Int32)) (dk D_X11_cell 43 rfl) rfl ?_
      refine g_iload_n (dk D_X11_cell 44 rfl) rfl ?_
      refine g_imul (dk D_X11_cell 45 rfl) ?_
      refine g_iload_n (dk D_X11_cell 46 rfl) rfl ?_
      refine g_iadd (dk D_X11_cell 47 rfl) ?_
      refine g_gd (fun hi7 => ?_)
      refine g_iaload ht6 hi7 (dk D_X11_cell 48 rfl) ?_
      refine g_i2l (dk D_X11_cell 49 rfl) ?_
      exact g_lreturn rfl rfl Sx.rf rfl (by decide) (by decide) (dk D_X11_cell 50 rfl)
    · refine g_aload_n (dk D_X11_cell 34 rfl) rfl ?_
      refine g_aload_n (dk D_X11_cell 35 rfl) rfl ?_
      refine g_iload_n (dk D_X11_cell 36 rfl) rfl ?_
      refine g_iload_n (dk D_X11_cell 37 rfl) rfl ?_
      refine g_bind (fun q8 hq9 => ?_)
      refine h_callVt (st := [vA (a0 + 1)]) (c_X11_noCell (E := E) fu S0 I a0 x1 x2 q8 hq9 (ht0)) cl_RX11_379 ht0 rfl rfl (by decide) (Nat.le_of_ble_eq_true rfl) (dk D_X11_cell 38 rfl) ?_
      refine g_bind (fun q11 hq12 => ?_)
      refine h_callVt (st := []) (c_X11_failedLong (E := E) fu S0 I a0 q8 q11 hq12 (ht0)) cl_RX11_382 ht0 rfl rfl (by decide) (Nat.le_of_ble_eq_true rfl) (dk D_X11_cell 39 rfl) ?_
      refine g_goto (tgt := 87) (dk D_X11_cell 40 rfl) rfl ?_
      exact g_lreturn rfl rfl Sx.rf rfl (by decide) (by decide) (dk D_X11_cell 50 rfl)
  unfold f_X11_cell
  refine g_aload_n (dk D_X11_cell 0 rfl) rfl ?_
  refine g_iconst (v := (0 : Int32)) (dk D_X11_cell 1 rfl) rfl ?_
  refine g_putIt fl_RX11_136 fp_11_0 (fun h => (by cases h)) (by decide) rfl rfl ht0 (dk D_X11_cell 2 rfl) ?_
  refine g_ltI (fun I14 eI14 => ?_)
  refine g_iload_n (dk D_X11_cell 3 rfl) rfl ?_
  refine h_callS (st := []) (c_X11_noSheet (E := E) S0 I14 x1) cl_RX11_175 rfl rfl (by decide) (Nat.le_of_ble_eq_true rfl) (dk D_X11_cell 4 rfl) ?_
  refine g_if_ne (tgt := 24) (dk D_X11_cell 5 rfl) rfl (fun hc16 => ?_) (fun hc16 => ?_)
  · refine g_Lp [] rfl ?_
    exact hj24 I14
  · refine g_iload_n (dk D_X11_cell 6 rfl) rfl ?_
    refine g_i2l (dk D_X11_cell 7 rfl) ?_
    refine g_lconst (v := (0 : Int64)) (dk D_X11_cell 8 rfl) rfl ?_
    refine g_ldc2 (dk D_X11_cell 9 rfl) lk_RX11_143 ?_
    refine h_callS (st := []) (c_X11_in (E := E) S0 I14 x3.toInt64 (0 : Int64) (2 : Int64)) cl_RX11_132 rfl rfl (by decide) (Nat.le_of_ble_eq_true rfl) (dk D_X11_cell 10 rfl) ?_
    refine g_if_ne (tgt := 28) (dk D_X11_cell 11 rfl) rfl (fun hc18 => ?_) (fun hc18 => ?_)
    · refine g_aload_n (dk D_X11_cell 14 rfl) rfl ?_
      refine g_getAt (t := 100) fl_RX11_112 rfl ht0 (dk D_X11_cell 15 rfl) (fun ht19 => ?_)
      refine g_iload_n (dk D_X11_cell 16 rfl) rfl ?_
      refine g_gd (fun hi20 => ?_)
      refine g_iaload ht19 hi20 (dk D_X11_cell 17 rfl) ?_
      refine g_if_lt (tgt := 53) (dk D_X11_cell 18 rfl) rfl (fun hc21 => ?_) (fun hc21 => ?_)
      · refine g_Lp [0, 1, 2] rfl ?_
        exact hj53 I14
      · refine g_aload_n (dk D_X11_cell 19 rfl) rfl ?_
        refine g_getAt (t := 100) fl_RX11_115 rfl ht0 (dk D_X11_cell 20 rfl) (fun ht22 => ?_)
        refine g_iload_n (dk D_X11_cell 21 rfl) rfl ?_
        refine g_gd (fun hi23 => ?_)
        refine g_iaload ht22 hi23 (dk D_X11_cell 22 rfl) ?_
        refine g_iload_n (dk D_X11_cell 23 rfl) rfl ?_
        refine g_icmp_eq (tgt := 53) (dk D_X11_cell 24 rfl) rfl (fun hc24 => ?_) (fun hc24 => ?_)
        · refine g_Lp [0, 1, 2] rfl ?_
          exact hj53 I14
        · refine g_aload_n (dk D_X11_cell 25 rfl) rfl ?_
          refine g_iconst (v := (2 : Int32)) (dk D_X11_cell 26 rfl) rfl ?_
          refine g_bind (fun q25 hq26 => ?_)
          refine h_callVt (st := []) (c_X11_failedLong (E := E) fu S0 I14 a0 (2 : Int32) q25 hq26 (ht0)) cl_RX11_382 ht0 rfl rfl (by decide) (Nat.le_of_ble_eq_true rfl) (dk D_X11_cell 27 rfl) ?_
          exact g_lreturn rfl rfl Sx.rf rfl (by decide) (by decide) (dk D_X11_cell 28 rfl)
    · refine g_Lp [] rfl ?_
      exact hj24 I14
theorem c_X11_cell {E : EV} (fu : Nat) (S0 : Sk) (I0 : II) (a0 : Nat) (x1 : Int32) (x2 : Int32) (x3 : Int32) (r : Int64 × II) (h : f_X11_cell fu S0 I0 a0 x1 x2 x3 = some r) (ht0 : tyO S0 11 a0) : MX E yX11_cell i_X11_cell S0 I0 [vA (a0 + 1), vI x1, vI x2, vI x3] (po_X11_cell S0 I0 r) :=
  MX.of h (by decide) rfl rfl (Nat.le_of_ble_eq_true rfl) (gg_X11_cell fu S0 I0 a0 x1 x2 x3 ht0)
def tb_X11_copy : List (Nat × Instr × Nat) := [(0, .iload_n 1, 1), (1, .invokestatic 175, 3), (4, .ifCond .ne 10, 3), (7, .iload_n 3, 1), (8, .invokestatic 175, 3), (11, .ifCond .eq 9, 3), (14, .aload_n 0, 1), (15, .iconst (-1), 1), (16, .invokevirtual 145, 3), (19, .ireturn, 1), (20, .aload_n 0, 1), (21, .getfield 112, 3), (24, .iload_n 1, 1), (25, .iaload, 1), (26, .ifCond .lt 12, 3), (29, .aload_n 0, 1), (30, .getfield 112, 3), (33, .iload_n 3, 1), (34, .iaload, 1), (35, .ifCond .ge 9, 3), (38, .aload_n 0, 1), (39, .iconst 1, 1), (40, .invokevirtual 149, 3), (43, .ireturn, 1), (44, .aload_n 0, 1), (45, .getfield 115, 3), (48, .iload_n 1, 1), (49, .iaload, 1), (50, .aload_n 0, 1), (51, .getfield 115, 3), (54, .iload_n 3, 1), (55, .iaload, 1), (56, .if_icmp .eq 9, 3), (59, .aload_n 0, 1), (60, .iconst 2, 1), (61, .invokevirtual 149, 3), (64, .ireturn, 1), (65, .iload_n 2, 1), (66, .iload 5, 2), (68, .i2l, 1), (69, .aload_n 0, 1), (70, .getfield 112, 3), (73, .iload_n 1, 1), (74, .iaload, 1), (75, .invokestatic 152, 3), (78, .ifCond .ne 20, 3), (81, .iload 4, 2), (83, .iload 5, 2), (85, .i2l, 1), (86, .aload_n 0, 1), (87, .getfield 112, 3), (90, .iload_n 3, 1), (91, .iaload, 1), (92, .invokestatic 152, 3), (95, .ifCond .eq 9, 3), (98, .aload_n 0, 1), (99, .iconst 3, 1), (100, .invokevirtual 149, 3), (103, .ireturn, 1), (104, .iconst 0, 1), (105, .istore 6, 2), (107, .iload 6, 2), (109, .iload 5, 2), (111, .if_icmp .ge 30, 3), (114, .aload_n 0, 1), (115, .getfield 121, 3), (118, .iload 6, 2), (120, .aload_n 0, 1), (121, .getfield 118, 3), (124, .bipush 60, 2), (126, .iload_n 1, 1), (127, .imul, 1), (128, .iload_n 2, 1), (129, .iadd, 1), (130, .iload 6, 2), (132, .iadd, 1), (133, .iaload, 1), (134, .iastore, 1), (135, .iinc 6 1, 3), (138, .goto (-31), 3), (141, .iconst 0, 1), (142, .istore 6, 2), (144, .iload 6, 2), (146, .iload 5, 2), (148, .if_icmp .ge 31, 3), (151, .aload_n 0, 1), (152, .getfield 118, 3), (155, .bipush 60, 2), (157, .iload_n 3, 1), (158, .imul, 1), (159, .iload 4, 2), (161, .iadd, 1), (162, .iload 6, 2), (164, .iadd, 1), (165, .aload_n 0, 1), (166, .getfield 121, 3), (169, .iload 6, 2), (171, .iaload, 1), (172, .iastore, 1), (173, .iinc 6 1, 3), (176, .goto (-32), 3), (179, .aload_n 0, 1), (180, .iload 5, 2), (182, .invokevirtual 145, 3), (185, .ireturn, 1)]
def i_X11_copy : MI := (RX11, cX11_copy, 7, (some .int), "copy", { frames := 2, cells := 0, slots := 0, locals := 45 })
theorem D_X11_copy : tbOK (i_X11_copy).2.1 tb_X11_copy := by show ∀ q ∈ tb_X11_copy, decode cX11_copy q.1 = .ok (q.2.1, q.2.2); decide +kernel
def po_X11_copy (S : Sk) (I : II) (r : Int32 × II) : Option LV × Sk × II := (some (vI r.1), S, r.2)
def jn_X11_copy_14 (fu : Nat) (S : Sk) (I : II) (a0 : Nat) : Option (Int32 × II) :=
  (f_X11_refused fu S I a0 ((-1) : Int32)).bind fun q1 => (some ((q1.1, q1.2)))
def jn_X11_copy_38 (fu : Nat) (S : Sk) (I : II) (a0 : Nat) : Option (Int32 × II) :=
  (f_X11_failed fu S I a0 (1 : Int32)).bind fun q4 => (some ((q4.1, q4.2)))
def jn_X11_copy_98 (fu : Nat) (S : Sk) (I : II) (a0 : Nat) : Option (Int32 × II) :=
  (f_X11_failed fu S I a0 (3 : Int32)).bind fun q7 => (some ((q7.1, q7.2)))
def lp_X11_copy_144 (fu : Nat) (S : Sk) (a0 : Nat) (x3 : Int32) (x4 : Int32) (x5 : Int32) (self144 : Int32 → II → Option (Int32 × II)) (x6 : Int32) (I : II) : Option (Int32 × II) :=
  if x5 ≤ x6 then (f_X11_refused fu S I a0 x5).bind fun q11 => (some ((q11.1, q11.2))) else gd (inb S (S.1 a0 55) x6) (gd (inb S (S.1 a0 54) ((((60 : Int32) * x3) + x4) + x6)) (lt (wr I (S.1 a0 54) ((((60 : Int32) * x3) + x4) + x6) (rd I (S.1 a0 55) x6)) fun I18 => (self144 (x6 + (1 : Int32)) I18)))
def lp_X11_copy_107 (fu : Nat) (S : Sk) (a0 : Nat) (x1 : Int32) (x2 : Int32) (x3 : Int32) (x4 : Int32) (x5 : Int32) (self107 : Int32 → II → Option (Int32 × II)) (x6 : Int32) (I : II) : Option (Int32 × II) :=
  if x5 ≤ x6 then fix2 (lp_X11_copy_144 fu S a0 x3 x4 x5) fu (0 : Int32) I else gd (inb S (S.1 a0 54) ((((60 : Int32) * x1) + x2) + x6)) (gd (inb S (S.1 a0 55) x6) (lt (wr I (S.1 a0 55) x6 (rd I (S.1 a0 54) ((((60 : Int32) * x1) + x2) + x6))) fun I24 => (self107 (x6 + (1 : Int32)) I24)))
def f_X11_copy (fu : Nat) (S : Sk) (I : II) (a0 : Nat) (x1 : Int32) (x2 : Int32) (x3 : Int32) (x4 : Int32) (x5 : Int32) : Option (Int32 × II) :=
  if (t_X11_noSheet x1) = 0 then if (t_X11_noSheet x3) = 0 then gd (inb S (S.1 a0 52) x1) (if (rd I (S.1 a0 52) x1) < 0 then jn_X11_copy_38 fu S I a0 else gd (inb S (S.1 a0 52) x3) (if 0 ≤ (rd I (S.1 a0 52) x3) then gd (inb S (S.1 a0 53) x1) (gd (inb S (S.1 a0 53) x3) (if (rd I (S.1 a0 53) x1) = (rd I (S.1 a0 53) x3) then if (t_X11_isBeyond x2 x5.toInt64 (rd I (S.1 a0 52) x1)) = 0 then if (t_X11_isBeyond x4 x5.toInt64 (rd I (S.1 a0 52) x3)) = 0 then fix2 (lp_X11_copy_107 fu S a0 x1 x2 x3 x4 x5) fu (0 : Int32) I else jn_X11_copy_98 fu S I a0 else jn_X11_copy_98 fu S I a0 else (f_X11_failed fu S I a0 (2 : Int32)).bind fun q46 => (some ((q46.1, q46.2))))) else jn_X11_copy_38 fu S I a0)) else jn_X11_copy_14 fu S I a0 else jn_X11_copy_14 fu S I a0
set_option maxRecDepth 100000 in
set_option maxHeartbeats 4000000 in
theorem gg_X11_copy {E : EV} (fu : Nat) (S0 : Sk) (I0 : II) (a0 : Nat) (x1 : Int32) (x2 : Int32) (x3 : Int32) (x4 : Int32) (x5 : Int32) (ht0 : tyO S0 11 a0) : GG E i_X11_copy (enM E i_X11_copy S0 (po_X11_copy S0 I0)) S0 I0 (0, 0) 0 [(0, vA (a0 + 1)), (1, vI x1), (2, vI x2), (3, vI x3), (4, vI x4), (5, vI x5)] [] (f_X11_copy fu S0 I0 a0 x1 x2 x3 x4 x5) := by
  have hj14 : ∀ (I : II), GG E i_X11_copy (enM E i_X11_copy S0 (po_X11_copy S0 I0)) S0 I (0, 0) 14 [(0, vA (a0 + 1))] [] (jn_X11_copy_14 fu S0 I a0) := by
    intro I  
    unfold jn_X11_copy_14
    refine g_aload_n (dk D_X11_copy 6 rfl) rfl ?_
    refine g_iconst (v := ((-1) : Int32)) (dk D_X11_copy 7 rfl) rfl ?_
    refine g_bind (fun q1 hq2 => ?_)
    refine h_callVt (st := []) (c_X11_refused (E := E) fu S0 I a0 ((-1) : Int32) q1 hq2 (ht0)) cl_RX11_145 ht0 rfl rfl (by decide) (Nat.le_of_ble_eq_true rfl) (dk D_X11_copy 8 rfl) ?_
    exact g_ireturn rfl rfl Sx.rf rfl (by decide) (by decide) (dk D_X11_copy 9 rfl)
  have hj38 : ∀ (I : II), GG E i_X11_copy (enM E i_X11_copy S0 (po_X11_copy S0 I0)) S0 I (0, 0) 38 [(0, vA (a0 + 1))] [] (jn_X11_copy_38 fu S0 I a0) := by
    intro I  
    unfold jn_X11_copy_38
    refine g_aload_n (dk D_X11_copy 20 rfl) rfl ?_
    refine g_iconst (v := (1 : Int32)) (dk D_X11_copy 21 rfl) rfl ?_
    refine g_bind (fun q4 hq5 => ?_)
    refine h_callVt (st := []) (c_X11_failed (E := E) fu S0 I a0 (1 : Int32) q4 hq5 (ht0)) cl_RX11_149 ht0 rfl rfl (by decide) (Nat.le_of_ble_eq_true rfl) (dk D_X11_copy 22 rfl) ?_
    exact g_ireturn rfl rfl Sx.rf rfl (by decide) (by decide) (dk D_X11_copy 23 rfl)
  have hj98 : ∀ (I : II), GG E i_X11_copy (enM E i_X11_copy S0 (po_X11_copy S0 I0)) S0 I (0, 0) 98 [(0, vA (a0 + 1))] [] (jn_X11_copy_98 fu S0 I a0) := by
    intro I  
    unfold jn_X11_copy_98
    refine g_aload_n (dk D_X11_copy 55 rfl) rfl ?_
    refine g_iconst (v := (3 : Int32)) (dk D_X11_copy 56 rfl) rfl ?_
    refine g_bind (fun q7 hq8 => ?_)
    refine h_callVt (st := []) (c_X11_failed (E := E) fu S0 I a0 (3 : Int32) q7 hq8 (ht0)) cl_RX11_149 ht0 rfl rfl (by decide) (Nat.le_of_ble_eq_true rfl) (dk D_X11_copy 57 rfl) ?_
    exact g_ireturn rfl rfl Sx.rf rfl (by decide) (by decide) (dk D_X11_copy 58 rfl)
  have hl144 : ∀ (nn : Nat) (x6 : Int32) (I : II), True → GG E i_X11_copy (enM E i_X11_copy S0 (po_X11_copy S0 I0)) S0 I (0, 0) 144 [(0, vA (a0 + 1)), (3, vI x3), (4, vI x4), (5, vI x5), (6, vI x6)] [] (fix2 (lp_X11_copy_144 fu S0 a0 x3 x4 x5) nn x6 I) := by
    refine g_fix2 (fun _ _ => S0) (fun x6 I => I) (fun x6 I => [(0, vA (a0 + 1)), (3, vI x3), (4, vI x4), (5, vI x5), (6, vI x6)]) (fun x6 I => True) ?_
    intro self144 hself144 x6 I hinv
    unfold lp_X11_copy_144
    refine g_iload (dk D_X11_copy 82 rfl) rfl ?_
    refine g_iload (dk D_X11_copy 83 rfl) rfl ?_
    refine g_icmp_ge (tgt := 179) (dk D_X11_copy 84 rfl) rfl (fun hc10 => ?_) (fun hc10 => ?_)
    · refine g_aload_n (dk D_X11_copy 101 rfl) rfl ?_
      refine g_iload (dk D_X11_copy 102 rfl) rfl ?_
      refine g_bind (fun q11 hq12 => ?_)
      refine h_callVt (st := []) (c_X11_refused (E := E) fu S0 I a0 x5 q11 hq12 (ht0)) cl_RX11_145 ht0 rfl rfl (by decide) (Nat.le_of_ble_eq_true rfl) (dk D_X11_copy 103 rfl) ?_
      exact g_ireturn rfl rfl Sx.rf rfl (by decide) (by decide) (dk D_X11_copy 104 rfl)
    · refine g_aload_n (dk D_X11_copy 85 rfl) rfl ?_
      refine g_getAt (t := 100) fl_RX11_118 rfl ht0 (dk D_X11_copy 86 rfl) (fun ht14 => ?_)
      refine g_bipush (v := (60 : Int32)) (dk D_X11_copy 87 rfl) rfl ?_
      refine g_iload_n (dk D_X11_copy 88 rfl) rfl ?_
      refine g_imul (dk D_X11_copy 89 rfl) ?_
      refine g_iload (dk D_X11_copy 90 rfl) rfl ?_
      refine g_iadd (dk D_X11_copy 91 rfl) ?_
      refine g_iload (dk D_X11_copy 92 rfl) rfl ?_
      refine g_iadd (dk D_X11_copy 93 rfl) ?_
      refine g_aload_n (dk D_X11_copy 94 rfl) rfl ?_
      refine g_getAt (t := 100) fl_RX11_121 rfl ht0 (dk D_X11_copy 95 rfl) (fun ht15 => ?_)
      refine g_iload (dk D_X11_copy 96 rfl) rfl ?_
      refine g_gd (fun hi16 => ?_)
      refine g_iaload ht15 hi16 (dk D_X11_copy 97 rfl) ?_
      refine g_gd (fun hi17 => ?_)
      refine g_iastore ht14 hi17 (dk D_X11_copy 98 rfl) ?_
      refine g_ltI (fun I18 eI18 => ?_)
      refine g_iinc (v := (1 : Int32)) (L' := [(0, vA (a0 + 1)), (3, vI x3), (4, vI x4), (5, vI x5), (6, vI (x6 + (1 : Int32)))]) (dk D_X11_copy 99 rfl) rfl rfl (Nat.le_of_ble_eq_true rfl) rfl ?_
      refine g_goto (tgt := 144) (dk D_X11_copy 100 rfl) rfl ?_
      exact hself144 (x6 + (1 : Int32)) I18 trivial
  have hl107 : ∀ (nn : Nat) (x6 : Int32) (I : II), True → GG E i_X11_copy (enM E i_X11_copy S0 (po_X11_copy S0 I0)) S0 I (0, 0) 107 [(0, vA (a0 + 1)), (1, vI x1), (2, vI x2), (3, vI x3), (4, vI x4), (5, vI x5), (6, vI x6)] [] (fix2 (lp_X11_copy_107 fu S0 a0 x1 x2 x3 x4 x5) nn x6 I) := by
    refine g_fix2 (fun _ _ => S0) (fun x6 I => I) (fun x6 I => [(0, vA (a0 + 1)), (1, vI x1), (2, vI x2), (3, vI x3), (4, vI x4), (5, vI x5), (6, vI x6)]) (fun x6 I => True) ?_
    intro self107 hself107 x6 I hinv
    unfold lp_X11_copy_107
    refine g_iload (dk D_X11_copy 61 rfl) rfl ?_
    refine g_iload (dk D_X11_copy 62 rfl) rfl ?_
    refine g_icmp_ge (tgt := 141) (dk D_X11_copy 63 rfl) rfl (fun hc19 => ?_) (fun hc19 => ?_)
    · refine g_iconst (v := (0 : Int32)) (dk D_X11_copy 80 rfl) rfl ?_
      refine g_istore (L' := [(0, vA (a0 + 1)), (1, vI x1), (2, vI x2), (3, vI x3), (4, vI x4), (5, vI x5), (6, vI (0 : Int32))]) (dk D_X11_copy 81 rfl) (Nat.le_of_ble_eq_true rfl) rfl ?_
      refine g_Lp [0, 3, 4, 5, 6] rfl ?_
      exact hl144 fu (0 : Int32) I trivial
    · refine g_aload_n (dk D_X11_copy 64 rfl) rfl ?_
      refine g_getAt (t := 100) fl_RX11_121 rfl ht0 (dk D_X11_copy 65 rfl) (fun ht20 => ?_)
      refine g_iload (dk D_X11_copy 66 rfl) rfl ?_
      refine g_aload_n (dk D_X11_copy 67 rfl) rfl ?_
      refine g_getAt (t := 100) fl_RX11_118 rfl ht0 (dk D_X11_copy 68 rfl) (fun ht21 => ?_)
      refine g_bipush (v := (60 : Int32)) (dk D_X11_copy 69 rfl) rfl ?_
      refine g_iload_n (dk D_X11_copy 70 rfl) rfl ?_
      refine g_imul (dk D_X11_copy 71 rfl) ?_
      refine g_iload_n (dk D_X11_copy 72 rfl) rfl ?_
      refine g_iadd (dk D_X11_copy 73 rfl) ?_
      refine g_iload (dk D_X11_copy 74 rfl) rfl ?_
      refine g_iadd (dk D_X11_copy 75 rfl) ?_
      refine g_gd (fun hi22 => ?_)
      refine g_iaload ht21 hi22 (dk D_X11_copy 76 rfl) ?_
      refine g_gd (fun hi23 => ?_)
      refine g_iastore ht20 hi23 (dk D_X11_copy 77 rfl) ?_
      refine g_ltI (fun I24 eI24 => ?_)
      refine g_iinc (v := (1 : Int32)) (L' := [(0, vA (a0 + 1)), (1, vI x1), (2, vI x2), (3, vI x3), (4, vI x4), (5, vI x5), (6, vI (x6 + (1 : Int32)))]) (dk D_X11_copy 78 rfl) rfl rfl (Nat.le_of_ble_eq_true rfl) rfl ?_
      refine g_goto (tgt := 107) (dk D_X11_copy 79 rfl) rfl ?_
      exact hself107 (x6 + (1 : Int32)) I24 trivial
  unfold f_X11_copy
  refine g_iload_n (dk D_X11_copy 0 rfl) rfl ?_
  refine h_callS (st := []) (c_X11_noSheet (E := E) S0 I0 x1) cl_RX11_175 rfl rfl (by decide) (Nat.le_of_ble_eq_true rfl) (dk D_X11_copy 1 rfl) ?_
  refine g_if_ne (tgt := 14) (dk D_X11_copy 2 rfl) rfl (fun hc26 => ?_) (fun hc26 => ?_)
  · refine g_Lp [0] rfl ?_
    exact hj14 I0
  · refine g_iload_n (dk D_X11_copy 3 rfl) rfl ?_
    refine h_callS (st := []) (c_X11_noSheet (E := E) S0 I0 x3) cl_RX11_175 rfl rfl (by decide) (Nat.le_of_ble_eq_true rfl) (dk D_X11_copy 4 rfl) ?_
    refine g_if_eq (tgt := 20) (dk D_X11_copy 5 rfl) rfl (fun hc28 => ?_) (fun hc28 => ?_)
    · refine g_aload_n (dk D_X11_copy 10 rfl) rfl ?_
      refine g_getAt (t := 100) fl_RX11_112 rfl ht0 (dk D_X11_copy 11 rfl) (fun ht29 => ?_)
      refine g_iload_n (dk D_X11_copy 12 rfl) rfl ?_
      refine g_gd (fun hi30 => ?_)
      refine g_iaload ht29 hi30 (dk D_X11_copy 13 rfl) ?_
      refine g_if_lt (tgt := 38) (dk D_X11_copy 14 rfl) rfl (fun hc31 => ?_) (fun hc31 => ?_)
      · refine g_Lp [0] rfl ?_
        exact hj38 I0
      · refine g_aload_n (dk D_X11_copy 15 rfl) rfl ?_
        refine g_getAt (t := 100) fl_RX11_112 rfl ht0 (dk D_X11_copy 16 rfl) (fun ht32 => ?_)
        refine g_iload_n (dk D_X11_copy 17 rfl) rfl ?_
        refine g_gd (fun hi33 => ?_)
        refine g_iaload ht29 hi33 (dk D_X11_copy 18 rfl) ?_
        refine g_if_ge (tgt := 44) (dk D_X11_copy 19 rfl) rfl (fun hc34 => ?_) (fun hc34 => ?_)
        · refine g_aload_n (dk D_X11_copy 24 rfl) rfl ?_
          refine g_getAt (t := 100) fl_RX11_115 rfl ht0 (dk D_X11_copy 25 rfl) (fun ht35 => ?_)
          refine g_iload_n (dk D_X11_copy 26 rfl) rfl ?_
          refine g_gd (fun hi36 => ?_)
          refine g_iaload ht35 hi36 (dk D_X11_copy 27 rfl) ?_
          refine g_aload_n (dk D_X11_copy 28 rfl) rfl ?_
          refine g_getAt (t := 100) fl_RX11_115 rfl ht0 (dk D_X11_copy 29 rfl) (fun ht37 => ?_)
          refine g_iload_n (dk D_X11_copy 30 rfl) rfl ?_
          refine g_gd (fun hi38 => ?_)
          refine g_iaload ht35 hi38 (dk D_X11_copy 31 rfl) ?_
          refine g_icmp_eq (tgt := 65) (dk D_X11_copy 32 rfl) rfl (fun hc39 => ?_) (fun hc39 => ?_)
          · refine g_iload_n (dk D_X11_copy 37 rfl) rfl ?_
            refine g_iload (dk D_X11_copy 38 rfl) rfl ?_
            refine g_i2l (dk D_X11_copy 39 rfl) ?_
            refine g_aload_n (dk D_X11_copy 40 rfl) rfl ?_
            refine g_getAt (t := 100) fl_RX11_112 rfl ht0 (dk D_X11_copy 41 rfl) (fun ht40 => ?_)
            refine g_iload_n (dk D_X11_copy 42 rfl) rfl ?_
            refine g_iaload ht29 hi30 (dk D_X11_copy 43 rfl) ?_
            refine h_callS (st := []) (c_X11_isBeyond (E := E) S0 I0 x2 x5.toInt64 (rd I0 (S0.1 a0 52) x1)) cl_RX11_152 rfl rfl (by decide) (Nat.le_of_ble_eq_true rfl) (dk D_X11_copy 44 rfl) ?_
            refine g_if_ne (tgt := 98) (dk D_X11_copy 45 rfl) rfl (fun hc42 => ?_) (fun hc42 => ?_)
            · refine g_Lp [0] rfl ?_
              exact hj98 I0
            · refine g_iload (dk D_X11_copy 46 rfl) rfl ?_
              refine g_iload (dk D_X11_copy 47 rfl) rfl ?_
              refine g_i2l (dk D_X11_copy 48 rfl) ?_
              refine g_aload_n (dk D_X11_copy 49 rfl) rfl ?_
              refine g_getAt (t := 100) fl_RX11_112 rfl ht0 (dk D_X11_copy 50 rfl) (fun ht43 => ?_)
              refine g_iload_n (dk D_X11_copy 51 rfl) rfl ?_
              refine g_iaload ht29 hi33 (dk D_X11_copy 52 rfl) ?_
              refine h_callS (st := []) (c_X11_isBeyond (E := E) S0 I0 x4 x5.toInt64 (rd I0 (S0.1 a0 52) x3)) cl_RX11_152 rfl rfl (by decide) (Nat.le_of_ble_eq_true rfl) (dk D_X11_copy 53 rfl) ?_
              refine g_if_eq (tgt := 104) (dk D_X11_copy 54 rfl) rfl (fun hc45 => ?_) (fun hc45 => ?_)
              · refine g_iconst (v := (0 : Int32)) (dk D_X11_copy 59 rfl) rfl ?_
                refine g_istore (L' := [(0, vA (a0 + 1)), (1, vI x1), (2, vI x2), (3, vI x3), (4, vI x4), (5, vI x5), (6, vI (0 : Int32))]) (dk D_X11_copy 60 rfl) (Nat.le_of_ble_eq_true rfl) rfl ?_
                exact hl107 fu (0 : Int32) I0 trivial
              · refine g_Lp [0] rfl ?_
                exact hj98 I0
          · refine g_aload_n (dk D_X11_copy 33 rfl) rfl ?_
            refine g_iconst (v := (2 : Int32)) (dk D_X11_copy 34 rfl) rfl ?_
            refine g_bind (fun q46 hq47 => ?_)
            refine h_callVt (st := []) (c_X11_failed (E := E) fu S0 I0 a0 (2 : Int32) q46 hq47 (ht0)) cl_RX11_149 ht0 rfl rfl (by decide) (Nat.le_of_ble_eq_true rfl) (dk D_X11_copy 35 rfl) ?_
            exact g_ireturn rfl rfl Sx.rf rfl (by decide) (by decide) (dk D_X11_copy 36 rfl)
        · refine g_Lp [0] rfl ?_
          exact hj38 I0
    · refine g_Lp [0] rfl ?_
      exact hj14 I0
theorem c_X11_copy {E : EV} (fu : Nat) (S0 : Sk) (I0 : II) (a0 : Nat) (x1 : Int32) (x2 : Int32) (x3 : Int32) (x4 : Int32) (x5 : Int32) (r : Int32 × II) (h : f_X11_copy fu S0 I0 a0 x1 x2 x3 x4 x5 = some r) (ht0 : tyO S0 11 a0) : MX E yX11_copy i_X11_copy S0 I0 [vA (a0 + 1), vI x1, vI x2, vI x3, vI x4, vI x5] (po_X11_copy S0 I0 r) :=
  MX.of h (by decide) rfl rfl (Nat.le_of_ble_eq_true rfl) (gg_X11_copy fu S0 I0 a0 x1 x2 x3 x4 x5 ht0)
theorem fl_RX11_386 : FL RX11 386 11 56 := ⟨RX11, TX11, 57, rfl, by decide, rfl, by decide, (gm 1034 (by decide +kernel) (by decide +kernel)), inG11⟩
theorem fp_11_56 : FP 11 56 (tyX11 56) false := ⟨RX11, TX11, 57, tyX11, rfl, tyX11_ok, nmX11, rfl, rfl, rfl⟩
def tb_X11_traced : List (Nat × Instr × Nat) := [(0, .aload_n 0, 1), (1, .bipush 31, 2), (3, .aload_n 0, 1), (4, .getfield 386, 3), (7, .imul, 1), (8, .iload_n 1, 1), (9, .iadd, 1), (10, .putfield 386, 3), (13, .return_, 1)]
def i_X11_traced : MI := (RX11, cX11_traced, 2, none, "traced", { frames := 0, cells := 0, slots := 0, locals := 0 })
theorem D_X11_traced : tbOK (i_X11_traced).2.1 tb_X11_traced := by show ∀ q ∈ tb_X11_traced, decode cX11_traced q.1 = .ok (q.2.1, q.2.2); decide +kernel
def po_X11_traced (S : Sk) (I : II) (r : II) : Option LV × Sk × II := (none, S, r)
def f_X11_traced (fu : Nat) (S : Sk) (I : II) (a0 : Nat) (x1 : Int32) : Option (II) :=
  lt (upI I a0 56 (((31 : Int32) * (I a0 56)) + x1)) fun I1 => (some (I1))
set_option maxRecDepth 100000 in
set_option maxHeartbeats 4000000 in
theorem gg_X11_traced {E : EV} (fu : Nat) (S0 : Sk) (I0 : II) (a0 : Nat) (x1 : Int32) (ht0 : tyO S0 11 a0) : GG E i_X11_traced (enM E i_X11_traced S0 (po_X11_traced S0 I0)) S0 I0 (0, 0) 0 [(0, vA (a0 + 1)), (1, vI x1)] [] (f_X11_traced fu S0 I0 a0 x1) := by
  unfold f_X11_traced
  refine g_aload_n (dk D_X11_traced 0 rfl) rfl ?_
  refine g_bipush (v := (31 : Int32)) (dk D_X11_traced 1 rfl) rfl ?_
  refine g_aload_n (dk D_X11_traced 2 rfl) rfl ?_
  refine g_getIt fl_RX11_386 (by decide) ht0 (dk D_X11_traced 3 rfl) ?_
  refine g_imul (dk D_X11_traced 4 rfl) ?_
  refine g_iload_n (dk D_X11_traced 5 rfl) rfl ?_
  refine g_iadd (dk D_X11_traced 6 rfl) ?_
  refine g_putIt fl_RX11_386 fp_11_56 (fun h => (by cases h)) (by decide) rfl rfl ht0 (dk D_X11_traced 7 rfl) ?_
  refine g_ltI (fun I1 eI1 => ?_)
  exact g_return rfl rfl Sx.rf rfl (by decide) (by decide) (dk D_X11_traced 8 rfl)
theorem c_X11_traced {E : EV} (fu : Nat) (S0 : Sk) (I0 : II) (a0 : Nat) (x1 : Int32) (r : II) (h : f_X11_traced fu S0 I0 a0 x1 = some r) (ht0 : tyO S0 11 a0) : MX E yX11_traced i_X11_traced S0 I0 [vA (a0 + 1), vI x1] (po_X11_traced S0 I0 r) :=
  MX.of h (by decide) rfl rfl (Nat.le_of_ble_eq_true rfl) (gg_X11_traced fu S0 I0 a0 x1 ht0)
theorem cl_RX11_389 : CV0 RX11 389 yX11_traced i_X11_traced 1 11 := ⟨⟨(gm 1504 (by decide +kernel) (by decide +kernel)), (gm 72 (by decide +kernel) (by decide +kernel)), ((gm 1507 (by decide +kernel) (by decide +kernel))), by decide +kernel, by decide +kernel, by decide +kernel⟩, ⟨(gm 1506 (by decide +kernel) (by decide +kernel)), (gm 64 (by decide +kernel) (by decide +kernel))⟩, rfl, by decide⟩
def tb_X11_tell : List (Nat × Instr × Nat) := [(0, .aload_n 0, 1), (1, .iload_n 1, 1), (2, .invokevirtual 197, 3), (5, .ifCond .eq 5, 3), (8, .iconst (-1), 1), (9, .ireturn, 1), (10, .aload_n 0, 1), (11, .getfield 16, 3), (14, .iload_n 1, 1), (15, .iaload, 1), (16, .istore_n 2, 1), (17, .iload_n 2, 1), (18, .iconst 2, 1), (19, .if_icmp .ne 8, 3), (22, .aload_n 0, 1), (23, .iconst 3, 1), (24, .invokevirtual 389, 3), (27, .iload_n 2, 1), (28, .ifCond .le 8, 3), (31, .aload_n 0, 1), (32, .iconst 2, 1), (33, .invokevirtual 389, 3), (36, .aload_n 0, 1), (37, .iconst 1, 1), (38, .invokevirtual 389, 3), (41, .iload_n 2, 1), (42, .iconst 2, 1), (43, .if_icmp .ne 8, 3), (46, .aload_n 0, 1), (47, .iconst 1, 1), (48, .invokevirtual 389, 3), (51, .aload_n 0, 1), (52, .getfield 19, 3), (55, .iload_n 1, 1), (56, .iaload, 1), (57, .iload_n 2, 1), (58, .ifCond .ne 7, 3), (61, .iconst 0, 1), (62, .goto 9, 3), (65, .aload_n 0, 1), (66, .getfield 28, 3), (69, .iload_n 1, 1), (70, .iaload, 1), (71, .iadd, 1), (72, .iload_n 2, 1), (73, .iconst 2, 1), (74, .if_icmp .ne 12, 3), (77, .aload_n 0, 1), (78, .getfield 19, 3), (81, .iload_n 1, 1), (82, .iaload, 1), (83, .goto 4, 3), (86, .iconst 0, 1), (87, .iadd, 1), (88, .ireturn, 1)]
def i_X11_tell : MI := (RX11, cX11_tell, 3, (some .int), "tell", { frames := 2, cells := 0, slots := 0, locals := 46 })
theorem D_X11_tell : tbOK (i_X11_tell).2.1 tb_X11_tell := by show ∀ q ∈ tb_X11_tell, decode cX11_tell q.1 = .ok (q.2.1, q.2.2); decide +kernel
def po_X11_tell (S : Sk) (I : II) (r : Int32 × II) : Option LV × Sk × II := (some (vI r.1), S, r.2)
def jn_X11_tell_71 (fu : Nat) (S : Sk) (I : II) (a0 : Nat) (x1 : Int32) (x2 : Int32) (s0 : Int32) (s1 : Int32) : Option (Int32 × II) :=
  if x2 = (2 : Int32) then gd (inb S (S.1 a0 6) x1) (some ((((s0 + s1) + (rd I (S.1 a0 6) x1)), I))) else some ((((s0 + s1) + (0 : Int32)), I))
def jn_X11_tell_51 (fu : Nat) (S : Sk) (I : II) (a0 : Nat) (x1 : Int32) (x2 : Int32) : Option (Int32 × II) :=
  gd (inb S (S.1 a0 6) x1) (if x2 = 0 then jn_X11_tell_71 fu S I a0 x1 x2 (rd I (S.1 a0 6) x1) (0 : Int32) else gd (inb S (S.1 a0 9) x1) (jn_X11_tell_71 fu S I a0 x1 x2 (rd I (S.1 a0 6) x1) (rd I (S.1 a0 9) x1)))
def jn_X11_tell_36 (fu : Nat) (S : Sk) (I : II) (a0 : Nat) (x1 : Int32) (x2 : Int32) : Option (Int32 × II) :=
  (f_X11_traced fu S I a0 (1 : Int32)).bind fun q9 => (if x2 = (2 : Int32) then (f_X11_traced fu S q9 a0 (1 : Int32)).bind fun q13 => (jn_X11_tell_51 fu S q13 a0 x1 x2) else jn_X11_tell_51 fu S q9 a0 x1 x2)
def jn_X11_tell_27 (fu : Nat) (S : Sk) (I : II) (a0 : Nat) (x1 : Int32) (x2 : Int32) : Option (Int32 × II) :=
  if x2 ≤ 0 then jn_X11_tell_36 fu S I a0 x1 x2 else (f_X11_traced fu S I a0 (2 : Int32)).bind fun q17 => (jn_X11_tell_36 fu S q17 a0 x1 x2)
def f_X11_tell (fu : Nat) (S : Sk) (I : II) (a0 : Nat) (x1 : Int32) : Option (Int32 × II) :=
  if (t_X11_noLine I a0 x1) = 0 then gd (inb S (S.1 a0 5) x1) (lt (rd I (S.1 a0 5) x1) fun x2_24 => (if x2_24 = (2 : Int32) then (f_X11_traced fu S I a0 (3 : Int32)).bind fun q26 => (jn_X11_tell_27 fu S q26 a0 x1 x2_24) else jn_X11_tell_27 fu S I a0 x1 x2_24)) else some ((((-1) : Int32), I))
set_option maxRecDepth 100000 in
set_option maxHeartbeats 4000000 in
theorem gg_X11_tell {E : EV} (fu : Nat) (S0 : Sk) (I0 : II) (a0 : Nat) (x1 : Int32) (ht0 : tyO S0 11 a0) : GG E i_X11_tell (enM E i_X11_tell S0 (po_X11_tell S0 I0)) S0 I0 (0, 0) 0 [(0, vA (a0 + 1)), (1, vI x1)] [] (f_X11_tell fu S0 I0 a0 x1) := by
  have hj71 : ∀ (I : II) (x2 : Int32) (s0 : Int32) (s1 : Int32), GG E i_X11_tell (enM E i_X11_tell S0 (po_X11_tell S0 I0)) S0 I (0, 0) 71 [(0, vA (a0 + 1)), (1, vI x1), (2, vI x2)] [vI s1, vI s0] (jn_X11_tell_71 fu S0 I a0 x1 x2 s0 s1) := by
    intro I x2 s0 s1 
    unfold jn_X11_tell_71
    refine g_iadd (dk D_X11_tell 43 rfl) ?_
    refine g_iload_n (dk D_X11_tell 44 rfl) rfl ?_
    refine g_iconst (v := (2 : Int32)) (dk D_X11_tell 45 rfl) rfl ?_
    refine g_icmp_ne (tgt := 86) (dk D_X11_tell 46 rfl) rfl (fun hc1 => ?_) (fun hc1 => ?_)
    · refine g_iconst (v := (0 : Int32)) (dk D_X11_tell 52 rfl) rfl ?_
      refine g_iadd (dk D_X11_tell 53 rfl) ?_
      exact g_ireturn rfl rfl Sx.rf rfl (by decide) (by decide) (dk D_X11_tell 54 rfl)
    · refine g_aload_n (dk D_X11_tell 47 rfl) rfl ?_
      refine g_getAt (t := 100) fl_RX11_19 rfl ht0 (dk D_X11_tell 48 rfl) (fun ht2 => ?_)
      refine g_iload_n (dk D_X11_tell 49 rfl) rfl ?_
      refine g_gd (fun hi3 => ?_)
      refine g_iaload ht2 hi3 (dk D_X11_tell 50 rfl) ?_
      refine g_goto (tgt := 87) (dk D_X11_tell 51 rfl) rfl ?_
      refine g_iadd (dk D_X11_tell 53 rfl) ?_
      exact g_ireturn rfl rfl Sx.rf rfl (by decide) (by decide) (dk D_X11_tell 54 rfl)
  have hj51 : ∀ (I : II) (x2 : Int32), GG E i_X11_tell (enM E i_X11_tell S0 (po_X11_tell S0 I0)) S0 I (0, 0) 51 [(0, vA (a0 + 1)), (1, vI x1), (2, vI x2)] [] (jn_X11_tell_51 fu S0 I a0 x1 x2) := by
    intro I x2 
    unfold jn_X11_tell_51
    refine g_aload_n (dk D_X11_tell 31 rfl) rfl ?_
    refine g_getAt (t := 100) fl_RX11_19 rfl ht0 (dk D_X11_tell 32 rfl) (fun ht4 => ?_)
    refine g_iload_n (dk D_X11_tell 33 rfl) rfl ?_
    refine g_gd (fun hi5 => ?_)
    refine g_iaload ht4 hi5 (dk D_X11_tell 34 rfl) ?_
    refine g_iload_n (dk D_X11_tell 35 rfl) rfl ?_
    refine g_if_ne (tgt := 65) (dk D_X11_tell 36 rfl) rfl (fun hc6 => ?_) (fun hc6 => ?_)
    · refine g_aload_n (dk D_X11_tell 39 rfl) rfl ?_
      refine g_getAt (t := 100) fl_RX11_28 rfl ht0 (dk D_X11_tell 40 rfl) (fun ht7 => ?_)
      refine g_iload_n (dk D_X11_tell 41 rfl) rfl ?_
      refine g_gd (fun hi8 => ?_)
      refine g_iaload ht7 hi8 (dk D_X11_tell 42 rfl) ?_
      exact hj71 I x2 (rd I (S0.1 a0 6) x1) (rd I (S0.1 a0 9) x1)
    · refine g_iconst (v := (0 : Int32)) (dk D_X11_tell 37 rfl) rfl ?_
      refine g_goto (tgt := 71) (dk D_X11_tell 38 rfl) rfl ?_
      exact hj71 I x2 (rd I (S0.1 a0 6) x1) (0 : Int32)
  have hj36 : ∀ (I : II) (x2 : Int32), GG E i_X11_tell (enM E i_X11_tell S0 (po_X11_tell S0 I0)) S0 I (0, 0) 36 [(0, vA (a0 + 1)), (1, vI x1), (2, vI x2)] [] (jn_X11_tell_36 fu S0 I a0 x1 x2) := by
    intro I x2 
    unfold jn_X11_tell_36
    refine g_aload_n (dk D_X11_tell 22 rfl) rfl ?_
    refine g_iconst (v := (1 : Int32)) (dk D_X11_tell 23 rfl) rfl ?_
    refine g_bind (fun q9 hq10 => ?_)
    refine h_callVt (st := []) (c_X11_traced (E := E) fu S0 I a0 (1 : Int32) q9 hq10 (ht0)) cl_RX11_389 ht0 rfl rfl (by decide) (Nat.le_of_ble_eq_true rfl) (dk D_X11_tell 24 rfl) ?_
    refine g_iload_n (dk D_X11_tell 25 rfl) rfl ?_
    refine g_iconst (v := (2 : Int32)) (dk D_X11_tell 26 rfl) rfl ?_
    refine g_icmp_ne (tgt := 51) (dk D_X11_tell 27 rfl) rfl (fun hc12 => ?_) (fun hc12 => ?_)
    · exact hj51 q9 x2
    · refine g_aload_n (dk D_X11_tell 28 rfl) rfl ?_
      refine g_iconst (v := (1 : Int32)) (dk D_X11_tell 29 rfl) rfl ?_
      refine g_bind (fun q13 hq14 => ?_)
      refine h_callVt (st := []) (c_X11_traced (E := E) fu S0 q9 a0 (1 : Int32) q13 hq14 (ht0)) cl_RX11_389 ht0 rfl rfl (by decide) (Nat.le_of_ble_eq_true rfl) (dk D_X11_tell 30 rfl) ?_
      exact hj51 q13 x2
  have hj27 : ∀ (I : II) (x2 : Int32), GG E i_X11_tell (enM E i_X11_tell S0 (po_X11_tell S0 I0)) S0 I (0, 0) 27 [(0, vA (a0 + 1)), (1, vI x1), (2, vI x2)] [] (jn_X11_tell_27 fu S0 I a0 x1 x2) := by
    intro I x2 
    unfold jn_X11_tell_27
    refine g_iload_n (dk D_X11_tell 17 rfl) rfl ?_
    refine g_if_le (tgt := 36) (dk D_X11_tell 18 rfl) rfl (fun hc16 => ?_) (fun hc16 => ?_)
    · exact hj36 I x2
    · refine g_aload_n (dk D_X11_tell 19 rfl) rfl ?_
      refine g_iconst (v := (2 : Int32)) (dk D_X11_tell 20 rfl) rfl ?_
      refine g_bind (fun q17 hq18 => ?_)
      refine h_callVt (st := []) (c_X11_traced (E := E) fu S0 I a0 (2 : Int32) q17 hq18 (ht0)) cl_RX11_389 ht0 rfl rfl (by decide) (Nat.le_of_ble_eq_true rfl) (dk D_X11_tell 21 rfl) ?_
      exact hj36 q17 x2
  unfold f_X11_tell
  refine g_aload_n (dk D_X11_tell 0 rfl) rfl ?_
  refine g_iload_n (dk D_X11_tell 1 rfl) rfl ?_
  refine h_callVt (st := []) (c_X11_noLine (E := E) S0 I0 a0 x1 (ht0)) cl_RX11_197 ht0 rfl rfl (by decide) (Nat.le_of_ble_eq_true rfl) (dk D_X11_tell 2 rfl) ?_
  refine g_if_eq (tgt := 10) (dk D_X11_tell 3 rfl) rfl (fun hc21 => ?_) (fun hc21 => ?_)
  · refine g_aload_n (dk D_X11_tell 6 rfl) rfl ?_
    refine g_getAt (t := 100) fl_RX11_16 rfl ht0 (dk D_X11_tell 7 rfl) (fun ht22 => ?_)
    refine g_iload_n (dk D_X11_tell 8 rfl) rfl ?_
    refine g_gd (fun hi23 => ?_)
    refine g_iaload ht22 hi23 (dk D_X11_tell 9 rfl) ?_
    refine g_ltV (fun x2_24 ex2_24 => ?_)
    refine g_istore_n (L' := [(0, vA (a0 + 1)), (1, vI x1), (2, vI x2_24)]) (dk D_X11_tell 10 rfl) (Nat.le_of_ble_eq_true rfl) rfl ?_
    refine g_iload_n (dk D_X11_tell 11 rfl) rfl ?_
    refine g_iconst (v := (2 : Int32)) (dk D_X11_tell 12 rfl) rfl ?_
    refine g_icmp_ne (tgt := 27) (dk D_X11_tell 13 rfl) rfl (fun hc25 => ?_) (fun hc25 => ?_)
    · exact hj27 I0 x2_24
    · refine g_aload_n (dk D_X11_tell 14 rfl) rfl ?_
      refine g_iconst (v := (3 : Int32)) (dk D_X11_tell 15 rfl) rfl ?_
      refine g_bind (fun q26 hq27 => ?_)
      refine h_callVt (st := []) (c_X11_traced (E := E) fu S0 I0 a0 (3 : Int32) q26 hq27 (ht0)) cl_RX11_389 ht0 rfl rfl (by decide) (Nat.le_of_ble_eq_true rfl) (dk D_X11_tell 16 rfl) ?_
      exact hj27 q26 x2_24
  · refine g_iconst (v := ((-1) : Int32)) (dk D_X11_tell 4 rfl) rfl ?_
    exact g_ireturn rfl rfl Sx.rf rfl (by decide) (by decide) (dk D_X11_tell 5 rfl)
theorem c_X11_tell {E : EV} (fu : Nat) (S0 : Sk) (I0 : II) (a0 : Nat) (x1 : Int32) (r : Int32 × II) (h : f_X11_tell fu S0 I0 a0 x1 = some r) (ht0 : tyO S0 11 a0) : MX E yX11_tell i_X11_tell S0 I0 [vA (a0 + 1), vI x1] (po_X11_tell S0 I0 r) :=
  MX.of h (by decide) rfl rfl (Nat.le_of_ble_eq_true rfl) (gg_X11_tell fu S0 I0 a0 x1 ht0)
def tb_X11_hail : List (Nat × Instr × Nat) := [(0, .aload_n 0, 1), (1, .iload_n 1, 1), (2, .invokevirtual 197, 3), (5, .ifCond .eq 5, 3), (8, .iconst (-1), 1), (9, .ireturn, 1), (10, .aload_n 0, 1), (11, .aload_n 0, 1), (12, .getfield 16, 3), (15, .iload_n 1, 1), (16, .iaload, 1), (17, .iconst 2, 1), (18, .if_icmp .ne 7, 3), (21, .iconst 5, 1), (22, .goto 4, 3), (25, .iconst 4, 1), (26, .invokevirtual 389, 3), (29, .aload_n 0, 1), (30, .getfield 16, 3), (33, .iload_n 1, 1), (34, .iaload, 1), (35, .iconst 2, 1), (36, .if_icmp .ne 8, 3), (39, .bipush 90, 2), (41, .goto 4, 3), (44, .iload_n 1, 1), (45, .ireturn, 1)]
def i_X11_hail : MI := (RX11, cX11_hail, 2, (some .int), "hail", { frames := 2, cells := 0, slots := 0, locals := 46 })
theorem D_X11_hail : tbOK (i_X11_hail).2.1 tb_X11_hail := by show ∀ q ∈ tb_X11_hail, decode cX11_hail q.1 = .ok (q.2.1, q.2.2); decide +kernel
def po_X11_hail (S : Sk) (I : II) (r : Int32 × II) : Option LV × Sk × II := (some (vI r.1), S, r.2)
def jn_X11_hail_26 (fu : Nat) (S : Sk) (I : II) (a0 : Nat) (x1 : Int32) (s1 : Int32) : Option (Int32 × II) :=
  (f_X11_traced fu S I a0 s1).bind fun q1 => (gd (inb S (S.1 a0 5) x1) (if (rd q1 (S.1 a0 5) x1) = (2 : Int32) then some (((90 : Int32), q1)) else some ((x1, q1))))
def f_X11_hail (fu : Nat) (S : Sk) (I : II) (a0 : Nat) (x1 : Int32) : Option (Int32 × II) :=
  if (t_X11_noLine I a0 x1) = 0 then gd (inb S (S.1 a0 5) x1) (if (rd I (S.1 a0 5) x1) = (2 : Int32) then jn_X11_hail_26 fu S I a0 x1 (5 : Int32) else jn_X11_hail_26 fu S I a0 x1 (4 : Int32)) else some ((((-1) : Int32), I))
set_option maxRecDepth 100000 in
set_option maxHeartbeats 4000000 in
theorem gg_X11_hail {E : EV} (fu : Nat) (S0 : Sk) (I0 : II) (a0 : Nat) (x1 : Int32) (ht0 : tyO S0 11 a0) : GG E i_X11_hail (enM E i_X11_hail S0 (po_X11_hail S0 I0)) S0 I0 (0, 0) 0 [(0, vA (a0 + 1)), (1, vI x1)] [] (f_X11_hail fu S0 I0 a0 x1) := by
  have hj26 : ∀ (I : II) (s1 : Int32), GG E i_X11_hail (enM E i_X11_hail S0 (po_X11_hail S0 I0)) S0 I (0, 0) 26 [(0, vA (a0 + 1)), (1, vI x1)] [vI s1, vA (a0 + 1)] (jn_X11_hail_26 fu S0 I a0 x1 s1) := by
    intro I s1 
    unfold jn_X11_hail_26
    refine g_bind (fun q1 hq2 => ?_)
    refine h_callVt (st := []) (c_X11_traced (E := E) fu S0 I a0 s1 q1 hq2 (ht0)) cl_RX11_389 ht0 rfl rfl (by decide) (Nat.le_of_ble_eq_true rfl) (dk D_X11_hail 16 rfl) ?_
    refine g_aload_n (dk D_X11_hail 17 rfl) rfl ?_
    refine g_getAt (t := 100) fl_RX11_16 rfl ht0 (dk D_X11_hail 18 rfl) (fun ht4 => ?_)
    refine g_iload_n (dk D_X11_hail 19 rfl) rfl ?_
    refine g_gd (fun hi5 => ?_)
    refine g_iaload ht4 hi5 (dk D_X11_hail 20 rfl) ?_
    refine g_iconst (v := (2 : Int32)) (dk D_X11_hail 21 rfl) rfl ?_
    refine g_icmp_ne (tgt := 44) (dk D_X11_hail 22 rfl) rfl (fun hc6 => ?_) (fun hc6 => ?_)
    · refine g_iload_n (dk D_X11_hail 25 rfl) rfl ?_
      exact g_ireturn rfl rfl Sx.rf rfl (by decide) (by decide) (dk D_X11_hail 26 rfl)
    · refine g_bipush (v := (90 : Int32)) (dk D_X11_hail 23 rfl) rfl ?_
      refine g_goto (tgt := 45) (dk D_X11_hail 24 rfl) rfl ?_
      exact g_ireturn rfl rfl Sx.rf rfl (by decide) (by decide) (dk D_X11_hail 26 rfl)
  unfold f_X11_hail
  refine g_aload_n (dk D_X11_hail 0 rfl) rfl ?_
  refine g_iload_n (dk D_X11_hail 1 rfl) rfl ?_
  refine h_callVt (st := []) (c_X11_noLine (E := E) S0 I0 a0 x1 (ht0)) cl_RX11_197 ht0 rfl rfl (by decide) (Nat.le_of_ble_eq_true rfl) (dk D_X11_hail 2 rfl) ?_
  refine g_if_eq (tgt := 10) (dk D_X11_hail 3 rfl) rfl (fun hc8 => ?_) (fun hc8 => ?_)
  · refine g_aload_n (dk D_X11_hail 6 rfl) rfl ?_
    refine g_aload_n (dk D_X11_hail 7 rfl) rfl ?_
    refine g_getAt (t := 100) fl_RX11_16 rfl ht0 (dk D_X11_hail 8 rfl) (fun ht9 => ?_)
    refine g_iload_n (dk D_X11_hail 9 rfl) rfl ?_
    refine g_gd (fun hi10 => ?_)
    refine g_iaload ht9 hi10 (dk D_X11_hail 10 rfl) ?_
    refine g_iconst (v := (2 : Int32)) (dk D_X11_hail 11 rfl) rfl ?_
    refine g_icmp_ne (tgt := 25) (dk D_X11_hail 12 rfl) rfl (fun hc11 => ?_) (fun hc11 => ?_)
    · refine g_iconst (v := (4 : Int32)) (dk D_X11_hail 15 rfl) rfl ?_
      exact hj26 I0 (4 : Int32)
    · refine g_iconst (v := (5 : Int32)) (dk D_X11_hail 13 rfl) rfl ?_
      refine g_goto (tgt := 26) (dk D_X11_hail 14 rfl) rfl ?_
      exact hj26 I0 (5 : Int32)
  · refine g_iconst (v := ((-1) : Int32)) (dk D_X11_hail 4 rfl) rfl ?_
    exact g_ireturn rfl rfl Sx.rf rfl (by decide) (by decide) (dk D_X11_hail 5 rfl)
theorem c_X11_hail {E : EV} (fu : Nat) (S0 : Sk) (I0 : II) (a0 : Nat) (x1 : Int32) (r : Int32 × II) (h : f_X11_hail fu S0 I0 a0 x1 = some r) (ht0 : tyO S0 11 a0) : MX E yX11_hail i_X11_hail S0 I0 [vA (a0 + 1), vI x1] (po_X11_hail S0 I0 r) :=
  MX.of h (by decide) rfl rfl (Nat.le_of_ble_eq_true rfl) (gg_X11_hail fu S0 I0 a0 x1 ht0)
def tb_X11_as : List (Nat × Instr × Nat) := [(0, .aload_n 0, 1), (1, .iload_n 1, 1), (2, .invokevirtual 197, 3), (5, .ifCond .eq 9, 3), (8, .aload_n 0, 1), (9, .iconst (-1), 1), (10, .invokevirtual 145, 3), (13, .ireturn, 1), (14, .iload_n 2, 1), (15, .i2l, 1), (16, .lconst 0, 1), (17, .ldc2_w 143, 3), (20, .invokestatic 132, 3), (23, .ifCond .ne 10, 3), (26, .aload_n 0, 1), (27, .bipush (-2), 2), (29, .invokevirtual 145, 3), (32, .ireturn, 1), (33, .aload_n 0, 1), (34, .getfield 16, 3), (37, .iload_n 1, 1), (38, .iaload, 1), (39, .iload_n 2, 1), (40, .if_icmp .lt 11, 3), (43, .aload_n 0, 1), (44, .iconst 1, 1), (45, .invokevirtual 145, 3), (48, .goto 8, 3), (51, .aload_n 0, 1), (52, .iconst 2, 1), (53, .invokevirtual 149, 3), (56, .ireturn, 1)]
def i_X11_as : MI := (RX11, cX11_as, 3, (some .int), "as", { frames := 2, cells := 0, slots := 0, locals := 46 })
theorem D_X11_as : tbOK (i_X11_as).2.1 tb_X11_as := by show ∀ q ∈ tb_X11_as, decode cX11_as q.1 = .ok (q.2.1, q.2.2); decide +kernel
def po_X11_as (S : Sk) (I : II) (r : Int32 × II) : Option LV × Sk × II := (some (vI r.1), S, r.2)
def f_X11_as (fu : Nat) (S : Sk) (I : II) (a0 : Nat) (x1 : Int32) (x2 : Int32) : Option (Int32 × II) :=
  if (t_X11_noLine I a0 x1) = 0 then if (t_X11_in x2.toInt64 (0 : Int64) (2 : Int64)) = 0 then (f_X11_refused fu S I a0 ((-2) : Int32)).bind fun q14 => (some ((q14.1, q14.2))) else gd (inb S (S.1 a0 5) x1) (if (rd I (S.1 a0 5) x1) < x2 then (f_X11_failed fu S I a0 (2 : Int32)).bind fun q8 => (some ((q8.1, q8.2))) else (f_X11_refused fu S I a0 (1 : Int32)).bind fun q11 => (some ((q11.1, q11.2)))) else (f_X11_refused fu S I a0 ((-1) : Int32)).bind fun q17 => (some ((q17.1, q17.2)))
set_option maxRecDepth 100000 in
set_option maxHeartbeats 4000000 in
theorem gg_X11_as {E : EV} (fu : Nat) (S0 : Sk) (I0 : II) (a0 : Nat) (x1 : Int32) (x2 : Int32) (ht0 : tyO S0 11 a0) : GG E i_X11_as (enM E i_X11_as S0 (po_X11_as S0 I0)) S0 I0 (0, 0) 0 [(0, vA (a0 + 1)), (1, vI x1), (2, vI x2)] [] (f_X11_as fu S0 I0 a0 x1 x2) := by
  unfold f_X11_as
  refine g_aload_n (dk D_X11_as 0 rfl) rfl ?_
  refine g_iload_n (dk D_X11_as 1 rfl) rfl ?_
  refine h_callVt (st := []) (c_X11_noLine (E := E) S0 I0 a0 x1 (ht0)) cl_RX11_197 ht0 rfl rfl (by decide) (Nat.le_of_ble_eq_true rfl) (dk D_X11_as 2 rfl) ?_
  refine g_if_eq (tgt := 14) (dk D_X11_as 3 rfl) rfl (fun hc2 => ?_) (fun hc2 => ?_)
  · refine g_iload_n (dk D_X11_as 8 rfl) rfl ?_
    refine g_i2l (dk D_X11_as 9 rfl) ?_
    refine g_lconst (v := (0 : Int64)) (dk D_X11_as 10 rfl) rfl ?_
    refine g_ldc2 (dk D_X11_as 11 rfl) lk_RX11_143 ?_
    refine h_callS (st := []) (c_X11_in (E := E) S0 I0 x2.toInt64 (0 : Int64) (2 : Int64)) cl_RX11_132 rfl rfl (by decide) (Nat.le_of_ble_eq_true rfl) (dk D_X11_as 12 rfl) ?_
    refine g_if_ne (tgt := 33) (dk D_X11_as 13 rfl) rfl (fun hc4 => ?_) (fun hc4 => ?_)
    · refine g_aload_n (dk D_X11_as 18 rfl) rfl ?_
      refine g_getAt (t := 100) fl_RX11_16 rfl ht0 (dk D_X11_as 19 rfl) (fun ht5 => ?_)
      refine g_iload_n (dk D_X11_as 20 rfl) rfl ?_
      refine g_gd (fun hi6 => ?_)
      refine g_iaload ht5 hi6 (dk D_X11_as 21 rfl) ?_
      refine g_iload_n (dk D_X11_as 22 rfl) rfl ?_
      refine g_icmp_lt (tgt := 51) (dk D_X11_as 23 rfl) rfl (fun hc7 => ?_) (fun hc7 => ?_)
      · refine g_aload_n (dk D_X11_as 28 rfl) rfl ?_
        refine g_iconst (v := (2 : Int32)) (dk D_X11_as 29 rfl) rfl ?_
        refine g_bind (fun q8 hq9 => ?_)
        refine h_callVt (st := []) (c_X11_failed (E := E) fu S0 I0 a0 (2 : Int32) q8 hq9 (ht0)) cl_RX11_149 ht0 rfl rfl (by decide) (Nat.le_of_ble_eq_true rfl) (dk D_X11_as 30 rfl) ?_
        exact g_ireturn rfl rfl Sx.rf rfl (by decide) (by decide) (dk D_X11_as 31 rfl)
      · refine g_aload_n (dk D_X11_as 24 rfl) rfl ?_
        refine g_iconst (v := (1 : Int32)) (dk D_X11_as 25 rfl) rfl ?_
        refine g_bind (fun q11 hq12 => ?_)
        refine h_callVt (st := []) (c_X11_refused (E := E) fu S0 I0 a0 (1 : Int32) q11 hq12 (ht0)) cl_RX11_145 ht0 rfl rfl (by decide) (Nat.le_of_ble_eq_true rfl) (dk D_X11_as 26 rfl) ?_
        refine g_goto (tgt := 56) (dk D_X11_as 27 rfl) rfl ?_
        exact g_ireturn rfl rfl Sx.rf rfl (by decide) (by decide) (dk D_X11_as 31 rfl)
    · refine g_aload_n (dk D_X11_as 14 rfl) rfl ?_
      refine g_bipush (v := ((-2) : Int32)) (dk D_X11_as 15 rfl) rfl ?_
      refine g_bind (fun q14 hq15 => ?_)
      refine h_callVt (st := []) (c_X11_refused (E := E) fu S0 I0 a0 ((-2) : Int32) q14 hq15 (ht0)) cl_RX11_145 ht0 rfl rfl (by decide) (Nat.le_of_ble_eq_true rfl) (dk D_X11_as 16 rfl) ?_
      exact g_ireturn rfl rfl Sx.rf rfl (by decide) (by decide) (dk D_X11_as 17 rfl)
  · refine g_aload_n (dk D_X11_as 4 rfl) rfl ?_
    refine g_iconst (v := ((-1) : Int32)) (dk D_X11_as 5 rfl) rfl ?_
    refine g_bind (fun q17 hq18 => ?_)
    refine h_callVt (st := []) (c_X11_refused (E := E) fu S0 I0 a0 ((-1) : Int32) q17 hq18 (ht0)) cl_RX11_145 ht0 rfl rfl (by decide) (Nat.le_of_ble_eq_true rfl) (dk D_X11_as 6 rfl) ?_
    exact g_ireturn rfl rfl Sx.rf rfl (by decide) (by decide) (dk D_X11_as 7 rfl)
theorem c_X11_as {E : EV} (fu : Nat) (S0 : Sk) (I0 : II) (a0 : Nat) (x1 : Int32) (x2 : Int32) (r : Int32 × II) (h : f_X11_as fu S0 I0 a0 x1 x2 = some r) (ht0 : tyO S0 11 a0) : MX E yX11_as i_X11_as S0 I0 [vA (a0 + 1), vI x1, vI x2] (po_X11_as S0 I0 r) :=
  MX.of h (by decide) rfl rfl (Nat.le_of_ble_eq_true rfl) (gg_X11_as fu S0 I0 a0 x1 x2 ht0)
def tb_X11_trace : List (Nat × Instr × Nat) := [(0, .aload_n 0, 1), (1, .getfield 386, 3), (4, .ireturn, 1)]
def i_X11_trace : MI := (RX11, cX11_trace, 1, (some .int), "trace", { frames := 0, cells := 0, slots := 0, locals := 0 })
theorem D_X11_trace : tbOK (i_X11_trace).2.1 tb_X11_trace := by show ∀ q ∈ tb_X11_trace, decode cX11_trace q.1 = .ok (q.2.1, q.2.2); decide +kernel
def po_X11_trace (S : Sk) (I : II) (r : Int32) : Option LV × Sk × II := (some (vI r), S, I)
def f_X11_trace (fu : Nat) (S : Sk) (I : II) (a0 : Nat) : Option (Int32) :=
  some ((I a0 56))
set_option maxRecDepth 100000 in
set_option maxHeartbeats 4000000 in
theorem gg_X11_trace {E : EV} (fu : Nat) (S0 : Sk) (I0 : II) (a0 : Nat) (ht0 : tyO S0 11 a0) : GG E i_X11_trace (enM E i_X11_trace S0 (po_X11_trace S0 I0)) S0 I0 (0, 0) 0 [(0, vA (a0 + 1))] [] (f_X11_trace fu S0 I0 a0) := by
  unfold f_X11_trace
  refine g_aload_n (dk D_X11_trace 0 rfl) rfl ?_
  refine g_getIt fl_RX11_386 (by decide) ht0 (dk D_X11_trace 1 rfl) ?_
  exact g_ireturn rfl rfl Sx.rf rfl (by decide) (by decide) (dk D_X11_trace 2 rfl)
def t_X11_trace (I : II) (a0 : Nat) : Int32 :=
  (I a0 56)
theorem ft_X11_trace (fu : Nat) (S : Sk) (I0 : II) (a0 : Nat) : f_X11_trace fu S I0 a0 = some (t_X11_trace I0 a0) := by
  simp only [f_X11_trace, t_X11_trace, lt, apply_ite some]
theorem c_X11_trace {E : EV} (S0 : Sk) (I0 : II) (a0 : Nat) (ht0 : tyO S0 11 a0) : MX E yX11_trace i_X11_trace S0 I0 [vA (a0 + 1)] (po_X11_trace S0 I0 (t_X11_trace I0 a0)) :=
  MX.of (ft_X11_trace 0 S0 I0 a0) (by decide) rfl rfl (Nat.le_of_ble_eq_true rfl) (gg_X11_trace 0 S0 I0 a0 ht0)
def tb_X11_fault : List (Nat × Instr × Nat) := [(0, .aload_n 0, 1), (1, .getfield 136, 3), (4, .ireturn, 1)]
def i_X11_fault : MI := (RX11, cX11_fault, 1, (some .int), "fault", { frames := 0, cells := 0, slots := 0, locals := 0 })
theorem D_X11_fault : tbOK (i_X11_fault).2.1 tb_X11_fault := by show ∀ q ∈ tb_X11_fault, decode cX11_fault q.1 = .ok (q.2.1, q.2.2); decide +kernel
def po_X11_fault (S : Sk) (I : II) (r : Int32) : Option LV × Sk × II := (some (vI r), S, I)
def f_X11_fault (fu : Nat) (S : Sk) (I : II) (a0 : Nat) : Option (Int32) :=
  some ((I a0 0))
set_option maxRecDepth 100000 in
set_option maxHeartbeats 4000000 in
theorem gg_X11_fault {E : EV} (fu : Nat) (S0 : Sk) (I0 : II) (a0 : Nat) (ht0 : tyO S0 11 a0) : GG E i_X11_fault (enM E i_X11_fault S0 (po_X11_fault S0 I0)) S0 I0 (0, 0) 0 [(0, vA (a0 + 1))] [] (f_X11_fault fu S0 I0 a0) := by
  unfold f_X11_fault
  refine g_aload_n (dk D_X11_fault 0 rfl) rfl ?_
  refine g_getIt fl_RX11_136 (by decide) ht0 (dk D_X11_fault 1 rfl) ?_
  exact g_ireturn rfl rfl Sx.rf rfl (by decide) (by decide) (dk D_X11_fault 2 rfl)
def t_X11_fault (I : II) (a0 : Nat) : Int32 :=
  (I a0 0)
theorem ft_X11_fault (fu : Nat) (S : Sk) (I0 : II) (a0 : Nat) : f_X11_fault fu S I0 a0 = some (t_X11_fault I0 a0) := by
  simp only [f_X11_fault, t_X11_fault, lt, apply_ite some]
theorem c_X11_fault {E : EV} (S0 : Sk) (I0 : II) (a0 : Nat) (ht0 : tyO S0 11 a0) : MX E yX11_fault i_X11_fault S0 I0 [vA (a0 + 1)] (po_X11_fault S0 I0 (t_X11_fault I0 a0)) :=
  MX.of (ft_X11_fault 0 S0 I0 a0) (by decide) rfl rfl (Nat.le_of_ble_eq_true rfl) (gg_X11_fault 0 S0 I0 a0 ht0)
def tb_X11_many : List (Nat × Instr × Nat) := [(0, .iload_n 1, 1), (1, .tableswitch 87 0 7 #[47, 52, 57, 62, 67, 72, 77, 82], 47), (48, .aload_n 0, 1), (49, .getfield 156, 3), (52, .ireturn, 1), (53, .aload_n 0, 1), (54, .getfield 172, 3), (57, .ireturn, 1), (58, .aload_n 0, 1), (59, .getfield 237, 3), (62, .ireturn, 1), (63, .aload_n 0, 1), (64, .getfield 249, 3), (67, .ireturn, 1), (68, .aload_n 0, 1), (69, .getfield 297, 3), (72, .ireturn, 1), (73, .aload_n 0, 1), (74, .getfield 308, 3), (77, .ireturn, 1), (78, .aload_n 0, 1), (79, .getfield 354, 3), (82, .ireturn, 1), (83, .aload_n 0, 1), (84, .invokevirtual 360, 3), (87, .ireturn, 1), (88, .bipush (-2), 2), (90, .ireturn, 1)]
def i_X11_many : MI := (RX11, cX11_many, 2, (some .int), "many", { frames := 1, cells := 0, slots := 0, locals := 22 })
theorem D_X11_many : tbOK (i_X11_many).2.1 tb_X11_many := by show ∀ q ∈ tb_X11_many, decode cX11_many q.1 = .ok (q.2.1, q.2.2); decide +kernel
def po_X11_many (S : Sk) (I : II) (r : Int32) : Option LV × Sk × II := (some (vI r), S, I)
def f_X11_many (fu : Nat) (S : Sk) (I : II) (a0 : Nat) (x1 : Int32) : Option (Int32) :=
  if x1 = (0 : Int32) then some ((I a0 1)) else (if x1 = (1 : Int32) then some ((I a0 4)) else (if x1 = (2 : Int32) then some ((I a0 15)) else (if x1 = (3 : Int32) then some ((I a0 22)) else (if x1 = (4 : Int32) then some ((I a0 34)) else (if x1 = (5 : Int32) then some ((I a0 36)) else (if x1 = (6 : Int32) then some ((I a0 45)) else (if x1 = (7 : Int32) then (f_X11_boardMany fu S I a0).bind fun q9 => (some (q9)) else some (((-2) : Int32)))))))))
set_option maxRecDepth 100000 in
set_option maxHeartbeats 4000000 in
theorem gg_X11_many {E : EV} (fu : Nat) (S0 : Sk) (I0 : II) (a0 : Nat) (x1 : Int32) (ht0 : tyO S0 11 a0) : GG E i_X11_many (enM E i_X11_many S0 (po_X11_many S0 I0)) S0 I0 (0, 0) 0 [(0, vA (a0 + 1)), (1, vI x1)] [] (f_X11_many fu S0 I0 a0 x1) := by
  unfold f_X11_many
  refine g_iload_n (dk D_X11_many 0 rfl) rfl ?_
  refine g_ite (fun hc1 => ?_) (fun hc1 => ?_)
  · refine g_tabIn (tgt := 48) (off := 47) (dk D_X11_many 1 rfl) (by rw [hc1] <;> decide +kernel) (by rw [hc1] <;> decide +kernel) (by rw [hc1] <;> decide +kernel) rfl ?_
    refine g_aload_n (dk D_X11_many 2 rfl) rfl ?_
    refine g_getIt fl_RX11_156 (by decide) ht0 (dk D_X11_many 3 rfl) ?_
    exact g_ireturn rfl rfl Sx.rf rfl (by decide) (by decide) (dk D_X11_many 4 rfl)
  refine g_ite (fun hc2 => ?_) (fun hc2 => ?_)
  · refine g_tabIn (tgt := 53) (off := 52) (dk D_X11_many 1 rfl) (by rw [hc2] <;> decide +kernel) (by rw [hc2] <;> decide +kernel) (by rw [hc2] <;> decide +kernel) rfl ?_
    refine g_aload_n (dk D_X11_many 5 rfl) rfl ?_
    refine g_getIt fl_RX11_172 (by decide) ht0 (dk D_X11_many 6 rfl) ?_
    exact g_ireturn rfl rfl Sx.rf rfl (by decide) (by decide) (dk D_X11_many 7 rfl)
  refine g_ite (fun hc3 => ?_) (fun hc3 => ?_)
  · refine g_tabIn (tgt := 58) (off := 57) (dk D_X11_many 1 rfl) (by rw [hc3] <;> decide +kernel) (by rw [hc3] <;> decide +kernel) (by rw [hc3] <;> decide +kernel) rfl ?_
    refine g_aload_n (dk D_X11_many 8 rfl) rfl ?_
    refine g_getIt fl_RX11_237 (by decide) ht0 (dk D_X11_many 9 rfl) ?_
    exact g_ireturn rfl rfl Sx.rf rfl (by decide) (by decide) (dk D_X11_many 10 rfl)
  refine g_ite (fun hc4 => ?_) (fun hc4 => ?_)
  · refine g_tabIn (tgt := 63) (off := 62) (dk D_X11_many 1 rfl) (by rw [hc4] <;> decide +kernel) (by rw [hc4] <;> decide +kernel) (by rw [hc4] <;> decide +kernel) rfl ?_
    refine g_aload_n (dk D_X11_many 11 rfl) rfl ?_
    refine g_getIt fl_RX11_249 (by decide) ht0 (dk D_X11_many 12 rfl) ?_
    exact g_ireturn rfl rfl Sx.rf rfl (by decide) (by decide) (dk D_X11_many 13 rfl)
  refine g_ite (fun hc5 => ?_) (fun hc5 => ?_)
  · refine g_tabIn (tgt := 68) (off := 67) (dk D_X11_many 1 rfl) (by rw [hc5] <;> decide +kernel) (by rw [hc5] <;> decide +kernel) (by rw [hc5] <;> decide +kernel) rfl ?_
    refine g_aload_n (dk D_X11_many 14 rfl) rfl ?_
    refine g_getIt fl_RX11_297 (by decide) ht0 (dk D_X11_many 15 rfl) ?_
    exact g_ireturn rfl rfl Sx.rf rfl (by decide) (by decide) (dk D_X11_many 16 rfl)
  refine g_ite (fun hc6 => ?_) (fun hc6 => ?_)
  · refine g_tabIn (tgt := 73) (off := 72) (dk D_X11_many 1 rfl) (by rw [hc6] <;> decide +kernel) (by rw [hc6] <;> decide +kernel) (by rw [hc6] <;> decide +kernel) rfl ?_
    refine g_aload_n (dk D_X11_many 17 rfl) rfl ?_
    refine g_getIt fl_RX11_308 (by decide) ht0 (dk D_X11_many 18 rfl) ?_
    exact g_ireturn rfl rfl Sx.rf rfl (by decide) (by decide) (dk D_X11_many 19 rfl)
  refine g_ite (fun hc7 => ?_) (fun hc7 => ?_)
  · refine g_tabIn (tgt := 78) (off := 77) (dk D_X11_many 1 rfl) (by rw [hc7] <;> decide +kernel) (by rw [hc7] <;> decide +kernel) (by rw [hc7] <;> decide +kernel) rfl ?_
    refine g_aload_n (dk D_X11_many 20 rfl) rfl ?_
    refine g_getIt fl_RX11_354 (by decide) ht0 (dk D_X11_many 21 rfl) ?_
    exact g_ireturn rfl rfl Sx.rf rfl (by decide) (by decide) (dk D_X11_many 22 rfl)
  refine g_ite (fun hc8 => ?_) (fun hc8 => ?_)
  · refine g_tabIn (tgt := 83) (off := 82) (dk D_X11_many 1 rfl) (by rw [hc8] <;> decide +kernel) (by rw [hc8] <;> decide +kernel) (by rw [hc8] <;> decide +kernel) rfl ?_
    refine g_aload_n (dk D_X11_many 23 rfl) rfl ?_
    refine g_bind (fun q9 hq10 => ?_)
    refine h_callVt (st := []) (c_X11_boardMany (E := E) fu S0 I0 a0 q9 hq10 (ht0)) cl_RX11_360 ht0 rfl rfl (by decide) (Nat.le_of_ble_eq_true rfl) (dk D_X11_many 24 rfl) ?_
    exact g_ireturn rfl rfl Sx.rf rfl (by decide) (by decide) (dk D_X11_many 25 rfl)
  refine g_tabOut (tgt := 88) (dk D_X11_many 1 rfl) (tabOut (n := 8) (by decide) (fun k hk => (match k, hk with | 0, _ => hc1 | 1, _ => hc2 | 2, _ => hc3 | 3, _ => hc4 | 4, _ => hc5 | 5, _ => hc6 | 6, _ => hc7 | 7, _ => hc8 | k + 8, hk => absurd hk (by omega)))) rfl ?_
  refine g_bipush (v := ((-2) : Int32)) (dk D_X11_many 26 rfl) rfl ?_
  exact g_ireturn rfl rfl Sx.rf rfl (by decide) (by decide) (dk D_X11_many 27 rfl)
theorem c_X11_many {E : EV} (fu : Nat) (S0 : Sk) (I0 : II) (a0 : Nat) (x1 : Int32) (r : Int32) (h : f_X11_many fu S0 I0 a0 x1 = some r) (ht0 : tyO S0 11 a0) : MX E yX11_many i_X11_many S0 I0 [vA (a0 + 1), vI x1] (po_X11_many S0 I0 r) :=
  MX.of h (by decide) rfl rfl (Nat.le_of_ble_eq_true rfl) (gg_X11_many fu S0 I0 a0 x1 ht0)
theorem cl_RL_112 : CV0 RL 112 yX11_know i_X11_know 3 11 := ⟨⟨(gm 1417 (by decide +kernel) (by decide +kernel)), (gm 72 (by decide +kernel) (by decide +kernel)), ((gm 1420 (by decide +kernel) (by decide +kernel))), by decide +kernel, by decide +kernel, by decide +kernel⟩, ⟨(gm 1418 (by decide +kernel) (by decide +kernel)), (gm 1419 (by decide +kernel) (by decide +kernel))⟩, rfl, by decide⟩
theorem cl_RL_108 : CV0 RL 108 yX10_know i_X10_know 3 10 := ⟨⟨(gm 834 (by decide +kernel) (by decide +kernel)), (gm 66 (by decide +kernel) (by decide +kernel)), ((gm 837 (by decide +kernel) (by decide +kernel))), by decide +kernel, by decide +kernel, by decide +kernel⟩, ⟨(gm 835 (by decide +kernel) (by decide +kernel)), (gm 836 (by decide +kernel) (by decide +kernel))⟩, rfl, by decide⟩
theorem cl_RL_121 : CV0 RL 121 yX11_board i_X11_board 2 11 := ⟨⟨(gm 1425 (by decide +kernel) (by decide +kernel)), (gm 72 (by decide +kernel) (by decide +kernel)), ((gm 1428 (by decide +kernel) (by decide +kernel))), by decide +kernel, by decide +kernel, by decide +kernel⟩, ⟨(gm 1426 (by decide +kernel) (by decide +kernel)), (gm 1427 (by decide +kernel) (by decide +kernel))⟩, rfl, by decide⟩
theorem cl_RL_117 : CV0 RL 117 yX10_board i_X10_board 2 10 := ⟨⟨(gm 842 (by decide +kernel) (by decide +kernel)), (gm 66 (by decide +kernel) (by decide +kernel)), ((gm 845 (by decide +kernel) (by decide +kernel))), by decide +kernel, by decide +kernel, by decide +kernel⟩, ⟨(gm 843 (by decide +kernel) (by decide +kernel)), (gm 844 (by decide +kernel) (by decide +kernel))⟩, rfl, by decide⟩
theorem cl_RL_13 : CV0 RL 13 yX10_stop i_X10_stop 2 10 := ⟨⟨(gm 321 (by decide +kernel) (by decide +kernel)), (gm 66 (by decide +kernel) (by decide +kernel)), ((gm 324 (by decide +kernel) (by decide +kernel))), by decide +kernel, by decide +kernel, by decide +kernel⟩, ⟨(gm 322 (by decide +kernel) (by decide +kernel)), (gm 323 (by decide +kernel) (by decide +kernel))⟩, rfl, by decide⟩
theorem cl_RL_17 : CV0 RL 17 yX11_stop i_X11_stop 2 11 := ⟨⟨(gm 1150 (by decide +kernel) (by decide +kernel)), (gm 72 (by decide +kernel) (by decide +kernel)), ((gm 1153 (by decide +kernel) (by decide +kernel))), by decide +kernel, by decide +kernel, by decide +kernel⟩, ⟨(gm 1151 (by decide +kernel) (by decide +kernel)), (gm 1152 (by decide +kernel) (by decide +kernel))⟩, rfl, by decide⟩
theorem cl_RL_18 : CV0 RL 18 yX10_line i_X10_line 8 10 := ⟨⟨(gm 342 (by decide +kernel) (by decide +kernel)), (gm 66 (by decide +kernel) (by decide +kernel)), ((gm 345 (by decide +kernel) (by decide +kernel))), by decide +kernel, by decide +kernel, by decide +kernel⟩, ⟨(gm 343 (by decide +kernel) (by decide +kernel)), (gm 344 (by decide +kernel) (by decide +kernel))⟩, rfl, by decide⟩
theorem cl_RL_22 : CV0 RL 22 yX11_line i_X11_line 8 11 := ⟨⟨(gm 1173 (by decide +kernel) (by decide +kernel)), (gm 72 (by decide +kernel) (by decide +kernel)), ((gm 1176 (by decide +kernel) (by decide +kernel))), by decide +kernel, by decide +kernel, by decide +kernel⟩, ⟨(gm 1174 (by decide +kernel) (by decide +kernel)), (gm 1175 (by decide +kernel) (by decide +kernel))⟩, rfl, by decide⟩
theorem cl_RL_23 : CV0 RL 23 yX10_days i_X10_days 3 10 := ⟨⟨(gm 474 (by decide +kernel) (by decide +kernel)), (gm 66 (by decide +kernel) (by decide +kernel)), ((gm 477 (by decide +kernel) (by decide +kernel))), by decide +kernel, by decide +kernel, by decide +kernel⟩, ⟨(gm 475 (by decide +kernel) (by decide +kernel)), (gm 476 (by decide +kernel) (by decide +kernel))⟩, rfl, by decide⟩
theorem cl_RL_27 : CV0 RL 27 yX11_days i_X11_days 3 11 := ⟨⟨(gm 1208 (by decide +kernel) (by decide +kernel)), (gm 72 (by decide +kernel) (by decide +kernel)), ((gm 1211 (by decide +kernel) (by decide +kernel))), by decide +kernel, by decide +kernel, by decide +kernel⟩, ⟨(gm 1209 (by decide +kernel) (by decide +kernel)), (gm 1210 (by decide +kernel) (by decide +kernel))⟩, rfl, by decide⟩
theorem cl_RL_28 : CV0 RL 28 yX10_ofLine i_X10_ofLine 2 10 := ⟨⟨(gm 485 (by decide +kernel) (by decide +kernel)), (gm 66 (by decide +kernel) (by decide +kernel)), ((gm 488 (by decide +kernel) (by decide +kernel))), by decide +kernel, by decide +kernel, by decide +kernel⟩, ⟨(gm 486 (by decide +kernel) (by decide +kernel)), (gm 487 (by decide +kernel) (by decide +kernel))⟩, rfl, by decide⟩
theorem cl_RL_31 : CV0 RL 31 yX11_ofLine i_X11_ofLine 2 11 := ⟨⟨(gm 1220 (by decide +kernel) (by decide +kernel)), (gm 72 (by decide +kernel) (by decide +kernel)), ((gm 1223 (by decide +kernel) (by decide +kernel))), by decide +kernel, by decide +kernel, by decide +kernel⟩, ⟨(gm 1221 (by decide +kernel) (by decide +kernel)), (gm 1222 (by decide +kernel) (by decide +kernel))⟩, rfl, by decide⟩
theorem cl_RL_32 : CV0 RL 32 yX10_runs i_X10_runs 2 10 := ⟨⟨(gm 501 (by decide +kernel) (by decide +kernel)), (gm 66 (by decide +kernel) (by decide +kernel)), ((gm 504 (by decide +kernel) (by decide +kernel))), by decide +kernel, by decide +kernel, by decide +kernel⟩, ⟨(gm 502 (by decide +kernel) (by decide +kernel)), (gm 503 (by decide +kernel) (by decide +kernel))⟩, rfl, by decide⟩
theorem cl_RL_35 : CV0 RL 35 yX11_runs i_X11_runs 2 11 := ⟨⟨(gm 1234 (by decide +kernel) (by decide +kernel)), (gm 72 (by decide +kernel) (by decide +kernel)), ((gm 1237 (by decide +kernel) (by decide +kernel))), by decide +kernel, by decide +kernel, by decide +kernel⟩, ⟨(gm 1235 (by decide +kernel) (by decide +kernel)), (gm 1236 (by decide +kernel) (by decide +kernel))⟩, rfl, by decide⟩
theorem cl_RL_36 : CV0 RL 36 yX10_minute i_X10_minute 3 10 := ⟨⟨(gm 509 (by decide +kernel) (by decide +kernel)), (gm 66 (by decide +kernel) (by decide +kernel)), ((gm 512 (by decide +kernel) (by decide +kernel))), by decide +kernel, by decide +kernel, by decide +kernel⟩, ⟨(gm 510 (by decide +kernel) (by decide +kernel)), (gm 511 (by decide +kernel) (by decide +kernel))⟩, rfl, by decide⟩
theorem cl_RL_39 : CV0 RL 39 yX11_minute i_X11_minute 3 11 := ⟨⟨(gm 1242 (by decide +kernel) (by decide +kernel)), (gm 72 (by decide +kernel) (by decide +kernel)), ((gm 1245 (by decide +kernel) (by decide +kernel))), by decide +kernel, by decide +kernel, by decide +kernel⟩, ⟨(gm 1243 (by decide +kernel) (by decide +kernel)), (gm 1244 (by decide +kernel) (by decide +kernel))⟩, rfl, by decide⟩
theorem cl_RL_40 : CV0 RL 40 yX10_far i_X10_far 2 10 := ⟨⟨(gm 519 (by decide +kernel) (by decide +kernel)), (gm 66 (by decide +kernel) (by decide +kernel)), ((gm 522 (by decide +kernel) (by decide +kernel))), by decide +kernel, by decide +kernel, by decide +kernel⟩, ⟨(gm 520 (by decide +kernel) (by decide +kernel)), (gm 521 (by decide +kernel) (by decide +kernel))⟩, rfl, by decide⟩
theorem cl_RL_43 : CV0 RL 43 yX11_far i_X11_far 2 11 := ⟨⟨(gm 1158 (by decide +kernel) (by decide +kernel)), (gm 72 (by decide +kernel) (by decide +kernel)), ((gm 1161 (by decide +kernel) (by decide +kernel))), by decide +kernel, by decide +kernel, by decide +kernel⟩, ⟨(gm 1159 (by decide +kernel) (by decide +kernel)), (gm 1160 (by decide +kernel) (by decide +kernel))⟩, rfl, by decide⟩
theorem cl_RL_44 : CV0 RL 44 yX10_text i_X10_text 4 10 := ⟨⟨(gm 528 (by decide +kernel) (by decide +kernel)), (gm 66 (by decide +kernel) (by decide +kernel)), ((gm 531 (by decide +kernel) (by decide +kernel))), by decide +kernel, by decide +kernel, by decide +kernel⟩, ⟨(gm 529 (by decide +kernel) (by decide +kernel)), (gm 530 (by decide +kernel) (by decide +kernel))⟩, rfl, by decide⟩
theorem cl_RL_48 : CV0 RL 48 yX11_text i_X11_text 4 11 := ⟨⟨(gm 1252 (by decide +kernel) (by decide +kernel)), (gm 72 (by decide +kernel) (by decide +kernel)), ((gm 1255 (by decide +kernel) (by decide +kernel))), by decide +kernel, by decide +kernel, by decide +kernel⟩, ⟨(gm 1253 (by decide +kernel) (by decide +kernel)), (gm 1254 (by decide +kernel) (by decide +kernel))⟩, rfl, by decide⟩
theorem cl_RL_49 : CV0 RL 49 yX10_owed i_X10_owed 2 10 := ⟨⟨(gm 558 (by decide +kernel) (by decide +kernel)), (gm 66 (by decide +kernel) (by decide +kernel)), ((gm 561 (by decide +kernel) (by decide +kernel))), by decide +kernel, by decide +kernel, by decide +kernel⟩, ⟨(gm 559 (by decide +kernel) (by decide +kernel)), (gm 560 (by decide +kernel) (by decide +kernel))⟩, rfl, by decide⟩
theorem cl_RL_52 : CV0 RL 52 yX11_owed i_X11_owed 2 11 := ⟨⟨(gm 1266 (by decide +kernel) (by decide +kernel)), (gm 72 (by decide +kernel) (by decide +kernel)), ((gm 1269 (by decide +kernel) (by decide +kernel))), by decide +kernel, by decide +kernel, by decide +kernel⟩, ⟨(gm 1267 (by decide +kernel) (by decide +kernel)), (gm 1268 (by decide +kernel) (by decide +kernel))⟩, rfl, by decide⟩
theorem cl_RL_53 : CV0 RL 53 yX10_why i_X10_why 2 10 := ⟨⟨(gm 579 (by decide +kernel) (by decide +kernel)), (gm 66 (by decide +kernel) (by decide +kernel)), ((gm 582 (by decide +kernel) (by decide +kernel))), by decide +kernel, by decide +kernel, by decide +kernel⟩, ⟨(gm 580 (by decide +kernel) (by decide +kernel)), (gm 581 (by decide +kernel) (by decide +kernel))⟩, rfl, by decide⟩
theorem cl_RL_56 : CV0 RL 56 yX11_why i_X11_why 2 11 := ⟨⟨(gm 1278 (by decide +kernel) (by decide +kernel)), (gm 72 (by decide +kernel) (by decide +kernel)), ((gm 1281 (by decide +kernel) (by decide +kernel))), by decide +kernel, by decide +kernel, by decide +kernel⟩, ⟨(gm 1279 (by decide +kernel) (by decide +kernel)), (gm 1280 (by decide +kernel) (by decide +kernel))⟩, rfl, by decide⟩
theorem cl_RL_57 : CV0 RL 57 yX10_served i_X10_served 2 10 := ⟨⟨(gm 583 (by decide +kernel) (by decide +kernel)), (gm 66 (by decide +kernel) (by decide +kernel)), ((gm 586 (by decide +kernel) (by decide +kernel))), by decide +kernel, by decide +kernel, by decide +kernel⟩, ⟨(gm 584 (by decide +kernel) (by decide +kernel)), (gm 585 (by decide +kernel) (by decide +kernel))⟩, rfl, by decide⟩
theorem cl_RL_60 : CV0 RL 60 yX11_served i_X11_served 2 11 := ⟨⟨(gm 1282 (by decide +kernel) (by decide +kernel)), (gm 72 (by decide +kernel) (by decide +kernel)), ((gm 1285 (by decide +kernel) (by decide +kernel))), by decide +kernel, by decide +kernel, by decide +kernel⟩, ⟨(gm 1283 (by decide +kernel) (by decide +kernel)), (gm 1284 (by decide +kernel) (by decide +kernel))⟩, rfl, by decide⟩
theorem cl_RL_61 : CV0 RL 61 yX10_breach i_X10_breach 1 10 := ⟨⟨(gm 601 (by decide +kernel) (by decide +kernel)), (gm 66 (by decide +kernel) (by decide +kernel)), ((gm 604 (by decide +kernel) (by decide +kernel))), by decide +kernel, by decide +kernel, by decide +kernel⟩, ⟨(gm 602 (by decide +kernel) (by decide +kernel)), (gm 603 (by decide +kernel) (by decide +kernel))⟩, rfl, by decide⟩
theorem cl_RL_65 : CV0 RL 65 yX11_breach i_X11_breach 1 11 := ⟨⟨(gm 1290 (by decide +kernel) (by decide +kernel)), (gm 72 (by decide +kernel) (by decide +kernel)), ((gm 1293 (by decide +kernel) (by decide +kernel))), by decide +kernel, by decide +kernel, by decide +kernel⟩, ⟨(gm 1291 (by decide +kernel) (by decide +kernel)), (gm 1292 (by decide +kernel) (by decide +kernel))⟩, rfl, by decide⟩
theorem cl_RL_66 : CV0 RL 66 yX10_trip i_X10_trip 5 10 := ⟨⟨(gm 605 (by decide +kernel) (by decide +kernel)), (gm 66 (by decide +kernel) (by decide +kernel)), ((gm 608 (by decide +kernel) (by decide +kernel))), by decide +kernel, by decide +kernel, by decide +kernel⟩, ⟨(gm 606 (by decide +kernel) (by decide +kernel)), (gm 607 (by decide +kernel) (by decide +kernel))⟩, rfl, by decide⟩
theorem cl_RL_70 : CV0 RL 70 yX11_trip i_X11_trip 5 11 := ⟨⟨(gm 1294 (by decide +kernel) (by decide +kernel)), (gm 72 (by decide +kernel) (by decide +kernel)), ((gm 1297 (by decide +kernel) (by decide +kernel))), by decide +kernel, by decide +kernel, by decide +kernel⟩, ⟨(gm 1295 (by decide +kernel) (by decide +kernel)), (gm 1296 (by decide +kernel) (by decide +kernel))⟩, rfl, by decide⟩
theorem cl_RL_71 : CV0 RL 71 yX10_way i_X10_way 3 10 := ⟨⟨(gm 635 (by decide +kernel) (by decide +kernel)), (gm 66 (by decide +kernel) (by decide +kernel)), ((gm 638 (by decide +kernel) (by decide +kernel))), by decide +kernel, by decide +kernel, by decide +kernel⟩, ⟨(gm 636 (by decide +kernel) (by decide +kernel)), (gm 637 (by decide +kernel) (by decide +kernel))⟩, rfl, by decide⟩
theorem cl_RL_74 : CV0 RL 74 yX11_way i_X11_way 3 11 := ⟨⟨(gm 1298 (by decide +kernel) (by decide +kernel)), (gm 72 (by decide +kernel) (by decide +kernel)), ((gm 1301 (by decide +kernel) (by decide +kernel))), by decide +kernel, by decide +kernel, by decide +kernel⟩, ⟨(gm 1299 (by decide +kernel) (by decide +kernel)), (gm 1300 (by decide +kernel) (by decide +kernel))⟩, rfl, by decide⟩
theorem cl_RL_75 : CV0 RL 75 yX10_lose i_X10_lose 3 10 := ⟨⟨(gm 694 (by decide +kernel) (by decide +kernel)), (gm 66 (by decide +kernel) (by decide +kernel)), ((gm 697 (by decide +kernel) (by decide +kernel))), by decide +kernel, by decide +kernel, by decide +kernel⟩, ⟨(gm 695 (by decide +kernel) (by decide +kernel)), (gm 696 (by decide +kernel) (by decide +kernel))⟩, rfl, by decide⟩
theorem cl_RL_78 : CV0 RL 78 yX11_lose i_X11_lose 3 11 := ⟨⟨(gm 1331 (by decide +kernel) (by decide +kernel)), (gm 72 (by decide +kernel) (by decide +kernel)), ((gm 1334 (by decide +kernel) (by decide +kernel))), by decide +kernel, by decide +kernel, by decide +kernel⟩, ⟨(gm 1332 (by decide +kernel) (by decide +kernel)), (gm 1333 (by decide +kernel) (by decide +kernel))⟩, rfl, by decide⟩
theorem cl_RL_79 : CV0 RL 79 yX10_who i_X10_who 3 10 := ⟨⟨(gm 702 (by decide +kernel) (by decide +kernel)), (gm 66 (by decide +kernel) (by decide +kernel)), ((gm 705 (by decide +kernel) (by decide +kernel))), by decide +kernel, by decide +kernel, by decide +kernel⟩, ⟨(gm 703 (by decide +kernel) (by decide +kernel)), (gm 704 (by decide +kernel) (by decide +kernel))⟩, rfl, by decide⟩
theorem cl_RL_82 : CV0 RL 82 yX11_who i_X11_who 3 11 := ⟨⟨(gm 1339 (by decide +kernel) (by decide +kernel)), (gm 72 (by decide +kernel) (by decide +kernel)), ((gm 1342 (by decide +kernel) (by decide +kernel))), by decide +kernel, by decide +kernel, by decide +kernel⟩, ⟨(gm 1340 (by decide +kernel) (by decide +kernel)), (gm 1341 (by decide +kernel) (by decide +kernel))⟩, rfl, by decide⟩
theorem cl_RL_83 : CV0 RL 83 yX10_offer i_X10_offer 1 10 := ⟨⟨(gm 707 (by decide +kernel) (by decide +kernel)), (gm 66 (by decide +kernel) (by decide +kernel)), ((gm 710 (by decide +kernel) (by decide +kernel))), by decide +kernel, by decide +kernel, by decide +kernel⟩, ⟨(gm 708 (by decide +kernel) (by decide +kernel)), (gm 709 (by decide +kernel) (by decide +kernel))⟩, rfl, by decide⟩
theorem cl_RL_86 : CV0 RL 86 yX11_offer i_X11_offer 1 11 := ⟨⟨(gm 1344 (by decide +kernel) (by decide +kernel)), (gm 72 (by decide +kernel) (by decide +kernel)), ((gm 1347 (by decide +kernel) (by decide +kernel))), by decide +kernel, by decide +kernel, by decide +kernel⟩, ⟨(gm 1345 (by decide +kernel) (by decide +kernel)), (gm 1346 (by decide +kernel) (by decide +kernel))⟩, rfl, by decide⟩
theorem cl_RL_87 : CV0 RL 87 yX10_best i_X10_best 3 10 := ⟨⟨(gm 716 (by decide +kernel) (by decide +kernel)), (gm 66 (by decide +kernel) (by decide +kernel)), ((gm 719 (by decide +kernel) (by decide +kernel))), by decide +kernel, by decide +kernel, by decide +kernel⟩, ⟨(gm 717 (by decide +kernel) (by decide +kernel)), (gm 718 (by decide +kernel) (by decide +kernel))⟩, rfl, by decide⟩
theorem cl_RL_90 : CV0 RL 90 yX11_best i_X11_best 3 11 := ⟨⟨(gm 1348 (by decide +kernel) (by decide +kernel)), (gm 72 (by decide +kernel) (by decide +kernel)), ((gm 1351 (by decide +kernel) (by decide +kernel))), by decide +kernel, by decide +kernel, by decide +kernel⟩, ⟨(gm 1349 (by decide +kernel) (by decide +kernel)), (gm 1350 (by decide +kernel) (by decide +kernel))⟩, rfl, by decide⟩
theorem cl_RL_91 : CV0 RL 91 yX10_depot i_X10_depot 3 10 := ⟨⟨(gm 753 (by decide +kernel) (by decide +kernel)), (gm 66 (by decide +kernel) (by decide +kernel)), ((gm 756 (by decide +kernel) (by decide +kernel))), by decide +kernel, by decide +kernel, by decide +kernel⟩, ⟨(gm 754 (by decide +kernel) (by decide +kernel)), (gm 755 (by decide +kernel) (by decide +kernel))⟩, rfl, by decide⟩
theorem cl_RL_94 : CV0 RL 94 yX11_depot i_X11_depot 3 11 := ⟨⟨(gm 1361 (by decide +kernel) (by decide +kernel)), (gm 72 (by decide +kernel) (by decide +kernel)), ((gm 1364 (by decide +kernel) (by decide +kernel))), by decide +kernel, by decide +kernel, by decide +kernel⟩, ⟨(gm 1362 (by decide +kernel) (by decide +kernel)), (gm 1363 (by decide +kernel) (by decide +kernel))⟩, rfl, by decide⟩
theorem cl_RL_95 : CV0 RL 95 yX10_empty i_X10_empty 2 10 := ⟨⟨(gm 775 (by decide +kernel) (by decide +kernel)), (gm 66 (by decide +kernel) (by decide +kernel)), ((gm 778 (by decide +kernel) (by decide +kernel))), by decide +kernel, by decide +kernel, by decide +kernel⟩, ⟨(gm 776 (by decide +kernel) (by decide +kernel)), (gm 777 (by decide +kernel) (by decide +kernel))⟩, rfl, by decide⟩
theorem cl_RL_98 : CV0 RL 98 yX11_empty i_X11_empty 2 11 := ⟨⟨(gm 1365 (by decide +kernel) (by decide +kernel)), (gm 72 (by decide +kernel) (by decide +kernel)), ((gm 1368 (by decide +kernel) (by decide +kernel))), by decide +kernel, by decide +kernel, by decide +kernel⟩, ⟨(gm 1366 (by decide +kernel) (by decide +kernel)), (gm 1367 (by decide +kernel) (by decide +kernel))⟩, rfl, by decide⟩
theorem cl_RL_99 : CV0 RL 99 yX10_fit i_X10_fit 2 10 := ⟨⟨(gm 784 (by decide +kernel) (by decide +kernel)), (gm 66 (by decide +kernel) (by decide +kernel)), ((gm 787 (by decide +kernel) (by decide +kernel))), by decide +kernel, by decide +kernel, by decide +kernel⟩, ⟨(gm 785 (by decide +kernel) (by decide +kernel)), (gm 786 (by decide +kernel) (by decide +kernel))⟩, rfl, by decide⟩
theorem cl_RL_102 : CV0 RL 102 yX11_fit i_X11_fit 2 11 := ⟨⟨(gm 1377 (by decide +kernel) (by decide +kernel)), (gm 72 (by decide +kernel) (by decide +kernel)), ((gm 1380 (by decide +kernel) (by decide +kernel))), by decide +kernel, by decide +kernel, by decide +kernel⟩, ⟨(gm 1378 (by decide +kernel) (by decide +kernel)), (gm 1379 (by decide +kernel) (by decide +kernel))⟩, rfl, by decide⟩
theorem cl_RL_103 : CV0 RL 103 yX10_driver i_X10_driver 0 10 := ⟨⟨(gm 830 (by decide +kernel) (by decide +kernel)), (gm 66 (by decide +kernel) (by decide +kernel)), ((gm 833 (by decide +kernel) (by decide +kernel))), by decide +kernel, by decide +kernel, by decide +kernel⟩, ⟨(gm 831 (by decide +kernel) (by decide +kernel)), (gm 832 (by decide +kernel) (by decide +kernel))⟩, rfl, by decide⟩
theorem cl_RL_107 : CV0 RL 107 yX11_driver i_X11_driver 0 11 := ⟨⟨(gm 1413 (by decide +kernel) (by decide +kernel)), (gm 72 (by decide +kernel) (by decide +kernel)), ((gm 1416 (by decide +kernel) (by decide +kernel))), by decide +kernel, by decide +kernel, by decide +kernel⟩, ⟨(gm 1414 (by decide +kernel) (by decide +kernel)), (gm 1415 (by decide +kernel) (by decide +kernel))⟩, rfl, by decide⟩
theorem cl_RL_113 : CV0 RL 113 yX10_roster i_X10_roster 2 10 := ⟨⟨(gm 838 (by decide +kernel) (by decide +kernel)), (gm 66 (by decide +kernel) (by decide +kernel)), ((gm 841 (by decide +kernel) (by decide +kernel))), by decide +kernel, by decide +kernel, by decide +kernel⟩, ⟨(gm 839 (by decide +kernel) (by decide +kernel)), (gm 840 (by decide +kernel) (by decide +kernel))⟩, rfl, by decide⟩
theorem cl_RL_116 : CV0 RL 116 yX11_roster i_X11_roster 2 11 := ⟨⟨(gm 1421 (by decide +kernel) (by decide +kernel)), (gm 72 (by decide +kernel) (by decide +kernel)), ((gm 1424 (by decide +kernel) (by decide +kernel))), by decide +kernel, by decide +kernel, by decide +kernel⟩, ⟨(gm 1422 (by decide +kernel) (by decide +kernel)), (gm 1423 (by decide +kernel) (by decide +kernel))⟩, rfl, by decide⟩
theorem cl_RL_122 : CV0 RL 122 yX10_night i_X10_night 4 10 := ⟨⟨(gm 847 (by decide +kernel) (by decide +kernel)), (gm 66 (by decide +kernel) (by decide +kernel)), ((gm 850 (by decide +kernel) (by decide +kernel))), by decide +kernel, by decide +kernel, by decide +kernel⟩, ⟨(gm 848 (by decide +kernel) (by decide +kernel)), (gm 849 (by decide +kernel) (by decide +kernel))⟩, rfl, by decide⟩
theorem cl_RL_125 : CV0 RL 125 yX11_night i_X11_night 4 11 := ⟨⟨(gm 1433 (by decide +kernel) (by decide +kernel)), (gm 72 (by decide +kernel) (by decide +kernel)), ((gm 1436 (by decide +kernel) (by decide +kernel))), by decide +kernel, by decide +kernel, by decide +kernel⟩, ⟨(gm 1434 (by decide +kernel) (by decide +kernel)), (gm 1435 (by decide +kernel) (by decide +kernel))⟩, rfl, by decide⟩
theorem cl_RL_126 : CV0 RL 126 yX10_waiting i_X10_waiting 3 10 := ⟨⟨(gm 879 (by decide +kernel) (by decide +kernel)), (gm 66 (by decide +kernel) (by decide +kernel)), ((gm 882 (by decide +kernel) (by decide +kernel))), by decide +kernel, by decide +kernel, by decide +kernel⟩, ⟨(gm 880 (by decide +kernel) (by decide +kernel)), (gm 881 (by decide +kernel) (by decide +kernel))⟩, rfl, by decide⟩
theorem cl_RL_129 : CV0 RL 129 yX11_waiting i_X11_waiting 3 11 := ⟨⟨(gm 1446 (by decide +kernel) (by decide +kernel)), (gm 72 (by decide +kernel) (by decide +kernel)), ((gm 1449 (by decide +kernel) (by decide +kernel))), by decide +kernel, by decide +kernel, by decide +kernel⟩, ⟨(gm 1447 (by decide +kernel) (by decide +kernel)), (gm 1448 (by decide +kernel) (by decide +kernel))⟩, rfl, by decide⟩
theorem cl_RL_130 : CV0 RL 130 yX10_seats i_X10_seats 1 10 := ⟨⟨(gm 884 (by decide +kernel) (by decide +kernel)), (gm 66 (by decide +kernel) (by decide +kernel)), ((gm 887 (by decide +kernel) (by decide +kernel))), by decide +kernel, by decide +kernel, by decide +kernel⟩, ⟨(gm 885 (by decide +kernel) (by decide +kernel)), (gm 886 (by decide +kernel) (by decide +kernel))⟩, rfl, by decide⟩
theorem cl_RL_133 : CV0 RL 133 yX11_seats i_X11_seats 1 11 := ⟨⟨(gm 1455 (by decide +kernel) (by decide +kernel)), (gm 72 (by decide +kernel) (by decide +kernel)), ((gm 1458 (by decide +kernel) (by decide +kernel))), by decide +kernel, by decide +kernel, by decide +kernel⟩, ⟨(gm 1456 (by decide +kernel) (by decide +kernel)), (gm 1457 (by decide +kernel) (by decide +kernel))⟩, rfl, by decide⟩
theorem cl_RL_134 : CV0 RL 134 yX10_standing i_X10_standing 3 10 := ⟨⟨(gm 888 (by decide +kernel) (by decide +kernel)), (gm 66 (by decide +kernel) (by decide +kernel)), ((gm 891 (by decide +kernel) (by decide +kernel))), by decide +kernel, by decide +kernel, by decide +kernel⟩, ⟨(gm 889 (by decide +kernel) (by decide +kernel)), (gm 890 (by decide +kernel) (by decide +kernel))⟩, rfl, by decide⟩
theorem cl_RL_137 : CV0 RL 137 yX11_standing i_X11_standing 3 11 := ⟨⟨(gm 1460 (by decide +kernel) (by decide +kernel)), (gm 72 (by decide +kernel) (by decide +kernel)), ((gm 1463 (by decide +kernel) (by decide +kernel))), by decide +kernel, by decide +kernel, by decide +kernel⟩, ⟨(gm 1461 (by decide +kernel) (by decide +kernel)), (gm 1462 (by decide +kernel) (by decide +kernel))⟩, rfl, by decide⟩
theorem cl_RL_138 : CV0 RL 138 yX10_extra i_X10_extra 1 10 := ⟨⟨(gm 896 (by decide +kernel) (by decide +kernel)), (gm 66 (by decide +kernel) (by decide +kernel)), ((gm 899 (by decide +kernel) (by decide +kernel))), by decide +kernel, by decide +kernel, by decide +kernel⟩, ⟨(gm 897 (by decide +kernel) (by decide +kernel)), (gm 898 (by decide +kernel) (by decide +kernel))⟩, rfl, by decide⟩
theorem cl_RL_141 : CV0 RL 141 yX11_extra i_X11_extra 1 11 := ⟨⟨(gm 1464 (by decide +kernel) (by decide +kernel)), (gm 72 (by decide +kernel) (by decide +kernel)), ((gm 1467 (by decide +kernel) (by decide +kernel))), by decide +kernel, by decide +kernel, by decide +kernel⟩, ⟨(gm 1465 (by decide +kernel) (by decide +kernel)), (gm 1466 (by decide +kernel) (by decide +kernel))⟩, rfl, by decide⟩
theorem cl_RL_142 : CV0 RL 142 yX10_sheet i_X10_sheet 3 10 := ⟨⟨(gm 900 (by decide +kernel) (by decide +kernel)), (gm 66 (by decide +kernel) (by decide +kernel)), ((gm 903 (by decide +kernel) (by decide +kernel))), by decide +kernel, by decide +kernel, by decide +kernel⟩, ⟨(gm 901 (by decide +kernel) (by decide +kernel)), (gm 902 (by decide +kernel) (by decide +kernel))⟩, rfl, by decide⟩
theorem cl_RL_145 : CV0 RL 145 yX11_sheet i_X11_sheet 3 11 := ⟨⟨(gm 1468 (by decide +kernel) (by decide +kernel)), (gm 72 (by decide +kernel) (by decide +kernel)), ((gm 1471 (by decide +kernel) (by decide +kernel))), by decide +kernel, by decide +kernel, by decide +kernel⟩, ⟨(gm 1469 (by decide +kernel) (by decide +kernel)), (gm 1470 (by decide +kernel) (by decide +kernel))⟩, rfl, by decide⟩
theorem cl_RL_146 : CV0 RL 146 yX10_drop i_X10_drop 1 10 := ⟨⟨(gm 909 (by decide +kernel) (by decide +kernel)), (gm 66 (by decide +kernel) (by decide +kernel)), ((gm 912 (by decide +kernel) (by decide +kernel))), by decide +kernel, by decide +kernel, by decide +kernel⟩, ⟨(gm 910 (by decide +kernel) (by decide +kernel)), (gm 911 (by decide +kernel) (by decide +kernel))⟩, rfl, by decide⟩
theorem cl_RL_149 : CV0 RL 149 yX11_drop i_X11_drop 1 11 := ⟨⟨(gm 1472 (by decide +kernel) (by decide +kernel)), (gm 72 (by decide +kernel) (by decide +kernel)), ((gm 1475 (by decide +kernel) (by decide +kernel))), by decide +kernel, by decide +kernel, by decide +kernel⟩, ⟨(gm 1473 (by decide +kernel) (by decide +kernel)), (gm 1474 (by decide +kernel) (by decide +kernel))⟩, rfl, by decide⟩
theorem cl_RL_150 : CV0 RL 150 yX10_put i_X10_put 3 10 := ⟨⟨(gm 913 (by decide +kernel) (by decide +kernel)), (gm 66 (by decide +kernel) (by decide +kernel)), ((gm 916 (by decide +kernel) (by decide +kernel))), by decide +kernel, by decide +kernel, by decide +kernel⟩, ⟨(gm 914 (by decide +kernel) (by decide +kernel)), (gm 915 (by decide +kernel) (by decide +kernel))⟩, rfl, by decide⟩
theorem cl_RL_153 : CV0 RL 153 yX11_put i_X11_put 3 11 := ⟨⟨(gm 1476 (by decide +kernel) (by decide +kernel)), (gm 72 (by decide +kernel) (by decide +kernel)), ((gm 1479 (by decide +kernel) (by decide +kernel))), by decide +kernel, by decide +kernel, by decide +kernel⟩, ⟨(gm 1477 (by decide +kernel) (by decide +kernel)), (gm 1478 (by decide +kernel) (by decide +kernel))⟩, rfl, by decide⟩
theorem cl_RL_154 : CV0 RL 154 yX10_cell i_X10_cell 3 10 := ⟨⟨(gm 922 (by decide +kernel) (by decide +kernel)), (gm 66 (by decide +kernel) (by decide +kernel)), ((gm 925 (by decide +kernel) (by decide +kernel))), by decide +kernel, by decide +kernel, by decide +kernel⟩, ⟨(gm 923 (by decide +kernel) (by decide +kernel)), (gm 924 (by decide +kernel) (by decide +kernel))⟩, rfl, by decide⟩
theorem cl_RL_158 : CV0 RL 158 yX11_cell i_X11_cell 3 11 := ⟨⟨(gm 1484 (by decide +kernel) (by decide +kernel)), (gm 72 (by decide +kernel) (by decide +kernel)), ((gm 1487 (by decide +kernel) (by decide +kernel))), by decide +kernel, by decide +kernel, by decide +kernel⟩, ⟨(gm 1485 (by decide +kernel) (by decide +kernel)), (gm 1486 (by decide +kernel) (by decide +kernel))⟩, rfl, by decide⟩
theorem cl_RL_159 : CV0 RL 159 yX10_copy i_X10_copy 5 10 := ⟨⟨(gm 927 (by decide +kernel) (by decide +kernel)), (gm 66 (by decide +kernel) (by decide +kernel)), ((gm 930 (by decide +kernel) (by decide +kernel))), by decide +kernel, by decide +kernel, by decide +kernel⟩, ⟨(gm 928 (by decide +kernel) (by decide +kernel)), (gm 929 (by decide +kernel) (by decide +kernel))⟩, rfl, by decide⟩
theorem cl_RL_162 : CV0 RL 162 yX11_copy i_X11_copy 5 11 := ⟨⟨(gm 1496 (by decide +kernel) (by decide +kernel)), (gm 72 (by decide +kernel) (by decide +kernel)), ((gm 1499 (by decide +kernel) (by decide +kernel))), by decide +kernel, by decide +kernel, by decide +kernel⟩, ⟨(gm 1497 (by decide +kernel) (by decide +kernel)), (gm 1498 (by decide +kernel) (by decide +kernel))⟩, rfl, by decide⟩
theorem cl_RL_163 : CV0 RL 163 yX10_tell i_X10_tell 1 10 := ⟨⟨(gm 932 (by decide +kernel) (by decide +kernel)), (gm 66 (by decide +kernel) (by decide +kernel)), ((gm 935 (by decide +kernel) (by decide +kernel))), by decide +kernel, by decide +kernel, by decide +kernel⟩, ⟨(gm 933 (by decide +kernel) (by decide +kernel)), (gm 934 (by decide +kernel) (by decide +kernel))⟩, rfl, by decide⟩
theorem cl_RL_166 : CV0 RL 166 yX11_tell i_X11_tell 1 11 := ⟨⟨(gm 1500 (by decide +kernel) (by decide +kernel)), (gm 72 (by decide +kernel) (by decide +kernel)), ((gm 1503 (by decide +kernel) (by decide +kernel))), by decide +kernel, by decide +kernel, by decide +kernel⟩, ⟨(gm 1501 (by decide +kernel) (by decide +kernel)), (gm 1502 (by decide +kernel) (by decide +kernel))⟩, rfl, by decide⟩
theorem cl_RL_167 : CV0 RL 167 yX10_hail i_X10_hail 1 10 := ⟨⟨(gm 952 (by decide +kernel) (by decide +kernel)), (gm 66 (by decide +kernel) (by decide +kernel)), ((gm 955 (by decide +kernel) (by decide +kernel))), by decide +kernel, by decide +kernel, by decide +kernel⟩, ⟨(gm 953 (by decide +kernel) (by decide +kernel)), (gm 954 (by decide +kernel) (by decide +kernel))⟩, rfl, by decide⟩
theorem cl_RL_170 : CV0 RL 170 yX11_hail i_X11_hail 1 11 := ⟨⟨(gm 1508 (by decide +kernel) (by decide +kernel)), (gm 72 (by decide +kernel) (by decide +kernel)), ((gm 1511 (by decide +kernel) (by decide +kernel))), by decide +kernel, by decide +kernel, by decide +kernel⟩, ⟨(gm 1509 (by decide +kernel) (by decide +kernel)), (gm 1510 (by decide +kernel) (by decide +kernel))⟩, rfl, by decide⟩
theorem cl_RL_171 : CV0 RL 171 yX10_as i_X10_as 2 10 := ⟨⟨(gm 956 (by decide +kernel) (by decide +kernel)), (gm 66 (by decide +kernel) (by decide +kernel)), ((gm 959 (by decide +kernel) (by decide +kernel))), by decide +kernel, by decide +kernel, by decide +kernel⟩, ⟨(gm 957 (by decide +kernel) (by decide +kernel)), (gm 958 (by decide +kernel) (by decide +kernel))⟩, rfl, by decide⟩
theorem cl_RL_174 : CV0 RL 174 yX11_as i_X11_as 2 11 := ⟨⟨(gm 1512 (by decide +kernel) (by decide +kernel)), (gm 72 (by decide +kernel) (by decide +kernel)), ((gm 1515 (by decide +kernel) (by decide +kernel))), by decide +kernel, by decide +kernel, by decide +kernel⟩, ⟨(gm 1513 (by decide +kernel) (by decide +kernel)), (gm 1514 (by decide +kernel) (by decide +kernel))⟩, rfl, by decide⟩
theorem cl_RL_175 : CV0 RL 175 yX10_trace i_X10_trace 0 10 := ⟨⟨(gm 960 (by decide +kernel) (by decide +kernel)), (gm 66 (by decide +kernel) (by decide +kernel)), ((gm 963 (by decide +kernel) (by decide +kernel))), by decide +kernel, by decide +kernel, by decide +kernel⟩, ⟨(gm 961 (by decide +kernel) (by decide +kernel)), (gm 962 (by decide +kernel) (by decide +kernel))⟩, rfl, by decide⟩
theorem cl_RL_178 : CV0 RL 178 yX11_trace i_X11_trace 0 11 := ⟨⟨(gm 1516 (by decide +kernel) (by decide +kernel)), (gm 72 (by decide +kernel) (by decide +kernel)), ((gm 1519 (by decide +kernel) (by decide +kernel))), by decide +kernel, by decide +kernel, by decide +kernel⟩, ⟨(gm 1517 (by decide +kernel) (by decide +kernel)), (gm 1518 (by decide +kernel) (by decide +kernel))⟩, rfl, by decide⟩
theorem cl_RL_179 : CV0 RL 179 yX10_fault i_X10_fault 0 10 := ⟨⟨(gm 964 (by decide +kernel) (by decide +kernel)), (gm 66 (by decide +kernel) (by decide +kernel)), ((gm 967 (by decide +kernel) (by decide +kernel))), by decide +kernel, by decide +kernel, by decide +kernel⟩, ⟨(gm 965 (by decide +kernel) (by decide +kernel)), (gm 966 (by decide +kernel) (by decide +kernel))⟩, rfl, by decide⟩
theorem cl_RL_182 : CV0 RL 182 yX11_fault i_X11_fault 0 11 := ⟨⟨(gm 1520 (by decide +kernel) (by decide +kernel)), (gm 72 (by decide +kernel) (by decide +kernel)), ((gm 1523 (by decide +kernel) (by decide +kernel))), by decide +kernel, by decide +kernel, by decide +kernel⟩, ⟨(gm 1521 (by decide +kernel) (by decide +kernel)), (gm 1522 (by decide +kernel) (by decide +kernel))⟩, rfl, by decide⟩
theorem cl_RL_183 : CV0 RL 183 yX10_many i_X10_many 1 10 := ⟨⟨(gm 968 (by decide +kernel) (by decide +kernel)), (gm 66 (by decide +kernel) (by decide +kernel)), ((gm 971 (by decide +kernel) (by decide +kernel))), by decide +kernel, by decide +kernel, by decide +kernel⟩, ⟨(gm 969 (by decide +kernel) (by decide +kernel)), (gm 970 (by decide +kernel) (by decide +kernel))⟩, rfl, by decide⟩
theorem cl_RL_186 : CV0 RL 186 yX11_many i_X11_many 1 11 := ⟨⟨(gm 1524 (by decide +kernel) (by decide +kernel)), (gm 72 (by decide +kernel) (by decide +kernel)), ((gm 1527 (by decide +kernel) (by decide +kernel))), by decide +kernel, by decide +kernel, by decide +kernel⟩, ⟨(gm 1525 (by decide +kernel) (by decide +kernel)), (gm 1526 (by decide +kernel) (by decide +kernel))⟩, rfl, by decide⟩
theorem nw_RL_7 : NW RL 7 10 := ⟨RX10, TX10, 19, tyX10, rfl, rfl, by decide, tyX10_ok, by decide +kernel, (gm 82 (by decide +kernel) (by decide +kernel)), (gm 83 (by decide +kernel) (by decide +kernel)), (gm 66 (by decide +kernel) (by decide +kernel)), inG10⟩
theorem cl_RL_9 : LkB RL 9 yX10_init i_X10_init 0 := ⟨(gm 84 (by decide +kernel) (by decide +kernel)), (gm 66 (by decide +kernel) (by decide +kernel)), (gm 86 (by decide +kernel) (by decide +kernel)), by decide +kernel, by decide +kernel, by decide +kernel⟩
theorem si_X10_init : Cond.instanceMethod yX10_init ∈ lw_good := (gm 85 (by decide +kernel) (by decide +kernel))
theorem nw_RL_10 : NW RL 10 11 := ⟨RX11, TX11, 57, tyX11, rfl, rfl, by decide, tyX11_ok, by decide +kernel, (gm 972 (by decide +kernel) (by decide +kernel)), (gm 973 (by decide +kernel) (by decide +kernel)), (gm 72 (by decide +kernel) (by decide +kernel)), inG11⟩
theorem cl_RL_12 : LkB RL 12 yX11_init i_X11_init 0 := ⟨(gm 974 (by decide +kernel) (by decide +kernel)), (gm 72 (by decide +kernel) (by decide +kernel)), (gm 976 (by decide +kernel) (by decide +kernel)), by decide +kernel, by decide +kernel, by decide +kernel⟩
theorem si_X11_init : Cond.instanceMethod yX11_init ∈ lw_good := (gm 975 (by decide +kernel) (by decide +kernel))
def tb_L_law : List (Nat × Instr × Nat) := [(0, .new 7, 3), (3, .dup, 1), (4, .invokespecial 9, 3), (7, .astore_n 1, 1), (8, .new 10, 3), (11, .dup, 1), (12, .invokespecial 12, 3), (15, .astore_n 2, 1), (16, .iconst 0, 1), (17, .istore_n 3, 1), (18, .iload_n 3, 1), (19, .aload_n 0, 1), (20, .arraylength, 1), (21, .bipush 9, 2), (23, .isub, 1), (24, .if_icmp .gt 1736, 3), (27, .aload_n 0, 1), (28, .iload_n 3, 1), (29, .iaload, 1), (30, .bipush 63, 2), (32, .iand, 1), (33, .tableswitch 1721 0 40 #[179, 212, 311, 354, 387, 420, 463, 496, 549, 582, 615, 648, 671, 734, 777, 820, 863, 886, 929, 972, 1005, 1038, 1051, 1110, 1143, 1192, 1245, 1288, 1311, 1354, 1377, 1420, 1443, 1486, 1530, 1593, 1616, 1639, 1672, 1685, 1698], 179), (212, .aload_n 1, 1), (213, .aload_n 0, 1), (214, .iload_n 3, 1), (215, .iconst 1, 1), (216, .iadd, 1), (217, .iaload, 1), (218, .aload_n 0, 1), (219, .iload_n 3, 1), (220, .iconst 2, 1), (221, .iadd, 1), (222, .iaload, 1), (223, .invokevirtual 13, 3), (226, .aload_n 2, 1), (227, .aload_n 0, 1), (228, .iload_n 3, 1), (229, .iconst 1, 1), (230, .iadd, 1), (231, .iaload, 1), (232, .aload_n 0, 1), (233, .iload_n 3, 1), (234, .iconst 2, 1), (235, .iadd, 1), (236, .iaload, 1), (237, .invokevirtual 17, 3), (240, .if_icmp .eq 1514, 3), (243, .iconst 0, 1), (244, .ireturn, 1), (245, .aload_n 1, 1), (246, .aload_n 0, 1), (247, .iload_n 3, 1), (248, .iconst 1, 1), (249, .iadd, 1), (250, .iaload, 1), (251, .aload_n 0, 1), (252, .iload_n 3, 1), (253, .iconst 2, 1), (254, .iadd, 1), (255, .iaload, 1), (256, .aload_n 0, 1), (257, .iload_n 3, 1), (258, .iconst 3, 1), (259, .iadd, 1), (260, .iaload, 1), (261, .aload_n 0, 1), (262, .iload_n 3, 1), (263, .iconst 4, 1), (264, .iadd, 1), (265, .iaload, 1), (266, .aload_n 0, 1), (267, .iload_n 3, 1), (268, .iconst 5, 1), (269, .iadd, 1), (270, .iaload, 1), (271, .aload_n 0, 1), (272, .iload_n 3, 1), (273, .bipush 6, 2), (275, .iadd, 1), (276, .iaload, 1), (277, .aload_n 0, 1), (278, .iload_n 3, 1), (279, .bipush 7, 2), (281, .iadd, 1), (282, .iaload, 1), (283, .aload_n 0, 1), (284, .iload_n 3, 1), (285, .bipush 8, 2), (287, .iadd, 1), (288, .iaload, 1), (289, .invokevirtual 18, 3), (292, .aload_n 2, 1), (293, .aload_n 0, 1), (294, .iload_n 3, 1), (295, .iconst 1, 1), (296, .iadd, 1), (297, .iaload, 1), (298, .aload_n 0, 1), (299, .iload_n 3, 1), (300, .iconst 2, 1), (301, .iadd, 1), (302, .iaload, 1), (303, .aload_n 0, 1), (304, .iload_n 3, 1), (305, .iconst 3, 1), (306, .iadd, 1), (307, .iaload, 1), (308, .aload_n 0, 1), (309, .iload_n 3, 1), (310, .iconst 4, 1), (311, .iadd, 1), (312, .iaload, 1), (313, .aload_n 0, 1), (314, .iload_n 3, 1), (315, .iconst 5, 1), (316, .iadd, 1), (317, .iaload, 1), (318, .aload_n 0, 1), (319, .iload_n 3, 1), (320, .bipush 6, 2), (322, .iadd, 1), (323, .iaload, 1), (324, .aload_n 0, 1), (325, .iload_n 3, 1), (326, .bipush 7, 2), (328, .iadd, 1), (329, .iaload, 1), (330, .aload_n 0, 1), (331, .iload_n 3, 1), (332, .bipush 8, 2), (334, .iadd, 1), (335, .iaload, 1), (336, .invokevirtual 22, 3), (339, .if_icmp .eq 1415, 3), (342, .iconst 0, 1), (343, .ireturn, 1), (344, .aload_n 1, 1), (345, .aload_n 0, 1), (346, .iload_n 3, 1), (347, .iconst 1, 1), (348, .iadd, 1), (349, .iaload, 1), (350, .aload_n 0, 1), (351, .iload_n 3, 1), (352, .iconst 2, 1), (353, .iadd, 1), (354, .iaload, 1), (355, .aload_n 0, 1), (356, .iload_n 3, 1), (357, .iconst 3, 1), (358, .iadd, 1), (359, .iaload, 1), (360, .invokevirtual 23, 3), (363, .aload_n 2, 1), (364, .aload_n 0, 1), (365, .iload_n 3, 1), (366, .iconst 1, 1), (367, .iadd, 1), (368, .iaload, 1), (369, .aload_n 0, 1), (370, .iload_n 3, 1), (371, .iconst 2, 1), (372, .iadd, 1), (373, .iaload, 1), (374, .aload_n 0, 1), (375, .iload_n 3, 1), (376, .iconst 3, 1), (377, .iadd, 1), (378, .iaload, 1), (379, .invokevirtual 27, 3), (382, .if_icmp .eq 1372, 3), (385, .iconst 0, 1), (386, .ireturn, 1), (387, .aload_n 1, 1), (388, .aload_n 0, 1), (389, .iload_n 3, 1), (390, .iconst 1, 1), (391, .iadd, 1), (392, .iaload, 1), (393, .aload_n 0, 1), (394, .iload_n 3, 1), (395, .iconst 2, 1), (396, .iadd, 1), (397, .iaload, 1), (398, .invokevirtual 28, 3), (401, .aload_n 2, 1), (402, .aload_n 0, 1), (403, .iload_n 3, 1), (404, .iconst 1, 1), (405, .iadd, 1), (406, .iaload, 1), (407, .aload_n 0, 1), (408, .iload_n 3, 1), (409, .iconst 2, 1), (410, .iadd, 1), (411, .iaload, 1), (412, .invokevirtual 31, 3), (415, .if_icmp .eq 1339, 3), (418, .iconst 0, 1), (419, .ireturn, 1), (420, .aload_n 1, 1), (421, .aload_n 0, 1), (422, .iload_n 3, 1), (423, .iconst 1, 1), (424, .iadd, 1), (425, .iaload, 1), (426, .aload_n 0, 1), (427, .iload_n 3, 1), (428, .iconst 2, 1), (429, .iadd, 1), (430, .iaload, 1), (431, .invokevirtual 32, 3), (434, .aload_n 2, 1), (435, .aload_n 0, 1), (436, .iload_n 3, 1), (437, .iconst 1, 1), (438, .iadd, 1), (439, .iaload, 1), (440, .aload_n 0, 1), (441, .iload_n 3, 1), (442, .iconst 2, 1), (443, .iadd, 1), (444, .iaload, 1), (445, .invokevirtual 35, 3), (448, .if_icmp .eq 1306, 3), (451, .iconst 0, 1), (452, .ireturn, 1), (453, .aload_n 1, 1), (454, .aload_n 0, 1), (455, .iload_n 3, 1), (456, .iconst 1, 1), (457, .iadd, 1), (458, .iaload, 1), (459, .aload_n 0, 1), (460, .iload_n 3, 1), (461, .iconst 2, 1), (462, .iadd, 1), (463, .iaload, 1), (464, .aload_n 0, 1), (465, .iload_n 3, 1), (466, .iconst 3, 1), (467, .iadd, 1), (468, .iaload, 1), (469, .invokevirtual 36, 3), (472, .aload_n 2, 1), (473, .aload_n 0, 1), (474, .iload_n 3, 1), (475, .iconst 1, 1), (476, .iadd, 1), (477, .iaload, 1), (478, .aload_n 0, 1), (479, .iload_n 3, 1), (480, .iconst 2, 1), (481, .iadd, 1), (482, .iaload, 1), (483, .aload_n 0, 1), (484, .iload_n 3, 1), (485, .iconst 3, 1), (486, .iadd, 1), (487, .iaload, 1), (488, .invokevirtual 39, 3), (491, .if_icmp .eq 1263, 3), (494, .iconst 0, 1), (495, .ireturn, 1), (496, .aload_n 1, 1), (497, .aload_n 0, 1), (498, .iload_n 3, 1), (499, .iconst 1, 1), (500, .iadd, 1), (501, .iaload, 1), (502, .aload_n 0, 1), (503, .iload_n 3, 1), (504, .iconst 2, 1), (505, .iadd, 1), (506, .iaload, 1), (507, .invokevirtual 40, 3), (510, .aload_n 2, 1), (511, .aload_n 0, 1), (512, .iload_n 3, 1), (513, .iconst 1, 1), (514, .iadd, 1), (515, .iaload, 1), (516, .aload_n 0, 1), (517, .iload_n 3, 1), (518, .iconst 2, 1), (519, .iadd, 1), (520, .iaload, 1), (521, .invokevirtual 43, 3), (524, .if_icmp .eq 1230, 3), (527, .iconst 0, 1), (528, .ireturn, 1), (529, .aload_n 1, 1), (530, .aload_n 0, 1), (531, .iload_n 3, 1), (532, .iconst 1, 1), (533, .iadd, 1), (534, .iaload, 1), (535, .aload_n 0, 1), (536, .iload_n 3, 1), (537, .iconst 2, 1), (538, .iadd, 1), (539, .iaload, 1), (540, .aload_n 0, 1), (541, .iload_n 3, 1), (542, .iconst 3, 1), (543, .iadd, 1), (544, .iaload, 1), (545, .aload_n 0, 1), (546, .iload_n 3, 1), (547, .iconst 4, 1), (548, .iadd, 1), (549, .iaload, 1), (550, .invokevirtual 44, 3), (553, .aload_n 2, 1), (554, .aload_n 0, 1), (555, .iload_n 3, 1), (556, .iconst 1, 1), (557, .iadd, 1), (558, .iaload, 1), (559, .aload_n 0, 1), (560, .iload_n 3, 1), (561, .iconst 2, 1), (562, .iadd, 1), (563, .iaload, 1), (564, .aload_n 0, 1), (565, .iload_n 3, 1), (566, .iconst 3, 1), (567, .iadd, 1), (568, .iaload, 1), (569, .aload_n 0, 1), (570, .iload_n 3, 1), (571, .iconst 4, 1), (572, .iadd, 1), (573, .iaload, 1), (574, .invokevirtual 48, 3), (577, .if_icmp .eq 1177, 3), (580, .iconst 0, 1), (581, .ireturn, 1), (582, .aload_n 1, 1), (583, .aload_n 0, 1), (584, .iload_n 3, 1), (585, .iconst 1, 1), (586, .iadd, 1), (587, .iaload, 1), (588, .aload_n 0, 1), (589, .iload_n 3, 1), (590, .iconst 2, 1), (591, .iadd, 1), (592, .iaload, 1), (593, .invokevirtual 49, 3), (596, .aload_n 2, 1), (597, .aload_n 0, 1), (598, .iload_n 3, 1), (599, .iconst 1, 1), (600, .iadd, 1), (601, .iaload, 1), (602, .aload_n 0, 1), (603, .iload_n 3, 1), (604, .iconst 2, 1), (605, .iadd, 1), (606, .iaload, 1), (607, .invokevirtual 52, 3), (610, .if_icmp .eq 1144, 3), (613, .iconst 0, 1), (614, .ireturn, 1), (615, .aload_n 1, 1), (616, .aload_n 0, 1), (617, .iload_n 3, 1), (618, .iconst 1, 1), (619, .iadd, 1), (620, .iaload, 1), (621, .aload_n 0, 1), (622, .iload_n 3, 1), (623, .iconst 2, 1), (624, .iadd, 1), (625, .iaload, 1), (626, .invokevirtual 53, 3), (629, .aload_n 2, 1), (630, .aload_n 0, 1), (631, .iload_n 3, 1), (632, .iconst 1, 1), (633, .iadd, 1), (634, .iaload, 1), (635, .aload_n 0, 1), (636, .iload_n 3, 1), (637, .iconst 2, 1), (638, .iadd, 1), (639, .iaload, 1), (640, .invokevirtual 56, 3), (643, .if_icmp .eq 1111, 3), (646, .iconst 0, 1), (647, .ireturn, 1), (648, .aload_n 1, 1), (649, .aload_n 0, 1), (650, .iload_n 3, 1), (651, .iconst 1, 1), (652, .iadd, 1), (653, .iaload, 1), (654, .aload_n 0, 1), (655, .iload_n 3, 1), (656, .iconst 2, 1), (657, .iadd, 1), (658, .iaload, 1), (659, .invokevirtual 57, 3), (662, .aload_n 2, 1), (663, .aload_n 0, 1), (664, .iload_n 3, 1), (665, .iconst 1, 1), (666, .iadd, 1), (667, .iaload, 1), (668, .aload_n 0, 1), (669, .iload_n 3, 1), (670, .iconst 2, 1), (671, .iadd, 1), (672, .iaload, 1), (673, .invokevirtual 60, 3), (676, .if_icmp .eq 1078, 3), (679, .iconst 0, 1), (680, .ireturn, 1), (681, .aload_n 1, 1), (682, .aload_n 0, 1), (683, .iload_n 3, 1), (684, .iconst 1, 1), (685, .iadd, 1), (686, .iaload, 1), (687, .invokevirtual 61, 3), (690, .aload_n 2, 1), (691, .aload_n 0, 1), (692, .iload_n 3, 1), (693, .iconst 1, 1), (694, .iadd, 1), (695, .iaload, 1), (696, .invokevirtual 65, 3), (699, .if_icmp .eq 1055, 3), (702, .iconst 0, 1), (703, .ireturn, 1), (704, .aload_n 1, 1), (705, .aload_n 0, 1), (706, .iload_n 3, 1), (707, .iconst 1, 1), (708, .iadd, 1), (709, .iaload, 1), (710, .aload_n 0, 1), (711, .iload_n 3, 1), (712, .iconst 2, 1), (713, .iadd, 1), (714, .iaload, 1), (715, .aload_n 0, 1), (716, .iload_n 3, 1), (717, .iconst 3, 1), (718, .iadd, 1), (719, .iaload, 1), (720, .aload_n 0, 1), (721, .iload_n 3, 1), (722, .iconst 4, 1), (723, .iadd, 1), (724, .iaload, 1), (725, .aload_n 0, 1), (726, .iload_n 3, 1), (727, .iconst 5, 1), (728, .iadd, 1), (729, .iaload, 1), (730, .invokevirtual 66, 3), (733, .aload_n 2, 1), (734, .aload_n 0, 1), (735, .iload_n 3, 1), (736, .iconst 1, 1), (737, .iadd, 1), (738, .iaload, 1), (739, .aload_n 0, 1), (740, .iload_n 3, 1), (741, .iconst 2, 1), (742, .iadd, 1), (743, .iaload, 1), (744, .aload_n 0, 1), (745, .iload_n 3, 1), (746, .iconst 3, 1), (747, .iadd, 1), (748, .iaload, 1), (749, .aload_n 0, 1), (750, .iload_n 3, 1), (751, .iconst 4, 1), (752, .iadd, 1), (753, .iaload, 1), (754, .aload_n 0, 1), (755, .iload_n 3, 1), (756, .iconst 5, 1), (757, .iadd, 1), (758, .iaload, 1), (759, .invokevirtual 70, 3), (762, .if_icmp .eq 992, 3), (765, .iconst 0, 1), (766, .ireturn, 1), (767, .aload_n 1, 1), (768, .aload_n 0, 1), (769, .iload_n 3, 1), (770, .iconst 1, 1), (771, .iadd, 1), (772, .iaload, 1), (773, .aload_n 0, 1), (774, .iload_n 3, 1), (775, .iconst 2, 1), (776, .iadd, 1), (777, .iaload, 1), (778, .aload_n 0, 1), (779, .iload_n 3, 1), (780, .iconst 3, 1), (781, .iadd, 1), (782, .iaload, 1), (783, .invokevirtual 71, 3), (786, .aload_n 2, 1), (787, .aload_n 0, 1), (788, .iload_n 3, 1), (789, .iconst 1, 1), (790, .iadd, 1), (791, .iaload, 1), (792, .aload_n 0, 1), (793, .iload_n 3, 1), (794, .iconst 2, 1), (795, .iadd, 1), (796, .iaload, 1), (797, .aload_n 0, 1), (798, .iload_n 3, 1), (799, .iconst 3, 1), (800, .iadd, 1), (801, .iaload, 1), (802, .invokevirtual 74, 3), (805, .if_icmp .eq 949, 3), (808, .iconst 0, 1), (809, .ireturn, 1), (810, .aload_n 1, 1), (811, .aload_n 0, 1), (812, .iload_n 3, 1), (813, .iconst 1, 1), (814, .iadd, 1), (815, .iaload, 1), (816, .aload_n 0, 1), (817, .iload_n 3, 1), (818, .iconst 2, 1), (819, .iadd, 1), (820, .iaload, 1), (821, .aload_n 0, 1), (822, .iload_n 3, 1), (823, .iconst 3, 1), (824, .iadd, 1), (825, .iaload, 1), (826, .invokevirtual 75, 3), (829, .aload_n 2, 1), (830, .aload_n 0, 1), (831, .iload_n 3, 1), (832, .iconst 1, 1), (833, .iadd, 1), (834, .iaload, 1), (835, .aload_n 0, 1), (836, .iload_n 3, 1), (837, .iconst 2, 1), (838, .iadd, 1), (839, .iaload, 1), (840, .aload_n 0, 1), (841, .iload_n 3, 1), (842, .iconst 3, 1), (843, .iadd, 1), (844, .iaload, 1), (845, .invokevirtual 78, 3), (848, .if_icmp .eq 906, 3), (851, .iconst 0, 1), (852, .ireturn, 1), (853, .aload_n 1, 1), (854, .aload_n 0, 1), (855, .iload_n 3, 1), (856, .iconst 1, 1), (857, .iadd, 1), (858, .iaload, 1), (859, .aload_n 0, 1), (860, .iload_n 3, 1), (861, .iconst 2, 1), (862, .iadd, 1), (863, .iaload, 1), (864, .aload_n 0, 1), (865, .iload_n 3, 1), (866, .iconst 3, 1), (867, .iadd, 1), (868, .iaload, 1), (869, .invokevirtual 79, 3), (872, .aload_n 2, 1), (873, .aload_n 0, 1), (874, .iload_n 3, 1), (875, .iconst 1, 1), (876, .iadd, 1), (877, .iaload, 1), (878, .aload_n 0, 1), (879, .iload_n 3, 1), (880, .iconst 2, 1), (881, .iadd, 1), (882, .iaload, 1), (883, .aload_n 0, 1), (884, .iload_n 3, 1), (885, .iconst 3, 1), (886, .iadd, 1), (887, .iaload, 1), (888, .invokevirtual 82, 3), (891, .if_icmp .eq 863, 3), (894, .iconst 0, 1), (895, .ireturn, 1), (896, .aload_n 1, 1), (897, .aload_n 0, 1), (898, .iload_n 3, 1), (899, .iconst 1, 1), (900, .iadd, 1), (901, .iaload, 1), (902, .invokevirtual 83, 3), (905, .aload_n 2, 1), (906, .aload_n 0, 1), (907, .iload_n 3, 1), (908, .iconst 1, 1), (909, .iadd, 1), (910, .iaload, 1), (911, .invokevirtual 86, 3), (914, .if_icmp .eq 840, 3), (917, .iconst 0, 1), (918, .ireturn, 1), (919, .aload_n 1, 1), (920, .aload_n 0, 1), (921, .iload_n 3, 1), (922, .iconst 1, 1), (923, .iadd, 1), (924, .iaload, 1), (925, .aload_n 0, 1), (926, .iload_n 3, 1), (927, .iconst 2, 1), (928, .iadd, 1), (929, .iaload, 1), (930, .aload_n 0, 1), (931, .iload_n 3, 1), (932, .iconst 3, 1), (933, .iadd, 1), (934, .iaload, 1), (935, .invokevirtual 87, 3), (938, .aload_n 2, 1), (939, .aload_n 0, 1), (940, .iload_n 3, 1), (941, .iconst 1, 1), (942, .iadd, 1), (943, .iaload, 1), (944, .aload_n 0, 1), (945, .iload_n 3, 1), (946, .iconst 2, 1), (947, .iadd, 1), (948, .iaload, 1), (949, .aload_n 0, 1), (950, .iload_n 3, 1), (951, .iconst 3, 1), (952, .iadd, 1), (953, .iaload, 1), (954, .invokevirtual 90, 3), (957, .if_icmp .eq 797, 3), (960, .iconst 0, 1), (961, .ireturn, 1), (962, .aload_n 1, 1), (963, .aload_n 0, 1), (964, .iload_n 3, 1), (965, .iconst 1, 1), (966, .iadd, 1), (967, .iaload, 1), (968, .aload_n 0, 1), (969, .iload_n 3, 1), (970, .iconst 2, 1), (971, .iadd, 1), (972, .iaload, 1), (973, .aload_n 0, 1), (974, .iload_n 3, 1), (975, .iconst 3, 1), (976, .iadd, 1), (977, .iaload, 1), (978, .invokevirtual 91, 3), (981, .aload_n 2, 1), (982, .aload_n 0, 1), (983, .iload_n 3, 1), (984, .iconst 1, 1), (985, .iadd, 1), (986, .iaload, 1), (987, .aload_n 0, 1), (988, .iload_n 3, 1), (989, .iconst 2, 1), (990, .iadd, 1), (991, .iaload, 1), (992, .aload_n 0, 1), (993, .iload_n 3, 1), (994, .iconst 3, 1), (995, .iadd, 1), (996, .iaload, 1), (997, .invokevirtual 94, 3), (1000, .if_icmp .eq 754, 3), (1003, .iconst 0, 1), (1004, .ireturn, 1), (1005, .aload_n 1, 1), (1006, .aload_n 0, 1), (1007, .iload_n 3, 1), (1008, .iconst 1, 1), (1009, .iadd, 1), (1010, .iaload, 1), (1011, .aload_n 0, 1), (1012, .iload_n 3, 1), (1013, .iconst 2, 1), (1014, .iadd, 1), (1015, .iaload, 1), (1016, .invokevirtual 95, 3), (1019, .aload_n 2, 1), (1020, .aload_n 0, 1), (1021, .iload_n 3, 1), (1022, .iconst 1, 1), (1023, .iadd, 1), (1024, .iaload, 1), (1025, .aload_n 0, 1), (1026, .iload_n 3, 1), (1027, .iconst 2, 1), (1028, .iadd, 1), (1029, .iaload, 1), (1030, .invokevirtual 98, 3), (1033, .if_icmp .eq 721, 3), (1036, .iconst 0, 1), (1037, .ireturn, 1), (1038, .aload_n 1, 1), (1039, .aload_n 0, 1), (1040, .iload_n 3, 1), (1041, .iconst 1, 1), (1042, .iadd, 1), (1043, .iaload, 1), (1044, .aload_n 0, 1), (1045, .iload_n 3, 1), (1046, .iconst 2, 1), (1047, .iadd, 1), (1048, .iaload, 1), (1049, .invokevirtual 99, 3), (1052, .aload_n 2, 1), (1053, .aload_n 0, 1), (1054, .iload_n 3, 1), (1055, .iconst 1, 1), (1056, .iadd, 1), (1057, .iaload, 1), (1058, .aload_n 0, 1), (1059, .iload_n 3, 1), (1060, .iconst 2, 1), (1061, .iadd, 1), (1062, .iaload, 1), (1063, .invokevirtual 102, 3), (1066, .if_icmp .eq 688, 3), (1069, .iconst 0, 1), (1070, .ireturn, 1), (1071, .aload_n 1, 1), (1072, .invokevirtual 103, 3), (1075, .aload_n 2, 1), (1076, .invokevirtual 107, 3), (1079, .if_icmp .eq 675, 3), (1082, .iconst 0, 1), (1083, .ireturn, 1), (1084, .aload_n 1, 1), (1085, .aload_n 0, 1), (1086, .iload_n 3, 1), (1087, .iconst 1, 1), (1088, .iadd, 1), (1089, .iaload, 1), (1090, .aload_n 0, 1), (1091, .iload_n 3, 1), (1092, .iconst 2, 1), (1093, .iadd, 1), (1094, .iaload, 1), (1095, .aload_n 0, 1), (1096, .iload_n 3, 1), (1097, .iconst 3, 1), (1098, .iadd, 1), (1099, .iaload, 1), (1100, .ifCond .eq 7, 3), (1103, .iconst 1, 1), (1104, .goto 4, 3), (1107, .iconst 0, 1), (1108, .invokevirtual 108, 3), (1111, .aload_n 2, 1), (1112, .aload_n 0, 1), (1113, .iload_n 3, 1), (1114, .iconst 1, 1), (1115, .iadd, 1), (1116, .iaload, 1), (1117, .aload_n 0, 1), (1118, .iload_n 3, 1), (1119, .iconst 2, 1), (1120, .iadd, 1), (1121, .iaload, 1), (1122, .aload_n 0, 1), (1123, .iload_n 3, 1), (1124, .iconst 3, 1), (1125, .iadd, 1), (1126, .iaload, 1), (1127, .ifCond .eq 7, 3), (1130, .iconst 1, 1), (1131, .goto 4, 3), (1134, .iconst 0, 1), (1135, .invokevirtual 112, 3), (1138, .if_icmp .eq 616, 3), (1141, .iconst 0, 1), (1142, .ireturn, 1), (1143, .aload_n 1, 1), (1144, .aload_n 0, 1), (1145, .iload_n 3, 1), (1146, .iconst 1, 1), (1147, .iadd, 1), (1148, .iaload, 1), (1149, .aload_n 0, 1), (1150, .iload_n 3, 1), (1151, .iconst 2, 1), (1152, .iadd, 1), (1153, .iaload, 1), (1154, .invokevirtual 113, 3), (1157, .aload_n 2, 1), (1158, .aload_n 0, 1), (1159, .iload_n 3, 1), (1160, .iconst 1, 1), (1161, .iadd, 1), (1162, .iaload, 1), (1163, .aload_n 0, 1), (1164, .iload_n 3, 1), (1165, .iconst 2, 1), (1166, .iadd, 1), (1167, .iaload, 1), (1168, .invokevirtual 116, 3), (1171, .if_icmp .eq 583, 3), (1174, .iconst 0, 1), (1175, .ireturn, 1), (1176, .aload_n 1, 1), (1177, .aload_n 0, 1), (1178, .iload_n 3, 1), (1179, .iconst 1, 1), (1180, .iadd, 1), (1181, .iaload, 1), (1182, .aload_n 0, 1), (1183, .iload_n 3, 1), (1184, .iconst 2, 1), (1185, .iadd, 1), (1186, .iaload, 1), (1187, .ifCond .eq 7, 3), (1190, .iconst 1, 1), (1191, .goto 4, 3), (1194, .iconst 0, 1), (1195, .invokevirtual 117, 3), (1198, .aload_n 2, 1), (1199, .aload_n 0, 1), (1200, .iload_n 3, 1), (1201, .iconst 1, 1), (1202, .iadd, 1), (1203, .iaload, 1), (1204, .aload_n 0, 1), (1205, .iload_n 3, 1), (1206, .iconst 2, 1), (1207, .iadd, 1), (1208, .iaload, 1), (1209, .ifCond .eq 7, 3), (1212, .iconst 1, 1), (1213, .goto 4, 3), (1216, .iconst 0, 1), (1217, .invokevirtual 121, 3), (1220, .if_icmp .eq 534, 3), (1223, .iconst 0, 1), (1224, .ireturn, 1), (1225, .aload_n 1, 1), (1226, .aload_n 0, 1), (1227, .iload_n 3, 1), (1228, .iconst 1, 1), (1229, .iadd, 1), (1230, .iaload, 1), (1231, .aload_n 0, 1), (1232, .iload_n 3, 1), (1233, .iconst 2, 1), (1234, .iadd, 1), (1235, .iaload, 1), (1236, .aload_n 0, 1), (1237, .iload_n 3, 1), (1238, .iconst 3, 1), (1239, .iadd, 1), (1240, .iaload, 1), (1241, .aload_n 0, 1), (1242, .iload_n 3, 1), (1243, .iconst 4, 1), (1244, .iadd, 1), (1245, .iaload, 1), (1246, .invokevirtual 122, 3), (1249, .aload_n 2, 1), (1250, .aload_n 0, 1), (1251, .iload_n 3, 1), (1252, .iconst 1, 1), (1253, .iadd, 1), (1254, .iaload, 1), (1255, .aload_n 0, 1), (1256, .iload_n 3, 1), (1257, .iconst 2, 1), (1258, .iadd, 1), (1259, .iaload, 1), (1260, .aload_n 0, 1), (1261, .iload_n 3, 1), (1262, .iconst 3, 1), (1263, .iadd, 1), (1264, .iaload, 1), (1265, .aload_n 0, 1), (1266, .iload_n 3, 1), (1267, .iconst 4, 1), (1268, .iadd, 1), (1269, .iaload, 1), (1270, .invokevirtual 125, 3), (1273, .if_icmp .eq 481, 3), (1276, .iconst 0, 1), (1277, .ireturn, 1), (1278, .aload_n 1, 1), (1279, .aload_n 0, 1), (1280, .iload_n 3, 1), (1281, .iconst 1, 1), (1282, .iadd, 1), (1283, .iaload, 1), (1284, .aload_n 0, 1), (1285, .iload_n 3, 1), (1286, .iconst 2, 1), (1287, .iadd, 1), (1288, .iaload, 1), (1289, .aload_n 0, 1), (1290, .iload_n 3, 1), (1291, .iconst 3, 1), (1292, .iadd, 1), (1293, .iaload, 1), (1294, .invokevirtual 126, 3), (1297, .aload_n 2, 1), (1298, .aload_n 0, 1), (1299, .iload_n 3, 1), (1300, .iconst 1, 1), (1301, .iadd, 1), (1302, .iaload, 1), (1303, .aload_n 0, 1), (1304, .iload_n 3, 1), (1305, .iconst 2, 1), (1306, .iadd, 1), (1307, .iaload, 1), (1308, .aload_n 0, 1), (1309, .iload_n 3, 1), (1310, .iconst 3, 1), (1311, .iadd, 1), (1312, .iaload, 1), (1313, .invokevirtual 129, 3), (1316, .if_icmp .eq 438, 3), (1319, .iconst 0, 1), (1320, .ireturn, 1), (1321, .aload_n 1, 1), (1322, .aload_n 0, 1), (1323, .iload_n 3, 1), (1324, .iconst 1, 1), (1325, .iadd, 1), (1326, .iaload, 1), (1327, .invokevirtual 130, 3), (1330, .aload_n 2, 1), (1331, .aload_n 0, 1), (1332, .iload_n 3, 1), (1333, .iconst 1, 1), (1334, .iadd, 1), (1335, .iaload, 1), (1336, .invokevirtual 133, 3), (1339, .if_icmp .eq 415, 3), (1342, .iconst 0, 1), (1343, .ireturn, 1), (1344, .aload_n 1, 1), (1345, .aload_n 0, 1), (1346, .iload_n 3, 1), (1347, .iconst 1, 1), (1348, .iadd, 1), (1349, .iaload, 1), (1350, .aload_n 0, 1), (1351, .iload_n 3, 1), (1352, .iconst 2, 1), (1353, .iadd, 1), (1354, .iaload, 1), (1355, .aload_n 0, 1), (1356, .iload_n 3, 1), (1357, .iconst 3, 1), (1358, .iadd, 1), (1359, .iaload, 1), (1360, .invokevirtual 134, 3), (1363, .aload_n 2, 1), (1364, .aload_n 0, 1), (1365, .iload_n 3, 1), (1366, .iconst 1, 1), (1367, .iadd, 1), (1368, .iaload, 1), (1369, .aload_n 0, 1), (1370, .iload_n 3, 1), (1371, .iconst 2, 1), (1372, .iadd, 1), (1373, .iaload, 1), (1374, .aload_n 0, 1), (1375, .iload_n 3, 1), (1376, .iconst 3, 1), (1377, .iadd, 1), (1378, .iaload, 1), (1379, .invokevirtual 137, 3), (1382, .if_icmp .eq 372, 3), (1385, .iconst 0, 1), (1386, .ireturn, 1), (1387, .aload_n 1, 1), (1388, .aload_n 0, 1), (1389, .iload_n 3, 1), (1390, .iconst 1, 1), (1391, .iadd, 1), (1392, .iaload, 1), (1393, .invokevirtual 138, 3), (1396, .aload_n 2, 1), (1397, .aload_n 0, 1), (1398, .iload_n 3, 1), (1399, .iconst 1, 1), (1400, .iadd, 1), (1401, .iaload, 1), (1402, .invokevirtual 141, 3), (1405, .if_icmp .eq 349, 3), (1408, .iconst 0, 1), (1409, .ireturn, 1), (1410, .aload_n 1, 1), (1411, .aload_n 0, 1), (1412, .iload_n 3, 1), (1413, .iconst 1, 1), (1414, .iadd, 1), (1415, .iaload, 1), (1416, .aload_n 0, 1), (1417, .iload_n 3, 1), (1418, .iconst 2, 1), (1419, .iadd, 1), (1420, .iaload, 1), (1421, .aload_n 0, 1), (1422, .iload_n 3, 1), (1423, .iconst 3, 1), (1424, .iadd, 1), (1425, .iaload, 1), (1426, .invokevirtual 142, 3), (1429, .aload_n 2, 1), (1430, .aload_n 0, 1), (1431, .iload_n 3, 1), (1432, .iconst 1, 1), (1433, .iadd, 1), (1434, .iaload, 1), (1435, .aload_n 0, 1), (1436, .iload_n 3, 1), (1437, .iconst 2, 1), (1438, .iadd, 1), (1439, .iaload, 1), (1440, .aload_n 0, 1), (1441, .iload_n 3, 1), (1442, .iconst 3, 1), (1443, .iadd, 1), (1444, .iaload, 1), (1445, .invokevirtual 145, 3), (1448, .if_icmp .eq 306, 3), (1451, .iconst 0, 1), (1452, .ireturn, 1), (1453, .aload_n 1, 1), (1454, .aload_n 0, 1), (1455, .iload_n 3, 1), (1456, .iconst 1, 1), (1457, .iadd, 1), (1458, .iaload, 1), (1459, .invokevirtual 146, 3), (1462, .aload_n 2, 1), (1463, .aload_n 0, 1), (1464, .iload_n 3, 1), (1465, .iconst 1, 1), (1466, .iadd, 1), (1467, .iaload, 1), (1468, .invokevirtual 149, 3), (1471, .if_icmp .eq 283, 3), (1474, .iconst 0, 1), (1475, .ireturn, 1), (1476, .aload_n 1, 1), (1477, .aload_n 0, 1), (1478, .iload_n 3, 1), (1479, .iconst 1, 1), (1480, .iadd, 1), (1481, .iaload, 1), (1482, .aload_n 0, 1), (1483, .iload_n 3, 1), (1484, .iconst 2, 1), (1485, .iadd, 1), (1486, .iaload, 1), (1487, .aload_n 0, 1), (1488, .iload_n 3, 1), (1489, .iconst 3, 1), (1490, .iadd, 1), (1491, .iaload, 1), (1492, .invokevirtual 150, 3), (1495, .aload_n 2, 1), (1496, .aload_n 0, 1), (1497, .iload_n 3, 1), (1498, .iconst 1, 1), (1499, .iadd, 1), (1500, .iaload, 1), (1501, .aload_n 0, 1), (1502, .iload_n 3, 1), (1503, .iconst 2, 1), (1504, .iadd, 1), (1505, .iaload, 1), (1506, .aload_n 0, 1), (1507, .iload_n 3, 1), (1508, .iconst 3, 1), (1509, .iadd, 1), (1510, .iaload, 1), (1511, .invokevirtual 153, 3), (1514, .if_icmp .eq 240, 3), (1517, .iconst 0, 1), (1518, .ireturn, 1), (1519, .aload_n 1, 1), (1520, .aload_n 0, 1), (1521, .iload_n 3, 1), (1522, .iconst 1, 1), (1523, .iadd, 1), (1524, .iaload, 1), (1525, .aload_n 0, 1), (1526, .iload_n 3, 1), (1527, .iconst 2, 1), (1528, .iadd, 1), (1529, .iaload, 1), (1530, .aload_n 0, 1), (1531, .iload_n 3, 1), (1532, .iconst 3, 1), (1533, .iadd, 1), (1534, .iaload, 1), (1535, .invokevirtual 154, 3), (1538, .aload_n 2, 1), (1539, .aload_n 0, 1), (1540, .iload_n 3, 1), (1541, .iconst 1, 1), (1542, .iadd, 1), (1543, .iaload, 1), (1544, .aload_n 0, 1), (1545, .iload_n 3, 1), (1546, .iconst 2, 1), (1547, .iadd, 1), (1548, .iaload, 1), (1549, .aload_n 0, 1), (1550, .iload_n 3, 1), (1551, .iconst 3, 1), (1552, .iadd, 1), (1553, .iaload, 1), (1554, .invokevirtual 158, 3), (1557, .lcmp, 1), (1558, .ifCond .eq 196, 3), (1561, .iconst 0, 1), (1562, .ireturn, 1), (1563, .aload_n 1, 1), (1564, .aload_n 0, 1), (1565, .iload_n 3, 1), (1566, .iconst 1, 1), (1567, .iadd, 1), (1568, .iaload, 1), (1569, .aload_n 0, 1), (1570, .iload_n 3, 1), (1571, .iconst 2, 1), (1572, .iadd, 1), (1573, .iaload, 1), (1574, .aload_n 0, 1), (1575, .iload_n 3, 1), (1576, .iconst 3, 1), (1577, .iadd, 1), (1578, .iaload, 1), (1579, .aload_n 0, 1), (1580, .iload_n 3, 1), (1581, .iconst 4, 1), (1582, .iadd, 1), (1583, .iaload, 1), (1584, .aload_n 0, 1), (1585, .iload_n 3, 1), (1586, .iconst 5, 1), (1587, .iadd, 1), (1588, .iaload, 1), (1589, .invokevirtual 159, 3), (1592, .aload_n 2, 1), (1593, .aload_n 0, 1), (1594, .iload_n 3, 1), (1595, .iconst 1, 1), (1596, .iadd, 1), (1597, .iaload, 1), (1598, .aload_n 0, 1), (1599, .iload_n 3, 1), (1600, .iconst 2, 1), (1601, .iadd, 1), (1602, .iaload, 1), (1603, .aload_n 0, 1), (1604, .iload_n 3, 1), (1605, .iconst 3, 1), (1606, .iadd, 1), (1607, .iaload, 1), (1608, .aload_n 0, 1), (1609, .iload_n 3, 1), (1610, .iconst 4, 1), (1611, .iadd, 1), (1612, .iaload, 1), (1613, .aload_n 0, 1), (1614, .iload_n 3, 1), (1615, .iconst 5, 1), (1616, .iadd, 1), (1617, .iaload, 1), (1618, .invokevirtual 162, 3), (1621, .if_icmp .eq 133, 3), (1624, .iconst 0, 1), (1625, .ireturn, 1), (1626, .aload_n 1, 1), (1627, .aload_n 0, 1), (1628, .iload_n 3, 1), (1629, .iconst 1, 1), (1630, .iadd, 1), (1631, .iaload, 1), (1632, .invokevirtual 163, 3), (1635, .aload_n 2, 1), (1636, .aload_n 0, 1), (1637, .iload_n 3, 1), (1638, .iconst 1, 1), (1639, .iadd, 1), (1640, .iaload, 1), (1641, .invokevirtual 166, 3), (1644, .if_icmp .eq 110, 3), (1647, .iconst 0, 1), (1648, .ireturn, 1), (1649, .aload_n 1, 1), (1650, .aload_n 0, 1), (1651, .iload_n 3, 1), (1652, .iconst 1, 1), (1653, .iadd, 1), (1654, .iaload, 1), (1655, .invokevirtual 167, 3), (1658, .aload_n 2, 1), (1659, .aload_n 0, 1), (1660, .iload_n 3, 1), (1661, .iconst 1, 1), (1662, .iadd, 1), (1663, .iaload, 1), (1664, .invokevirtual 170, 3), (1667, .if_icmp .eq 87, 3), (1670, .iconst 0, 1), (1671, .ireturn, 1), (1672, .aload_n 1, 1), (1673, .aload_n 0, 1), (1674, .iload_n 3, 1), (1675, .iconst 1, 1), (1676, .iadd, 1), (1677, .iaload, 1), (1678, .aload_n 0, 1), (1679, .iload_n 3, 1), (1680, .iconst 2, 1), (1681, .iadd, 1), (1682, .iaload, 1), (1683, .invokevirtual 171, 3), (1686, .aload_n 2, 1), (1687, .aload_n 0, 1), (1688, .iload_n 3, 1), (1689, .iconst 1, 1), (1690, .iadd, 1), (1691, .iaload, 1), (1692, .aload_n 0, 1), (1693, .iload_n 3, 1), (1694, .iconst 2, 1), (1695, .iadd, 1), (1696, .iaload, 1), (1697, .invokevirtual 174, 3), (1700, .if_icmp .eq 54, 3), (1703, .iconst 0, 1), (1704, .ireturn, 1), (1705, .aload_n 1, 1), (1706, .invokevirtual 175, 3), (1709, .aload_n 2, 1), (1710, .invokevirtual 178, 3), (1713, .if_icmp .eq 41, 3), (1716, .iconst 0, 1), (1717, .ireturn, 1), (1718, .aload_n 1, 1), (1719, .invokevirtual 179, 3), (1722, .aload_n 2, 1), (1723, .invokevirtual 182, 3), (1726, .if_icmp .eq 28, 3), (1729, .iconst 0, 1), (1730, .ireturn, 1), (1731, .aload_n 1, 1), (1732, .aload_n 0, 1), (1733, .iload_n 3, 1), (1734, .iconst 1, 1), (1735, .iadd, 1), (1736, .iaload, 1), (1737, .invokevirtual 183, 3), (1740, .aload_n 2, 1), (1741, .aload_n 0, 1), (1742, .iload_n 3, 1), (1743, .iconst 1, 1), (1744, .iadd, 1), (1745, .iaload, 1), (1746, .invokevirtual 186, 3), (1749, .if_icmp .eq 5, 3), (1752, .iconst 0, 1), (1753, .ireturn, 1), (1754, .iinc 3 9, 3), (1757, .goto (-1739), 3), (1760, .iconst 1, 1), (1761, .ireturn, 1)]
def i_L_law : MI := (RL, cL_law, 4, ret, "law", room_1)
theorem D_L_law : tbOK (i_L_law).2.1 tb_L_law := by show ∀ q ∈ tb_L_law, decode cL_law q.1 = .ok (q.2.1, q.2.2); decide +kernel
def jn_L_law_1754 (fu : Nat) (S : Sk) (I : II) (sL : Nat) (sx : Nat → Int32) (self18 : Int32 → Sk → II → Option (Int32 × Sk × II)) (r1 : Nat) (r2 : Nat) (x3 : Int32) : Option (Int32 × Sk × II) :=
  self18 (x3 + (9 : Int32)) S I
def jn_L_law_1135 (fu : Nat) (S : Sk) (I : II) (sL : Nat) (sx : Nat → Int32) (self18 : Int32 → Sk → II → Option (Int32 × Sk × II)) (r1 : Nat) (r2 : Nat) (x3 : Int32) (s0 : Int32) (q1 : Nat) (s2 : Int32) (s3 : Int32) (s4 : Int32) : Option (Int32 × Sk × II) :=
  gd (q1 ≠ 0) ((f_X11_know fu S I (q1 - 1) s2 s3 s4).bind fun q2 => (if s0 = q2.1 then jn_L_law_1754 fu S q2.2 sL sx self18 r1 r2 x3 else some (((0 : Int32), S, q2.2))))
def jn_L_law_1108 (fu : Nat) (S : Sk) (I : II) (sL : Nat) (sx : Nat → Int32) (self18 : Int32 → Sk → II → Option (Int32 × Sk × II)) (r1 : Nat) (r2 : Nat) (x3 : Int32) (q0 : Nat) (s1 : Int32) (s2 : Int32) (s3 : Int32) : Option (Int32 × Sk × II) :=
  gd (q0 ≠ 0) ((f_X10_know fu S I (q0 - 1) s1 s2 s3).bind fun q7 => (gd (¬ (x3 + (1 : Int32)) < 0 ∧ nx (x3 + (1 : Int32)) < sL) (gd (¬ (x3 + (2 : Int32)) < 0 ∧ nx (x3 + (2 : Int32)) < sL) (gd (¬ (x3 + (3 : Int32)) < 0 ∧ nx (x3 + (3 : Int32)) < sL) (if (sx (nx (x3 + (3 : Int32)))) = 0 then jn_L_law_1135 fu S q7.2 sL sx self18 r1 r2 x3 q7.1 r2 (sx (nx (x3 + (1 : Int32)))) (sx (nx (x3 + (2 : Int32)))) (0 : Int32) else jn_L_law_1135 fu S q7.2 sL sx self18 r1 r2 x3 q7.1 r2 (sx (nx (x3 + (1 : Int32)))) (sx (nx (x3 + (2 : Int32)))) (1 : Int32))))))
def jn_L_law_1217 (fu : Nat) (S : Sk) (I : II) (sL : Nat) (sx : Nat → Int32) (self18 : Int32 → Sk → II → Option (Int32 × Sk × II)) (r1 : Nat) (r2 : Nat) (x3 : Int32) (s0 : Int32) (q1 : Nat) (s2 : Int32) (s3 : Int32) : Option (Int32 × Sk × II) :=
  gd (q1 ≠ 0) ((f_X11_board fu S I (q1 - 1) s2 s3).bind fun q15 => (if s0 = q15.1 then jn_L_law_1754 fu S q15.2 sL sx self18 r1 r2 x3 else some (((0 : Int32), S, q15.2))))
def jn_L_law_1195 (fu : Nat) (S : Sk) (I : II) (sL : Nat) (sx : Nat → Int32) (self18 : Int32 → Sk → II → Option (Int32 × Sk × II)) (r1 : Nat) (r2 : Nat) (x3 : Int32) (q0 : Nat) (s1 : Int32) (s2 : Int32) : Option (Int32 × Sk × II) :=
  gd (q0 ≠ 0) ((f_X10_board fu S I (q0 - 1) s1 s2).bind fun q20 => (gd (¬ (x3 + (1 : Int32)) < 0 ∧ nx (x3 + (1 : Int32)) < sL) (gd (¬ (x3 + (2 : Int32)) < 0 ∧ nx (x3 + (2 : Int32)) < sL) (if (sx (nx (x3 + (2 : Int32)))) = 0 then jn_L_law_1217 fu S q20.2 sL sx self18 r1 r2 x3 q20.1 r2 (sx (nx (x3 + (1 : Int32)))) (0 : Int32) else jn_L_law_1217 fu S q20.2 sL sx self18 r1 r2 x3 q20.1 r2 (sx (nx (x3 + (1 : Int32)))) (1 : Int32)))))
def lp_L_law_18 (fu : Nat) (sL : Nat) (sx : Nat → Int32) (r1 : Nat) (r2 : Nat) (self18 : Int32 → Sk → II → Option (Int32 × Sk × II)) (x3 : Int32) (S : Sk) (I : II) : Option (Int32 × Sk × II) :=
  if ((sL.toInt32) - (9 : Int32)) < x3 then some (((1 : Int32), S, I)) else gd (¬ x3 < 0 ∧ nx x3 < sL) (if ((sx (nx x3)) &&& (63 : Int32)) = (0 : Int32) then gd (¬ (x3 + (1 : Int32)) < 0 ∧ nx (x3 + (1 : Int32)) < sL) (gd (¬ (x3 + (2 : Int32)) < 0 ∧ nx (x3 + (2 : Int32)) < sL) (gd (r1 ≠ 0) ((f_X10_stop fu S I (r1 - 1) (sx (nx (x3 + (1 : Int32)))) (sx (nx (x3 + (2 : Int32))))).bind fun q32 => (gd (r2 ≠ 0) ((f_X11_stop fu S q32.2 (r2 - 1) (sx (nx (x3 + (1 : Int32)))) (sx (nx (x3 + (2 : Int32))))).bind fun q38 => (if q32.1 = q38.1 then jn_L_law_1754 fu S q38.2 sL sx self18 r1 r2 x3 else some (((0 : Int32), S, q38.2)))))))) else (if ((sx (nx x3)) &&& (63 : Int32)) = (1 : Int32) then gd (¬ (x3 + (1 : Int32)) < 0 ∧ nx (x3 + (1 : Int32)) < sL) (gd (¬ (x3 + (2 : Int32)) < 0 ∧ nx (x3 + (2 : Int32)) < sL) (gd (¬ (x3 + (3 : Int32)) < 0 ∧ nx (x3 + (3 : Int32)) < sL) (gd (¬ (x3 + (4 : Int32)) < 0 ∧ nx (x3 + (4 : Int32)) < sL) (gd (¬ (x3 + (5 : Int32)) < 0 ∧ nx (x3 + (5 : Int32)) < sL) (gd (¬ (x3 + (6 : Int32)) < 0 ∧ nx (x3 + (6 : Int32)) < sL) (gd (¬ (x3 + (7 : Int32)) < 0 ∧ nx (x3 + (7 : Int32)) < sL) (gd (¬ (x3 + (8 : Int32)) < 0 ∧ nx (x3 + (8 : Int32)) < sL) (gd (r1 ≠ 0) ((f_X10_line fu S I (r1 - 1) (sx (nx (x3 + (1 : Int32)))) (sx (nx (x3 + (2 : Int32)))) (sx (nx (x3 + (3 : Int32)))) (sx (nx (x3 + (4 : Int32)))) (sx (nx (x3 + (5 : Int32)))) (sx (nx (x3 + (6 : Int32)))) (sx (nx (x3 + (7 : Int32)))) (sx (nx (x3 + (8 : Int32))))).bind fun q52 => (gd (¬ (x3 + (1 : Int32)) < 0 ∧ nx (x3 + (1 : Int32)) < sL) (gd (¬ (x3 + (2 : Int32)) < 0 ∧ nx (x3 + (2 : Int32)) < sL) (gd (¬ (x3 + (3 : Int32)) < 0 ∧ nx (x3 + (3 : Int32)) < sL) (gd (¬ (x3 + (4 : Int32)) < 0 ∧ nx (x3 + (4 : Int32)) < sL) (gd (¬ (x3 + (5 : Int32)) < 0 ∧ nx (x3 + (5 : Int32)) < sL) (gd (¬ (x3 + (6 : Int32)) < 0 ∧ nx (x3 + (6 : Int32)) < sL) (gd (¬ (x3 + (7 : Int32)) < 0 ∧ nx (x3 + (7 : Int32)) < sL) (gd (¬ (x3 + (8 : Int32)) < 0 ∧ nx (x3 + (8 : Int32)) < sL) (gd (r2 ≠ 0) ((f_X11_line fu q52.2.1 q52.2.2 (r2 - 1) (sx (nx (x3 + (1 : Int32)))) (sx (nx (x3 + (2 : Int32)))) (sx (nx (x3 + (3 : Int32)))) (sx (nx (x3 + (4 : Int32)))) (sx (nx (x3 + (5 : Int32)))) (sx (nx (x3 + (6 : Int32)))) (sx (nx (x3 + (7 : Int32)))) (sx (nx (x3 + (8 : Int32))))).bind fun q68 => (if q52.1 = q68.1 then jn_L_law_1754 fu q52.2.1 q68.2 sL sx self18 r1 r2 x3 else some (((0 : Int32), q52.2.1, q68.2)))))))))))))))))))))) else (if ((sx (nx x3)) &&& (63 : Int32)) = (2 : Int32) then gd (¬ (x3 + (1 : Int32)) < 0 ∧ nx (x3 + (1 : Int32)) < sL) (gd (¬ (x3 + (2 : Int32)) < 0 ∧ nx (x3 + (2 : Int32)) < sL) (gd (¬ (x3 + (3 : Int32)) < 0 ∧ nx (x3 + (3 : Int32)) < sL) (gd (r1 ≠ 0) ((f_X10_days fu S I (r1 - 1) (sx (nx (x3 + (1 : Int32)))) (sx (nx (x3 + (2 : Int32)))) (sx (nx (x3 + (3 : Int32))))).bind fun q77 => (gd (r2 ≠ 0) ((f_X11_days fu S q77.2 (r2 - 1) (sx (nx (x3 + (1 : Int32)))) (sx (nx (x3 + (2 : Int32)))) (sx (nx (x3 + (3 : Int32))))).bind fun q84 => (if q77.1 = q84.1 then jn_L_law_1754 fu S q84.2 sL sx self18 r1 r2 x3 else some (((0 : Int32), S, q84.2))))))))) else (if ((sx (nx x3)) &&& (63 : Int32)) = (3 : Int32) then gd (¬ (x3 + (1 : Int32)) < 0 ∧ nx (x3 + (1 : Int32)) < sL) (gd (¬ (x3 + (2 : Int32)) < 0 ∧ nx (x3 + (2 : Int32)) < sL) (gd (r1 ≠ 0) ((f_X10_ofLine fu S I (r1 - 1) (sx (nx (x3 + (1 : Int32)))) (sx (nx (x3 + (2 : Int32))))).bind fun q92 => (gd (r2 ≠ 0) ((f_X11_ofLine fu S I (r2 - 1) (sx (nx (x3 + (1 : Int32)))) (sx (nx (x3 + (2 : Int32))))).bind fun q98 => (if q92 = q98 then jn_L_law_1754 fu S I sL sx self18 r1 r2 x3 else some (((0 : Int32), S, I)))))))) else (if ((sx (nx x3)) &&& (63 : Int32)) = (4 : Int32) then gd (¬ (x3 + (1 : Int32)) < 0 ∧ nx (x3 + (1 : Int32)) < sL) (gd (¬ (x3 + (2 : Int32)) < 0 ∧ nx (x3 + (2 : Int32)) < sL) (gd (r1 ≠ 0) ((f_X10_runs fu S I (r1 - 1) (sx (nx (x3 + (1 : Int32)))) (sx (nx (x3 + (2 : Int32))))).bind fun q106 => (gd (r2 ≠ 0) ((f_X11_runs fu S I (r2 - 1) (sx (nx (x3 + (1 : Int32)))) (sx (nx (x3 + (2 : Int32))))).bind fun q112 => (if q106 = q112 then jn_L_law_1754 fu S I sL sx self18 r1 r2 x3 else some (((0 : Int32), S, I)))))))) else (if ((sx (nx x3)) &&& (63 : Int32)) = (5 : Int32) then gd (¬ (x3 + (1 : Int32)) < 0 ∧ nx (x3 + (1 : Int32)) < sL) (gd (¬ (x3 + (2 : Int32)) < 0 ∧ nx (x3 + (2 : Int32)) < sL) (gd (¬ (x3 + (3 : Int32)) < 0 ∧ nx (x3 + (3 : Int32)) < sL) (gd (r1 ≠ 0) ((f_X10_minute fu S I (r1 - 1) (sx (nx (x3 + (1 : Int32)))) (sx (nx (x3 + (2 : Int32)))) (sx (nx (x3 + (3 : Int32))))).bind fun q121 => (gd (r2 ≠ 0) ((f_X11_minute fu S I (r2 - 1) (sx (nx (x3 + (1 : Int32)))) (sx (nx (x3 + (2 : Int32)))) (sx (nx (x3 + (3 : Int32))))).bind fun q128 => (if q121 = q128 then jn_L_law_1754 fu S I sL sx self18 r1 r2 x3 else some (((0 : Int32), S, I))))))))) else (if ((sx (nx x3)) &&& (63 : Int32)) = (6 : Int32) then gd (¬ (x3 + (1 : Int32)) < 0 ∧ nx (x3 + (1 : Int32)) < sL) (gd (¬ (x3 + (2 : Int32)) < 0 ∧ nx (x3 + (2 : Int32)) < sL) (gd (r1 ≠ 0) ((f_X10_far fu S I (r1 - 1) (sx (nx (x3 + (1 : Int32)))) (sx (nx (x3 + (2 : Int32))))).bind fun q136 => (gd (r2 ≠ 0) ((f_X11_far fu S I (r2 - 1) (sx (nx (x3 + (1 : Int32)))) (sx (nx (x3 + (2 : Int32))))).bind fun q142 => (if q136 = q142 then jn_L_law_1754 fu S I sL sx self18 r1 r2 x3 else some (((0 : Int32), S, I)))))))) else (if ((sx (nx x3)) &&& (63 : Int32)) = (7 : Int32) then gd (¬ (x3 + (1 : Int32)) < 0 ∧ nx (x3 + (1 : Int32)) < sL) (gd (¬ (x3 + (2 : Int32)) < 0 ∧ nx (x3 + (2 : Int32)) < sL) (gd (¬ (x3 + (3 : Int32)) < 0 ∧ nx (x3 + (3 : Int32)) < sL) (gd (¬ (x3 + (4 : Int32)) < 0 ∧ nx (x3 + (4 : Int32)) < sL) (gd (r1 ≠ 0) ((f_X10_text fu S I (r1 - 1) (sx (nx (x3 + (1 : Int32)))) (sx (nx (x3 + (2 : Int32)))) (sx (nx (x3 + (3 : Int32)))) (sx (nx (x3 + (4 : Int32))))).bind fun q152 => (gd (¬ (x3 + (1 : Int32)) < 0 ∧ nx (x3 + (1 : Int32)) < sL) (gd (¬ (x3 + (2 : Int32)) < 0 ∧ nx (x3 + (2 : Int32)) < sL) (gd (¬ (x3 + (3 : Int32)) < 0 ∧ nx (x3 + (3 : Int32)) < sL) (gd (¬ (x3 + (4 : Int32)) < 0 ∧ nx (x3 + (4 : Int32)) < sL) (gd (r2 ≠ 0) ((f_X11_text fu q152.2.1 q152.2.2 (r2 - 1) (sx (nx (x3 + (1 : Int32)))) (sx (nx (x3 + (2 : Int32)))) (sx (nx (x3 + (3 : Int32)))) (sx (nx (x3 + (4 : Int32))))).bind fun q164 => (if q152.1 = q164.1 then jn_L_law_1754 fu q152.2.1 q164.2 sL sx self18 r1 r2 x3 else some (((0 : Int32), q152.2.1, q164.2)))))))))))))) else (if ((sx (nx x3)) &&& (63 : Int32)) = (8 : Int32) then gd (¬ (x3 + (1 : Int32)) < 0 ∧ nx (x3 + (1 : Int32)) < sL) (gd (¬ (x3 + (2 : Int32)) < 0 ∧ nx (x3 + (2 : Int32)) < sL) (gd (r1 ≠ 0) ((f_X10_owed fu S I (r1 - 1) (sx (nx (x3 + (1 : Int32)))) (sx (nx (x3 + (2 : Int32))))).bind fun q172 => (gd (r2 ≠ 0) ((f_X11_owed fu S I (r2 - 1) (sx (nx (x3 + (1 : Int32)))) (sx (nx (x3 + (2 : Int32))))).bind fun q178 => (if q172 = q178 then jn_L_law_1754 fu S I sL sx self18 r1 r2 x3 else some (((0 : Int32), S, I)))))))) else (if ((sx (nx x3)) &&& (63 : Int32)) = (9 : Int32) then gd (¬ (x3 + (1 : Int32)) < 0 ∧ nx (x3 + (1 : Int32)) < sL) (gd (¬ (x3 + (2 : Int32)) < 0 ∧ nx (x3 + (2 : Int32)) < sL) (gd (r1 ≠ 0) ((f_X10_why fu S I (r1 - 1) (sx (nx (x3 + (1 : Int32)))) (sx (nx (x3 + (2 : Int32))))).bind fun q186 => (gd (r2 ≠ 0) ((f_X11_why fu S I (r2 - 1) (sx (nx (x3 + (1 : Int32)))) (sx (nx (x3 + (2 : Int32))))).bind fun q192 => (if q186 = q192 then jn_L_law_1754 fu S I sL sx self18 r1 r2 x3 else some (((0 : Int32), S, I)))))))) else (if ((sx (nx x3)) &&& (63 : Int32)) = (10 : Int32) then gd (¬ (x3 + (1 : Int32)) < 0 ∧ nx (x3 + (1 : Int32)) < sL) (gd (¬ (x3 + (2 : Int32)) < 0 ∧ nx (x3 + (2 : Int32)) < sL) (gd (r1 ≠ 0) ((f_X10_served fu S I (r1 - 1) (sx (nx (x3 + (1 : Int32)))) (sx (nx (x3 + (2 : Int32))))).bind fun q200 => (gd (r2 ≠ 0) ((f_X11_served fu S I (r2 - 1) (sx (nx (x3 + (1 : Int32)))) (sx (nx (x3 + (2 : Int32))))).bind fun q206 => (if q200 = q206 then jn_L_law_1754 fu S I sL sx self18 r1 r2 x3 else some (((0 : Int32), S, I)))))))) else (if ((sx (nx x3)) &&& (63 : Int32)) = (11 : Int32) then gd (¬ (x3 + (1 : Int32)) < 0 ∧ nx (x3 + (1 : Int32)) < sL) (gd (r1 ≠ 0) ((f_X10_breach fu S I (r1 - 1) (sx (nx (x3 + (1 : Int32))))).bind fun q213 => (gd (r2 ≠ 0) ((f_X11_breach fu S I (r2 - 1) (sx (nx (x3 + (1 : Int32))))).bind fun q218 => (if q213 = q218 then jn_L_law_1754 fu S I sL sx self18 r1 r2 x3 else some (((0 : Int32), S, I))))))) else (if ((sx (nx x3)) &&& (63 : Int32)) = (12 : Int32) then gd (¬ (x3 + (1 : Int32)) < 0 ∧ nx (x3 + (1 : Int32)) < sL) (gd (¬ (x3 + (2 : Int32)) < 0 ∧ nx (x3 + (2 : Int32)) < sL) (gd (¬ (x3 + (3 : Int32)) < 0 ∧ nx (x3 + (3 : Int32)) < sL) (gd (¬ (x3 + (4 : Int32)) < 0 ∧ nx (x3 + (4 : Int32)) < sL) (gd (¬ (x3 + (5 : Int32)) < 0 ∧ nx (x3 + (5 : Int32)) < sL) (gd (r1 ≠ 0) ((f_X10_trip fu S I (r1 - 1) (sx (nx (x3 + (1 : Int32)))) (sx (nx (x3 + (2 : Int32)))) (sx (nx (x3 + (3 : Int32)))) (sx (nx (x3 + (4 : Int32)))) (sx (nx (x3 + (5 : Int32))))).bind fun q229 => (gd (¬ (x3 + (1 : Int32)) < 0 ∧ nx (x3 + (1 : Int32)) < sL) (gd (¬ (x3 + (2 : Int32)) < 0 ∧ nx (x3 + (2 : Int32)) < sL) (gd (¬ (x3 + (3 : Int32)) < 0 ∧ nx (x3 + (3 : Int32)) < sL) (gd (¬ (x3 + (4 : Int32)) < 0 ∧ nx (x3 + (4 : Int32)) < sL) (gd (¬ (x3 + (5 : Int32)) < 0 ∧ nx (x3 + (5 : Int32)) < sL) (gd (r2 ≠ 0) ((f_X11_trip fu q229.2.1 q229.2.2 (r2 - 1) (sx (nx (x3 + (1 : Int32)))) (sx (nx (x3 + (2 : Int32)))) (sx (nx (x3 + (3 : Int32)))) (sx (nx (x3 + (4 : Int32)))) (sx (nx (x3 + (5 : Int32))))).bind fun q242 => (if q229.1 = q242.1 then jn_L_law_1754 fu q229.2.1 q242.2 sL sx self18 r1 r2 x3 else some (((0 : Int32), q229.2.1, q242.2)))))))))))))))) else (if ((sx (nx x3)) &&& (63 : Int32)) = (13 : Int32) then gd (¬ (x3 + (1 : Int32)) < 0 ∧ nx (x3 + (1 : Int32)) < sL) (gd (¬ (x3 + (2 : Int32)) < 0 ∧ nx (x3 + (2 : Int32)) < sL) (gd (¬ (x3 + (3 : Int32)) < 0 ∧ nx (x3 + (3 : Int32)) < sL) (gd (r1 ≠ 0) ((f_X10_way fu S I (r1 - 1) (sx (nx (x3 + (1 : Int32)))) (sx (nx (x3 + (2 : Int32)))) (sx (nx (x3 + (3 : Int32))))).bind fun q251 => (gd (r2 ≠ 0) ((f_X11_way fu S q251.2 (r2 - 1) (sx (nx (x3 + (1 : Int32)))) (sx (nx (x3 + (2 : Int32)))) (sx (nx (x3 + (3 : Int32))))).bind fun q258 => (if q251.1 = q258.1 then jn_L_law_1754 fu S q258.2 sL sx self18 r1 r2 x3 else some (((0 : Int32), S, q258.2))))))))) else (if ((sx (nx x3)) &&& (63 : Int32)) = (14 : Int32) then gd (¬ (x3 + (1 : Int32)) < 0 ∧ nx (x3 + (1 : Int32)) < sL) (gd (¬ (x3 + (2 : Int32)) < 0 ∧ nx (x3 + (2 : Int32)) < sL) (gd (¬ (x3 + (3 : Int32)) < 0 ∧ nx (x3 + (3 : Int32)) < sL) (gd (r1 ≠ 0) ((f_X10_lose fu S I (r1 - 1) (sx (nx (x3 + (1 : Int32)))) (sx (nx (x3 + (2 : Int32)))) (sx (nx (x3 + (3 : Int32))))).bind fun q267 => (gd (r2 ≠ 0) ((f_X11_lose fu S q267.2 (r2 - 1) (sx (nx (x3 + (1 : Int32)))) (sx (nx (x3 + (2 : Int32)))) (sx (nx (x3 + (3 : Int32))))).bind fun q274 => (if q267.1 = q274.1 then jn_L_law_1754 fu S q274.2 sL sx self18 r1 r2 x3 else some (((0 : Int32), S, q274.2))))))))) else (if ((sx (nx x3)) &&& (63 : Int32)) = (15 : Int32) then gd (¬ (x3 + (1 : Int32)) < 0 ∧ nx (x3 + (1 : Int32)) < sL) (gd (¬ (x3 + (2 : Int32)) < 0 ∧ nx (x3 + (2 : Int32)) < sL) (gd (¬ (x3 + (3 : Int32)) < 0 ∧ nx (x3 + (3 : Int32)) < sL) (gd (r1 ≠ 0) ((f_X10_who fu S I (r1 - 1) (sx (nx (x3 + (1 : Int32)))) (sx (nx (x3 + (2 : Int32)))) (sx (nx (x3 + (3 : Int32))))).bind fun q283 => (gd (r2 ≠ 0) ((f_X11_who fu S q283.2 (r2 - 1) (sx (nx (x3 + (1 : Int32)))) (sx (nx (x3 + (2 : Int32)))) (sx (nx (x3 + (3 : Int32))))).bind fun q290 => (if q283.1 = q290.1 then jn_L_law_1754 fu S q290.2 sL sx self18 r1 r2 x3 else some (((0 : Int32), S, q290.2))))))))) else (if ((sx (nx x3)) &&& (63 : Int32)) = (16 : Int32) then gd (¬ (x3 + (1 : Int32)) < 0 ∧ nx (x3 + (1 : Int32)) < sL) (gd (r1 ≠ 0) ((f_X10_offer fu S I (r1 - 1) (sx (nx (x3 + (1 : Int32))))).bind fun q297 => (gd (¬ (x3 + (1 : Int32)) < 0 ∧ nx (x3 + (1 : Int32)) < sL) (gd (r2 ≠ 0) ((f_X11_offer fu q297.2.1 q297.2.2 (r2 - 1) (sx (nx (x3 + (1 : Int32))))).bind fun q306 => (if q297.1 = q306.1 then jn_L_law_1754 fu q297.2.1 q306.2 sL sx self18 r1 r2 x3 else some (((0 : Int32), q297.2.1, q306.2)))))))) else (if ((sx (nx x3)) &&& (63 : Int32)) = (17 : Int32) then gd (¬ (x3 + (1 : Int32)) < 0 ∧ nx (x3 + (1 : Int32)) < sL) (gd (¬ (x3 + (2 : Int32)) < 0 ∧ nx (x3 + (2 : Int32)) < sL) (gd (¬ (x3 + (3 : Int32)) < 0 ∧ nx (x3 + (3 : Int32)) < sL) (gd (r1 ≠ 0) ((f_X10_best fu S I (r1 - 1) (sx (nx (x3 + (1 : Int32)))) (sx (nx (x3 + (2 : Int32)))) (sx (nx (x3 + (3 : Int32))))).bind fun q315 => (gd (¬ (x3 + (1 : Int32)) < 0 ∧ nx (x3 + (1 : Int32)) < sL) (gd (¬ (x3 + (2 : Int32)) < 0 ∧ nx (x3 + (2 : Int32)) < sL) (gd (¬ (x3 + (3 : Int32)) < 0 ∧ nx (x3 + (3 : Int32)) < sL) (gd (r2 ≠ 0) ((f_X11_best fu q315.2.1 q315.2.2 (r2 - 1) (sx (nx (x3 + (1 : Int32)))) (sx (nx (x3 + (2 : Int32)))) (sx (nx (x3 + (3 : Int32))))).bind fun q326 => (if q315.1 = q326.1 then jn_L_law_1754 fu q315.2.1 q326.2 sL sx self18 r1 r2 x3 else some (((0 : Int32), q315.2.1, q326.2)))))))))))) else (if ((sx (nx x3)) &&& (63 : Int32)) = (18 : Int32) then gd (¬ (x3 + (1 : Int32)) < 0 ∧ nx (x3 + (1 : Int32)) < sL) (gd (¬ (x3 + (2 : Int32)) < 0 ∧ nx (x3 + (2 : Int32)) < sL) (gd (¬ (x3 + (3 : Int32)) < 0 ∧ nx (x3 + (3 : Int32)) < sL) (gd (r1 ≠ 0) ((f_X10_depot fu S I (r1 - 1) (sx (nx (x3 + (1 : Int32)))) (sx (nx (x3 + (2 : Int32)))) (sx (nx (x3 + (3 : Int32))))).bind fun q335 => (gd (¬ (x3 + (1 : Int32)) < 0 ∧ nx (x3 + (1 : Int32)) < sL) (gd (¬ (x3 + (2 : Int32)) < 0 ∧ nx (x3 + (2 : Int32)) < sL) (gd (¬ (x3 + (3 : Int32)) < 0 ∧ nx (x3 + (3 : Int32)) < sL) (gd (r2 ≠ 0) ((f_X11_depot fu q335.2.1 q335.2.2 (r2 - 1) (sx (nx (x3 + (1 : Int32)))) (sx (nx (x3 + (2 : Int32)))) (sx (nx (x3 + (3 : Int32))))).bind fun q346 => (if q335.1 = q346.1 then jn_L_law_1754 fu q335.2.1 q346.2 sL sx self18 r1 r2 x3 else some (((0 : Int32), q335.2.1, q346.2)))))))))))) else (if ((sx (nx x3)) &&& (63 : Int32)) = (19 : Int32) then gd (¬ (x3 + (1 : Int32)) < 0 ∧ nx (x3 + (1 : Int32)) < sL) (gd (¬ (x3 + (2 : Int32)) < 0 ∧ nx (x3 + (2 : Int32)) < sL) (gd (r1 ≠ 0) ((f_X10_empty fu S I (r1 - 1) (sx (nx (x3 + (1 : Int32)))) (sx (nx (x3 + (2 : Int32))))).bind fun q354 => (gd (r2 ≠ 0) ((f_X11_empty fu S I (r2 - 1) (sx (nx (x3 + (1 : Int32)))) (sx (nx (x3 + (2 : Int32))))).bind fun q360 => (if q354 = q360 then jn_L_law_1754 fu S I sL sx self18 r1 r2 x3 else some (((0 : Int32), S, I)))))))) else (if ((sx (nx x3)) &&& (63 : Int32)) = (20 : Int32) then gd (¬ (x3 + (1 : Int32)) < 0 ∧ nx (x3 + (1 : Int32)) < sL) (gd (¬ (x3 + (2 : Int32)) < 0 ∧ nx (x3 + (2 : Int32)) < sL) (gd (r1 ≠ 0) ((f_X10_fit fu S I (r1 - 1) (sx (nx (x3 + (1 : Int32)))) (sx (nx (x3 + (2 : Int32))))).bind fun q368 => (gd (r2 ≠ 0) ((f_X11_fit fu S q368.2 (r2 - 1) (sx (nx (x3 + (1 : Int32)))) (sx (nx (x3 + (2 : Int32))))).bind fun q374 => (if q368.1 = q374.1 then jn_L_law_1754 fu S q374.2 sL sx self18 r1 r2 x3 else some (((0 : Int32), S, q374.2)))))))) else (if ((sx (nx x3)) &&& (63 : Int32)) = (21 : Int32) then gd (r1 ≠ 0) ((f_X10_driver fu S I (r1 - 1)).bind fun q380 => (gd (r2 ≠ 0) ((f_X11_driver fu S q380.2 (r2 - 1)).bind fun q384 => (if q380.1 = q384.1 then jn_L_law_1754 fu S q384.2 sL sx self18 r1 r2 x3 else some (((0 : Int32), S, q384.2)))))) else (if ((sx (nx x3)) &&& (63 : Int32)) = (22 : Int32) then gd (¬ (x3 + (1 : Int32)) < 0 ∧ nx (x3 + (1 : Int32)) < sL) (gd (¬ (x3 + (2 : Int32)) < 0 ∧ nx (x3 + (2 : Int32)) < sL) (gd (¬ (x3 + (3 : Int32)) < 0 ∧ nx (x3 + (3 : Int32)) < sL) (if (sx (nx (x3 + (3 : Int32)))) = 0 then jn_L_law_1108 fu S I sL sx self18 r1 r2 x3 r1 (sx (nx (x3 + (1 : Int32)))) (sx (nx (x3 + (2 : Int32)))) (0 : Int32) else jn_L_law_1108 fu S I sL sx self18 r1 r2 x3 r1 (sx (nx (x3 + (1 : Int32)))) (sx (nx (x3 + (2 : Int32)))) (1 : Int32)))) else (if ((sx (nx x3)) &&& (63 : Int32)) = (23 : Int32) then gd (¬ (x3 + (1 : Int32)) < 0 ∧ nx (x3 + (1 : Int32)) < sL) (gd (¬ (x3 + (2 : Int32)) < 0 ∧ nx (x3 + (2 : Int32)) < sL) (gd (r1 ≠ 0) ((f_X10_roster fu S I (r1 - 1) (sx (nx (x3 + (1 : Int32)))) (sx (nx (x3 + (2 : Int32))))).bind fun q397 => (gd (r2 ≠ 0) ((f_X11_roster fu S q397.2 (r2 - 1) (sx (nx (x3 + (1 : Int32)))) (sx (nx (x3 + (2 : Int32))))).bind fun q403 => (if q397.1 = q403.1 then jn_L_law_1754 fu S q403.2 sL sx self18 r1 r2 x3 else some (((0 : Int32), S, q403.2)))))))) else (if ((sx (nx x3)) &&& (63 : Int32)) = (24 : Int32) then gd (¬ (x3 + (1 : Int32)) < 0 ∧ nx (x3 + (1 : Int32)) < sL) (gd (¬ (x3 + (2 : Int32)) < 0 ∧ nx (x3 + (2 : Int32)) < sL) (if (sx (nx (x3 + (2 : Int32)))) = 0 then jn_L_law_1195 fu S I sL sx self18 r1 r2 x3 r1 (sx (nx (x3 + (1 : Int32)))) (0 : Int32) else jn_L_law_1195 fu S I sL sx self18 r1 r2 x3 r1 (sx (nx (x3 + (1 : Int32)))) (1 : Int32))) else (if ((sx (nx x3)) &&& (63 : Int32)) = (25 : Int32) then gd (¬ (x3 + (1 : Int32)) < 0 ∧ nx (x3 + (1 : Int32)) < sL) (gd (¬ (x3 + (2 : Int32)) < 0 ∧ nx (x3 + (2 : Int32)) < sL) (gd (¬ (x3 + (3 : Int32)) < 0 ∧ nx (x3 + (3 : Int32)) < sL) (gd (¬ (x3 + (4 : Int32)) < 0 ∧ nx (x3 + (4 : Int32)) < sL) (gd (r1 ≠ 0) ((f_X10_night fu S I (r1 - 1) (sx (nx (x3 + (1 : Int32)))) (sx (nx (x3 + (2 : Int32)))) (sx (nx (x3 + (3 : Int32)))) (sx (nx (x3 + (4 : Int32))))).bind fun q417 => (gd (r2 ≠ 0) ((f_X11_night fu S q417.2 (r2 - 1) (sx (nx (x3 + (1 : Int32)))) (sx (nx (x3 + (2 : Int32)))) (sx (nx (x3 + (3 : Int32)))) (sx (nx (x3 + (4 : Int32))))).bind fun q425 => (if q417.1 = q425.1 then jn_L_law_1754 fu S q425.2 sL sx self18 r1 r2 x3 else some (((0 : Int32), S, q425.2)))))))))) else (if ((sx (nx x3)) &&& (63 : Int32)) = (26 : Int32) then gd (¬ (x3 + (1 : Int32)) < 0 ∧ nx (x3 + (1 : Int32)) < sL) (gd (¬ (x3 + (2 : Int32)) < 0 ∧ nx (x3 + (2 : Int32)) < sL) (gd (¬ (x3 + (3 : Int32)) < 0 ∧ nx (x3 + (3 : Int32)) < sL) (gd (r1 ≠ 0) ((f_X10_waiting fu S I (r1 - 1) (sx (nx (x3 + (1 : Int32)))) (sx (nx (x3 + (2 : Int32)))) (sx (nx (x3 + (3 : Int32))))).bind fun q434 => (gd (r2 ≠ 0) ((f_X11_waiting fu S q434.2 (r2 - 1) (sx (nx (x3 + (1 : Int32)))) (sx (nx (x3 + (2 : Int32)))) (sx (nx (x3 + (3 : Int32))))).bind fun q441 => (if q434.1 = q441.1 then jn_L_law_1754 fu S q441.2 sL sx self18 r1 r2 x3 else some (((0 : Int32), S, q441.2))))))))) else (if ((sx (nx x3)) &&& (63 : Int32)) = (27 : Int32) then gd (¬ (x3 + (1 : Int32)) < 0 ∧ nx (x3 + (1 : Int32)) < sL) (gd (r1 ≠ 0) ((f_X10_seats fu S I (r1 - 1) (sx (nx (x3 + (1 : Int32))))).bind fun q448 => (gd (r2 ≠ 0) ((f_X11_seats fu S q448.2 (r2 - 1) (sx (nx (x3 + (1 : Int32))))).bind fun q453 => (if q448.1 = q453.1 then jn_L_law_1754 fu S q453.2 sL sx self18 r1 r2 x3 else some (((0 : Int32), S, q453.2))))))) else (if ((sx (nx x3)) &&& (63 : Int32)) = (28 : Int32) then gd (¬ (x3 + (1 : Int32)) < 0 ∧ nx (x3 + (1 : Int32)) < sL) (gd (¬ (x3 + (2 : Int32)) < 0 ∧ nx (x3 + (2 : Int32)) < sL) (gd (¬ (x3 + (3 : Int32)) < 0 ∧ nx (x3 + (3 : Int32)) < sL) (gd (r1 ≠ 0) ((f_X10_standing fu S I (r1 - 1) (sx (nx (x3 + (1 : Int32)))) (sx (nx (x3 + (2 : Int32)))) (sx (nx (x3 + (3 : Int32))))).bind fun q462 => (gd (r2 ≠ 0) ((f_X11_standing fu S I (r2 - 1) (sx (nx (x3 + (1 : Int32)))) (sx (nx (x3 + (2 : Int32)))) (sx (nx (x3 + (3 : Int32))))).bind fun q469 => (if q462 = q469 then jn_L_law_1754 fu S I sL sx self18 r1 r2 x3 else some (((0 : Int32), S, I))))))))) else (if ((sx (nx x3)) &&& (63 : Int32)) = (29 : Int32) then gd (¬ (x3 + (1 : Int32)) < 0 ∧ nx (x3 + (1 : Int32)) < sL) (gd (r1 ≠ 0) ((f_X10_extra fu S I (r1 - 1) (sx (nx (x3 + (1 : Int32))))).bind fun q476 => (gd (r2 ≠ 0) ((f_X11_extra fu S I (r2 - 1) (sx (nx (x3 + (1 : Int32))))).bind fun q481 => (if q476 = q481 then jn_L_law_1754 fu S I sL sx self18 r1 r2 x3 else some (((0 : Int32), S, I))))))) else (if ((sx (nx x3)) &&& (63 : Int32)) = (30 : Int32) then gd (¬ (x3 + (1 : Int32)) < 0 ∧ nx (x3 + (1 : Int32)) < sL) (gd (¬ (x3 + (2 : Int32)) < 0 ∧ nx (x3 + (2 : Int32)) < sL) (gd (¬ (x3 + (3 : Int32)) < 0 ∧ nx (x3 + (3 : Int32)) < sL) (gd (r1 ≠ 0) ((f_X10_sheet fu S I (r1 - 1) (sx (nx (x3 + (1 : Int32)))) (sx (nx (x3 + (2 : Int32)))) (sx (nx (x3 + (3 : Int32))))).bind fun q490 => (gd (r2 ≠ 0) ((f_X11_sheet fu S q490.2 (r2 - 1) (sx (nx (x3 + (1 : Int32)))) (sx (nx (x3 + (2 : Int32)))) (sx (nx (x3 + (3 : Int32))))).bind fun q497 => (if q490.1 = q497.1 then jn_L_law_1754 fu S q497.2 sL sx self18 r1 r2 x3 else some (((0 : Int32), S, q497.2))))))))) else (if ((sx (nx x3)) &&& (63 : Int32)) = (31 : Int32) then gd (¬ (x3 + (1 : Int32)) < 0 ∧ nx (x3 + (1 : Int32)) < sL) (gd (r1 ≠ 0) ((f_X10_drop fu S I (r1 - 1) (sx (nx (x3 + (1 : Int32))))).bind fun q504 => (gd (r2 ≠ 0) ((f_X11_drop fu S q504.2 (r2 - 1) (sx (nx (x3 + (1 : Int32))))).bind fun q509 => (if q504.1 = q509.1 then jn_L_law_1754 fu S q509.2 sL sx self18 r1 r2 x3 else some (((0 : Int32), S, q509.2))))))) else (if ((sx (nx x3)) &&& (63 : Int32)) = (32 : Int32) then gd (¬ (x3 + (1 : Int32)) < 0 ∧ nx (x3 + (1 : Int32)) < sL) (gd (¬ (x3 + (2 : Int32)) < 0 ∧ nx (x3 + (2 : Int32)) < sL) (gd (¬ (x3 + (3 : Int32)) < 0 ∧ nx (x3 + (3 : Int32)) < sL) (gd (r1 ≠ 0) ((f_X10_put fu S I (r1 - 1) (sx (nx (x3 + (1 : Int32)))) (sx (nx (x3 + (2 : Int32)))) (sx (nx (x3 + (3 : Int32))))).bind fun q518 => (gd (r2 ≠ 0) ((f_X11_put fu S q518.2 (r2 - 1) (sx (nx (x3 + (1 : Int32)))) (sx (nx (x3 + (2 : Int32)))) (sx (nx (x3 + (3 : Int32))))).bind fun q525 => (if q518.1 = q525.1 then jn_L_law_1754 fu S q525.2 sL sx self18 r1 r2 x3 else some (((0 : Int32), S, q525.2))))))))) else (if ((sx (nx x3)) &&& (63 : Int32)) = (33 : Int32) then gd (¬ (x3 + (1 : Int32)) < 0 ∧ nx (x3 + (1 : Int32)) < sL) (gd (¬ (x3 + (2 : Int32)) < 0 ∧ nx (x3 + (2 : Int32)) < sL) (gd (¬ (x3 + (3 : Int32)) < 0 ∧ nx (x3 + (3 : Int32)) < sL) (gd (r1 ≠ 0) ((f_X10_cell fu S I (r1 - 1) (sx (nx (x3 + (1 : Int32)))) (sx (nx (x3 + (2 : Int32)))) (sx (nx (x3 + (3 : Int32))))).bind fun q534 => (gd (r2 ≠ 0) ((f_X11_cell fu S q534.2 (r2 - 1) (sx (nx (x3 + (1 : Int32)))) (sx (nx (x3 + (2 : Int32)))) (sx (nx (x3 + (3 : Int32))))).bind fun q541 => (if (lg_cmp q534.1 q541.1) = 0 then jn_L_law_1754 fu S q541.2 sL sx self18 r1 r2 x3 else some (((0 : Int32), S, q541.2))))))))) else (if ((sx (nx x3)) &&& (63 : Int32)) = (34 : Int32) then gd (¬ (x3 + (1 : Int32)) < 0 ∧ nx (x3 + (1 : Int32)) < sL) (gd (¬ (x3 + (2 : Int32)) < 0 ∧ nx (x3 + (2 : Int32)) < sL) (gd (¬ (x3 + (3 : Int32)) < 0 ∧ nx (x3 + (3 : Int32)) < sL) (gd (¬ (x3 + (4 : Int32)) < 0 ∧ nx (x3 + (4 : Int32)) < sL) (gd (¬ (x3 + (5 : Int32)) < 0 ∧ nx (x3 + (5 : Int32)) < sL) (gd (r1 ≠ 0) ((f_X10_copy fu S I (r1 - 1) (sx (nx (x3 + (1 : Int32)))) (sx (nx (x3 + (2 : Int32)))) (sx (nx (x3 + (3 : Int32)))) (sx (nx (x3 + (4 : Int32)))) (sx (nx (x3 + (5 : Int32))))).bind fun q552 => (gd (r2 ≠ 0) ((f_X11_copy fu S q552.2 (r2 - 1) (sx (nx (x3 + (1 : Int32)))) (sx (nx (x3 + (2 : Int32)))) (sx (nx (x3 + (3 : Int32)))) (sx (nx (x3 + (4 : Int32)))) (sx (nx (x3 + (5 : Int32))))).bind fun q561 => (if q552.1 = q561.1 then jn_L_law_1754 fu S q561.2 sL sx self18 r1 r2 x3 else some (((0 : Int32), S, q561.2))))))))))) else (if ((sx (nx x3)) &&& (63 : Int32)) = (35 : Int32) then gd (¬ (x3 + (1 : Int32)) < 0 ∧ nx (x3 + (1 : Int32)) < sL) (gd (r1 ≠ 0) ((f_X10_tell fu S I (r1 - 1) (sx (nx (x3 + (1 : Int32))))).bind fun q568 => (gd (r2 ≠ 0) ((f_X11_tell fu S q568.2 (r2 - 1) (sx (nx (x3 + (1 : Int32))))).bind fun q573 => (if q568.1 = q573.1 then jn_L_law_1754 fu S q573.2 sL sx self18 r1 r2 x3 else some (((0 : Int32), S, q573.2))))))) else (if ((sx (nx x3)) &&& (63 : Int32)) = (36 : Int32) then gd (¬ (x3 + (1 : Int32)) < 0 ∧ nx (x3 + (1 : Int32)) < sL) (gd (r1 ≠ 0) ((f_X10_hail fu S I (r1 - 1) (sx (nx (x3 + (1 : Int32))))).bind fun q580 => (gd (r2 ≠ 0) ((f_X11_hail fu S q580.2 (r2 - 1) (sx (nx (x3 + (1 : Int32))))).bind fun q585 => (if q580.1 = q585.1 then jn_L_law_1754 fu S q585.2 sL sx self18 r1 r2 x3 else some (((0 : Int32), S, q585.2))))))) else (if ((sx (nx x3)) &&& (63 : Int32)) = (37 : Int32) then gd (¬ (x3 + (1 : Int32)) < 0 ∧ nx (x3 + (1 : Int32)) < sL) (gd (¬ (x3 + (2 : Int32)) < 0 ∧ nx (x3 + (2 : Int32)) < sL) (gd (r1 ≠ 0) ((f_X10_as fu S I (r1 - 1) (sx (nx (x3 + (1 : Int32)))) (sx (nx (x3 + (2 : Int32))))).bind fun q593 => (gd (r2 ≠ 0) ((f_X11_as fu S q593.2 (r2 - 1) (sx (nx (x3 + (1 : Int32)))) (sx (nx (x3 + (2 : Int32))))).bind fun q599 => (if q593.1 = q599.1 then jn_L_law_1754 fu S q599.2 sL sx self18 r1 r2 x3 else some (((0 : Int32), S, q599.2)))))))) else (if ((sx (nx x3)) &&& (63 : Int32)) = (38 : Int32) then gd (r1 ≠ 0) (gd (r2 ≠ 0) (if (t_X10_trace I (r1 - 1)) = (t_X11_trace I (r2 - 1)) then jn_L_law_1754 fu S I sL sx self18 r1 r2 x3 else some (((0 : Int32), S, I)))) else (if ((sx (nx x3)) &&& (63 : Int32)) = (39 : Int32) then gd (r1 ≠ 0) (gd (r2 ≠ 0) (if (t_X10_fault I (r1 - 1)) = (t_X11_fault I (r2 - 1)) then jn_L_law_1754 fu S I sL sx self18 r1 r2 x3 else some (((0 : Int32), S, I)))) else (if ((sx (nx x3)) &&& (63 : Int32)) = (40 : Int32) then gd (¬ (x3 + (1 : Int32)) < 0 ∧ nx (x3 + (1 : Int32)) < sL) (gd (r1 ≠ 0) ((f_X10_many fu S I (r1 - 1) (sx (nx (x3 + (1 : Int32))))).bind fun q618 => (gd (r2 ≠ 0) ((f_X11_many fu S I (r2 - 1) (sx (nx (x3 + (1 : Int32))))).bind fun q623 => (if q618 = q623 then jn_L_law_1754 fu S I sL sx self18 r1 r2 x3 else some (((0 : Int32), S, I))))))) else jn_L_law_1754 fu S I sL sx self18 r1 r2 x3)))))))))))))))))))))))))))))))))))))))))
def f_L_law (fu : Nat) (S : Sk) (I : II) (sL : Nat) (sx : Nat → Int32) : Option (Int32 × Sk × II) :=
  lt (nwS S 10 0) fun S627 => (lt (nwI S I) fun I628 => ((f_X10_init fu S627 I628 S.2.2.2).bind fun q632 => (lt (nwS q632.1 11 0) fun S638 => (lt (nwI q632.1 q632.2) fun I639 => ((f_X11_init fu S638 I639 q632.1.2.2.2).bind fun q644 => (fix3 (lp_L_law_18 fu sL sx (S.2.2.2 + 1) (q632.1.2.2.2 + 1)) 513 (0 : Int32) q644.1 q644.2))))))
set_option maxRecDepth 100000 in
set_option maxHeartbeats 40000000 in
theorem gg_L_law {E : EV} (fu : Nat) (S0 : Sk) (I0 : II) : GG E i_L_law (enL E) S0 I0 (0, 0) 0 [(0, vS false)] [] (f_L_law fu S0 I0 E.2.2.2.2.2.1.2.1 E.2.2.2.2.2.1.2.2) := by
  have hl18 : ∀ (r1 : Nat) (r2 : Nat) (nn : Nat) (c s : Nat) (hc : c + nn * 19 ≤ 9847) (hs : s + nn * 95 ≤ 61231) (x3 : Int32) (S : Sk) (I : II), tyR S 10 r1 ∧ tyR S 11 r2 ∧ Sx S0 S → GG E i_L_law (enL E) S I (c, s) 18 [(0, vS false), (1, vA r1), (2, vA r2), (3, vI x3)] [] (fix3 (lp_L_law_18 fu E.2.2.2.2.2.1.2.1 E.2.2.2.2.2.1.2.2 r1 r2) nn x3 S I) := by
    intro r1 r2 
    refine g_fix3A (qc := 19) (qs := 95) (CT := 9847) (CS := 61231) (fun x3 S I => S) (fun x3 S I => I) (fun x3 S I => [(0, vS false), (1, vA r1), (2, vA r2), (3, vI x3)]) (fun x3 S I => tyR S 10 r1 ∧ tyR S 11 r2 ∧ Sx S0 S) ?_
    intro nn self18 hself18 c s hc hs x3 S I hinv
    obtain ⟨h_r1, h_r2, hsx⟩ := hinv
    have hj1754 : ∀ (S : Sk) (I : II) (x3 : Int32) (h_r1 : tyR S 10 r1) (h_r2 : tyR S 11 r2) (hsx : Sx S0 S), GG E i_L_law (enL E) S I (c + 19, s + 95) 1754 [(0, vS false), (1, vA r1), (2, vA r2), (3, vI x3)] [] (jn_L_law_1754 fu S I E.2.2.2.2.2.1.2.1 E.2.2.2.2.2.1.2.2 self18 r1 r2 x3) := by
      intro S I x3 h_r1 h_r2 hsx
      unfold jn_L_law_1754
      refine g_iinc (v := (9 : Int32)) (L' := [(0, vS false), (1, vA r1), (2, vA r2), (3, vI (x3 + (9 : Int32)))]) (dk D_L_law 1296 rfl) rfl rfl (Nat.le_of_ble_eq_true rfl) rfl ?_
      refine g_goto (tgt := 18) (dk D_L_law 1297 rfl) rfl ?_
      exact hself18 (c + 19) (s + 95) (by omega) (by omega) (x3 + (9 : Int32)) S I ⟨h_r1, h_r2, hsx⟩
    have hj1135 : ∀ (S : Sk) (I : II) (x3 : Int32) (s0 : Int32) (q1 : Nat) (s2 : Int32) (s3 : Int32) (s4 : Int32) (h_r1 : tyR S 10 r1) (h_r2 : tyR S 11 r2) (h_q1 : tyR S 11 q1) (hsx : Sx S0 S), GG E i_L_law (enL E) S I (c, s) 1135 [(0, vS false), (1, vA r1), (2, vA r2), (3, vI x3)] [vI s4, vI s3, vI s2, vA q1, vI s0] (jn_L_law_1135 fu S I E.2.2.2.2.2.1.2.1 E.2.2.2.2.2.1.2.2 self18 r1 r2 x3 s0 q1 s2 s3 s4) := by
      intro S I x3 s0 q1 s2 s3 s4 h_r1 h_r2 h_q1 hsx
      unfold jn_L_law_1135
      refine g_gd (fun hn1 => ?_)
      refine g_bind (fun q2 hq3 => ?_)
      refine h_callV (st := [vI s0]) (c_X11_know (E := E) fu S I (q1 - 1) s2 s3 s4 q2 hq3 (h_q1.nz hn1)) cl_RL_112 h_q1 hn1 rfl rfl ⟨⟨by decide, by decide⟩, ⟨rfl, rfl⟩, by show c ≤ 600000; omega, by show s ≤ 7302250; omega⟩ (Nat.le_of_ble_eq_true rfl) (dk D_L_law 797 rfl) ?_
      refine g_icmp_eq (tgt := 1754) (dk D_L_law 798 rfl) rfl (fun hc5 => ?_) (fun hc5 => ?_)
      · refine g_wide (cs' := (c + 19, s + 95)) (by show c ≤ c + 19; omega) (by show s ≤ s + 95; omega) ?_
        exact hj1754 S q2.2 x3 h_r1 h_r2 hsx
      · refine g_iconst (v := (0 : Int32)) (dk D_L_law 799 rfl) rfl ?_
        exact g_lawret ⟨rfl, rfl, rfl⟩ (by show c ≤ 600000; omega) (by show s ≤ 7302250; omega) (dk D_L_law 800 rfl)
    have hj1108 : ∀ (S : Sk) (I : II) (x3 : Int32) (q0 : Nat) (s1 : Int32) (s2 : Int32) (s3 : Int32) (h_r1 : tyR S 10 r1) (h_r2 : tyR S 11 r2) (h_q0 : tyR S 10 q0) (hsx : Sx S0 S), GG E i_L_law (enL E) S I (c, s) 1108 [(0, vS false), (1, vA r1), (2, vA r2), (3, vI x3)] [vI s3, vI s2, vI s1, vA q0] (jn_L_law_1108 fu S I E.2.2.2.2.2.1.2.1 E.2.2.2.2.2.1.2.2 self18 r1 r2 x3 q0 s1 s2 s3) := by
      intro S I x3 q0 s1 s2 s3 h_r1 h_r2 h_q0 hsx
      unfold jn_L_law_1108
      refine g_gd (fun hn6 => ?_)
      refine g_bind (fun q7 hq8 => ?_)
      refine h_callV (st := []) (c_X10_know (E := E) fu S I (q0 - 1) s1 s2 s3 q7 hq8 (h_q0.nz hn6)) cl_RL_108 h_q0 hn6 rfl rfl ⟨⟨by decide, by decide⟩, ⟨rfl, rfl⟩, by show c ≤ 600000; omega, by show s ≤ 7302250; omega⟩ (Nat.le_of_ble_eq_true rfl) (dk D_L_law 776 rfl) ?_
      refine g_aload_n (dk D_L_law 777 rfl) rfl ?_
      refine g_aloadS_n (dk D_L_law 778 rfl) rfl ?_
      refine g_iload_n (dk D_L_law 779 rfl) rfl ?_
      refine g_iconst (v := (1 : Int32)) (dk D_L_law 780 rfl) rfl ?_
      refine g_iadd (dk D_L_law 781 rfl) ?_
      refine g_gd (fun hi10 => ?_)
      refine g_scld hi10 (dk D_L_law 782 rfl) ?_
      refine g_aloadS_n (dk D_L_law 783 rfl) rfl ?_
      refine g_iload_n (dk D_L_law 784 rfl) rfl ?_
      refine g_iconst (v := (2 : Int32)) (dk D_L_law 785 rfl) rfl ?_
      refine g_iadd (dk D_L_law 786 rfl) ?_
      refine g_gd (fun hi11 => ?_)
      refine g_scld hi11 (dk D_L_law 787 rfl) ?_
      refine g_aloadS_n (dk D_L_law 788 rfl) rfl ?_
      refine g_iload_n (dk D_L_law 789 rfl) rfl ?_
      refine g_iconst (v := (3 : Int32)) (dk D_L_law 790 rfl) rfl ?_
      refine g_iadd (dk D_L_law 791 rfl) ?_
      refine g_gd (fun hi12 => ?_)
      refine g_scld hi12 (dk D_L_law 792 rfl) ?_
      refine g_if_eq (tgt := 1134) (dk D_L_law 793 rfl) rfl (fun hc13 => ?_) (fun hc13 => ?_)
      · refine g_iconst (v := (0 : Int32)) (dk D_L_law 796 rfl) rfl ?_
        exact hj1135 S q7.2 x3 q7.1 r2 (E.2.2.2.2.2.1.2.2 (nx (x3 + (1 : Int32)))) (E.2.2.2.2.2.1.2.2 (nx (x3 + (2 : Int32)))) (0 : Int32) h_r1 h_r2 h_r2 hsx
      · refine g_iconst (v := (1 : Int32)) (dk D_L_law 794 rfl) rfl ?_
        refine g_goto (tgt := 1135) (dk D_L_law 795 rfl) rfl ?_
        exact hj1135 S q7.2 x3 q7.1 r2 (E.2.2.2.2.2.1.2.2 (nx (x3 + (1 : Int32)))) (E.2.2.2.2.2.1.2.2 (nx (x3 + (2 : Int32)))) (1 : Int32) h_r1 h_r2 h_r2 hsx
    have hj1217 : ∀ (S : Sk) (I : II) (x3 : Int32) (s0 : Int32) (q1 : Nat) (s2 : Int32) (s3 : Int32) (h_r1 : tyR S 10 r1) (h_r2 : tyR S 11 r2) (h_q1 : tyR S 11 q1) (hsx : Sx S0 S), GG E i_L_law (enL E) S I (c, s) 1217 [(0, vS false), (1, vA r1), (2, vA r2), (3, vI x3)] [vI s3, vI s2, vA q1, vI s0] (jn_L_law_1217 fu S I E.2.2.2.2.2.1.2.1 E.2.2.2.2.2.1.2.2 self18 r1 r2 x3 s0 q1 s2 s3) := by
      intro S I x3 s0 q1 s2 s3 h_r1 h_r2 h_q1 hsx
      unfold jn_L_law_1217
      refine g_gd (fun hn14 => ?_)
      refine g_bind (fun q15 hq16 => ?_)
      refine h_callV (st := [vI s0]) (c_X11_board (E := E) fu S I (q1 - 1) s2 s3 q15 hq16 (h_q1.nz hn14)) cl_RL_121 h_q1 hn14 rfl rfl ⟨⟨by decide, by decide⟩, ⟨rfl, rfl⟩, by show c ≤ 600000; omega, by show s ≤ 7302250; omega⟩ (Nat.le_of_ble_eq_true rfl) (dk D_L_law 859 rfl) ?_
      refine g_icmp_eq (tgt := 1754) (dk D_L_law 860 rfl) rfl (fun hc18 => ?_) (fun hc18 => ?_)
      · refine g_wide (cs' := (c + 19, s + 95)) (by show c ≤ c + 19; omega) (by show s ≤ s + 95; omega) ?_
        exact hj1754 S q15.2 x3 h_r1 h_r2 hsx
      · refine g_iconst (v := (0 : Int32)) (dk D_L_law 861 rfl) rfl ?_
        exact g_lawret ⟨rfl, rfl, rfl⟩ (by show c ≤ 600000; omega) (by show s ≤ 7302250; omega) (dk D_L_law 862 rfl)
    have hj1195 : ∀ (S : Sk) (I : II) (x3 : Int32) (q0 : Nat) (s1 : Int32) (s2 : Int32) (h_r1 : tyR S 10 r1) (h_r2 : tyR S 11 r2) (h_q0 : tyR S 10 q0) (hsx : Sx S0 S), GG E i_L_law (enL E) S I (c, s) 1195 [(0, vS false), (1, vA r1), (2, vA r2), (3, vI x3)] [vI s2, vI s1, vA q0] (jn_L_law_1195 fu S I E.2.2.2.2.2.1.2.1 E.2.2.2.2.2.1.2.2 self18 r1 r2 x3 q0 s1 s2) := by
      intro S I x3 q0 s1 s2 h_r1 h_r2 h_q0 hsx
      unfold jn_L_law_1195
      refine g_gd (fun hn19 => ?_)
      refine g_bind (fun q20 hq21 => ?_)
      refine h_callV (st := []) (c_X10_board (E := E) fu S I (q0 - 1) s1 s2 q20 hq21 (h_q0.nz hn19)) cl_RL_117 h_q0 hn19 rfl rfl ⟨⟨by decide, by decide⟩, ⟨rfl, rfl⟩, by show c ≤ 600000; omega, by show s ≤ 7302250; omega⟩ (Nat.le_of_ble_eq_true rfl) (dk D_L_law 843 rfl) ?_
      refine g_aload_n (dk D_L_law 844 rfl) rfl ?_
      refine g_aloadS_n (dk D_L_law 845 rfl) rfl ?_
      refine g_iload_n (dk D_L_law 846 rfl) rfl ?_
      refine g_iconst (v := (1 : Int32)) (dk D_L_law 847 rfl) rfl ?_
      refine g_iadd (dk D_L_law 848 rfl) ?_
      refine g_gd (fun hi23 => ?_)
      refine g_scld hi23 (dk D_L_law 849 rfl) ?_
      refine g_aloadS_n (dk D_L_law 850 rfl) rfl ?_
      refine g_iload_n (dk D_L_law 851 rfl) rfl ?_
      refine g_iconst (v := (2 : Int32)) (dk D_L_law 852 rfl) rfl ?_
      refine g_iadd (dk D_L_law 853 rfl) ?_
      refine g_gd (fun hi24 => ?_)
      refine g_scld hi24 (dk D_L_law 854 rfl) ?_
      refine g_if_eq (tgt := 1216) (dk D_L_law 855 rfl) rfl (fun hc25 => ?_) (fun hc25 => ?_)
      · refine g_iconst (v := (0 : Int32)) (dk D_L_law 858 rfl) rfl ?_
        exact hj1217 S q20.2 x3 q20.1 r2 (E.2.2.2.2.2.1.2.2 (nx (x3 + (1 : Int32)))) (0 : Int32) h_r1 h_r2 h_r2 hsx
      · refine g_iconst (v := (1 : Int32)) (dk D_L_law 856 rfl) rfl ?_
        refine g_goto (tgt := 1217) (dk D_L_law 857 rfl) rfl ?_
        exact hj1217 S q20.2 x3 q20.1 r2 (E.2.2.2.2.2.1.2.2 (nx (x3 + (1 : Int32)))) (1 : Int32) h_r1 h_r2 h_r2 hsx
    unfold lp_L_law_18
    refine g_iload_n (dk D_L_law 10 rfl) rfl ?_
    refine g_aloadS_n (dk D_L_law 11 rfl) rfl ?_
    refine g_sclen (dk D_L_law 12 rfl) ?_
    refine g_bipush (v := (9 : Int32)) (dk D_L_law 13 rfl) rfl ?_
    refine g_isub (dk D_L_law 14 rfl) ?_
    refine g_icmp_gt (tgt := 1760) (dk D_L_law 15 rfl) rfl (fun hc26 => ?_) (fun hc26 => ?_)
    · refine g_iconst (v := (1 : Int32)) (dk D_L_law 1298 rfl) rfl ?_
      exact g_lawret ⟨rfl, rfl, rfl⟩ (by show c ≤ 600000; omega) (by show s ≤ 7302250; omega) (dk D_L_law 1299 rfl)
    · refine g_aloadS_n (dk D_L_law 16 rfl) rfl ?_
      refine g_iload_n (dk D_L_law 17 rfl) rfl ?_
      refine g_gd (fun hi27 => ?_)
      refine g_scld hi27 (dk D_L_law 18 rfl) ?_
      refine g_bipush (v := (63 : Int32)) (dk D_L_law 19 rfl) rfl ?_
      refine g_iand (dk D_L_law 20 rfl) ?_
      refine g_ite (fun hc28 => ?_) (fun hc28 => ?_)
      · refine g_tabIn (tgt := 212) (off := 179) (dk D_L_law 21 rfl) (by rw [hc28] <;> decide +kernel) (by rw [hc28] <;> decide +kernel) (by rw [hc28] <;> decide +kernel) rfl ?_
        refine g_aload_n (dk D_L_law 22 rfl) rfl ?_
        refine g_aloadS_n (dk D_L_law 23 rfl) rfl ?_
        refine g_iload_n (dk D_L_law 24 rfl) rfl ?_
        refine g_iconst (v := (1 : Int32)) (dk D_L_law 25 rfl) rfl ?_
        refine g_iadd (dk D_L_law 26 rfl) ?_
        refine g_gd (fun hi29 => ?_)
        refine g_scld hi29 (dk D_L_law 27 rfl) ?_
        refine g_aloadS_n (dk D_L_law 28 rfl) rfl ?_
        refine g_iload_n (dk D_L_law 29 rfl) rfl ?_
        refine g_iconst (v := (2 : Int32)) (dk D_L_law 30 rfl) rfl ?_
        refine g_iadd (dk D_L_law 31 rfl) ?_
        refine g_gd (fun hi30 => ?_)
        refine g_scld hi30 (dk D_L_law 32 rfl) ?_
        refine g_gd (fun hn31 => ?_)
        refine g_bind (fun q32 hq33 => ?_)
        refine h_callV (st := []) (c_X10_stop (E := E) fu S I (r1 - 1) (E.2.2.2.2.2.1.2.2 (nx (x3 + (1 : Int32)))) (E.2.2.2.2.2.1.2.2 (nx (x3 + (2 : Int32)))) q32 hq33 (h_r1.nz hn31)) cl_RL_13 h_r1 hn31 rfl rfl ⟨⟨by decide, by decide⟩, ⟨rfl, rfl⟩, by show c ≤ 600000; omega, by show s ≤ 7302250; omega⟩ (Nat.le_of_ble_eq_true rfl) (dk D_L_law 33 rfl) ?_
        refine g_aload_n (dk D_L_law 34 rfl) rfl ?_
        refine g_aloadS_n (dk D_L_law 35 rfl) rfl ?_
        refine g_iload_n (dk D_L_law 36 rfl) rfl ?_
        refine g_iconst (v := (1 : Int32)) (dk D_L_law 37 rfl) rfl ?_
        refine g_iadd (dk D_L_law 38 rfl) ?_
        refine g_scld hi29 (dk D_L_law 39 rfl) ?_
        refine g_aloadS_n (dk D_L_law 40 rfl) rfl ?_
        refine g_iload_n (dk D_L_law 41 rfl) rfl ?_
        refine g_iconst (v := (2 : Int32)) (dk D_L_law 42 rfl) rfl ?_
        refine g_iadd (dk D_L_law 43 rfl) ?_
        refine g_scld hi30 (dk D_L_law 44 rfl) ?_
        refine g_gd (fun hn37 => ?_)
        refine g_bind (fun q38 hq39 => ?_)
        refine h_callV (st := [vI q32.1]) (c_X11_stop (E := E) fu S q32.2 (r2 - 1) (E.2.2.2.2.2.1.2.2 (nx (x3 + (1 : Int32)))) (E.2.2.2.2.2.1.2.2 (nx (x3 + (2 : Int32)))) q38 hq39 (h_r2.nz hn37)) cl_RL_17 h_r2 hn37 rfl rfl ⟨⟨by decide, by decide⟩, ⟨rfl, rfl⟩, by show c ≤ 600000; omega, by show s ≤ 7302250; omega⟩ (Nat.le_of_ble_eq_true rfl) (dk D_L_law 45 rfl) ?_
        refine g_icmp_eq (tgt := 1754) (dk D_L_law 46 rfl) rfl (fun hc41 => ?_) (fun hc41 => ?_)
        · refine g_wide (cs' := (c + 19, s + 95)) (by show c ≤ c + 19; omega) (by show s ≤ s + 95; omega) ?_
          exact hj1754 S q38.2 x3 h_r1 h_r2 hsx
        · refine g_iconst (v := (0 : Int32)) (dk D_L_law 47 rfl) rfl ?_
          exact g_lawret ⟨rfl, rfl, rfl⟩ (by show c ≤ 600000; omega) (by show s ≤ 7302250; omega) (dk D_L_law 48 rfl)
      refine g_ite (fun hc42 => ?_) (fun hc42 => ?_)
      · refine g_tabIn (tgt := 245) (off := 212) (dk D_L_law 21 rfl) (by rw [hc42] <;> decide +kernel) (by rw [hc42] <;> decide +kernel) (by rw [hc42] <;> decide +kernel) rfl ?_
        refine g_aload_n (dk D_L_law 49 rfl) rfl ?_
        refine g_aloadS_n (dk D_L_law 50 rfl) rfl ?_
        refine g_iload_n (dk D_L_law 51 rfl) rfl ?_
        refine g_iconst (v := (1 : Int32)) (dk D_L_law 52 rfl) rfl ?_
        refine g_iadd (dk D_L_law 53 rfl) ?_
        refine g_gd (fun hi43 => ?_)
        refine g_scld hi43 (dk D_L_law 54 rfl) ?_
        refine g_aloadS_n (dk D_L_law 55 rfl) rfl ?_
        refine g_iload_n (dk D_L_law 56 rfl) rfl ?_
        refine g_iconst (v := (2 : Int32)) (dk D_L_law 57 rfl) rfl ?_
        refine g_iadd (dk D_L_law 58 rfl) ?_
        refine g_gd (fun hi44 => ?_)
        refine g_scld hi44 (dk D_L_law 59 rfl) ?_
        refine g_aloadS_n (dk D_L_law 60 rfl) rfl ?_
        refine g_iload_n (dk D_L_law 61 rfl) rfl ?_
        refine g_iconst (v := (3 : Int32)) (dk D_L_law 62 rfl) rfl ?_
        refine g_iadd (dk D_L_law 63 rfl) ?_
        refine g_gd (fun hi45 => ?_)
        refine g_scld hi45 (dk D_L_law 64 rfl) ?_
        refine g_aloadS_n (dk D_L_law 65 rfl) rfl ?_
        refine g_iload_n (dk D_L_law 66 rfl) rfl ?_
        refine g_iconst (v := (4 : Int32)) (dk D_L_law 67 rfl) rfl ?_
        refine g_iadd (dk D_L_law 68 rfl) ?_
        refine g_gd (fun hi46 => ?_)
        refine g_scld hi46 (dk D_L_law 69 rfl) ?_
        refine g_aloadS_n (dk D_L_law 70 rfl) rfl ?_
        refine g_iload_n (dk D_L_law 71 rfl) rfl ?_
        refine g_iconst (v := (5 : Int32)) (dk D_L_law 72 rfl) rfl ?_
        refine g_iadd (dk D_L_law 73 rfl) ?_
        refine g_gd (fun hi47 => ?_)
        refine g_scld hi47 (dk D_L_law 74 rfl) ?_
        refine g_aloadS_n (dk D_L_law 75 rfl) rfl ?_
        refine g_iload_n (dk D_L_law 76 rfl) rfl ?_
        refine g_bipush (v := (6 : Int32)) (dk D_L_law 77 rfl) rfl ?_
        refine g_iadd (dk D_L_law 78 rfl) ?_
        refine g_gd (fun hi48 => ?_)
        refine g_scld hi48 (dk D_L_law 79 rfl) ?_
        refine g_aloadS_n (dk D_L_law 80 rfl) rfl ?_
        refine g_iload_n (dk D_L_law 81 rfl) rfl ?_
        refine g_bipush (v := (7 : Int32)) (dk D_L_law 82 rfl) rfl ?_
        refine g_iadd (dk D_L_law 83 rfl) ?_
        refine g_gd (fun hi49 => ?_)
        refine g_scld hi49 (dk D_L_law 84 rfl) ?_
        refine g_aloadS_n (dk D_L_law 85 rfl) rfl ?_
        refine g_iload_n (dk D_L_law 86 rfl) rfl ?_
        refine g_bipush (v := (8 : Int32)) (dk D_L_law 87 rfl) rfl ?_
        refine g_iadd (dk D_L_law 88 rfl) ?_
        refine g_gd (fun hi50 => ?_)
        refine g_scld hi50 (dk D_L_law 89 rfl) ?_
        refine g_gd (fun hn51 => ?_)
        refine g_bind (fun q52 hq53 => ?_)
        refine g_callV' (st := []) (c_X10_line (E := E) fu S I (r1 - 1) (E.2.2.2.2.2.1.2.2 (nx (x3 + (1 : Int32)))) (E.2.2.2.2.2.1.2.2 (nx (x3 + (2 : Int32)))) (E.2.2.2.2.2.1.2.2 (nx (x3 + (3 : Int32)))) (E.2.2.2.2.2.1.2.2 (nx (x3 + (4 : Int32)))) (E.2.2.2.2.2.1.2.2 (nx (x3 + (5 : Int32)))) (E.2.2.2.2.2.1.2.2 (nx (x3 + (6 : Int32)))) (E.2.2.2.2.2.1.2.2 (nx (x3 + (7 : Int32)))) (E.2.2.2.2.2.1.2.2 (nx (x3 + (8 : Int32)))) q52 hq53 (h_r1.nz hn51)) cl_RL_18.1 cl_RL_18.2.1 cl_RL_18.2.2.1 cl_RL_18.2.2.2 h_r1 hn51 rfl rfl ⟨⟨by decide, by decide⟩, by show c + 5 ≤ 600000; omega, by show s + 95 ≤ 7302250; omega⟩ (Nat.le_of_ble_eq_true rfl) (dk D_L_law 90 rfl) (fun hx55 ht54 => ?_)
        refine g_wide (cs' := (c + 5, s + 95)) (by show c + 5 ≤ c + 5; omega) (by show s + 95 ≤ s + 95; omega) ?_
        have ht56 := h_r1.x hx55
        have ht57 := h_r2.x hx55
        have hsx58 := Sx.tr hsx hx55
        refine g_aload_n (dk D_L_law 91 rfl) rfl ?_
        refine g_aloadS_n (dk D_L_law 92 rfl) rfl ?_
        refine g_iload_n (dk D_L_law 93 rfl) rfl ?_
        refine g_iconst (v := (1 : Int32)) (dk D_L_law 94 rfl) rfl ?_
        refine g_iadd (dk D_L_law 95 rfl) ?_
        refine g_gd (fun hi59 => ?_)
        refine g_scld hi59 (dk D_L_law 96 rfl) ?_
        refine g_aloadS_n (dk D_L_law 97 rfl) rfl ?_
        refine g_iload_n (dk D_L_law 98 rfl) rfl ?_
        refine g_iconst (v := (2 : Int32)) (dk D_L_law 99 rfl) rfl ?_
        refine g_iadd (dk D_L_law 100 rfl) ?_
        refine g_gd (fun hi60 => ?_)
        refine g_scld hi60 (dk D_L_law 101 rfl) ?_
        refine g_aloadS_n (dk D_L_law 102 rfl) rfl ?_
        refine g_iload_n (dk D_L_law 103 rfl) rfl ?_
        refine g_iconst (v := (3 : Int32)) (dk D_L_law 104 rfl) rfl ?_
        refine g_iadd (dk D_L_law 105 rfl) ?_
        refine g_gd (fun hi61 => ?_)
        refine g_scld hi61 (dk D_L_law 106 rfl) ?_
        refine g_aloadS_n (dk D_L_law 107 rfl) rfl ?_
        refine g_iload_n (dk D_L_law 108 rfl) rfl ?_
        refine g_iconst (v := (4 : Int32)) (dk D_L_law 109 rfl) rfl ?_
        refine g_iadd (dk D_L_law 110 rfl) ?_
        refine g_gd (fun hi62 => ?_)
        refine g_scld hi62 (dk D_L_law 111 rfl) ?_
        refine g_aloadS_n (dk D_L_law 112 rfl) rfl ?_
        refine g_iload_n (dk D_L_law 113 rfl) rfl ?_
        refine g_iconst (v := (5 : Int32)) (dk D_L_law 114 rfl) rfl ?_
        refine g_iadd (dk D_L_law 115 rfl) ?_
        refine g_gd (fun hi63 => ?_)
        refine g_scld hi63 (dk D_L_law 116 rfl) ?_
        refine g_aloadS_n (dk D_L_law 117 rfl) rfl ?_
        refine g_iload_n (dk D_L_law 118 rfl) rfl ?_
        refine g_bipush (v := (6 : Int32)) (dk D_L_law 119 rfl) rfl ?_
        refine g_iadd (dk D_L_law 120 rfl) ?_
        refine g_gd (fun hi64 => ?_)
        refine g_scld hi64 (dk D_L_law 121 rfl) ?_
        refine g_aloadS_n (dk D_L_law 122 rfl) rfl ?_
        refine g_iload_n (dk D_L_law 123 rfl) rfl ?_
        refine g_bipush (v := (7 : Int32)) (dk D_L_law 124 rfl) rfl ?_
        refine g_iadd (dk D_L_law 125 rfl) ?_
        refine g_gd (fun hi65 => ?_)
        refine g_scld hi65 (dk D_L_law 126 rfl) ?_
        refine g_aloadS_n (dk D_L_law 127 rfl) rfl ?_
        refine g_iload_n (dk D_L_law 128 rfl) rfl ?_
        refine g_bipush (v := (8 : Int32)) (dk D_L_law 129 rfl) rfl ?_
        refine g_iadd (dk D_L_law 130 rfl) ?_
        refine g_gd (fun hi66 => ?_)
        refine g_scld hi66 (dk D_L_law 131 rfl) ?_
        refine g_gd (fun hn67 => ?_)
        refine g_bind (fun q68 hq69 => ?_)
        refine h_callV (st := [vI q52.1]) (c_X11_line (E := E) fu q52.2.1 q52.2.2 (r2 - 1) (E.2.2.2.2.2.1.2.2 (nx (x3 + (1 : Int32)))) (E.2.2.2.2.2.1.2.2 (nx (x3 + (2 : Int32)))) (E.2.2.2.2.2.1.2.2 (nx (x3 + (3 : Int32)))) (E.2.2.2.2.2.1.2.2 (nx (x3 + (4 : Int32)))) (E.2.2.2.2.2.1.2.2 (nx (x3 + (5 : Int32)))) (E.2.2.2.2.2.1.2.2 (nx (x3 + (6 : Int32)))) (E.2.2.2.2.2.1.2.2 (nx (x3 + (7 : Int32)))) (E.2.2.2.2.2.1.2.2 (nx (x3 + (8 : Int32)))) q68 hq69 (ht57.nz hn67)) cl_RL_22 ht57 hn67 rfl rfl ⟨⟨by decide, by decide⟩, ⟨rfl, rfl⟩, by show c + 5 ≤ 600000; omega, by show s + 95 ≤ 7302250; omega⟩ (Nat.le_of_ble_eq_true rfl) (dk D_L_law 132 rfl) ?_
        refine g_icmp_eq (tgt := 1754) (dk D_L_law 133 rfl) rfl (fun hc71 => ?_) (fun hc71 => ?_)
        · refine g_wide (cs' := (c + 19, s + 95)) (by show c + 5 ≤ c + 19; omega) (by show s + 95 ≤ s + 95; omega) ?_
          exact hj1754 q52.2.1 q68.2 x3 ht56 ht57 hsx58
        · refine g_iconst (v := (0 : Int32)) (dk D_L_law 134 rfl) rfl ?_
          exact g_lawret ⟨rfl, rfl, rfl⟩ (by show c + 5 ≤ 600000; omega) (by show s + 95 ≤ 7302250; omega) (dk D_L_law 135 rfl)
      refine g_ite (fun hc72 => ?_) (fun hc72 => ?_)
      · refine g_tabIn (tgt := 344) (off := 311) (dk D_L_law 21 rfl) (by rw [hc72] <;> decide +kernel) (by rw [hc72] <;> decide +kernel) (by rw [hc72] <;> decide +kernel) rfl ?_
        refine g_aload_n (dk D_L_law 136 rfl) rfl ?_
        refine g_aloadS_n (dk D_L_law 137 rfl) rfl ?_
        refine g_iload_n (dk D_L_law 138 rfl) rfl ?_
        refine g_iconst (v := (1 : Int32)) (dk D_L_law 139 rfl) rfl ?_
        refine g_iadd (dk D_L_law 140 rfl) ?_
        refine g_gd (fun hi73 => ?_)
        refine g_scld hi73 (dk D_L_law 141 rfl) ?_
        refine g_aloadS_n (dk D_L_law 142 rfl) rfl ?_
        refine g_iload_n (dk D_L_law 143 rfl) rfl ?_
        refine g_iconst (v := (2 : Int32)) (dk D_L_law 144 rfl) rfl ?_
        refine g_iadd (dk D_L_law 145 rfl) ?_
        refine g_gd (fun hi74 => ?_)
        refine g_scld hi74 (dk D_L_law 146 rfl) ?_
        refine g_aloadS_n (dk D_L_law 147 rfl) rfl ?_
        refine g_iload_n (dk D_L_law 148 rfl) rfl ?_
        refine g_iconst (v := (3 : Int32)) (dk D_L_law 149 rfl) rfl ?_
        refine g_iadd (dk D_L_law 150 rfl) ?_
        refine g_gd (fun hi75 => ?_)
        refine g_scld hi75 (dk D_L_law 151 rfl) ?_
        refine g_gd (fun hn76 => ?_)
        refine g_bind (fun q77 hq78 => ?_)
        refine h_callV (st := []) (c_X10_days (E := E) fu S I (r1 - 1) (E.2.2.2.2.2.1.2.2 (nx (x3 + (1 : Int32)))) (E.2.2.2.2.2.1.2.2 (nx (x3 + (2 : Int32)))) (E.2.2.2.2.2.1.2.2 (nx (x3 + (3 : Int32)))) q77 hq78 (h_r1.nz hn76)) cl_RL_23 h_r1 hn76 rfl rfl ⟨⟨by decide, by decide⟩, ⟨rfl, rfl⟩, by show c ≤ 600000; omega, by show s ≤ 7302250; omega⟩ (Nat.le_of_ble_eq_true rfl) (dk D_L_law 152 rfl) ?_
        refine g_aload_n (dk D_L_law 153 rfl) rfl ?_
        refine g_aloadS_n (dk D_L_law 154 rfl) rfl ?_
        refine g_iload_n (dk D_L_law 155 rfl) rfl ?_
        refine g_iconst (v := (1 : Int32)) (dk D_L_law 156 rfl) rfl ?_
        refine g_iadd (dk D_L_law 157 rfl) ?_
        refine g_scld hi73 (dk D_L_law 158 rfl) ?_
        refine g_aloadS_n (dk D_L_law 159 rfl) rfl ?_
        refine g_iload_n (dk D_L_law 160 rfl) rfl ?_
        refine g_iconst (v := (2 : Int32)) (dk D_L_law 161 rfl) rfl ?_
        refine g_iadd (dk D_L_law 162 rfl) ?_
        refine g_scld hi74 (dk D_L_law 163 rfl) ?_
        refine g_aloadS_n (dk D_L_law 164 rfl) rfl ?_
        refine g_iload_n (dk D_L_law 165 rfl) rfl ?_
        refine g_iconst (v := (3 : Int32)) (dk D_L_law 166 rfl) rfl ?_
        refine g_iadd (dk D_L_law 167 rfl) ?_
        refine g_scld hi75 (dk D_L_law 168 rfl) ?_
        refine g_gd (fun hn83 => ?_)
        refine g_bind (fun q84 hq85 => ?_)
        refine h_callV (st := [vI q77.1]) (c_X11_days (E := E) fu S q77.2 (r2 - 1) (E.2.2.2.2.2.1.2.2 (nx (x3 + (1 : Int32)))) (E.2.2.2.2.2.1.2.2 (nx (x3 + (2 : Int32)))) (E.2.2.2.2.2.1.2.2 (nx (x3 + (3 : Int32)))) q84 hq85 (h_r2.nz hn83)) cl_RL_27 h_r2 hn83 rfl rfl ⟨⟨by decide, by decide⟩, ⟨rfl, rfl⟩, by show c ≤ 600000; omega, by show s ≤ 7302250; omega⟩ (Nat.le_of_ble_eq_true rfl) (dk D_L_law 169 rfl) ?_
        refine g_icmp_eq (tgt := 1754) (dk D_L_law 170 rfl) rfl (fun hc87 => ?_) (fun hc87 => ?_)
        · refine g_wide (cs' := (c + 19, s + 95)) (by show c ≤ c + 19; omega) (by show s ≤ s + 95; omega) ?_
          exact hj1754 S q84.2 x3 h_r1 h_r2 hsx
        · refine g_iconst (v := (0 : Int32)) (dk D_L_law 171 rfl) rfl ?_
          exact g_lawret ⟨rfl, rfl, rfl⟩ (by show c ≤ 600000; omega) (by show s ≤ 7302250; omega) (dk D_L_law 172 rfl)
      refine g_ite (fun hc88 => ?_) (fun hc88 => ?_)
      · refine g_tabIn (tgt := 387) (off := 354) (dk D_L_law 21 rfl) (by rw [hc88] <;> decide +kernel) (by rw [hc88] <;> decide +kernel) (by rw [hc88] <;> decide +kernel) rfl ?_
        refine g_aload_n (dk D_L_law 173 rfl) rfl ?_
        refine g_aloadS_n (dk D_L_law 174 rfl) rfl ?_
        refine g_iload_n (dk D_L_law 175 rfl) rfl ?_
        refine g_iconst (v := (1 : Int32)) (dk D_L_law 176 rfl) rfl ?_
        refine g_iadd (dk D_L_law 177 rfl) ?_
        refine g_gd (fun hi89 => ?_)
        refine g_scld hi89 (dk D_L_law 178 rfl) ?_
        refine g_aloadS_n (dk D_L_law 179 rfl) rfl ?_
        refine g_iload_n (dk D_L_law 180 rfl) rfl ?_
        refine g_iconst (v := (2 : Int32)) (dk D_L_law 181 rfl) rfl ?_
        refine g_iadd (dk D_L_law 182 rfl) ?_
        refine g_gd (fun hi90 => ?_)
        refine g_scld hi90 (dk D_L_law 183 rfl) ?_
        refine g_gd (fun hn91 => ?_)
        refine g_bind (fun q92 hq93 => ?_)
        refine h_callV (st := []) (c_X10_ofLine (E := E) fu S I (r1 - 1) (E.2.2.2.2.2.1.2.2 (nx (x3 + (1 : Int32)))) (E.2.2.2.2.2.1.2.2 (nx (x3 + (2 : Int32)))) q92 hq93 (h_r1.nz hn91)) cl_RL_28 h_r1 hn91 rfl rfl ⟨⟨by decide, by decide⟩, ⟨rfl, rfl⟩, by show c ≤ 600000; omega, by show s ≤ 7302250; omega⟩ (Nat.le_of_ble_eq_true rfl) (dk D_L_law 184 rfl) ?_
        refine g_aload_n (dk D_L_law 185 rfl) rfl ?_
        refine g_aloadS_n (dk D_L_law 186 rfl) rfl ?_
        refine g_iload_n (dk D_L_law 187 rfl) rfl ?_
        refine g_iconst (v := (1 : Int32)) (dk D_L_law 188 rfl) rfl ?_
        refine g_iadd (dk D_L_law 189 rfl) ?_
        refine g_scld hi89 (dk D_L_law 190 rfl) ?_
        refine g_aloadS_n (dk D_L_law 191 rfl) rfl ?_
        refine g_iload_n (dk D_L_law 192 rfl) rfl ?_
        refine g_iconst (v := (2 : Int32)) (dk D_L_law 193 rfl) rfl ?_
        refine g_iadd (dk D_L_law 194 rfl) ?_
        refine g_scld hi90 (dk D_L_law 195 rfl) ?_
        refine g_gd (fun hn97 => ?_)
        refine g_bind (fun q98 hq99 => ?_)
        refine h_callV (st := [vI q92]) (c_X11_ofLine (E := E) fu S I (r2 - 1) (E.2.2.2.2.2.1.2.2 (nx (x3 + (1 : Int32)))) (E.2.2.2.2.2.1.2.2 (nx (x3 + (2 : Int32)))) q98 hq99 (h_r2.nz hn97)) cl_RL_31 h_r2 hn97 rfl rfl ⟨⟨by decide, by decide⟩, ⟨rfl, rfl⟩, by show c ≤ 600000; omega, by show s ≤ 7302250; omega⟩ (Nat.le_of_ble_eq_true rfl) (dk D_L_law 196 rfl) ?_
        refine g_icmp_eq (tgt := 1754) (dk D_L_law 197 rfl) rfl (fun hc101 => ?_) (fun hc101 => ?_)
        · refine g_wide (cs' := (c + 19, s + 95)) (by show c ≤ c + 19; omega) (by show s ≤ s + 95; omega) ?_
          exact hj1754 S I x3 h_r1 h_r2 hsx
        · refine g_iconst (v := (0 : Int32)) (dk D_L_law 198 rfl) rfl ?_
          exact g_lawret ⟨rfl, rfl, rfl⟩ (by show c ≤ 600000; omega) (by show s ≤ 7302250; omega) (dk D_L_law 199 rfl)
      refine g_ite (fun hc102 => ?_) (fun hc102 => ?_)
      · refine g_tabIn (tgt := 420) (off := 387) (dk D_L_law 21 rfl) (by rw [hc102] <;> decide +kernel) (by rw [hc102] <;> decide +kernel) (by rw [hc102] <;> decide +kernel) rfl ?_
        refine g_aload_n (dk D_L_law 200 rfl) rfl ?_
        refine g_aloadS_n (dk D_L_law 201 rfl) rfl ?_
        refine g_iload_n (dk D_L_law 202 rfl) rfl ?_
        refine g_iconst (v := (1 : Int32)) (dk D_L_law 203 rfl) rfl ?_
        refine g_iadd (dk D_L_law 204 rfl) ?_
        refine g_gd (fun hi103 => ?_)
        refine g_scld hi103 (dk D_L_law 205 rfl) ?_
        refine g_aloadS_n (dk D_L_law 206 rfl) rfl ?_
        refine g_iload_n (dk D_L_law 207 rfl) rfl ?_
        refine g_iconst (v := (2 : Int32)) (dk D_L_law 208 rfl) rfl ?_
        refine g_iadd (dk D_L_law 209 rfl) ?_
        refine g_gd (fun hi104 => ?_)
        refine g_scld hi104 (dk D_L_law 210 rfl) ?_
        refine g_gd (fun hn105 => ?_)
        refine g_bind (fun q106 hq107 => ?_)
        refine h_callV (st := []) (c_X10_runs (E := E) fu S I (r1 - 1) (E.2.2.2.2.2.1.2.2 (nx (x3 + (1 : Int32)))) (E.2.2.2.2.2.1.2.2 (nx (x3 + (2 : Int32)))) q106 hq107 (h_r1.nz hn105)) cl_RL_32 h_r1 hn105 rfl rfl ⟨⟨by decide, by decide⟩, ⟨rfl, rfl⟩, by show c ≤ 600000; omega, by show s ≤ 7302250; omega⟩ (Nat.le_of_ble_eq_true rfl) (dk D_L_law 211 rfl) ?_
        refine g_aload_n (dk D_L_law 212 rfl) rfl ?_
        refine g_aloadS_n (dk D_L_law 213 rfl) rfl ?_
        refine g_iload_n (dk D_L_law 214 rfl) rfl ?_
        refine g_iconst (v := (1 : Int32)) (dk D_L_law 215 rfl) rfl ?_
        refine g_iadd (dk D_L_law 216 rfl) ?_
        refine g_scld hi103 (dk D_L_law 217 rfl) ?_
        refine g_aloadS_n (dk D_L_law 218 rfl) rfl ?_
        refine g_iload_n (dk D_L_law 219 rfl) rfl ?_
        refine g_iconst (v := (2 : Int32)) (dk D_L_law 220 rfl) rfl ?_
        refine g_iadd (dk D_L_law 221 rfl) ?_
        refine g_scld hi104 (dk D_L_law 222 rfl) ?_
        refine g_gd (fun hn111 => ?_)
        refine g_bind (fun q112 hq113 => ?_)
        refine h_callV (st := [vI q106]) (c_X11_runs (E := E) fu S I (r2 - 1) (E.2.2.2.2.2.1.2.2 (nx (x3 + (1 : Int32)))) (E.2.2.2.2.2.1.2.2 (nx (x3 + (2 : Int32)))) q112 hq113 (h_r2.nz hn111)) cl_RL_35 h_r2 hn111 rfl rfl ⟨⟨by decide, by decide⟩, ⟨rfl, rfl⟩, by show c ≤ 600000; omega, by show s ≤ 7302250; omega⟩ (Nat.le_of_ble_eq_true rfl) (dk D_L_law 223 rfl) ?_
        refine g_icmp_eq (tgt := 1754) (dk D_L_law 224 rfl) rfl (fun hc115 => ?_) (fun hc115 => ?_)
        · refine g_wide (cs' := (c + 19, s + 95)) (by show c ≤ c + 19; omega) (by show s ≤ s + 95; omega) ?_
          exact hj1754 S I x3 h_r1 h_r2 hsx
        · refine g_iconst (v := (0 : Int32)) (dk D_L_law 225 rfl) rfl ?_
          exact g_lawret ⟨rfl, rfl, rfl⟩ (by show c ≤ 600000; omega) (by show s ≤ 7302250; omega) (dk D_L_law 226 rfl)
      refine g_ite (fun hc116 => ?_) (fun hc116 => ?_)
      · refine g_tabIn (tgt := 453) (off := 420) (dk D_L_law 21 rfl) (by rw [hc116] <;> decide +kernel) (by rw [hc116] <;> decide +kernel) (by rw [hc116] <;> decide +kernel) rfl ?_
        refine g_aload_n (dk D_L_law 227 rfl) rfl ?_
        refine g_aloadS_n (dk D_L_law 228 rfl) rfl ?_
        refine g_iload_n (dk D_L_law 229 rfl) rfl ?_
        refine g_iconst (v := (1 : Int32)) (dk D_L_law 230 rfl) rfl ?_
        refine g_iadd (dk D_L_law 231 rfl) ?_
        refine g_gd (fun hi117 => ?_)
        refine g_scld hi117 (dk D_L_law 232 rfl) ?_
        refine g_aloadS_n (dk D_L_law 233 rfl) rfl ?_
        refine g_iload_n (dk D_L_law 234 rfl) rfl ?_
        refine g_iconst (v := (2 : Int32)) (dk D_L_law 235 rfl) rfl ?_
        refine g_iadd (dk D_L_law 236 rfl) ?_
        refine g_gd (fun hi118 => ?_)
        refine g_scld hi118 (dk D_L_law 237 rfl) ?_
        refine g_aloadS_n (dk D_L_law 238 rfl) rfl ?_
        refine g_iload_n (dk D_L_law 239 rfl) rfl ?_
        refine g_iconst (v := (3 : Int32)) (dk D_L_law 240 rfl) rfl ?_
        refine g_iadd (dk D_L_law 241 rfl) ?_
        refine g_gd (fun hi119 => ?_)
        refine g_scld hi119 (dk D_L_law 242 rfl) ?_
        refine g_gd (fun hn120 => ?_)
        refine g_bind (fun q121 hq122 => ?_)
        refine h_callV (st := []) (c_X10_minute (E := E) fu S I (r1 - 1) (E.2.2.2.2.2.1.2.2 (nx (x3 + (1 : Int32)))) (E.2.2.2.2.2.1.2.2 (nx (x3 + (2 : Int32)))) (E.2.2.2.2.2.1.2.2 (nx (x3 + (3 : Int32)))) q121 hq122 (h_r1.nz hn120)) cl_RL_36 h_r1 hn120 rfl rfl ⟨⟨by decide, by decide⟩, ⟨rfl, rfl⟩, by show c ≤ 600000; omega, by show s ≤ 7302250; omega⟩ (Nat.le_of_ble_eq_true rfl) (dk D_L_law 243 rfl) ?_
        refine g_aload_n (dk D_L_law 244 rfl) rfl ?_
        refine g_aloadS_n (dk D_L_law 245 rfl) rfl ?_
        refine g_iload_n (dk D_L_law 246 rfl) rfl ?_
        refine g_iconst (v := (1 : Int32)) (dk D_L_law 247 rfl) rfl ?_
        refine g_iadd (dk D_L_law 248 rfl) ?_
        refine g_scld hi117 (dk D_L_law 249 rfl) ?_
        refine g_aloadS_n (dk D_L_law 250 rfl) rfl ?_
        refine g_iload_n (dk D_L_law 251 rfl) rfl ?_
        refine g_iconst (v := (2 : Int32)) (dk D_L_law 252 rfl) rfl ?_
        refine g_iadd (dk D_L_law 253 rfl) ?_
        refine g_scld hi118 (dk D_L_law 254 rfl) ?_
        refine g_aloadS_n (dk D_L_law 255 rfl) rfl ?_
        refine g_iload_n (dk D_L_law 256 rfl) rfl ?_
        refine g_iconst (v := (3 : Int32)) (dk D_L_law 257 rfl) rfl ?_
        refine g_iadd (dk D_L_law 258 rfl) ?_
        refine g_scld hi119 (dk D_L_law 259 rfl) ?_
        refine g_gd (fun hn127 => ?_)
        refine g_bind (fun q128 hq129 => ?_)
        refine h_callV (st := [vI q121]) (c_X11_minute (E := E) fu S I (r2 - 1) (E.2.2.2.2.2.1.2.2 (nx (x3 + (1 : Int32)))) (E.2.2.2.2.2.1.2.2 (nx (x3 + (2 : Int32)))) (E.2.2.2.2.2.1.2.2 (nx (x3 + (3 : Int32)))) q128 hq129 (h_r2.nz hn127)) cl_RL_39 h_r2 hn127 rfl rfl ⟨⟨by decide, by decide⟩, ⟨rfl, rfl⟩, by show c ≤ 600000; omega, by show s ≤ 7302250; omega⟩ (Nat.le_of_ble_eq_true rfl) (dk D_L_law 260 rfl) ?_
        refine g_icmp_eq (tgt := 1754) (dk D_L_law 261 rfl) rfl (fun hc131 => ?_) (fun hc131 => ?_)
        · refine g_wide (cs' := (c + 19, s + 95)) (by show c ≤ c + 19; omega) (by show s ≤ s + 95; omega) ?_
          exact hj1754 S I x3 h_r1 h_r2 hsx
        · refine g_iconst (v := (0 : Int32)) (dk D_L_law 262 rfl) rfl ?_
          exact g_lawret ⟨rfl, rfl, rfl⟩ (by show c ≤ 600000; omega) (by show s ≤ 7302250; omega) (dk D_L_law 263 rfl)
      refine g_ite (fun hc132 => ?_) (fun hc132 => ?_)
      · refine g_tabIn (tgt := 496) (off := 463) (dk D_L_law 21 rfl) (by rw [hc132] <;> decide +kernel) (by rw [hc132] <;> decide +kernel) (by rw [hc132] <;> decide +kernel) rfl ?_
        refine g_aload_n (dk D_L_law 264 rfl) rfl ?_
        refine g_aloadS_n (dk D_L_law 265 rfl) rfl ?_
        refine g_iload_n (dk D_L_law 266 rfl) rfl ?_
        refine g_iconst (v := (1 : Int32)) (dk D_L_law 267 rfl) rfl ?_
        refine g_iadd (dk D_L_law 268 rfl) ?_
        refine g_gd (fun hi133 => ?_)
        refine g_scld hi133 (dk D_L_law 269 rfl) ?_
        refine g_aloadS_n (dk D_L_law 270 rfl) rfl ?_
        refine g_iload_n (dk D_L_law 271 rfl) rfl ?_
        refine g_iconst (v := (2 : Int32)) (dk D_L_law 272 rfl) rfl ?_
        refine g_iadd (dk D_L_law 273 rfl) ?_
        refine g_gd (fun hi134 => ?_)
        refine g_scld hi134 (dk D_L_law 274 rfl) ?_
        refine g_gd (fun hn135 => ?_)
        refine g_bind (fun q136 hq137 => ?_)
        refine h_callV (st := []) (c_X10_far (E := E) fu S I (r1 - 1) (E.2.2.2.2.2.1.2.2 (nx (x3 + (1 : Int32)))) (E.2.2.2.2.2.1.2.2 (nx (x3 + (2 : Int32)))) q136 hq137 (h_r1.nz hn135)) cl_RL_40 h_r1 hn135 rfl rfl ⟨⟨by decide, by decide⟩, ⟨rfl, rfl⟩, by show c ≤ 600000; omega, by show s ≤ 7302250; omega⟩ (Nat.le_of_ble_eq_true rfl) (dk D_L_law 275 rfl) ?_
        refine g_aload_n (dk D_L_law 276 rfl) rfl ?_
        refine g_aloadS_n (dk D_L_law 277 rfl) rfl ?_
        refine g_iload_n (dk D_L_law 278 rfl) rfl ?_
        refine g_iconst (v := (1 : Int32)) (dk D_L_law 279 rfl) rfl ?_
        refine g_iadd (dk D_L_law 280 rfl) ?_
        refine g_scld hi133 (dk D_L_law 281 rfl) ?_
        refine g_aloadS_n (dk D_L_law 282 rfl) rfl ?_
        refine g_iload_n (dk D_L_law 283 rfl) rfl ?_
        refine g_iconst (v := (2 : Int32)) (dk D_L_law 284 rfl) rfl ?_
        refine g_iadd (dk D_L_law 285 rfl) ?_
        refine g_scld hi134 (dk D_L_law 286 rfl) ?_
        refine g_gd (fun hn141 => ?_)
        refine g_bind (fun q142 hq143 => ?_)
        refine h_callV (st := [vI q136]) (c_X11_far (E := E) fu S I (r2 - 1) (E.2.2.2.2.2.1.2.2 (nx (x3 + (1 : Int32)))) (E.2.2.2.2.2.1.2.2 (nx (x3 + (2 : Int32)))) q142 hq143 (h_r2.nz hn141)) cl_RL_43 h_r2 hn141 rfl rfl ⟨⟨by decide, by decide⟩, ⟨rfl, rfl⟩, by show c ≤ 600000; omega, by show s ≤ 7302250; omega⟩ (Nat.le_of_ble_eq_true rfl) (dk D_L_law 287 rfl) ?_
        refine g_icmp_eq (tgt := 1754) (dk D_L_law 288 rfl) rfl (fun hc145 => ?_) (fun hc145 => ?_)
        · refine g_wide (cs' := (c + 19, s + 95)) (by show c ≤ c + 19; omega) (by show s ≤ s + 95; omega) ?_
          exact hj1754 S I x3 h_r1 h_r2 hsx
        · refine g_iconst (v := (0 : Int32)) (dk D_L_law 289 rfl) rfl ?_
          exact g_lawret ⟨rfl, rfl, rfl⟩ (by show c ≤ 600000; omega) (by show s ≤ 7302250; omega) (dk D_L_law 290 rfl)
      refine g_ite (fun hc146 => ?_) (fun hc146 => ?_)
      · refine g_tabIn (tgt := 529) (off := 496) (dk D_L_law 21 rfl) (by rw [hc146] <;> decide +kernel) (by rw [hc146] <;> decide +kernel) (by rw [hc146] <;> decide +kernel) rfl ?_
        refine g_aload_n (dk D_L_law 291 rfl) rfl ?_
        refine g_aloadS_n (dk D_L_law 292 rfl) rfl ?_
        refine g_iload_n (dk D_L_law 293 rfl) rfl ?_
        refine g_iconst (v := (1 : Int32)) (dk D_L_law 294 rfl) rfl ?_
        refine g_iadd (dk D_L_law 295 rfl) ?_
        refine g_gd (fun hi147 => ?_)
        refine g_scld hi147 (dk D_L_law 296 rfl) ?_
        refine g_aloadS_n (dk D_L_law 297 rfl) rfl ?_
        refine g_iload_n (dk D_L_law 298 rfl) rfl ?_
        refine g_iconst (v := (2 : Int32)) (dk D_L_law 299 rfl) rfl ?_
        refine g_iadd (dk D_L_law 300 rfl) ?_
        refine g_gd (fun hi148 => ?_)
        refine g_scld hi148 (dk D_L_law 301 rfl) ?_
        refine g_aloadS_n (dk D_L_law 302 rfl) rfl ?_
        refine g_iload_n (dk D_L_law 303 rfl) rfl ?_
        refine g_iconst (v := (3 : Int32)) (dk D_L_law 304 rfl) rfl ?_
        refine g_iadd (dk D_L_law 305 rfl) ?_
        refine g_gd (fun hi149 => ?_)
        refine g_scld hi149 (dk D_L_law 306 rfl) ?_
        refine g_aloadS_n (dk D_L_law 307 rfl) rfl ?_
        refine g_iload_n (dk D_L_law 308 rfl) rfl ?_
        refine g_iconst (v := (4 : Int32)) (dk D_L_law 309 rfl) rfl ?_
        refine g_iadd (dk D_L_law 310 rfl) ?_
        refine g_gd (fun hi150 => ?_)
        refine g_scld hi150 (dk D_L_law 311 rfl) ?_
        refine g_gd (fun hn151 => ?_)
        refine g_bind (fun q152 hq153 => ?_)
        refine g_callV' (st := []) (c_X10_text (E := E) fu S I (r1 - 1) (E.2.2.2.2.2.1.2.2 (nx (x3 + (1 : Int32)))) (E.2.2.2.2.2.1.2.2 (nx (x3 + (2 : Int32)))) (E.2.2.2.2.2.1.2.2 (nx (x3 + (3 : Int32)))) (E.2.2.2.2.2.1.2.2 (nx (x3 + (4 : Int32)))) q152 hq153 (h_r1.nz hn151)) cl_RL_44.1 cl_RL_44.2.1 cl_RL_44.2.2.1 cl_RL_44.2.2.2 h_r1 hn151 rfl rfl ⟨⟨by decide, by decide⟩, by show c + 3 ≤ 600000; omega, by show s + 65 ≤ 7302250; omega⟩ (Nat.le_of_ble_eq_true rfl) (dk D_L_law 312 rfl) (fun hx155 ht154 => ?_)
        refine g_wide (cs' := (c + 3, s + 65)) (by show c + 3 ≤ c + 3; omega) (by show s + 65 ≤ s + 65; omega) ?_
        have ht156 := h_r1.x hx155
        have ht157 := h_r2.x hx155
        have hsx158 := Sx.tr hsx hx155
        refine g_aload_n (dk D_L_law 313 rfl) rfl ?_
        refine g_aloadS_n (dk D_L_law 314 rfl) rfl ?_
        refine g_iload_n (dk D_L_law 315 rfl) rfl ?_
        refine g_iconst (v := (1 : Int32)) (dk D_L_law 316 rfl) rfl ?_
        refine g_iadd (dk D_L_law 317 rfl) ?_
        refine g_gd (fun hi159 => ?_)
        refine g_scld hi159 (dk D_L_law 318 rfl) ?_
        refine g_aloadS_n (dk D_L_law 319 rfl) rfl ?_
        refine g_iload_n (dk D_L_law 320 rfl) rfl ?_
        refine g_iconst (v := (2 : Int32)) (dk D_L_law 321 rfl) rfl ?_
        refine g_iadd (dk D_L_law 322 rfl) ?_
        refine g_gd (fun hi160 => ?_)
        refine g_scld hi160 (dk D_L_law 323 rfl) ?_
        refine g_aloadS_n (dk D_L_law 324 rfl) rfl ?_
        refine g_iload_n (dk D_L_law 325 rfl) rfl ?_
        refine g_iconst (v := (3 : Int32)) (dk D_L_law 326 rfl) rfl ?_
        refine g_iadd (dk D_L_law 327 rfl) ?_
        refine g_gd (fun hi161 => ?_)
        refine g_scld hi161 (dk D_L_law 328 rfl) ?_
        refine g_aloadS_n (dk D_L_law 329 rfl) rfl ?_
        refine g_iload_n (dk D_L_law 330 rfl) rfl ?_
        refine g_iconst (v := (4 : Int32)) (dk D_L_law 331 rfl) rfl ?_
        refine g_iadd (dk D_L_law 332 rfl) ?_
        refine g_gd (fun hi162 => ?_)
        refine g_scld hi162 (dk D_L_law 333 rfl) ?_
        refine g_gd (fun hn163 => ?_)
        refine g_bind (fun q164 hq165 => ?_)
        refine h_callV (st := [vI q152.1]) (c_X11_text (E := E) fu q152.2.1 q152.2.2 (r2 - 1) (E.2.2.2.2.2.1.2.2 (nx (x3 + (1 : Int32)))) (E.2.2.2.2.2.1.2.2 (nx (x3 + (2 : Int32)))) (E.2.2.2.2.2.1.2.2 (nx (x3 + (3 : Int32)))) (E.2.2.2.2.2.1.2.2 (nx (x3 + (4 : Int32)))) q164 hq165 (ht157.nz hn163)) cl_RL_48 ht157 hn163 rfl rfl ⟨⟨by decide, by decide⟩, ⟨rfl, rfl⟩, by show c + 3 ≤ 600000; omega, by show s + 65 ≤ 7302250; omega⟩ (Nat.le_of_ble_eq_true rfl) (dk D_L_law 334 rfl) ?_
        refine g_icmp_eq (tgt := 1754) (dk D_L_law 335 rfl) rfl (fun hc167 => ?_) (fun hc167 => ?_)
        · refine g_wide (cs' := (c + 19, s + 95)) (by show c + 3 ≤ c + 19; omega) (by show s + 65 ≤ s + 95; omega) ?_
          exact hj1754 q152.2.1 q164.2 x3 ht156 ht157 hsx158
        · refine g_iconst (v := (0 : Int32)) (dk D_L_law 336 rfl) rfl ?_
          exact g_lawret ⟨rfl, rfl, rfl⟩ (by show c + 3 ≤ 600000; omega) (by show s + 65 ≤ 7302250; omega) (dk D_L_law 337 rfl)
      refine g_ite (fun hc168 => ?_) (fun hc168 => ?_)
      · refine g_tabIn (tgt := 582) (off := 549) (dk D_L_law 21 rfl) (by rw [hc168] <;> decide +kernel) (by rw [hc168] <;> decide +kernel) (by rw [hc168] <;> decide +kernel) rfl ?_
        refine g_aload_n (dk D_L_law 338 rfl) rfl ?_
        refine g_aloadS_n (dk D_L_law 339 rfl) rfl ?_
        refine g_iload_n (dk D_L_law 340 rfl) rfl ?_
        refine g_iconst (v := (1 : Int32)) (dk D_L_law 341 rfl) rfl ?_
        refine g_iadd (dk D_L_law 342 rfl) ?_
        refine g_gd (fun hi169 => ?_)
        refine g_scld hi169 (dk D_L_law 343 rfl) ?_
        refine g_aloadS_n (dk D_L_law 344 rfl) rfl ?_
        refine g_iload_n (dk D_L_law 345 rfl) rfl ?_
        refine g_iconst (v := (2 : Int32)) (dk D_L_law 346 rfl) rfl ?_
        refine g_iadd (dk D_L_law 347 rfl) ?_
        refine g_gd (fun hi170 => ?_)
        refine g_scld hi170 (dk D_L_law 348 rfl) ?_
        refine g_gd (fun hn171 => ?_)
        refine g_bind (fun q172 hq173 => ?_)
        refine h_callV (st := []) (c_X10_owed (E := E) fu S I (r1 - 1) (E.2.2.2.2.2.1.2.2 (nx (x3 + (1 : Int32)))) (E.2.2.2.2.2.1.2.2 (nx (x3 + (2 : Int32)))) q172 hq173 (h_r1.nz hn171)) cl_RL_49 h_r1 hn171 rfl rfl ⟨⟨by decide, by decide⟩, ⟨rfl, rfl⟩, by show c ≤ 600000; omega, by show s ≤ 7302250; omega⟩ (Nat.le_of_ble_eq_true rfl) (dk D_L_law 349 rfl) ?_
        refine g_aload_n (dk D_L_law 350 rfl) rfl ?_
        refine g_aloadS_n (dk D_L_law 351 rfl) rfl ?_
        refine g_iload_n (dk D_L_law 352 rfl) rfl ?_
        refine g_iconst (v := (1 : Int32)) (dk D_L_law 353 rfl) rfl ?_
        refine g_iadd (dk D_L_law 354 rfl) ?_
        refine g_scld hi169 (dk D_L_law 355 rfl) ?_
        refine g_aloadS_n (dk D_L_law 356 rfl) rfl ?_
        refine g_iload_n (dk D_L_law 357 rfl) rfl ?_
        refine g_iconst (v := (2 : Int32)) (dk D_L_law 358 rfl) rfl ?_
        refine g_iadd (dk D_L_law 359 rfl) ?_
        refine g_scld hi170 (dk D_L_law 360 rfl) ?_
        refine g_gd (fun hn177 => ?_)
        refine g_bind (fun q178 hq179 => ?_)
        refine h_callV (st := [vI q172]) (c_X11_owed (E := E) fu S I (r2 - 1) (E.2.2.2.2.2.1.2.2 (nx (x3 + (1 : Int32)))) (E.2.2.2.2.2.1.2.2 (nx (x3 + (2 : Int32)))) q178 hq179 (h_r2.nz hn177)) cl_RL_52 h_r2 hn177 rfl rfl ⟨⟨by decide, by decide⟩, ⟨rfl, rfl⟩, by show c ≤ 600000; omega, by show s ≤ 7302250; omega⟩ (Nat.le_of_ble_eq_true rfl) (dk D_L_law 361 rfl) ?_
        refine g_icmp_eq (tgt := 1754) (dk D_L_law 362 rfl) rfl (fun hc181 => ?_) (fun hc181 => ?_)
        · refine g_wide (cs' := (c + 19, s + 95)) (by show c ≤ c + 19; omega) (by show s ≤ s + 95; omega) ?_
          exact hj1754 S I x3 h_r1 h_r2 hsx
        · refine g_iconst (v := (0 : Int32)) (dk D_L_law 363 rfl) rfl ?_
          exact g_lawret ⟨rfl, rfl, rfl⟩ (by show c ≤ 600000; omega) (by show s ≤ 7302250; omega) (dk D_L_law 364 rfl)
      refine g_ite (fun hc182 => ?_) (fun hc182 => ?_)
      · refine g_tabIn (tgt := 615) (off := 582) (dk D_L_law 21 rfl) (by rw [hc182] <;> decide +kernel) (by rw [hc182] <;> decide +kernel) (by rw [hc182] <;> decide +kernel) rfl ?_
        refine g_aload_n (dk D_L_law 365 rfl) rfl ?_
        refine g_aloadS_n (dk D_L_law 366 rfl) rfl ?_
        refine g_iload_n (dk D_L_law 367 rfl) rfl ?_
        refine g_iconst (v := (1 : Int32)) (dk D_L_law 368 rfl) rfl ?_
        refine g_iadd (dk D_L_law 369 rfl) ?_
        refine g_gd (fun hi183 => ?_)
        refine g_scld hi183 (dk D_L_law 370 rfl) ?_
        refine g_aloadS_n (dk D_L_law 371 rfl) rfl ?_
        refine g_iload_n (dk D_L_law 372 rfl) rfl ?_
        refine g_iconst (v := (2 : Int32)) (dk D_L_law 373 rfl) rfl ?_
        refine g_iadd (dk D_L_law 374 rfl) ?_
        refine g_gd (fun hi184 => ?_)
        refine g_scld hi184 (dk D_L_law 375 rfl) ?_
        refine g_gd (fun hn185 => ?_)
        refine g_bind (fun q186 hq187 => ?_)
        refine h_callV (st := []) (c_X10_why (E := E) fu S I (r1 - 1) (E.2.2.2.2.2.1.2.2 (nx (x3 + (1 : Int32)))) (E.2.2.2.2.2.1.2.2 (nx (x3 + (2 : Int32)))) q186 hq187 (h_r1.nz hn185)) cl_RL_53 h_r1 hn185 rfl rfl ⟨⟨by decide, by decide⟩, ⟨rfl, rfl⟩, by show c ≤ 600000; omega, by show s ≤ 7302250; omega⟩ (Nat.le_of_ble_eq_true rfl) (dk D_L_law 376 rfl) ?_
        refine g_aload_n (dk D_L_law 377 rfl) rfl ?_
        refine g_aloadS_n (dk D_L_law 378 rfl) rfl ?_
        refine g_iload_n (dk D_L_law 379 rfl) rfl ?_
        refine g_iconst (v := (1 : Int32)) (dk D_L_law 380 rfl) rfl ?_
        refine g_iadd (dk D_L_law 381 rfl) ?_
        refine g_scld hi183 (dk D_L_law 382 rfl) ?_
        refine g_aloadS_n (dk D_L_law 383 rfl) rfl ?_
        refine g_iload_n (dk D_L_law 384 rfl) rfl ?_
        refine g_iconst (v := (2 : Int32)) (dk D_L_law 385 rfl) rfl ?_
        refine g_iadd (dk D_L_law 386 rfl) ?_
        refine g_scld hi184 (dk D_L_law 387 rfl) ?_
        refine g_gd (fun hn191 => ?_)
        refine g_bind (fun q192 hq193 => ?_)
        refine h_callV (st := [vI q186]) (c_X11_why (E := E) fu S I (r2 - 1) (E.2.2.2.2.2.1.2.2 (nx (x3 + (1 : Int32)))) (E.2.2.2.2.2.1.2.2 (nx (x3 + (2 : Int32)))) q192 hq193 (h_r2.nz hn191)) cl_RL_56 h_r2 hn191 rfl rfl ⟨⟨by decide, by decide⟩, ⟨rfl, rfl⟩, by show c ≤ 600000; omega, by show s ≤ 7302250; omega⟩ (Nat.le_of_ble_eq_true rfl) (dk D_L_law 388 rfl) ?_
        refine g_icmp_eq (tgt := 1754) (dk D_L_law 389 rfl) rfl (fun hc195 => ?_) (fun hc195 => ?_)
        · refine g_wide (cs' := (c + 19, s + 95)) (by show c ≤ c + 19; omega) (by show s ≤ s + 95; omega) ?_
          exact hj1754 S I x3 h_r1 h_r2 hsx
        · refine g_iconst (v := (0 : Int32)) (dk D_L_law 390 rfl) rfl ?_
          exact g_lawret ⟨rfl, rfl, rfl⟩ (by show c ≤ 600000; omega) (by show s ≤ 7302250; omega) (dk D_L_law 391 rfl)
      refine g_ite (fun hc196 => ?_) (fun hc196 => ?_)
      · refine g_tabIn (tgt := 648) (off := 615) (dk D_L_law 21 rfl) (by rw [hc196] <;> decide +kernel) (by rw [hc196] <;> decide +kernel) (by rw [hc196] <;> decide +kernel) rfl ?_
        refine g_aload_n (dk D_L_law 392 rfl) rfl ?_
        refine g_aloadS_n (dk D_L_law 393 rfl) rfl ?_
        refine g_iload_n (dk D_L_law 394 rfl) rfl ?_
        refine g_iconst (v := (1 : Int32)) (dk D_L_law 395 rfl) rfl ?_
        refine g_iadd (dk D_L_law 396 rfl) ?_
        refine g_gd (fun hi197 => ?_)
        refine g_scld hi197 (dk D_L_law 397 rfl) ?_
        refine g_aloadS_n (dk D_L_law 398 rfl) rfl ?_
        refine g_iload_n (dk D_L_law 399 rfl) rfl ?_
        refine g_iconst (v := (2 : Int32)) (dk D_L_law 400 rfl) rfl ?_
        refine g_iadd (dk D_L_law 401 rfl) ?_
        refine g_gd (fun hi198 => ?_)
        refine g_scld hi198 (dk D_L_law 402 rfl) ?_
        refine g_gd (fun hn199 => ?_)
        refine g_bind (fun q200 hq201 => ?_)
        refine h_callV (st := []) (c_X10_served (E := E) fu S I (r1 - 1) (E.2.2.2.2.2.1.2.2 (nx (x3 + (1 : Int32)))) (E.2.2.2.2.2.1.2.2 (nx (x3 + (2 : Int32)))) q200 hq201 (h_r1.nz hn199)) cl_RL_57 h_r1 hn199 rfl rfl ⟨⟨by decide, by decide⟩, ⟨rfl, rfl⟩, by show c ≤ 600000; omega, by show s ≤ 7302250; omega⟩ (Nat.le_of_ble_eq_true rfl) (dk D_L_law 403 rfl) ?_
        refine g_aload_n (dk D_L_law 404 rfl) rfl ?_
        refine g_aloadS_n (dk D_L_law 405 rfl) rfl ?_
        refine g_iload_n (dk D_L_law 406 rfl) rfl ?_
        refine g_iconst (v := (1 : Int32)) (dk D_L_law 407 rfl) rfl ?_
        refine g_iadd (dk D_L_law 408 rfl) ?_
        refine g_scld hi197 (dk D_L_law 409 rfl) ?_
        refine g_aloadS_n (dk D_L_law 410 rfl) rfl ?_
        refine g_iload_n (dk D_L_law 411 rfl) rfl ?_
        refine g_iconst (v := (2 : Int32)) (dk D_L_law 412 rfl) rfl ?_
        refine g_iadd (dk D_L_law 413 rfl) ?_
        refine g_scld hi198 (dk D_L_law 414 rfl) ?_
        refine g_gd (fun hn205 => ?_)
        refine g_bind (fun q206 hq207 => ?_)
        refine h_callV (st := [vI q200]) (c_X11_served (E := E) fu S I (r2 - 1) (E.2.2.2.2.2.1.2.2 (nx (x3 + (1 : Int32)))) (E.2.2.2.2.2.1.2.2 (nx (x3 + (2 : Int32)))) q206 hq207 (h_r2.nz hn205)) cl_RL_60 h_r2 hn205 rfl rfl ⟨⟨by decide, by decide⟩, ⟨rfl, rfl⟩, by show c ≤ 600000; omega, by show s ≤ 7302250; omega⟩ (Nat.le_of_ble_eq_true rfl) (dk D_L_law 415 rfl) ?_
        refine g_icmp_eq (tgt := 1754) (dk D_L_law 416 rfl) rfl (fun hc209 => ?_) (fun hc209 => ?_)
        · refine g_wide (cs' := (c + 19, s + 95)) (by show c ≤ c + 19; omega) (by show s ≤ s + 95; omega) ?_
          exact hj1754 S I x3 h_r1 h_r2 hsx
        · refine g_iconst (v := (0 : Int32)) (dk D_L_law 417 rfl) rfl ?_
          exact g_lawret ⟨rfl, rfl, rfl⟩ (by show c ≤ 600000; omega) (by show s ≤ 7302250; omega) (dk D_L_law 418 rfl)
      refine g_ite (fun hc210 => ?_) (fun hc210 => ?_)
      · refine g_tabIn (tgt := 681) (off := 648) (dk D_L_law 21 rfl) (by rw [hc210] <;> decide +kernel) (by rw [hc210] <;> decide +kernel) (by rw [hc210] <;> decide +kernel) rfl ?_
        refine g_aload_n (dk D_L_law 419 rfl) rfl ?_
        refine g_aloadS_n (dk D_L_law 420 rfl) rfl ?_
        refine g_iload_n (dk D_L_law 421 rfl) rfl ?_
        refine g_iconst (v := (1 : Int32)) (dk D_L_law 422 rfl) rfl ?_
        refine g_iadd (dk D_L_law 423 rfl) ?_
        refine g_gd (fun hi211 => ?_)
        refine g_scld hi211 (dk D_L_law 424 rfl) ?_
        refine g_gd (fun hn212 => ?_)
        refine g_bind (fun q213 hq214 => ?_)
        refine h_callV (st := []) (c_X10_breach (E := E) fu S I (r1 - 1) (E.2.2.2.2.2.1.2.2 (nx (x3 + (1 : Int32)))) q213 hq214 (h_r1.nz hn212)) cl_RL_61 h_r1 hn212 rfl rfl ⟨⟨by decide, by decide⟩, ⟨rfl, rfl⟩, by show c ≤ 600000; omega, by show s ≤ 7302250; omega⟩ (Nat.le_of_ble_eq_true rfl) (dk D_L_law 425 rfl) ?_
        refine g_aload_n (dk D_L_law 426 rfl) rfl ?_
        refine g_aloadS_n (dk D_L_law 427 rfl) rfl ?_
        refine g_iload_n (dk D_L_law 428 rfl) rfl ?_
        refine g_iconst (v := (1 : Int32)) (dk D_L_law 429 rfl) rfl ?_
        refine g_iadd (dk D_L_law 430 rfl) ?_
        refine g_scld hi211 (dk D_L_law 431 rfl) ?_
        refine g_gd (fun hn217 => ?_)
        refine g_bind (fun q218 hq219 => ?_)
        refine h_callV (st := [vI q213]) (c_X11_breach (E := E) fu S I (r2 - 1) (E.2.2.2.2.2.1.2.2 (nx (x3 + (1 : Int32)))) q218 hq219 (h_r2.nz hn217)) cl_RL_65 h_r2 hn217 rfl rfl ⟨⟨by decide, by decide⟩, ⟨rfl, rfl⟩, by show c ≤ 600000; omega, by show s ≤ 7302250; omega⟩ (Nat.le_of_ble_eq_true rfl) (dk D_L_law 432 rfl) ?_
        refine g_icmp_eq (tgt := 1754) (dk D_L_law 433 rfl) rfl (fun hc221 => ?_) (fun hc221 => ?_)
        · refine g_wide (cs' := (c + 19, s + 95)) (by show c ≤ c + 19; omega) (by show s ≤ s + 95; omega) ?_
          exact hj1754 S I x3 h_r1 h_r2 hsx
        · refine g_iconst (v := (0 : Int32)) (dk D_L_law 434 rfl) rfl ?_
          exact g_lawret ⟨rfl, rfl, rfl⟩ (by show c ≤ 600000; omega) (by show s ≤ 7302250; omega) (dk D_L_law 435 rfl)
      refine g_ite (fun hc222 => ?_) (fun hc222 => ?_)
      · refine g_tabIn (tgt := 704) (off := 671) (dk D_L_law 21 rfl) (by rw [hc222] <;> decide +kernel) (by rw [hc222] <;> decide +kernel) (by rw [hc222] <;> decide +kernel) rfl ?_
        refine g_aload_n (dk D_L_law 436 rfl) rfl ?_
        refine g_aloadS_n (dk D_L_law 437 rfl) rfl ?_
        refine g_iload_n (dk D_L_law 438 rfl) rfl ?_
        refine g_iconst (v := (1 : Int32)) (dk D_L_law 439 rfl) rfl ?_
        refine g_iadd (dk D_L_law 440 rfl) ?_
        refine g_gd (fun hi223 => ?_)
        refine g_scld hi223 (dk D_L_law 441 rfl) ?_
        refine g_aloadS_n (dk D_L_law 442 rfl) rfl ?_
        refine g_iload_n (dk D_L_law 443 rfl) rfl ?_
        refine g_iconst (v := (2 : Int32)) (dk D_L_law 444 rfl) rfl ?_
        refine g_iadd (dk D_L_law 445 rfl) ?_
        refine g_gd (fun hi224 => ?_)
        refine g_scld hi224 (dk D_L_law 446 rfl) ?_
        refine g_aloadS_n (dk D_L_law 447 rfl) rfl ?_
        refine g_iload_n (dk D_L_law 448 rfl) rfl ?_
        refine g_iconst (v := (3 : Int32)) (dk D_L_law 449 rfl) rfl ?_
        refine g_iadd (dk D_L_law 450 rfl) ?_
        refine g_gd (fun hi225 => ?_)
        refine g_scld hi225 (dk D_L_law 451 rfl) ?_
        refine g_aloadS_n (dk D_L_law 452 rfl) rfl ?_
        refine g_iload_n (dk D_L_law 453 rfl) rfl ?_
        refine g_iconst (v := (4 : Int32)) (dk D_L_law 454 rfl) rfl ?_
        refine g_iadd (dk D_L_law 455 rfl) ?_
        refine g_gd (fun hi226 => ?_)
        refine g_scld hi226 (dk D_L_law 456 rfl) ?_
        refine g_aloadS_n (dk D_L_law 457 rfl) rfl ?_
        refine g_iload_n (dk D_L_law 458 rfl) rfl ?_
        refine g_iconst (v := (5 : Int32)) (dk D_L_law 459 rfl) rfl ?_
        refine g_iadd (dk D_L_law 460 rfl) ?_
        refine g_gd (fun hi227 => ?_)
        refine g_scld hi227 (dk D_L_law 461 rfl) ?_
        refine g_gd (fun hn228 => ?_)
        refine g_bind (fun q229 hq230 => ?_)
        refine g_callV' (st := []) (c_X10_trip (E := E) fu S I (r1 - 1) (E.2.2.2.2.2.1.2.2 (nx (x3 + (1 : Int32)))) (E.2.2.2.2.2.1.2.2 (nx (x3 + (2 : Int32)))) (E.2.2.2.2.2.1.2.2 (nx (x3 + (3 : Int32)))) (E.2.2.2.2.2.1.2.2 (nx (x3 + (4 : Int32)))) (E.2.2.2.2.2.1.2.2 (nx (x3 + (5 : Int32)))) q229 hq230 (h_r1.nz hn228)) cl_RL_66.1 cl_RL_66.2.1 cl_RL_66.2.2.1 cl_RL_66.2.2.2 h_r1 hn228 rfl rfl ⟨⟨by decide, by decide⟩, by show c + 1 ≤ 600000; omega, by show s + 5 ≤ 7302250; omega⟩ (Nat.le_of_ble_eq_true rfl) (dk D_L_law 462 rfl) (fun hx232 ht231 => ?_)
        refine g_wide (cs' := (c + 1, s + 5)) (by show c + 1 ≤ c + 1; omega) (by show s + 5 ≤ s + 5; omega) ?_
        have ht233 := h_r1.x hx232
        have ht234 := h_r2.x hx232
        have hsx235 := Sx.tr hsx hx232
        refine g_aload_n (dk D_L_law 463 rfl) rfl ?_
        refine g_aloadS_n (dk D_L_law 464 rfl) rfl ?_
        refine g_iload_n (dk D_L_law 465 rfl) rfl ?_
        refine g_iconst (v := (1 : Int32)) (dk D_L_law 466 rfl) rfl ?_
        refine g_iadd (dk D_L_law 467 rfl) ?_
        refine g_gd (fun hi236 => ?_)
        refine g_scld hi236 (dk D_L_law 468 rfl) ?_
        refine g_aloadS_n (dk D_L_law 469 rfl) rfl ?_
        refine g_iload_n (dk D_L_law 470 rfl) rfl ?_
        refine g_iconst (v := (2 : Int32)) (dk D_L_law 471 rfl) rfl ?_
        refine g_iadd (dk D_L_law 472 rfl) ?_
        refine g_gd (fun hi237 => ?_)
        refine g_scld hi237 (dk D_L_law 473 rfl) ?_
        refine g_aloadS_n (dk D_L_law 474 rfl) rfl ?_
        refine g_iload_n (dk D_L_law 475 rfl) rfl ?_
        refine g_iconst (v := (3 : Int32)) (dk D_L_law 476 rfl) rfl ?_
        refine g_iadd (dk D_L_law 477 rfl) ?_
        refine g_gd (fun hi238 => ?_)
        refine g_scld hi238 (dk D_L_law 478 rfl) ?_
        refine g_aloadS_n (dk D_L_law 479 rfl) rfl ?_
        refine g_iload_n (dk D_L_law 480 rfl) rfl ?_
        refine g_iconst (v := (4 : Int32)) (dk D_L_law 481 rfl) rfl ?_
        refine g_iadd (dk D_L_law 482 rfl) ?_
        refine g_gd (fun hi239 => ?_)
        refine g_scld hi239 (dk D_L_law 483 rfl) ?_
        refine g_aloadS_n (dk D_L_law 484 rfl) rfl ?_
        refine g_iload_n (dk D_L_law 485 rfl) rfl ?_
        refine g_iconst (v := (5 : Int32)) (dk D_L_law 486 rfl) rfl ?_
        refine g_iadd (dk D_L_law 487 rfl) ?_
        refine g_gd (fun hi240 => ?_)
        refine g_scld hi240 (dk D_L_law 488 rfl) ?_
        refine g_gd (fun hn241 => ?_)
        refine g_bind (fun q242 hq243 => ?_)
        refine h_callV (st := [vI q229.1]) (c_X11_trip (E := E) fu q229.2.1 q229.2.2 (r2 - 1) (E.2.2.2.2.2.1.2.2 (nx (x3 + (1 : Int32)))) (E.2.2.2.2.2.1.2.2 (nx (x3 + (2 : Int32)))) (E.2.2.2.2.2.1.2.2 (nx (x3 + (3 : Int32)))) (E.2.2.2.2.2.1.2.2 (nx (x3 + (4 : Int32)))) (E.2.2.2.2.2.1.2.2 (nx (x3 + (5 : Int32)))) q242 hq243 (ht234.nz hn241)) cl_RL_70 ht234 hn241 rfl rfl ⟨⟨by decide, by decide⟩, ⟨rfl, rfl⟩, by show c + 1 ≤ 600000; omega, by show s + 5 ≤ 7302250; omega⟩ (Nat.le_of_ble_eq_true rfl) (dk D_L_law 489 rfl) ?_
        refine g_icmp_eq (tgt := 1754) (dk D_L_law 490 rfl) rfl (fun hc245 => ?_) (fun hc245 => ?_)
        · refine g_wide (cs' := (c + 19, s + 95)) (by show c + 1 ≤ c + 19; omega) (by show s + 5 ≤ s + 95; omega) ?_
          exact hj1754 q229.2.1 q242.2 x3 ht233 ht234 hsx235
        · refine g_iconst (v := (0 : Int32)) (dk D_L_law 491 rfl) rfl ?_
          exact g_lawret ⟨rfl, rfl, rfl⟩ (by show c + 1 ≤ 600000; omega) (by show s + 5 ≤ 7302250; omega) (dk D_L_law 492 rfl)
      refine g_ite (fun hc246 => ?_) (fun hc246 => ?_)
      · refine g_tabIn (tgt := 767) (off := 734) (dk D_L_law 21 rfl) (by rw [hc246] <;> decide +kernel) (by rw [hc246] <;> decide +kernel) (by rw [hc246] <;> decide +kernel) rfl ?_
        refine g_aload_n (dk D_L_law 493 rfl) rfl ?_
        refine g_aloadS_n (dk D_L_law 494 rfl) rfl ?_
        refine g_iload_n (dk D_L_law 495 rfl) rfl ?_
        refine g_iconst (v := (1 : Int32)) (dk D_L_law 496 rfl) rfl ?_
        refine g_iadd (dk D_L_law 497 rfl) ?_
        refine g_gd (fun hi247 => ?_)
        refine g_scld hi247 (dk D_L_law 498 rfl) ?_
        refine g_aloadS_n (dk D_L_law 499 rfl) rfl ?_
        refine g_iload_n (dk D_L_law 500 rfl) rfl ?_
        refine g_iconst (v := (2 : Int32)) (dk D_L_law 501 rfl) rfl ?_
        refine g_iadd (dk D_L_law 502 rfl) ?_
        refine g_gd (fun hi248 => ?_)
        refine g_scld hi248 (dk D_L_law 503 rfl) ?_
        refine g_aloadS_n (dk D_L_law 504 rfl) rfl ?_
        refine g_iload_n (dk D_L_law 505 rfl) rfl ?_
        refine g_iconst (v := (3 : Int32)) (dk D_L_law 506 rfl) rfl ?_
        refine g_iadd (dk D_L_law 507 rfl) ?_
        refine g_gd (fun hi249 => ?_)
        refine g_scld hi249 (dk D_L_law 508 rfl) ?_
        refine g_gd (fun hn250 => ?_)
        refine g_bind (fun q251 hq252 => ?_)
        refine h_callV (st := []) (c_X10_way (E := E) fu S I (r1 - 1) (E.2.2.2.2.2.1.2.2 (nx (x3 + (1 : Int32)))) (E.2.2.2.2.2.1.2.2 (nx (x3 + (2 : Int32)))) (E.2.2.2.2.2.1.2.2 (nx (x3 + (3 : Int32)))) q251 hq252 (h_r1.nz hn250)) cl_RL_71 h_r1 hn250 rfl rfl ⟨⟨by decide, by decide⟩, ⟨rfl, rfl⟩, by show c ≤ 600000; omega, by show s ≤ 7302250; omega⟩ (Nat.le_of_ble_eq_true rfl) (dk D_L_law 509 rfl) ?_
        refine g_aload_n (dk D_L_law 510 rfl) rfl ?_
        refine g_aloadS_n (dk D_L_law 511 rfl) rfl ?_
        refine g_iload_n (dk D_L_law 512 rfl) rfl ?_
        refine g_iconst (v := (1 : Int32)) (dk D_L_law 513 rfl) rfl ?_
        refine g_iadd (dk D_L_law 514 rfl) ?_
        refine g_scld hi247 (dk D_L_law 515 rfl) ?_
        refine g_aloadS_n (dk D_L_law 516 rfl) rfl ?_
        refine g_iload_n (dk D_L_law 517 rfl) rfl ?_
        refine g_iconst (v := (2 : Int32)) (dk D_L_law 518 rfl) rfl ?_
        refine g_iadd (dk D_L_law 519 rfl) ?_
        refine g_scld hi248 (dk D_L_law 520 rfl) ?_
        refine g_aloadS_n (dk D_L_law 521 rfl) rfl ?_
        refine g_iload_n (dk D_L_law 522 rfl) rfl ?_
        refine g_iconst (v := (3 : Int32)) (dk D_L_law 523 rfl) rfl ?_
        refine g_iadd (dk D_L_law 524 rfl) ?_
        refine g_scld hi249 (dk D_L_law 525 rfl) ?_
        refine g_gd (fun hn257 => ?_)
        refine g_bind (fun q258 hq259 => ?_)
        refine h_callV (st := [vI q251.1]) (c_X11_way (E := E) fu S q251.2 (r2 - 1) (E.2.2.2.2.2.1.2.2 (nx (x3 + (1 : Int32)))) (E.2.2.2.2.2.1.2.2 (nx (x3 + (2 : Int32)))) (E.2.2.2.2.2.1.2.2 (nx (x3 + (3 : Int32)))) q258 hq259 (h_r2.nz hn257)) cl_RL_74 h_r2 hn257 rfl rfl ⟨⟨by decide, by decide⟩, ⟨rfl, rfl⟩, by show c ≤ 600000; omega, by show s ≤ 7302250; omega⟩ (Nat.le_of_ble_eq_true rfl) (dk D_L_law 526 rfl) ?_
        refine g_icmp_eq (tgt := 1754) (dk D_L_law 527 rfl) rfl (fun hc261 => ?_) (fun hc261 => ?_)
        · refine g_wide (cs' := (c + 19, s + 95)) (by show c ≤ c + 19; omega) (by show s ≤ s + 95; omega) ?_
          exact hj1754 S q258.2 x3 h_r1 h_r2 hsx
        · refine g_iconst (v := (0 : Int32)) (dk D_L_law 528 rfl) rfl ?_
          exact g_lawret ⟨rfl, rfl, rfl⟩ (by show c ≤ 600000; omega) (by show s ≤ 7302250; omega) (dk D_L_law 529 rfl)
      refine g_ite (fun hc262 => ?_) (fun hc262 => ?_)
      · refine g_tabIn (tgt := 810) (off := 777) (dk D_L_law 21 rfl) (by rw [hc262] <;> decide +kernel) (by rw [hc262] <;> decide +kernel) (by rw [hc262] <;> decide +kernel) rfl ?_
        refine g_aload_n (dk D_L_law 530 rfl) rfl ?_
        refine g_aloadS_n (dk D_L_law 531 rfl) rfl ?_
        refine g_iload_n (dk D_L_law 532 rfl) rfl ?_
        refine g_iconst (v := (1 : Int32)) (dk D_L_law 533 rfl) rfl ?_
        refine g_iadd (dk D_L_law 534 rfl) ?_
        refine g_gd (fun hi263 => ?_)
        refine g_scld hi263 (dk D_L_law 535 rfl) ?_
        refine g_aloadS_n (dk D_L_law 536 rfl) rfl ?_
        refine g_iload_n (dk D_L_law 537 rfl) rfl ?_
        refine g_iconst (v := (2 : Int32)) (dk D_L_law 538 rfl) rfl ?_
        refine g_iadd (dk D_L_law 539 rfl) ?_
        refine g_gd (fun hi264 => ?_)
        refine g_scld hi264 (dk D_L_law 540 rfl) ?_
        refine g_aloadS_n (dk D_L_law 541 rfl) rfl ?_
        refine g_iload_n (dk D_L_law 542 rfl) rfl ?_
        refine g_iconst (v := (3 : Int32)) (dk D_L_law 543 rfl) rfl ?_
        refine g_iadd (dk D_L_law 544 rfl) ?_
        refine g_gd (fun hi265 => ?_)
        refine g_scld hi265 (dk D_L_law 545 rfl) ?_
        refine g_gd (fun hn266 => ?_)
        refine g_bind (fun q267 hq268 => ?_)
        refine h_callV (st := []) (c_X10_lose (E := E) fu S I (r1 - 1) (E.2.2.2.2.2.1.2.2 (nx (x3 + (1 : Int32)))) (E.2.2.2.2.2.1.2.2 (nx (x3 + (2 : Int32)))) (E.2.2.2.2.2.1.2.2 (nx (x3 + (3 : Int32)))) q267 hq268 (h_r1.nz hn266)) cl_RL_75 h_r1 hn266 rfl rfl ⟨⟨by decide, by decide⟩, ⟨rfl, rfl⟩, by show c ≤ 600000; omega, by show s ≤ 7302250; omega⟩ (Nat.le_of_ble_eq_true rfl) (dk D_L_law 546 rfl) ?_
        refine g_aload_n (dk D_L_law 547 rfl) rfl ?_
        refine g_aloadS_n (dk D_L_law 548 rfl) rfl ?_
        refine g_iload_n (dk D_L_law 549 rfl) rfl ?_
        refine g_iconst (v := (1 : Int32)) (dk D_L_law 550 rfl) rfl ?_
        refine g_iadd (dk D_L_law 551 rfl) ?_
        refine g_scld hi263 (dk D_L_law 552 rfl) ?_
        refine g_aloadS_n (dk D_L_law 553 rfl) rfl ?_
        refine g_iload_n (dk D_L_law 554 rfl) rfl ?_
        refine g_iconst (v := (2 : Int32)) (dk D_L_law 555 rfl) rfl ?_
        refine g_iadd (dk D_L_law 556 rfl) ?_
        refine g_scld hi264 (dk D_L_law 557 rfl) ?_
        refine g_aloadS_n (dk D_L_law 558 rfl) rfl ?_
        refine g_iload_n (dk D_L_law 559 rfl) rfl ?_
        refine g_iconst (v := (3 : Int32)) (dk D_L_law 560 rfl) rfl ?_
        refine g_iadd (dk D_L_law 561 rfl) ?_
        refine g_scld hi265 (dk D_L_law 562 rfl) ?_
        refine g_gd (fun hn273 => ?_)
        refine g_bind (fun q274 hq275 => ?_)
        refine h_callV (st := [vI q267.1]) (c_X11_lose (E := E) fu S q267.2 (r2 - 1) (E.2.2.2.2.2.1.2.2 (nx (x3 + (1 : Int32)))) (E.2.2.2.2.2.1.2.2 (nx (x3 + (2 : Int32)))) (E.2.2.2.2.2.1.2.2 (nx (x3 + (3 : Int32)))) q274 hq275 (h_r2.nz hn273)) cl_RL_78 h_r2 hn273 rfl rfl ⟨⟨by decide, by decide⟩, ⟨rfl, rfl⟩, by show c ≤ 600000; omega, by show s ≤ 7302250; omega⟩ (Nat.le_of_ble_eq_true rfl) (dk D_L_law 563 rfl) ?_
        refine g_icmp_eq (tgt := 1754) (dk D_L_law 564 rfl) rfl (fun hc277 => ?_) (fun hc277 => ?_)
        · refine g_wide (cs' := (c + 19, s + 95)) (by show c ≤ c + 19; omega) (by show s ≤ s + 95; omega) ?_
          exact hj1754 S q274.2 x3 h_r1 h_r2 hsx
        · refine g_iconst (v := (0 : Int32)) (dk D_L_law 565 rfl) rfl ?_
          exact g_lawret ⟨rfl, rfl, rfl⟩ (by show c ≤ 600000; omega) (by show s ≤ 7302250; omega) (dk D_L_law 566 rfl)
      refine g_ite (fun hc278 => ?_) (fun hc278 => ?_)
      · refine g_tabIn (tgt := 853) (off := 820) (dk D_L_law 21 rfl) (by rw [hc278] <;> decide +kernel) (by rw [hc278] <;> decide +kernel) (by rw [hc278] <;> decide +kernel) rfl ?_
        refine g_aload_n (dk D_L_law 567 rfl) rfl ?_
        refine g_aloadS_n (dk D_L_law 568 rfl) rfl ?_
        refine g_iload_n (dk D_L_law 569 rfl) rfl ?_
        refine g_iconst (v := (1 : Int32)) (dk D_L_law 570 rfl) rfl ?_
        refine g_iadd (dk D_L_law 571 rfl) ?_
        refine g_gd (fun hi279 => ?_)
        refine g_scld hi279 (dk D_L_law 572 rfl) ?_
        refine g_aloadS_n (dk D_L_law 573 rfl) rfl ?_
        refine g_iload_n (dk D_L_law 574 rfl) rfl ?_
        refine g_iconst (v := (2 : Int32)) (dk D_L_law 575 rfl) rfl ?_
        refine g_iadd (dk D_L_law 576 rfl) ?_
        refine g_gd (fun hi280 => ?_)
        refine g_scld hi280 (dk D_L_law 577 rfl) ?_
        refine g_aloadS_n (dk D_L_law 578 rfl) rfl ?_
        refine g_iload_n (dk D_L_law 579 rfl) rfl ?_
        refine g_iconst (v := (3 : Int32)) (dk D_L_law 580 rfl) rfl ?_
        refine g_iadd (dk D_L_law 581 rfl) ?_
        refine g_gd (fun hi281 => ?_)
        refine g_scld hi281 (dk D_L_law 582 rfl) ?_
        refine g_gd (fun hn282 => ?_)
        refine g_bind (fun q283 hq284 => ?_)
        refine h_callV (st := []) (c_X10_who (E := E) fu S I (r1 - 1) (E.2.2.2.2.2.1.2.2 (nx (x3 + (1 : Int32)))) (E.2.2.2.2.2.1.2.2 (nx (x3 + (2 : Int32)))) (E.2.2.2.2.2.1.2.2 (nx (x3 + (3 : Int32)))) q283 hq284 (h_r1.nz hn282)) cl_RL_79 h_r1 hn282 rfl rfl ⟨⟨by decide, by decide⟩, ⟨rfl, rfl⟩, by show c ≤ 600000; omega, by show s ≤ 7302250; omega⟩ (Nat.le_of_ble_eq_true rfl) (dk D_L_law 583 rfl) ?_
        refine g_aload_n (dk D_L_law 584 rfl) rfl ?_
        refine g_aloadS_n (dk D_L_law 585 rfl) rfl ?_
        refine g_iload_n (dk D_L_law 586 rfl) rfl ?_
        refine g_iconst (v := (1 : Int32)) (dk D_L_law 587 rfl) rfl ?_
        refine g_iadd (dk D_L_law 588 rfl) ?_
        refine g_scld hi279 (dk D_L_law 589 rfl) ?_
        refine g_aloadS_n (dk D_L_law 590 rfl) rfl ?_
        refine g_iload_n (dk D_L_law 591 rfl) rfl ?_
        refine g_iconst (v := (2 : Int32)) (dk D_L_law 592 rfl) rfl ?_
        refine g_iadd (dk D_L_law 593 rfl) ?_
        refine g_scld hi280 (dk D_L_law 594 rfl) ?_
        refine g_aloadS_n (dk D_L_law 595 rfl) rfl ?_
        refine g_iload_n (dk D_L_law 596 rfl) rfl ?_
        refine g_iconst (v := (3 : Int32)) (dk D_L_law 597 rfl) rfl ?_
        refine g_iadd (dk D_L_law 598 rfl) ?_
        refine g_scld hi281 (dk D_L_law 599 rfl) ?_
        refine g_gd (fun hn289 => ?_)
        refine g_bind (fun q290 hq291 => ?_)
        refine h_callV (st := [vI q283.1]) (c_X11_who (E := E) fu S q283.2 (r2 - 1) (E.2.2.2.2.2.1.2.2 (nx (x3 + (1 : Int32)))) (E.2.2.2.2.2.1.2.2 (nx (x3 + (2 : Int32)))) (E.2.2.2.2.2.1.2.2 (nx (x3 + (3 : Int32)))) q290 hq291 (h_r2.nz hn289)) cl_RL_82 h_r2 hn289 rfl rfl ⟨⟨by decide, by decide⟩, ⟨rfl, rfl⟩, by show c ≤ 600000; omega, by show s ≤ 7302250; omega⟩ (Nat.le_of_ble_eq_true rfl) (dk D_L_law 600 rfl) ?_
        refine g_icmp_eq (tgt := 1754) (dk D_L_law 601 rfl) rfl (fun hc293 => ?_) (fun hc293 => ?_)
        · refine g_wide (cs' := (c + 19, s + 95)) (by show c ≤ c + 19; omega) (by show s ≤ s + 95; omega) ?_
          exact hj1754 S q290.2 x3 h_r1 h_r2 hsx
        · refine g_iconst (v := (0 : Int32)) (dk D_L_law 602 rfl) rfl ?_
          exact g_lawret ⟨rfl, rfl, rfl⟩ (by show c ≤ 600000; omega) (by show s ≤ 7302250; omega) (dk D_L_law 603 rfl)
      refine g_ite (fun hc294 => ?_) (fun hc294 => ?_)
      · refine g_tabIn (tgt := 896) (off := 863) (dk D_L_law 21 rfl) (by rw [hc294] <;> decide +kernel) (by rw [hc294] <;> decide +kernel) (by rw [hc294] <;> decide +kernel) rfl ?_
        refine g_aload_n (dk D_L_law 604 rfl) rfl ?_
        refine g_aloadS_n (dk D_L_law 605 rfl) rfl ?_
        refine g_iload_n (dk D_L_law 606 rfl) rfl ?_
        refine g_iconst (v := (1 : Int32)) (dk D_L_law 607 rfl) rfl ?_
        refine g_iadd (dk D_L_law 608 rfl) ?_
        refine g_gd (fun hi295 => ?_)
        refine g_scld hi295 (dk D_L_law 609 rfl) ?_
        refine g_gd (fun hn296 => ?_)
        refine g_bind (fun q297 hq298 => ?_)
        refine g_callV' (st := []) (c_X10_offer (E := E) fu S I (r1 - 1) (E.2.2.2.2.2.1.2.2 (nx (x3 + (1 : Int32)))) q297 hq298 (h_r1.nz hn296)) cl_RL_83.1 cl_RL_83.2.1 cl_RL_83.2.2.1 cl_RL_83.2.2.2 h_r1 hn296 rfl rfl ⟨⟨by decide, by decide⟩, by show c + 0 ≤ 600000; omega, by show s + 0 ≤ 7302250; omega⟩ (Nat.le_of_ble_eq_true rfl) (dk D_L_law 610 rfl) (fun hx300 ht299 => ?_)
        refine g_wide (cs' := (c, s)) (by show c + 0 ≤ c; omega) (by show s + 0 ≤ s; omega) ?_
        have ht301 := h_r1.x hx300
        have ht302 := h_r2.x hx300
        have hsx303 := Sx.tr hsx hx300
        refine g_aload_n (dk D_L_law 611 rfl) rfl ?_
        refine g_aloadS_n (dk D_L_law 612 rfl) rfl ?_
        refine g_iload_n (dk D_L_law 613 rfl) rfl ?_
        refine g_iconst (v := (1 : Int32)) (dk D_L_law 614 rfl) rfl ?_
        refine g_iadd (dk D_L_law 615 rfl) ?_
        refine g_gd (fun hi304 => ?_)
        refine g_scld hi304 (dk D_L_law 616 rfl) ?_
        refine g_gd (fun hn305 => ?_)
        refine g_bind (fun q306 hq307 => ?_)
        refine h_callV (st := [vI q297.1]) (c_X11_offer (E := E) fu q297.2.1 q297.2.2 (r2 - 1) (E.2.2.2.2.2.1.2.2 (nx (x3 + (1 : Int32)))) q306 hq307 (ht302.nz hn305)) cl_RL_86 ht302 hn305 rfl rfl ⟨⟨by decide, by decide⟩, ⟨rfl, rfl⟩, by show c ≤ 600000; omega, by show s ≤ 7302250; omega⟩ (Nat.le_of_ble_eq_true rfl) (dk D_L_law 617 rfl) ?_
        refine g_icmp_eq (tgt := 1754) (dk D_L_law 618 rfl) rfl (fun hc309 => ?_) (fun hc309 => ?_)
        · refine g_wide (cs' := (c + 19, s + 95)) (by show c ≤ c + 19; omega) (by show s ≤ s + 95; omega) ?_
          exact hj1754 q297.2.1 q306.2 x3 ht301 ht302 hsx303
        · refine g_iconst (v := (0 : Int32)) (dk D_L_law 619 rfl) rfl ?_
          exact g_lawret ⟨rfl, rfl, rfl⟩ (by show c ≤ 600000; omega) (by show s ≤ 7302250; omega) (dk D_L_law 620 rfl)
      refine g_ite (fun hc310 => ?_) (fun hc310 => ?_)
      · refine g_tabIn (tgt := 919) (off := 886) (dk D_L_law 21 rfl) (by rw [hc310] <;> decide +kernel) (by rw [hc310] <;> decide +kernel) (by rw [hc310] <;> decide +kernel) rfl ?_
        refine g_aload_n (dk D_L_law 621 rfl) rfl ?_
        refine g_aloadS_n (dk D_L_law 622 rfl) rfl ?_
        refine g_iload_n (dk D_L_law 623 rfl) rfl ?_
        refine g_iconst (v := (1 : Int32)) (dk D_L_law 624 rfl) rfl ?_
        refine g_iadd (dk D_L_law 625 rfl) ?_
        refine g_gd (fun hi311 => ?_)
        refine g_scld hi311 (dk D_L_law 626 rfl) ?_
        refine g_aloadS_n (dk D_L_law 627 rfl) rfl ?_
        refine g_iload_n (dk D_L_law 628 rfl) rfl ?_
        refine g_iconst (v := (2 : Int32)) (dk D_L_law 629 rfl) rfl ?_
        refine g_iadd (dk D_L_law 630 rfl) ?_
        refine g_gd (fun hi312 => ?_)
        refine g_scld hi312 (dk D_L_law 631 rfl) ?_
        refine g_aloadS_n (dk D_L_law 632 rfl) rfl ?_
        refine g_iload_n (dk D_L_law 633 rfl) rfl ?_
        refine g_iconst (v := (3 : Int32)) (dk D_L_law 634 rfl) rfl ?_
        refine g_iadd (dk D_L_law 635 rfl) ?_
        refine g_gd (fun hi313 => ?_)
        refine g_scld hi313 (dk D_L_law 636 rfl) ?_
        refine g_gd (fun hn314 => ?_)
        refine g_bind (fun q315 hq316 => ?_)
        refine g_callV' (st := []) (c_X10_best (E := E) fu S I (r1 - 1) (E.2.2.2.2.2.1.2.2 (nx (x3 + (1 : Int32)))) (E.2.2.2.2.2.1.2.2 (nx (x3 + (2 : Int32)))) (E.2.2.2.2.2.1.2.2 (nx (x3 + (3 : Int32)))) q315 hq316 (h_r1.nz hn314)) cl_RL_87.1 cl_RL_87.2.1 cl_RL_87.2.2.1 cl_RL_87.2.2.2 h_r1 hn314 rfl rfl ⟨⟨by decide, by decide⟩, by show c + 19 ≤ 600000; omega, by show s + 57 ≤ 7302250; omega⟩ (Nat.le_of_ble_eq_true rfl) (dk D_L_law 637 rfl) (fun hx318 ht317 => ?_)
        refine g_wide (cs' := (c + 19, s + 57)) (by show c + 19 ≤ c + 19; omega) (by show s + 57 ≤ s + 57; omega) ?_
        have ht319 := h_r1.x hx318
        have ht320 := h_r2.x hx318
        have hsx321 := Sx.tr hsx hx318
        refine g_aload_n (dk D_L_law 638 rfl) rfl ?_
        refine g_aloadS_n (dk D_L_law 639 rfl) rfl ?_
        refine g_iload_n (dk D_L_law 640 rfl) rfl ?_
        refine g_iconst (v := (1 : Int32)) (dk D_L_law 641 rfl) rfl ?_
        refine g_iadd (dk D_L_law 642 rfl) ?_
        refine g_gd (fun hi322 => ?_)
        refine g_scld hi322 (dk D_L_law 643 rfl) ?_
        refine g_aloadS_n (dk D_L_law 644 rfl) rfl ?_
        refine g_iload_n (dk D_L_law 645 rfl) rfl ?_
        refine g_iconst (v := (2 : Int32)) (dk D_L_law 646 rfl) rfl ?_
        refine g_iadd (dk D_L_law 647 rfl) ?_
        refine g_gd (fun hi323 => ?_)
        refine g_scld hi323 (dk D_L_law 648 rfl) ?_
        refine g_aloadS_n (dk D_L_law 649 rfl) rfl ?_
        refine g_iload_n (dk D_L_law 650 rfl) rfl ?_
        refine g_iconst (v := (3 : Int32)) (dk D_L_law 651 rfl) rfl ?_
        refine g_iadd (dk D_L_law 652 rfl) ?_
        refine g_gd (fun hi324 => ?_)
        refine g_scld hi324 (dk D_L_law 653 rfl) ?_
        refine g_gd (fun hn325 => ?_)
        refine g_bind (fun q326 hq327 => ?_)
        refine h_callV (st := [vI q315.1]) (c_X11_best (E := E) fu q315.2.1 q315.2.2 (r2 - 1) (E.2.2.2.2.2.1.2.2 (nx (x3 + (1 : Int32)))) (E.2.2.2.2.2.1.2.2 (nx (x3 + (2 : Int32)))) (E.2.2.2.2.2.1.2.2 (nx (x3 + (3 : Int32)))) q326 hq327 (ht320.nz hn325)) cl_RL_90 ht320 hn325 rfl rfl ⟨⟨by decide, by decide⟩, ⟨rfl, rfl⟩, by show c + 19 ≤ 600000; omega, by show s + 57 ≤ 7302250; omega⟩ (Nat.le_of_ble_eq_true rfl) (dk D_L_law 654 rfl) ?_
        refine g_icmp_eq (tgt := 1754) (dk D_L_law 655 rfl) rfl (fun hc329 => ?_) (fun hc329 => ?_)
        · refine g_wide (cs' := (c + 19, s + 95)) (by show c + 19 ≤ c + 19; omega) (by show s + 57 ≤ s + 95; omega) ?_
          exact hj1754 q315.2.1 q326.2 x3 ht319 ht320 hsx321
        · refine g_iconst (v := (0 : Int32)) (dk D_L_law 656 rfl) rfl ?_
          exact g_lawret ⟨rfl, rfl, rfl⟩ (by show c + 19 ≤ 600000; omega) (by show s + 57 ≤ 7302250; omega) (dk D_L_law 657 rfl)
      refine g_ite (fun hc330 => ?_) (fun hc330 => ?_)
      · refine g_tabIn (tgt := 962) (off := 929) (dk D_L_law 21 rfl) (by rw [hc330] <;> decide +kernel) (by rw [hc330] <;> decide +kernel) (by rw [hc330] <;> decide +kernel) rfl ?_
        refine g_aload_n (dk D_L_law 658 rfl) rfl ?_
        refine g_aloadS_n (dk D_L_law 659 rfl) rfl ?_
        refine g_iload_n (dk D_L_law 660 rfl) rfl ?_
        refine g_iconst (v := (1 : Int32)) (dk D_L_law 661 rfl) rfl ?_
        refine g_iadd (dk D_L_law 662 rfl) ?_
        refine g_gd (fun hi331 => ?_)
        refine g_scld hi331 (dk D_L_law 663 rfl) ?_
        refine g_aloadS_n (dk D_L_law 664 rfl) rfl ?_
        refine g_iload_n (dk D_L_law 665 rfl) rfl ?_
        refine g_iconst (v := (2 : Int32)) (dk D_L_law 666 rfl) rfl ?_
        refine g_iadd (dk D_L_law 667 rfl) ?_
        refine g_gd (fun hi332 => ?_)
        refine g_scld hi332 (dk D_L_law 668 rfl) ?_
        refine g_aloadS_n (dk D_L_law 669 rfl) rfl ?_
        refine g_iload_n (dk D_L_law 670 rfl) rfl ?_
        refine g_iconst (v := (3 : Int32)) (dk D_L_law 671 rfl) rfl ?_
        refine g_iadd (dk D_L_law 672 rfl) ?_
        refine g_gd (fun hi333 => ?_)
        refine g_scld hi333 (dk D_L_law 673 rfl) ?_
        refine g_gd (fun hn334 => ?_)
        refine g_bind (fun q335 hq336 => ?_)
        refine g_callV' (st := []) (c_X10_depot (E := E) fu S I (r1 - 1) (E.2.2.2.2.2.1.2.2 (nx (x3 + (1 : Int32)))) (E.2.2.2.2.2.1.2.2 (nx (x3 + (2 : Int32)))) (E.2.2.2.2.2.1.2.2 (nx (x3 + (3 : Int32)))) q335 hq336 (h_r1.nz hn334)) cl_RL_91.1 cl_RL_91.2.1 cl_RL_91.2.2.1 cl_RL_91.2.2.2 h_r1 hn334 rfl rfl ⟨⟨by decide, by decide⟩, by show c + 1 ≤ 600000; omega, by show s + 3 ≤ 7302250; omega⟩ (Nat.le_of_ble_eq_true rfl) (dk D_L_law 674 rfl) (fun hx338 ht337 => ?_)
        refine g_wide (cs' := (c + 1, s + 3)) (by show c + 1 ≤ c + 1; omega) (by show s + 3 ≤ s + 3; omega) ?_
        have ht339 := h_r1.x hx338
        have ht340 := h_r2.x hx338
        have hsx341 := Sx.tr hsx hx338
        refine g_aload_n (dk D_L_law 675 rfl) rfl ?_
        refine g_aloadS_n (dk D_L_law 676 rfl) rfl ?_
        refine g_iload_n (dk D_L_law 677 rfl) rfl ?_
        refine g_iconst (v := (1 : Int32)) (dk D_L_law 678 rfl) rfl ?_
        refine g_iadd (dk D_L_law 679 rfl) ?_
        refine g_gd (fun hi342 => ?_)
        refine g_scld hi342 (dk D_L_law 680 rfl) ?_
        refine g_aloadS_n (dk D_L_law 681 rfl) rfl ?_
        refine g_iload_n (dk D_L_law 682 rfl) rfl ?_
        refine g_iconst (v := (2 : Int32)) (dk D_L_law 683 rfl) rfl ?_
        refine g_iadd (dk D_L_law 684 rfl) ?_
        refine g_gd (fun hi343 => ?_)
        refine g_scld hi343 (dk D_L_law 685 rfl) ?_
        refine g_aloadS_n (dk D_L_law 686 rfl) rfl ?_
        refine g_iload_n (dk D_L_law 687 rfl) rfl ?_
        refine g_iconst (v := (3 : Int32)) (dk D_L_law 688 rfl) rfl ?_
        refine g_iadd (dk D_L_law 689 rfl) ?_
        refine g_gd (fun hi344 => ?_)
        refine g_scld hi344 (dk D_L_law 690 rfl) ?_
        refine g_gd (fun hn345 => ?_)
        refine g_bind (fun q346 hq347 => ?_)
        refine h_callV (st := [vI q335.1]) (c_X11_depot (E := E) fu q335.2.1 q335.2.2 (r2 - 1) (E.2.2.2.2.2.1.2.2 (nx (x3 + (1 : Int32)))) (E.2.2.2.2.2.1.2.2 (nx (x3 + (2 : Int32)))) (E.2.2.2.2.2.1.2.2 (nx (x3 + (3 : Int32)))) q346 hq347 (ht340.nz hn345)) cl_RL_94 ht340 hn345 rfl rfl ⟨⟨by decide, by decide⟩, ⟨rfl, rfl⟩, by show c + 1 ≤ 600000; omega, by show s + 3 ≤ 7302250; omega⟩ (Nat.le_of_ble_eq_true rfl) (dk D_L_law 691 rfl) ?_
        refine g_icmp_eq (tgt := 1754) (dk D_L_law 692 rfl) rfl (fun hc349 => ?_) (fun hc349 => ?_)
        · refine g_wide (cs' := (c + 19, s + 95)) (by show c + 1 ≤ c + 19; omega) (by show s + 3 ≤ s + 95; omega) ?_
          exact hj1754 q335.2.1 q346.2 x3 ht339 ht340 hsx341
        · refine g_iconst (v := (0 : Int32)) (dk D_L_law 693 rfl) rfl ?_
          exact g_lawret ⟨rfl, rfl, rfl⟩ (by show c + 1 ≤ 600000; omega) (by show s + 3 ≤ 7302250; omega) (dk D_L_law 694 rfl)
      refine g_ite (fun hc350 => ?_) (fun hc350 => ?_)
      · refine g_tabIn (tgt := 1005) (off := 972) (dk D_L_law 21 rfl) (by rw [hc350] <;> decide +kernel) (by rw [hc350] <;> decide +kernel) (by rw [hc350] <;> decide +kernel) rfl ?_
        refine g_aload_n (dk D_L_law 695 rfl) rfl ?_
        refine g_aloadS_n (dk D_L_law 696 rfl) rfl ?_
        refine g_iload_n (dk D_L_law 697 rfl) rfl ?_
        refine g_iconst (v := (1 : Int32)) (dk D_L_law 698 rfl) rfl ?_
        refine g_iadd (dk D_L_law 699 rfl) ?_
        refine g_gd (fun hi351 => ?_)
        refine g_scld hi351 (dk D_L_law 700 rfl) ?_
        refine g_aloadS_n (dk D_L_law 701 rfl) rfl ?_
        refine g_iload_n (dk D_L_law 702 rfl) rfl ?_
        refine g_iconst (v := (2 : Int32)) (dk D_L_law 703 rfl) rfl ?_
        refine g_iadd (dk D_L_law 704 rfl) ?_
        refine g_gd (fun hi352 => ?_)
        refine g_scld hi352 (dk D_L_law 705 rfl) ?_
        refine g_gd (fun hn353 => ?_)
        refine g_bind (fun q354 hq355 => ?_)
        refine h_callV (st := []) (c_X10_empty (E := E) fu S I (r1 - 1) (E.2.2.2.2.2.1.2.2 (nx (x3 + (1 : Int32)))) (E.2.2.2.2.2.1.2.2 (nx (x3 + (2 : Int32)))) q354 hq355 (h_r1.nz hn353)) cl_RL_95 h_r1 hn353 rfl rfl ⟨⟨by decide, by decide⟩, ⟨rfl, rfl⟩, by show c ≤ 600000; omega, by show s ≤ 7302250; omega⟩ (Nat.le_of_ble_eq_true rfl) (dk D_L_law 706 rfl) ?_
        refine g_aload_n (dk D_L_law 707 rfl) rfl ?_
        refine g_aloadS_n (dk D_L_law 708 rfl) rfl ?_
        refine g_iload_n (dk D_L_law 709 rfl) rfl ?_
        refine g_iconst (v := (1 : Int32)) (dk D_L_law 710 rfl) rfl ?_
        refine g_iadd (dk D_L_law 711 rfl) ?_
        refine g_scld hi351 (dk D_L_law 712 rfl) ?_
        refine g_aloadS_n (dk D_L_law 713 rfl) rfl ?_
        refine g_iload_n (dk D_L_law 714 rfl) rfl ?_
        refine g_iconst (v := (2 : Int32)) (dk D_L_law 715 rfl) rfl ?_
        refine g_iadd (dk D_L_law 716 rfl) ?_
        refine g_scld hi352 (dk D_L_law 717 rfl) ?_
        refine g_gd (fun hn359 => ?_)
        refine g_bind (fun q360 hq361 => ?_)
        refine h_callV (st := [vI q354]) (c_X11_empty (E := E) fu S I (r2 - 1) (E.2.2.2.2.2.1.2.2 (nx (x3 + (1 : Int32)))) (E.2.2.2.2.2.1.2.2 (nx (x3 + (2 : Int32)))) q360 hq361 (h_r2.nz hn359)) cl_RL_98 h_r2 hn359 rfl rfl ⟨⟨by decide, by decide⟩, ⟨rfl, rfl⟩, by show c ≤ 600000; omega, by show s ≤ 7302250; omega⟩ (Nat.le_of_ble_eq_true rfl) (dk D_L_law 718 rfl) ?_
        refine g_icmp_eq (tgt := 1754) (dk D_L_law 719 rfl) rfl (fun hc363 => ?_) (fun hc363 => ?_)
        · refine g_wide (cs' := (c + 19, s + 95)) (by show c ≤ c + 19; omega) (by show s ≤ s + 95; omega) ?_
          exact hj1754 S I x3 h_r1 h_r2 hsx
        · refine g_iconst (v := (0 : Int32)) (dk D_L_law 720 rfl) rfl ?_
          exact g_lawret ⟨rfl, rfl, rfl⟩ (by show c ≤ 600000; omega) (by show s ≤ 7302250; omega) (dk D_L_law 721 rfl)
      refine g_ite (fun hc364 => ?_) (fun hc364 => ?_)
      · refine g_tabIn (tgt := 1038) (off := 1005) (dk D_L_law 21 rfl) (by rw [hc364] <;> decide +kernel) (by rw [hc364] <;> decide +kernel) (by rw [hc364] <;> decide +kernel) rfl ?_
        refine g_aload_n (dk D_L_law 722 rfl) rfl ?_
        refine g_aloadS_n (dk D_L_law 723 rfl) rfl ?_
        refine g_iload_n (dk D_L_law 724 rfl) rfl ?_
        refine g_iconst (v := (1 : Int32)) (dk D_L_law 725 rfl) rfl ?_
        refine g_iadd (dk D_L_law 726 rfl) ?_
        refine g_gd (fun hi365 => ?_)
        refine g_scld hi365 (dk D_L_law 727 rfl) ?_
        refine g_aloadS_n (dk D_L_law 728 rfl) rfl ?_
        refine g_iload_n (dk D_L_law 729 rfl) rfl ?_
        refine g_iconst (v := (2 : Int32)) (dk D_L_law 730 rfl) rfl ?_
        refine g_iadd (dk D_L_law 731 rfl) ?_
        refine g_gd (fun hi366 => ?_)
        refine g_scld hi366 (dk D_L_law 732 rfl) ?_
        refine g_gd (fun hn367 => ?_)
        refine g_bind (fun q368 hq369 => ?_)
        refine h_callV (st := []) (c_X10_fit (E := E) fu S I (r1 - 1) (E.2.2.2.2.2.1.2.2 (nx (x3 + (1 : Int32)))) (E.2.2.2.2.2.1.2.2 (nx (x3 + (2 : Int32)))) q368 hq369 (h_r1.nz hn367)) cl_RL_99 h_r1 hn367 rfl rfl ⟨⟨by decide, by decide⟩, ⟨rfl, rfl⟩, by show c ≤ 600000; omega, by show s ≤ 7302250; omega⟩ (Nat.le_of_ble_eq_true rfl) (dk D_L_law 733 rfl) ?_
        refine g_aload_n (dk D_L_law 734 rfl) rfl ?_
        refine g_aloadS_n (dk D_L_law 735 rfl) rfl ?_
        refine g_iload_n (dk D_L_law 736 rfl) rfl ?_
        refine g_iconst (v := (1 : Int32)) (dk D_L_law 737 rfl) rfl ?_
        refine g_iadd (dk D_L_law 738 rfl) ?_
        refine g_scld hi365 (dk D_L_law 739 rfl) ?_
        refine g_aloadS_n (dk D_L_law 740 rfl) rfl ?_
        refine g_iload_n (dk D_L_law 741 rfl) rfl ?_
        refine g_iconst (v := (2 : Int32)) (dk D_L_law 742 rfl) rfl ?_
        refine g_iadd (dk D_L_law 743 rfl) ?_
        refine g_scld hi366 (dk D_L_law 744 rfl) ?_
        refine g_gd (fun hn373 => ?_)
        refine g_bind (fun q374 hq375 => ?_)
        refine h_callV (st := [vI q368.1]) (c_X11_fit (E := E) fu S q368.2 (r2 - 1) (E.2.2.2.2.2.1.2.2 (nx (x3 + (1 : Int32)))) (E.2.2.2.2.2.1.2.2 (nx (x3 + (2 : Int32)))) q374 hq375 (h_r2.nz hn373)) cl_RL_102 h_r2 hn373 rfl rfl ⟨⟨by decide, by decide⟩, ⟨rfl, rfl⟩, by show c ≤ 600000; omega, by show s ≤ 7302250; omega⟩ (Nat.le_of_ble_eq_true rfl) (dk D_L_law 745 rfl) ?_
        refine g_icmp_eq (tgt := 1754) (dk D_L_law 746 rfl) rfl (fun hc377 => ?_) (fun hc377 => ?_)
        · refine g_wide (cs' := (c + 19, s + 95)) (by show c ≤ c + 19; omega) (by show s ≤ s + 95; omega) ?_
          exact hj1754 S q374.2 x3 h_r1 h_r2 hsx
        · refine g_iconst (v := (0 : Int32)) (dk D_L_law 747 rfl) rfl ?_
          exact g_lawret ⟨rfl, rfl, rfl⟩ (by show c ≤ 600000; omega) (by show s ≤ 7302250; omega) (dk D_L_law 748 rfl)
      refine g_ite (fun hc378 => ?_) (fun hc378 => ?_)
      · refine g_tabIn (tgt := 1071) (off := 1038) (dk D_L_law 21 rfl) (by rw [hc378] <;> decide +kernel) (by rw [hc378] <;> decide +kernel) (by rw [hc378] <;> decide +kernel) rfl ?_
        refine g_aload_n (dk D_L_law 749 rfl) rfl ?_
        refine g_gd (fun hn379 => ?_)
        refine g_bind (fun q380 hq381 => ?_)
        refine h_callV (st := []) (c_X10_driver (E := E) fu S I (r1 - 1) q380 hq381 (h_r1.nz hn379)) cl_RL_103 h_r1 hn379 rfl rfl ⟨⟨by decide, by decide⟩, ⟨rfl, rfl⟩, by show c ≤ 600000; omega, by show s ≤ 7302250; omega⟩ (Nat.le_of_ble_eq_true rfl) (dk D_L_law 750 rfl) ?_
        refine g_aload_n (dk D_L_law 751 rfl) rfl ?_
        refine g_gd (fun hn383 => ?_)
        refine g_bind (fun q384 hq385 => ?_)
        refine h_callV (st := [vI q380.1]) (c_X11_driver (E := E) fu S q380.2 (r2 - 1) q384 hq385 (h_r2.nz hn383)) cl_RL_107 h_r2 hn383 rfl rfl ⟨⟨by decide, by decide⟩, ⟨rfl, rfl⟩, by show c ≤ 600000; omega, by show s ≤ 7302250; omega⟩ (Nat.le_of_ble_eq_true rfl) (dk D_L_law 752 rfl) ?_
        refine g_icmp_eq (tgt := 1754) (dk D_L_law 753 rfl) rfl (fun hc387 => ?_) (fun hc387 => ?_)
        · refine g_wide (cs' := (c + 19, s + 95)) (by show c ≤ c + 19; omega) (by show s ≤ s + 95; omega) ?_
          exact hj1754 S q384.2 x3 h_r1 h_r2 hsx
        · refine g_iconst (v := (0 : Int32)) (dk D_L_law 754 rfl) rfl ?_
          exact g_lawret ⟨rfl, rfl, rfl⟩ (by show c ≤ 600000; omega) (by show s ≤ 7302250; omega) (dk D_L_law 755 rfl)
      refine g_ite (fun hc388 => ?_) (fun hc388 => ?_)
      · refine g_tabIn (tgt := 1084) (off := 1051) (dk D_L_law 21 rfl) (by rw [hc388] <;> decide +kernel) (by rw [hc388] <;> decide +kernel) (by rw [hc388] <;> decide +kernel) rfl ?_
        refine g_aload_n (dk D_L_law 756 rfl) rfl ?_
        refine g_aloadS_n (dk D_L_law 757 rfl) rfl ?_
        refine g_iload_n (dk D_L_law 758 rfl) rfl ?_
        refine g_iconst (v := (1 : Int32)) (dk D_L_law 759 rfl) rfl ?_
        refine g_iadd (dk D_L_law 760 rfl) ?_
        refine g_gd (fun hi389 => ?_)
        refine g_scld hi389 (dk D_L_law 761 rfl) ?_
        refine g_aloadS_n (dk D_L_law 762 rfl) rfl ?_
        refine g_iload_n (dk D_L_law 763 rfl) rfl ?_
        refine g_iconst (v := (2 : Int32)) (dk D_L_law 764 rfl) rfl ?_
        refine g_iadd (dk D_L_law 765 rfl) ?_
        refine g_gd (fun hi390 => ?_)
        refine g_scld hi390 (dk D_L_law 766 rfl) ?_
        refine g_aloadS_n (dk D_L_law 767 rfl) rfl ?_
        refine g_iload_n (dk D_L_law 768 rfl) rfl ?_
        refine g_iconst (v := (3 : Int32)) (dk D_L_law 769 rfl) rfl ?_
        refine g_iadd (dk D_L_law 770 rfl) ?_
        refine g_gd (fun hi391 => ?_)
        refine g_scld hi391 (dk D_L_law 771 rfl) ?_
        refine g_if_eq (tgt := 1107) (dk D_L_law 772 rfl) rfl (fun hc392 => ?_) (fun hc392 => ?_)
        · refine g_iconst (v := (0 : Int32)) (dk D_L_law 775 rfl) rfl ?_
          exact hj1108 S I x3 r1 (E.2.2.2.2.2.1.2.2 (nx (x3 + (1 : Int32)))) (E.2.2.2.2.2.1.2.2 (nx (x3 + (2 : Int32)))) (0 : Int32) h_r1 h_r2 h_r1 hsx
        · refine g_iconst (v := (1 : Int32)) (dk D_L_law 773 rfl) rfl ?_
          refine g_goto (tgt := 1108) (dk D_L_law 774 rfl) rfl ?_
          exact hj1108 S I x3 r1 (E.2.2.2.2.2.1.2.2 (nx (x3 + (1 : Int32)))) (E.2.2.2.2.2.1.2.2 (nx (x3 + (2 : Int32)))) (1 : Int32) h_r1 h_r2 h_r1 hsx
      refine g_ite (fun hc393 => ?_) (fun hc393 => ?_)
      · refine g_tabIn (tgt := 1143) (off := 1110) (dk D_L_law 21 rfl) (by rw [hc393] <;> decide +kernel) (by rw [hc393] <;> decide +kernel) (by rw [hc393] <;> decide +kernel) rfl ?_
        refine g_aload_n (dk D_L_law 801 rfl) rfl ?_
        refine g_aloadS_n (dk D_L_law 802 rfl) rfl ?_
        refine g_iload_n (dk D_L_law 803 rfl) rfl ?_
        refine g_iconst (v := (1 : Int32)) (dk D_L_law 804 rfl) rfl ?_
        refine g_iadd (dk D_L_law 805 rfl) ?_
        refine g_gd (fun hi394 => ?_)
        refine g_scld hi394 (dk D_L_law 806 rfl) ?_
        refine g_aloadS_n (dk D_L_law 807 rfl) rfl ?_
        refine g_iload_n (dk D_L_law 808 rfl) rfl ?_
        refine g_iconst (v := (2 : Int32)) (dk D_L_law 809 rfl) rfl ?_
        refine g_iadd (dk D_L_law 810 rfl) ?_
        refine g_gd (fun hi395 => ?_)
        refine g_scld hi395 (dk D_L_law 811 rfl) ?_
        refine g_gd (fun hn396 => ?_)
        refine g_bind (fun q397 hq398 => ?_)
        refine h_callV (st := []) (c_X10_roster (E := E) fu S I (r1 - 1) (E.2.2.2.2.2.1.2.2 (nx (x3 + (1 : Int32)))) (E.2.2.2.2.2.1.2.2 (nx (x3 + (2 : Int32)))) q397 hq398 (h_r1.nz hn396)) cl_RL_113 h_r1 hn396 rfl rfl ⟨⟨by decide, by decide⟩, ⟨rfl, rfl⟩, by show c ≤ 600000; omega, by show s ≤ 7302250; omega⟩ (Nat.le_of_ble_eq_true rfl) (dk D_L_law 812 rfl) ?_
        refine g_aload_n (dk D_L_law 813 rfl) rfl ?_
        refine g_aloadS_n (dk D_L_law 814 rfl) rfl ?_
        refine g_iload_n (dk D_L_law 815 rfl) rfl ?_
        refine g_iconst (v := (1 : Int32)) (dk D_L_law 816 rfl) rfl ?_
        refine g_iadd (dk D_L_law 817 rfl) ?_
        refine g_scld hi394 (dk D_L_law 818 rfl) ?_
        refine g_aloadS_n (dk D_L_law 819 rfl) rfl ?_
        refine g_iload_n (dk D_L_law 820 rfl) rfl ?_
        refine g_iconst (v := (2 : Int32)) (dk D_L_law 821 rfl) rfl ?_
        refine g_iadd (dk D_L_law 822 rfl) ?_
        refine g_scld hi395 (dk D_L_law 823 rfl) ?_
        refine g_gd (fun hn402 => ?_)
        refine g_bind (fun q403 hq404 => ?_)
        refine h_callV (st := [vI q397.1]) (c_X11_roster (E := E) fu S q397.2 (r2 - 1) (E.2.2.2.2.2.1.2.2 (nx (x3 + (1 : Int32)))) (E.2.2.2.2.2.1.2.2 (nx (x3 + (2 : Int32)))) q403 hq404 (h_r2.nz hn402)) cl_RL_116 h_r2 hn402 rfl rfl ⟨⟨by decide, by decide⟩, ⟨rfl, rfl⟩, by show c ≤ 600000; omega, by show s ≤ 7302250; omega⟩ (Nat.le_of_ble_eq_true rfl) (dk D_L_law 824 rfl) ?_
        refine g_icmp_eq (tgt := 1754) (dk D_L_law 825 rfl) rfl (fun hc406 => ?_) (fun hc406 => ?_)
        · refine g_wide (cs' := (c + 19, s + 95)) (by show c ≤ c + 19; omega) (by show s ≤ s + 95; omega) ?_
          exact hj1754 S q403.2 x3 h_r1 h_r2 hsx
        · refine g_iconst (v := (0 : Int32)) (dk D_L_law 826 rfl) rfl ?_
          exact g_lawret ⟨rfl, rfl, rfl⟩ (by show c ≤ 600000; omega) (by show s ≤ 7302250; omega) (dk D_L_law 827 rfl)
      refine g_ite (fun hc407 => ?_) (fun hc407 => ?_)
      · refine g_tabIn (tgt := 1176) (off := 1143) (dk D_L_law 21 rfl) (by rw [hc407] <;> decide +kernel) (by rw [hc407] <;> decide +kernel) (by rw [hc407] <;> decide +kernel) rfl ?_
        refine g_aload_n (dk D_L_law 828 rfl) rfl ?_
        refine g_aloadS_n (dk D_L_law 829 rfl) rfl ?_
        refine g_iload_n (dk D_L_law 830 rfl) rfl ?_
        refine g_iconst (v := (1 : Int32)) (dk D_L_law 831 rfl) rfl ?_
        refine g_iadd (dk D_L_law 832 rfl) ?_
        refine g_gd (fun hi408 => ?_)
        refine g_scld hi408 (dk D_L_law 833 rfl) ?_
        refine g_aloadS_n (dk D_L_law 834 rfl) rfl ?_
        refine g_iload_n (dk D_L_law 835 rfl) rfl ?_
        refine g_iconst (v := (2 : Int32)) (dk D_L_law 836 rfl) rfl ?_
        refine g_iadd (dk D_L_law 837 rfl) ?_
        refine g_gd (fun hi409 => ?_)
        refine g_scld hi409 (dk D_L_law 838 rfl) ?_
        refine g_if_eq (tgt := 1194) (dk D_L_law 839 rfl) rfl (fun hc410 => ?_) (fun hc410 => ?_)
        · refine g_iconst (v := (0 : Int32)) (dk D_L_law 842 rfl) rfl ?_
          exact hj1195 S I x3 r1 (E.2.2.2.2.2.1.2.2 (nx (x3 + (1 : Int32)))) (0 : Int32) h_r1 h_r2 h_r1 hsx
        · refine g_iconst (v := (1 : Int32)) (dk D_L_law 840 rfl) rfl ?_
          refine g_goto (tgt := 1195) (dk D_L_law 841 rfl) rfl ?_
          exact hj1195 S I x3 r1 (E.2.2.2.2.2.1.2.2 (nx (x3 + (1 : Int32)))) (1 : Int32) h_r1 h_r2 h_r1 hsx
      refine g_ite (fun hc411 => ?_) (fun hc411 => ?_)
      · refine g_tabIn (tgt := 1225) (off := 1192) (dk D_L_law 21 rfl) (by rw [hc411] <;> decide +kernel) (by rw [hc411] <;> decide +kernel) (by rw [hc411] <;> decide +kernel) rfl ?_
        refine g_aload_n (dk D_L_law 863 rfl) rfl ?_
        refine g_aloadS_n (dk D_L_law 864 rfl) rfl ?_
        refine g_iload_n (dk D_L_law 865 rfl) rfl ?_
        refine g_iconst (v := (1 : Int32)) (dk D_L_law 866 rfl) rfl ?_
        refine g_iadd (dk D_L_law 867 rfl) ?_
        refine g_gd (fun hi412 => ?_)
        refine g_scld hi412 (dk D_L_law 868 rfl) ?_
        refine g_aloadS_n (dk D_L_law 869 rfl) rfl ?_
        refine g_iload_n (dk D_L_law 870 rfl) rfl ?_
        refine g_iconst (v := (2 : Int32)) (dk D_L_law 871 rfl) rfl ?_
        refine g_iadd (dk D_L_law 872 rfl) ?_
        refine g_gd (fun hi413 => ?_)
        refine g_scld hi413 (dk D_L_law 873 rfl) ?_
        refine g_aloadS_n (dk D_L_law 874 rfl) rfl ?_
        refine g_iload_n (dk D_L_law 875 rfl) rfl ?_
        refine g_iconst (v := (3 : Int32)) (dk D_L_law 876 rfl) rfl ?_
        refine g_iadd (dk D_L_law 877 rfl) ?_
        refine g_gd (fun hi414 => ?_)
        refine g_scld hi414 (dk D_L_law 878 rfl) ?_
        refine g_aloadS_n (dk D_L_law 879 rfl) rfl ?_
        refine g_iload_n (dk D_L_law 880 rfl) rfl ?_
        refine g_iconst (v := (4 : Int32)) (dk D_L_law 881 rfl) rfl ?_
        refine g_iadd (dk D_L_law 882 rfl) ?_
        refine g_gd (fun hi415 => ?_)
        refine g_scld hi415 (dk D_L_law 883 rfl) ?_
        refine g_gd (fun hn416 => ?_)
        refine g_bind (fun q417 hq418 => ?_)
        refine h_callV (st := []) (c_X10_night (E := E) fu S I (r1 - 1) (E.2.2.2.2.2.1.2.2 (nx (x3 + (1 : Int32)))) (E.2.2.2.2.2.1.2.2 (nx (x3 + (2 : Int32)))) (E.2.2.2.2.2.1.2.2 (nx (x3 + (3 : Int32)))) (E.2.2.2.2.2.1.2.2 (nx (x3 + (4 : Int32)))) q417 hq418 (h_r1.nz hn416)) cl_RL_122 h_r1 hn416 rfl rfl ⟨⟨by decide, by decide⟩, ⟨rfl, rfl⟩, by show c ≤ 600000; omega, by show s ≤ 7302250; omega⟩ (Nat.le_of_ble_eq_true rfl) (dk D_L_law 884 rfl) ?_
        refine g_aload_n (dk D_L_law 885 rfl) rfl ?_
        refine g_aloadS_n (dk D_L_law 886 rfl) rfl ?_
        refine g_iload_n (dk D_L_law 887 rfl) rfl ?_
        refine g_iconst (v := (1 : Int32)) (dk D_L_law 888 rfl) rfl ?_
        refine g_iadd (dk D_L_law 889 rfl) ?_
        refine g_scld hi412 (dk D_L_law 890 rfl) ?_
        refine g_aloadS_n (dk D_L_law 891 rfl) rfl ?_
        refine g_iload_n (dk D_L_law 892 rfl) rfl ?_
        refine g_iconst (v := (2 : Int32)) (dk D_L_law 893 rfl) rfl ?_
        refine g_iadd (dk D_L_law 894 rfl) ?_
        refine g_scld hi413 (dk D_L_law 895 rfl) ?_
        refine g_aloadS_n (dk D_L_law 896 rfl) rfl ?_
        refine g_iload_n (dk D_L_law 897 rfl) rfl ?_
        refine g_iconst (v := (3 : Int32)) (dk D_L_law 898 rfl) rfl ?_
        refine g_iadd (dk D_L_law 899 rfl) ?_
        refine g_scld hi414 (dk D_L_law 900 rfl) ?_
        refine g_aloadS_n (dk D_L_law 901 rfl) rfl ?_
        refine g_iload_n (dk D_L_law 902 rfl) rfl ?_
        refine g_iconst (v := (4 : Int32)) (dk D_L_law 903 rfl) rfl ?_
        refine g_iadd (dk D_L_law 904 rfl) ?_
        refine g_scld hi415 (dk D_L_law 905 rfl) ?_
        refine g_gd (fun hn424 => ?_)
        refine g_bind (fun q425 hq426 => ?_)
        refine h_callV (st := [vI q417.1]) (c_X11_night (E := E) fu S q417.2 (r2 - 1) (E.2.2.2.2.2.1.2.2 (nx (x3 + (1 : Int32)))) (E.2.2.2.2.2.1.2.2 (nx (x3 + (2 : Int32)))) (E.2.2.2.2.2.1.2.2 (nx (x3 + (3 : Int32)))) (E.2.2.2.2.2.1.2.2 (nx (x3 + (4 : Int32)))) q425 hq426 (h_r2.nz hn424)) cl_RL_125 h_r2 hn424 rfl rfl ⟨⟨by decide, by decide⟩, ⟨rfl, rfl⟩, by show c ≤ 600000; omega, by show s ≤ 7302250; omega⟩ (Nat.le_of_ble_eq_true rfl) (dk D_L_law 906 rfl) ?_
        refine g_icmp_eq (tgt := 1754) (dk D_L_law 907 rfl) rfl (fun hc428 => ?_) (fun hc428 => ?_)
        · refine g_wide (cs' := (c + 19, s + 95)) (by show c ≤ c + 19; omega) (by show s ≤ s + 95; omega) ?_
          exact hj1754 S q425.2 x3 h_r1 h_r2 hsx
        · refine g_iconst (v := (0 : Int32)) (dk D_L_law 908 rfl) rfl ?_
          exact g_lawret ⟨rfl, rfl, rfl⟩ (by show c ≤ 600000; omega) (by show s ≤ 7302250; omega) (dk D_L_law 909 rfl)
      refine g_ite (fun hc429 => ?_) (fun hc429 => ?_)
      · refine g_tabIn (tgt := 1278) (off := 1245) (dk D_L_law 21 rfl) (by rw [hc429] <;> decide +kernel) (by rw [hc429] <;> decide +kernel) (by rw [hc429] <;> decide +kernel) rfl ?_
        refine g_aload_n (dk D_L_law 910 rfl) rfl ?_
        refine g_aloadS_n (dk D_L_law 911 rfl) rfl ?_
        refine g_iload_n (dk D_L_law 912 rfl) rfl ?_
        refine g_iconst (v := (1 : Int32)) (dk D_L_law 913 rfl) rfl ?_
        refine g_iadd (dk D_L_law 914 rfl) ?_
        refine g_gd (fun hi430 => ?_)
        refine g_scld hi430 (dk D_L_law 915 rfl) ?_
        refine g_aloadS_n (dk D_L_law 916 rfl) rfl ?_
        refine g_iload_n (dk D_L_law 917 rfl) rfl ?_
        refine g_iconst (v := (2 : Int32)) (dk D_L_law 918 rfl) rfl ?_
        refine g_iadd (dk D_L_law 919 rfl) ?_
        refine g_gd (fun hi431 => ?_)
        refine g_scld hi431 (dk D_L_law 920 rfl) ?_
        refine g_aloadS_n (dk D_L_law 921 rfl) rfl ?_
        refine g_iload_n (dk D_L_law 922 rfl) rfl ?_
        refine g_iconst (v := (3 : Int32)) (dk D_L_law 923 rfl) rfl ?_
        refine g_iadd (dk D_L_law 924 rfl) ?_
        refine g_gd (fun hi432 => ?_)
        refine g_scld hi432 (dk D_L_law 925 rfl) ?_
        refine g_gd (fun hn433 => ?_)
        refine g_bind (fun q434 hq435 => ?_)
        refine h_callV (st := []) (c_X10_waiting (E := E) fu S I (r1 - 1) (E.2.2.2.2.2.1.2.2 (nx (x3 + (1 : Int32)))) (E.2.2.2.2.2.1.2.2 (nx (x3 + (2 : Int32)))) (E.2.2.2.2.2.1.2.2 (nx (x3 + (3 : Int32)))) q434 hq435 (h_r1.nz hn433)) cl_RL_126 h_r1 hn433 rfl rfl ⟨⟨by decide, by decide⟩, ⟨rfl, rfl⟩, by show c ≤ 600000; omega, by show s ≤ 7302250; omega⟩ (Nat.le_of_ble_eq_true rfl) (dk D_L_law 926 rfl) ?_
        refine g_aload_n (dk D_L_law 927 rfl) rfl ?_
        refine g_aloadS_n (dk D_L_law 928 rfl) rfl ?_
        refine g_iload_n (dk D_L_law 929 rfl) rfl ?_
        refine g_iconst (v := (1 : Int32)) (dk D_L_law 930 rfl) rfl ?_
        refine g_iadd (dk D_L_law 931 rfl) ?_
        refine g_scld hi430 (dk D_L_law 932 rfl) ?_
        refine g_aloadS_n (dk D_L_law 933 rfl) rfl ?_
        refine g_iload_n (dk D_L_law 934 rfl) rfl ?_
        refine g_iconst (v := (2 : Int32)) (dk D_L_law 935 rfl) rfl ?_
        refine g_iadd (dk D_L_law 936 rfl) ?_
        refine g_scld hi431 (dk D_L_law 937 rfl) ?_
        refine g_aloadS_n (dk D_L_law 938 rfl) rfl ?_
        refine g_iload_n (dk D_L_law 939 rfl) rfl ?_
        refine g_iconst (v := (3 : Int32)) (dk D_L_law 940 rfl) rfl ?_
        refine g_iadd (dk D_L_law 941 rfl) ?_
        refine g_scld hi432 (dk D_L_law 942 rfl) ?_
        refine g_gd (fun hn440 => ?_)
        refine g_bind (fun q441 hq442 => ?_)
        refine h_callV (st := [vI q434.1]) (c_X11_waiting (E := E) fu S q434.2 (r2 - 1) (E.2.2.2.2.2.1.2.2 (nx (x3 + (1 : Int32)))) (E.2.2.2.2.2.1.2.2 (nx (x3 + (2 : Int32)))) (E.2.2.2.2.2.1.2.2 (nx (x3 + (3 : Int32)))) q441 hq442 (h_r2.nz hn440)) cl_RL_129 h_r2 hn440 rfl rfl ⟨⟨by decide, by decide⟩, ⟨rfl, rfl⟩, by show c ≤ 600000; omega, by show s ≤ 7302250; omega⟩ (Nat.le_of_ble_eq_true rfl) (dk D_L_law 943 rfl) ?_
        refine g_icmp_eq (tgt := 1754) (dk D_L_law 944 rfl) rfl (fun hc444 => ?_) (fun hc444 => ?_)
        · refine g_wide (cs' := (c + 19, s + 95)) (by show c ≤ c + 19; omega) (by show s ≤ s + 95; omega) ?_
          exact hj1754 S q441.2 x3 h_r1 h_r2 hsx
        · refine g_iconst (v := (0 : Int32)) (dk D_L_law 945 rfl) rfl ?_
          exact g_lawret ⟨rfl, rfl, rfl⟩ (by show c ≤ 600000; omega) (by show s ≤ 7302250; omega) (dk D_L_law 946 rfl)
      refine g_ite (fun hc445 => ?_) (fun hc445 => ?_)
      · refine g_tabIn (tgt := 1321) (off := 1288) (dk D_L_law 21 rfl) (by rw [hc445] <;> decide +kernel) (by rw [hc445] <;> decide +kernel) (by rw [hc445] <;> decide +kernel) rfl ?_
        refine g_aload_n (dk D_L_law 947 rfl) rfl ?_
        refine g_aloadS_n (dk D_L_law 948 rfl) rfl ?_
        refine g_iload_n (dk D_L_law 949 rfl) rfl ?_
        refine g_iconst (v := (1 : Int32)) (dk D_L_law 950 rfl) rfl ?_
        refine g_iadd (dk D_L_law 951 rfl) ?_
        refine g_gd (fun hi446 => ?_)
        refine g_scld hi446 (dk D_L_law 952 rfl) ?_
        refine g_gd (fun hn447 => ?_)
        refine g_bind (fun q448 hq449 => ?_)
        refine h_callV (st := []) (c_X10_seats (E := E) fu S I (r1 - 1) (E.2.2.2.2.2.1.2.2 (nx (x3 + (1 : Int32)))) q448 hq449 (h_r1.nz hn447)) cl_RL_130 h_r1 hn447 rfl rfl ⟨⟨by decide, by decide⟩, ⟨rfl, rfl⟩, by show c ≤ 600000; omega, by show s ≤ 7302250; omega⟩ (Nat.le_of_ble_eq_true rfl) (dk D_L_law 953 rfl) ?_
        refine g_aload_n (dk D_L_law 954 rfl) rfl ?_
        refine g_aloadS_n (dk D_L_law 955 rfl) rfl ?_
        refine g_iload_n (dk D_L_law 956 rfl) rfl ?_
        refine g_iconst (v := (1 : Int32)) (dk D_L_law 957 rfl) rfl ?_
        refine g_iadd (dk D_L_law 958 rfl) ?_
        refine g_scld hi446 (dk D_L_law 959 rfl) ?_
        refine g_gd (fun hn452 => ?_)
        refine g_bind (fun q453 hq454 => ?_)
        refine h_callV (st := [vI q448.1]) (c_X11_seats (E := E) fu S q448.2 (r2 - 1) (E.2.2.2.2.2.1.2.2 (nx (x3 + (1 : Int32)))) q453 hq454 (h_r2.nz hn452)) cl_RL_133 h_r2 hn452 rfl rfl ⟨⟨by decide, by decide⟩, ⟨rfl, rfl⟩, by show c ≤ 600000; omega, by show s ≤ 7302250; omega⟩ (Nat.le_of_ble_eq_true rfl) (dk D_L_law 960 rfl) ?_
        refine g_icmp_eq (tgt := 1754) (dk D_L_law 961 rfl) rfl (fun hc456 => ?_) (fun hc456 => ?_)
        · refine g_wide (cs' := (c + 19, s + 95)) (by show c ≤ c + 19; omega) (by show s ≤ s + 95; omega) ?_
          exact hj1754 S q453.2 x3 h_r1 h_r2 hsx
        · refine g_iconst (v := (0 : Int32)) (dk D_L_law 962 rfl) rfl ?_
          exact g_lawret ⟨rfl, rfl, rfl⟩ (by show c ≤ 600000; omega) (by show s ≤ 7302250; omega) (dk D_L_law 963 rfl)
      refine g_ite (fun hc457 => ?_) (fun hc457 => ?_)
      · refine g_tabIn (tgt := 1344) (off := 1311) (dk D_L_law 21 rfl) (by rw [hc457] <;> decide +kernel) (by rw [hc457] <;> decide +kernel) (by rw [hc457] <;> decide +kernel) rfl ?_
        refine g_aload_n (dk D_L_law 964 rfl) rfl ?_
        refine g_aloadS_n (dk D_L_law 965 rfl) rfl ?_
        refine g_iload_n (dk D_L_law 966 rfl) rfl ?_
        refine g_iconst (v := (1 : Int32)) (dk D_L_law 967 rfl) rfl ?_
        refine g_iadd (dk D_L_law 968 rfl) ?_
        refine g_gd (fun hi458 => ?_)
        refine g_scld hi458 (dk D_L_law 969 rfl) ?_
        refine g_aloadS_n (dk D_L_law 970 rfl) rfl ?_
        refine g_iload_n (dk D_L_law 971 rfl) rfl ?_
        refine g_iconst (v := (2 : Int32)) (dk D_L_law 972 rfl) rfl ?_
        refine g_iadd (dk D_L_law 973 rfl) ?_
        refine g_gd (fun hi459 => ?_)
        refine g_scld hi459 (dk D_L_law 974 rfl) ?_
        refine g_aloadS_n (dk D_L_law 975 rfl) rfl ?_
        refine g_iload_n (dk D_L_law 976 rfl) rfl ?_
        refine g_iconst (v := (3 : Int32)) (dk D_L_law 977 rfl) rfl ?_
        refine g_iadd (dk D_L_law 978 rfl) ?_
        refine g_gd (fun hi460 => ?_)
        refine g_scld hi460 (dk D_L_law 979 rfl) ?_
        refine g_gd (fun hn461 => ?_)
        refine g_bind (fun q462 hq463 => ?_)
        refine h_callV (st := []) (c_X10_standing (E := E) fu S I (r1 - 1) (E.2.2.2.2.2.1.2.2 (nx (x3 + (1 : Int32)))) (E.2.2.2.2.2.1.2.2 (nx (x3 + (2 : Int32)))) (E.2.2.2.2.2.1.2.2 (nx (x3 + (3 : Int32)))) q462 hq463 (h_r1.nz hn461)) cl_RL_134 h_r1 hn461 rfl rfl ⟨⟨by decide, by decide⟩, ⟨rfl, rfl⟩, by show c ≤ 600000; omega, by show s ≤ 7302250; omega⟩ (Nat.le_of_ble_eq_true rfl) (dk D_L_law 980 rfl) ?_
        refine g_aload_n (dk D_L_law 981 rfl) rfl ?_
        refine g_aloadS_n (dk D_L_law 982 rfl) rfl ?_
        refine g_iload_n (dk D_L_law 983 rfl) rfl ?_
        refine g_iconst (v := (1 : Int32)) (dk D_L_law 984 rfl) rfl ?_
        refine g_iadd (dk D_L_law 985 rfl) ?_
        refine g_scld hi458 (dk D_L_law 986 rfl) ?_
        refine g_aloadS_n (dk D_L_law 987 rfl) rfl ?_
        refine g_iload_n (dk D_L_law 988 rfl) rfl ?_
        refine g_iconst (v := (2 : Int32)) (dk D_L_law 989 rfl) rfl ?_
        refine g_iadd (dk D_L_law 990 rfl) ?_
        refine g_scld hi459 (dk D_L_law 991 rfl) ?_
        refine g_aloadS_n (dk D_L_law 992 rfl) rfl ?_
        refine g_iload_n (dk D_L_law 993 rfl) rfl ?_
        refine g_iconst (v := (3 : Int32)) (dk D_L_law 994 rfl) rfl ?_
        refine g_iadd (dk D_L_law 995 rfl) ?_
        refine g_scld hi460 (dk D_L_law 996 rfl) ?_
        refine g_gd (fun hn468 => ?_)
        refine g_bind (fun q469 hq470 => ?_)
        refine h_callV (st := [vI q462]) (c_X11_standing (E := E) fu S I (r2 - 1) (E.2.2.2.2.2.1.2.2 (nx (x3 + (1 : Int32)))) (E.2.2.2.2.2.1.2.2 (nx (x3 + (2 : Int32)))) (E.2.2.2.2.2.1.2.2 (nx (x3 + (3 : Int32)))) q469 hq470 (h_r2.nz hn468)) cl_RL_137 h_r2 hn468 rfl rfl ⟨⟨by decide, by decide⟩, ⟨rfl, rfl⟩, by show c ≤ 600000; omega, by show s ≤ 7302250; omega⟩ (Nat.le_of_ble_eq_true rfl) (dk D_L_law 997 rfl) ?_
        refine g_icmp_eq (tgt := 1754) (dk D_L_law 998 rfl) rfl (fun hc472 => ?_) (fun hc472 => ?_)
        · refine g_wide (cs' := (c + 19, s + 95)) (by show c ≤ c + 19; omega) (by show s ≤ s + 95; omega) ?_
          exact hj1754 S I x3 h_r1 h_r2 hsx
        · refine g_iconst (v := (0 : Int32)) (dk D_L_law 999 rfl) rfl ?_
          exact g_lawret ⟨rfl, rfl, rfl⟩ (by show c ≤ 600000; omega) (by show s ≤ 7302250; omega) (dk D_L_law 1000 rfl)
      refine g_ite (fun hc473 => ?_) (fun hc473 => ?_)
      · refine g_tabIn (tgt := 1387) (off := 1354) (dk D_L_law 21 rfl) (by rw [hc473] <;> decide +kernel) (by rw [hc473] <;> decide +kernel) (by rw [hc473] <;> decide +kernel) rfl ?_
        refine g_aload_n (dk D_L_law 1001 rfl) rfl ?_
        refine g_aloadS_n (dk D_L_law 1002 rfl) rfl ?_
        refine g_iload_n (dk D_L_law 1003 rfl) rfl ?_
        refine g_iconst (v := (1 : Int32)) (dk D_L_law 1004 rfl) rfl ?_
        refine g_iadd (dk D_L_law 1005 rfl) ?_
        refine g_gd (fun hi474 => ?_)
        refine g_scld hi474 (dk D_L_law 1006 rfl) ?_
        refine g_gd (fun hn475 => ?_)
        refine g_bind (fun q476 hq477 => ?_)
        refine h_callV (st := []) (c_X10_extra (E := E) fu S I (r1 - 1) (E.2.2.2.2.2.1.2.2 (nx (x3 + (1 : Int32)))) q476 hq477 (h_r1.nz hn475)) cl_RL_138 h_r1 hn475 rfl rfl ⟨⟨by decide, by decide⟩, ⟨rfl, rfl⟩, by show c ≤ 600000; omega, by show s ≤ 7302250; omega⟩ (Nat.le_of_ble_eq_true rfl) (dk D_L_law 1007 rfl) ?_
        refine g_aload_n (dk D_L_law 1008 rfl) rfl ?_
        refine g_aloadS_n (dk D_L_law 1009 rfl) rfl ?_
        refine g_iload_n (dk D_L_law 1010 rfl) rfl ?_
        refine g_iconst (v := (1 : Int32)) (dk D_L_law 1011 rfl) rfl ?_
        refine g_iadd (dk D_L_law 1012 rfl) ?_
        refine g_scld hi474 (dk D_L_law 1013 rfl) ?_
        refine g_gd (fun hn480 => ?_)
        refine g_bind (fun q481 hq482 => ?_)
        refine h_callV (st := [vI q476]) (c_X11_extra (E := E) fu S I (r2 - 1) (E.2.2.2.2.2.1.2.2 (nx (x3 + (1 : Int32)))) q481 hq482 (h_r2.nz hn480)) cl_RL_141 h_r2 hn480 rfl rfl ⟨⟨by decide, by decide⟩, ⟨rfl, rfl⟩, by show c ≤ 600000; omega, by show s ≤ 7302250; omega⟩ (Nat.le_of_ble_eq_true rfl) (dk D_L_law 1014 rfl) ?_
        refine g_icmp_eq (tgt := 1754) (dk D_L_law 1015 rfl) rfl (fun hc484 => ?_) (fun hc484 => ?_)
        · refine g_wide (cs' := (c + 19, s + 95)) (by show c ≤ c + 19; omega) (by show s ≤ s + 95; omega) ?_
          exact hj1754 S I x3 h_r1 h_r2 hsx
        · refine g_iconst (v := (0 : Int32)) (dk D_L_law 1016 rfl) rfl ?_
          exact g_lawret ⟨rfl, rfl, rfl⟩ (by show c ≤ 600000; omega) (by show s ≤ 7302250; omega) (dk D_L_law 1017 rfl)
      refine g_ite (fun hc485 => ?_) (fun hc485 => ?_)
      · refine g_tabIn (tgt := 1410) (off := 1377) (dk D_L_law 21 rfl) (by rw [hc485] <;> decide +kernel) (by rw [hc485] <;> decide +kernel) (by rw [hc485] <;> decide +kernel) rfl ?_
        refine g_aload_n (dk D_L_law 1018 rfl) rfl ?_
        refine g_aloadS_n (dk D_L_law 1019 rfl) rfl ?_
        refine g_iload_n (dk D_L_law 1020 rfl) rfl ?_
        refine g_iconst (v := (1 : Int32)) (dk D_L_law 1021 rfl) rfl ?_
        refine g_iadd (dk D_L_law 1022 rfl) ?_
        refine g_gd (fun hi486 => ?_)
        refine g_scld hi486 (dk D_L_law 1023 rfl) ?_
        refine g_aloadS_n (dk D_L_law 1024 rfl) rfl ?_
        refine g_iload_n (dk D_L_law 1025 rfl) rfl ?_
        refine g_iconst (v := (2 : Int32)) (dk D_L_law 1026 rfl) rfl ?_
        refine g_iadd (dk D_L_law 1027 rfl) ?_
        refine g_gd (fun hi487 => ?_)
        refine g_scld hi487 (dk D_L_law 1028 rfl) ?_
        refine g_aloadS_n (dk D_L_law 1029 rfl) rfl ?_
        refine g_iload_n (dk D_L_law 1030 rfl) rfl ?_
        refine g_iconst (v := (3 : Int32)) (dk D_L_law 1031 rfl) rfl ?_
        refine g_iadd (dk D_L_law 1032 rfl) ?_
        refine g_gd (fun hi488 => ?_)
        refine g_scld hi488 (dk D_L_law 1033 rfl) ?_
        refine g_gd (fun hn489 => ?_)
        refine g_bind (fun q490 hq491 => ?_)
        refine h_callV (st := []) (c_X10_sheet (E := E) fu S I (r1 - 1) (E.2.2.2.2.2.1.2.2 (nx (x3 + (1 : Int32)))) (E.2.2.2.2.2.1.2.2 (nx (x3 + (2 : Int32)))) (E.2.2.2.2.2.1.2.2 (nx (x3 + (3 : Int32)))) q490 hq491 (h_r1.nz hn489)) cl_RL_142 h_r1 hn489 rfl rfl ⟨⟨by decide, by decide⟩, ⟨rfl, rfl⟩, by show c ≤ 600000; omega, by show s ≤ 7302250; omega⟩ (Nat.le_of_ble_eq_true rfl) (dk D_L_law 1034 rfl) ?_
        refine g_aload_n (dk D_L_law 1035 rfl) rfl ?_
        refine g_aloadS_n (dk D_L_law 1036 rfl) rfl ?_
        refine g_iload_n (dk D_L_law 1037 rfl) rfl ?_
        refine g_iconst (v := (1 : Int32)) (dk D_L_law 1038 rfl) rfl ?_
        refine g_iadd (dk D_L_law 1039 rfl) ?_
        refine g_scld hi486 (dk D_L_law 1040 rfl) ?_
        refine g_aloadS_n (dk D_L_law 1041 rfl) rfl ?_
        refine g_iload_n (dk D_L_law 1042 rfl) rfl ?_
        refine g_iconst (v := (2 : Int32)) (dk D_L_law 1043 rfl) rfl ?_
        refine g_iadd (dk D_L_law 1044 rfl) ?_
        refine g_scld hi487 (dk D_L_law 1045 rfl) ?_
        refine g_aloadS_n (dk D_L_law 1046 rfl) rfl ?_
        refine g_iload_n (dk D_L_law 1047 rfl) rfl ?_
        refine g_iconst (v := (3 : Int32)) (dk D_L_law 1048 rfl) rfl ?_
        refine g_iadd (dk D_L_law 1049 rfl) ?_
        refine g_scld hi488 (dk D_L_law 1050 rfl) ?_
        refine g_gd (fun hn496 => ?_)
        refine g_bind (fun q497 hq498 => ?_)
        refine h_callV (st := [vI q490.1]) (c_X11_sheet (E := E) fu S q490.2 (r2 - 1) (E.2.2.2.2.2.1.2.2 (nx (x3 + (1 : Int32)))) (E.2.2.2.2.2.1.2.2 (nx (x3 + (2 : Int32)))) (E.2.2.2.2.2.1.2.2 (nx (x3 + (3 : Int32)))) q497 hq498 (h_r2.nz hn496)) cl_RL_145 h_r2 hn496 rfl rfl ⟨⟨by decide, by decide⟩, ⟨rfl, rfl⟩, by show c ≤ 600000; omega, by show s ≤ 7302250; omega⟩ (Nat.le_of_ble_eq_true rfl) (dk D_L_law 1051 rfl) ?_
        refine g_icmp_eq (tgt := 1754) (dk D_L_law 1052 rfl) rfl (fun hc500 => ?_) (fun hc500 => ?_)
        · refine g_wide (cs' := (c + 19, s + 95)) (by show c ≤ c + 19; omega) (by show s ≤ s + 95; omega) ?_
          exact hj1754 S q497.2 x3 h_r1 h_r2 hsx
        · refine g_iconst (v := (0 : Int32)) (dk D_L_law 1053 rfl) rfl ?_
          exact g_lawret ⟨rfl, rfl, rfl⟩ (by show c ≤ 600000; omega) (by show s ≤ 7302250; omega) (dk D_L_law 1054 rfl)
      refine g_ite (fun hc501 => ?_) (fun hc501 => ?_)
      · refine g_tabIn (tgt := 1453) (off := 1420) (dk D_L_law 21 rfl) (by rw [hc501] <;> decide +kernel) (by rw [hc501] <;> decide +kernel) (by rw [hc501] <;> decide +kernel) rfl ?_
        refine g_aload_n (dk D_L_law 1055 rfl) rfl ?_
        refine g_aloadS_n (dk D_L_law 1056 rfl) rfl ?_
        refine g_iload_n (dk D_L_law 1057 rfl) rfl ?_
        refine g_iconst (v := (1 : Int32)) (dk D_L_law 1058 rfl) rfl ?_
        refine g_iadd (dk D_L_law 1059 rfl) ?_
        refine g_gd (fun hi502 => ?_)
        refine g_scld hi502 (dk D_L_law 1060 rfl) ?_
        refine g_gd (fun hn503 => ?_)
        refine g_bind (fun q504 hq505 => ?_)
        refine h_callV (st := []) (c_X10_drop (E := E) fu S I (r1 - 1) (E.2.2.2.2.2.1.2.2 (nx (x3 + (1 : Int32)))) q504 hq505 (h_r1.nz hn503)) cl_RL_146 h_r1 hn503 rfl rfl ⟨⟨by decide, by decide⟩, ⟨rfl, rfl⟩, by show c ≤ 600000; omega, by show s ≤ 7302250; omega⟩ (Nat.le_of_ble_eq_true rfl) (dk D_L_law 1061 rfl) ?_
        refine g_aload_n (dk D_L_law 1062 rfl) rfl ?_
        refine g_aloadS_n (dk D_L_law 1063 rfl) rfl ?_
        refine g_iload_n (dk D_L_law 1064 rfl) rfl ?_
        refine g_iconst (v := (1 : Int32)) (dk D_L_law 1065 rfl) rfl ?_
        refine g_iadd (dk D_L_law 1066 rfl) ?_
        refine g_scld hi502 (dk D_L_law 1067 rfl) ?_
        refine g_gd (fun hn508 => ?_)
        refine g_bind (fun q509 hq510 => ?_)
        refine h_callV (st := [vI q504.1]) (c_X11_drop (E := E) fu S q504.2 (r2 - 1) (E.2.2.2.2.2.1.2.2 (nx (x3 + (1 : Int32)))) q509 hq510 (h_r2.nz hn508)) cl_RL_149 h_r2 hn508 rfl rfl ⟨⟨by decide, by decide⟩, ⟨rfl, rfl⟩, by show c ≤ 600000; omega, by show s ≤ 7302250; omega⟩ (Nat.le_of_ble_eq_true rfl) (dk D_L_law 1068 rfl) ?_
        refine g_icmp_eq (tgt := 1754) (dk D_L_law 1069 rfl) rfl (fun hc512 => ?_) (fun hc512 => ?_)
        · refine g_wide (cs' := (c + 19, s + 95)) (by show c ≤ c + 19; omega) (by show s ≤ s + 95; omega) ?_
          exact hj1754 S q509.2 x3 h_r1 h_r2 hsx
        · refine g_iconst (v := (0 : Int32)) (dk D_L_law 1070 rfl) rfl ?_
          exact g_lawret ⟨rfl, rfl, rfl⟩ (by show c ≤ 600000; omega) (by show s ≤ 7302250; omega) (dk D_L_law 1071 rfl)
      refine g_ite (fun hc513 => ?_) (fun hc513 => ?_)
      · refine g_tabIn (tgt := 1476) (off := 1443) (dk D_L_law 21 rfl) (by rw [hc513] <;> decide +kernel) (by rw [hc513] <;> decide +kernel) (by rw [hc513] <;> decide +kernel) rfl ?_
        refine g_aload_n (dk D_L_law 1072 rfl) rfl ?_
        refine g_aloadS_n (dk D_L_law 1073 rfl) rfl ?_
        refine g_iload_n (dk D_L_law 1074 rfl) rfl ?_
        refine g_iconst (v := (1 : Int32)) (dk D_L_law 1075 rfl) rfl ?_
        refine g_iadd (dk D_L_law 1076 rfl) ?_
        refine g_gd (fun hi514 => ?_)
        refine g_scld hi514 (dk D_L_law 1077 rfl) ?_
        refine g_aloadS_n (dk D_L_law 1078 rfl) rfl ?_
        refine g_iload_n (dk D_L_law 1079 rfl) rfl ?_
        refine g_iconst (v := (2 : Int32)) (dk D_L_law 1080 rfl) rfl ?_
        refine g_iadd (dk D_L_law 1081 rfl) ?_
        refine g_gd (fun hi515 => ?_)
        refine g_scld hi515 (dk D_L_law 1082 rfl) ?_
        refine g_aloadS_n (dk D_L_law 1083 rfl) rfl ?_
        refine g_iload_n (dk D_L_law 1084 rfl) rfl ?_
        refine g_iconst (v := (3 : Int32)) (dk D_L_law 1085 rfl) rfl ?_
        refine g_iadd (dk D_L_law 1086 rfl) ?_
        refine g_gd (fun hi516 => ?_)
        refine g_scld hi516 (dk D_L_law 1087 rfl) ?_
        refine g_gd (fun hn517 => ?_)
        refine g_bind (fun q518 hq519 => ?_)
        refine h_callV (st := []) (c_X10_put (E := E) fu S I (r1 - 1) (E.2.2.2.2.2.1.2.2 (nx (x3 + (1 : Int32)))) (E.2.2.2.2.2.1.2.2 (nx (x3 + (2 : Int32)))) (E.2.2.2.2.2.1.2.2 (nx (x3 + (3 : Int32)))) q518 hq519 (h_r1.nz hn517)) cl_RL_150 h_r1 hn517 rfl rfl ⟨⟨by decide, by decide⟩, ⟨rfl, rfl⟩, by show c ≤ 600000; omega, by show s ≤ 7302250; omega⟩ (Nat.le_of_ble_eq_true rfl) (dk D_L_law 1088 rfl) ?_
        refine g_aload_n (dk D_L_law 1089 rfl) rfl ?_
        refine g_aloadS_n (dk D_L_law 1090 rfl) rfl ?_
        refine g_iload_n (dk D_L_law 1091 rfl) rfl ?_
        refine g_iconst (v := (1 : Int32)) (dk D_L_law 1092 rfl) rfl ?_
        refine g_iadd (dk D_L_law 1093 rfl) ?_
        refine g_scld hi514 (dk D_L_law 1094 rfl) ?_
        refine g_aloadS_n (dk D_L_law 1095 rfl) rfl ?_
        refine g_iload_n (dk D_L_law 1096 rfl) rfl ?_
        refine g_iconst (v := (2 : Int32)) (dk D_L_law 1097 rfl) rfl ?_
        refine g_iadd (dk D_L_law 1098 rfl) ?_
        refine g_scld hi515 (dk D_L_law 1099 rfl) ?_
        refine g_aloadS_n (dk D_L_law 1100 rfl) rfl ?_
        refine g_iload_n (dk D_L_law 1101 rfl) rfl ?_
        refine g_iconst (v := (3 : Int32)) (dk D_L_law 1102 rfl) rfl ?_
        refine g_iadd (dk D_L_law 1103 rfl) ?_
        refine g_scld hi516 (dk D_L_law 1104 rfl) ?_
        refine g_gd (fun hn524 => ?_)
        refine g_bind (fun q525 hq526 => ?_)
        refine h_callV (st := [vI q518.1]) (c_X11_put (E := E) fu S q518.2 (r2 - 1) (E.2.2.2.2.2.1.2.2 (nx (x3 + (1 : Int32)))) (E.2.2.2.2.2.1.2.2 (nx (x3 + (2 : Int32)))) (E.2.2.2.2.2.1.2.2 (nx (x3 + (3 : Int32)))) q525 hq526 (h_r2.nz hn524)) cl_RL_153 h_r2 hn524 rfl rfl ⟨⟨by decide, by decide⟩, ⟨rfl, rfl⟩, by show c ≤ 600000; omega, by show s ≤ 7302250; omega⟩ (Nat.le_of_ble_eq_true rfl) (dk D_L_law 1105 rfl) ?_
        refine g_icmp_eq (tgt := 1754) (dk D_L_law 1106 rfl) rfl (fun hc528 => ?_) (fun hc528 => ?_)
        · refine g_wide (cs' := (c + 19, s + 95)) (by show c ≤ c + 19; omega) (by show s ≤ s + 95; omega) ?_
          exact hj1754 S q525.2 x3 h_r1 h_r2 hsx
        · refine g_iconst (v := (0 : Int32)) (dk D_L_law 1107 rfl) rfl ?_
          exact g_lawret ⟨rfl, rfl, rfl⟩ (by show c ≤ 600000; omega) (by show s ≤ 7302250; omega) (dk D_L_law 1108 rfl)
      refine g_ite (fun hc529 => ?_) (fun hc529 => ?_)
      · refine g_tabIn (tgt := 1519) (off := 1486) (dk D_L_law 21 rfl) (by rw [hc529] <;> decide +kernel) (by rw [hc529] <;> decide +kernel) (by rw [hc529] <;> decide +kernel) rfl ?_
        refine g_aload_n (dk D_L_law 1109 rfl) rfl ?_
        refine g_aloadS_n (dk D_L_law 1110 rfl) rfl ?_
        refine g_iload_n (dk D_L_law 1111 rfl) rfl ?_
        refine g_iconst (v := (1 : Int32)) (dk D_L_law 1112 rfl) rfl ?_
        refine g_iadd (dk D_L_law 1113 rfl) ?_
        refine g_gd (fun hi530 => ?_)
        refine g_scld hi530 (dk D_L_law 1114 rfl) ?_
        refine g_aloadS_n (dk D_L_law 1115 rfl) rfl ?_
        refine g_iload_n (dk D_L_law 1116 rfl) rfl ?_
        refine g_iconst (v := (2 : Int32)) (dk D_L_law 1117 rfl) rfl ?_
        refine g_iadd (dk D_L_law 1118 rfl) ?_
        refine g_gd (fun hi531 => ?_)
        refine g_scld hi531 (dk D_L_law 1119 rfl) ?_
        refine g_aloadS_n (dk D_L_law 1120 rfl) rfl ?_
        refine g_iload_n (dk D_L_law 1121 rfl) rfl ?_
        refine g_iconst (v := (3 : Int32)) (dk D_L_law 1122 rfl) rfl ?_
        refine g_iadd (dk D_L_law 1123 rfl) ?_
        refine g_gd (fun hi532 => ?_)
        refine g_scld hi532 (dk D_L_law 1124 rfl) ?_
        refine g_gd (fun hn533 => ?_)
        refine g_bind (fun q534 hq535 => ?_)
        refine h_callV (st := []) (c_X10_cell (E := E) fu S I (r1 - 1) (E.2.2.2.2.2.1.2.2 (nx (x3 + (1 : Int32)))) (E.2.2.2.2.2.1.2.2 (nx (x3 + (2 : Int32)))) (E.2.2.2.2.2.1.2.2 (nx (x3 + (3 : Int32)))) q534 hq535 (h_r1.nz hn533)) cl_RL_154 h_r1 hn533 rfl rfl ⟨⟨by decide, by decide⟩, ⟨rfl, rfl⟩, by show c ≤ 600000; omega, by show s ≤ 7302250; omega⟩ (Nat.le_of_ble_eq_true rfl) (dk D_L_law 1125 rfl) ?_
        refine g_aload_n (dk D_L_law 1126 rfl) rfl ?_
        refine g_aloadS_n (dk D_L_law 1127 rfl) rfl ?_
        refine g_iload_n (dk D_L_law 1128 rfl) rfl ?_
        refine g_iconst (v := (1 : Int32)) (dk D_L_law 1129 rfl) rfl ?_
        refine g_iadd (dk D_L_law 1130 rfl) ?_
        refine g_scld hi530 (dk D_L_law 1131 rfl) ?_
        refine g_aloadS_n (dk D_L_law 1132 rfl) rfl ?_
        refine g_iload_n (dk D_L_law 1133 rfl) rfl ?_
        refine g_iconst (v := (2 : Int32)) (dk D_L_law 1134 rfl) rfl ?_
        refine g_iadd (dk D_L_law 1135 rfl) ?_
        refine g_scld hi531 (dk D_L_law 1136 rfl) ?_
        refine g_aloadS_n (dk D_L_law 1137 rfl) rfl ?_
        refine g_iload_n (dk D_L_law 1138 rfl) rfl ?_
        refine g_iconst (v := (3 : Int32)) (dk D_L_law 1139 rfl) rfl ?_
        refine g_iadd (dk D_L_law 1140 rfl) ?_
        refine g_scld hi532 (dk D_L_law 1141 rfl) ?_
        refine g_gd (fun hn540 => ?_)
        refine g_bind (fun q541 hq542 => ?_)
        refine h_callV (st := [vL q534.1]) (c_X11_cell (E := E) fu S q534.2 (r2 - 1) (E.2.2.2.2.2.1.2.2 (nx (x3 + (1 : Int32)))) (E.2.2.2.2.2.1.2.2 (nx (x3 + (2 : Int32)))) (E.2.2.2.2.2.1.2.2 (nx (x3 + (3 : Int32)))) q541 hq542 (h_r2.nz hn540)) cl_RL_158 h_r2 hn540 rfl rfl ⟨⟨by decide, by decide⟩, ⟨rfl, rfl⟩, by show c ≤ 600000; omega, by show s ≤ 7302250; omega⟩ (Nat.le_of_ble_eq_true rfl) (dk D_L_law 1142 rfl) ?_
        refine g_lcmp (dk D_L_law 1143 rfl) ?_
        refine g_if_eq (tgt := 1754) (dk D_L_law 1144 rfl) rfl (fun hc544 => ?_) (fun hc544 => ?_)
        · refine g_wide (cs' := (c + 19, s + 95)) (by show c ≤ c + 19; omega) (by show s ≤ s + 95; omega) ?_
          exact hj1754 S q541.2 x3 h_r1 h_r2 hsx
        · refine g_iconst (v := (0 : Int32)) (dk D_L_law 1145 rfl) rfl ?_
          exact g_lawret ⟨rfl, rfl, rfl⟩ (by show c ≤ 600000; omega) (by show s ≤ 7302250; omega) (dk D_L_law 1146 rfl)
      refine g_ite (fun hc545 => ?_) (fun hc545 => ?_)
      · refine g_tabIn (tgt := 1563) (off := 1530) (dk D_L_law 21 rfl) (by rw [hc545] <;> decide +kernel) (by rw [hc545] <;> decide +kernel) (by rw [hc545] <;> decide +kernel) rfl ?_
        refine g_aload_n (dk D_L_law 1147 rfl) rfl ?_
        refine g_aloadS_n (dk D_L_law 1148 rfl) rfl ?_
        refine g_iload_n (dk D_L_law 1149 rfl) rfl ?_
        refine g_iconst (v := (1 : Int32)) (dk D_L_law 1150 rfl) rfl ?_
        refine g_iadd (dk D_L_law 1151 rfl) ?_
        refine g_gd (fun hi546 => ?_)
        refine g_scld hi546 (dk D_L_law 1152 rfl) ?_
        refine g_aloadS_n (dk D_L_law 1153 rfl) rfl ?_
        refine g_iload_n (dk D_L_law 1154 rfl) rfl ?_
        refine g_iconst (v := (2 : Int32)) (dk D_L_law 1155 rfl) rfl ?_
        refine g_iadd (dk D_L_law 1156 rfl) ?_
        refine g_gd (fun hi547 => ?_)
        refine g_scld hi547 (dk D_L_law 1157 rfl) ?_
        refine g_aloadS_n (dk D_L_law 1158 rfl) rfl ?_
        refine g_iload_n (dk D_L_law 1159 rfl) rfl ?_
        refine g_iconst (v := (3 : Int32)) (dk D_L_law 1160 rfl) rfl ?_
        refine g_iadd (dk D_L_law 1161 rfl) ?_
        refine g_gd (fun hi548 => ?_)
        refine g_scld hi548 (dk D_L_law 1162 rfl) ?_
        refine g_aloadS_n (dk D_L_law 1163 rfl) rfl ?_
        refine g_iload_n (dk D_L_law 1164 rfl) rfl ?_
        refine g_iconst (v := (4 : Int32)) (dk D_L_law 1165 rfl) rfl ?_
        refine g_iadd (dk D_L_law 1166 rfl) ?_
        refine g_gd (fun hi549 => ?_)
        refine g_scld hi549 (dk D_L_law 1167 rfl) ?_
        refine g_aloadS_n (dk D_L_law 1168 rfl) rfl ?_
        refine g_iload_n (dk D_L_law 1169 rfl) rfl ?_
        refine g_iconst (v := (5 : Int32)) (dk D_L_law 1170 rfl) rfl ?_
        refine g_iadd (dk D_L_law 1171 rfl) ?_
        refine g_gd (fun hi550 => ?_)
        refine g_scld hi550 (dk D_L_law 1172 rfl) ?_
        refine g_gd (fun hn551 => ?_)
        refine g_bind (fun q552 hq553 => ?_)
        refine h_callV (st := []) (c_X10_copy (E := E) fu S I (r1 - 1) (E.2.2.2.2.2.1.2.2 (nx (x3 + (1 : Int32)))) (E.2.2.2.2.2.1.2.2 (nx (x3 + (2 : Int32)))) (E.2.2.2.2.2.1.2.2 (nx (x3 + (3 : Int32)))) (E.2.2.2.2.2.1.2.2 (nx (x3 + (4 : Int32)))) (E.2.2.2.2.2.1.2.2 (nx (x3 + (5 : Int32)))) q552 hq553 (h_r1.nz hn551)) cl_RL_159 h_r1 hn551 rfl rfl ⟨⟨by decide, by decide⟩, ⟨rfl, rfl⟩, by show c ≤ 600000; omega, by show s ≤ 7302250; omega⟩ (Nat.le_of_ble_eq_true rfl) (dk D_L_law 1173 rfl) ?_
        refine g_aload_n (dk D_L_law 1174 rfl) rfl ?_
        refine g_aloadS_n (dk D_L_law 1175 rfl) rfl ?_
        refine g_iload_n (dk D_L_law 1176 rfl) rfl ?_
        refine g_iconst (v := (1 : Int32)) (dk D_L_law 1177 rfl) rfl ?_
        refine g_iadd (dk D_L_law 1178 rfl) ?_
        refine g_scld hi546 (dk D_L_law 1179 rfl) ?_
        refine g_aloadS_n (dk D_L_law 1180 rfl) rfl ?_
        refine g_iload_n (dk D_L_law 1181 rfl) rfl ?_
        refine g_iconst (v := (2 : Int32)) (dk D_L_law 1182 rfl) rfl ?_
        refine g_iadd (dk D_L_law 1183 rfl) ?_
        refine g_scld hi547 (dk D_L_law 1184 rfl) ?_
        refine g_aloadS_n (dk D_L_law 1185 rfl) rfl ?_
        refine g_iload_n (dk D_L_law 1186 rfl) rfl ?_
        refine g_iconst (v := (3 : Int32)) (dk D_L_law 1187 rfl) rfl ?_
        refine g_iadd (dk D_L_law 1188 rfl) ?_
        refine g_scld hi548 (dk D_L_law 1189 rfl) ?_
        refine g_aloadS_n (dk D_L_law 1190 rfl) rfl ?_
        refine g_iload_n (dk D_L_law 1191 rfl) rfl ?_
        refine g_iconst (v := (4 : Int32)) (dk D_L_law 1192 rfl) rfl ?_
        refine g_iadd (dk D_L_law 1193 rfl) ?_
        refine g_scld hi549 (dk D_L_law 1194 rfl) ?_
        refine g_aloadS_n (dk D_L_law 1195 rfl) rfl ?_
        refine g_iload_n (dk D_L_law 1196 rfl) rfl ?_
        refine g_iconst (v := (5 : Int32)) (dk D_L_law 1197 rfl) rfl ?_
        refine g_iadd (dk D_L_law 1198 rfl) ?_
        refine g_scld hi550 (dk D_L_law 1199 rfl) ?_
        refine g_gd (fun hn560 => ?_)
        refine g_bind (fun q561 hq562 => ?_)
        refine h_callV (st := [vI q552.1]) (c_X11_copy (E := E) fu S q552.2 (r2 - 1) (E.2.2.2.2.2.1.2.2 (nx (x3 + (1 : Int32)))) (E.2.2.2.2.2.1.2.2 (nx (x3 + (2 : Int32)))) (E.2.2.2.2.2.1.2.2 (nx (x3 + (3 : Int32)))) (E.2.2.2.2.2.1.2.2 (nx (x3 + (4 : Int32)))) (E.2.2.2.2.2.1.2.2 (nx (x3 + (5 : Int32)))) q561 hq562 (h_r2.nz hn560)) cl_RL_162 h_r2 hn560 rfl rfl ⟨⟨by decide, by decide⟩, ⟨rfl, rfl⟩, by show c ≤ 600000; omega, by show s ≤ 7302250; omega⟩ (Nat.le_of_ble_eq_true rfl) (dk D_L_law 1200 rfl) ?_
        refine g_icmp_eq (tgt := 1754) (dk D_L_law 1201 rfl) rfl (fun hc564 => ?_) (fun hc564 => ?_)
        · refine g_wide (cs' := (c + 19, s + 95)) (by show c ≤ c + 19; omega) (by show s ≤ s + 95; omega) ?_
          exact hj1754 S q561.2 x3 h_r1 h_r2 hsx
        · refine g_iconst (v := (0 : Int32)) (dk D_L_law 1202 rfl) rfl ?_
          exact g_lawret ⟨rfl, rfl, rfl⟩ (by show c ≤ 600000; omega) (by show s ≤ 7302250; omega) (dk D_L_law 1203 rfl)
      refine g_ite (fun hc565 => ?_) (fun hc565 => ?_)
      · refine g_tabIn (tgt := 1626) (off := 1593) (dk D_L_law 21 rfl) (by rw [hc565] <;> decide +kernel) (by rw [hc565] <;> decide +kernel) (by rw [hc565] <;> decide +kernel) rfl ?_
        refine g_aload_n (dk D_L_law 1204 rfl) rfl ?_
        refine g_aloadS_n (dk D_L_law 1205 rfl) rfl ?_
        refine g_iload_n (dk D_L_law 1206 rfl) rfl ?_
        refine g_iconst (v := (1 : Int32)) (dk D_L_law 1207 rfl) rfl ?_
        refine g_iadd (dk D_L_law 1208 rfl) ?_
        refine g_gd (fun hi566 => ?_)
        refine g_scld hi566 (dk D_L_law 1209 rfl) ?_
        refine g_gd (fun hn567 => ?_)
        refine g_bind (fun q568 hq569 => ?_)
        refine h_callV (st := []) (c_X10_tell (E := E) fu S I (r1 - 1) (E.2.2.2.2.2.1.2.2 (nx (x3 + (1 : Int32)))) q568 hq569 (h_r1.nz hn567)) cl_RL_163 h_r1 hn567 rfl rfl ⟨⟨by decide, by decide⟩, ⟨rfl, rfl⟩, by show c ≤ 600000; omega, by show s ≤ 7302250; omega⟩ (Nat.le_of_ble_eq_true rfl) (dk D_L_law 1210 rfl) ?_
        refine g_aload_n (dk D_L_law 1211 rfl) rfl ?_
        refine g_aloadS_n (dk D_L_law 1212 rfl) rfl ?_
        refine g_iload_n (dk D_L_law 1213 rfl) rfl ?_
        refine g_iconst (v := (1 : Int32)) (dk D_L_law 1214 rfl) rfl ?_
        refine g_iadd (dk D_L_law 1215 rfl) ?_
        refine g_scld hi566 (dk D_L_law 1216 rfl) ?_
        refine g_gd (fun hn572 => ?_)
        refine g_bind (fun q573 hq574 => ?_)
        refine h_callV (st := [vI q568.1]) (c_X11_tell (E := E) fu S q568.2 (r2 - 1) (E.2.2.2.2.2.1.2.2 (nx (x3 + (1 : Int32)))) q573 hq574 (h_r2.nz hn572)) cl_RL_166 h_r2 hn572 rfl rfl ⟨⟨by decide, by decide⟩, ⟨rfl, rfl⟩, by show c ≤ 600000; omega, by show s ≤ 7302250; omega⟩ (Nat.le_of_ble_eq_true rfl) (dk D_L_law 1217 rfl) ?_
        refine g_icmp_eq (tgt := 1754) (dk D_L_law 1218 rfl) rfl (fun hc576 => ?_) (fun hc576 => ?_)
        · refine g_wide (cs' := (c + 19, s + 95)) (by show c ≤ c + 19; omega) (by show s ≤ s + 95; omega) ?_
          exact hj1754 S q573.2 x3 h_r1 h_r2 hsx
        · refine g_iconst (v := (0 : Int32)) (dk D_L_law 1219 rfl) rfl ?_
          exact g_lawret ⟨rfl, rfl, rfl⟩ (by show c ≤ 600000; omega) (by show s ≤ 7302250; omega) (dk D_L_law 1220 rfl)
      refine g_ite (fun hc577 => ?_) (fun hc577 => ?_)
      · refine g_tabIn (tgt := 1649) (off := 1616) (dk D_L_law 21 rfl) (by rw [hc577] <;> decide +kernel) (by rw [hc577] <;> decide +kernel) (by rw [hc577] <;> decide +kernel) rfl ?_
        refine g_aload_n (dk D_L_law 1221 rfl) rfl ?_
        refine g_aloadS_n (dk D_L_law 1222 rfl) rfl ?_
        refine g_iload_n (dk D_L_law 1223 rfl) rfl ?_
        refine g_iconst (v := (1 : Int32)) (dk D_L_law 1224 rfl) rfl ?_
        refine g_iadd (dk D_L_law 1225 rfl) ?_
        refine g_gd (fun hi578 => ?_)
        refine g_scld hi578 (dk D_L_law 1226 rfl) ?_
        refine g_gd (fun hn579 => ?_)
        refine g_bind (fun q580 hq581 => ?_)
        refine h_callV (st := []) (c_X10_hail (E := E) fu S I (r1 - 1) (E.2.2.2.2.2.1.2.2 (nx (x3 + (1 : Int32)))) q580 hq581 (h_r1.nz hn579)) cl_RL_167 h_r1 hn579 rfl rfl ⟨⟨by decide, by decide⟩, ⟨rfl, rfl⟩, by show c ≤ 600000; omega, by show s ≤ 7302250; omega⟩ (Nat.le_of_ble_eq_true rfl) (dk D_L_law 1227 rfl) ?_
        refine g_aload_n (dk D_L_law 1228 rfl) rfl ?_
        refine g_aloadS_n (dk D_L_law 1229 rfl) rfl ?_
        refine g_iload_n (dk D_L_law 1230 rfl) rfl ?_
        refine g_iconst (v := (1 : Int32)) (dk D_L_law 1231 rfl) rfl ?_
        refine g_iadd (dk D_L_law 1232 rfl) ?_
        refine g_scld hi578 (dk D_L_law 1233 rfl) ?_
        refine g_gd (fun hn584 => ?_)
        refine g_bind (fun q585 hq586 => ?_)
        refine h_callV (st := [vI q580.1]) (c_X11_hail (E := E) fu S q580.2 (r2 - 1) (E.2.2.2.2.2.1.2.2 (nx (x3 + (1 : Int32)))) q585 hq586 (h_r2.nz hn584)) cl_RL_170 h_r2 hn584 rfl rfl ⟨⟨by decide, by decide⟩, ⟨rfl, rfl⟩, by show c ≤ 600000; omega, by show s ≤ 7302250; omega⟩ (Nat.le_of_ble_eq_true rfl) (dk D_L_law 1234 rfl) ?_
        refine g_icmp_eq (tgt := 1754) (dk D_L_law 1235 rfl) rfl (fun hc588 => ?_) (fun hc588 => ?_)
        · refine g_wide (cs' := (c + 19, s + 95)) (by show c ≤ c + 19; omega) (by show s ≤ s + 95; omega) ?_
          exact hj1754 S q585.2 x3 h_r1 h_r2 hsx
        · refine g_iconst (v := (0 : Int32)) (dk D_L_law 1236 rfl) rfl ?_
          exact g_lawret ⟨rfl, rfl, rfl⟩ (by show c ≤ 600000; omega) (by show s ≤ 7302250; omega) (dk D_L_law 1237 rfl)
      refine g_ite (fun hc589 => ?_) (fun hc589 => ?_)
      · refine g_tabIn (tgt := 1672) (off := 1639) (dk D_L_law 21 rfl) (by rw [hc589] <;> decide +kernel) (by rw [hc589] <;> decide +kernel) (by rw [hc589] <;> decide +kernel) rfl ?_
        refine g_aload_n (dk D_L_law 1238 rfl) rfl ?_
        refine g_aloadS_n (dk D_L_law 1239 rfl) rfl ?_
        refine g_iload_n (dk D_L_law 1240 rfl) rfl ?_
        refine g_iconst (v := (1 : Int32)) (dk D_L_law 1241 rfl) rfl ?_
        refine g_iadd (dk D_L_law 1242 rfl) ?_
        refine g_gd (fun hi590 => ?_)
        refine g_scld hi590 (dk D_L_law 1243 rfl) ?_
        refine g_aloadS_n (dk D_L_law 1244 rfl) rfl ?_
        refine g_iload_n (dk D_L_law 1245 rfl) rfl ?_
        refine g_iconst (v := (2 : Int32)) (dk D_L_law 1246 rfl) rfl ?_
        refine g_iadd (dk D_L_law 1247 rfl) ?_
        refine g_gd (fun hi591 => ?_)
        refine g_scld hi591 (dk D_L_law 1248 rfl) ?_
        refine g_gd (fun hn592 => ?_)
        refine g_bind (fun q593 hq594 => ?_)
        refine h_callV (st := []) (c_X10_as (E := E) fu S I (r1 - 1) (E.2.2.2.2.2.1.2.2 (nx (x3 + (1 : Int32)))) (E.2.2.2.2.2.1.2.2 (nx (x3 + (2 : Int32)))) q593 hq594 (h_r1.nz hn592)) cl_RL_171 h_r1 hn592 rfl rfl ⟨⟨by decide, by decide⟩, ⟨rfl, rfl⟩, by show c ≤ 600000; omega, by show s ≤ 7302250; omega⟩ (Nat.le_of_ble_eq_true rfl) (dk D_L_law 1249 rfl) ?_
        refine g_aload_n (dk D_L_law 1250 rfl) rfl ?_
        refine g_aloadS_n (dk D_L_law 1251 rfl) rfl ?_
        refine g_iload_n (dk D_L_law 1252 rfl) rfl ?_
        refine g_iconst (v := (1 : Int32)) (dk D_L_law 1253 rfl) rfl ?_
        refine g_iadd (dk D_L_law 1254 rfl) ?_
        refine g_scld hi590 (dk D_L_law 1255 rfl) ?_
        refine g_aloadS_n (dk D_L_law 1256 rfl) rfl ?_
        refine g_iload_n (dk D_L_law 1257 rfl) rfl ?_
        refine g_iconst (v := (2 : Int32)) (dk D_L_law 1258 rfl) rfl ?_
        refine g_iadd (dk D_L_law 1259 rfl) ?_
        refine g_scld hi591 (dk D_L_law 1260 rfl) ?_
        refine g_gd (fun hn598 => ?_)
        refine g_bind (fun q599 hq600 => ?_)
        refine h_callV (st := [vI q593.1]) (c_X11_as (E := E) fu S q593.2 (r2 - 1) (E.2.2.2.2.2.1.2.2 (nx (x3 + (1 : Int32)))) (E.2.2.2.2.2.1.2.2 (nx (x3 + (2 : Int32)))) q599 hq600 (h_r2.nz hn598)) cl_RL_174 h_r2 hn598 rfl rfl ⟨⟨by decide, by decide⟩, ⟨rfl, rfl⟩, by show c ≤ 600000; omega, by show s ≤ 7302250; omega⟩ (Nat.le_of_ble_eq_true rfl) (dk D_L_law 1261 rfl) ?_
        refine g_icmp_eq (tgt := 1754) (dk D_L_law 1262 rfl) rfl (fun hc602 => ?_) (fun hc602 => ?_)
        · refine g_wide (cs' := (c + 19, s + 95)) (by show c ≤ c + 19; omega) (by show s ≤ s + 95; omega) ?_
          exact hj1754 S q599.2 x3 h_r1 h_r2 hsx
        · refine g_iconst (v := (0 : Int32)) (dk D_L_law 1263 rfl) rfl ?_
          exact g_lawret ⟨rfl, rfl, rfl⟩ (by show c ≤ 600000; omega) (by show s ≤ 7302250; omega) (dk D_L_law 1264 rfl)
      refine g_ite (fun hc603 => ?_) (fun hc603 => ?_)
      · refine g_tabIn (tgt := 1705) (off := 1672) (dk D_L_law 21 rfl) (by rw [hc603] <;> decide +kernel) (by rw [hc603] <;> decide +kernel) (by rw [hc603] <;> decide +kernel) rfl ?_
        refine g_aload_n (dk D_L_law 1265 rfl) rfl ?_
        refine g_gd (fun hn604 => ?_)
        refine h_callV (st := []) (c_X10_trace (E := E) S I (r1 - 1) (h_r1.nz hn604)) cl_RL_175 h_r1 hn604 rfl rfl ⟨⟨by decide, by decide⟩, ⟨rfl, rfl⟩, by show c ≤ 600000; omega, by show s ≤ 7302250; omega⟩ (Nat.le_of_ble_eq_true rfl) (dk D_L_law 1266 rfl) ?_
        refine g_aload_n (dk D_L_law 1267 rfl) rfl ?_
        refine g_gd (fun hn606 => ?_)
        refine h_callV (st := [vI (t_X10_trace I (r1 - 1))]) (c_X11_trace (E := E) S I (r2 - 1) (h_r2.nz hn606)) cl_RL_178 h_r2 hn606 rfl rfl ⟨⟨by decide, by decide⟩, ⟨rfl, rfl⟩, by show c ≤ 600000; omega, by show s ≤ 7302250; omega⟩ (Nat.le_of_ble_eq_true rfl) (dk D_L_law 1268 rfl) ?_
        refine g_icmp_eq (tgt := 1754) (dk D_L_law 1269 rfl) rfl (fun hc608 => ?_) (fun hc608 => ?_)
        · refine g_wide (cs' := (c + 19, s + 95)) (by show c ≤ c + 19; omega) (by show s ≤ s + 95; omega) ?_
          exact hj1754 S I x3 h_r1 h_r2 hsx
        · refine g_iconst (v := (0 : Int32)) (dk D_L_law 1270 rfl) rfl ?_
          exact g_lawret ⟨rfl, rfl, rfl⟩ (by show c ≤ 600000; omega) (by show s ≤ 7302250; omega) (dk D_L_law 1271 rfl)
      refine g_ite (fun hc609 => ?_) (fun hc609 => ?_)
      · refine g_tabIn (tgt := 1718) (off := 1685) (dk D_L_law 21 rfl) (by rw [hc609] <;> decide +kernel) (by rw [hc609] <;> decide +kernel) (by rw [hc609] <;> decide +kernel) rfl ?_
        refine g_aload_n (dk D_L_law 1272 rfl) rfl ?_
        refine g_gd (fun hn610 => ?_)
        refine h_callV (st := []) (c_X10_fault (E := E) S I (r1 - 1) (h_r1.nz hn610)) cl_RL_179 h_r1 hn610 rfl rfl ⟨⟨by decide, by decide⟩, ⟨rfl, rfl⟩, by show c ≤ 600000; omega, by show s ≤ 7302250; omega⟩ (Nat.le_of_ble_eq_true rfl) (dk D_L_law 1273 rfl) ?_
        refine g_aload_n (dk D_L_law 1274 rfl) rfl ?_
        refine g_gd (fun hn612 => ?_)
        refine h_callV (st := [vI (t_X10_fault I (r1 - 1))]) (c_X11_fault (E := E) S I (r2 - 1) (h_r2.nz hn612)) cl_RL_182 h_r2 hn612 rfl rfl ⟨⟨by decide, by decide⟩, ⟨rfl, rfl⟩, by show c ≤ 600000; omega, by show s ≤ 7302250; omega⟩ (Nat.le_of_ble_eq_true rfl) (dk D_L_law 1275 rfl) ?_
        refine g_icmp_eq (tgt := 1754) (dk D_L_law 1276 rfl) rfl (fun hc614 => ?_) (fun hc614 => ?_)
        · refine g_wide (cs' := (c + 19, s + 95)) (by show c ≤ c + 19; omega) (by show s ≤ s + 95; omega) ?_
          exact hj1754 S I x3 h_r1 h_r2 hsx
        · refine g_iconst (v := (0 : Int32)) (dk D_L_law 1277 rfl) rfl ?_
          exact g_lawret ⟨rfl, rfl, rfl⟩ (by show c ≤ 600000; omega) (by show s ≤ 7302250; omega) (dk D_L_law 1278 rfl)
      refine g_ite (fun hc615 => ?_) (fun hc615 => ?_)
      · refine g_tabIn (tgt := 1731) (off := 1698) (dk D_L_law 21 rfl) (by rw [hc615] <;> decide +kernel) (by rw [hc615] <;> decide +kernel) (by rw [hc615] <;> decide +kernel) rfl ?_
        refine g_aload_n (dk D_L_law 1279 rfl) rfl ?_
        refine g_aloadS_n (dk D_L_law 1280 rfl) rfl ?_
        refine g_iload_n (dk D_L_law 1281 rfl) rfl ?_
        refine g_iconst (v := (1 : Int32)) (dk D_L_law 1282 rfl) rfl ?_
        refine g_iadd (dk D_L_law 1283 rfl) ?_
        refine g_gd (fun hi616 => ?_)
        refine g_scld hi616 (dk D_L_law 1284 rfl) ?_
        refine g_gd (fun hn617 => ?_)
        refine g_bind (fun q618 hq619 => ?_)
        refine h_callV (st := []) (c_X10_many (E := E) fu S I (r1 - 1) (E.2.2.2.2.2.1.2.2 (nx (x3 + (1 : Int32)))) q618 hq619 (h_r1.nz hn617)) cl_RL_183 h_r1 hn617 rfl rfl ⟨⟨by decide, by decide⟩, ⟨rfl, rfl⟩, by show c ≤ 600000; omega, by show s ≤ 7302250; omega⟩ (Nat.le_of_ble_eq_true rfl) (dk D_L_law 1285 rfl) ?_
        refine g_aload_n (dk D_L_law 1286 rfl) rfl ?_
        refine g_aloadS_n (dk D_L_law 1287 rfl) rfl ?_
        refine g_iload_n (dk D_L_law 1288 rfl) rfl ?_
        refine g_iconst (v := (1 : Int32)) (dk D_L_law 1289 rfl) rfl ?_
        refine g_iadd (dk D_L_law 1290 rfl) ?_
        refine g_scld hi616 (dk D_L_law 1291 rfl) ?_
        refine g_gd (fun hn622 => ?_)
        refine g_bind (fun q623 hq624 => ?_)
        refine h_callV (st := [vI q618]) (c_X11_many (E := E) fu S I (r2 - 1) (E.2.2.2.2.2.1.2.2 (nx (x3 + (1 : Int32)))) q623 hq624 (h_r2.nz hn622)) cl_RL_186 h_r2 hn622 rfl rfl ⟨⟨by decide, by decide⟩, ⟨rfl, rfl⟩, by show c ≤ 600000; omega, by show s ≤ 7302250; omega⟩ (Nat.le_of_ble_eq_true rfl) (dk D_L_law 1292 rfl) ?_
        refine g_icmp_eq (tgt := 1754) (dk D_L_law 1293 rfl) rfl (fun hc626 => ?_) (fun hc626 => ?_)
        · refine g_wide (cs' := (c + 19, s + 95)) (by show c ≤ c + 19; omega) (by show s ≤ s + 95; omega) ?_
          exact hj1754 S I x3 h_r1 h_r2 hsx
        · refine g_iconst (v := (0 : Int32)) (dk D_L_law 1294 rfl) rfl ?_
          exact g_lawret ⟨rfl, rfl, rfl⟩ (by show c ≤ 600000; omega) (by show s ≤ 7302250; omega) (dk D_L_law 1295 rfl)
      refine g_tabOut (tgt := 1754) (dk D_L_law 21 rfl) (tabOut (n := 41) (by decide) (fun k hk => (match k, hk with | 0, _ => hc28 | 1, _ => hc42 | 2, _ => hc72 | 3, _ => hc88 | 4, _ => hc102 | 5, _ => hc116 | 6, _ => hc132 | 7, _ => hc146 | 8, _ => hc168 | 9, _ => hc182 | 10, _ => hc196 | 11, _ => hc210 | 12, _ => hc222 | 13, _ => hc246 | 14, _ => hc262 | 15, _ => hc278 | 16, _ => hc294 | 17, _ => hc310 | 18, _ => hc330 | 19, _ => hc350 | 20, _ => hc364 | 21, _ => hc378 | 22, _ => hc388 | 23, _ => hc393 | 24, _ => hc407 | 25, _ => hc411 | 26, _ => hc429 | 27, _ => hc445 | 28, _ => hc457 | 29, _ => hc473 | 30, _ => hc485 | 31, _ => hc501 | 32, _ => hc513 | 33, _ => hc529 | 34, _ => hc545 | 35, _ => hc565 | 36, _ => hc577 | 37, _ => hc589 | 38, _ => hc603 | 39, _ => hc609 | 40, _ => hc615 | k + 41, hk => absurd hk (by omega)))) rfl ?_
      refine g_wide (cs' := (c + 19, s + 95)) (by show c ≤ c + 19; omega) (by show s ≤ s + 95; omega) ?_
      exact hj1754 S I x3 h_r1 h_r2 hsx
  unfold f_L_law
  refine g_new nw_RL_7 (by show 0 + 1 ≤ 600000; omega) (by show 0 + 19 ≤ 7302250; omega) (dk D_L_law 0 rfl) ?_
  refine g_wide (cs' := (1, 19)) (by show 0 + 1 ≤ 1; omega) (by show 0 + 19 ≤ 19; omega) ?_
  refine g_ltS (fun S627 eS627 => ?_)
  refine g_ltI (fun I628 eI628 => ?_)
  have hx629 : Sx S0 S627 := eS627 ▸ nwS_x
  have hsx630 := Sx.tr Sx.rf hx629
  have ht631 : tyR S627 10 (S0.2.2.2 + 1) := eS627 ▸ nwS_ty.R
  refine g_dup (dk D_L_law 1 rfl) rfl ?_
  refine g_bind (fun q632 hq633 => ?_)
  refine g_callI (st := [vA (S0.2.2.2 + 1)]) (c_X10_init (E := E) fu S627 I628 S0.2.2.2 q632 hq633 (ht631.nz (Nat.succ_ne_zero _))) cl_RL_9 rfl si_X10_init rfl rfl rfl ⟨⟨by decide, by decide⟩, by show 1 + 41 ≤ 600000; omega, by show 19 + 8921 ≤ 7302250; omega⟩ (Nat.le_of_ble_eq_true rfl) (dk D_L_law 2 rfl) (fun hx635 => ?_)
  refine g_wide (cs' := (42, 8940)) (by show 1 + 41 ≤ 42; omega) (by show 19 + 8921 ≤ 8940; omega) ?_
  have ht636 := ht631.x hx635
  have hsx637 := Sx.tr hsx630 hx635
  refine g_astore_n (L' := [(0, vS false), (1, vA (S0.2.2.2 + 1))]) (dk D_L_law 3 rfl) (Nat.le_of_ble_eq_true rfl) rfl ?_
  refine g_new nw_RL_10 (by show 42 + 1 ≤ 600000; omega) (by show 8940 + 57 ≤ 7302250; omega) (dk D_L_law 4 rfl) ?_
  refine g_wide (cs' := (43, 8997)) (by show 42 + 1 ≤ 43; omega) (by show 8940 + 57 ≤ 8997; omega) ?_
  refine g_ltS (fun S638 eS638 => ?_)
  refine g_ltI (fun I639 eI639 => ?_)
  have hx640 : Sx q632.1 S638 := eS638 ▸ nwS_x
  have ht641 := ht636.x hx640
  have hsx642 := Sx.tr hsx637 hx640
  have ht643 : tyR S638 11 (q632.1.2.2.2 + 1) := eS638 ▸ nwS_ty.R
  refine g_dup (dk D_L_law 5 rfl) rfl ?_
  refine g_bind (fun q644 hq645 => ?_)
  refine g_callI (st := [vA (q632.1.2.2.2 + 1)]) (c_X11_init (E := E) fu S638 I639 q632.1.2.2.2 q644 hq645 (ht643.nz (Nat.succ_ne_zero _))) cl_RL_12 rfl si_X11_init rfl rfl rfl ⟨⟨by decide, by decide⟩, by show 43 + 38 ≤ 600000; omega, by show 8997 + 3404 ≤ 7302250; omega⟩ (Nat.le_of_ble_eq_true rfl) (dk D_L_law 6 rfl) (fun hx647 => ?_)
  refine g_wide (cs' := (81, 12401)) (by show 43 + 38 ≤ 81; omega) (by show 8997 + 3404 ≤ 12401; omega) ?_
  have ht648 := ht641.x hx647
  have ht649 := ht643.x hx647
  have hsx650 := Sx.tr hsx642 hx647
  refine g_astore_n (L' := [(0, vS false), (1, vA (S0.2.2.2 + 1)), (2, vA (q632.1.2.2.2 + 1))]) (dk D_L_law 7 rfl) (Nat.le_of_ble_eq_true rfl) rfl ?_
  refine g_iconst (v := (0 : Int32)) (dk D_L_law 8 rfl) rfl ?_
  refine g_istore_n (L' := [(0, vS false), (1, vA (S0.2.2.2 + 1)), (2, vA (q632.1.2.2.2 + 1)), (3, vI (0 : Int32))]) (dk D_L_law 9 rfl) (Nat.le_of_ble_eq_true rfl) rfl ?_
  exact hl18 (S0.2.2.2 + 1) (q632.1.2.2.2 + 1) 513 (81) (12401) (by omega) (by omega) (0 : Int32) q644.1 q644.2 ⟨ht648, ht649, hsx650⟩
