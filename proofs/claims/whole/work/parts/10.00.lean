theorem inG0 : ∀ w ∈ u_ws RX0 TX0 3, w ∈ lw_good := gmL [768, 770, 772] (by decide +kernel) (by decide +kernel)
theorem inG1 : ∀ w ∈ u_ws RX1 TX1 11, w ∈ lw_good := gmL [447, 449, 451, 453, 455, 457, 459, 461, 463, 465, 467] (by decide +kernel) (by decide +kernel)
theorem inG2 : ∀ w ∈ u_ws RX2 TX2 6, w ∈ lw_good := gmL [111, 113, 115, 117, 119, 121] (by decide +kernel) (by decide +kernel)
theorem inG3 : ∀ w ∈ u_ws RX3 TX3 8, w ∈ lw_good := gmL [223, 225, 227, 229, 231, 233, 235, 237] (by decide +kernel) (by decide +kernel)
theorem inG4 : ∀ w ∈ u_ws RX4 TX4 11, w ∈ lw_good := gmL [183, 185, 187, 189, 191, 193, 195, 197, 199, 201, 203] (by decide +kernel) (by decide +kernel)
theorem inG5 : ∀ w ∈ u_ws RX5 TX5 4, w ∈ lw_good := gmL [254, 256, 258, 260] (by decide +kernel) (by decide +kernel)
theorem inG6 : ∀ w ∈ u_ws RX6 TX6 3, w ∈ lw_good := gmL [737, 739, 741] (by decide +kernel) (by decide +kernel)
theorem inG7 : ∀ w ∈ u_ws RX7 TX7 1, w ∈ lw_good := gmL [538] (by decide +kernel) (by decide +kernel)
theorem inG8 : ∀ w ∈ u_ws RX8 TX8 5, w ∈ lw_good := gmL [624, 626, 628, 630, 632] (by decide +kernel) (by decide +kernel)
theorem inG9 : ∀ w ∈ u_ws RX9 TX9 7, w ∈ lw_good := gmL [146, 148, 150, 152, 154, 156, 158] (by decide +kernel) (by decide +kernel)
theorem inG10 : ∀ w ∈ u_ws RX10 TX10 19, w ∈ lw_good := gmL [282, 284, 286, 288, 290, 292, 294, 296, 298, 300, 302, 304, 306, 308, 310, 312, 314, 316, 318] (by decide +kernel) (by decide +kernel)
theorem inG11 : ∀ w ∈ u_ws RX11 TX11 57, w ∈ lw_good := gmL [1035, 1037, 1039, 1041, 1043, 1045, 1047, 1049, 1051, 1053, 1055, 1057, 1059, 1061, 1063, 1065, 1067, 1069, 1071, 1073, 1075, 1077, 1079, 1081, 1083, 1085, 1087, 1089, 1091, 1093, 1095, 1097, 1099, 1101, 1103, 1105, 1107, 1109, 1111, 1113, 1115, 1117, 1119, 1121, 1123, 1125, 1127, 1129, 1131, 1133, 1135, 1137, 1139, 1141, 1143, 1145, 1147] (by decide +kernel) (by decide +kernel)
def i_X4_leastFrom (dd : Nat) : MI := (RX4, cX4_leastFrom, 5, (some .int), "leastFrom", { frames := 2 * dd + 1, cells := 0, slots := 0, locals := 48 * dd + 24 })
def i_X4_leastWith (dd : Nat) : MI := (RX4, cX4_leastWith, 5, (some .int), "leastWith", { frames := 2 * dd + 2, cells := 0, slots := 0, locals := 48 * dd + 48 })
def i_X3_goOn (dd : Nat) : MI := (RX3, cX3_goOn, 8, none, "goOn", { frames := dd + 1, cells := 0, slots := 0, locals := 27 * dd + 100 })
theorem lk_RX0_1 : Cond.methodLink RX0 1 Lib.objectInit ∈ lw_good := (gm 761 (by decide +kernel) (by decide +kernel))
theorem lk_oi : Cond.instanceMethod Lib.objectInit ∈ lw_good := (gm 88 (by decide +kernel) (by decide +kernel))
theorem lk_oc : Cond.code Lib.objectInit ⟨#[0xb1]⟩ 1 none ∈ lw_good := (gm 89 (by decide +kernel) (by decide +kernel))
theorem fl_RX0_7 : FL RX0 7 0 0 := ⟨RX0, TX0, 3, rfl, by decide, rfl, by decide, (gm 762 (by decide +kernel) (by decide +kernel)), inG0⟩
theorem fp_0_0 : FP 0 0 (tyX0 0) true := ⟨RX0, TX0, 3, tyX0, rfl, tyX0_ok, nmX0, rfl, rfl, rfl⟩
theorem ff_RX0 : FI RX0 "<init>" 0 true := fun _ => ⟨rfl, fun q h => by cases h; rfl⟩
theorem fl_RX0_13 : FL RX0 13 0 1 := ⟨RX0, TX0, 3, rfl, by decide, rfl, by decide, (gm 764 (by decide +kernel) (by decide +kernel)), inG0⟩
theorem fp_0_1 : FP 0 1 (tyX0 1) true := ⟨RX0, TX0, 3, tyX0, rfl, tyX0_ok, nmX0, rfl, rfl, rfl⟩
theorem fl_RX0_16 : FL RX0 16 0 2 := ⟨RX0, TX0, 3, rfl, by decide, rfl, by decide, (gm 766 (by decide +kernel) (by decide +kernel)), inG0⟩
theorem fp_0_2 : FP 0 2 (tyX0 2) true := ⟨RX0, TX0, 3, tyX0, rfl, tyX0_ok, nmX0, rfl, rfl, rfl⟩
def tb_X0_init : List (Nat × Instr × Nat) := [(0, .aload_n 0, 1), (1, .invokespecial 1, 3), (4, .aload_n 0, 1), (5, .iload_n 1, 1), (6, .putfield 7, 3), (9, .aload_n 0, 1), (10, .iload_n 2, 1), (11, .putfield 13, 3), (14, .aload_n 0, 1), (15, .iload_n 3, 1), (16, .putfield 16, 3), (19, .return_, 1)]
def i_X0_init : MI := (RX0, cX0_init, 4, none, "<init>", { frames := 1, cells := 0, slots := 0, locals := 80 })
theorem D_X0_init : tbOK (i_X0_init).2.1 tb_X0_init := by show ∀ q ∈ tb_X0_init, decode cX0_init q.1 = .ok (q.2.1, q.2.2); decide +kernel
def po_X0_init (S : Sk) (I : II) (r : II) : Option LV × Sk × II := (none, S, r)
def f_X0_init (fu : Nat) (S : Sk) (I : II) (a0 : Nat) (x1 : Int32) (x2 : Int32) (x3 : Int32) : Option (II) :=
  lt (upI I a0 0 x1) fun I1 => (lt (upI I1 a0 1 x2) fun I2 => (lt (upI I2 a0 2 x3) fun I3 => (some (I3))))
set_option maxRecDepth 100000 in
set_option maxHeartbeats 4000000 in
theorem gg_X0_init {E : EV} (fu : Nat) (S0 : Sk) (I0 : II) (a0 : Nat) (x1 : Int32) (x2 : Int32) (x3 : Int32) (ht0 : tyO S0 0 a0) : GG E i_X0_init (enM E i_X0_init S0 (po_X0_init S0 I0)) S0 I0 (0, 0) 0 [(0, vA (a0 + 1)), (1, vI x1), (2, vI x2), (3, vI x3)] [] (f_X0_init fu S0 I0 a0 x1 x2 x3) := by
  unfold f_X0_init
  refine g_aload_n (dk D_X0_init 0 rfl) rfl ?_
  refine g_objInit lk_RX0_1 lk_oi lk_oc (Nat.succ_ne_zero _) (by decide) (by rw [wid_sum]; exact Nat.le_of_ble_eq_true rfl) (dk D_X0_init 1 rfl) ?_
  refine g_aload_n (dk D_X0_init 2 rfl) rfl ?_
  refine g_iload_n (dk D_X0_init 3 rfl) rfl ?_
  refine g_putIt fl_RX0_7 fp_0_0 ff_RX0 (by decide) rfl rfl ht0 (dk D_X0_init 4 rfl) ?_
  refine g_ltI (fun I1 eI1 => ?_)
  refine g_aload_n (dk D_X0_init 5 rfl) rfl ?_
  refine g_iload_n (dk D_X0_init 6 rfl) rfl ?_
  refine g_putIt fl_RX0_13 fp_0_1 ff_RX0 (by decide) rfl rfl ht0 (dk D_X0_init 7 rfl) ?_
  refine g_ltI (fun I2 eI2 => ?_)
  refine g_aload_n (dk D_X0_init 8 rfl) rfl ?_
  refine g_iload_n (dk D_X0_init 9 rfl) rfl ?_
  refine g_putIt fl_RX0_16 fp_0_2 ff_RX0 (by decide) rfl rfl ht0 (dk D_X0_init 10 rfl) ?_
  refine g_ltI (fun I3 eI3 => ?_)
  exact g_return rfl rfl Sx.rf rfl (by decide) (by decide) (dk D_X0_init 11 rfl)
theorem c_X0_init {E : EV} (fu : Nat) (S0 : Sk) (I0 : II) (a0 : Nat) (x1 : Int32) (x2 : Int32) (x3 : Int32) (r : II) (h : f_X0_init fu S0 I0 a0 x1 x2 x3 = some r) (ht0 : tyO S0 0 a0) : MX E yX0_init i_X0_init S0 I0 [vA (a0 + 1), vI x1, vI x2, vI x3] (po_X0_init S0 I0 r) :=
  MX.of h (by decide) rfl rfl (Nat.le_of_ble_eq_true rfl) (gg_X0_init fu S0 I0 a0 x1 x2 x3 ht0)
theorem lk_RX1_37 : Cond.methodLink RX1 37 Lib.Math.max.name ∈ lw_good := (gm 413 (by decide +kernel) (by decide +kernel))
theorem lk_mmax : Cond.static Lib.Math.max.name ∈ lw_good ∧ Cond.initialized "java/lang/Math" ∈ lw_good ∧ Cond.code Lib.Math.max.name Lib.Math.max.code 2 (some .int) ∈ lw_good := ⟨(gm 414 (by decide +kernel) (by decide +kernel)), (gm 73 (by decide +kernel) (by decide +kernel)), (gm 415 (by decide +kernel) (by decide +kernel))⟩
def tb_X1_legOf : List (Nat × Instr × Nat) := [(0, .iload_n 0, 1), (1, .iconst 2, 1), (2, .if_icmp .ne 13, 3), (5, .iconst 1, 1), (6, .iload_n 1, 1), (7, .iconst 1, 1), (8, .isub, 1), (9, .invokestatic 37, 3), (12, .goto 4, 3), (15, .iload_n 1, 1), (16, .ireturn, 1)]
def i_X1_legOf : MI := (RX1, cX1_legOf, 2, (some .int), "legOf", { frames := 1, cells := 0, slots := 0, locals := 80 })
theorem D_X1_legOf : tbOK (i_X1_legOf).2.1 tb_X1_legOf := by show ∀ q ∈ tb_X1_legOf, decode cX1_legOf q.1 = .ok (q.2.1, q.2.2); decide +kernel
def po_X1_legOf (S : Sk) (I : II) (r : Int32) : Option LV × Sk × II := (some (vI r), S, I)
def f_X1_legOf (fu : Nat) (S : Sk) (I : II) (x0 : Int32) (x1 : Int32) : Option (Int32) :=
  if x0 = (2 : Int32) then some ((jmax (1 : Int32) (x1 - (1 : Int32)))) else some (x1)
set_option maxRecDepth 100000 in
set_option maxHeartbeats 4000000 in
theorem gg_X1_legOf {E : EV} (fu : Nat) (S0 : Sk) (I0 : II) (x0 : Int32) (x1 : Int32) : GG E i_X1_legOf (enM E i_X1_legOf S0 (po_X1_legOf S0 I0)) S0 I0 (0, 0) 0 [(0, vI x0), (1, vI x1)] [] (f_X1_legOf fu S0 I0 x0 x1) := by
  unfold f_X1_legOf
  refine g_iload_n (dk D_X1_legOf 0 rfl) rfl ?_
  refine g_iconst (v := (2 : Int32)) (dk D_X1_legOf 1 rfl) rfl ?_
  refine g_icmp_ne (tgt := 15) (dk D_X1_legOf 2 rfl) rfl (fun hc1 => ?_) (fun hc1 => ?_)
  · refine g_iload_n (dk D_X1_legOf 9 rfl) rfl ?_
    exact g_ireturn rfl rfl Sx.rf rfl (by decide) (by decide) (dk D_X1_legOf 10 rfl)
  · refine g_iconst (v := (1 : Int32)) (dk D_X1_legOf 3 rfl) rfl ?_
    refine g_iload_n (dk D_X1_legOf 4 rfl) rfl ?_
    refine g_iconst (v := (1 : Int32)) (dk D_X1_legOf 5 rfl) rfl ?_
    refine g_isub (dk D_X1_legOf 6 rfl) ?_
    refine g_mmax lk_RX1_37 lk_mmax (by decide) (Nat.le_of_ble_eq_true rfl) (by decide) (by decide) (dk D_X1_legOf 7 rfl) ?_
    refine g_goto (tgt := 16) (dk D_X1_legOf 8 rfl) rfl ?_
    exact g_ireturn rfl rfl Sx.rf rfl (by decide) (by decide) (dk D_X1_legOf 10 rfl)
def t_X1_legOf (x0 : Int32) (x1 : Int32) : Int32 :=
  if x0 = (2 : Int32) then (jmax (1 : Int32) (x1 - (1 : Int32))) else x1
theorem ft_X1_legOf (fu : Nat) (S : Sk) (I0 : II) (x0 : Int32) (x1 : Int32) : f_X1_legOf fu S I0 x0 x1 = some (t_X1_legOf x0 x1) := by
  simp only [f_X1_legOf, t_X1_legOf, lt, apply_ite some]
theorem c_X1_legOf {E : EV} (S0 : Sk) (I0 : II) (x0 : Int32) (x1 : Int32) : MX E yX1_legOf i_X1_legOf S0 I0 [vI x0, vI x1] (po_X1_legOf S0 I0 (t_X1_legOf x0 x1)) :=
  MX.of (ft_X1_legOf 0 S0 I0 x0 x1) (by decide) rfl rfl (Nat.le_of_ble_eq_true rfl) (gg_X1_legOf 0 S0 I0 x0 x1)
theorem fl_RX1_52 : FL RX1 52 1 5 := ⟨RX1, TX1, 11, rfl, by decide, rfl, by decide, (gm 431 (by decide +kernel) (by decide +kernel)), inG1⟩
theorem fl_RX1_9 : FL RX1 9 1 6 := ⟨RX1, TX1, 11, rfl, by decide, rfl, by decide, (gm 434 (by decide +kernel) (by decide +kernel)), inG1⟩
theorem fl_RX1_15 : FL RX1 15 1 7 := ⟨RX1, TX1, 11, rfl, by decide, rfl, by decide, (gm 437 (by decide +kernel) (by decide +kernel)), inG1⟩
theorem cl_RX1_55 : CS0 RX1 55 yX1_legOf i_X1_legOf 2 := ⟨⟨(gm 417 (by decide +kernel) (by decide +kernel)), (gm 76 (by decide +kernel) (by decide +kernel)), (gm 419 (by decide +kernel) (by decide +kernel)), by decide +kernel, by decide +kernel, by decide +kernel⟩, (gm 418 (by decide +kernel) (by decide +kernel))⟩
theorem lk_RX1_3 : Cond.methodLink RX1 3 Lib.objectInit ∈ lw_good := (gm 412 (by decide +kernel) (by decide +kernel))
theorem lk_arr : Cond.arrayClass .int ∈ lw_good := (gm 124 (by decide +kernel) (by decide +kernel))
theorem fp_1_6 : FP 1 6 (tyX1 6) true := ⟨RX1, TX1, 11, tyX1, rfl, tyX1_ok, nmX1, rfl, rfl, rfl⟩
theorem ff_RX1 : FI RX1 "<init>" 1 true := fun _ => ⟨rfl, fun q h => by cases h; rfl⟩
theorem fp_1_7 : FP 1 7 (tyX1 7) true := ⟨RX1, TX1, 11, tyX1, rfl, tyX1_ok, nmX1, rfl, rfl, rfl⟩
theorem fl_RX1_18 : FL RX1 18 1 8 := ⟨RX1, TX1, 11, rfl, by decide, rfl, by decide, (gm 441 (by decide +kernel) (by decide +kernel)), inG1⟩
theorem fp_1_8 : FP 1 8 (tyX1 8) true := ⟨RX1, TX1, 11, tyX1, rfl, tyX1_ok, nmX1, rfl, rfl, rfl⟩
theorem fl_RX1_21 : FL RX1 21 1 9 := ⟨RX1, TX1, 11, rfl, by decide, rfl, by decide, (gm 443 (by decide +kernel) (by decide +kernel)), inG1⟩
theorem fp_1_9 : FP 1 9 (tyX1 9) false := ⟨RX1, TX1, 11, tyX1, rfl, tyX1_ok, nmX1, rfl, rfl, rfl⟩
theorem fl_RX1_25 : FL RX1 25 1 10 := ⟨RX1, TX1, 11, rfl, by decide, rfl, by decide, (gm 445 (by decide +kernel) (by decide +kernel)), inG1⟩
theorem fp_1_10 : FP 1 10 (tyX1 10) false := ⟨RX1, TX1, 11, tyX1, rfl, tyX1_ok, nmX1, rfl, rfl, rfl⟩
theorem fl_RX1_28 : FL RX1 28 1 0 := ⟨RX1, TX1, 11, rfl, by decide, rfl, by decide, (gm 420 (by decide +kernel) (by decide +kernel)), inG1⟩
theorem fp_1_0 : FP 1 0 (tyX1 0) true := ⟨RX1, TX1, 11, tyX1, rfl, tyX1_ok, nmX1, rfl, rfl, rfl⟩
theorem fl_RX1_31 : FL RX1 31 1 1 := ⟨RX1, TX1, 11, rfl, by decide, rfl, by decide, (gm 422 (by decide +kernel) (by decide +kernel)), inG1⟩
theorem fp_1_1 : FP 1 1 (tyX1 1) true := ⟨RX1, TX1, 11, tyX1, rfl, tyX1_ok, nmX1, rfl, rfl, rfl⟩
theorem fl_RX1_34 : FL RX1 34 1 2 := ⟨RX1, TX1, 11, rfl, by decide, rfl, by decide, (gm 424 (by decide +kernel) (by decide +kernel)), inG1⟩
theorem fp_1_2 : FP 1 2 (tyX1 2) true := ⟨RX1, TX1, 11, tyX1, rfl, tyX1_ok, nmX1, rfl, rfl, rfl⟩
theorem fl_RX1_43 : FL RX1 43 1 3 := ⟨RX1, TX1, 11, rfl, by decide, rfl, by decide, (gm 427 (by decide +kernel) (by decide +kernel)), inG1⟩
theorem fp_1_3 : FP 1 3 (tyX1 3) true := ⟨RX1, TX1, 11, tyX1, rfl, tyX1_ok, nmX1, rfl, rfl, rfl⟩
theorem fl_RX1_46 : FL RX1 46 1 4 := ⟨RX1, TX1, 11, rfl, by decide, rfl, by decide, (gm 429 (by decide +kernel) (by decide +kernel)), inG1⟩
theorem fp_1_4 : FP 1 4 (tyX1 4) true := ⟨RX1, TX1, 11, tyX1, rfl, tyX1_ok, nmX1, rfl, rfl, rfl⟩
theorem lk_RX1_49 : Cond.methodLink RX1 49 Lib.Math.min.name ∈ lw_good := (gm 416 (by decide +kernel) (by decide +kernel))
theorem lk_mmin : Cond.static Lib.Math.min.name ∈ lw_good ∧ Cond.initialized "java/lang/Math" ∈ lw_good ∧ Cond.code Lib.Math.min.name Lib.Math.min.code 2 (some .int) ∈ lw_good := ⟨(gm 384 (by decide +kernel) (by decide +kernel)), (gm 73 (by decide +kernel) (by decide +kernel)), (gm 385 (by decide +kernel) (by decide +kernel))⟩
theorem fp_1_5 : FP 1 5 (tyX1 5) true := ⟨RX1, TX1, 11, tyX1, rfl, tyX1_ok, nmX1, rfl, rfl, rfl⟩
def tb_X1_init : List (Nat × Instr × Nat) := [(0, .aload_n 0, 1), (1, .invokespecial 3, 3), (4, .aload_n 0, 1), (5, .bipush 8, 2), (7, .newarray .int, 2), (9, .putfield 9, 3), (12, .aload_n 0, 1), (13, .bipush 8, 2), (15, .newarray .int, 2), (17, .putfield 15, 3), (20, .aload_n 0, 1), (21, .bipush 8, 2), (23, .newarray .int, 2), (25, .putfield 18, 3), (28, .aload_n 0, 1), (29, .iconst 0, 1), (30, .putfield 21, 3), (33, .aload_n 0, 1), (34, .bipush 59, 2), (36, .putfield 25, 3), (39, .aload_n 0, 1), (40, .iload_n 1, 1), (41, .putfield 28, 3), (44, .aload_n 0, 1), (45, .iload_n 2, 1), (46, .putfield 31, 3), (49, .aload_n 0, 1), (50, .iload_n 3, 1), (51, .putfield 34, 3), (54, .aload_n 0, 1), (55, .iconst 1, 1), (56, .iload 4, 2), (58, .invokestatic 37, 3), (61, .putfield 43, 3), (64, .aload_n 0, 1), (65, .iload 5, 2), (67, .putfield 46, 3), (70, .aload_n 0, 1), (71, .bipush 8, 2), (73, .aload 6, 2), (75, .arraylength, 1), (76, .iconst 2, 1), (77, .idiv, 1), (78, .invokestatic 49, 3), (81, .putfield 52, 3), (84, .iconst 0, 1), (85, .istore 7, 2), (87, .iload 7, 2), (89, .aload_n 0, 1), (90, .getfield 52, 3), (93, .if_icmp .ge 58, 3), (96, .aload_n 0, 1), (97, .getfield 9, 3), (100, .iload 7, 2), (102, .aload 6, 2), (104, .iconst 2, 1), (105, .iload 7, 2), (107, .imul, 1), (108, .iaload, 1), (109, .iastore, 1), (110, .iload 7, 2), (112, .ifCond .le 33, 3), (115, .aload_n 0, 1), (116, .getfield 15, 3), (119, .iload 7, 2), (121, .aload_n 0, 1), (122, .getfield 15, 3), (125, .iload 7, 2), (127, .iconst 1, 1), (128, .isub, 1), (129, .iaload, 1), (130, .iload_n 2, 1), (131, .aload 6, 2), (133, .iconst 2, 1), (134, .iload 7, 2), (136, .imul, 1), (137, .iconst 1, 1), (138, .isub, 1), (139, .iaload, 1), (140, .invokestatic 55, 3), (143, .iadd, 1), (144, .iastore, 1), (145, .iinc 7 1, 3), (148, .goto (-61), 3), (151, .return_, 1)]
def i_X1_init : MI := (RX1, cX1_init, 8, none, "<init>", { frames := 2, cells := 3, slots := 24, locals := 101 })
theorem D_X1_init : tbOK (i_X1_init).2.1 tb_X1_init := by show ∀ q ∈ tb_X1_init, decode cX1_init q.1 = .ok (q.2.1, q.2.2); decide +kernel
def po_X1_init (S : Sk) (I : II) (r : Sk × II) : Option LV × Sk × II := (none, r.1, r.2)
def jn_X1_init_145 (fu : Nat) (S : Sk) (I : II) (self87 : Int32 → II → Option (Sk × II)) (a0 : Nat) (x2 : Int32) (r6 : Nat) (x7 : Int32) : Option (Sk × II) :=
  self87 (x7 + (1 : Int32)) I
def lp_X1_init_87 (fu : Nat) (S : Sk) (a0 : Nat) (x2 : Int32) (r6 : Nat) (self87 : Int32 → II → Option (Sk × II)) (x7 : Int32) (I : II) : Option (Sk × II) :=
  if (I a0 5) ≤ x7 then some ((S, I)) else gd (inb S r6 ((2 : Int32) * x7)) (gd (inb S (S.1 a0 6) x7) (lt (wr I (S.1 a0 6) x7 (rd I r6 ((2 : Int32) * x7))) fun I5 => (if x7 ≤ 0 then jn_X1_init_145 fu S I5 self87 a0 x2 r6 x7 else gd (inb S (S.1 a0 7) (x7 - (1 : Int32))) (gd (inb S r6 (((2 : Int32) * x7) - (1 : Int32))) (gd (inb S (S.1 a0 7) x7) (lt (wr I5 (S.1 a0 7) x7 ((rd I5 (S.1 a0 7) (x7 - (1 : Int32))) + (t_X1_legOf x2 (rd I5 r6 (((2 : Int32) * x7) - (1 : Int32)))))) fun I13 => (jn_X1_init_145 fu S I13 self87 a0 x2 r6 x7)))))))
def f_X1_init (fu : Nat) (S : Sk) (I : II) (a0 : Nat) (x1 : Int32) (x2 : Int32) (x3 : Int32) (x4 : Int32) (x5 : Int32) (r6 : Nat) : Option (Sk × II) :=
  lt (nwS S 100 (nx (8 : Int32))) fun S14 => (lt (nwI S I) fun I15 => (lt (upP S14 a0 6 (S.2.2.2 + 1)) fun S21 => (lt (nwS S21 100 (nx (8 : Int32))) fun S27 => (lt (nwI S21 I15) fun I28 => (lt (upP S27 a0 7 (S21.2.2.2 + 1)) fun S35 => (lt (nwS S35 100 (nx (8 : Int32))) fun S42 => (lt (nwI S35 I28) fun I43 => (lt (upP S42 a0 8 (S35.2.2.2 + 1)) fun S51 => (lt (upI I43 a0 9 (0 : Int32)) fun I59 => (lt (upI I59 a0 10 (59 : Int32)) fun I60 => (lt (upI I60 a0 0 x1) fun I61 => (lt (upI I61 a0 1 x2) fun I62 => (lt (upI I62 a0 2 x3) fun I63 => (lt (upI I63 a0 3 (jmax (1 : Int32) x4)) fun I64 => (lt (upI I64 a0 4 x5) fun I65 => (gd (r6 ≠ 0) (lt (upI I65 a0 5 (jmin (8 : Int32) (((S51.2.2.1 (r6 - 1)).toInt32) / (2 : Int32)))) fun I67 => (fix2 (lp_X1_init_87 fu S51 a0 x2 r6) fu (0 : Int32) I67))))))))))))))))))
set_option maxRecDepth 100000 in
set_option maxHeartbeats 4000000 in
theorem gg_X1_init {E : EV} (fu : Nat) (S0 : Sk) (I0 : II) (a0 : Nat) (x1 : Int32) (x2 : Int32) (x3 : Int32) (x4 : Int32) (x5 : Int32) (r6 : Nat) (ht0 : tyO S0 1 a0) (h_r6 : tyR S0 100 r6) : GG E i_X1_init (enM E i_X1_init S0 (po_X1_init S0 I0)) S0 I0 (0, 0) 0 [(0, vA (a0 + 1)), (1, vI x1), (2, vI x2), (3, vI x3), (4, vI x4), (5, vI x5), (6, vA r6)] [] (f_X1_init fu S0 I0 a0 x1 x2 x3 x4 x5 r6) := by
  have hl87 : ∀ (S : Sk) (h_r6 : tyR S 100 r6) (ht0 : tyO S 1 a0) (hsx : Sx S0 S) (nn : Nat) (x7 : Int32) (I : II), True → GG E i_X1_init (enM E i_X1_init S0 (po_X1_init S0 I0)) S I (3, 24) 87 [(0, vA (a0 + 1)), (2, vI x2), (6, vA r6), (7, vI x7)] [] (fix2 (lp_X1_init_87 fu S a0 x2 r6) nn x7 I) := by
    intro S  h_r6 ht0 hsx
    refine g_fix2 (fun _ _ => S) (fun x7 I => I) (fun x7 I => [(0, vA (a0 + 1)), (2, vI x2), (6, vA r6), (7, vI x7)]) (fun x7 I => True) ?_
    intro self87 hself87 x7 I hinv
    have hj145 : ∀ (I : II) (x7 : Int32), GG E i_X1_init (enM E i_X1_init S0 (po_X1_init S0 I0)) S I (3, 24) 145 [(0, vA (a0 + 1)), (2, vI x2), (6, vA r6), (7, vI x7)] [] (jn_X1_init_145 fu S I self87 a0 x2 r6 x7) := by
      intro I x7 
      unfold jn_X1_init_145
      refine g_iinc (v := (1 : Int32)) (L' := [(0, vA (a0 + 1)), (2, vI x2), (6, vA r6), (7, vI (x7 + (1 : Int32)))]) (dk D_X1_init 82 rfl) rfl rfl (Nat.le_of_ble_eq_true rfl) rfl ?_
      refine g_goto (tgt := 87) (dk D_X1_init 83 rfl) rfl ?_
      exact hself87 (x7 + (1 : Int32)) I trivial
    unfold lp_X1_init_87
    refine g_iload (dk D_X1_init 47 rfl) rfl ?_
    refine g_aload_n (dk D_X1_init 48 rfl) rfl ?_
    refine g_getIt fl_RX1_52 (by decide) ht0 (dk D_X1_init 49 rfl) ?_
    refine g_icmp_ge (tgt := 151) (dk D_X1_init 50 rfl) rfl (fun hc1 => ?_) (fun hc1 => ?_)
    · exact g_return rfl rfl hsx rfl (by show 3 ≤ 3; omega) (by show 24 ≤ 24; omega) (dk D_X1_init 84 rfl)
    · refine g_aload_n (dk D_X1_init 51 rfl) rfl ?_
      refine g_getAt (t := 100) fl_RX1_9 rfl ht0 (dk D_X1_init 52 rfl) (fun ht2 => ?_)
      refine g_iload (dk D_X1_init 53 rfl) rfl ?_
      refine g_aload (dk D_X1_init 54 rfl) rfl ?_
      refine g_iconst (v := (2 : Int32)) (dk D_X1_init 55 rfl) rfl ?_
      refine g_iload (dk D_X1_init 56 rfl) rfl ?_
      refine g_imul (dk D_X1_init 57 rfl) ?_
      refine g_gd (fun hi3 => ?_)
      refine g_iaload h_r6 hi3 (dk D_X1_init 58 rfl) ?_
      refine g_gd (fun hi4 => ?_)
      refine g_iastore ht2 hi4 (dk D_X1_init 59 rfl) ?_
      refine g_ltI (fun I5 eI5 => ?_)
      refine g_iload (dk D_X1_init 60 rfl) rfl ?_
      refine g_if_le (tgt := 145) (dk D_X1_init 61 rfl) rfl (fun hc6 => ?_) (fun hc6 => ?_)
      · exact hj145 I5 x7
      · refine g_aload_n (dk D_X1_init 62 rfl) rfl ?_
        refine g_getAt (t := 100) fl_RX1_15 rfl ht0 (dk D_X1_init 63 rfl) (fun ht7 => ?_)
        refine g_iload (dk D_X1_init 64 rfl) rfl ?_
        refine g_aload_n (dk D_X1_init 65 rfl) rfl ?_
        refine g_getAt (t := 100) fl_RX1_15 rfl ht0 (dk D_X1_init 66 rfl) (fun ht8 => ?_)
        refine g_iload (dk D_X1_init 67 rfl) rfl ?_
        refine g_iconst (v := (1 : Int32)) (dk D_X1_init 68 rfl) rfl ?_
        refine g_isub (dk D_X1_init 69 rfl) ?_
        refine g_gd (fun hi9 => ?_)
        refine g_iaload ht7 hi9 (dk D_X1_init 70 rfl) ?_
        refine g_iload_n (dk D_X1_init 71 rfl) rfl ?_
        refine g_aload (dk D_X1_init 72 rfl) rfl ?_
        refine g_iconst (v := (2 : Int32)) (dk D_X1_init 73 rfl) rfl ?_
        refine g_iload (dk D_X1_init 74 rfl) rfl ?_
        refine g_imul (dk D_X1_init 75 rfl) ?_
        refine g_iconst (v := (1 : Int32)) (dk D_X1_init 76 rfl) rfl ?_
        refine g_isub (dk D_X1_init 77 rfl) ?_
        refine g_gd (fun hi10 => ?_)
        refine g_iaload h_r6 hi10 (dk D_X1_init 78 rfl) ?_
        refine h_callS (st := [vI (rd I5 (S.1 a0 7) (x7 - (1 : Int32))), vI x7, vA (S.1 a0 7)]) (c_X1_legOf (E := E) S I5 x2 (rd I5 r6 (((2 : Int32) * x7) - (1 : Int32)))) cl_RX1_55 rfl rfl ⟨⟨by decide, by decide⟩, ⟨rfl, rfl⟩, by show 3 ≤ 3; omega, by show 24 ≤ 24; omega⟩ (Nat.le_of_ble_eq_true rfl) (dk D_X1_init 79 rfl) ?_
        refine g_iadd (dk D_X1_init 80 rfl) ?_
        refine g_gd (fun hi12 => ?_)
        refine g_iastore ht7 hi12 (dk D_X1_init 81 rfl) ?_
        refine g_ltI (fun I13 eI13 => ?_)
        exact hj145 I13 x7
  unfold f_X1_init
  refine g_aload_n (dk D_X1_init 0 rfl) rfl ?_
  refine g_objInit lk_RX1_3 lk_oi lk_oc (Nat.succ_ne_zero _) (by decide) (by rw [wid_sum]; exact Nat.le_of_ble_eq_true rfl) (dk D_X1_init 1 rfl) ?_
  refine g_aload_n (dk D_X1_init 2 rfl) rfl ?_
  refine g_bipush (v := (8 : Int32)) (dk D_X1_init 3 rfl) rfl ?_
  refine g_newarray (by decide) (by decide) (by show 0 + 1 ≤ 3; omega) (by show 0 + 8 ≤ 24; omega) lk_arr (dk D_X1_init 4 rfl) ?_
  refine g_wide (cs' := (1, 8)) (by show 0 + 1 ≤ 1; omega) (by show 0 + 8 ≤ 8; omega) ?_
  refine g_ltS (fun S14 eS14 => ?_)
  refine g_ltI (fun I15 eI15 => ?_)
  have hx16 : Sx S0 S14 := eS14 ▸ nwS_x
  have ht17 := h_r6.x hx16
  have ht18 := ht0.x hx16
  have hsx19 := Sx.tr Sx.rf hx16
  have ht20 : tyR S14 100 (S0.2.2.2 + 1) := eS14 ▸ nwS_ty.R
  refine g_putAt (t := 100) fl_RX1_9 fp_1_6 ff_RX1 rfl (Or.inr ⟨_, rfl⟩) ht20 ht18 (dk D_X1_init 5 rfl) ?_
  refine g_ltS (fun S21 eS21 => ?_)
  have hx22 : Sx S14 S21 := eS21 ▸ upP_x
  have ht23 := ht17.x hx22
  have ht24 := ht20.x hx22
  have ht25 := ht18.x hx22
  have hsx26 := Sx.tr hsx19 hx22
  refine g_aload_n (dk D_X1_init 6 rfl) rfl ?_
  refine g_bipush (v := (8 : Int32)) (dk D_X1_init 7 rfl) rfl ?_
  refine g_newarray (by decide) (by decide) (by show 1 + 1 ≤ 3; omega) (by show 8 + 8 ≤ 24; omega) lk_arr (dk D_X1_init 8 rfl) ?_
  refine g_wide (cs' := (2, 16)) (by show 1 + 1 ≤ 2; omega) (by show 8 + 8 ≤ 16; omega) ?_
  refine g_ltS (fun S27 eS27 => ?_)
  refine g_ltI (fun I28 eI28 => ?_)
  have hx29 : Sx S21 S27 := eS27 ▸ nwS_x
  have ht30 := ht23.x hx29
  have ht31 := ht24.x hx29
  have ht32 := ht25.x hx29
  have hsx33 := Sx.tr hsx26 hx29
  have ht34 : tyR S27 100 (S21.2.2.2 + 1) := eS27 ▸ nwS_ty.R
  refine g_putAt (t := 100) fl_RX1_15 fp_1_7 ff_RX1 rfl (Or.inr ⟨_, rfl⟩) ht34 ht32 (dk D_X1_init 9 rfl) ?_
  refine g_ltS (fun S35 eS35 => ?_)
  have hx36 : Sx S27 S35 := eS35 ▸ upP_x
  have ht37 := ht30.x hx36
  have ht38 := ht31.x hx36
  have ht39 := ht34.x hx36
  have ht40 := ht32.x hx36
  have hsx41 := Sx.tr hsx33 hx36
  refine g_aload_n (dk D_X1_init 10 rfl) rfl ?_
  refine g_bipush (v := (8 : Int32)) (dk D_X1_init 11 rfl) rfl ?_
  refine g_newarray (by decide) (by decide) (by show 2 + 1 ≤ 3; omega) (by show 16 + 8 ≤ 24; omega) lk_arr (dk D_X1_init 12 rfl) ?_
  refine g_wide (cs' := (3, 24)) (by show 2 + 1 ≤ 3; omega) (by show 16 + 8 ≤ 24; omega) ?_
  refine g_ltS (fun S42 eS42 => ?_)
  refine g_ltI (fun I43 eI43 => ?_)
  have hx44 : Sx S35 S42 := eS42 ▸ nwS_x
  have ht45 := ht37.x hx44
  have ht46 := ht38.x hx44
  have ht47 := ht39.x hx44
  have ht48 := ht40.x hx44
  have hsx49 := Sx.tr hsx41 hx44
  have ht50 : tyR S42 100 (S35.2.2.2 + 1) := eS42 ▸ nwS_ty.R
  refine g_putAt (t := 100) fl_RX1_18 fp_1_8 ff_RX1 rfl (Or.inr ⟨_, rfl⟩) ht50 ht48 (dk D_X1_init 13 rfl) ?_
  refine g_ltS (fun S51 eS51 => ?_)
  have hx52 : Sx S42 S51 := eS51 ▸ upP_x
  have ht53 := ht45.x hx52
  have ht54 := ht46.x hx52
  have ht55 := ht47.x hx52
  have ht56 := ht50.x hx52
  have ht57 := ht48.x hx52
  have hsx58 := Sx.tr hsx49 hx52
  refine g_aload_n (dk D_X1_init 14 rfl) rfl ?_
  refine g_iconst (v := (0 : Int32)) (dk D_X1_init 15 rfl) rfl ?_
  refine g_putIt fl_RX1_21 fp_1_9 (fun h => (by cases h)) (by decide) rfl rfl ht57 (dk D_X1_init 16 rfl) ?_
  refine g_ltI (fun I59 eI59 => ?_)
  refine g_aload_n (dk D_X1_init 17 rfl) rfl ?_
  refine g_bipush (v := (59 : Int32)) (dk D_X1_init 18 rfl) rfl ?_
  refine g_putIt fl_RX1_25 fp_1_10 (fun h => (by cases h)) (by decide) rfl rfl ht57 (dk D_X1_init 19 rfl) ?_
  refine g_ltI (fun I60 eI60 => ?_)
  refine g_aload_n (dk D_X1_init 20 rfl) rfl ?_
  refine g_iload_n (dk D_X1_init 21 rfl) rfl ?_
  refine g_putIt fl_RX1_28 fp_1_0 ff_RX1 (by decide) rfl rfl ht57 (dk D_X1_init 22 rfl) ?_
  refine g_ltI (fun I61 eI61 => ?_)
  refine g_aload_n (dk D_X1_init 23 rfl) rfl ?_
  refine g_iload_n (dk D_X1_init 24 rfl) rfl ?_
  refine g_putIt fl_RX1_31 fp_1_1 ff_RX1 (by decide) rfl rfl ht57 (dk D_X1_init 25 rfl) ?_
  refine g_ltI (fun I62 eI62 => ?_)
  refine g_aload_n (dk D_X1_init 26 rfl) rfl ?_
  refine g_iload_n (dk D_X1_init 27 rfl) rfl ?_
  refine g_putIt fl_RX1_34 fp_1_2 ff_RX1 (by decide) rfl rfl ht57 (dk D_X1_init 28 rfl) ?_
  refine g_ltI (fun I63 eI63 => ?_)
  refine g_aload_n (dk D_X1_init 29 rfl) rfl ?_
  refine g_iconst (v := (1 : Int32)) (dk D_X1_init 30 rfl) rfl ?_
  refine g_iload (dk D_X1_init 31 rfl) rfl ?_
  refine g_mmax lk_RX1_37 lk_mmax (by decide) (Nat.le_of_ble_eq_true rfl) (by show 3 ≤ 3; omega) (by show 24 ≤ 24; omega) (dk D_X1_init 32 rfl) ?_
  refine g_putIt fl_RX1_43 fp_1_3 ff_RX1 (by decide) rfl rfl ht57 (dk D_X1_init 33 rfl) ?_
  refine g_ltI (fun I64 eI64 => ?_)
  refine g_aload_n (dk D_X1_init 34 rfl) rfl ?_
  refine g_iload (dk D_X1_init 35 rfl) rfl ?_
  refine g_putIt fl_RX1_46 fp_1_4 ff_RX1 (by decide) rfl rfl ht57 (dk D_X1_init 36 rfl) ?_
  refine g_ltI (fun I65 eI65 => ?_)
  refine g_aload_n (dk D_X1_init 37 rfl) rfl ?_
  refine g_bipush (v := (8 : Int32)) (dk D_X1_init 38 rfl) rfl ?_
  refine g_aload (dk D_X1_init 39 rfl) rfl ?_
  refine g_gd (fun hn66 => ?_)
  refine g_alen (t := 0) ht53 hn66 rfl (dk D_X1_init 40 rfl) ?_
  refine g_iconst (v := (2 : Int32)) (dk D_X1_init 41 rfl) rfl ?_
  refine g_idiv (dk D_X1_init 42 rfl) (by decide) ?_
  refine g_mmin lk_RX1_49 lk_mmin (by decide) (Nat.le_of_ble_eq_true rfl) (by show 3 ≤ 3; omega) (by show 24 ≤ 24; omega) (dk D_X1_init 43 rfl) ?_
  refine g_putIt fl_RX1_52 fp_1_5 ff_RX1 (by decide) rfl rfl ht57 (dk D_X1_init 44 rfl) ?_
  refine g_ltI (fun I67 eI67 => ?_)
  refine g_iconst (v := (0 : Int32)) (dk D_X1_init 45 rfl) rfl ?_
  refine g_istore (L' := [(0, vA (a0 + 1)), (1, vI x1), (2, vI x2), (3, vI x3), (4, vI x4), (5, vI x5), (6, vA r6), (7, vI (0 : Int32))]) (dk D_X1_init 46 rfl) (Nat.le_of_ble_eq_true rfl) rfl ?_
  refine g_Lp [0, 2, 6, 7] rfl ?_
  exact hl87 S51 ht53 ht57 hsx58 fu (0 : Int32) I67 trivial
theorem c_X1_init {E : EV} (fu : Nat) (S0 : Sk) (I0 : II) (a0 : Nat) (x1 : Int32) (x2 : Int32) (x3 : Int32) (x4 : Int32) (x5 : Int32) (r6 : Nat) (r : Sk × II) (h : f_X1_init fu S0 I0 a0 x1 x2 x3 x4 x5 r6 = some r) (ht0 : tyO S0 1 a0) (h_r6 : tyR S0 100 r6) : MX E yX1_init i_X1_init S0 I0 [vA (a0 + 1), vI x1, vI x2, vI x3, vI x4, vI x5, vA r6] (po_X1_init S0 I0 r) :=
  MX.of h (by decide) rfl rfl (Nat.le_of_ble_eq_true rfl) (gg_X1_init fu S0 I0 a0 x1 x2 x3 x4 x5 r6 ht0 h_r6)
def tb_X1_hasPlace : List (Nat × Instr × Nat) := [(0, .iload_n 1, 1), (1, .ifCond .lt 15, 3), (4, .iload_n 1, 1), (5, .aload_n 0, 1), (6, .getfield 52, 3), (9, .if_icmp .ge 7, 3), (12, .iconst 1, 1), (13, .goto 4, 3), (16, .iconst 0, 1), (17, .ireturn, 1)]
def i_X1_hasPlace : MI := (RX1, cX1_hasPlace, 2, (some .boolean), "hasPlace", { frames := 0, cells := 0, slots := 0, locals := 0 })
theorem D_X1_hasPlace : tbOK (i_X1_hasPlace).2.1 tb_X1_hasPlace := by show ∀ q ∈ tb_X1_hasPlace, decode cX1_hasPlace q.1 = .ok (q.2.1, q.2.2); decide +kernel
def po_X1_hasPlace (S : Sk) (I : II) (r : Int32) : Option LV × Sk × II := (some (vI r), S, I)
def f_X1_hasPlace (fu : Nat) (S : Sk) (I : II) (a0 : Nat) (x1 : Int32) : Option (Int32) :=
  if x1 < 0 then some ((0 : Int32)) else if (I a0 5) ≤ x1 then some ((0 : Int32)) else some ((1 : Int32))
set_option maxRecDepth 100000 in
set_option maxHeartbeats 4000000 in
theorem gg_X1_hasPlace {E : EV} (fu : Nat) (S0 : Sk) (I0 : II) (a0 : Nat) (x1 : Int32) (ht0 : tyO S0 1 a0) : GG E i_X1_hasPlace (enM E i_X1_hasPlace S0 (po_X1_hasPlace S0 I0)) S0 I0 (0, 0) 0 [(0, vA (a0 + 1)), (1, vI x1)] [] (f_X1_hasPlace fu S0 I0 a0 x1) := by
  unfold f_X1_hasPlace
  refine g_iload_n (dk D_X1_hasPlace 0 rfl) rfl ?_
  refine g_if_lt (tgt := 16) (dk D_X1_hasPlace 1 rfl) rfl (fun hc1 => ?_) (fun hc1 => ?_)
  · refine g_iconst (v := (0 : Int32)) (dk D_X1_hasPlace 8 rfl) rfl ?_
    exact g_zreturn rfl rfl (Or.inl rfl) Sx.rf rfl (by decide) (by decide) (dk D_X1_hasPlace 9 rfl)
  · refine g_iload_n (dk D_X1_hasPlace 2 rfl) rfl ?_
    refine g_aload_n (dk D_X1_hasPlace 3 rfl) rfl ?_
    refine g_getIt fl_RX1_52 (by decide) ht0 (dk D_X1_hasPlace 4 rfl) ?_
    refine g_icmp_ge (tgt := 16) (dk D_X1_hasPlace 5 rfl) rfl (fun hc2 => ?_) (fun hc2 => ?_)
    · refine g_iconst (v := (0 : Int32)) (dk D_X1_hasPlace 8 rfl) rfl ?_
      exact g_zreturn rfl rfl (Or.inl rfl) Sx.rf rfl (by decide) (by decide) (dk D_X1_hasPlace 9 rfl)
    · refine g_iconst (v := (1 : Int32)) (dk D_X1_hasPlace 6 rfl) rfl ?_
      refine g_goto (tgt := 17) (dk D_X1_hasPlace 7 rfl) rfl ?_
      exact g_zreturn rfl rfl (Or.inr rfl) Sx.rf rfl (by decide) (by decide) (dk D_X1_hasPlace 9 rfl)
def t_X1_hasPlace (I : II) (a0 : Nat) (x1 : Int32) : Int32 :=
  if x1 < 0 then (0 : Int32) else if (I a0 5) ≤ x1 then (0 : Int32) else (1 : Int32)
theorem ft_X1_hasPlace (fu : Nat) (S : Sk) (I0 : II) (a0 : Nat) (x1 : Int32) : f_X1_hasPlace fu S I0 a0 x1 = some (t_X1_hasPlace I0 a0 x1) := by
  simp only [f_X1_hasPlace, t_X1_hasPlace, lt, apply_ite some]
theorem z_X1_hasPlace (I : II) (a0 : Nat) (x1 : Int32) : t_X1_hasPlace I a0 x1 = 0 ∨ t_X1_hasPlace I a0 x1 = 1 := by
  unfold t_X1_hasPlace
  (repeat' split) <;> first | exact Or.inl rfl | exact Or.inr rfl
theorem c_X1_hasPlace {E : EV} (S0 : Sk) (I0 : II) (a0 : Nat) (x1 : Int32) (ht0 : tyO S0 1 a0) : MX E yX1_hasPlace i_X1_hasPlace S0 I0 [vA (a0 + 1), vI x1] (po_X1_hasPlace S0 I0 (t_X1_hasPlace I0 a0 x1)) :=
  MX.of (ft_X1_hasPlace 0 S0 I0 a0 x1) (by decide) rfl rfl (Nat.le_of_ble_eq_true rfl) (gg_X1_hasPlace 0 S0 I0 a0 x1 ht0)
def tb_X1_leavesFrom : List (Nat × Instr × Nat) := [(0, .iload_n 1, 1), (1, .ifCond .lt 17, 3), (4, .iload_n 1, 1), (5, .aload_n 0, 1), (6, .getfield 52, 3), (9, .iconst 1, 1), (10, .isub, 1), (11, .if_icmp .ge 7, 3), (14, .iconst 1, 1), (15, .goto 4, 3), (18, .iconst 0, 1), (19, .ireturn, 1)]
def i_X1_leavesFrom : MI := (RX1, cX1_leavesFrom, 2, (some .boolean), "leavesFrom", { frames := 0, cells := 0, slots := 0, locals := 0 })
theorem D_X1_leavesFrom : tbOK (i_X1_leavesFrom).2.1 tb_X1_leavesFrom := by show ∀ q ∈ tb_X1_leavesFrom, decode cX1_leavesFrom q.1 = .ok (q.2.1, q.2.2); decide +kernel
def po_X1_leavesFrom (S : Sk) (I : II) (r : Int32) : Option LV × Sk × II := (some (vI r), S, I)
def f_X1_leavesFrom (fu : Nat) (S : Sk) (I : II) (a0 : Nat) (x1 : Int32) : Option (Int32) :=
  if x1 < 0 then some ((0 : Int32)) else if ((I a0 5) - (1 : Int32)) ≤ x1 then some ((0 : Int32)) else some ((1 : Int32))
set_option maxRecDepth 100000 in
set_option maxHeartbeats 4000000 in
theorem gg_X1_leavesFrom {E : EV} (fu : Nat) (S0 : Sk) (I0 : II) (a0 : Nat) (x1 : Int32) (ht0 : tyO S0 1 a0) : GG E i_X1_leavesFrom (enM E i_X1_leavesFrom S0 (po_X1_leavesFrom S0 I0)) S0 I0 (0, 0) 0 [(0, vA (a0 + 1)), (1, vI x1)] [] (f_X1_leavesFrom fu S0 I0 a0 x1) := by
  unfold f_X1_leavesFrom
  refine g_iload_n (dk D_X1_leavesFrom 0 rfl) rfl ?_
  refine g_if_lt (tgt := 18) (dk D_X1_leavesFrom 1 rfl) rfl (fun hc1 => ?_) (fun hc1 => ?_)
  · refine g_iconst (v := (0 : Int32)) (dk D_X1_leavesFrom 10 rfl) rfl ?_
    exact g_zreturn rfl rfl (Or.inl rfl) Sx.rf rfl (by decide) (by decide) (dk D_X1_leavesFrom 11 rfl)
  · refine g_iload_n (dk D_X1_leavesFrom 2 rfl) rfl ?_
    refine g_aload_n (dk D_X1_leavesFrom 3 rfl) rfl ?_
    refine g_getIt fl_RX1_52 (by decide) ht0 (dk D_X1_leavesFrom 4 rfl) ?_
    refine g_iconst (v := (1 : Int32)) (dk D_X1_leavesFrom 5 rfl) rfl ?_
    refine g_isub (dk D_X1_leavesFrom 6 rfl) ?_
    refine g_icmp_ge (tgt := 18) (dk D_X1_leavesFrom 7 rfl) rfl (fun hc2 => ?_) (fun hc2 => ?_)
    · refine g_iconst (v := (0 : Int32)) (dk D_X1_leavesFrom 10 rfl) rfl ?_
      exact g_zreturn rfl rfl (Or.inl rfl) Sx.rf rfl (by decide) (by decide) (dk D_X1_leavesFrom 11 rfl)
    · refine g_iconst (v := (1 : Int32)) (dk D_X1_leavesFrom 8 rfl) rfl ?_
      refine g_goto (tgt := 19) (dk D_X1_leavesFrom 9 rfl) rfl ?_
      exact g_zreturn rfl rfl (Or.inr rfl) Sx.rf rfl (by decide) (by decide) (dk D_X1_leavesFrom 11 rfl)
def t_X1_leavesFrom (I : II) (a0 : Nat) (x1 : Int32) : Int32 :=
  if x1 < 0 then (0 : Int32) else if ((I a0 5) - (1 : Int32)) ≤ x1 then (0 : Int32) else (1 : Int32)
theorem ft_X1_leavesFrom (fu : Nat) (S : Sk) (I0 : II) (a0 : Nat) (x1 : Int32) : f_X1_leavesFrom fu S I0 a0 x1 = some (t_X1_leavesFrom I0 a0 x1) := by
  simp only [f_X1_leavesFrom, t_X1_leavesFrom, lt, apply_ite some]
theorem z_X1_leavesFrom (I : II) (a0 : Nat) (x1 : Int32) : t_X1_leavesFrom I a0 x1 = 0 ∨ t_X1_leavesFrom I a0 x1 = 1 := by
  unfold t_X1_leavesFrom
  (repeat' split) <;> first | exact Or.inl rfl | exact Or.inr rfl
theorem c_X1_leavesFrom {E : EV} (S0 : Sk) (I0 : II) (a0 : Nat) (x1 : Int32) (ht0 : tyO S0 1 a0) : MX E yX1_leavesFrom i_X1_leavesFrom S0 I0 [vA (a0 + 1), vI x1] (po_X1_leavesFrom S0 I0 (t_X1_leavesFrom I0 a0 x1)) :=
  MX.of (ft_X1_leavesFrom 0 S0 I0 a0 x1) (by decide) rfl rfl (Nat.le_of_ble_eq_true rfl) (gg_X1_leavesFrom 0 S0 I0 a0 x1 ht0)
def tb_X1_goesOn : List (Nat × Instr × Nat) := [(0, .aload_n 0, 1), (1, .getfield 21, 3), (4, .iload_n 1, 1), (5, .if_icmp .gt 31, 3), (8, .iload_n 1, 1), (9, .aload_n 0, 1), (10, .getfield 25, 3), (13, .if_icmp .gt 23, 3), (16, .aload_n 0, 1), (17, .getfield 31, 3), (20, .iconst 1, 1), (21, .if_icmp .ne 11, 3), (24, .iload_n 1, 1), (25, .bipush 7, 2), (27, .irem, 1), (28, .iconst 5, 1), (29, .if_icmp .ge 7, 3), (32, .iconst 1, 1), (33, .goto 4, 3), (36, .iconst 0, 1), (37, .ireturn, 1)]
def i_X1_goesOn : MI := (RX1, cX1_goesOn, 2, (some .boolean), "goesOn", { frames := 0, cells := 0, slots := 0, locals := 0 })
theorem D_X1_goesOn : tbOK (i_X1_goesOn).2.1 tb_X1_goesOn := by show ∀ q ∈ tb_X1_goesOn, decode cX1_goesOn q.1 = .ok (q.2.1, q.2.2); decide +kernel
def po_X1_goesOn (S : Sk) (I : II) (r : Int32) : Option LV × Sk × II := (some (vI r), S, I)
def f_X1_goesOn (fu : Nat) (S : Sk) (I : II) (a0 : Nat) (x1 : Int32) : Option (Int32) :=
  if x1 < (I a0 9) then some ((0 : Int32)) else if (I a0 10) < x1 then some ((0 : Int32)) else if (I a0 1) = (1 : Int32) then if (5 : Int32) ≤ (x1 - x1 / (7 : Int32) * (7 : Int32)) then some ((0 : Int32)) else some ((1 : Int32)) else some ((1 : Int32))
set_option maxRecDepth 100000 in
set_option maxHeartbeats 4000000 in
theorem gg_X1_goesOn {E : EV} (fu : Nat) (S0 : Sk) (I0 : II) (a0 : Nat) (x1 : Int32) (ht0 : tyO S0 1 a0) : GG E i_X1_goesOn (enM E i_X1_goesOn S0 (po_X1_goesOn S0 I0)) S0 I0 (0, 0) 0 [(0, vA (a0 + 1)), (1, vI x1)] [] (f_X1_goesOn fu S0 I0 a0 x1) := by
  unfold f_X1_goesOn
  refine g_aload_n (dk D_X1_goesOn 0 rfl) rfl ?_
  refine g_getIt fl_RX1_21 (by decide) ht0 (dk D_X1_goesOn 1 rfl) ?_
  refine g_iload_n (dk D_X1_goesOn 2 rfl) rfl ?_
  refine g_icmp_gt (tgt := 36) (dk D_X1_goesOn 3 rfl) rfl (fun hc1 => ?_) (fun hc1 => ?_)
  · refine g_iconst (v := (0 : Int32)) (dk D_X1_goesOn 19 rfl) rfl ?_
    exact g_zreturn rfl rfl (Or.inl rfl) Sx.rf rfl (by decide) (by decide) (dk D_X1_goesOn 20 rfl)
  · refine g_iload_n (dk D_X1_goesOn 4 rfl) rfl ?_
    refine g_aload_n (dk D_X1_goesOn 5 rfl) rfl ?_
    refine g_getIt fl_RX1_25 (by decide) ht0 (dk D_X1_goesOn 6 rfl) ?_
    refine g_icmp_gt (tgt := 36) (dk D_X1_goesOn 7 rfl) rfl (fun hc2 => ?_) (fun hc2 => ?_)
    · refine g_iconst (v := (0 : Int32)) (dk D_X1_goesOn 19 rfl) rfl ?_
      exact g_zreturn rfl rfl (Or.inl rfl) Sx.rf rfl (by decide) (by decide) (dk D_X1_goesOn 20 rfl)
    · refine g_aload_n (dk D_X1_goesOn 8 rfl) rfl ?_
      refine g_getIt fl_RX1_31 (by decide) ht0 (dk D_X1_goesOn 9 rfl) ?_
      refine g_iconst (v := (1 : Int32)) (dk D_X1_goesOn 10 rfl) rfl ?_
      refine g_icmp_ne (tgt := 32) (dk D_X1_goesOn 11 rfl) rfl (fun hc3 => ?_) (fun hc3 => ?_)
      · refine g_iconst (v := (1 : Int32)) (dk D_X1_goesOn 17 rfl) rfl ?_
        refine g_goto (tgt := 37) (dk D_X1_goesOn 18 rfl) rfl ?_
        exact g_zreturn rfl rfl (Or.inr rfl) Sx.rf rfl (by decide) (by decide) (dk D_X1_goesOn 20 rfl)
      · refine g_iload_n (dk D_X1_goesOn 12 rfl) rfl ?_
        refine g_bipush (v := (7 : Int32)) (dk D_X1_goesOn 13 rfl) rfl ?_
        refine g_irem (dk D_X1_goesOn 14 rfl) (by decide) ?_
        refine g_iconst (v := (5 : Int32)) (dk D_X1_goesOn 15 rfl) rfl ?_
        refine g_icmp_ge (tgt := 36) (dk D_X1_goesOn 16 rfl) rfl (fun hc4 => ?_) (fun hc4 => ?_)
        · refine g_iconst (v := (0 : Int32)) (dk D_X1_goesOn 19 rfl) rfl ?_
          exact g_zreturn rfl rfl (Or.inl rfl) Sx.rf rfl (by decide) (by decide) (dk D_X1_goesOn 20 rfl)
        · refine g_iconst (v := (1 : Int32)) (dk D_X1_goesOn 17 rfl) rfl ?_
          refine g_goto (tgt := 37) (dk D_X1_goesOn 18 rfl) rfl ?_
          exact g_zreturn rfl rfl (Or.inr rfl) Sx.rf rfl (by decide) (by decide) (dk D_X1_goesOn 20 rfl)
def t_X1_goesOn (I : II) (a0 : Nat) (x1 : Int32) : Int32 :=
  if x1 < (I a0 9) then (0 : Int32) else if (I a0 10) < x1 then (0 : Int32) else if (I a0 1) = (1 : Int32) then if (5 : Int32) ≤ (x1 - x1 / (7 : Int32) * (7 : Int32)) then (0 : Int32) else (1 : Int32) else (1 : Int32)
theorem ft_X1_goesOn (fu : Nat) (S : Sk) (I0 : II) (a0 : Nat) (x1 : Int32) : f_X1_goesOn fu S I0 a0 x1 = some (t_X1_goesOn I0 a0 x1) := by
  simp only [f_X1_goesOn, t_X1_goesOn, lt, apply_ite some]
theorem z_X1_goesOn (I : II) (a0 : Nat) (x1 : Int32) : t_X1_goesOn I a0 x1 = 0 ∨ t_X1_goesOn I a0 x1 = 1 := by
  unfold t_X1_goesOn
  (repeat' split) <;> first | exact Or.inl rfl | exact Or.inr rfl
theorem c_X1_goesOn {E : EV} (S0 : Sk) (I0 : II) (a0 : Nat) (x1 : Int32) (ht0 : tyO S0 1 a0) : MX E yX1_goesOn i_X1_goesOn S0 I0 [vA (a0 + 1), vI x1] (po_X1_goesOn S0 I0 (t_X1_goesOn I0 a0 x1)) :=
  MX.of (ft_X1_goesOn 0 S0 I0 a0 x1) (by decide) rfl rfl (Nat.le_of_ble_eq_true rfl) (gg_X1_goesOn 0 S0 I0 a0 x1 ht0)
def tb_X1_buses : List (Nat × Instr × Nat) := [(0, .aload_n 0, 1), (1, .getfield 46, 3), (4, .aload_n 0, 1), (5, .getfield 34, 3), (8, .isub, 1), (9, .aload_n 0, 1), (10, .getfield 43, 3), (13, .idiv, 1), (14, .iconst 1, 1), (15, .iadd, 1), (16, .ireturn, 1)]
def i_X1_buses : MI := (RX1, cX1_buses, 1, (some .int), "buses", { frames := 0, cells := 0, slots := 0, locals := 0 })
theorem D_X1_buses : tbOK (i_X1_buses).2.1 tb_X1_buses := by show ∀ q ∈ tb_X1_buses, decode cX1_buses q.1 = .ok (q.2.1, q.2.2); decide +kernel
def po_X1_buses (S : Sk) (I : II) (r : Int32) : Option LV × Sk × II := (some (vI r), S, I)
def f_X1_buses (fu : Nat) (S : Sk) (I : II) (a0 : Nat) : Option (Int32) :=
  gd (¬ (I a0 3) = 0) (some (((((I a0 4) - (I a0 2)) / (I a0 3)) + (1 : Int32))))
set_option maxRecDepth 100000 in
set_option maxHeartbeats 4000000 in
theorem gg_X1_buses {E : EV} (fu : Nat) (S0 : Sk) (I0 : II) (a0 : Nat) (ht0 : tyO S0 1 a0) : GG E i_X1_buses (enM E i_X1_buses S0 (po_X1_buses S0 I0)) S0 I0 (0, 0) 0 [(0, vA (a0 + 1))] [] (f_X1_buses fu S0 I0 a0) := by
  unfold f_X1_buses
  refine g_aload_n (dk D_X1_buses 0 rfl) rfl ?_
  refine g_getIt fl_RX1_46 (by decide) ht0 (dk D_X1_buses 1 rfl) ?_
  refine g_aload_n (dk D_X1_buses 2 rfl) rfl ?_
  refine g_getIt fl_RX1_34 (by decide) ht0 (dk D_X1_buses 3 rfl) ?_
  refine g_isub (dk D_X1_buses 4 rfl) ?_
  refine g_aload_n (dk D_X1_buses 5 rfl) rfl ?_
  refine g_getIt fl_RX1_43 (by decide) ht0 (dk D_X1_buses 6 rfl) ?_
  refine g_gd (fun hz1 => ?_)
  refine g_idiv (dk D_X1_buses 7 rfl) hz1 ?_
  refine g_iconst (v := (1 : Int32)) (dk D_X1_buses 8 rfl) rfl ?_
  refine g_iadd (dk D_X1_buses 9 rfl) ?_
  exact g_ireturn rfl rfl Sx.rf rfl (by decide) (by decide) (dk D_X1_buses 10 rfl)
theorem c_X1_buses {E : EV} (fu : Nat) (S0 : Sk) (I0 : II) (a0 : Nat) (r : Int32) (h : f_X1_buses fu S0 I0 a0 = some r) (ht0 : tyO S0 1 a0) : MX E yX1_buses i_X1_buses S0 I0 [vA (a0 + 1)] (po_X1_buses S0 I0 r) :=
  MX.of h (by decide) rfl rfl (Nat.le_of_ble_eq_true rfl) (gg_X1_buses fu S0 I0 a0 ht0)
def tb_X1_roundMinutes : List (Nat × Instr × Nat) := [(0, .aload_n 0, 1), (1, .getfield 15, 3), (4, .aload_n 0, 1), (5, .getfield 52, 3), (8, .iconst 1, 1), (9, .isub, 1), (10, .iaload, 1), (11, .ireturn, 1)]
def i_X1_roundMinutes : MI := (RX1, cX1_roundMinutes, 1, (some .int), "roundMinutes", { frames := 0, cells := 0, slots := 0, locals := 0 })
theorem D_X1_roundMinutes : tbOK (i_X1_roundMinutes).2.1 tb_X1_roundMinutes := by show ∀ q ∈ tb_X1_roundMinutes, decode cX1_roundMinutes q.1 = .ok (q.2.1, q.2.2); decide +kernel
def po_X1_roundMinutes (S : Sk) (I : II) (r : Int32) : Option LV × Sk × II := (some (vI r), S, I)
def f_X1_roundMinutes (fu : Nat) (S : Sk) (I : II) (a0 : Nat) : Option (Int32) :=
  gd (inb S (S.1 a0 7) ((I a0 5) - (1 : Int32))) (some ((rd I (S.1 a0 7) ((I a0 5) - (1 : Int32)))))
set_option maxRecDepth 100000 in
set_option maxHeartbeats 4000000 in
theorem gg_X1_roundMinutes {E : EV} (fu : Nat) (S0 : Sk) (I0 : II) (a0 : Nat) (ht0 : tyO S0 1 a0) : GG E i_X1_roundMinutes (enM E i_X1_roundMinutes S0 (po_X1_roundMinutes S0 I0)) S0 I0 (0, 0) 0 [(0, vA (a0 + 1))] [] (f_X1_roundMinutes fu S0 I0 a0) := by
  unfold f_X1_roundMinutes
  refine g_aload_n (dk D_X1_roundMinutes 0 rfl) rfl ?_
  refine g_getAt (t := 100) fl_RX1_15 rfl ht0 (dk D_X1_roundMinutes 1 rfl) (fun ht1 => ?_)
  refine g_aload_n (dk D_X1_roundMinutes 2 rfl) rfl ?_
  refine g_getIt fl_RX1_52 (by decide) ht0 (dk D_X1_roundMinutes 3 rfl) ?_
  refine g_iconst (v := (1 : Int32)) (dk D_X1_roundMinutes 4 rfl) rfl ?_
  refine g_isub (dk D_X1_roundMinutes 5 rfl) ?_
  refine g_gd (fun hi2 => ?_)
  refine g_iaload ht1 hi2 (dk D_X1_roundMinutes 6 rfl) ?_
  exact g_ireturn rfl rfl Sx.rf rfl (by decide) (by decide) (dk D_X1_roundMinutes 7 rfl)
theorem c_X1_roundMinutes {E : EV} (fu : Nat) (S0 : Sk) (I0 : II) (a0 : Nat) (r : Int32) (h : f_X1_roundMinutes fu S0 I0 a0 = some r) (ht0 : tyO S0 1 a0) : MX E yX1_roundMinutes i_X1_roundMinutes S0 I0 [vA (a0 + 1)] (po_X1_roundMinutes S0 I0 r) :=
  MX.of h (by decide) rfl rfl (Nat.le_of_ble_eq_true rfl) (gg_X1_roundMinutes fu S0 I0 a0 ht0)
theorem lk_RX1_58 : Cond.constant RX1 58 (1073741824 : Int32) ∈ lw_good := (gm 517 (by decide +kernel) (by decide +kernel))
def tb_X1_startOfBus : List (Nat × Instr × Nat) := [(0, .iload_n 2, 1), (1, .aload_n 0, 1), (2, .getfield 15, 3), (5, .iload_n 1, 1), (6, .iaload, 1), (7, .isub, 1), (8, .aload_n 0, 1), (9, .getfield 34, 3), (12, .isub, 1), (13, .istore_n 3, 1), (14, .iload_n 3, 1), (15, .ifCond .gt 10, 3), (18, .aload_n 0, 1), (19, .getfield 34, 3), (22, .goto 26, 3), (25, .aload_n 0, 1), (26, .getfield 34, 3), (29, .iload_n 3, 1), (30, .aload_n 0, 1), (31, .getfield 43, 3), (34, .iadd, 1), (35, .iconst 1, 1), (36, .isub, 1), (37, .aload_n 0, 1), (38, .getfield 43, 3), (41, .idiv, 1), (42, .aload_n 0, 1), (43, .getfield 43, 3), (46, .imul, 1), (47, .iadd, 1), (48, .istore 4, 2), (50, .iload 4, 2), (52, .aload_n 0, 1), (53, .getfield 46, 3), (56, .if_icmp .le 8, 3), (59, .ldc 58, 2), (61, .goto 5, 3), (64, .iload 4, 2), (66, .ireturn, 1)]
def i_X1_startOfBus : MI := (RX1, cX1_startOfBus, 5, (some .int), "startOfBus", { frames := 0, cells := 0, slots := 0, locals := 0 })
theorem D_X1_startOfBus : tbOK (i_X1_startOfBus).2.1 tb_X1_startOfBus := by show ∀ q ∈ tb_X1_startOfBus, decode cX1_startOfBus q.1 = .ok (q.2.1, q.2.2); decide +kernel
def po_X1_startOfBus (S : Sk) (I : II) (r : Int32) : Option LV × Sk × II := (some (vI r), S, I)
def jn_X1_startOfBus_48 (fu : Nat) (S : Sk) (I : II) (a0 : Nat) (s0 : Int32) : Option (Int32) :=
  if s0 ≤ (I a0 4) then some (s0) else some ((1073741824 : Int32))
def f_X1_startOfBus (fu : Nat) (S : Sk) (I : II) (a0 : Nat) (x1 : Int32) (x2 : Int32) : Option (Int32) :=
  gd (inb S (S.1 a0 7) x1) (lt ((x2 - (rd I (S.1 a0 7) x1)) - (I a0 2)) fun x3_4 => (if 0 < x3_4 then gd (¬ (I a0 3) = 0) (jn_X1_startOfBus_48 fu S I a0 ((I a0 2) + ((((x3_4 + (I a0 3)) - (1 : Int32)) / (I a0 3)) * (I a0 3)))) else jn_X1_startOfBus_48 fu S I a0 (I a0 2)))
set_option maxRecDepth 100000 in
set_option maxHeartbeats 4000000 in
theorem gg_X1_startOfBus {E : EV} (fu : Nat) (S0 : Sk) (I0 : II) (a0 : Nat) (x1 : Int32) (x2 : Int32) (ht0 : tyO S0 1 a0) : GG E i_X1_startOfBus (enM E i_X1_startOfBus S0 (po_X1_startOfBus S0 I0)) S0 I0 (0, 0) 0 [(0, vA (a0 + 1)), (1, vI x1), (2, vI x2)] [] (f_X1_startOfBus fu S0 I0 a0 x1 x2) := by
  have hj48 : ∀ (s0 : Int32), GG E i_X1_startOfBus (enM E i_X1_startOfBus S0 (po_X1_startOfBus S0 I0)) S0 I0 (0, 0) 48 [(0, vA (a0 + 1))] [vI s0] (jn_X1_startOfBus_48 fu S0 I0 a0 s0) := by
    intro s0 
    unfold jn_X1_startOfBus_48
    refine g_istore (L' := [(0, vA (a0 + 1)), (4, vI s0)]) (dk D_X1_startOfBus 30 rfl) (Nat.le_of_ble_eq_true rfl) rfl ?_
    refine g_iload (dk D_X1_startOfBus 31 rfl) rfl ?_
    refine g_aload_n (dk D_X1_startOfBus 32 rfl) rfl ?_
    refine g_getIt fl_RX1_46 (by decide) ht0 (dk D_X1_startOfBus 33 rfl) ?_
    refine g_icmp_le (tgt := 64) (dk D_X1_startOfBus 34 rfl) rfl (fun hc1 => ?_) (fun hc1 => ?_)
    · refine g_iload (dk D_X1_startOfBus 37 rfl) rfl ?_
      exact g_ireturn rfl rfl Sx.rf rfl (by decide) (by decide) (dk D_X1_startOfBus 38 rfl)
    · refine g_ldc (dk D_X1_startOfBus 35 rfl) lk_RX1_58 ?_
      refine g_goto (tgt := 66) (dk D_X1_startOfBus 36 rfl) rfl ?_
      exact g_ireturn rfl rfl Sx.rf rfl (by decide) (by decide) (dk D_X1_startOfBus 38 rfl)
  unfold f_X1_startOfBus
  refine g_iload_n (dk D_X1_startOfBus 0 rfl) rfl ?_
  refine g_aload_n (dk D_X1_startOfBus 1 rfl) rfl ?_
  refine g_getAt (t := 100) fl_RX1_15 rfl ht0 (dk D_X1_startOfBus 2 rfl) (fun ht2 => ?_)
  refine g_iload_n (dk D_X1_startOfBus 3 rfl) rfl ?_
  refine g_gd (fun hi3 => ?_)
  refine g_iaload ht2 hi3 (dk D_X1_startOfBus 4 rfl) ?_
  refine g_isub (dk D_X1_startOfBus 5 rfl) ?_
  refine g_aload_n (dk D_X1_startOfBus 6 rfl) rfl ?_
  refine g_getIt fl_RX1_34 (by decide) ht0 (dk D_X1_startOfBus 7 rfl) ?_
  refine g_isub (dk D_X1_startOfBus 8 rfl) ?_
  refine g_ltV (fun x3_4 ex3_4 => ?_)
  refine g_istore_n (L' := [(0, vA (a0 + 1)), (1, vI x1), (2, vI x2), (3, vI x3_4)]) (dk D_X1_startOfBus 9 rfl) (Nat.le_of_ble_eq_true rfl) rfl ?_
  refine g_iload_n (dk D_X1_startOfBus 10 rfl) rfl ?_
  refine g_if_gt (tgt := 25) (dk D_X1_startOfBus 11 rfl) rfl (fun hc5 => ?_) (fun hc5 => ?_)
  · refine g_aload_n (dk D_X1_startOfBus 15 rfl) rfl ?_
    refine g_getIt fl_RX1_34 (by decide) ht0 (dk D_X1_startOfBus 16 rfl) ?_
    refine g_iload_n (dk D_X1_startOfBus 17 rfl) rfl ?_
    refine g_aload_n (dk D_X1_startOfBus 18 rfl) rfl ?_
    refine g_getIt fl_RX1_43 (by decide) ht0 (dk D_X1_startOfBus 19 rfl) ?_
    refine g_iadd (dk D_X1_startOfBus 20 rfl) ?_
    refine g_iconst (v := (1 : Int32)) (dk D_X1_startOfBus 21 rfl) rfl ?_
    refine g_isub (dk D_X1_startOfBus 22 rfl) ?_
    refine g_aload_n (dk D_X1_startOfBus 23 rfl) rfl ?_
    refine g_getIt fl_RX1_43 (by decide) ht0 (dk D_X1_startOfBus 24 rfl) ?_
    refine g_gd (fun hz6 => ?_)
    refine g_idiv (dk D_X1_startOfBus 25 rfl) hz6 ?_
    refine g_aload_n (dk D_X1_startOfBus 26 rfl) rfl ?_
    refine g_getIt fl_RX1_43 (by decide) ht0 (dk D_X1_startOfBus 27 rfl) ?_
    refine g_imul (dk D_X1_startOfBus 28 rfl) ?_
    refine g_iadd (dk D_X1_startOfBus 29 rfl) ?_
    refine g_Lp [0] rfl ?_
    exact hj48 ((I0 a0 2) + ((((x3_4 + (I0 a0 3)) - (1 : Int32)) / (I0 a0 3)) * (I0 a0 3)))
  · refine g_aload_n (dk D_X1_startOfBus 12 rfl) rfl ?_
    refine g_getIt fl_RX1_34 (by decide) ht0 (dk D_X1_startOfBus 13 rfl) ?_
    refine g_goto (tgt := 48) (dk D_X1_startOfBus 14 rfl) rfl ?_
    refine g_Lp [0] rfl ?_
    exact hj48 (I0 a0 2)
theorem c_X1_startOfBus {E : EV} (fu : Nat) (S0 : Sk) (I0 : II) (a0 : Nat) (x1 : Int32) (x2 : Int32) (r : Int32) (h : f_X1_startOfBus fu S0 I0 a0 x1 x2 = some r) (ht0 : tyO S0 1 a0) : MX E yX1_startOfBus i_X1_startOfBus S0 I0 [vA (a0 + 1), vI x1, vI x2] (po_X1_startOfBus S0 I0 r) :=
  MX.of h (by decide) rfl rfl (Nat.le_of_ble_eq_true rfl) (gg_X1_startOfBus fu S0 I0 a0 x1 x2 ht0)
theorem cl_RX1_59 : CV0 RX1 59 yX1_buses i_X1_buses 0 1 := ⟨⟨(gm 864 (by decide +kernel) (by decide +kernel)), (gm 76 (by decide +kernel) (by decide +kernel)), ((gm 496 (by decide +kernel) (by decide +kernel))), by decide +kernel, by decide +kernel, by decide +kernel⟩, ⟨(gm 494 (by decide +kernel) (by decide +kernel)), (gm 495 (by decide +kernel) (by decide +kernel))⟩, rfl, by decide⟩
def tb_X1_lastBusAt : List (Nat × Instr × Nat) := [(0, .aload_n 0, 1), (1, .getfield 34, 3), (4, .aload_n 0, 1), (5, .invokevirtual 59, 3), (8, .iconst 1, 1), (9, .isub, 1), (10, .aload_n 0, 1), (11, .getfield 43, 3), (14, .imul, 1), (15, .iadd, 1), (16, .aload_n 0, 1), (17, .getfield 15, 3), (20, .iload_n 1, 1), (21, .iaload, 1), (22, .iadd, 1), (23, .ireturn, 1)]
def i_X1_lastBusAt : MI := (RX1, cX1_lastBusAt, 2, (some .int), "lastBusAt", { frames := 1, cells := 0, slots := 0, locals := 20 })
theorem D_X1_lastBusAt : tbOK (i_X1_lastBusAt).2.1 tb_X1_lastBusAt := by show ∀ q ∈ tb_X1_lastBusAt, decode cX1_lastBusAt q.1 = .ok (q.2.1, q.2.2); decide +kernel
def po_X1_lastBusAt (S : Sk) (I : II) (r : Int32) : Option LV × Sk × II := (some (vI r), S, I)
def f_X1_lastBusAt (fu : Nat) (S : Sk) (I : II) (a0 : Nat) (x1 : Int32) : Option (Int32) :=
  (f_X1_buses fu S I a0).bind fun q1 => (gd (inb S (S.1 a0 7) x1) (some ((((I a0 2) + ((q1 - (1 : Int32)) * (I a0 3))) + (rd I (S.1 a0 7) x1)))))
set_option maxRecDepth 100000 in
set_option maxHeartbeats 4000000 in
theorem gg_X1_lastBusAt {E : EV} (fu : Nat) (S0 : Sk) (I0 : II) (a0 : Nat) (x1 : Int32) (ht0 : tyO S0 1 a0) : GG E i_X1_lastBusAt (enM E i_X1_lastBusAt S0 (po_X1_lastBusAt S0 I0)) S0 I0 (0, 0) 0 [(0, vA (a0 + 1)), (1, vI x1)] [] (f_X1_lastBusAt fu S0 I0 a0 x1) := by
  unfold f_X1_lastBusAt
  refine g_aload_n (dk D_X1_lastBusAt 0 rfl) rfl ?_
  refine g_getIt fl_RX1_34 (by decide) ht0 (dk D_X1_lastBusAt 1 rfl) ?_
  refine g_aload_n (dk D_X1_lastBusAt 2 rfl) rfl ?_
  refine g_bind (fun q1 hq2 => ?_)
  refine h_callVt (st := [vI (I0 a0 2)]) (c_X1_buses (E := E) fu S0 I0 a0 q1 hq2 (ht0)) cl_RX1_59 ht0 rfl rfl (by decide) (Nat.le_of_ble_eq_true rfl) (dk D_X1_lastBusAt 3 rfl) ?_
  refine g_iconst (v := (1 : Int32)) (dk D_X1_lastBusAt 4 rfl) rfl ?_
  refine g_isub (dk D_X1_lastBusAt 5 rfl) ?_
  refine g_aload_n (dk D_X1_lastBusAt 6 rfl) rfl ?_
  refine g_getIt fl_RX1_43 (by decide) ht0 (dk D_X1_lastBusAt 7 rfl) ?_
  refine g_imul (dk D_X1_lastBusAt 8 rfl) ?_
  refine g_iadd (dk D_X1_lastBusAt 9 rfl) ?_
  refine g_aload_n (dk D_X1_lastBusAt 10 rfl) rfl ?_
  refine g_getAt (t := 100) fl_RX1_15 rfl ht0 (dk D_X1_lastBusAt 11 rfl) (fun ht4 => ?_)
  refine g_iload_n (dk D_X1_lastBusAt 12 rfl) rfl ?_
  refine g_gd (fun hi5 => ?_)
  refine g_iaload ht4 hi5 (dk D_X1_lastBusAt 13 rfl) ?_
  refine g_iadd (dk D_X1_lastBusAt 14 rfl) ?_
  exact g_ireturn rfl rfl Sx.rf rfl (by decide) (by decide) (dk D_X1_lastBusAt 15 rfl)
theorem c_X1_lastBusAt {E : EV} (fu : Nat) (S0 : Sk) (I0 : II) (a0 : Nat) (x1 : Int32) (r : Int32) (h : f_X1_lastBusAt fu S0 I0 a0 x1 = some r) (ht0 : tyO S0 1 a0) : MX E yX1_lastBusAt i_X1_lastBusAt S0 I0 [vA (a0 + 1), vI x1] (po_X1_lastBusAt S0 I0 r) :=
  MX.of h (by decide) rfl rfl (Nat.le_of_ble_eq_true rfl) (gg_X1_lastBusAt fu S0 I0 a0 x1 ht0)
def tb_X1_placeOf : List (Nat × Instr × Nat) := [(0, .iconst 0, 1), (1, .istore_n 2, 1), (2, .iload_n 2, 1), (3, .aload_n 0, 1), (4, .getfield 52, 3), (7, .if_icmp .ge 21, 3), (10, .aload_n 0, 1), (11, .getfield 9, 3), (14, .iload_n 2, 1), (15, .iaload, 1), (16, .iload_n 1, 1), (17, .if_icmp .ne 5, 3), (20, .iload_n 2, 1), (21, .ireturn, 1), (22, .iinc 2 1, 3), (25, .goto (-23), 3), (28, .bipush (-9), 2), (30, .ireturn, 1)]
def i_X1_placeOf : MI := (RX1, cX1_placeOf, 3, (some .int), "placeOf", { frames := 0, cells := 0, slots := 0, locals := 0 })
theorem D_X1_placeOf : tbOK (i_X1_placeOf).2.1 tb_X1_placeOf := by show ∀ q ∈ tb_X1_placeOf, decode cX1_placeOf q.1 = .ok (q.2.1, q.2.2); decide +kernel
def po_X1_placeOf (S : Sk) (I : II) (r : Int32) : Option LV × Sk × II := (some (vI r), S, I)
def lp_X1_placeOf_2 (fu : Nat) (S : Sk) (I : II) (a0 : Nat) (x1 : Int32) (self2 : Int32 → Option (Int32)) (x2 : Int32) : Option (Int32) :=
  if (I a0 5) ≤ x2 then some (((-9) : Int32)) else gd (inb S (S.1 a0 6) x2) (if (rd I (S.1 a0 6) x2) = x1 then some (x2) else self2 (x2 + (1 : Int32)))
def f_X1_placeOf (fu : Nat) (S : Sk) (I : II) (a0 : Nat) (x1 : Int32) : Option (Int32) :=
  fix1 (lp_X1_placeOf_2 fu S I a0 x1) fu (0 : Int32)
set_option maxRecDepth 100000 in
set_option maxHeartbeats 4000000 in
theorem gg_X1_placeOf {E : EV} (fu : Nat) (S0 : Sk) (I0 : II) (a0 : Nat) (x1 : Int32) (ht0 : tyO S0 1 a0) : GG E i_X1_placeOf (enM E i_X1_placeOf S0 (po_X1_placeOf S0 I0)) S0 I0 (0, 0) 0 [(0, vA (a0 + 1)), (1, vI x1)] [] (f_X1_placeOf fu S0 I0 a0 x1) := by
  have hl2 : ∀ (nn : Nat) (x2 : Int32), True → GG E i_X1_placeOf (enM E i_X1_placeOf S0 (po_X1_placeOf S0 I0)) S0 I0 (0, 0) 2 [(0, vA (a0 + 1)), (1, vI x1), (2, vI x2)] [] (fix1 (lp_X1_placeOf_2 fu S0 I0 a0 x1) nn x2) := by
    refine g_fix1 (fun _ => S0) (fun _ => I0) (fun x2 => [(0, vA (a0 + 1)), (1, vI x1), (2, vI x2)]) (fun x2 => True) ?_
    intro self2 hself2 x2 hinv
    unfold lp_X1_placeOf_2
    refine g_iload_n (dk D_X1_placeOf 2 rfl) rfl ?_
    refine g_aload_n (dk D_X1_placeOf 3 rfl) rfl ?_
    refine g_getIt fl_RX1_52 (by decide) ht0 (dk D_X1_placeOf 4 rfl) ?_
    refine g_icmp_ge (tgt := 28) (dk D_X1_placeOf 5 rfl) rfl (fun hc1 => ?_) (fun hc1 => ?_)
    · refine g_bipush (v := ((-9) : Int32)) (dk D_X1_placeOf 16 rfl) rfl ?_
      exact g_ireturn rfl rfl Sx.rf rfl (by decide) (by decide) (dk D_X1_placeOf 17 rfl)
    · refine g_aload_n (dk D_X1_placeOf 6 rfl) rfl ?_
      refine g_getAt (t := 100) fl_RX1_9 rfl ht0 (dk D_X1_placeOf 7 rfl) (fun ht2 => ?_)
      refine g_iload_n (dk D_X1_placeOf 8 rfl) rfl ?_
      refine g_gd (fun hi3 => ?_)
      refine g_iaload ht2 hi3 (dk D_X1_placeOf 9 rfl) ?_
      refine g_iload_n (dk D_X1_placeOf 10 rfl) rfl ?_
      refine g_icmp_ne (tgt := 22) (dk D_X1_placeOf 11 rfl) rfl (fun hc4 => ?_) (fun hc4 => ?_)
      · refine g_iinc (v := (1 : Int32)) (L' := [(0, vA (a0 + 1)), (1, vI x1), (2, vI (x2 + (1 : Int32)))]) (dk D_X1_placeOf 14 rfl) rfl rfl (Nat.le_of_ble_eq_true rfl) rfl ?_
        refine g_goto (tgt := 2) (dk D_X1_placeOf 15 rfl) rfl ?_
        exact hself2 (x2 + (1 : Int32)) trivial
      · refine g_iload_n (dk D_X1_placeOf 12 rfl) rfl ?_
        exact g_ireturn rfl rfl Sx.rf rfl (by decide) (by decide) (dk D_X1_placeOf 13 rfl)
  unfold f_X1_placeOf
  refine g_iconst (v := (0 : Int32)) (dk D_X1_placeOf 0 rfl) rfl ?_
  refine g_istore_n (L' := [(0, vA (a0 + 1)), (1, vI x1), (2, vI (0 : Int32))]) (dk D_X1_placeOf 1 rfl) (Nat.le_of_ble_eq_true rfl) rfl ?_
  exact hl2 fu (0 : Int32) trivial
theorem c_X1_placeOf {E : EV} (fu : Nat) (S0 : Sk) (I0 : II) (a0 : Nat) (x1 : Int32) (r : Int32) (h : f_X1_placeOf fu S0 I0 a0 x1 = some r) (ht0 : tyO S0 1 a0) : MX E yX1_placeOf i_X1_placeOf S0 I0 [vA (a0 + 1), vI x1] (po_X1_placeOf S0 I0 r) :=
  MX.of h (by decide) rfl rfl (Nat.le_of_ble_eq_true rfl) (gg_X1_placeOf fu S0 I0 a0 x1 ht0)
def tb_X1_leftBehind : List (Nat × Instr × Nat) := [(0, .iload_n 2, 1), (1, .istore_n 3, 1), (2, .iconst 0, 1), (3, .istore 4, 2), (5, .iconst 0, 1), (6, .istore 5, 2), (8, .iload 5, 2), (10, .aload_n 0, 1), (11, .getfield 52, 3), (14, .iconst 1, 1), (15, .isub, 1), (16, .if_icmp .ge 53, 3), (19, .iload_n 3, 1), (20, .aload_n 0, 1), (21, .getfield 18, 3), (24, .iload 5, 2), (26, .iaload, 1), (27, .invokestatic 49, 3), (30, .istore 6, 2), (32, .iload_n 3, 1), (33, .iload 6, 2), (35, .isub, 1), (36, .istore_n 3, 1), (37, .iload_n 1, 1), (38, .iconst (-1), 1), (39, .if_icmp .eq 9, 3), (42, .iload_n 1, 1), (43, .iload 5, 2), (45, .if_icmp .ne 18, 3), (48, .iload 4, 2), (50, .aload_n 0, 1), (51, .getfield 18, 3), (54, .iload 5, 2), (56, .iaload, 1), (57, .iload 6, 2), (59, .isub, 1), (60, .iadd, 1), (61, .istore 4, 2), (63, .iinc 5 1, 3), (66, .goto (-58), 3), (69, .iload 4, 2), (71, .ireturn, 1)]
def i_X1_leftBehind : MI := (RX1, cX1_leftBehind, 7, (some .int), "leftBehind", { frames := 1, cells := 0, slots := 0, locals := 80 })
theorem D_X1_leftBehind : tbOK (i_X1_leftBehind).2.1 tb_X1_leftBehind := by show ∀ q ∈ tb_X1_leftBehind, decode cX1_leftBehind q.1 = .ok (q.2.1, q.2.2); decide +kernel
def po_X1_leftBehind (S : Sk) (I : II) (r : Int32) : Option LV × Sk × II := (some (vI r), S, I)
def jn_X1_leftBehind_63 (fu : Nat) (S : Sk) (I : II) (self8 : Int32 → Int32 → Int32 → Option (Int32)) (a0 : Nat) (x1 : Int32) (x3 : Int32) (x4 : Int32) (x5 : Int32) : Option (Int32) :=
  self8 x3 x4 (x5 + (1 : Int32))
def jn_X1_leftBehind_48 (fu : Nat) (S : Sk) (I : II) (self8 : Int32 → Int32 → Int32 → Option (Int32)) (a0 : Nat) (x1 : Int32) (x3 : Int32) (x4 : Int32) (x5 : Int32) (x6 : Int32) : Option (Int32) :=
  gd (inb S (S.1 a0 8) x5) (lt (x4 + ((rd I (S.1 a0 8) x5) - x6)) fun x4_3 => (jn_X1_leftBehind_63 fu S I self8 a0 x1 x3 x4_3 x5))
def lp_X1_leftBehind_8 (fu : Nat) (S : Sk) (I : II) (a0 : Nat) (x1 : Int32) (self8 : Int32 → Int32 → Int32 → Option (Int32)) (x3 : Int32) (x4 : Int32) (x5 : Int32) : Option (Int32) :=
  if ((I a0 5) - (1 : Int32)) ≤ x5 then some (x4) else gd (inb S (S.1 a0 8) x5) (lt (jmin x3 (rd I (S.1 a0 8) x5)) fun x6_7 => (lt (x3 - x6_7) fun x3_8 => (if x1 = ((-1) : Int32) then jn_X1_leftBehind_48 fu S I self8 a0 x1 x3_8 x4 x5 x6_7 else if x1 = x5 then jn_X1_leftBehind_48 fu S I self8 a0 x1 x3_8 x4 x5 x6_7 else jn_X1_leftBehind_63 fu S I self8 a0 x1 x3_8 x4 x5)))
def f_X1_leftBehind (fu : Nat) (S : Sk) (I : II) (a0 : Nat) (x1 : Int32) (x2 : Int32) : Option (Int32) :=
  fix3 (lp_X1_leftBehind_8 fu S I a0 x1) fu x2 (0 : Int32) (0 : Int32)
set_option maxRecDepth 100000 in
set_option maxHeartbeats 4000000 in
theorem gg_X1_leftBehind {E : EV} (fu : Nat) (S0 : Sk) (I0 : II) (a0 : Nat) (x1 : Int32) (x2 : Int32) (ht0 : tyO S0 1 a0) : GG E i_X1_leftBehind (enM E i_X1_leftBehind S0 (po_X1_leftBehind S0 I0)) S0 I0 (0, 0) 0 [(0, vA (a0 + 1)), (1, vI x1), (2, vI x2)] [] (f_X1_leftBehind fu S0 I0 a0 x1 x2) := by
  have hl8 : ∀ (nn : Nat) (x3 : Int32) (x4 : Int32) (x5 : Int32), True → GG E i_X1_leftBehind (enM E i_X1_leftBehind S0 (po_X1_leftBehind S0 I0)) S0 I0 (0, 0) 8 [(0, vA (a0 + 1)), (1, vI x1), (3, vI x3), (4, vI x4), (5, vI x5)] [] (fix3 (lp_X1_leftBehind_8 fu S0 I0 a0 x1) nn x3 x4 x5) := by
    refine g_fix3 (fun _ _ _ => S0) (fun _ _ _ => I0) (fun x3 x4 x5 => [(0, vA (a0 + 1)), (1, vI x1), (3, vI x3), (4, vI x4), (5, vI x5)]) (fun x3 x4 x5 => True) ?_
    intro self8 hself8 x3 x4 x5 hinv
    have hj63 : ∀ (x3 : Int32) (x4 : Int32) (x5 : Int32), GG E i_X1_leftBehind (enM E i_X1_leftBehind S0 (po_X1_leftBehind S0 I0)) S0 I0 (0, 0) 63 [(0, vA (a0 + 1)), (1, vI x1), (3, vI x3), (4, vI x4), (5, vI x5)] [] (jn_X1_leftBehind_63 fu S0 I0 self8 a0 x1 x3 x4 x5) := by
      intro x3 x4 x5 
      unfold jn_X1_leftBehind_63
      refine g_iinc (v := (1 : Int32)) (L' := [(0, vA (a0 + 1)), (1, vI x1), (3, vI x3), (4, vI x4), (5, vI (x5 + (1 : Int32)))]) (dk D_X1_leftBehind 38 rfl) rfl rfl (Nat.le_of_ble_eq_true rfl) rfl ?_
      refine g_goto (tgt := 8) (dk D_X1_leftBehind 39 rfl) rfl ?_
      exact hself8 x3 x4 (x5 + (1 : Int32)) trivial
    have hj48 : ∀ (x3 : Int32) (x4 : Int32) (x5 : Int32) (x6 : Int32), GG E i_X1_leftBehind (enM E i_X1_leftBehind S0 (po_X1_leftBehind S0 I0)) S0 I0 (0, 0) 48 [(0, vA (a0 + 1)), (1, vI x1), (3, vI x3), (4, vI x4), (5, vI x5), (6, vI x6)] [] (jn_X1_leftBehind_48 fu S0 I0 self8 a0 x1 x3 x4 x5 x6) := by
      intro x3 x4 x5 x6 
      unfold jn_X1_leftBehind_48
      refine g_iload (dk D_X1_leftBehind 29 rfl) rfl ?_
      refine g_aload_n (dk D_X1_leftBehind 30 rfl) rfl ?_
      refine g_getAt (t := 100) fl_RX1_18 rfl ht0 (dk D_X1_leftBehind 31 rfl) (fun ht1 => ?_)
      refine g_iload (dk D_X1_leftBehind 32 rfl) rfl ?_
      refine g_gd (fun hi2 => ?_)
      refine g_iaload ht1 hi2 (dk D_X1_leftBehind 33 rfl) ?_
      refine g_iload (dk D_X1_leftBehind 34 rfl) rfl ?_
      refine g_isub (dk D_X1_leftBehind 35 rfl) ?_
      refine g_iadd (dk D_X1_leftBehind 36 rfl) ?_
      refine g_ltV (fun x4_3 ex4_3 => ?_)
      refine g_istore (L' := [(0, vA (a0 + 1)), (1, vI x1), (3, vI x3), (4, vI x4_3), (5, vI x5), (6, vI x6)]) (dk D_X1_leftBehind 37 rfl) (Nat.le_of_ble_eq_true rfl) rfl ?_
      refine g_Lp [0, 1, 2, 3, 4] rfl ?_
      exact hj63 x3 x4_3 x5
    unfold lp_X1_leftBehind_8
    refine g_iload (dk D_X1_leftBehind 6 rfl) rfl ?_
    refine g_aload_n (dk D_X1_leftBehind 7 rfl) rfl ?_
    refine g_getIt fl_RX1_52 (by decide) ht0 (dk D_X1_leftBehind 8 rfl) ?_
    refine g_iconst (v := (1 : Int32)) (dk D_X1_leftBehind 9 rfl) rfl ?_
    refine g_isub (dk D_X1_leftBehind 10 rfl) ?_
    refine g_icmp_ge (tgt := 69) (dk D_X1_leftBehind 11 rfl) rfl (fun hc4 => ?_) (fun hc4 => ?_)
    · refine g_iload (dk D_X1_leftBehind 40 rfl) rfl ?_
      exact g_ireturn rfl rfl Sx.rf rfl (by decide) (by decide) (dk D_X1_leftBehind 41 rfl)
    · refine g_iload_n (dk D_X1_leftBehind 12 rfl) rfl ?_
      refine g_aload_n (dk D_X1_leftBehind 13 rfl) rfl ?_
      refine g_getAt (t := 100) fl_RX1_18 rfl ht0 (dk D_X1_leftBehind 14 rfl) (fun ht5 => ?_)
      refine g_iload (dk D_X1_leftBehind 15 rfl) rfl ?_
      refine g_gd (fun hi6 => ?_)
      refine g_iaload ht5 hi6 (dk D_X1_leftBehind 16 rfl) ?_
      refine g_mmin lk_RX1_49 lk_mmin (by decide) (Nat.le_of_ble_eq_true rfl) (by decide) (by decide) (dk D_X1_leftBehind 17 rfl) ?_
      refine g_ltV (fun x6_7 ex6_7 => ?_)
      refine g_istore (L' := [(0, vA (a0 + 1)), (1, vI x1), (3, vI x3), (4, vI x4), (5, vI x5), (6, vI x6_7)]) (dk D_X1_leftBehind 18 rfl) (Nat.le_of_ble_eq_true rfl) rfl ?_
      refine g_iload_n (dk D_X1_leftBehind 19 rfl) rfl ?_
      refine g_iload (dk D_X1_leftBehind 20 rfl) rfl ?_
      refine g_isub (dk D_X1_leftBehind 21 rfl) ?_
      refine g_ltV (fun x3_8 ex3_8 => ?_)
      refine g_istore_n (L' := [(0, vA (a0 + 1)), (1, vI x1), (3, vI x3_8), (4, vI x4), (5, vI x5), (6, vI x6_7)]) (dk D_X1_leftBehind 22 rfl) (Nat.le_of_ble_eq_true rfl) rfl ?_
      refine g_iload_n (dk D_X1_leftBehind 23 rfl) rfl ?_
      refine g_iconst (v := ((-1) : Int32)) (dk D_X1_leftBehind 24 rfl) rfl ?_
      refine g_icmp_eq (tgt := 48) (dk D_X1_leftBehind 25 rfl) rfl (fun hc9 => ?_) (fun hc9 => ?_)
      · exact hj48 x3_8 x4 x5 x6_7
      · refine g_iload_n (dk D_X1_leftBehind 26 rfl) rfl ?_
        refine g_iload (dk D_X1_leftBehind 27 rfl) rfl ?_
        refine g_icmp_ne (tgt := 63) (dk D_X1_leftBehind 28 rfl) rfl (fun hc10 => ?_) (fun hc10 => ?_)
        · refine g_Lp [0, 1, 2, 3, 4] rfl ?_
          exact hj63 x3_8 x4 x5
        · exact hj48 x3_8 x4 x5 x6_7
  unfold f_X1_leftBehind
  refine g_iload_n (dk D_X1_leftBehind 0 rfl) rfl ?_
  refine g_istore_n (L' := [(0, vA (a0 + 1)), (1, vI x1), (2, vI x2), (3, vI x2)]) (dk D_X1_leftBehind 1 rfl) (Nat.le_of_ble_eq_true rfl) rfl ?_
  refine g_iconst (v := (0 : Int32)) (dk D_X1_leftBehind 2 rfl) rfl ?_
  refine g_istore (L' := [(0, vA (a0 + 1)), (1, vI x1), (2, vI x2), (3, vI x2), (4, vI (0 : Int32))]) (dk D_X1_leftBehind 3 rfl) (Nat.le_of_ble_eq_true rfl) rfl ?_
  refine g_iconst (v := (0 : Int32)) (dk D_X1_leftBehind 4 rfl) rfl ?_
  refine g_istore (L' := [(0, vA (a0 + 1)), (1, vI x1), (2, vI x2), (3, vI x2), (4, vI (0 : Int32)), (5, vI (0 : Int32))]) (dk D_X1_leftBehind 5 rfl) (Nat.le_of_ble_eq_true rfl) rfl ?_
  refine g_Lp [0, 1, 3, 4, 5] rfl ?_
  exact hl8 fu x2 (0 : Int32) (0 : Int32) trivial
theorem c_X1_leftBehind {E : EV} (fu : Nat) (S0 : Sk) (I0 : II) (a0 : Nat) (x1 : Int32) (x2 : Int32) (r : Int32) (h : f_X1_leftBehind fu S0 I0 a0 x1 x2 = some r) (ht0 : tyO S0 1 a0) : MX E yX1_leftBehind i_X1_leftBehind S0 I0 [vA (a0 + 1), vI x1, vI x2] (po_X1_leftBehind S0 I0 r) :=
  MX.of h (by decide) rfl rfl (Nat.le_of_ble_eq_true rfl) (gg_X1_leftBehind fu S0 I0 a0 x1 x2 ht0)
theorem lk_RX2_3 : Cond.methodLink RX2 3 Lib.objectInit ∈ lw_good := (gm 95 (by decide +kernel) (by decide +kernel))
theorem fl_RX2_9 : FL RX2 9 2 0 := ⟨RX2, TX2, 6, rfl, by decide, rfl, by decide, (gm 98 (by decide +kernel) (by decide +kernel)), inG2⟩
theorem fp_2_0 : FP 2 0 (tyX2 0) true := ⟨RX2, TX2, 6, tyX2, rfl, tyX2_ok, nmX2, rfl, rfl, rfl⟩
theorem ff_RX2 : FI RX2 "<init>" 2 true := fun _ => ⟨rfl, fun q h => by cases h; rfl⟩
theorem fl_RX2_15 : FL RX2 15 2 1 := ⟨RX2, TX2, 6, rfl, by decide, rfl, by decide, (gm 99 (by decide +kernel) (by decide +kernel)), inG2⟩
theorem fp_2_1 : FP 2 1 (tyX2 1) true := ⟨RX2, TX2, 6, tyX2, rfl, tyX2_ok, nmX2, rfl, rfl, rfl⟩
theorem fl_RX2_18 : FL RX2 18 2 2 := ⟨RX2, TX2, 6, rfl, by decide, rfl, by decide, (gm 100 (by decide +kernel) (by decide +kernel)), inG2⟩
theorem fp_2_2 : FP 2 2 (tyX2 2) true := ⟨RX2, TX2, 6, tyX2, rfl, tyX2_ok, nmX2, rfl, rfl, rfl⟩
theorem fl_RX2_21 : FL RX2 21 2 3 := ⟨RX2, TX2, 6, rfl, by decide, rfl, by decide, (gm 101 (by decide +kernel) (by decide +kernel)), inG2⟩
theorem fp_2_3 : FP 2 3 (tyX2 3) false := ⟨RX2, TX2, 6, tyX2, rfl, tyX2_ok, nmX2, rfl, rfl, rfl⟩
theorem lk_RX2_25 : Cond.classLink RX2 25 RX1 ∈ lw_good := (gm 96 (by decide +kernel) (by decide +kernel))
theorem fl_RX2_27 : FL RX2 27 2 4 := ⟨RX2, TX2, 6, rfl, by decide, rfl, by decide, (gm 105 (by decide +kernel) (by decide +kernel)), inG2⟩
theorem fp_2_4 : FP 2 4 (tyX2 4) true := ⟨RX2, TX2, 6, tyX2, rfl, tyX2_ok, nmX2, rfl, rfl, rfl⟩
theorem fl_RX2_31 : FL RX2 31 2 5 := ⟨RX2, TX2, 6, rfl, by decide, rfl, by decide, (gm 108 (by decide +kernel) (by decide +kernel)), inG2⟩
theorem fp_2_5 : FP 2 5 (tyX2 5) false := ⟨RX2, TX2, 6, tyX2, rfl, tyX2_ok, nmX2, rfl, rfl, rfl⟩
def tb_X2_init : List (Nat × Instr × Nat) := [(0, .aload_n 0, 1), (1, .invokespecial 3, 3), (4, .aload_n 0, 1), (5, .bipush 16, 2), (7, .newarray .int, 2), (9, .putfield 9, 3), (12, .aload_n 0, 1), (13, .bipush 16, 2), (15, .newarray .int, 2), (17, .putfield 15, 3), (20, .aload_n 0, 1), (21, .sipush 256, 3), (24, .newarray .int, 2), (26, .putfield 18, 3), (29, .aload_n 0, 1), (30, .iconst 0, 1), (31, .putfield 21, 3), (34, .aload_n 0, 1), (35, .bipush 14, 2), (37, .anewarray 25, 3), (40, .putfield 27, 3), (43, .aload_n 0, 1), (44, .iconst 0, 1), (45, .putfield 31, 3), (48, .return_, 1)]
def i_X2_init : MI := (RX2, cX2_init, 1, none, "<init>", { frames := 1, cells := 4, slots := 302, locals := 80 })
theorem D_X2_init : tbOK (i_X2_init).2.1 tb_X2_init := by show ∀ q ∈ tb_X2_init, decode cX2_init q.1 = .ok (q.2.1, q.2.2); decide +kernel
def po_X2_init (S : Sk) (I : II) (r : Sk × II) : Option LV × Sk × II := (none, r.1, r.2)
def f_X2_init (fu : Nat) (S : Sk) (I : II) (a0 : Nat) : Option (Sk × II) :=
  lt (nwS S 100 (nx (16 : Int32))) fun S1 => (lt (nwI S I) fun I2 => (lt (upP S1 a0 0 (S.2.2.2 + 1)) fun S7 => (lt (nwS S7 100 (nx (16 : Int32))) fun S12 => (lt (nwI S7 I2) fun I13 => (lt (upP S12 a0 1 (S7.2.2.2 + 1)) fun S19 => (lt (nwS S19 100 (nx (256 : Int32))) fun S25 => (lt (nwI S19 I13) fun I26 => (lt (upP S25 a0 2 (S19.2.2.2 + 1)) fun S33 => (lt (upI I26 a0 3 (0 : Int32)) fun I40 => (lt (nwS S33 (110 + 1) (nx (14 : Int32))) fun S41 => (lt (nwI S33 I40) fun I42 => (lt (upP S41 a0 4 (S33.2.2.2 + 1)) fun S50 => (lt (upI I42 a0 5 (0 : Int32)) fun I58 => (some ((S50, I58))))))))))))))))
set_option maxRecDepth 100000 in
set_option maxHeartbeats 4000000 in
theorem gg_X2_init {E : EV} (fu : Nat) (S0 : Sk) (I0 : II) (a0 : Nat) (ht0 : tyO S0 2 a0) : GG E i_X2_init (enM E i_X2_init S0 (po_X2_init S0 I0)) S0 I0 (0, 0) 0 [(0, vA (a0 + 1))] [] (f_X2_init fu S0 I0 a0) := by
  unfold f_X2_init
  refine g_aload_n (dk D_X2_init 0 rfl) rfl ?_
  refine g_objInit lk_RX2_3 lk_oi lk_oc (Nat.succ_ne_zero _) (by decide) (by rw [wid_sum]; exact Nat.le_of_ble_eq_true rfl) (dk D_X2_init 1 rfl) ?_
  refine g_aload_n (dk D_X2_init 2 rfl) rfl ?_
  refine g_bipush (v := (16 : Int32)) (dk D_X2_init 3 rfl) rfl ?_
  refine g_newarray (by decide) (by decide) (by show 0 + 1 ≤ 4; omega) (by show 0 + 16 ≤ 302; omega) lk_arr (dk D_X2_init 4 rfl) ?_
  refine g_wide (cs' := (1, 16)) (by show 0 + 1 ≤ 1; omega) (by show 0 + 16 ≤ 16; omega) ?_
  refine g_ltS (fun S1 eS1 => ?_)
  refine g_ltI (fun I2 eI2 => ?_)
  have hx3 : Sx S0 S1 := eS1 ▸ nwS_x
  have ht4 := ht0.x hx3
  have hsx5 := Sx.tr Sx.rf hx3
  have ht6 : tyR S1 100 (S0.2.2.2 + 1) := eS1 ▸ nwS_ty.R
  refine g_putAt (t := 100) fl_RX2_9 fp_2_0 ff_RX2 rfl (Or.inr ⟨_, rfl⟩) ht6 ht4 (dk D_X2_init 5 rfl) ?_
  refine g_ltS (fun S7 eS7 => ?_)
  have hx8 : Sx S1 S7 := eS7 ▸ upP_x
  have ht9 := ht6.x hx8
  have ht10 := ht4.x hx8
  have hsx11 := Sx.tr hsx5 hx8
  refine g_aload_n (dk D_X2_init 6 rfl) rfl ?_
  refine g_bipush (v := (16 : Int32)) (dk D_X2_init 7 rfl) rfl ?_
  refine g_newarray (by decide) (by decide) (by show 1 + 1 ≤ 4; omega) (by show 16 + 16 ≤ 302; omega) lk_arr (dk D_X2_init 8 rfl) ?_
  refine g_wide (cs' := (2, 32)) (by show 1 + 1 ≤ 2; omega) (by show 16 + 16 ≤ 32; omega) ?_
  refine g_ltS (fun S12 eS12 => ?_)
  refine g_ltI (fun I13 eI13 => ?_)
  have hx14 : Sx S7 S12 := eS12 ▸ nwS_x
  have ht15 := ht9.x hx14
  have ht16 := ht10.x hx14
  have hsx17 := Sx.tr hsx11 hx14
  have ht18 : tyR S12 100 (S7.2.2.2 + 1) := eS12 ▸ nwS_ty.R
  refine g_putAt (t := 100) fl_RX2_15 fp_2_1 ff_RX2 rfl (Or.inr ⟨_, rfl⟩) ht18 ht16 (dk D_X2_init 9 rfl) ?_
  refine g_ltS (fun S19 eS19 => ?_)
  have hx20 : Sx S12 S19 := eS19 ▸ upP_x
  have ht21 := ht15.x hx20
  have ht22 := ht18.x hx20
  have ht23 := ht16.x hx20
  have hsx24 := Sx.tr hsx17 hx20
  refine g_aload_n (dk D_X2_init 10 rfl) rfl ?_
  refine g_sipush (v := (256 : Int32)) (dk D_X2_init 11 rfl) rfl ?_
  refine g_newarray (by decide) (by decide) (by show 2 + 1 ≤ 4; omega) (by show 32 + 256 ≤ 302; omega) lk_arr (dk D_X2_init 12 rfl) ?_
  refine g_wide (cs' := (3, 288)) (by show 2 + 1 ≤ 3; omega) (by show 32 + 256 ≤ 288; omega) ?_
  refine g_ltS (fun S25 eS25 => ?_)
  refine g_ltI (fun I26 eI26 => ?_)
  have hx27 : Sx S19 S25 := eS25 ▸ nwS_x
  have ht28 := ht21.x hx27
  have ht29 := ht22.x hx27
  have ht30 := ht23.x hx27
  have hsx31 := Sx.tr hsx24 hx27
  have ht32 : tyR S25 100 (S19.2.2.2 + 1) := eS25 ▸ nwS_ty.R
  refine g_putAt (t := 100) fl_RX2_18 fp_2_2 ff_RX2 rfl (Or.inr ⟨_, rfl⟩) ht32 ht30 (dk D_X2_init 13 rfl) ?_
  refine g_ltS (fun S33 eS33 => ?_)
  have hx34 : Sx S25 S33 := eS33 ▸ upP_x
  have ht35 := ht28.x hx34
  have ht36 := ht29.x hx34
  have ht37 := ht32.x hx34
  have ht38 := ht30.x hx34
  have hsx39 := Sx.tr hsx31 hx34
  refine g_aload_n (dk D_X2_init 14 rfl) rfl ?_
  refine g_iconst (v := (0 : Int32)) (dk D_X2_init 15 rfl) rfl ?_
  refine g_putIt fl_RX2_21 fp_2_3 (fun h => (by cases h)) (by decide) rfl rfl ht38 (dk D_X2_init 16 rfl) ?_
  refine g_ltI (fun I40 eI40 => ?_)
  refine g_aload_n (dk D_X2_init 17 rfl) rfl ?_
  refine g_bipush (v := (14 : Int32)) (dk D_X2_init 18 rfl) rfl ?_
  refine g_anewarray (c0 := 1) (by unfold aoC; decide) rfl (by decide) (by decide) (by show 3 + 1 ≤ 4; omega) (by show 288 + 14 ≤ 302; omega) lk_RX2_25 (dk D_X2_init 19 rfl) ?_
  refine g_wide (cs' := (4, 302)) (by show 3 + 1 ≤ 4; omega) (by show 288 + 14 ≤ 302; omega) ?_
  refine g_ltS (fun S41 eS41 => ?_)
  refine g_ltI (fun I42 eI42 => ?_)
  have hx43 : Sx S33 S41 := eS41 ▸ nwS_x
  have ht44 := ht35.x hx43
  have ht45 := ht36.x hx43
  have ht46 := ht37.x hx43
  have ht47 := ht38.x hx43
  have hsx48 := Sx.tr hsx39 hx43
  have ht49 : tyR S41 111 (S33.2.2.2 + 1) := eS41 ▸ nwS_ty.R
  refine g_putAt (t := 111) fl_RX2_27 fp_2_4 ff_RX2 rfl (Or.inr ⟨_, rfl⟩) ht49 ht47 (dk D_X2_init 20 rfl) ?_
  refine g_ltS (fun S50 eS50 => ?_)
  have hx51 : Sx S41 S50 := eS50 ▸ upP_x
  have ht52 := ht44.x hx51
  have ht53 := ht45.x hx51
  have ht54 := ht46.x hx51
  have ht55 := ht49.x hx51
  have ht56 := ht47.x hx51
  have hsx57 := Sx.tr hsx48 hx51
  refine g_aload_n (dk D_X2_init 21 rfl) rfl ?_
  refine g_iconst (v := (0 : Int32)) (dk D_X2_init 22 rfl) rfl ?_
  refine g_putIt fl_RX2_31 fp_2_5 (fun h => (by cases h)) (by decide) rfl rfl ht56 (dk D_X2_init 23 rfl) ?_
  refine g_ltI (fun I58 eI58 => ?_)
  exact g_return rfl rfl hsx57 rfl (by show 4 ≤ 4; omega) (by show 302 ≤ 302; omega) (dk D_X2_init 24 rfl)
theorem c_X2_init {E : EV} (fu : Nat) (S0 : Sk) (I0 : II) (a0 : Nat) (r : Sk × II) (h : f_X2_init fu S0 I0 a0 = some r) (ht0 : tyO S0 2 a0) : MX E yX2_init i_X2_init S0 I0 [vA (a0 + 1)] (po_X2_init S0 I0 r) :=
  MX.of h (by decide) rfl rfl (Nat.le_of_ble_eq_true rfl) (gg_X2_init fu S0 I0 a0 ht0)
theorem lk_RX2_38 : Cond.methodLink RX2 38 Lib.Math.abs.name ∈ lw_good := (gm 339 (by decide +kernel) (by decide +kernel))
theorem lk_mabs : Cond.static Lib.Math.abs.name ∈ lw_good ∧ Cond.initialized "java/lang/Math" ∈ lw_good ∧ Cond.code Lib.Math.abs.name Lib.Math.abs.code 1 (some .int) ∈ lw_good := ⟨(gm 340 (by decide +kernel) (by decide +kernel)), (gm 73 (by decide +kernel) (by decide +kernel)), (gm 341 (by decide +kernel) (by decide +kernel))⟩
def tb_X2_walkFrom : List (Nat × Instr × Nat) := [(0, .aload_n 0, 1), (1, .getfield 9, 3), (4, .iload_n 1, 1), (5, .iaload, 1), (6, .iload_n 2, 1), (7, .isub, 1), (8, .invokestatic 38, 3), (11, .aload_n 0, 1), (12, .getfield 15, 3), (15, .iload_n 1, 1), (16, .iaload, 1), (17, .iload_n 3, 1), (18, .isub, 1), (19, .invokestatic 38, 3), (22, .iadd, 1), (23, .ireturn, 1)]
def i_X2_walkFrom : MI := (RX2, cX2_walkFrom, 4, (some .int), "walkFrom", { frames := 1, cells := 0, slots := 0, locals := 80 })
theorem D_X2_walkFrom : tbOK (i_X2_walkFrom).2.1 tb_X2_walkFrom := by show ∀ q ∈ tb_X2_walkFrom, decode cX2_walkFrom q.1 = .ok (q.2.1, q.2.2); decide +kernel
def po_X2_walkFrom (S : Sk) (I : II) (r : Int32) : Option LV × Sk × II := (some (vI r), S, I)
def f_X2_walkFrom (fu : Nat) (S : Sk) (I : II) (a0 : Nat) (x1 : Int32) (x2 : Int32) (x3 : Int32) : Option (Int32) :=
  gd (inb S (S.1 a0 0) x1) (gd (inb S (S.1 a0 1) x1) (some (((jabs ((rd I (S.1 a0 0) x1) - x2)) + (jabs ((rd I (S.1 a0 1) x1) - x3))))))
set_option maxRecDepth 100000 in
set_option maxHeartbeats 4000000 in
theorem gg_X2_walkFrom {E : EV} (fu : Nat) (S0 : Sk) (I0 : II) (a0 : Nat) (x1 : Int32) (x2 : Int32) (x3 : Int32) (ht0 : tyO S0 2 a0) : GG E i_X2_walkFrom (enM E i_X2_walkFrom S0 (po_X2_walkFrom S0 I0)) S0 I0 (0, 0) 0 [(0, vA (a0 + 1)), (1, vI x1), (2, vI x2), (3, vI x3)] [] (f_X2_walkFrom fu S0 I0 a0 x1 x2 x3) := by
  unfold f_X2_walkFrom
  refine g_aload_n (dk D_X2_walkFrom 0 rfl) rfl ?_
  refine g_getAt (t := 100) fl_RX2_9 rfl ht0 (dk D_X2_walkFrom 1 rfl) (fun ht1 => ?_)
  refine g_iload_n (dk D_X2_walkFrom 2 rfl) rfl ?_
  refine g_gd (fun hi2 => ?_)
  refine g_iaload ht1 hi2 (dk D_X2_walkFrom 3 rfl) ?_
  refine g_iload_n (dk D_X2_walkFrom 4 rfl) rfl ?_
  refine g_isub (dk D_X2_walkFrom 5 rfl) ?_
  refine g_mabs lk_RX2_38 lk_mabs (by decide) (Nat.le_of_ble_eq_true rfl) (by decide) (by decide) (dk D_X2_walkFrom 6 rfl) ?_
  refine g_aload_n (dk D_X2_walkFrom 7 rfl) rfl ?_
  refine g_getAt (t := 100) fl_RX2_15 rfl ht0 (dk D_X2_walkFrom 8 rfl) (fun ht3 => ?_)
  refine g_iload_n (dk D_X2_walkFrom 9 rfl) rfl ?_
  refine g_gd (fun hi4 => ?_)
  refine g_iaload ht3 hi4 (dk D_X2_walkFrom 10 rfl) ?_
  refine g_iload_n (dk D_X2_walkFrom 11 rfl) rfl ?_
  refine g_isub (dk D_X2_walkFrom 12 rfl) ?_
  refine g_mabs lk_RX2_38 lk_mabs (by decide) (Nat.le_of_ble_eq_true rfl) (by decide) (by decide) (dk D_X2_walkFrom 13 rfl) ?_
  refine g_iadd (dk D_X2_walkFrom 14 rfl) ?_
  exact g_ireturn rfl rfl Sx.rf rfl (by decide) (by decide) (dk D_X2_walkFrom 15 rfl)
theorem c_X2_walkFrom {E : EV} (fu : Nat) (S0 : Sk) (I0 : II) (a0 : Nat) (x1 : Int32) (x2 : Int32) (x3 : Int32) (r : Int32) (h : f_X2_walkFrom fu S0 I0 a0 x1 x2 x3 = some r) (ht0 : tyO S0 2 a0) : MX E yX2_walkFrom i_X2_walkFrom S0 I0 [vA (a0 + 1), vI x1, vI x2, vI x3] (po_X2_walkFrom S0 I0 r) :=
  MX.of h (by decide) rfl rfl (Nat.le_of_ble_eq_true rfl) (gg_X2_walkFrom fu S0 I0 a0 x1 x2 x3 ht0)
theorem cl_RX2_34 : CV0 RX2 34 yX2_walkFrom i_X2_walkFrom 3 2 := ⟨⟨(gm 335 (by decide +kernel) (by decide +kernel)), (gm 67 (by decide +kernel) (by decide +kernel)), ((gm 338 (by decide +kernel) (by decide +kernel))), by decide +kernel, by decide +kernel, by decide +kernel⟩, ⟨(gm 336 (by decide +kernel) (by decide +kernel)), (gm 337 (by decide +kernel) (by decide +kernel))⟩, rfl, by decide⟩
def tb_X2_addStop : List (Nat × Instr × Nat) := [(0, .aload_n 0, 1), (1, .getfield 21, 3), (4, .istore_n 3, 1), (5, .aload_n 0, 1), (6, .getfield 9, 3), (9, .iload_n 3, 1), (10, .iload_n 1, 1), (11, .iastore, 1), (12, .aload_n 0, 1), (13, .getfield 15, 3), (16, .iload_n 3, 1), (17, .iload_n 2, 1), (18, .iastore, 1), (19, .aload_n 0, 1), (20, .dup, 1), (21, .getfield 21, 3), (24, .iconst 1, 1), (25, .iadd, 1), (26, .putfield 21, 3), (29, .iconst 0, 1), (30, .istore 4, 2), (32, .iload 4, 2), (34, .aload_n 0, 1), (35, .getfield 21, 3), (38, .if_icmp .ge 49, 3), (41, .aload_n 0, 1), (42, .getfield 18, 3), (45, .iload 4, 2), (47, .bipush 16, 2), (49, .imul, 1), (50, .iload_n 3, 1), (51, .iadd, 1), (52, .aload_n 0, 1), (53, .iload 4, 2), (55, .iload_n 1, 1), (56, .iload_n 2, 1), (57, .invokevirtual 34, 3), (60, .iastore, 1), (61, .aload_n 0, 1), (62, .getfield 18, 3), (65, .iload_n 3, 1), (66, .bipush 16, 2), (68, .imul, 1), (69, .iload 4, 2), (71, .iadd, 1), (72, .aload_n 0, 1), (73, .iload 4, 2), (75, .iload_n 1, 1), (76, .iload_n 2, 1), (77, .invokevirtual 34, 3), (80, .iastore, 1), (81, .iinc 4 1, 3), (84, .goto (-52), 3), (87, .iload_n 3, 1), (88, .ireturn, 1)]
def i_X2_addStop : MI := (RX2, cX2_addStop, 5, (some .int), "addStop", { frames := 2, cells := 0, slots := 0, locals := 103 })
theorem D_X2_addStop : tbOK (i_X2_addStop).2.1 tb_X2_addStop := by show ∀ q ∈ tb_X2_addStop, decode cX2_addStop q.1 = .ok (q.2.1, q.2.2); decide +kernel
def po_X2_addStop (S : Sk) (I : II) (r : Int32 × II) : Option LV × Sk × II := (some (vI r.1), S, r.2)
def lp_X2_addStop_32 (fu : Nat) (S : Sk) (a0 : Nat) (x1 : Int32) (x2 : Int32) (x3 : Int32) (self32 : Int32 → II → Option (Int32 × II)) (x4 : Int32) (I : II) : Option (Int32 × II) :=
  if (I a0 3) ≤ x4 then some ((x3, I)) else (f_X2_walkFrom fu S I a0 x4 x1 x2).bind fun q3 => (gd (inb S (S.1 a0 2) ((x4 * (16 : Int32)) + x3)) (lt (wr I (S.1 a0 2) ((x4 * (16 : Int32)) + x3) q3) fun I7 => ((f_X2_walkFrom fu S I7 a0 x4 x1 x2).bind fun q9 => (gd (inb S (S.1 a0 2) ((x3 * (16 : Int32)) + x4)) (lt (wr I7 (S.1 a0 2) ((x3 * (16 : Int32)) + x4) q9) fun I13 => (self32 (x4 + (1 : Int32)) I13))))))
def f_X2_addStop (fu : Nat) (S : Sk) (I : II) (a0 : Nat) (x1 : Int32) (x2 : Int32) : Option (Int32 × II) :=
  lt (I a0 3) fun x3_14 => (gd (inb S (S.1 a0 0) x3_14) (lt (wr I (S.1 a0 0) x3_14 x1) fun I17 => (gd (inb S (S.1 a0 1) x3_14) (lt (wr I17 (S.1 a0 1) x3_14 x2) fun I20 => (lt (upI I20 a0 3 ((I20 a0 3) + (1 : Int32))) fun I21 => (fix2 (lp_X2_addStop_32 fu S a0 x1 x2 x3_14) fu (0 : Int32) I21))))))
set_option maxRecDepth 100000 in
set_option maxHeartbeats 4000000 in
theorem gg_X2_addStop {E : EV} (fu : Nat) (S0 : Sk) (I0 : II) (a0 : Nat) (x1 : Int32) (x2 : Int32) (ht0 : tyO S0 2 a0) : GG E i_X2_addStop (enM E i_X2_addStop S0 (po_X2_addStop S0 I0)) S0 I0 (0, 0) 0 [(0, vA (a0 + 1)), (1, vI x1), (2, vI x2)] [] (f_X2_addStop fu S0 I0 a0 x1 x2) := by
  have hl32 : ∀ (x3 : Int32) (nn : Nat) (x4 : Int32) (I : II), True → GG E i_X2_addStop (enM E i_X2_addStop S0 (po_X2_addStop S0 I0)) S0 I (0, 0) 32 [(0, vA (a0 + 1)), (1, vI x1), (2, vI x2), (3, vI x3), (4, vI x4)] [] (fix2 (lp_X2_addStop_32 fu S0 a0 x1 x2 x3) nn x4 I) := by
    intro x3 
    refine g_fix2 (fun _ _ => S0) (fun x4 I => I) (fun x4 I => [(0, vA (a0 + 1)), (1, vI x1), (2, vI x2), (3, vI x3), (4, vI x4)]) (fun x4 I => True) ?_
    intro self32 hself32 x4 I hinv
    unfold lp_X2_addStop_32
    refine g_iload (dk D_X2_addStop 21 rfl) rfl ?_
    refine g_aload_n (dk D_X2_addStop 22 rfl) rfl ?_
    refine g_getIt fl_RX2_21 (by decide) ht0 (dk D_X2_addStop 23 rfl) ?_
    refine g_icmp_ge (tgt := 87) (dk D_X2_addStop 24 rfl) rfl (fun hc1 => ?_) (fun hc1 => ?_)
    · refine g_iload_n (dk D_X2_addStop 53 rfl) rfl ?_
      exact g_ireturn rfl rfl Sx.rf rfl (by decide) (by decide) (dk D_X2_addStop 54 rfl)
    · refine g_aload_n (dk D_X2_addStop 25 rfl) rfl ?_
      refine g_getAt (t := 100) fl_RX2_18 rfl ht0 (dk D_X2_addStop 26 rfl) (fun ht2 => ?_)
      refine g_iload (dk D_X2_addStop 27 rfl) rfl ?_
      refine g_bipush (v := (16 : Int32)) (dk D_X2_addStop 28 rfl) rfl ?_
      refine g_imul (dk D_X2_addStop 29 rfl) ?_
      refine g_iload_n (dk D_X2_addStop 30 rfl) rfl ?_
      refine g_iadd (dk D_X2_addStop 31 rfl) ?_
      refine g_aload_n (dk D_X2_addStop 32 rfl) rfl ?_
      refine g_iload (dk D_X2_addStop 33 rfl) rfl ?_
      refine g_iload_n (dk D_X2_addStop 34 rfl) rfl ?_
      refine g_iload_n (dk D_X2_addStop 35 rfl) rfl ?_
      refine g_bind (fun q3 hq4 => ?_)
      refine h_callVt (st := [vI ((x4 * (16 : Int32)) + x3), vA (S0.1 a0 2)]) (c_X2_walkFrom (E := E) fu S0 I a0 x4 x1 x2 q3 hq4 (ht0)) cl_RX2_34 ht0 rfl rfl (by decide) (Nat.le_of_ble_eq_true rfl) (dk D_X2_addStop 36 rfl) ?_
      refine g_gd (fun hi6 => ?_)
      refine g_iastore ht2 hi6 (dk D_X2_addStop 37 rfl) ?_
      refine g_ltI (fun I7 eI7 => ?_)
      refine g_aload_n (dk D_X2_addStop 38 rfl) rfl ?_
      refine g_getAt (t := 100) fl_RX2_18 rfl ht0 (dk D_X2_addStop 39 rfl) (fun ht8 => ?_)
      refine g_iload_n (dk D_X2_addStop 40 rfl) rfl ?_
      refine g_bipush (v := (16 : Int32)) (dk D_X2_addStop 41 rfl) rfl ?_
      refine g_imul (dk D_X2_addStop 42 rfl) ?_
      refine g_iload (dk D_X2_addStop 43 rfl) rfl ?_
      refine g_iadd (dk D_X2_addStop 44 rfl) ?_
      refine g_aload_n (dk D_X2_addStop 45 rfl) rfl ?_
      refine g_iload (dk D_X2_addStop 46 rfl) rfl ?_
      refine g_iload_n (dk D_X2_addStop 47 rfl) rfl ?_
      refine g_iload_n (dk D_X2_addStop 48 rfl) rfl ?_
      refine g_bind (fun q9 hq10 => ?_)
      refine h_callVt (st := [vI ((x3 * (16 : Int32)) + x4), vA (S0.1 a0 2)]) (c_X2_walkFrom (E := E) fu S0 I7 a0 x4 x1 x2 q9 hq10 (ht0)) cl_RX2_34 ht0 rfl rfl (by decide) (Nat.le_of_ble_eq_true rfl) (dk D_X2_addStop 49 rfl) ?_
      refine g_gd (fun hi12 => ?_)
      refine g_iastore ht2 hi12 (dk D_X2_addStop 50 rfl) ?_
      refine g_ltI (fun I13 eI13 => ?_)
      refine g_iinc (v := (1 : Int32)) (L' := [(0, vA (a0 + 1)), (1, vI x1), (2, vI x2), (3, vI x3), (4, vI (x4 + (1 : Int32)))]) (dk D_X2_addStop 51 rfl) rfl rfl (Nat.le_of_ble_eq_true rfl) rfl ?_
      refine g_goto (tgt := 32) (dk D_X2_addStop 52 rfl) rfl ?_
      exact hself32 (x4 + (1 : Int32)) I13 trivial
  unfold f_X2_addStop
  refine g_aload_n (dk D_X2_addStop 0 rfl) rfl ?_
  refine g_getIt fl_RX2_21 (by decide) ht0 (dk D_X2_addStop 1 rfl) ?_
  refine g_ltV (fun x3_14 ex3_14 => ?_)
  refine g_istore_n (L' := [(0, vA (a0 + 1)), (1, vI x1), (2, vI x2), (3, vI x3_14)]) (dk D_X2_addStop 2 rfl) (Nat.le_of_ble_eq_true rfl) rfl ?_
  refine g_aload_n (dk D_X2_addStop 3 rfl) rfl ?_
  refine g_getAt (t := 100) fl_RX2_9 rfl ht0 (dk D_X2_addStop 4 rfl) (fun ht15 => ?_)
  refine g_iload_n (dk D_X2_addStop 5 rfl) rfl ?_
  refine g_iload_n (dk D_X2_addStop 6 rfl) rfl ?_
  refine g_gd (fun hi16 => ?_)
  refine g_iastore ht15 hi16 (dk D_X2_addStop 7 rfl) ?_
  refine g_ltI (fun I17 eI17 => ?_)
  refine g_aload_n (dk D_X2_addStop 8 rfl) rfl ?_
  refine g_getAt (t := 100) fl_RX2_15 rfl ht0 (dk D_X2_addStop 9 rfl) (fun ht18 => ?_)
  refine g_iload_n (dk D_X2_addStop 10 rfl) rfl ?_
  refine g_iload_n (dk D_X2_addStop 11 rfl) rfl ?_
  refine g_gd (fun hi19 => ?_)
  refine g_iastore ht18 hi19 (dk D_X2_addStop 12 rfl) ?_
  refine g_ltI (fun I20 eI20 => ?_)
  refine g_aload_n (dk D_X2_addStop 13 rfl) rfl ?_
  refine g_dup (dk D_X2_addStop 14 rfl) rfl ?_
  refine g_getIt fl_RX2_21 (by decide) ht0 (dk D_X2_addStop 15 rfl) ?_
  refine g_iconst (v := (1 : Int32)) (dk D_X2_addStop 16 rfl) rfl ?_
  refine g_iadd (dk D_X2_addStop 17 rfl) ?_
  refine g_putIt fl_RX2_21 fp_2_3 (fun h => (by cases h)) (by decide) rfl rfl ht0 (dk D_X2_addStop 18 rfl) ?_
  refine g_ltI (fun I21 eI21 => ?_)
  refine g_iconst (v := (0 : Int32)) (dk D_X2_addStop 19 rfl) rfl ?_
  refine g_istore (L' := [(0, vA (a0 + 1)), (1, vI x1), (2, vI x2), (3, vI x3_14), (4, vI (0 : Int32))]) (dk D_X2_addStop 20 rfl) (Nat.le_of_ble_eq_true rfl) rfl ?_
  exact hl32 x3_14 fu (0 : Int32) I21 trivial
theorem c_X2_addStop {E : EV} (fu : Nat) (S0 : Sk) (I0 : II) (a0 : Nat) (x1 : Int32) (x2 : Int32) (r : Int32 × II) (h : f_X2_addStop fu S0 I0 a0 x1 x2 = some r) (ht0 : tyO S0 2 a0) : MX E yX2_addStop i_X2_addStop S0 I0 [vA (a0 + 1), vI x1, vI x2] (po_X2_addStop S0 I0 r) :=
  MX.of h (by decide) rfl rfl (Nat.le_of_ble_eq_true rfl) (gg_X2_addStop fu S0 I0 a0 x1 x2 ht0)
def tb_X2_hasStop : List (Nat × Instr × Nat) := [(0, .iload_n 1, 1), (1, .ifCond .lt 15, 3), (4, .iload_n 1, 1), (5, .aload_n 0, 1), (6, .getfield 21, 3), (9, .if_icmp .ge 7, 3), (12, .iconst 1, 1), (13, .goto 4, 3), (16, .iconst 0, 1), (17, .ireturn, 1)]
def i_X2_hasStop : MI := (RX2, cX2_hasStop, 2, (some .boolean), "hasStop", { frames := 0, cells := 0, slots := 0, locals := 0 })
theorem D_X2_hasStop : tbOK (i_X2_hasStop).2.1 tb_X2_hasStop := by show ∀ q ∈ tb_X2_hasStop, decode cX2_hasStop q.1 = .ok (q.2.1, q.2.2); decide +kernel
def po_X2_hasStop (S : Sk) (I : II) (r : Int32) : Option LV × Sk × II := (some (vI r), S, I)
def f_X2_hasStop (fu : Nat) (S : Sk) (I : II) (a0 : Nat) (x1 : Int32) : Option (Int32) :=
  if x1 < 0 then some ((0 : Int32)) else if (I a0 3) ≤ x1 then some ((0 : Int32)) else some ((1 : Int32))
set_option maxRecDepth 100000 in
set_option maxHeartbeats 4000000 in
theorem gg_X2_hasStop {E : EV} (fu : Nat) (S0 : Sk) (I0 : II) (a0 : Nat) (x1 : Int32) (ht0 : tyO S0 2 a0) : GG E i_X2_hasStop (enM E i_X2_hasStop S0 (po_X2_hasStop S0 I0)) S0 I0 (0, 0) 0 [(0, vA (a0 + 1)), (1, vI x1)] [] (f_X2_hasStop fu S0 I0 a0 x1) := by
  unfold f_X2_hasStop
  refine g_iload_n (dk D_X2_hasStop 0 rfl) rfl ?_
  refine g_if_lt (tgt := 16) (dk D_X2_hasStop 1 rfl) rfl (fun hc1 => ?_) (fun hc1 => ?_)
  · refine g_iconst (v := (0 : Int32)) (dk D_X2_hasStop 8 rfl) rfl ?_
    exact g_zreturn rfl rfl (Or.inl rfl) Sx.rf rfl (by decide) (by decide) (dk D_X2_hasStop 9 rfl)
  · refine g_iload_n (dk D_X2_hasStop 2 rfl) rfl ?_
    refine g_aload_n (dk D_X2_hasStop 3 rfl) rfl ?_
    refine g_getIt fl_RX2_21 (by decide) ht0 (dk D_X2_hasStop 4 rfl) ?_
    refine g_icmp_ge (tgt := 16) (dk D_X2_hasStop 5 rfl) rfl (fun hc2 => ?_) (fun hc2 => ?_)
    · refine g_iconst (v := (0 : Int32)) (dk D_X2_hasStop 8 rfl) rfl ?_
      exact g_zreturn rfl rfl (Or.inl rfl) Sx.rf rfl (by decide) (by decide) (dk D_X2_hasStop 9 rfl)
    · refine g_iconst (v := (1 : Int32)) (dk D_X2_hasStop 6 rfl) rfl ?_
      refine g_goto (tgt := 17) (dk D_X2_hasStop 7 rfl) rfl ?_
      exact g_zreturn rfl rfl (Or.inr rfl) Sx.rf rfl (by decide) (by decide) (dk D_X2_hasStop 9 rfl)
def t_X2_hasStop (I : II) (a0 : Nat) (x1 : Int32) : Int32 :=
  if x1 < 0 then (0 : Int32) else if (I a0 3) ≤ x1 then (0 : Int32) else (1 : Int32)
theorem ft_X2_hasStop (fu : Nat) (S : Sk) (I0 : II) (a0 : Nat) (x1 : Int32) : f_X2_hasStop fu S I0 a0 x1 = some (t_X2_hasStop I0 a0 x1) := by
  simp only [f_X2_hasStop, t_X2_hasStop, lt, apply_ite some]
theorem z_X2_hasStop (I : II) (a0 : Nat) (x1 : Int32) : t_X2_hasStop I a0 x1 = 0 ∨ t_X2_hasStop I a0 x1 = 1 := by
  unfold t_X2_hasStop
  (repeat' split) <;> first | exact Or.inl rfl | exact Or.inr rfl
theorem c_X2_hasStop {E : EV} (S0 : Sk) (I0 : II) (a0 : Nat) (x1 : Int32) (ht0 : tyO S0 2 a0) : MX E yX2_hasStop i_X2_hasStop S0 I0 [vA (a0 + 1), vI x1] (po_X2_hasStop S0 I0 (t_X2_hasStop I0 a0 x1)) :=
  MX.of (ft_X2_hasStop 0 S0 I0 a0 x1) (by decide) rfl rfl (Nat.le_of_ble_eq_true rfl) (gg_X2_hasStop 0 S0 I0 a0 x1 ht0)
def tb_X2_addLine : List (Nat × Instr × Nat) := [(0, .aload_n 0, 1), (1, .getfield 27, 3), (4, .aload_n 0, 1), (5, .getfield 31, 3), (8, .aload_n 1, 1), (9, .aastore, 1), (10, .aload_n 0, 1), (11, .dup, 1), (12, .getfield 31, 3), (15, .iconst 1, 1), (16, .iadd, 1), (17, .putfield 31, 3), (20, .aload_n 0, 1), (21, .getfield 31, 3), (24, .iconst 1, 1), (25, .isub, 1), (26, .ireturn, 1)]
def i_X2_addLine : MI := (RX2, cX2_addLine, 2, (some .int), "addLine", { frames := 0, cells := 0, slots := 0, locals := 0 })
theorem D_X2_addLine : tbOK (i_X2_addLine).2.1 tb_X2_addLine := by show ∀ q ∈ tb_X2_addLine, decode cX2_addLine q.1 = .ok (q.2.1, q.2.2); decide +kernel
def po_X2_addLine (S : Sk) (I : II) (r : Int32 × Sk × II) : Option LV × Sk × II := (some (vI r.1), r.2.1, r.2.2)
def f_X2_addLine (fu : Nat) (S : Sk) (I : II) (a0 : Nat) (r1 : Nat) : Option (Int32 × Sk × II) :=
  gd (inb S (S.1 a0 4) (I a0 5)) (gd (r1 ≠ 0) (lt (upP S ((S.1 a0 4) - 1) (nx (I a0 5)) r1) fun S4 => (lt (upI I a0 5 ((I a0 5) + (1 : Int32))) fun I10 => (some ((((I10 a0 5) - (1 : Int32)), S4, I10))))))
set_option maxRecDepth 100000 in
set_option maxHeartbeats 4000000 in
theorem gg_X2_addLine {E : EV} (fu : Nat) (S0 : Sk) (I0 : II) (a0 : Nat) (r1 : Nat) (ht0 : tyO S0 2 a0) (h_r1 : tyR S0 1 r1) : GG E i_X2_addLine (enM E i_X2_addLine S0 (po_X2_addLine S0 I0)) S0 I0 (0, 0) 0 [(0, vA (a0 + 1)), (1, vA r1)] [] (f_X2_addLine fu S0 I0 a0 r1) := by
  unfold f_X2_addLine
  refine g_aload_n (dk D_X2_addLine 0 rfl) rfl ?_
  refine g_getAt (t := 111) fl_RX2_27 rfl ht0 (dk D_X2_addLine 1 rfl) (fun ht1 => ?_)
  refine g_aload_n (dk D_X2_addLine 2 rfl) rfl ?_
  refine g_getIt fl_RX2_31 (by decide) ht0 (dk D_X2_addLine 3 rfl) ?_
  refine g_aload_n (dk D_X2_addLine 4 rfl) rfl ?_
  refine g_gd (fun hi2 => ?_)
  refine g_gd (fun hn3 => ?_)
  refine g_aastore (c0 := 1) (by unfold aoC; decide) ht1 hi2 h_r1 hn3 (dk D_X2_addLine 5 rfl) ?_
  refine g_ltS (fun S4 eS4 => ?_)
  have hx5 : Sx S0 S4 := eS4 ▸ upP_x
  have ht6 := h_r1.x hx5
  have ht7 := ht1.x hx5
  have ht8 := ht0.x hx5
  have hsx9 := Sx.tr Sx.rf hx5
  refine g_aload_n (dk D_X2_addLine 6 rfl) rfl ?_
  refine g_dup (dk D_X2_addLine 7 rfl) rfl ?_
  refine g_getIt fl_RX2_31 (by decide) ht8 (dk D_X2_addLine 8 rfl) ?_
  refine g_iconst (v := (1 : Int32)) (dk D_X2_addLine 9 rfl) rfl ?_
  refine g_iadd (dk D_X2_addLine 10 rfl) ?_
  refine g_putIt fl_RX2_31 fp_2_5 (fun h => (by cases h)) (by decide) rfl rfl ht8 (dk D_X2_addLine 11 rfl) ?_
  refine g_ltI (fun I10 eI10 => ?_)
  refine g_aload_n (dk D_X2_addLine 12 rfl) rfl ?_
  refine g_getIt fl_RX2_31 (by decide) ht8 (dk D_X2_addLine 13 rfl) ?_
  refine g_iconst (v := (1 : Int32)) (dk D_X2_addLine 14 rfl) rfl ?_
  refine g_isub (dk D_X2_addLine 15 rfl) ?_
  exact g_ireturn rfl rfl hsx9 rfl (by show 0 ≤ 0; omega) (by show 0 ≤ 0; omega) (dk D_X2_addLine 16 rfl)
theorem c_X2_addLine {E : EV} (fu : Nat) (S0 : Sk) (I0 : II) (a0 : Nat) (r1 : Nat) (r : Int32 × Sk × II) (h : f_X2_addLine fu S0 I0 a0 r1 = some r) (ht0 : tyO S0 2 a0) (h_r1 : tyR S0 1 r1) : MX E yX2_addLine i_X2_addLine S0 I0 [vA (a0 + 1), vA r1] (po_X2_addLine S0 I0 r) :=
  MX.of h (by decide) rfl rfl (Nat.le_of_ble_eq_true rfl) (gg_X2_addLine fu S0 I0 a0 r1 ht0 h_r1)
def tb_X2_lineAt : List (Nat × Instr × Nat) := [(0, .iload_n 1, 1), (1, .ifCond .lt 20, 3), (4, .iload_n 1, 1), (5, .aload_n 0, 1), (6, .getfield 31, 3), (9, .if_icmp .ge 12, 3), (12, .aload_n 0, 1), (13, .getfield 27, 3), (16, .iload_n 1, 1), (17, .aaload, 1), (18, .goto 4, 3), (21, .aconst_null, 1), (22, .areturn, 1)]
def i_X2_lineAt : MI := (RX2, cX2_lineAt, 2, (some (.object "RedrawnLines$Line")), "lineAt", { frames := 0, cells := 0, slots := 0, locals := 0 })
theorem D_X2_lineAt : tbOK (i_X2_lineAt).2.1 tb_X2_lineAt := by show ∀ q ∈ tb_X2_lineAt, decode cX2_lineAt q.1 = .ok (q.2.1, q.2.2); decide +kernel
theorem rt_X2_lineAt : rtag (i_X2_lineAt).2.2.2.1 = 1 := by decide +kernel
def po_X2_lineAt (S : Sk) (I : II) (r : Nat) : Option LV × Sk × II := (some (vA r), S, I)
def f_X2_lineAt (fu : Nat) (S : Sk) (I : II) (a0 : Nat) (x1 : Int32) : Option (Nat) :=
  if x1 < 0 then some (0) else if (I a0 5) ≤ x1 then some (0) else gd (inb S (S.1 a0 4) x1) (some ((S.1 ((S.1 a0 4) - 1) (nx x1))))
set_option maxRecDepth 100000 in
set_option maxHeartbeats 4000000 in
theorem gg_X2_lineAt {E : EV} (fu : Nat) (S0 : Sk) (I0 : II) (a0 : Nat) (x1 : Int32) (ht0 : tyO S0 2 a0) : GG E i_X2_lineAt (enM E i_X2_lineAt S0 (po_X2_lineAt S0 I0)) S0 I0 (0, 0) 0 [(0, vA (a0 + 1)), (1, vI x1)] [] (f_X2_lineAt fu S0 I0 a0 x1) := by
  unfold f_X2_lineAt
  refine g_iload_n (dk D_X2_lineAt 0 rfl) rfl ?_
  refine g_if_lt (tgt := 21) (dk D_X2_lineAt 1 rfl) rfl (fun hc1 => ?_) (fun hc1 => ?_)
  · refine g_null (dk D_X2_lineAt 11 rfl) ?_
    exact g_areturn rfl rfl Sx.rf rfl rt_X2_lineAt tyR.null (Or.inl ⟨_, rfl⟩) (by decide) (by decide) (dk D_X2_lineAt 12 rfl)
  · refine g_iload_n (dk D_X2_lineAt 2 rfl) rfl ?_
    refine g_aload_n (dk D_X2_lineAt 3 rfl) rfl ?_
    refine g_getIt fl_RX2_31 (by decide) ht0 (dk D_X2_lineAt 4 rfl) ?_
    refine g_icmp_ge (tgt := 21) (dk D_X2_lineAt 5 rfl) rfl (fun hc2 => ?_) (fun hc2 => ?_)
    · refine g_null (dk D_X2_lineAt 11 rfl) ?_
      exact g_areturn rfl rfl Sx.rf rfl rt_X2_lineAt tyR.null (Or.inl ⟨_, rfl⟩) (by decide) (by decide) (dk D_X2_lineAt 12 rfl)
    · refine g_aload_n (dk D_X2_lineAt 6 rfl) rfl ?_
      refine g_getAt (t := 111) fl_RX2_27 rfl ht0 (dk D_X2_lineAt 7 rfl) (fun ht3 => ?_)
      refine g_iload_n (dk D_X2_lineAt 8 rfl) rfl ?_
      refine g_gd (fun hi4 => ?_)
      refine g_aaload (c0 := 1) (by unfold aoC; decide) ht3 hi4 (dk D_X2_lineAt 9 rfl) (fun ht5 => ?_)
      refine g_goto (tgt := 22) (dk D_X2_lineAt 10 rfl) rfl ?_
      exact g_areturn rfl rfl Sx.rf rfl rt_X2_lineAt ht5 (Or.inl ⟨_, rfl⟩) (by decide) (by decide) (dk D_X2_lineAt 12 rfl)
theorem c_X2_lineAt {E : EV} (fu : Nat) (S0 : Sk) (I0 : II) (a0 : Nat) (x1 : Int32) (r : Nat) (h : f_X2_lineAt fu S0 I0 a0 x1 = some r) (ht0 : tyO S0 2 a0) : MX E yX2_lineAt i_X2_lineAt S0 I0 [vA (a0 + 1), vI x1] (po_X2_lineAt S0 I0 r) :=
  MX.of h (by decide) rfl rfl (Nat.le_of_ble_eq_true rfl) (gg_X2_lineAt fu S0 I0 a0 x1 ht0)
def tb_X2_walk : List (Nat × Instr × Nat) := [(0, .aload_n 0, 1), (1, .getfield 18, 3), (4, .iload_n 1, 1), (5, .bipush 16, 2), (7, .imul, 1), (8, .iload_n 2, 1), (9, .iadd, 1), (10, .iaload, 1), (11, .ireturn, 1)]
def i_X2_walk : MI := (RX2, cX2_walk, 3, (some .int), "walk", { frames := 0, cells := 0, slots := 0, locals := 0 })
theorem D_X2_walk : tbOK (i_X2_walk).2.1 tb_X2_walk := by show ∀ q ∈ tb_X2_walk, decode cX2_walk q.1 = .ok (q.2.1, q.2.2); decide +kernel
def po_X2_walk (S : Sk) (I : II) (r : Int32) : Option LV × Sk × II := (some (vI r), S, I)
def f_X2_walk (fu : Nat) (S : Sk) (I : II) (a0 : Nat) (x1 : Int32) (x2 : Int32) : Option (Int32) :=
  gd (inb S (S.1 a0 2) ((x1 * (16 : Int32)) + x2)) (some ((rd I (S.1 a0 2) ((x1 * (16 : Int32)) + x2))))
set_option maxRecDepth 100000 in
set_option maxHeartbeats 4000000 in
theorem gg_X2_walk {E : EV} (fu : Nat) (S0 : Sk) (I0 : II) (a0 : Nat) (x1 : Int32) (x2 : Int32) (ht0 : tyO S0 2 a0) : GG E i_X2_walk (enM E i_X2_walk S0 (po_X2_walk S0 I0)) S0 I0 (0, 0) 0 [(0, vA (a0 + 1)), (1, vI x1), (2, vI x2)] [] (f_X2_walk fu S0 I0 a0 x1 x2) := by
  unfold f_X2_walk
  refine g_aload_n (dk D_X2_walk 0 rfl) rfl ?_
  refine g_getAt (t := 100) fl_RX2_18 rfl ht0 (dk D_X2_walk 1 rfl) (fun ht1 => ?_)
  refine g_iload_n (dk D_X2_walk 2 rfl) rfl ?_
  refine g_bipush (v := (16 : Int32)) (dk D_X2_walk 3 rfl) rfl ?_
  refine g_imul (dk D_X2_walk 4 rfl) ?_
  refine g_iload_n (dk D_X2_walk 5 rfl) rfl ?_
  refine g_iadd (dk D_X2_walk 6 rfl) ?_
  refine g_gd (fun hi2 => ?_)
  refine g_iaload ht1 hi2 (dk D_X2_walk 7 rfl) ?_
  exact g_ireturn rfl rfl Sx.rf rfl (by decide) (by decide) (dk D_X2_walk 8 rfl)
theorem c_X2_walk {E : EV} (fu : Nat) (S0 : Sk) (I0 : II) (a0 : Nat) (x1 : Int32) (x2 : Int32) (r : Int32) (h : f_X2_walk fu S0 I0 a0 x1 x2 = some r) (ht0 : tyO S0 2 a0) : MX E yX2_walk i_X2_walk S0 I0 [vA (a0 + 1), vI x1, vI x2] (po_X2_walk S0 I0 r) :=
  MX.of h (by decide) rfl rfl (Nat.le_of_ble_eq_true rfl) (gg_X2_walk fu S0 I0 a0 x1 x2 ht0)
def tb_X10_isWithin : List (Nat × Instr × Nat) := [(0, .iload_n 0, 1), (1, .iload_n 1, 1), (2, .if_icmp .lt 12, 3), (5, .iload_n 0, 1), (6, .iload_n 2, 1), (7, .if_icmp .gt 7, 3), (10, .iconst 1, 1), (11, .goto 4, 3), (14, .iconst 0, 1), (15, .ireturn, 1)]
def i_X10_isWithin : MI := (RX10, cX10_isWithin, 3, (some .boolean), "isWithin", { frames := 0, cells := 0, slots := 0, locals := 0 })
theorem D_X10_isWithin : tbOK (i_X10_isWithin).2.1 tb_X10_isWithin := by show ∀ q ∈ tb_X10_isWithin, decode cX10_isWithin q.1 = .ok (q.2.1, q.2.2); decide +kernel
def po_X10_isWithin (S : Sk) (I : II) (r : Int32) : Option LV × Sk × II := (some (vI r), S, I)
def f_X10_isWithin (fu : Nat) (S : Sk) (I : II) (x0 : Int32) (x1 : Int32) (x2 : Int32) : Option (Int32) :=
  if x0 < x1 then some ((0 : Int32)) else if x2 < x0 then some ((0 : Int32)) else some ((1 : Int32))
set_option maxRecDepth 100000 in
set_option maxHeartbeats 4000000 in
theorem gg_X10_isWithin {E : EV} (fu : Nat) (S0 : Sk) (I0 : II) (x0 : Int32) (x1 : Int32) (x2 : Int32) : GG E i_X10_isWithin (enM E i_X10_isWithin S0 (po_X10_isWithin S0 I0)) S0 I0 (0, 0) 0 [(0, vI x0), (1, vI x1), (2, vI x2)] [] (f_X10_isWithin fu S0 I0 x0 x1 x2) := by
  unfold f_X10_isWithin
  refine g_iload_n (dk D_X10_isWithin 0 rfl) rfl ?_
  refine g_iload_n (dk D_X10_isWithin 1 rfl) rfl ?_
  refine g_icmp_lt (tgt := 14) (dk D_X10_isWithin 2 rfl) rfl (fun hc1 => ?_) (fun hc1 => ?_)
  · refine g_iconst (v := (0 : Int32)) (dk D_X10_isWithin 8 rfl) rfl ?_
    exact g_zreturn rfl rfl (Or.inl rfl) Sx.rf rfl (by decide) (by decide) (dk D_X10_isWithin 9 rfl)
  · refine g_iload_n (dk D_X10_isWithin 3 rfl) rfl ?_
    refine g_iload_n (dk D_X10_isWithin 4 rfl) rfl ?_
    refine g_icmp_gt (tgt := 14) (dk D_X10_isWithin 5 rfl) rfl (fun hc2 => ?_) (fun hc2 => ?_)
    · refine g_iconst (v := (0 : Int32)) (dk D_X10_isWithin 8 rfl) rfl ?_
      exact g_zreturn rfl rfl (Or.inl rfl) Sx.rf rfl (by decide) (by decide) (dk D_X10_isWithin 9 rfl)
    · refine g_iconst (v := (1 : Int32)) (dk D_X10_isWithin 6 rfl) rfl ?_
      refine g_goto (tgt := 15) (dk D_X10_isWithin 7 rfl) rfl ?_
      exact g_zreturn rfl rfl (Or.inr rfl) Sx.rf rfl (by decide) (by decide) (dk D_X10_isWithin 9 rfl)
def t_X10_isWithin (x0 : Int32) (x1 : Int32) (x2 : Int32) : Int32 :=
  if x0 < x1 then (0 : Int32) else if x2 < x0 then (0 : Int32) else (1 : Int32)
theorem ft_X10_isWithin (fu : Nat) (S : Sk) (I0 : II) (x0 : Int32) (x1 : Int32) (x2 : Int32) : f_X10_isWithin fu S I0 x0 x1 x2 = some (t_X10_isWithin x0 x1 x2) := by
  simp only [f_X10_isWithin, t_X10_isWithin, lt, apply_ite some]
theorem z_X10_isWithin (x0 : Int32) (x1 : Int32) (x2 : Int32) : t_X10_isWithin x0 x1 x2 = 0 ∨ t_X10_isWithin x0 x1 x2 = 1 := by
  unfold t_X10_isWithin
  (repeat' split) <;> first | exact Or.inl rfl | exact Or.inr rfl
theorem c_X10_isWithin {E : EV} (S0 : Sk) (I0 : II) (x0 : Int32) (x1 : Int32) (x2 : Int32) : MX E yX10_isWithin i_X10_isWithin S0 I0 [vI x0, vI x1, vI x2] (po_X10_isWithin S0 I0 (t_X10_isWithin x0 x1 x2)) :=
  MX.of (ft_X10_isWithin 0 S0 I0 x0 x1 x2) (by decide) rfl rfl (Nat.le_of_ble_eq_true rfl) (gg_X10_isWithin 0 S0 I0 x0 x1 x2)
def tb_X10_has : List (Nat × Instr × Nat) := [(0, .iload_n 0, 1), (1, .iload_n 1, 1), (2, .ishr, 1), (3, .iconst 1, 1), (4, .iand, 1), (5, .iconst 1, 1), (6, .if_icmp .ne 7, 3), (9, .iconst 1, 1), (10, .goto 4, 3), (13, .iconst 0, 1), (14, .ireturn, 1)]
def i_X10_has : MI := (RX10, cX10_has, 2, (some .boolean), "has", { frames := 0, cells := 0, slots := 0, locals := 0 })
theorem D_X10_has : tbOK (i_X10_has).2.1 tb_X10_has := by show ∀ q ∈ tb_X10_has, decode cX10_has q.1 = .ok (q.2.1, q.2.2); decide +kernel
def po_X10_has (S : Sk) (I : II) (r : Int32) : Option LV × Sk × II := (some (vI r), S, I)
def f_X10_has (fu : Nat) (S : Sk) (I : II) (x0 : Int32) (x1 : Int32) : Option (Int32) :=
  if ((x0 >>> (x1 &&& 31)) &&& (1 : Int32)) = (1 : Int32) then some ((1 : Int32)) else some ((0 : Int32))
set_option maxRecDepth 100000 in
set_option maxHeartbeats 4000000 in
theorem gg_X10_has {E : EV} (fu : Nat) (S0 : Sk) (I0 : II) (x0 : Int32) (x1 : Int32) : GG E i_X10_has (enM E i_X10_has S0 (po_X10_has S0 I0)) S0 I0 (0, 0) 0 [(0, vI x0), (1, vI x1)] [] (f_X10_has fu S0 I0 x0 x1) := by
  unfold f_X10_has
  refine g_iload_n (dk D_X10_has 0 rfl) rfl ?_
  refine g_iload_n (dk D_X10_has 1 rfl) rfl ?_
  refine g_ishr (dk D_X10_has 2 rfl) ?_
  refine g_iconst (v := (1 : Int32)) (dk D_X10_has 3 rfl) rfl ?_
  refine g_iand (dk D_X10_has 4 rfl) ?_
  refine g_iconst (v := (1 : Int32)) (dk D_X10_has 5 rfl) rfl ?_
  refine g_icmp_ne (tgt := 13) (dk D_X10_has 6 rfl) rfl (fun hc1 => ?_) (fun hc1 => ?_)
  · refine g_iconst (v := (0 : Int32)) (dk D_X10_has 9 rfl) rfl ?_
    exact g_zreturn rfl rfl (Or.inl rfl) Sx.rf rfl (by decide) (by decide) (dk D_X10_has 10 rfl)
  · refine g_iconst (v := (1 : Int32)) (dk D_X10_has 7 rfl) rfl ?_
    refine g_goto (tgt := 14) (dk D_X10_has 8 rfl) rfl ?_
    exact g_zreturn rfl rfl (Or.inr rfl) Sx.rf rfl (by decide) (by decide) (dk D_X10_has 10 rfl)
def t_X10_has (x0 : Int32) (x1 : Int32) : Int32 :=
  if ((x0 >>> (x1 &&& 31)) &&& (1 : Int32)) = (1 : Int32) then (1 : Int32) else (0 : Int32)
theorem ft_X10_has (fu : Nat) (S : Sk) (I0 : II) (x0 : Int32) (x1 : Int32) : f_X10_has fu S I0 x0 x1 = some (t_X10_has x0 x1) := by
  simp only [f_X10_has, t_X10_has, lt, apply_ite some]
theorem z_X10_has (x0 : Int32) (x1 : Int32) : t_X10_has x0 x1 = 0 ∨ t_X10_has x0 x1 = 1 := by
  unfold t_X10_has
  (repeat' split) <;> first | exact Or.inl rfl | exact Or.inr rfl
theorem c_X10_has {E : EV} (S0 : Sk) (I0 : II) (x0 : Int32) (x1 : Int32) : MX E yX10_has i_X10_has S0 I0 [vI x0, vI x1] (po_X10_has S0 I0 (t_X10_has x0 x1)) :=
  MX.of (ft_X10_has 0 S0 I0 x0 x1) (by decide) rfl rfl (Nat.le_of_ble_eq_true rfl) (gg_X10_has 0 S0 I0 x0 x1)
theorem cl_RX2_48 : CV0 RX2 48 yX2_hasStop i_X2_hasStop 1 2 := ⟨⟨(gm 401 (by decide +kernel) (by decide +kernel)), (gm 67 (by decide +kernel) (by decide +kernel)), ((gm 404 (by decide +kernel) (by decide +kernel))), by decide +kernel, by decide +kernel, by decide +kernel⟩, ⟨(gm 402 (by decide +kernel) (by decide +kernel)), (gm 403 (by decide +kernel) (by decide +kernel))⟩, rfl, by decide⟩
theorem cl_RX2_52 : CN0 RX2 52 yX10_has "RedrawnLines" i_X10_has 2 := ⟨⟨(gmN 405 (by decide +kernel) (by decide +kernel)), (gm 66 (by decide +kernel) (by decide +kernel)), (gm 407 (by decide +kernel) (by decide +kernel)), by decide +kernel, by decide +kernel, by decide +kernel⟩, (gm 406 (by decide +kernel) (by decide +kernel))⟩
theorem cl_RX2_44 : CN0 RX2 44 yX10_isWithin "RedrawnLines" i_X10_isWithin 3 := ⟨⟨(gmN 400 (by decide +kernel) (by decide +kernel)), (gm 66 (by decide +kernel) (by decide +kernel)), (gm 330 (by decide +kernel) (by decide +kernel)), by decide +kernel, by decide +kernel, by decide +kernel⟩, (gm 329 (by decide +kernel) (by decide +kernel))⟩
def tb_X2_refusalOf : List (Nat × Instr × Nat) := [(0, .iconst 1, 1), (1, .istore_n 2, 1), (2, .iload_n 2, 1), (3, .aload_n 1, 1), (4, .arraylength, 1), (5, .iconst 2, 1), (6, .isub, 1), (7, .if_icmp .ge 24, 3), (10, .aload_n 1, 1), (11, .iload_n 2, 1), (12, .iaload, 1), (13, .iconst 1, 1), (14, .bipush 30, 2), (16, .invokestatic 44, 3), (19, .ifCond .ne 6, 3), (22, .bipush (-2), 2), (24, .ireturn, 1), (25, .iinc 2 2, 3), (28, .goto (-26), 3), (31, .iconst 0, 1), (32, .istore_n 2, 1), (33, .iconst 0, 1), (34, .istore_n 3, 1), (35, .iconst 0, 1), (36, .istore 4, 2), (38, .iload 4, 2), (40, .aload_n 1, 1), (41, .arraylength, 1), (42, .if_icmp .ge 42, 3), (45, .aload_n 0, 1), (46, .aload_n 1, 1), (47, .iload 4, 2), (49, .iaload, 1), (50, .invokevirtual 48, 3), (53, .ifCond .ne 5, 3), (56, .iconst (-1), 1), (57, .ireturn, 1), (58, .iload_n 3, 1), (59, .iload_n 2, 1), (60, .aload_n 1, 1), (61, .iload 4, 2), (63, .iaload, 1), (64, .invokestatic 52, 3), (67, .ior, 1), (68, .istore_n 3, 1), (69, .iload_n 2, 1), (70, .iconst 1, 1), (71, .aload_n 1, 1), (72, .iload 4, 2), (74, .iaload, 1), (75, .ishl, 1), (76, .ior, 1), (77, .istore_n 2, 1), (78, .iinc 4 2, 3), (81, .goto (-43), 3), (84, .iload_n 3, 1), (85, .ifCond .eq 8, 3), (88, .bipush (-3), 2), (90, .goto 4, 3), (93, .iconst 0, 1), (94, .ireturn, 1)]
def i_X2_refusalOf : MI := (RX2, cX2_refusalOf, 5, (some .int), "refusalOf", { frames := 1, cells := 0, slots := 0, locals := 22 })
theorem D_X2_refusalOf : tbOK (i_X2_refusalOf).2.1 tb_X2_refusalOf := by show ∀ q ∈ tb_X2_refusalOf, decode cX2_refusalOf q.1 = .ok (q.2.1, q.2.2); decide +kernel
def po_X2_refusalOf (S : Sk) (I : II) (r : Int32) : Option LV × Sk × II := (some (vI r), S, I)
def lp_X2_refusalOf_38 (fu : Nat) (S : Sk) (I : II) (a0 : Nat) (r1 : Nat) (self38 : Int32 → Int32 → Int32 → Option (Int32)) (x2 : Int32) (x3 : Int32) (x4 : Int32) : Option (Int32) :=
  gd (r1 ≠ 0) (if ((S.2.2.1 (r1 - 1)).toInt32) ≤ x4 then if x3 = 0 then some ((0 : Int32)) else some (((-3) : Int32)) else gd (inb S r1 x4) (if (t_X2_hasStop I a0 (rd I r1 x4)) = 0 then some (((-1) : Int32)) else lt (x3 ||| (t_X10_has x2 (rd I r1 x4))) fun x3_8 => (lt (x2 ||| ((1 : Int32) <<< ((rd I r1 x4) &&& 31))) fun x2_9 => (self38 x2_9 x3_8 (x4 + (2 : Int32))))))
def lp_X2_refusalOf_2 (fu : Nat) (S : Sk) (I : II) (a0 : Nat) (r1 : Nat) (self2 : Int32 → Option (Int32)) (x2 : Int32) : Option (Int32) :=
  gd (r1 ≠ 0) (if (((S.2.2.1 (r1 - 1)).toInt32) - (2 : Int32)) ≤ x2 then fix3 (lp_X2_refusalOf_38 fu S I a0 r1) fu (0 : Int32) (0 : Int32) (0 : Int32) else gd (inb S r1 x2) (if (t_X10_isWithin (rd I r1 x2) (1 : Int32) (30 : Int32)) = 0 then some (((-2) : Int32)) else self2 (x2 + (2 : Int32))))
def f_X2_refusalOf (fu : Nat) (S : Sk) (I : II) (a0 : Nat) (r1 : Nat) : Option (Int32) :=
  fix1 (lp_X2_refusalOf_2 fu S I a0 r1) fu (1 : Int32)
set_option maxRecDepth 100000 in
set_option maxHeartbeats 4000000 in
theorem gg_X2_refusalOf {E : EV} (fu : Nat) (S0 : Sk) (I0 : II) (a0 : Nat) (r1 : Nat) (ht0 : tyO S0 2 a0) (h_r1 : tyR S0 100 r1) : GG E i_X2_refusalOf (enM E i_X2_refusalOf S0 (po_X2_refusalOf S0 I0)) S0 I0 (0, 0) 0 [(0, vA (a0 + 1)), (1, vA r1)] [] (f_X2_refusalOf fu S0 I0 a0 r1) := by
  have hl38 : ∀ (nn : Nat) (x2 : Int32) (x3 : Int32) (x4 : Int32), True → GG E i_X2_refusalOf (enM E i_X2_refusalOf S0 (po_X2_refusalOf S0 I0)) S0 I0 (0, 0) 38 [(0, vA (a0 + 1)), (1, vA r1), (2, vI x2), (3, vI x3), (4, vI x4)] [] (fix3 (lp_X2_refusalOf_38 fu S0 I0 a0 r1) nn x2 x3 x4) := by
    refine g_fix3 (fun _ _ _ => S0) (fun _ _ _ => I0) (fun x2 x3 x4 => [(0, vA (a0 + 1)), (1, vA r1), (2, vI x2), (3, vI x3), (4, vI x4)]) (fun x2 x3 x4 => True) ?_
    intro self38 hself38 x2 x3 x4 hinv
    unfold lp_X2_refusalOf_38
    refine g_iload (dk D_X2_refusalOf 25 rfl) rfl ?_
    refine g_aload_n (dk D_X2_refusalOf 26 rfl) rfl ?_
    refine g_gd (fun hn1 => ?_)
    refine g_alen (t := 0) h_r1 hn1 rfl (dk D_X2_refusalOf 27 rfl) ?_
    refine g_icmp_ge (tgt := 84) (dk D_X2_refusalOf 28 rfl) rfl (fun hc2 => ?_) (fun hc2 => ?_)
    · refine g_iload_n (dk D_X2_refusalOf 55 rfl) rfl ?_
      refine g_if_eq (tgt := 93) (dk D_X2_refusalOf 56 rfl) rfl (fun hc3 => ?_) (fun hc3 => ?_)
      · refine g_iconst (v := (0 : Int32)) (dk D_X2_refusalOf 59 rfl) rfl ?_
        exact g_ireturn rfl rfl Sx.rf rfl (by decide) (by decide) (dk D_X2_refusalOf 60 rfl)
      · refine g_bipush (v := ((-3) : Int32)) (dk D_X2_refusalOf 57 rfl) rfl ?_
        refine g_goto (tgt := 94) (dk D_X2_refusalOf 58 rfl) rfl ?_
        exact g_ireturn rfl rfl Sx.rf rfl (by decide) (by decide) (dk D_X2_refusalOf 60 rfl)
    · refine g_aload_n (dk D_X2_refusalOf 29 rfl) rfl ?_
      refine g_aload_n (dk D_X2_refusalOf 30 rfl) rfl ?_
      refine g_iload (dk D_X2_refusalOf 31 rfl) rfl ?_
      refine g_gd (fun hi4 => ?_)
      refine g_iaload h_r1 hi4 (dk D_X2_refusalOf 32 rfl) ?_
      refine h_callVt (st := []) (c_X2_hasStop (E := E) S0 I0 a0 (rd I0 r1 x4) (ht0)) cl_RX2_48 ht0 rfl rfl (by decide) (Nat.le_of_ble_eq_true rfl) (dk D_X2_refusalOf 33 rfl) ?_
      refine g_if_ne (tgt := 58) (dk D_X2_refusalOf 34 rfl) rfl (fun hc6 => ?_) (fun hc6 => ?_)
      · refine g_iload_n (dk D_X2_refusalOf 37 rfl) rfl ?_
        refine g_iload_n (dk D_X2_refusalOf 38 rfl) rfl ?_
        refine g_aload_n (dk D_X2_refusalOf 39 rfl) rfl ?_
        refine g_iload (dk D_X2_refusalOf 40 rfl) rfl ?_
        refine g_iaload h_r1 hi4 (dk D_X2_refusalOf 41 rfl) ?_
        refine h_callSN (st := [vI x3]) (c_X10_has (E := E) S0 I0 x2 (rd I0 r1 x4)) cl_RX2_52 rfl rfl (by decide) (Nat.le_of_ble_eq_true rfl) (dk D_X2_refusalOf 42 rfl) ?_
        refine g_ior (dk D_X2_refusalOf 43 rfl) ?_
        refine g_ltV (fun x3_8 ex3_8 => ?_)
        refine g_istore_n (L' := [(0, vA (a0 + 1)), (1, vA r1), (2, vI x2), (3, vI x3_8), (4, vI x4)]) (dk D_X2_refusalOf 44 rfl) (Nat.le_of_ble_eq_true rfl) rfl ?_
        refine g_iload_n (dk D_X2_refusalOf 45 rfl) rfl ?_
        refine g_iconst (v := (1 : Int32)) (dk D_X2_refusalOf 46 rfl) rfl ?_
        refine g_aload_n (dk D_X2_refusalOf 47 rfl) rfl ?_
        refine g_iload (dk D_X2_refusalOf 48 rfl) rfl ?_
        refine g_iaload h_r1 hi4 (dk D_X2_refusalOf 49 rfl) ?_
        refine g_ishl (dk D_X2_refusalOf 50 rfl) ?_
        refine g_ior (dk D_X2_refusalOf 51 rfl) ?_
        refine g_ltV (fun x2_9 ex2_9 => ?_)
        refine g_istore_n (L' := [(0, vA (a0 + 1)), (1, vA r1), (2, vI x2_9), (3, vI x3_8), (4, vI x4)]) (dk D_X2_refusalOf 52 rfl) (Nat.le_of_ble_eq_true rfl) rfl ?_
        refine g_iinc (v := (2 : Int32)) (L' := [(0, vA (a0 + 1)), (1, vA r1), (2, vI x2_9), (3, vI x3_8), (4, vI (x4 + (2 : Int32)))]) (dk D_X2_refusalOf 53 rfl) rfl rfl (Nat.le_of_ble_eq_true rfl) rfl ?_
        refine g_goto (tgt := 38) (dk D_X2_refusalOf 54 rfl) rfl ?_
        exact hself38 x2_9 x3_8 (x4 + (2 : Int32)) trivial
      · refine g_iconst (v := ((-1) : Int32)) (dk D_X2_refusalOf 35 rfl) rfl ?_
        exact g_ireturn rfl rfl Sx.rf rfl (by decide) (by decide) (dk D_X2_refusalOf 36 rfl)
  have hl2 : ∀ (nn : Nat) (x2 : Int32), True → GG E i_X2_refusalOf (enM E i_X2_refusalOf S0 (po_X2_refusalOf S0 I0)) S0 I0 (0, 0) 2 [(0, vA (a0 + 1)), (1, vA r1), (2, vI x2)] [] (fix1 (lp_X2_refusalOf_2 fu S0 I0 a0 r1) nn x2) := by
    refine g_fix1 (fun _ => S0) (fun _ => I0) (fun x2 => [(0, vA (a0 + 1)), (1, vA r1), (2, vI x2)]) (fun x2 => True) ?_
    intro self2 hself2 x2 hinv
    unfold lp_X2_refusalOf_2
    refine g_iload_n (dk D_X2_refusalOf 2 rfl) rfl ?_
    refine g_aload_n (dk D_X2_refusalOf 3 rfl) rfl ?_
    refine g_gd (fun hn10 => ?_)
    refine g_alen (t := 0) h_r1 hn10 rfl (dk D_X2_refusalOf 4 rfl) ?_
    refine g_iconst (v := (2 : Int32)) (dk D_X2_refusalOf 5 rfl) rfl ?_
    refine g_isub (dk D_X2_refusalOf 6 rfl) ?_
    refine g_icmp_ge (tgt := 31) (dk D_X2_refusalOf 7 rfl) rfl (fun hc11 => ?_) (fun hc11 => ?_)
    · refine g_iconst (v := (0 : Int32)) (dk D_X2_refusalOf 19 rfl) rfl ?_
      refine g_istore_n (L' := [(0, vA (a0 + 1)), (1, vA r1), (2, vI (0 : Int32))]) (dk D_X2_refusalOf 20 rfl) (Nat.le_of_ble_eq_true rfl) rfl ?_
      refine g_iconst (v := (0 : Int32)) (dk D_X2_refusalOf 21 rfl) rfl ?_
      refine g_istore_n (L' := [(0, vA (a0 + 1)), (1, vA r1), (2, vI (0 : Int32)), (3, vI (0 : Int32))]) (dk D_X2_refusalOf 22 rfl) (Nat.le_of_ble_eq_true rfl) rfl ?_
      refine g_iconst (v := (0 : Int32)) (dk D_X2_refusalOf 23 rfl) rfl ?_
      refine g_istore (L' := [(0, vA (a0 + 1)), (1, vA r1), (2, vI (0 : Int32)), (3, vI (0 : Int32)), (4, vI (0 : Int32))]) (dk D_X2_refusalOf 24 rfl) (Nat.le_of_ble_eq_true rfl) rfl ?_
      exact hl38 fu (0 : Int32) (0 : Int32) (0 : Int32) trivial
    · refine g_aload_n (dk D_X2_refusalOf 8 rfl) rfl ?_
      refine g_iload_n (dk D_X2_refusalOf 9 rfl) rfl ?_
      refine g_gd (fun hi12 => ?_)
      refine g_iaload h_r1 hi12 (dk D_X2_refusalOf 10 rfl) ?_
      refine g_iconst (v := (1 : Int32)) (dk D_X2_refusalOf 11 rfl) rfl ?_
      refine g_bipush (v := (30 : Int32)) (dk D_X2_refusalOf 12 rfl) rfl ?_
      refine h_callSN (st := []) (c_X10_isWithin (E := E) S0 I0 (rd I0 r1 x2) (1 : Int32) (30 : Int32)) cl_RX2_44 rfl rfl (by decide) (Nat.le_of_ble_eq_true rfl) (dk D_X2_refusalOf 13 rfl) ?_
      refine g_if_ne (tgt := 25) (dk D_X2_refusalOf 14 rfl) rfl (fun hc14 => ?_) (fun hc14 => ?_)
      · refine g_iinc (v := (2 : Int32)) (L' := [(0, vA (a0 + 1)), (1, vA r1), (2, vI (x2 + (2 : Int32)))]) (dk D_X2_refusalOf 17 rfl) rfl rfl (Nat.le_of_ble_eq_true rfl) rfl ?_
        refine g_goto (tgt := 2) (dk D_X2_refusalOf 18 rfl) rfl ?_
        exact hself2 (x2 + (2 : Int32)) trivial
      · refine g_bipush (v := ((-2) : Int32)) (dk D_X2_refusalOf 15 rfl) rfl ?_
        exact g_ireturn rfl rfl Sx.rf rfl (by decide) (by decide) (dk D_X2_refusalOf 16 rfl)
  unfold f_X2_refusalOf
  refine g_iconst (v := (1 : Int32)) (dk D_X2_refusalOf 0 rfl) rfl ?_
  refine g_istore_n (L' := [(0, vA (a0 + 1)), (1, vA r1), (2, vI (1 : Int32))]) (dk D_X2_refusalOf 1 rfl) (Nat.le_of_ble_eq_true rfl) rfl ?_
  exact hl2 fu (1 : Int32) trivial
theorem c_X2_refusalOf {E : EV} (fu : Nat) (S0 : Sk) (I0 : II) (a0 : Nat) (r1 : Nat) (r : Int32) (h : f_X2_refusalOf fu S0 I0 a0 r1 = some r) (ht0 : tyO S0 2 a0) (h_r1 : tyR S0 100 r1) : MX E yX2_refusalOf i_X2_refusalOf S0 I0 [vA (a0 + 1), vA r1] (po_X2_refusalOf S0 I0 r) :=
  MX.of h (by decide) rfl rfl (Nat.le_of_ble_eq_true rfl) (gg_X2_refusalOf fu S0 I0 a0 r1 ht0 h_r1)
def tb_X10_bitIf : List (Nat × Instr × Nat) := [(0, .iload_n 0, 1), (1, .ifCond .eq 9, 3), (4, .iconst 1, 1), (5, .iload_n 1, 1), (6, .ishl, 1), (7, .goto 4, 3), (10, .iconst 0, 1), (11, .ireturn, 1)]
def i_X10_bitIf : MI := (RX10, cX10_bitIf, 2, (some .int), "bitIf", { frames := 0, cells := 0, slots := 0, locals := 0 })
theorem D_X10_bitIf : tbOK (i_X10_bitIf).2.1 tb_X10_bitIf := by show ∀ q ∈ tb_X10_bitIf, decode cX10_bitIf q.1 = .ok (q.2.1, q.2.2); decide +kernel
def po_X10_bitIf (S : Sk) (I : II) (r : Int32) : Option LV × Sk × II := (some (vI r), S, I)
def f_X10_bitIf (fu : Nat) (S : Sk) (I : II) (x0 : Int32) (x1 : Int32) : Option (Int32) :=
  if x0 = 0 then some ((0 : Int32)) else some (((1 : Int32) <<< (x1 &&& 31)))
set_option maxRecDepth 100000 in
set_option maxHeartbeats 4000000 in
theorem gg_X10_bitIf {E : EV} (fu : Nat) (S0 : Sk) (I0 : II) (x0 : Int32) (x1 : Int32) : GG E i_X10_bitIf (enM E i_X10_bitIf S0 (po_X10_bitIf S0 I0)) S0 I0 (0, 0) 0 [(0, vI x0), (1, vI x1)] [] (f_X10_bitIf fu S0 I0 x0 x1) := by
  unfold f_X10_bitIf
  refine g_iload_n (dk D_X10_bitIf 0 rfl) rfl ?_
  refine g_if_eq (tgt := 10) (dk D_X10_bitIf 1 rfl) rfl (fun hc1 => ?_) (fun hc1 => ?_)
  · refine g_iconst (v := (0 : Int32)) (dk D_X10_bitIf 6 rfl) rfl ?_
    exact g_ireturn rfl rfl Sx.rf rfl (by decide) (by decide) (dk D_X10_bitIf 7 rfl)
  · refine g_iconst (v := (1 : Int32)) (dk D_X10_bitIf 2 rfl) rfl ?_
    refine g_iload_n (dk D_X10_bitIf 3 rfl) rfl ?_
    refine g_ishl (dk D_X10_bitIf 4 rfl) ?_
    refine g_goto (tgt := 11) (dk D_X10_bitIf 5 rfl) rfl ?_
    exact g_ireturn rfl rfl Sx.rf rfl (by decide) (by decide) (dk D_X10_bitIf 7 rfl)
def t_X10_bitIf (x0 : Int32) (x1 : Int32) : Int32 :=
  if x0 = 0 then (0 : Int32) else ((1 : Int32) <<< (x1 &&& 31))
theorem ft_X10_bitIf (fu : Nat) (S : Sk) (I0 : II) (x0 : Int32) (x1 : Int32) : f_X10_bitIf fu S I0 x0 x1 = some (t_X10_bitIf x0 x1) := by
  simp only [f_X10_bitIf, t_X10_bitIf, lt, apply_ite some]
theorem c_X10_bitIf {E : EV} (S0 : Sk) (I0 : II) (x0 : Int32) (x1 : Int32) : MX E yX10_bitIf i_X10_bitIf S0 I0 [vI x0, vI x1] (po_X10_bitIf S0 I0 (t_X10_bitIf x0 x1)) :=
  MX.of (ft_X10_bitIf 0 S0 I0 x0 x1) (by decide) rfl rfl (Nat.le_of_ble_eq_true rfl) (gg_X10_bitIf 0 S0 I0 x0 x1)
theorem cl_RX2_56 : CV0 RX2 56 yX1_goesOn i_X1_goesOn 1 1 := ⟨⟨(gm 591 (by decide +kernel) (by decide +kernel)), (gm 76 (by decide +kernel) (by decide +kernel)), ((gm 508 (by decide +kernel) (by decide +kernel))), by decide +kernel, by decide +kernel, by decide +kernel⟩, ⟨(gm 506 (by decide +kernel) (by decide +kernel)), (gm 507 (by decide +kernel) (by decide +kernel))⟩, rfl, by decide⟩
theorem cl_RX2_59 : CN0 RX2 59 yX10_bitIf "RedrawnLines" i_X10_bitIf 2 := ⟨⟨(gmN 647 (by decide +kernel) (by decide +kernel)), (gm 66 (by decide +kernel) (by decide +kernel)), (gm 649 (by decide +kernel) (by decide +kernel)), by decide +kernel, by decide +kernel, by decide +kernel⟩, (gm 648 (by decide +kernel) (by decide +kernel))⟩
def tb_X2_running : List (Nat × Instr × Nat) := [(0, .iconst 0, 1), (1, .istore_n 2, 1), (2, .iconst 0, 1), (3, .istore_n 3, 1), (4, .iload_n 3, 1), (5, .aload_n 0, 1), (6, .getfield 31, 3), (9, .if_icmp .ge 26, 3), (12, .iload_n 2, 1), (13, .aload_n 0, 1), (14, .getfield 27, 3), (17, .iload_n 3, 1), (18, .aaload, 1), (19, .iload_n 1, 1), (20, .invokevirtual 56, 3), (23, .iload_n 3, 1), (24, .invokestatic 59, 3), (27, .ior, 1), (28, .istore_n 2, 1), (29, .iinc 3 1, 3), (32, .goto (-28), 3), (35, .iload_n 2, 1), (36, .ireturn, 1)]
def i_X2_running : MI := (RX2, cX2_running, 4, (some .int), "running", { frames := 1, cells := 0, slots := 0, locals := 21 })
theorem D_X2_running : tbOK (i_X2_running).2.1 tb_X2_running := by show ∀ q ∈ tb_X2_running, decode cX2_running q.1 = .ok (q.2.1, q.2.2); decide +kernel
def po_X2_running (S : Sk) (I : II) (r : Int32) : Option LV × Sk × II := (some (vI r), S, I)
def lp_X2_running_4 (fu : Nat) (S : Sk) (I : II) (a0 : Nat) (x1 : Int32) (self4 : Int32 → Int32 → Option (Int32)) (x2 : Int32) (x3 : Int32) : Option (Int32) :=
  if (I a0 5) ≤ x3 then some (x2) else gd (inb S (S.1 a0 4) x3) (gd ((S.1 ((S.1 a0 4) - 1) (nx x3)) ≠ 0) (lt (x2 ||| (t_X10_bitIf (t_X1_goesOn I ((S.1 ((S.1 a0 4) - 1) (nx x3)) - 1) x1) x3)) fun x2_8 => (self4 x2_8 (x3 + (1 : Int32)))))
def f_X2_running (fu : Nat) (S : Sk) (I : II) (a0 : Nat) (x1 : Int32) : Option (Int32) :=
  fix2 (lp_X2_running_4 fu S I a0 x1) fu (0 : Int32) (0 : Int32)
set_option maxRecDepth 100000 in
set_option maxHeartbeats 4000000 in
theorem gg_X2_running {E : EV} (fu : Nat) (S0 : Sk) (I0 : II) (a0 : Nat) (x1 : Int32) (ht0 : tyO S0 2 a0) : GG E i_X2_running (enM E i_X2_running S0 (po_X2_running S0 I0)) S0 I0 (0, 0) 0 [(0, vA (a0 + 1)), (1, vI x1)] [] (f_X2_running fu S0 I0 a0 x1) := by
  have hl4 : ∀ (nn : Nat) (x2 : Int32) (x3 : Int32), True → GG E i_X2_running (enM E i_X2_running S0 (po_X2_running S0 I0)) S0 I0 (0, 0) 4 [(0, vA (a0 + 1)), (1, vI x1), (2, vI x2), (3, vI x3)] [] (fix2 (lp_X2_running_4 fu S0 I0 a0 x1) nn x2 x3) := by
    refine g_fix2 (fun _ _ => S0) (fun _ _ => I0) (fun x2 x3 => [(0, vA (a0 + 1)), (1, vI x1), (2, vI x2), (3, vI x3)]) (fun x2 x3 => True) ?_
    intro self4 hself4 x2 x3 hinv
    unfold lp_X2_running_4
    refine g_iload_n (dk D_X2_running 4 rfl) rfl ?_
    refine g_aload_n (dk D_X2_running 5 rfl) rfl ?_
    refine g_getIt fl_RX2_31 (by decide) ht0 (dk D_X2_running 6 rfl) ?_
    refine g_icmp_ge (tgt := 35) (dk D_X2_running 7 rfl) rfl (fun hc1 => ?_) (fun hc1 => ?_)
    · refine g_iload_n (dk D_X2_running 21 rfl) rfl ?_
      exact g_ireturn rfl rfl Sx.rf rfl (by decide) (by decide) (dk D_X2_running 22 rfl)
    · refine g_iload_n (dk D_X2_running 8 rfl) rfl ?_
      refine g_aload_n (dk D_X2_running 9 rfl) rfl ?_
      refine g_getAt (t := 111) fl_RX2_27 rfl ht0 (dk D_X2_running 10 rfl) (fun ht2 => ?_)
      refine g_iload_n (dk D_X2_running 11 rfl) rfl ?_
      refine g_gd (fun hi3 => ?_)
      refine g_aaload (c0 := 1) (by unfold aoC; decide) ht2 hi3 (dk D_X2_running 12 rfl) (fun ht4 => ?_)
      refine g_iload_n (dk D_X2_running 13 rfl) rfl ?_
      refine g_gd (fun hn5 => ?_)
      refine h_callV (st := [vI x2]) (c_X1_goesOn (E := E) S0 I0 ((S0.1 ((S0.1 a0 4) - 1) (nx x3)) - 1) x1 (ht4.nz hn5)) cl_RX2_56 ht4 hn5 rfl rfl (by decide) (Nat.le_of_ble_eq_true rfl) (dk D_X2_running 14 rfl) ?_
      refine g_iload_n (dk D_X2_running 15 rfl) rfl ?_
      refine h_callSN (st := [vI x2]) (c_X10_bitIf (E := E) S0 I0 (t_X1_goesOn I0 ((S0.1 ((S0.1 a0 4) - 1) (nx x3)) - 1) x1) x3) cl_RX2_59 rfl rfl (by decide) (Nat.le_of_ble_eq_true rfl) (dk D_X2_running 16 rfl) ?_
      refine g_ior (dk D_X2_running 17 rfl) ?_
      refine g_ltV (fun x2_8 ex2_8 => ?_)
      refine g_istore_n (L' := [(0, vA (a0 + 1)), (1, vI x1), (2, vI x2_8), (3, vI x3)]) (dk D_X2_running 18 rfl) (Nat.le_of_ble_eq_true rfl) rfl ?_
      refine g_iinc (v := (1 : Int32)) (L' := [(0, vA (a0 + 1)), (1, vI x1), (2, vI x2_8), (3, vI (x3 + (1 : Int32)))]) (dk D_X2_running 19 rfl) rfl rfl (Nat.le_of_ble_eq_true rfl) rfl ?_
      refine g_goto (tgt := 4) (dk D_X2_running 20 rfl) rfl ?_
      exact hself4 x2_8 (x3 + (1 : Int32)) trivial
  unfold f_X2_running
  refine g_iconst (v := (0 : Int32)) (dk D_X2_running 0 rfl) rfl ?_
  refine g_istore_n (L' := [(0, vA (a0 + 1)), (1, vI x1), (2, vI (0 : Int32))]) (dk D_X2_running 1 rfl) (Nat.le_of_ble_eq_true rfl) rfl ?_
  refine g_iconst (v := (0 : Int32)) (dk D_X2_running 2 rfl) rfl ?_
  refine g_istore_n (L' := [(0, vA (a0 + 1)), (1, vI x1), (2, vI (0 : Int32)), (3, vI (0 : Int32))]) (dk D_X2_running 3 rfl) (Nat.le_of_ble_eq_true rfl) rfl ?_
  exact hl4 fu (0 : Int32) (0 : Int32) trivial
theorem c_X2_running {E : EV} (fu : Nat) (S0 : Sk) (I0 : II) (a0 : Nat) (x1 : Int32) (r : Int32) (h : f_X2_running fu S0 I0 a0 x1 = some r) (ht0 : tyO S0 2 a0) : MX E yX2_running i_X2_running S0 I0 [vA (a0 + 1), vI x1] (po_X2_running S0 I0 r) :=
  MX.of h (by decide) rfl rfl (Nat.le_of_ble_eq_true rfl) (gg_X2_running fu S0 I0 a0 x1 ht0)
theorem cl_RX2_63 : CV0 RX2 63 yX1_placeOf i_X1_placeOf 1 1 := ⟨⟨(gm 592 (by decide +kernel) (by decide +kernel)), (gm 76 (by decide +kernel) (by decide +kernel)), ((gm 595 (by decide +kernel) (by decide +kernel))), by decide +kernel, by decide +kernel, by decide +kernel⟩, ⟨(gm 593 (by decide +kernel) (by decide +kernel)), (gm 594 (by decide +kernel) (by decide +kernel))⟩, rfl, by decide⟩
theorem cl_RX2_66 : CV0 RX2 66 yX1_leavesFrom i_X1_leavesFrom 1 1 := ⟨⟨(gm 596 (by decide +kernel) (by decide +kernel)), (gm 76 (by decide +kernel) (by decide +kernel)), ((gm 599 (by decide +kernel) (by decide +kernel))), by decide +kernel, by decide +kernel, by decide +kernel⟩, ⟨(gm 597 (by decide +kernel) (by decide +kernel)), (gm 598 (by decide +kernel) (by decide +kernel))⟩, rfl, by decide⟩
theorem cl_RX2_69 : CV0 RX2 69 yX1_buses i_X1_buses 0 1 := ⟨⟨(gm 600 (by decide +kernel) (by decide +kernel)), (gm 76 (by decide +kernel) (by decide +kernel)), ((gm 496 (by decide +kernel) (by decide +kernel))), by decide +kernel, by decide +kernel, by decide +kernel⟩, ⟨(gm 494 (by decide +kernel) (by decide +kernel)), (gm 495 (by decide +kernel) (by decide +kernel))⟩, rfl, by decide⟩
def tb_X2_busesLeaving : List (Nat × Instr × Nat) := [(0, .iconst 0, 1), (1, .istore_n 3, 1), (2, .iconst 0, 1), (3, .istore 4, 2), (5, .iload 4, 2), (7, .aload_n 0, 1), (8, .getfield 31, 3), (11, .if_icmp .ge 49, 3), (14, .aload_n 0, 1), (15, .getfield 27, 3), (18, .iload 4, 2), (20, .aaload, 1), (21, .astore 5, 2), (23, .aload 5, 2), (25, .iload_n 2, 1), (26, .invokevirtual 56, 3), (29, .ifCond .eq 25, 3), (32, .aload 5, 2), (34, .aload 5, 2), (36, .iload_n 1, 1), (37, .invokevirtual 63, 3), (40, .invokevirtual 66, 3), (43, .ifCond .eq 11, 3), (46, .iload_n 3, 1), (47, .aload 5, 2), (49, .invokevirtual 69, 3), (52, .iadd, 1), (53, .istore_n 3, 1), (54, .iinc 4 1, 3), (57, .goto (-52), 3), (60, .iload_n 3, 1), (61, .ireturn, 1)]
def i_X2_busesLeaving : MI := (RX2, cX2_busesLeaving, 6, (some .int), "busesLeaving", { frames := 1, cells := 0, slots := 0, locals := 22 })
theorem D_X2_busesLeaving : tbOK (i_X2_busesLeaving).2.1 tb_X2_busesLeaving := by show ∀ q ∈ tb_X2_busesLeaving, decode cX2_busesLeaving q.1 = .ok (q.2.1, q.2.2); decide +kernel
def po_X2_busesLeaving (S : Sk) (I : II) (r : Int32) : Option LV × Sk × II := (some (vI r), S, I)
def jn_X2_busesLeaving_54 (fu : Nat) (S : Sk) (I : II) (self5 : Int32 → Int32 → Option (Int32)) (a0 : Nat) (x1 : Int32) (x2 : Int32) (x3 : Int32) (x4 : Int32) : Option (Int32) :=
  self5 x3 (x4 + (1 : Int32))
def lp_X2_busesLeaving_5 (fu : Nat) (S : Sk) (I : II) (a0 : Nat) (x1 : Int32) (x2 : Int32) (self5 : Int32 → Int32 → Option (Int32)) (x3 : Int32) (x4 : Int32) : Option (Int32) :=
  if (I a0 5) ≤ x4 then some (x3) else gd (inb S (S.1 a0 4) x4) (gd ((S.1 ((S.1 a0 4) - 1) (nx x4)) ≠ 0) (if (t_X1_goesOn I ((S.1 ((S.1 a0 4) - 1) (nx x4)) - 1) x2) = 0 then jn_X2_busesLeaving_54 fu S I self5 a0 x1 x2 x3 x4 else (f_X1_placeOf fu S I ((S.1 ((S.1 a0 4) - 1) (nx x4)) - 1) x1).bind fun q8 => (if (t_X1_leavesFrom I ((S.1 ((S.1 a0 4) - 1) (nx x4)) - 1) q8) = 0 then jn_X2_busesLeaving_54 fu S I self5 a0 x1 x2 x3 x4 else (f_X1_buses fu S I ((S.1 ((S.1 a0 4) - 1) (nx x4)) - 1)).bind fun q13 => (lt (x3 + q13) fun x3_16 => (jn_X2_busesLeaving_54 fu S I self5 a0 x1 x2 x3_16 x4)))))
def f_X2_busesLeaving (fu : Nat) (S : Sk) (I : II) (a0 : Nat) (x1 : Int32) (x2 : Int32) : Option (Int32) :=
  fix2 (lp_X2_busesLeaving_5 fu S I a0 x1 x2) fu (0 : Int32) (0 : Int32)
set_option maxRecDepth 100000 in
set_option maxHeartbeats 4000000 in
theorem gg_X2_busesLeaving {E : EV} (fu : Nat) (S0 : Sk) (I0 : II) (a0 : Nat) (x1 : Int32) (x2 : Int32) (ht0 : tyO S0 2 a0) : GG E i_X2_busesLeaving (enM E i_X2_busesLeaving S0 (po_X2_busesLeaving S0 I0)) S0 I0 (0, 0) 0 [(0, vA (a0 + 1)), (1, vI x1), (2, vI x2)] [] (f_X2_busesLeaving fu S0 I0 a0 x1 x2) := by
  have hl5 : ∀ (nn : Nat) (x3 : Int32) (x4 : Int32), True → GG E i_X2_busesLeaving (enM E i_X2_busesLeaving S0 (po_X2_busesLeaving S0 I0)) S0 I0 (0, 0) 5 [(0, vA (a0 + 1)), (1, vI x1), (2, vI x2), (3, vI x3), (4, vI x4)] [] (fix2 (lp_X2_busesLeaving_5 fu S0 I0 a0 x1 x2) nn x3 x4) := by
    refine g_fix2 (fun _ _ => S0) (fun _ _ => I0) (fun x3 x4 => [(0, vA (a0 + 1)), (1, vI x1), (2, vI x2), (3, vI x3), (4, vI x4)]) (fun x3 x4 => True) ?_
    intro self5 hself5 x3 x4 hinv
    have hj54 : ∀ (x3 : Int32) (x4 : Int32), GG E i_X2_busesLeaving (enM E i_X2_busesLeaving S0 (po_X2_busesLeaving S0 I0)) S0 I0 (0, 0) 54 [(0, vA (a0 + 1)), (1, vI x1), (2, vI x2), (3, vI x3), (4, vI x4)] [] (jn_X2_busesLeaving_54 fu S0 I0 self5 a0 x1 x2 x3 x4) := by
      intro x3 x4 
      unfold jn_X2_busesLeaving_54
      refine g_iinc (v := (1 : Int32)) (L' := [(0, vA (a0 + 1)), (1, vI x1), (2, vI x2), (3, vI x3), (4, vI (x4 + (1 : Int32)))]) (dk D_X2_busesLeaving 28 rfl) rfl rfl (Nat.le_of_ble_eq_true rfl) rfl ?_
      refine g_goto (tgt := 5) (dk D_X2_busesLeaving 29 rfl) rfl ?_
      exact hself5 x3 (x4 + (1 : Int32)) trivial
    unfold lp_X2_busesLeaving_5
    refine g_iload (dk D_X2_busesLeaving 4 rfl) rfl ?_
    refine g_aload_n (dk D_X2_busesLeaving 5 rfl) rfl ?_
    refine g_getIt fl_RX2_31 (by decide) ht0 (dk D_X2_busesLeaving 6 rfl) ?_
    refine g_icmp_ge (tgt := 60) (dk D_X2_busesLeaving 7 rfl) rfl (fun hc1 => ?_) (fun hc1 => ?_)
    · refine g_iload_n (dk D_X2_busesLeaving 30 rfl) rfl ?_
      exact g_ireturn rfl rfl Sx.rf rfl (by decide) (by decide) (dk D_X2_busesLeaving 31 rfl)
    · refine g_aload_n (dk D_X2_busesLeaving 8 rfl) rfl ?_
      refine g_getAt (t := 111) fl_RX2_27 rfl ht0 (dk D_X2_busesLeaving 9 rfl) (fun ht2 => ?_)
      refine g_iload (dk D_X2_busesLeaving 10 rfl) rfl ?_
      refine g_gd (fun hi3 => ?_)
      refine g_aaload (c0 := 1) (by unfold aoC; decide) ht2 hi3 (dk D_X2_busesLeaving 11 rfl) (fun ht4 => ?_)
      refine g_astore (L' := [(0, vA (a0 + 1)), (1, vI x1), (2, vI x2), (3, vI x3), (4, vI x4), (5, vA (S0.1 ((S0.1 a0 4) - 1) (nx x4)))]) (dk D_X2_busesLeaving 12 rfl) (Nat.le_of_ble_eq_true rfl) rfl ?_
      refine g_aload (dk D_X2_busesLeaving 13 rfl) rfl ?_
      refine g_iload_n (dk D_X2_busesLeaving 14 rfl) rfl ?_
      refine g_gd (fun hn5 => ?_)
      refine h_callV (st := []) (c_X1_goesOn (E := E) S0 I0 ((S0.1 ((S0.1 a0 4) - 1) (nx x4)) - 1) x2 (ht4.nz hn5)) cl_RX2_56 ht4 hn5 rfl rfl (by decide) (Nat.le_of_ble_eq_true rfl) (dk D_X2_busesLeaving 15 rfl) ?_
      refine g_if_eq (tgt := 54) (dk D_X2_busesLeaving 16 rfl) rfl (fun hc7 => ?_) (fun hc7 => ?_)
      · refine g_Lp [0, 1, 2, 3, 4] rfl ?_
        exact hj54 x3 x4
      · refine g_aload (dk D_X2_busesLeaving 17 rfl) rfl ?_
        refine g_aload (dk D_X2_busesLeaving 18 rfl) rfl ?_
        refine g_iload_n (dk D_X2_busesLeaving 19 rfl) rfl ?_
        refine g_bind (fun q8 hq9 => ?_)
        refine h_callV (st := [vA (S0.1 ((S0.1 a0 4) - 1) (nx x4))]) (c_X1_placeOf (E := E) fu S0 I0 ((S0.1 ((S0.1 a0 4) - 1) (nx x4)) - 1) x1 q8 hq9 (ht4.nz hn5)) cl_RX2_63 ht4 hn5 rfl rfl (by decide) (Nat.le_of_ble_eq_true rfl) (dk D_X2_busesLeaving 20 rfl) ?_
        refine h_callV (st := []) (c_X1_leavesFrom (E := E) S0 I0 ((S0.1 ((S0.1 a0 4) - 1) (nx x4)) - 1) q8 (ht4.nz hn5)) cl_RX2_66 ht4 hn5 rfl rfl (by decide) (Nat.le_of_ble_eq_true rfl) (dk D_X2_busesLeaving 21 rfl) ?_
        refine g_if_eq (tgt := 54) (dk D_X2_busesLeaving 22 rfl) rfl (fun hc12 => ?_) (fun hc12 => ?_)
        · refine g_Lp [0, 1, 2, 3, 4] rfl ?_
          exact hj54 x3 x4
        · refine g_iload_n (dk D_X2_busesLeaving 23 rfl) rfl ?_
          refine g_aload (dk D_X2_busesLeaving 24 rfl) rfl ?_
          refine g_bind (fun q13 hq14 => ?_)
          refine h_callV (st := [vI x3]) (c_X1_buses (E := E) fu S0 I0 ((S0.1 ((S0.1 a0 4) - 1) (nx x4)) - 1) q13 hq14 (ht4.nz hn5)) cl_RX2_69 ht4 hn5 rfl rfl (by decide) (Nat.le_of_ble_eq_true rfl) (dk D_X2_busesLeaving 25 rfl) ?_
          refine g_iadd (dk D_X2_busesLeaving 26 rfl) ?_
          refine g_ltV (fun x3_16 ex3_16 => ?_)
          refine g_istore_n (L' := [(0, vA (a0 + 1)), (1, vI x1), (2, vI x2), (3, vI x3_16), (4, vI x4), (5, vA (S0.1 ((S0.1 a0 4) - 1) (nx x4)))]) (dk D_X2_busesLeaving 27 rfl) (Nat.le_of_ble_eq_true rfl) rfl ?_
          refine g_Lp [0, 1, 2, 3, 4] rfl ?_
          exact hj54 x3_16 x4
  unfold f_X2_busesLeaving
  refine g_iconst (v := (0 : Int32)) (dk D_X2_busesLeaving 0 rfl) rfl ?_
  refine g_istore_n (L' := [(0, vA (a0 + 1)), (1, vI x1), (2, vI x2), (3, vI (0 : Int32))]) (dk D_X2_busesLeaving 1 rfl) (Nat.le_of_ble_eq_true rfl) rfl ?_
  refine g_iconst (v := (0 : Int32)) (dk D_X2_busesLeaving 2 rfl) rfl ?_
  refine g_istore (L' := [(0, vA (a0 + 1)), (1, vI x1), (2, vI x2), (3, vI (0 : Int32)), (4, vI (0 : Int32))]) (dk D_X2_busesLeaving 3 rfl) (Nat.le_of_ble_eq_true rfl) rfl ?_
  exact hl5 fu (0 : Int32) (0 : Int32) trivial
theorem c_X2_busesLeaving {E : EV} (fu : Nat) (S0 : Sk) (I0 : II) (a0 : Nat) (x1 : Int32) (x2 : Int32) (r : Int32) (h : f_X2_busesLeaving fu S0 I0 a0 x1 x2 = some r) (ht0 : tyO S0 2 a0) : MX E yX2_busesLeaving i_X2_busesLeaving S0 I0 [vA (a0 + 1), vI x1, vI x2] (po_X2_busesLeaving S0 I0 r) :=
  MX.of h (by decide) rfl rfl (Nat.le_of_ble_eq_true rfl) (gg_X2_busesLeaving fu S0 I0 a0 x1 x2 ht0)
theorem cl_RX2_73 : CV0 RX2 73 yX1_roundMinutes i_X1_roundMinutes 0 1 := ⟨⟨(gm 748 (by decide +kernel) (by decide +kernel)), (gm 76 (by decide +kernel) (by decide +kernel)), ((gm 492 (by decide +kernel) (by decide +kernel))), by decide +kernel, by decide +kernel, by decide +kernel⟩, ⟨(gm 490 (by decide +kernel) (by decide +kernel)), (gm 491 (by decide +kernel) (by decide +kernel))⟩, rfl, by decide⟩
def tb_X2_busMinutes : List (Nat × Instr × Nat) := [(0, .iconst 0, 1), (1, .istore_n 2, 1), (2, .iconst 0, 1), (3, .istore_n 3, 1), (4, .iload_n 3, 1), (5, .aload_n 0, 1), (6, .getfield 31, 3), (9, .if_icmp .ge 39, 3), (12, .iload_n 1, 1), (13, .iload_n 3, 1), (14, .invokestatic 52, 3), (17, .ifCond .eq 25, 3), (20, .iload_n 2, 1), (21, .aload_n 0, 1), (22, .getfield 27, 3), (25, .iload_n 3, 1), (26, .aaload, 1), (27, .invokevirtual 69, 3), (30, .aload_n 0, 1), (31, .getfield 27, 3), (34, .iload_n 3, 1), (35, .aaload, 1), (36, .invokevirtual 73, 3), (39, .imul, 1), (40, .iadd, 1), (41, .istore_n 2, 1), (42, .iinc 3 1, 3), (45, .goto (-41), 3), (48, .iload_n 2, 1), (49, .ireturn, 1)]
def i_X2_busMinutes : MI := (RX2, cX2_busMinutes, 4, (some .int), "busMinutes", { frames := 1, cells := 0, slots := 0, locals := 21 })
theorem D_X2_busMinutes : tbOK (i_X2_busMinutes).2.1 tb_X2_busMinutes := by show ∀ q ∈ tb_X2_busMinutes, decode cX2_busMinutes q.1 = .ok (q.2.1, q.2.2); decide +kernel
def po_X2_busMinutes (S : Sk) (I : II) (r : Int32) : Option LV × Sk × II := (some (vI r), S, I)
def jn_X2_busMinutes_42 (fu : Nat) (S : Sk) (I : II) (self4 : Int32 → Int32 → Option (Int32)) (a0 : Nat) (x1 : Int32) (x2 : Int32) (x3 : Int32) : Option (Int32) :=
  self4 x2 (x3 + (1 : Int32))
def lp_X2_busMinutes_4 (fu : Nat) (S : Sk) (I : II) (a0 : Nat) (x1 : Int32) (self4 : Int32 → Int32 → Option (Int32)) (x2 : Int32) (x3 : Int32) : Option (Int32) :=
  if (I a0 5) ≤ x3 then some (x2) else if (t_X10_has x1 x3) = 0 then jn_X2_busMinutes_42 fu S I self4 a0 x1 x2 x3 else gd (inb S (S.1 a0 4) x3) (gd ((S.1 ((S.1 a0 4) - 1) (nx x3)) ≠ 0) ((f_X1_buses fu S I ((S.1 ((S.1 a0 4) - 1) (nx x3)) - 1)).bind fun q8 => ((f_X1_roundMinutes fu S I ((S.1 ((S.1 a0 4) - 1) (nx x3)) - 1)).bind fun q13 => (lt (x2 + (q8 * q13)) fun x2_16 => (jn_X2_busMinutes_42 fu S I self4 a0 x1 x2_16 x3)))))
def f_X2_busMinutes (fu : Nat) (S : Sk) (I : II) (a0 : Nat) (x1 : Int32) : Option (Int32) :=
  fix2 (lp_X2_busMinutes_4 fu S I a0 x1) fu (0 : Int32) (0 : Int32)
set_option maxRecDepth 100000 in
set_option maxHeartbeats 4000000 in
theorem gg_X2_busMinutes {E : EV} (fu : Nat) (S0 : Sk) (I0 : II) (a0 : Nat) (x1 : Int32) (ht0 : tyO S0 2 a0) : GG E i_X2_busMinutes (enM E i_X2_busMinutes S0 (po_X2_busMinutes S0 I0)) S0 I0 (0, 0) 0 [(0, vA (a0 + 1)), (1, vI x1)] [] (f_X2_busMinutes fu S0 I0 a0 x1) := by
  have hl4 : ∀ (nn : Nat) (x2 : Int32) (x3 : Int32), True → GG E i_X2_busMinutes (enM E i_X2_busMinutes S0 (po_X2_busMinutes S0 I0)) S0 I0 (0, 0) 4 [(0, vA (a0 + 1)), (1, vI x1), (2, vI x2), (3, vI x3)] [] (fix2 (lp_X2_busMinutes_4 fu S0 I0 a0 x1) nn x2 x3) := by
    refine g_fix2 (fun _ _ => S0) (fun _ _ => I0) (fun x2 x3 => [(0, vA (a0 + 1)), (1, vI x1), (2, vI x2), (3, vI x3)]) (fun x2 x3 => True) ?_
    intro self4 hself4 x2 x3 hinv
    have hj42 : ∀ (x2 : Int32) (x3 : Int32), GG E i_X2_busMinutes (enM E i_X2_busMinutes S0 (po_X2_busMinutes S0 I0)) S0 I0 (0, 0) 42 [(0, vA (a0 + 1)), (1, vI x1), (2, vI x2), (3, vI x3)] [] (jn_X2_busMinutes_42 fu S0 I0 self4 a0 x1 x2 x3) := by
      intro x2 x3 
      unfold jn_X2_busMinutes_42
      refine g_iinc (v := (1 : Int32)) (L' := [(0, vA (a0 + 1)), (1, vI x1), (2, vI x2), (3, vI (x3 + (1 : Int32)))]) (dk D_X2_busMinutes 26 rfl) rfl rfl (Nat.le_of_ble_eq_true rfl) rfl ?_
      refine g_goto (tgt := 4) (dk D_X2_busMinutes 27 rfl) rfl ?_
      exact hself4 x2 (x3 + (1 : Int32)) trivial
    unfold lp_X2_busMinutes_4
    refine g_iload_n (dk D_X2_busMinutes 4 rfl) rfl ?_
    refine g_aload_n (dk D_X2_busMinutes 5 rfl) rfl ?_
    refine g_getIt fl_RX2_31 (by decide) ht0 (dk D_X2_busMinutes 6 rfl) ?_
    refine g_icmp_ge (tgt := 48) (dk D_X2_busMinutes 7 rfl) rfl (fun hc1 => ?_) (fun hc1 => ?_)
    · refine g_iload_n (dk D_X2_busMinutes 28 rfl) rfl ?_
      exact g_ireturn rfl rfl Sx.rf rfl (by decide) (by decide) (dk D_X2_busMinutes 29 rfl)
    · refine g_iload_n (dk D_X2_busMinutes 8 rfl) rfl ?_
      refine g_iload_n (dk D_X2_busMinutes 9 rfl) rfl ?_
      refine h_callSN (st := []) (c_X10_has (E := E) S0 I0 x1 x3) cl_RX2_52 rfl rfl (by decide) (Nat.le_of_ble_eq_true rfl) (dk D_X2_busMinutes 10 rfl) ?_
      refine g_if_eq (tgt := 42) (dk D_X2_busMinutes 11 rfl) rfl (fun hc3 => ?_) (fun hc3 => ?_)
      · exact hj42 x2 x3
      · refine g_iload_n (dk D_X2_busMinutes 12 rfl) rfl ?_
        refine g_aload_n (dk D_X2_busMinutes 13 rfl) rfl ?_
        refine g_getAt (t := 111) fl_RX2_27 rfl ht0 (dk D_X2_busMinutes 14 rfl) (fun ht4 => ?_)
        refine g_iload_n (dk D_X2_busMinutes 15 rfl) rfl ?_
        refine g_gd (fun hi5 => ?_)
        refine g_aaload (c0 := 1) (by unfold aoC; decide) ht4 hi5 (dk D_X2_busMinutes 16 rfl) (fun ht6 => ?_)
        refine g_gd (fun hn7 => ?_)
        refine g_bind (fun q8 hq9 => ?_)
        refine h_callV (st := [vI x2]) (c_X1_buses (E := E) fu S0 I0 ((S0.1 ((S0.1 a0 4) - 1) (nx x3)) - 1) q8 hq9 (ht6.nz hn7)) cl_RX2_69 ht6 hn7 rfl rfl (by decide) (Nat.le_of_ble_eq_true rfl) (dk D_X2_busMinutes 17 rfl) ?_
        refine g_aload_n (dk D_X2_busMinutes 18 rfl) rfl ?_
        refine g_getAt (t := 111) fl_RX2_27 rfl ht0 (dk D_X2_busMinutes 19 rfl) (fun ht11 => ?_)
        refine g_iload_n (dk D_X2_busMinutes 20 rfl) rfl ?_
        refine g_aaload (c0 := 1) (by unfold aoC; decide) ht4 hi5 (dk D_X2_busMinutes 21 rfl) (fun ht12 => ?_)
        refine g_bind (fun q13 hq14 => ?_)
        refine h_callV (st := [vI q8, vI x2]) (c_X1_roundMinutes (E := E) fu S0 I0 ((S0.1 ((S0.1 a0 4) - 1) (nx x3)) - 1) q13 hq14 (ht6.nz hn7)) cl_RX2_73 ht6 hn7 rfl rfl (by decide) (Nat.le_of_ble_eq_true rfl) (dk D_X2_busMinutes 22 rfl) ?_
        refine g_imul (dk D_X2_busMinutes 23 rfl) ?_
        refine g_iadd (dk D_X2_busMinutes 24 rfl) ?_
        refine g_ltV (fun x2_16 ex2_16 => ?_)
        refine g_istore_n (L' := [(0, vA (a0 + 1)), (1, vI x1), (2, vI x2_16), (3, vI x3)]) (dk D_X2_busMinutes 25 rfl) (Nat.le_of_ble_eq_true rfl) rfl ?_
        exact hj42 x2_16 x3
  unfold f_X2_busMinutes
  refine g_iconst (v := (0 : Int32)) (dk D_X2_busMinutes 0 rfl) rfl ?_
  refine g_istore_n (L' := [(0, vA (a0 + 1)), (1, vI x1), (2, vI (0 : Int32))]) (dk D_X2_busMinutes 1 rfl) (Nat.le_of_ble_eq_true rfl) rfl ?_
  refine g_iconst (v := (0 : Int32)) (dk D_X2_busMinutes 2 rfl) rfl ?_
  refine g_istore_n (L' := [(0, vA (a0 + 1)), (1, vI x1), (2, vI (0 : Int32)), (3, vI (0 : Int32))]) (dk D_X2_busMinutes 3 rfl) (Nat.le_of_ble_eq_true rfl) rfl ?_
  exact hl4 fu (0 : Int32) (0 : Int32) trivial
theorem c_X2_busMinutes {E : EV} (fu : Nat) (S0 : Sk) (I0 : II) (a0 : Nat) (x1 : Int32) (r : Int32) (h : f_X2_busMinutes fu S0 I0 a0 x1 = some r) (ht0 : tyO S0 2 a0) : MX E yX2_busMinutes i_X2_busMinutes S0 I0 [vA (a0 + 1), vI x1] (po_X2_busMinutes S0 I0 r) :=
  MX.of h (by decide) rfl rfl (Nat.le_of_ble_eq_true rfl) (gg_X2_busMinutes fu S0 I0 a0 x1 ht0)
theorem cl_RX2_76 : CV0 RX2 76 yX1_lastBusAt i_X1_lastBusAt 1 1 := ⟨⟨(gm 860 (by decide +kernel) (by decide +kernel)), (gm 76 (by decide +kernel) (by decide +kernel)), ((gm 863 (by decide +kernel) (by decide +kernel))), by decide +kernel, by decide +kernel, by decide +kernel⟩, ⟨(gm 861 (by decide +kernel) (by decide +kernel)), (gm 862 (by decide +kernel) (by decide +kernel))⟩, rfl, by decide⟩
theorem lk_RX2_79 : Cond.methodLink RX2 79 Lib.Math.max.name ∈ lw_good := (gm 865 (by decide +kernel) (by decide +kernel))
def tb_X2_lastBus : List (Nat × Instr × Nat) := [(0, .iconst 0, 1), (1, .istore_n 3, 1), (2, .iconst 0, 1), (3, .istore 4, 2), (5, .iload 4, 2), (7, .aload_n 0, 1), (8, .getfield 31, 3), (11, .if_icmp .ge 60, 3), (14, .aload_n 0, 1), (15, .getfield 27, 3), (18, .iload 4, 2), (20, .aaload, 1), (21, .iload_n 1, 1), (22, .invokevirtual 63, 3), (25, .istore 5, 2), (27, .iload 5, 2), (29, .bipush (-9), 2), (31, .if_icmp .eq 34, 3), (34, .aload_n 0, 1), (35, .getfield 27, 3), (38, .iload 4, 2), (40, .aaload, 1), (41, .iload_n 2, 1), (42, .invokevirtual 56, 3), (45, .ifCond .eq 20, 3), (48, .iload_n 3, 1), (49, .aload_n 0, 1), (50, .getfield 27, 3), (53, .iload 4, 2), (55, .aaload, 1), (56, .iload 5, 2), (58, .invokevirtual 76, 3), (61, .invokestatic 79, 3), (64, .istore_n 3, 1), (65, .iinc 4 1, 3), (68, .goto (-63), 3), (71, .iload_n 3, 1), (72, .ireturn, 1)]
def i_X2_lastBus : MI := (RX2, cX2_lastBus, 6, (some .int), "lastBus", { frames := 2, cells := 0, slots := 0, locals := 80 })
theorem D_X2_lastBus : tbOK (i_X2_lastBus).2.1 tb_X2_lastBus := by show ∀ q ∈ tb_X2_lastBus, decode cX2_lastBus q.1 = .ok (q.2.1, q.2.2); decide +kernel
def po_X2_lastBus (S : Sk) (I : II) (r : Int32) : Option LV × Sk × II := (some (vI r), S, I)
def jn_X2_lastBus_65 (fu : Nat) (S : Sk) (I : II) (self5 : Int32 → Int32 → Option (Int32)) (a0 : Nat) (x1 : Int32) (x2 : Int32) (x3 : Int32) (x4 : Int32) : Option (Int32) :=
  self5 x3 (x4 + (1 : Int32))
def lp_X2_lastBus_5 (fu : Nat) (S : Sk) (I : II) (a0 : Nat) (x1 : Int32) (x2 : Int32) (self5 : Int32 → Int32 → Option (Int32)) (x3 : Int32) (x4 : Int32) : Option (Int32) :=
  if (I a0 5) ≤ x4 then some (x3) else gd (inb S (S.1 a0 4) x4) (gd ((S.1 ((S.1 a0 4) - 1) (nx x4)) ≠ 0) ((f_X1_placeOf fu S I ((S.1 ((S.1 a0 4) - 1) (nx x4)) - 1) x1).bind fun q6 => (if q6 = ((-9) : Int32) then jn_X2_lastBus_65 fu S I self5 a0 x1 x2 x3 x4 else if (t_X1_goesOn I ((S.1 ((S.1 a0 4) - 1) (nx x4)) - 1) x2) = 0 then jn_X2_lastBus_65 fu S I self5 a0 x1 x2 x3 x4 else (f_X1_lastBusAt fu S I ((S.1 ((S.1 a0 4) - 1) (nx x4)) - 1) q6).bind fun q16 => (lt (jmax x3 q16) fun x3_19 => (jn_X2_lastBus_65 fu S I self5 a0 x1 x2 x3_19 x4)))))
def f_X2_lastBus (fu : Nat) (S : Sk) (I : II) (a0 : Nat) (x1 : Int32) (x2 : Int32) : Option (Int32) :=
  fix2 (lp_X2_lastBus_5 fu S I a0 x1 x2) fu (0 : Int32) (0 : Int32)
set_option maxRecDepth 100000 in
set_option maxHeartbeats 4000000 in
theorem gg_X2_lastBus {E : EV} (fu : Nat) (S0 : Sk) (I0 : II) (a0 : Nat) (x1 : Int32) (x2 : Int32) (ht0 : tyO S0 2 a0) : GG E i_X2_lastBus (enM E i_X2_lastBus S0 (po_X2_lastBus S0 I0)) S0 I0 (0, 0) 0 [(0, vA (a0 + 1)), (1, vI x1), (2, vI x2)] [] (f_X2_lastBus fu S0 I0 a0 x1 x2) := by
  have hl5 : ∀ (nn : Nat) (x3 : Int32) (x4 : Int32), True → GG E i_X2_lastBus (enM E i_X2_lastBus S0 (po_X2_lastBus S0 I0)) S0 I0 (0, 0) 5 [(0, vA (a0 + 1)), (1, vI x1), (2, vI x2), (3, vI x3), (4, vI x4)] [] (fix2 (lp_X2_lastBus_5 fu S0 I0 a0 x1 x2) nn x3 x4) := by
    refine g_fix2 (fun _ _ => S0) (fun _ _ => I0) (fun x3 x4 => [(0, vA (a0 + 1)), (1, vI x1), (2, vI x2), (3, vI x3), (4, vI x4)]) (fun x3 x4 => True) ?_
    intro self5 hself5 x3 x4 hinv
    have hj65 : ∀ (x3 : Int32) (x4 : Int32), GG E i_X2_lastBus (enM E i_X2_lastBus S0 (po_X2_lastBus S0 I0)) S0 I0 (0, 0) 65 [(0, vA (a0 + 1)), (1, vI x1), (2, vI x2), (3, vI x3), (4, vI x4)] [] (jn_X2_lastBus_65 fu S0 I0 self5 a0 x1 x2 x3 x4) := by
      intro x3 x4 
      unfold jn_X2_lastBus_65
      refine g_iinc (v := (1 : Int32)) (L' := [(0, vA (a0 + 1)), (1, vI x1), (2, vI x2), (3, vI x3), (4, vI (x4 + (1 : Int32)))]) (dk D_X2_lastBus 34 rfl) rfl rfl (Nat.le_of_ble_eq_true rfl) rfl ?_
      refine g_goto (tgt := 5) (dk D_X2_lastBus 35 rfl) rfl ?_
      exact hself5 x3 (x4 + (1 : Int32)) trivial
    unfold lp_X2_lastBus_5
    refine g_iload (dk D_X2_lastBus 4 rfl) rfl ?_
    refine g_aload_n (dk D_X2_lastBus 5 rfl) rfl ?_
    refine g_getIt fl_RX2_31 (by decide) ht0 (dk D_X2_lastBus 6 rfl) ?_
    refine g_icmp_ge (tgt := 71) (dk D_X2_lastBus 7 rfl) rfl (fun hc1 => ?_) (fun hc1 => ?_)
    · refine g_iload_n (dk D_X2_lastBus 36 rfl) rfl ?_
      exact g_ireturn rfl rfl Sx.rf rfl (by decide) (by decide) (dk D_X2_lastBus 37 rfl)
    · refine g_aload_n (dk D_X2_lastBus 8 rfl) rfl ?_
      refine g_getAt (t := 111) fl_RX2_27 rfl ht0 (dk D_X2_lastBus 9 rfl) (fun ht2 => ?_)
      refine g_iload (dk D_X2_lastBus 10 rfl) rfl ?_
      refine g_gd (fun hi3 => ?_)
      refine g_aaload (c0 := 1) (by unfold aoC; decide) ht2 hi3 (dk D_X2_lastBus 11 rfl) (fun ht4 => ?_)
      refine g_iload_n (dk D_X2_lastBus 12 rfl) rfl ?_
      refine g_gd (fun hn5 => ?_)
      refine g_bind (fun q6 hq7 => ?_)
      refine h_callV (st := []) (c_X1_placeOf (E := E) fu S0 I0 ((S0.1 ((S0.1 a0 4) - 1) (nx x4)) - 1) x1 q6 hq7 (ht4.nz hn5)) cl_RX2_63 ht4 hn5 rfl rfl (by decide) (Nat.le_of_ble_eq_true rfl) (dk D_X2_lastBus 13 rfl) ?_
      refine g_istore (L' := [(0, vA (a0 + 1)), (1, vI x1), (2, vI x2), (3, vI x3), (4, vI x4), (5, vI q6)]) (dk D_X2_lastBus 14 rfl) (Nat.le_of_ble_eq_true rfl) rfl ?_
      refine g_iload (dk D_X2_lastBus 15 rfl) rfl ?_
      refine g_bipush (v := ((-9) : Int32)) (dk D_X2_lastBus 16 rfl) rfl ?_
      refine g_icmp_eq (tgt := 65) (dk D_X2_lastBus 17 rfl) rfl (fun hc9 => ?_) (fun hc9 => ?_)
      · refine g_Lp [0, 1, 2, 3, 4] rfl ?_
        exact hj65 x3 x4
      · refine g_aload_n (dk D_X2_lastBus 18 rfl) rfl ?_
        refine g_getAt (t := 111) fl_RX2_27 rfl ht0 (dk D_X2_lastBus 19 rfl) (fun ht10 => ?_)
        refine g_iload (dk D_X2_lastBus 20 rfl) rfl ?_
        refine g_aaload (c0 := 1) (by unfold aoC; decide) ht2 hi3 (dk D_X2_lastBus 21 rfl) (fun ht11 => ?_)
        refine g_iload_n (dk D_X2_lastBus 22 rfl) rfl ?_
        refine h_callV (st := []) (c_X1_goesOn (E := E) S0 I0 ((S0.1 ((S0.1 a0 4) - 1) (nx x4)) - 1) x2 (ht4.nz hn5)) cl_RX2_56 ht4 hn5 rfl rfl (by decide) (Nat.le_of_ble_eq_true rfl) (dk D_X2_lastBus 23 rfl) ?_
        refine g_if_eq (tgt := 65) (dk D_X2_lastBus 24 rfl) rfl (fun hc13 => ?_) (fun hc13 => ?_)
        · refine g_Lp [0, 1, 2, 3, 4] rfl ?_
          exact hj65 x3 x4
        · refine g_iload_n (dk D_X2_lastBus 25 rfl) rfl ?_
          refine g_aload_n (dk D_X2_lastBus 26 rfl) rfl ?_
          refine g_getAt (t := 111) fl_RX2_27 rfl ht0 (dk D_X2_lastBus 27 rfl) (fun ht14 => ?_)
          refine g_iload (dk D_X2_lastBus 28 rfl) rfl ?_
          refine g_aaload (c0 := 1) (by unfold aoC; decide) ht2 hi3 (dk D_X2_lastBus 29 rfl) (fun ht15 => ?_)
          refine g_iload (dk D_X2_lastBus 30 rfl) rfl ?_
          refine g_bind (fun q16 hq17 => ?_)
          refine h_callV (st := [vI x3]) (c_X1_lastBusAt (E := E) fu S0 I0 ((S0.1 ((S0.1 a0 4) - 1) (nx x4)) - 1) q6 q16 hq17 (ht4.nz hn5)) cl_RX2_76 ht4 hn5 rfl rfl (by decide) (Nat.le_of_ble_eq_true rfl) (dk D_X2_lastBus 31 rfl) ?_
          refine g_mmax lk_RX2_79 lk_mmax (by decide) (Nat.le_of_ble_eq_true rfl) (by decide) (by decide) (dk D_X2_lastBus 32 rfl) ?_
          refine g_ltV (fun x3_19 ex3_19 => ?_)
          refine g_istore_n (L' := [(0, vA (a0 + 1)), (1, vI x1), (2, vI x2), (3, vI x3_19), (4, vI x4), (5, vI q6)]) (dk D_X2_lastBus 33 rfl) (Nat.le_of_ble_eq_true rfl) rfl ?_
          refine g_Lp [0, 1, 2, 3, 4] rfl ?_
          exact hj65 x3_19 x4
  unfold f_X2_lastBus
  refine g_iconst (v := (0 : Int32)) (dk D_X2_lastBus 0 rfl) rfl ?_
  refine g_istore_n (L' := [(0, vA (a0 + 1)), (1, vI x1), (2, vI x2), (3, vI (0 : Int32))]) (dk D_X2_lastBus 1 rfl) (Nat.le_of_ble_eq_true rfl) rfl ?_
  refine g_iconst (v := (0 : Int32)) (dk D_X2_lastBus 2 rfl) rfl ?_
  refine g_istore (L' := [(0, vA (a0 + 1)), (1, vI x1), (2, vI x2), (3, vI (0 : Int32)), (4, vI (0 : Int32))]) (dk D_X2_lastBus 3 rfl) (Nat.le_of_ble_eq_true rfl) rfl ?_
  exact hl5 fu (0 : Int32) (0 : Int32) trivial
theorem c_X2_lastBus {E : EV} (fu : Nat) (S0 : Sk) (I0 : II) (a0 : Nat) (x1 : Int32) (x2 : Int32) (r : Int32) (h : f_X2_lastBus fu S0 I0 a0 x1 x2 = some r) (ht0 : tyO S0 2 a0) : MX E yX2_lastBus i_X2_lastBus S0 I0 [vA (a0 + 1), vI x1, vI x2] (po_X2_lastBus S0 I0 r) :=
  MX.of h (by decide) rfl rfl (Nat.le_of_ble_eq_true rfl) (gg_X2_lastBus fu S0 I0 a0 x1 x2 ht0)
theorem fl_RX2_84 : FL RX2 84 1 2 := ⟨RX1, TX1, 11, rfl, by decide, rfl, by decide, (gm 426 (by decide +kernel) (by decide +kernel)), inG1⟩
theorem fl_RX2_87 : FL RX2 87 1 7 := ⟨RX1, TX1, 11, rfl, by decide, rfl, by decide, (gm 440 (by decide +kernel) (by decide +kernel)), inG1⟩
theorem lk_RX2_90 : Cond.methodLink RX2 90 Lib.Math.min.name ∈ lw_good := (gm 871 (by decide +kernel) (by decide +kernel))
theorem lk_RX2_83 : Cond.constant RX2 83 (1073741824 : Int32) ∈ lw_good := (gm 870 (by decide +kernel) (by decide +kernel))
def tb_X2_firstBus : List (Nat × Instr × Nat) := [(0, .ldc 83, 2), (2, .istore_n 3, 1), (3, .iconst 0, 1), (4, .istore 4, 2), (6, .iload 4, 2), (8, .aload_n 0, 1), (9, .getfield 31, 3), (12, .if_icmp .ge 72, 3), (15, .aload_n 0, 1), (16, .getfield 27, 3), (19, .iload 4, 2), (21, .aaload, 1), (22, .iload_n 1, 1), (23, .invokevirtual 63, 3), (26, .istore 5, 2), (28, .iload 5, 2), (30, .bipush (-9), 2), (32, .if_icmp .eq 46, 3), (35, .aload_n 0, 1), (36, .getfield 27, 3), (39, .iload 4, 2), (41, .aaload, 1), (42, .iload_n 2, 1), (43, .invokevirtual 56, 3), (46, .ifCond .eq 32, 3), (49, .iload_n 3, 1), (50, .aload_n 0, 1), (51, .getfield 27, 3), (54, .iload 4, 2), (56, .aaload, 1), (57, .getfield 84, 3), (60, .aload_n 0, 1), (61, .getfield 27, 3), (64, .iload 4, 2), (66, .aaload, 1), (67, .getfield 87, 3), (70, .iload 5, 2), (72, .iaload, 1), (73, .iadd, 1), (74, .invokestatic 90, 3), (77, .istore_n 3, 1), (78, .iinc 4 1, 3), (81, .goto (-75), 3), (84, .iload_n 3, 1), (85, .ireturn, 1)]
def i_X2_firstBus : MI := (RX2, cX2_firstBus, 6, (some .int), "firstBus", { frames := 1, cells := 0, slots := 0, locals := 80 })
theorem D_X2_firstBus : tbOK (i_X2_firstBus).2.1 tb_X2_firstBus := by show ∀ q ∈ tb_X2_firstBus, decode cX2_firstBus q.1 = .ok (q.2.1, q.2.2); decide +kernel
def po_X2_firstBus (S : Sk) (I : II) (r : Int32) : Option LV × Sk × II := (some (vI r), S, I)
def jn_X2_firstBus_78 (fu : Nat) (S : Sk) (I : II) (self6 : Int32 → Int32 → Option (Int32)) (a0 : Nat) (x1 : Int32) (x2 : Int32) (x3 : Int32) (x4 : Int32) : Option (Int32) :=
  self6 x3 (x4 + (1 : Int32))
def lp_X2_firstBus_6 (fu : Nat) (S : Sk) (I : II) (a0 : Nat) (x1 : Int32) (x2 : Int32) (self6 : Int32 → Int32 → Option (Int32)) (x3 : Int32) (x4 : Int32) : Option (Int32) :=
  if (I a0 5) ≤ x4 then some (x3) else gd (inb S (S.1 a0 4) x4) (gd ((S.1 ((S.1 a0 4) - 1) (nx x4)) ≠ 0) ((f_X1_placeOf fu S I ((S.1 ((S.1 a0 4) - 1) (nx x4)) - 1) x1).bind fun q6 => (if q6 = ((-9) : Int32) then jn_X2_firstBus_78 fu S I self6 a0 x1 x2 x3 x4 else if (t_X1_goesOn I ((S.1 ((S.1 a0 4) - 1) (nx x4)) - 1) x2) = 0 then jn_X2_firstBus_78 fu S I self6 a0 x1 x2 x3 x4 else gd (inb S (S.1 ((S.1 ((S.1 a0 4) - 1) (nx x4)) - 1) 7) q6) (lt (jmin x3 ((I ((S.1 ((S.1 a0 4) - 1) (nx x4)) - 1) 2) + (rd I (S.1 ((S.1 ((S.1 a0 4) - 1) (nx x4)) - 1) 7) q6))) fun x3_20 => (jn_X2_firstBus_78 fu S I self6 a0 x1 x2 x3_20 x4)))))
def f_X2_firstBus (fu : Nat) (S : Sk) (I : II) (a0 : Nat) (x1 : Int32) (x2 : Int32) : Option (Int32) :=
  fix2 (lp_X2_firstBus_6 fu S I a0 x1 x2) fu (1073741824 : Int32) (0 : Int32)
set_option maxRecDepth 100000 in
set_option maxHeartbeats 4000000 in
theorem gg_X2_firstBus {E : EV} (fu : Nat) (S0 : Sk) (I0 : II) (a0 : Nat) (x1 : Int32) (x2 : Int32) (ht0 : tyO S0 2 a0) : GG E i_X2_firstBus (enM E i_X2_firstBus S0 (po_X2_firstBus S0 I0)) S0 I0 (0, 0) 0 [(0, vA (a0 + 1)), (1, vI x1), (2, vI x2)] [] (f_X2_firstBus fu S0 I0 a0 x1 x2) := by
  have hl6 : ∀ (nn : Nat) (x3 : Int32) (x4 : Int32), True → GG E i_X2_firstBus (enM E i_X2_firstBus S0 (po_X2_firstBus S0 I0)) S0 I0 (0, 0) 6 [(0, vA (a0 + 1)), (1, vI x1), (2, vI x2), (3, vI x3), (4, vI x4)] [] (fix2 (lp_X2_firstBus_6 fu S0 I0 a0 x1 x2) nn x3 x4) := by
    refine g_fix2 (fun _ _ => S0) (fun _ _ => I0) (fun x3 x4 => [(0, vA (a0 + 1)), (1, vI x1), (2, vI x2), (3, vI x3), (4, vI x4)]) (fun x3 x4 => True) ?_
    intro self6 hself6 x3 x4 hinv
    have hj78 : ∀ (x3 : Int32) (x4 : Int32), GG E i_X2_firstBus (enM E i_X2_firstBus S0 (po_X2_firstBus S0 I0)) S0 I0 (0, 0) 78 [(0, vA (a0 + 1)), (1, vI x1), (2, vI x2), (3, vI x3), (4, vI x4)] [] (jn_X2_firstBus_78 fu S0 I0 self6 a0 x1 x2 x3 x4) := by
      intro x3 x4 
      unfold jn_X2_firstBus_78
      refine g_iinc (v := (1 : Int32)) (L' := [(0, vA (a0 + 1)), (1, vI x1), (2, vI x2), (3, vI x3), (4, vI (x4 + (1 : Int32)))]) (dk D_X2_firstBus 41 rfl) rfl rfl (Nat.le_of_ble_eq_true rfl) rfl ?_
      refine g_goto (tgt := 6) (dk D_X2_firstBus 42 rfl) rfl ?_
      exact hself6 x3 (x4 + (1 : Int32)) trivial
    unfold lp_X2_firstBus_6
    refine g_iload (dk D_X2_firstBus 4 rfl) rfl ?_
    refine g_aload_n (dk D_X2_firstBus 5 rfl) rfl ?_
    refine g_getIt fl_RX2_31 (by decide) ht0 (dk D_X2_firstBus 6 rfl) ?_
    refine g_icmp_ge (tgt := 84) (dk D_X2_firstBus 7 rfl) rfl (fun hc1 => ?_) (fun hc1 => ?_)
    · refine g_iload_n (dk D_X2_firstBus 43 rfl) rfl ?_
      exact g_ireturn rfl rfl Sx.rf rfl (by decide) (by decide) (dk D_X2_firstBus 44 rfl)
    · refine g_aload_n (dk D_X2_firstBus 8 rfl) rfl ?_
      refine g_getAt (t := 111) fl_RX2_27 rfl ht0 (dk D_X2_firstBus 9 rfl) (fun ht2 => ?_)
      refine g_iload (dk D_X2_firstBus 10 rfl) rfl ?_
      refine g_gd (fun hi3 => ?_)
      refine g_aaload (c0 := 1) (by unfold aoC; decide) ht2 hi3 (dk D_X2_firstBus 11 rfl) (fun ht4 => ?_)
      refine g_iload_n (dk D_X2_firstBus 12 rfl) rfl ?_
      refine g_gd (fun hn5 => ?_)
      refine g_bind (fun q6 hq7 => ?_)
      refine h_callV (st := []) (c_X1_placeOf (E := E) fu S0 I0 ((S0.1 ((S0.1 a0 4) - 1) (nx x4)) - 1) x1 q6 hq7 (ht4.nz hn5)) cl_RX2_63 ht4 hn5 rfl rfl (by decide) (Nat.le_of_ble_eq_true rfl) (dk D_X2_firstBus 13 rfl) ?_
      refine g_istore (L' := [(0, vA (a0 + 1)), (1, vI x1), (2, vI x2), (3, vI x3), (4, vI x4), (5, vI q6)]) (dk D_X2_firstBus 14 rfl) (Nat.le_of_ble_eq_true rfl) rfl ?_
      refine g_iload (dk D_X2_firstBus 15 rfl) rfl ?_
      refine g_bipush (v := ((-9) : Int32)) (dk D_X2_firstBus 16 rfl) rfl ?_
      refine g_icmp_eq (tgt := 78) (dk D_X2_firstBus 17 rfl) rfl (fun hc9 => ?_) (fun hc9 => ?_)
      · refine g_Lp [0, 1, 2, 3, 4] rfl ?_
        exact hj78 x3 x4
      · refine g_aload_n (dk D_X2_firstBus 18 rfl) rfl ?_
        refine g_getAt (t := 111) fl_RX2_27 rfl ht0 (dk D_X2_firstBus 19 rfl) (fun ht10 => ?_)
        refine g_iload (dk D_X2_firstBus 20 rfl) rfl ?_
        refine g_aaload (c0 := 1) (by unfold aoC; decide) ht2 hi3 (dk D_X2_firstBus 21 rfl) (fun ht11 => ?_)
        refine g_iload_n (dk D_X2_firstBus 22 rfl) rfl ?_
        refine h_callV (st := []) (c_X1_goesOn (E := E) S0 I0 ((S0.1 ((S0.1 a0 4) - 1) (nx x4)) - 1) x2 (ht4.nz hn5)) cl_RX2_56 ht4 hn5 rfl rfl (by decide) (Nat.le_of_ble_eq_true rfl) (dk D_X2_firstBus 23 rfl) ?_
        refine g_if_eq (tgt := 78) (dk D_X2_firstBus 24 rfl) rfl (fun hc13 => ?_) (fun hc13 => ?_)
        · refine g_Lp [0, 1, 2, 3, 4] rfl ?_
          exact hj78 x3 x4
        · refine g_iload_n (dk D_X2_firstBus 25 rfl) rfl ?_
          refine g_aload_n (dk D_X2_firstBus 26 rfl) rfl ?_
          refine g_getAt (t := 111) fl_RX2_27 rfl ht0 (dk D_X2_firstBus 27 rfl) (fun ht14 => ?_)
          refine g_iload (dk D_X2_firstBus 28 rfl) rfl ?_
          refine g_aaload (c0 := 1) (by unfold aoC; decide) ht2 hi3 (dk D_X2_firstBus 29 rfl) (fun ht15 => ?_)
          refine g_getI fl_RX2_84 (by decide) ht4 hn5 (dk D_X2_firstBus 30 rfl) ?_
          refine g_aload_n (dk D_X2_firstBus 31 rfl) rfl ?_
          refine g_getAt (t := 111) fl_RX2_27 rfl ht0 (dk D_X2_firstBus 32 rfl) (fun ht16 => ?_)
          refine g_iload (dk D_X2_firstBus 33 rfl) rfl ?_
          refine g_aaload (c0 := 1) (by unfold aoC; decide) ht2 hi3 (dk D_X2_firstBus 34 rfl) (fun ht17 => ?_)
          refine g_getA (t := 100) fl_RX2_87 rfl ht4 hn5 (dk D_X2_firstBus 35 rfl) (fun ht18 => ?_)
          refine g_iload (dk D_X2_firstBus 36 rfl) rfl ?_
          refine g_gd (fun hi19 => ?_)
          refine g_iaload ht18 hi19 (dk D_X2_firstBus 37 rfl) ?_
          refine g_iadd (dk D_X2_firstBus 38 rfl) ?_
          refine g_mmin lk_RX2_90 lk_mmin (by decide) (Nat.le_of_ble_eq_true rfl) (by decide) (by decide) (dk D_X2_firstBus 39 rfl) ?_
          refine g_ltV (fun x3_20 ex3_20 => ?_)
          refine g_istore_n (L' := [(0, vA (a0 + 1)), (1, vI x1), (2, vI x2), (3, vI x3_20), (4, vI x4), (5, vI q6)]) (dk D_X2_firstBus 40 rfl) (Nat.le_of_ble_eq_true rfl) rfl ?_
          refine g_Lp [0, 1, 2, 3, 4] rfl ?_
          exact hj78 x3_20 x4
  unfold f_X2_firstBus
  refine g_ldc (dk D_X2_firstBus 0 rfl) lk_RX2_83 ?_
  refine g_istore_n (L' := [(0, vA (a0 + 1)), (1, vI x1), (2, vI x2), (3, vI (1073741824 : Int32))]) (dk D_X2_firstBus 1 rfl) (Nat.le_of_ble_eq_true rfl) rfl ?_
  refine g_iconst (v := (0 : Int32)) (dk D_X2_firstBus 2 rfl) rfl ?_
  refine g_istore (L' := [(0, vA (a0 + 1)), (1, vI x1), (2, vI x2), (3, vI (1073741824 : Int32)), (4, vI (0 : Int32))]) (dk D_X2_firstBus 3 rfl) (Nat.le_of_ble_eq_true rfl) rfl ?_
  exact hl6 fu (1073741824 : Int32) (0 : Int32) trivial
theorem c_X2_firstBus {E : EV} (fu : Nat) (S0 : Sk) (I0 : II) (a0 : Nat) (x1 : Int32) (x2 : Int32) (r : Int32) (h : f_X2_firstBus fu S0 I0 a0 x1 x2 = some r) (ht0 : tyO S0 2 a0) : MX E yX2_firstBus i_X2_firstBus S0 I0 [vA (a0 + 1), vI x1, vI x2] (po_X2_firstBus S0 I0 r) :=
  MX.of h (by decide) rfl rfl (Nat.le_of_ble_eq_true rfl) (gg_X2_firstBus fu S0 I0 a0 x1 x2 ht0)
theorem lk_RX3_3 : Cond.methodLink RX3 3 Lib.objectInit ∈ lw_good := (gm 211 (by decide +kernel) (by decide +kernel))
theorem fl_RX3_9 : FL RX3 9 3 1 := ⟨RX3, TX3, 8, rfl, by decide, rfl, by decide, (gm 214 (by decide +kernel) (by decide +kernel)), inG3⟩
theorem fp_3_1 : FP 3 1 (tyX3 1) true := ⟨RX3, TX3, 8, tyX3, rfl, tyX3_ok, nmX3, rfl, rfl, rfl⟩
theorem ff_RX3 : FI RX3 "<init>" 3 true := fun _ => ⟨rfl, fun q h => by cases h; rfl⟩
theorem fl_RX3_15 : FL RX3 15 3 2 := ⟨RX3, TX3, 8, rfl, by decide, rfl, by decide, (gm 215 (by decide +kernel) (by decide +kernel)), inG3⟩
theorem fp_3_2 : FP 3 2 (tyX3 2) true := ⟨RX3, TX3, 8, tyX3, rfl, tyX3_ok, nmX3, rfl, rfl, rfl⟩
theorem fl_RX3_18 : FL RX3 18 3 3 := ⟨RX3, TX3, 8, rfl, by decide, rfl, by decide, (gm 216 (by decide +kernel) (by decide +kernel)), inG3⟩
theorem fp_3_3 : FP 3 3 (tyX3 3) true := ⟨RX3, TX3, 8, tyX3, rfl, tyX3_ok, nmX3, rfl, rfl, rfl⟩
theorem fl_RX3_21 : FL RX3 21 3 4 := ⟨RX3, TX3, 8, rfl, by decide, rfl, by decide, (gm 217 (by decide +kernel) (by decide +kernel)), inG3⟩
theorem fp_3_4 : FP 3 4 (tyX3 4) true := ⟨RX3, TX3, 8, tyX3, rfl, tyX3_ok, nmX3, rfl, rfl, rfl⟩
theorem fl_RX3_24 : FL RX3 24 3 5 := ⟨RX3, TX3, 8, rfl, by decide, rfl, by decide, (gm 218 (by decide +kernel) (by decide +kernel)), inG3⟩
theorem fp_3_5 : FP 3 5 (tyX3 5) false := ⟨RX3, TX3, 8, tyX3, rfl, tyX3_ok, nmX3, rfl, rfl, rfl⟩
theorem fl_RX3_28 : FL RX3 28 3 6 := ⟨RX3, TX3, 8, rfl, by decide, rfl, by decide, (gm 219 (by decide +kernel) (by decide +kernel)), inG3⟩
theorem fp_3_6 : FP 3 6 (tyX3 6) true := ⟨RX3, TX3, 8, tyX3, rfl, tyX3_ok, nmX3, rfl, rfl, rfl⟩
theorem lk_RX3_31 : Cond.constant RX3 31 (1073741824 : Int32) ∈ lw_good := (gm 212 (by decide +kernel) (by decide +kernel))
theorem fl_RX3_32 : FL RX3 32 3 7 := ⟨RX3, TX3, 8, rfl, by decide, rfl, by decide, (gm 221 (by decide +kernel) (by decide +kernel)), inG3⟩
theorem fp_3_7 : FP 3 7 (tyX3 7) false := ⟨RX3, TX3, 8, tyX3, rfl, tyX3_ok, nmX3, rfl, rfl, rfl⟩
theorem fl_RX3_35 : FL RX3 35 3 0 := ⟨RX3, TX3, 8, rfl, by decide, rfl, by decide, (gm 213 (by decide +kernel) (by decide +kernel)), inG3⟩
theorem fp_3_0 : FP 3 0 (tyX3 0) true := ⟨RX3, TX3, 8, tyX3, rfl, tyX3_ok, nmX3, rfl, rfl, rfl⟩
def tb_X3_init : List (Nat × Instr × Nat) := [(0, .aload_n 0, 1), (1, .invokespecial 3, 3), (4, .aload_n 0, 1), (5, .bipush 6, 2), (7, .newarray .int, 2), (9, .putfield 9, 3), (12, .aload_n 0, 1), (13, .bipush 6, 2), (15, .newarray .int, 2), (17, .putfield 15, 3), (20, .aload_n 0, 1), (21, .bipush 6, 2), (23, .newarray .int, 2), (25, .putfield 18, 3), (28, .aload_n 0, 1), (29, .bipush 6, 2), (31, .newarray .int, 2), (33, .putfield 21, 3), (36, .aload_n 0, 1), (37, .iconst 0, 1), (38, .putfield 24, 3), (41, .aload_n 0, 1), (42, .bipush 6, 2), (44, .newarray .int, 2), (46, .putfield 28, 3), (49, .aload_n 0, 1), (50, .ldc 31, 2), (52, .putfield 32, 3), (55, .aload_n 0, 1), (56, .aload_n 1, 1), (57, .putfield 35, 3), (60, .return_, 1)]
def i_X3_init : MI := (RX3, cX3_init, 2, none, "<init>", { frames := 1, cells := 5, slots := 30, locals := 80 })
theorem D_X3_init : tbOK (i_X3_init).2.1 tb_X3_init := by show ∀ q ∈ tb_X3_init, decode cX3_init q.1 = .ok (q.2.1, q.2.2); decide +kernel
def po_X3_init (S : Sk) (I : II) (r : Sk × II) : Option LV × Sk × II := (none, r.1, r.2)
def f_X3_init (fu : Nat) (S : Sk) (I : II) (a0 : Nat) (r1 : Nat) : Option (Sk × II) :=
  lt (nwS S 100 (nx (6 : Int32))) fun S1 => (lt (nwI S I) fun I2 => (lt (upP S1 a0 1 (S.2.2.2 + 1)) fun S8 => (lt (nwS S8 100 (nx (6 : Int32))) fun S14 => (lt (nwI S8 I2) fun I15 => (lt (upP S14 a0 2 (S8.2.2.2 + 1)) fun S22 => (lt (nwS S22 100 (nx (6 : Int32))) fun S29 => (lt (nwI S22 I15) fun I30 => (lt (upP S29 a0 3 (S22.2.2.2 + 1)) fun S38 => (lt (nwS S38 100 (nx (6 : Int32))) fun S46 => (lt (nwI S38 I30) fun I47 => (lt (upP S46 a0 4 (S38.2.2.2 + 1)) fun S56 => (lt (upI I47 a0 5 (0 : Int32)) fun I65 => (lt (nwS S56 100 (nx (6 : Int32))) fun S66 => (lt (nwI S56 I65) fun I67 => (lt (upP S66 a0 6 (S56.2.2.2 + 1)) fun S77 => (lt (upI I67 a0 7 (1073741824 : Int32)) fun I87 => (lt (upP S77 a0 0 r1) fun S88 => (some ((S88, I87))))))))))))))))))))
set_option maxRecDepth 100000 in
set_option maxHeartbeats 4000000 in
theorem gg_X3_init {E : EV} (fu : Nat) (S0 : Sk) (I0 : II) (a0 : Nat) (r1 : Nat) (ht0 : tyO S0 3 a0) (h_r1 : tyR S0 2 r1) : GG E i_X3_init (enM E i_X3_init S0 (po_X3_init S0 I0)) S0 I0 (0, 0) 0 [(0, vA (a0 + 1)), (1, vA r1)] [] (f_X3_init fu S0 I0 a0 r1) := by
  unfold f_X3_init
  refine g_aload_n (dk D_X3_init 0 rfl) rfl ?_
  refine g_objInit lk_RX3_3 lk_oi lk_oc (Nat.succ_ne_zero _) (by decide) (by rw [wid_sum]; exact Nat.le_of_ble_eq_true rfl) (dk D_X3_init 1 rfl) ?_
  refine g_aload_n (dk D_X3_init 2 rfl) rfl ?_
  refine g_bipush (v := (6 : Int32)) (dk D_X3_init 3 rfl) rfl ?_
  refine g_newarray (by decide) (by decide) (by show 0 + 1 ≤ 5; omega) (by show 0 + 6 ≤ 30; omega) lk_arr (dk D_X3_init 4 rfl) ?_
  refine g_wide (cs' := (1, 6)) (by show 0 + 1 ≤ 1; omega) (by show 0 + 6 ≤ 6; omega) ?_
  refine g_ltS (fun S1 eS1 => ?_)
  refine g_ltI (fun I2 eI2 => ?_)
  have hx3 : Sx S0 S1 := eS1 ▸ nwS_x
  have ht4 := h_r1.x hx3
  have ht5 := ht0.x hx3
  have hsx6 := Sx.tr Sx.rf hx3
  have ht7 : tyR S1 100 (S0.2.2.2 + 1) := eS1 ▸ nwS_ty.R
  refine g_putAt (t := 100) fl_RX3_9 fp_3_1 ff_RX3 rfl (Or.inr ⟨_, rfl⟩) ht7 ht5 (dk D_X3_init 5 rfl) ?_
  refine g_ltS (fun S8 eS8 => ?_)
  have hx9 : Sx S1 S8 := eS8 ▸ upP_x
  have ht10 := ht4.x hx9
  have ht11 := ht7.x hx9
  have ht12 := ht5.x hx9
  have hsx13 := Sx.tr hsx6 hx9
  refine g_aload_n (dk D_X3_init 6 rfl) rfl ?_
  refine g_bipush (v := (6 : Int32)) (dk D_X3_init 7 rfl) rfl ?_
  refine g_newarray (by decide) (by decide) (by show 1 + 1 ≤ 5; omega) (by show 6 + 6 ≤ 30; omega) lk_arr (dk D_X3_init 8 rfl) ?_
  refine g_wide (cs' := (2, 12)) (by show 1 + 1 ≤ 2; omega) (by show 6 + 6 ≤ 12; omega) ?_
  refine g_ltS (fun S14 eS14 => ?_)
  refine g_ltI (fun I15 eI15 => ?_)
  have hx16 : Sx S8 S14 := eS14 ▸ nwS_x
  have ht17 := ht10.x hx16
  have ht18 := ht11.x hx16
  have ht19 := ht12.x hx16
  have hsx20 := Sx.tr hsx13 hx16
  have ht21 : tyR S14 100 (S8.2.2.2 + 1) := eS14 ▸ nwS_ty.R
  refine g_putAt (t := 100) fl_RX3_15 fp_3_2 ff_RX3 rfl (Or.inr ⟨_, rfl⟩) ht21 ht19 (dk D_X3_init 9 rfl) ?_
  refine g_ltS (fun S22 eS22 => ?_)
  have hx23 : Sx S14 S22 := eS22 ▸ upP_x
  have ht24 := ht17.x hx23
  have ht25 := ht18.x hx23
  have ht26 := ht21.x hx23
  have ht27 := ht19.x hx23
  have hsx28 := Sx.tr hsx20 hx23
  refine g_aload_n (dk D_X3_init 10 rfl) rfl ?_
  refine g_bipush (v := (6 : Int32)) (dk D_X3_init 11 rfl) rfl ?_
  refine g_newarray (by decide) (by decide) (by show 2 + 1 ≤ 5; omega) (by show 12 + 6 ≤ 30; omega) lk_arr (dk D_X3_init 12 rfl) ?_
  refine g_wide (cs' := (3, 18)) (by show 2 + 1 ≤ 3; omega) (by show 12 + 6 ≤ 18; omega) ?_
  refine g_ltS (fun S29 eS29 => ?_)
  refine g_ltI (fun I30 eI30 => ?_)
  have hx31 : Sx S22 S29 := eS29 ▸ nwS_x
  have ht32 := ht24.x hx31
  have ht33 := ht25.x hx31
  have ht34 := ht26.x hx31
  have ht35 := ht27.x hx31
  have hsx36 := Sx.tr hsx28 hx31
  have ht37 : tyR S29 100 (S22.2.2.2 + 1) := eS29 ▸ nwS_ty.R
  refine g_putAt (t := 100) fl_RX3_18 fp_3_3 ff_RX3 rfl (Or.inr ⟨_, rfl⟩) ht37 ht35 (dk D_X3_init 13 rfl) ?_
  refine g_ltS (fun S38 eS38 => ?_)
  have hx39 : Sx S29 S38 := eS38 ▸ upP_x
  have ht40 := ht32.x hx39
  have ht41 := ht33.x hx39
  have ht42 := ht34.x hx39
  have ht43 := ht37.x hx39
  have ht44 := ht35.x hx39
  have hsx45 := Sx.tr hsx36 hx39
  refine g_aload_n (dk D_X3_init 14 rfl) rfl ?_
  refine g_bipush (v := (6 : Int32)) (dk D_X3_init 15 rfl) rfl ?_
  refine g_newarray (by decide) (by decide) (by show 3 + 1 ≤ 5; omega) (by show 18 + 6 ≤ 30; omega) lk_arr (dk D_X3_init 16 rfl) ?_
  refine g_wide (cs' := (4, 24)) (by show 3 + 1 ≤ 4; omega) (by show 18 + 6 ≤ 24; omega) ?_
  refine g_ltS (fun S46 eS46 => ?_)
  refine g_ltI (fun I47 eI47 => ?_)
  have hx48 : Sx S38 S46 := eS46 ▸ nwS_x
  have ht49 := ht40.x hx48
  have ht50 := ht41.x hx48
  have ht51 := ht42.x hx48
  have ht52 := ht43.x hx48
  have ht53 := ht44.x hx48
  have hsx54 := Sx.tr hsx45 hx48
  have ht55 : tyR S46 100 (S38.2.2.2 + 1) := eS46 ▸ nwS_ty.R
  refine g_putAt (t := 100) fl_RX3_21 fp_3_4 ff_RX3 rfl (Or.inr ⟨_, rfl⟩) ht55 ht53 (dk D_X3_init 17 rfl) ?_
  refine g_ltS (fun S56 eS56 => ?_)
  have hx57 : Sx S46 S56 := eS56 ▸ upP_x
  have ht58 := ht49.x hx57
  have ht59 := ht50.x hx57
  have ht60 := ht51.x hx57
  have ht61 := ht52.x hx57
  have ht62 := ht55.x hx57
  have ht63 := ht53.x hx57
  have hsx64 := Sx.tr hsx54 hx57
  refine g_aload_n (dk D_X3_init 18 rfl) rfl ?_
  refine g_iconst (v := (0 : Int32)) (dk D_X3_init 19 rfl) rfl ?_
  refine g_putIt fl_RX3_24 fp_3_5 (fun h => (by cases h)) (by decide) rfl rfl ht63 (dk D_X3_init 20 rfl) ?_
  refine g_ltI (fun I65 eI65 => ?_)
  refine g_aload_n (dk D_X3_init 21 rfl) rfl ?_
  refine g_bipush (v := (6 : Int32)) (dk D_X3_init 22 rfl) rfl ?_
  refine g_newarray (by decide) (by decide) (by show 4 + 1 ≤ 5; omega) (by show 24 + 6 ≤ 30; omega) lk_arr (dk D_X3_init 23 rfl) ?_
  refine g_wide (cs' := (5, 30)) (by show 4 + 1 ≤ 5; omega) (by show 24 + 6 ≤ 30; omega) ?_
  refine g_ltS (fun S66 eS66 => ?_)
  refine g_ltI (fun I67 eI67 => ?_)
  have hx68 : Sx S56 S66 := eS66 ▸ nwS_x
  have ht69 := ht58.x hx68
  have ht70 := ht59.x hx68
  have ht71 := ht60.x hx68
  have ht72 := ht61.x hx68
  have ht73 := ht62.x hx68
  have ht74 := ht63.x hx68
  have hsx75 := Sx.tr hsx64 hx68
  have ht76 : tyR S66 100 (S56.2.2.2 + 1) := eS66 ▸ nwS_ty.R
  refine g_putAt (t := 100) fl_RX3_28 fp_3_6 ff_RX3 rfl (Or.inr ⟨_, rfl⟩) ht76 ht74 (dk D_X3_init 24 rfl) ?_
  refine g_ltS (fun S77 eS77 => ?_)
  have hx78 : Sx S66 S77 := eS77 ▸ upP_x
  have ht79 := ht69.x hx78
  have ht80 := ht70.x hx78
  have ht81 := ht71.x hx78
  have ht82 := ht72.x hx78
  have ht83 := ht73.x hx78
  have ht84 := ht76.x hx78
  have ht85 := ht74.x hx78
  have hsx86 := Sx.tr hsx75 hx78
  refine g_aload_n (dk D_X3_init 25 rfl) rfl ?_
  refine g_ldc (dk D_X3_init 26 rfl) lk_RX3_31 ?_
  refine g_putIt fl_RX3_32 fp_3_7 (fun h => (by cases h)) (by decide) rfl rfl ht85 (dk D_X3_init 27 rfl) ?_
  refine g_ltI (fun I87 eI87 => ?_)
  refine g_aload_n (dk D_X3_init 28 rfl) rfl ?_
  refine g_aload_n (dk D_X3_init 29 rfl) rfl ?_
  refine g_putAt (t := 2) fl_RX3_35 fp_3_0 ff_RX3 rfl (Or.inl ⟨_, rfl⟩) ht79 ht85 (dk D_X3_init 30 rfl) ?_
  refine g_ltS (fun S88 eS88 => ?_)
  have hx89 : Sx S77 S88 := eS88 ▸ upP_x
  have ht90 := ht79.x hx89
  have ht91 := ht80.x hx89
  have ht92 := ht81.x hx89
  have ht93 := ht82.x hx89
  have ht94 := ht83.x hx89
  have ht95 := ht84.x hx89
  have ht96 := ht85.x hx89
  have hsx97 := Sx.tr hsx86 hx89
  exact g_return rfl rfl hsx97 rfl (by show 5 ≤ 5; omega) (by show 30 ≤ 30; omega) (dk D_X3_init 31 rfl)
theorem c_X3_init {E : EV} (fu : Nat) (S0 : Sk) (I0 : II) (a0 : Nat) (r1 : Nat) (r : Sk × II) (h : f_X3_init fu S0 I0 a0 r1 = some r) (ht0 : tyO S0 3 a0) (h_r1 : tyR S0 2 r1) : MX E yX3_init i_X3_init S0 I0 [vA (a0 + 1), vA r1] (po_X3_init S0 I0 r) :=
  MX.of h (by decide) rfl rfl (Nat.le_of_ble_eq_true rfl) (gg_X3_init fu S0 I0 a0 r1 ht0 h_r1)
theorem cl_RX3_44 : CN0 RX3 44 yX10_has "RedrawnLines" i_X10_has 2 := ⟨⟨(gmN 855 (by decide +kernel) (by decide +kernel)), (gm 66 (by decide +kernel) (by decide +kernel)), (gm 407 (by decide +kernel) (by decide +kernel)), by decide +kernel, by decide +kernel, by decide +kernel⟩, (gm 406 (by decide +kernel) (by decide +kernel))⟩
theorem cl_RX3_65 : CV0 RX3 65 yX2_walk i_X2_walk 2 2 := ⟨⟨(gm 877 (by decide +kernel) (by decide +kernel)), (gm 67 (by decide +kernel) (by decide +kernel)), ((gm 527 (by decide +kernel) (by decide +kernel))), by decide +kernel, by decide +kernel, by decide +kernel⟩, ⟨(gm 525 (by decide +kernel) (by decide +kernel)), (gm 526 (by decide +kernel) (by decide +kernel))⟩, rfl, by decide⟩
theorem lk_RX3_68 : Cond.methodLink RX3 68 Lib.Math.max.name ∈ lw_good := (gm 878 (by decide +kernel) (by decide +kernel))
theorem cl_RX3_55 (dd : Nat) : CV0 RX3 55 yX3_goOn (i_X3_goOn dd) 4 3 := ⟨⟨(gm 872 (by decide +kernel) (by decide +kernel)), (gm 70 (by decide +kernel) (by decide +kernel)), (show Cond.code yX3_goOn cX3_goOn 8 none ∈ lw_good from (gm 875 (by decide +kernel) (by decide +kernel))), by decide +kernel, by decide +kernel, by decide +kernel⟩, ⟨(gm 874 (by decide +kernel) (by decide +kernel)), (gm 20 (by decide +kernel) (by decide +kernel))⟩, rfl, by decide⟩
theorem lk_RX3_59 : Cond.methodLink RX3 59 arraycopyName ∈ lw_good := (gm 876 (by decide +kernel) (by decide +kernel))
theorem lk_acp : Cond.native arraycopyName ∈ lw_good ∧ Cond.static arraycopyName ∈ lw_good ∧ Cond.initialized "java/lang/System" ∈ lw_good := ⟨(gm 388 (by decide +kernel) (by decide +kernel)), (gm 387 (by decide +kernel) (by decide +kernel)), (gm 75 (by decide +kernel) (by decide +kernel))⟩
def tb_X3_goOn : List (Nat × Instr × Nat) := [(0, .iload_n 1, 1), (1, .aload_n 0, 1), (2, .getfield 24, 3), (5, .if_icmp .lt 26, 3), (8, .aload_n 0, 1), (9, .iload_n 3, 1), (10, .putfield 32, 3), (13, .aload_n 0, 1), (14, .getfield 21, 3), (17, .iconst 0, 1), (18, .aload_n 0, 1), (19, .getfield 28, 3), (22, .iconst 0, 1), (23, .aload_n 0, 1), (24, .getfield 24, 3), (27, .invokestatic 59, 3), (30, .return_, 1), (31, .iconst 0, 1), (32, .istore 5, 2), (34, .iload 5, 2), (36, .aload_n 0, 1), (37, .getfield 24, 3), (40, .if_icmp .ge 111, 3), (43, .iload 4, 2), (45, .iload 5, 2), (47, .invokestatic 44, 3), (50, .ifCond .ne 95, 3), (53, .iload_n 3, 1), (54, .aload_n 0, 1), (55, .getfield 35, 3), (58, .iload_n 2, 1), (59, .aload_n 0, 1), (60, .getfield 9, 3), (63, .iload 5, 2), (65, .iaload, 1), (66, .invokevirtual 65, 3), (69, .iadd, 1), (70, .aload_n 0, 1), (71, .getfield 15, 3), (74, .iload 5, 2), (76, .iaload, 1), (77, .invokestatic 68, 3), (80, .istore 6, 2), (82, .iload 6, 2), (84, .iconst 5, 1), (85, .iadd, 1), (86, .istore 7, 2), (88, .iload 7, 2), (90, .aload_n 0, 1), (91, .getfield 18, 3), (94, .iload 5, 2), (96, .iaload, 1), (97, .if_icmp .gt 48, 3), (100, .iload 7, 2), (102, .aload_n 0, 1), (103, .getfield 32, 3), (106, .if_icmp .ge 39, 3), (109, .aload_n 0, 1), (110, .getfield 21, 3), (113, .iload_n 1, 1), (114, .aload_n 0, 1), (115, .getfield 9, 3), (118, .iload 5, 2), (120, .iaload, 1), (121, .iastore, 1), (122, .aload_n 0, 1), (123, .iload_n 1, 1), (124, .iconst 1, 1), (125, .iadd, 1), (126, .aload_n 0, 1), (127, .getfield 9, 3), (130, .iload 5, 2), (132, .iaload, 1), (133, .iload 7, 2), (135, .iload 4, 2), (137, .iconst 1, 1), (138, .iload 5, 2), (140, .ishl, 1), (141, .ior, 1), (142, .invokevirtual 55, 3), (145, .iinc 5 1, 3), (148, .goto (-114), 3), (151, .return_, 1)]
theorem D0_X3_goOn : tbOK cX3_goOn tb_X3_goOn := by show ∀ q ∈ tb_X3_goOn, decode cX3_goOn q.1 = .ok (q.2.1, q.2.2); decide +kernel
theorem D_X3_goOn (dd : Nat) : tbOK (i_X3_goOn dd).2.1 tb_X3_goOn := D0_X3_goOn
def po_X3_goOn (S : Sk) (I : II) (r : II) : Option LV × Sk × II := (none, S, r)
def jn_X3_goOn_145 (fu : Nat) (S : Sk) (I : II) (rc : II → Int32 → Int32 → Int32 → Int32 → Option II) (self34 : Int32 → II → Option (II)) (a0 : Nat) (x1 : Int32) (x2 : Int32) (x3 : Int32) (x4 : Int32) (x5 : Int32) : Option (II) :=
  self34 (x5 + (1 : Int32)) I
def lp_X3_goOn_34 (fu : Nat) (S : Sk) (rc : II → Int32 → Int32 → Int32 → Int32 → Option II) (a0 : Nat) (x1 : Int32) (x2 : Int32) (x3 : Int32) (x4 : Int32) (self34 : Int32 → II → Option (II)) (x5 : Int32) (I : II) : Option (II) :=
  if (I a0 5) ≤ x5 then some (I) else if (t_X10_has x4 x5) = 0 then gd (inb S (S.1 a0 1) x5) (gd ((S.1 a0 0) ≠ 0) ((f_X2_walk fu S I ((S.1 a0 0) - 1) x2 (rd I (S.1 a0 1) x5)).bind fun q8 => (gd (inb S (S.1 a0 2) x5) (lt (jmax (x3 + q8) (rd I (S.1 a0 2) x5)) fun x6_13 => (lt (x6_13 + (5 : Int32)) fun x7_14 => (gd (inb S (S.1 a0 3) x5) (if (rd I (S.1 a0 3) x5) < x7_14 then jn_X3_goOn_145 fu S I rc self34 a0 x1 x2 x3 x4 x5 else if (I a0 7) ≤ x7_14 then jn_X3_goOn_145 fu S I rc self34 a0 x1 x2 x3 x4 x5 else gd (inb S (S.1 a0 4) x1) (lt (wr I (S.1 a0 4) x1 (rd I (S.1 a0 1) x5)) fun I22 => ((rc I22 (x1 + (1 : Int32)) (rd I22 (S.1 a0 1) x5) x7_14 (x4 ||| ((1 : Int32) <<< (x5 &&& 31)))).bind fun q24 => (jn_X3_goOn_145 fu S q24 rc self34 a0 x1 x2 x3 x4 x5)))))))))) else jn_X3_goOn_145 fu S I rc self34 a0 x1 x2 x3 x4 x5
def o_X3_goOn (fu : Nat) (S : Sk) (I : II) (rc : II → Int32 → Int32 → Int32 → Int32 → Option II) (a0 : Nat) (x1 : Int32) (x2 : Int32) (x3 : Int32) (x4 : Int32) : Option (II) :=
  if x1 < (I a0 5) then fix2 (lp_X3_goOn_34 fu S rc a0 x1 x2 x3 x4) fu (0 : Int32) I else lt (upI I a0 7 x3) fun I28 => (gd (inC S (S.1 a0 4) (0 : Int32) (S.1 a0 6) (0 : Int32) (I28 a0 5)) (lt (cpI I28 (S.1 a0 4) (0 : Int32) (S.1 a0 6) (0 : Int32) (I28 a0 5)) fun I32 => (some (I32))))
set_option maxRecDepth 100000 in
set_option maxHeartbeats 4000000 in
theorem gg_X3_goOn {E : EV} (fu : Nat) (S0 : Sk) (I0 : II) (rc : II → Int32 → Int32 → Int32 → Int32 → Option II) (dd : Nat) (a0 : Nat) (x1 : Int32) (x2 : Int32) (x3 : Int32) (x4 : Int32) (ht0 : tyO S0 3 a0) (hrc : ∀ (I : II) (i j k l : Int32) (r : II), rc I i j k l = some r → MX E yX3_goOn (i_X3_goOn dd) S0 I [vA (a0 + 1), vI i, vI j, vI k, vI l] (none, S0, r)) : GG E (i_X3_goOn (dd + 1)) (enM E (i_X3_goOn (dd + 1)) S0 (po_X3_goOn S0 I0)) S0 I0 (0, 0) 0 [(0, vA (a0 + 1)), (1, vI x1), (2, vI x2), (3, vI x3), (4, vI x4)] [] (o_X3_goOn fu S0 I0 rc a0 x1 x2 x3 x4) := by
  have hl34 : ∀ (nn : Nat) (x5 : Int32) (I : II), True → GG E (i_X3_goOn (dd + 1)) (enM E (i_X3_goOn (dd + 1)) S0 (po_X3_goOn S0 I0)) S0 I (0, 0) 34 [(0, vA (a0 + 1)), (1, vI x1), (2, vI x2), (3, vI x3), (4, vI x4), (5, vI x5)] [] (fix2 (lp_X3_goOn_34 fu S0 rc a0 x1 x2 x3 x4) nn x5 I) := by
    refine g_fix2 (fun _ _ => S0) (fun x5 I => I) (fun x5 I => [(0, vA (a0 + 1)), (1, vI x1), (2, vI x2), (3, vI x3), (4, vI x4), (5, vI x5)]) (fun x5 I => True) ?_
    intro self34 hself34 x5 I hinv
    have hj145 : ∀ (I : II) (x5 : Int32), GG E (i_X3_goOn (dd + 1)) (enM E (i_X3_goOn (dd + 1)) S0 (po_X3_goOn S0 I0)) S0 I (0, 0) 145 [(0, vA (a0 + 1)), (1, vI x1), (2, vI x2), (3, vI x3), (4, vI x4), (5, vI x5)] [] (jn_X3_goOn_145 fu S0 I rc self34 a0 x1 x2 x3 x4 x5) := by
      intro I x5 
      unfold jn_X3_goOn_145
      refine g_iinc (v := (1 : Int32)) (L' := [(0, vA (a0 + 1)), (1, vI x1), (2, vI x2), (3, vI x3), (4, vI x4), (5, vI (x5 + (1 : Int32)))]) (dk (D_X3_goOn (dd + 1)) 80 rfl) rfl rfl (Nat.le_of_ble_eq_true rfl) rfl ?_
      refine g_goto (tgt := 34) (dk (D_X3_goOn (dd + 1)) 81 rfl) rfl ?_
      exact hself34 (x5 + (1 : Int32)) I trivial
    unfold lp_X3_goOn_34
    refine g_iload (dk (D_X3_goOn (dd + 1)) 19 rfl) rfl ?_
    refine g_aload_n (dk (D_X3_goOn (dd + 1)) 20 rfl) rfl ?_
    refine g_getIt fl_RX3_24 (by decide) ht0 (dk (D_X3_goOn (dd + 1)) 21 rfl) ?_
    refine g_icmp_ge (tgt := 151) (dk (D_X3_goOn (dd + 1)) 22 rfl) rfl (fun hc1 => ?_) (fun hc1 => ?_)
    · exact g_return rfl rfl Sx.rf rfl (Nat.zero_le _) (Nat.zero_le _) (dk (D_X3_goOn (dd + 1)) 82 rfl)
    · refine g_iload (dk (D_X3_goOn (dd + 1)) 23 rfl) rfl ?_
      refine g_iload (dk (D_X3_goOn (dd + 1)) 24 rfl) rfl ?_
      refine h_callSN (st := []) (c_X10_has (E := E) S0 I x4 x5) cl_RX3_44 rfl rfl (by refine ⟨⟨?_, ?_⟩, ⟨rfl, rfl⟩, Nat.zero_le _, Nat.zero_le _⟩ <;> simp [i_X3_goOn, i_X10_has] <;> omega) (Nat.le_of_ble_eq_true rfl) (dk (D_X3_goOn (dd + 1)) 25 rfl) ?_
      refine g_if_ne (tgt := 145) (dk (D_X3_goOn (dd + 1)) 26 rfl) rfl (fun hc3 => ?_) (fun hc3 => ?_)
      · exact hj145 I x5
      · refine g_iload_n (dk (D_X3_goOn (dd + 1)) 27 rfl) rfl ?_
        refine g_aload_n (dk (D_X3_goOn (dd + 1)) 28 rfl) rfl ?_
        refine g_getAt (t := 2) fl_RX3_35 rfl ht0 (dk (D_X3_goOn (dd + 1)) 29 rfl) (fun ht4 => ?_)
        refine g_iload_n (dk (D_X3_goOn (dd + 1)) 30 rfl) rfl ?_
        refine g_aload_n (dk (D_X3_goOn (dd + 1)) 31 rfl) rfl ?_
        refine g_getAt (t := 100) fl_RX3_9 rfl ht0 (dk (D_X3_goOn (dd + 1)) 32 rfl) (fun ht5 => ?_)
        refine g_iload (dk (D_X3_goOn (dd + 1)) 33 rfl) rfl ?_
        refine g_gd (fun hi6 => ?_)
        refine g_iaload ht5 hi6 (dk (D_X3_goOn (dd + 1)) 34 rfl) ?_
        refine g_gd (fun hn7 => ?_)
        refine g_bind (fun q8 hq9 => ?_)
        refine h_callV (st := [vI x3]) (c_X2_walk (E := E) fu S0 I ((S0.1 a0 0) - 1) x2 (rd I (S0.1 a0 1) x5) q8 hq9 (ht4.nz hn7)) cl_RX3_65 ht4 hn7 rfl rfl (by refine ⟨⟨?_, ?_⟩, ⟨rfl, rfl⟩, Nat.zero_le _, Nat.zero_le _⟩ <;> simp [i_X3_goOn, i_X2_walk] <;> omega) (Nat.le_of_ble_eq_true rfl) (dk (D_X3_goOn (dd + 1)) 35 rfl) ?_
        refine g_iadd (dk (D_X3_goOn (dd + 1)) 36 rfl) ?_
        refine g_aload_n (dk (D_X3_goOn (dd + 1)) 37 rfl) rfl ?_
        refine g_getAt (t := 100) fl_RX3_15 rfl ht0 (dk (D_X3_goOn (dd + 1)) 38 rfl) (fun ht11 => ?_)
        refine g_iload (dk (D_X3_goOn (dd + 1)) 39 rfl) rfl ?_
        refine g_gd (fun hi12 => ?_)
        refine g_iaload ht11 hi12 (dk (D_X3_goOn (dd + 1)) 40 rfl) ?_
        refine g_mmax lk_RX3_68 lk_mmax (by simp [i_X3_goOn]) (by simp [i_X3_goOn, wid, isW] <;> omega) (Nat.zero_le _) (Nat.zero_le _) (dk (D_X3_goOn (dd + 1)) 41 rfl) ?_
        refine g_ltV (fun x6_13 ex6_13 => ?_)
        refine g_istore (L' := [(0, vA (a0 + 1)), (1, vI x1), (2, vI x2), (3, vI x3), (4, vI x4), (5, vI x5), (6, vI x6_13)]) (dk (D_X3_goOn (dd + 1)) 42 rfl) (Nat.le_of_ble_eq_true rfl) rfl ?_
        refine g_iload (dk (D_X3_goOn (dd + 1)) 43 rfl) rfl ?_
        refine g_iconst (v := (5 : Int32)) (dk (D_X3_goOn (dd + 1)) 44 rfl) rfl ?_
        refine g_iadd (dk (D_X3_goOn (dd + 1)) 45 rfl) ?_
        refine g_ltV (fun x7_14 ex7_14 => ?_)
        refine g_istore (L' := [(0, vA (a0 + 1)), (1, vI x1), (2, vI x2), (3, vI x3), (4, vI x4), (5, vI x5), (6, vI x6_13), (7, vI x7_14)]) (dk (D_X3_goOn (dd + 1)) 46 rfl) (Nat.le_of_ble_eq_true rfl) rfl ?_
        refine g_iload (dk (D_X3_goOn (dd + 1)) 47 rfl) rfl ?_
        refine g_aload_n (dk (D_X3_goOn (dd + 1)) 48 rfl) rfl ?_
        refine g_getAt (t := 100) fl_RX3_18 rfl ht0 (dk (D_X3_goOn (dd + 1)) 49 rfl) (fun ht15 => ?_)
        refine g_iload (dk (D_X3_goOn (dd + 1)) 50 rfl) rfl ?_
        refine g_gd (fun hi16 => ?_)
        refine g_iaload ht15 hi16 (dk (D_X3_goOn (dd + 1)) 51 rfl) ?_
        refine g_icmp_gt (tgt := 145) (dk (D_X3_goOn (dd + 1)) 52 rfl) rfl (fun hc17 => ?_) (fun hc17 => ?_)
        · refine g_Lp [0, 1, 2, 3, 4, 5] rfl ?_
          exact hj145 I x5
        · refine g_iload (dk (D_X3_goOn (dd + 1)) 53 rfl) rfl ?_
          refine g_aload_n (dk (D_X3_goOn (dd + 1)) 54 rfl) rfl ?_
          refine g_getIt fl_RX3_32 (by decide) ht0 (dk (D_X3_goOn (dd + 1)) 55 rfl) ?_
          refine g_icmp_ge (tgt := 145) (dk (D_X3_goOn (dd + 1)) 56 rfl) rfl (fun hc18 => ?_) (fun hc18 => ?_)
          · refine g_Lp [0, 1, 2, 3, 4, 5] rfl ?_
            exact hj145 I x5
          · refine g_aload_n (dk (D_X3_goOn (dd + 1)) 57 rfl) rfl ?_
            refine g_getAt (t := 100) fl_RX3_21 rfl ht0 (dk (D_X3_goOn (dd + 1)) 58 rfl) (fun ht19 => ?_)
            refine g_iload_n (dk (D_X3_goOn (dd + 1)) 59 rfl) rfl ?_
            refine g_aload_n (dk (D_X3_goOn (dd + 1)) 60 rfl) rfl ?_
            refine g_getAt (t := 100) fl_RX3_9 rfl ht0 (dk (D_X3_goOn (dd + 1)) 61 rfl) (fun ht20 => ?_)
            refine g_iload (dk (D_X3_goOn (dd + 1)) 62 rfl) rfl ?_
            refine g_iaload ht5 hi6 (dk (D_X3_goOn (dd + 1)) 63 rfl) ?_
            refine g_gd (fun hi21 => ?_)
            refine g_iastore ht19 hi21 (dk (D_X3_goOn (dd + 1)) 64 rfl) ?_
            refine g_ltI (fun I22 eI22 => ?_)
            refine g_aload_n (dk (D_X3_goOn (dd + 1)) 65 rfl) rfl ?_
            refine g_iload_n (dk (D_X3_goOn (dd + 1)) 66 rfl) rfl ?_
            refine g_iconst (v := (1 : Int32)) (dk (D_X3_goOn (dd + 1)) 67 rfl) rfl ?_
            refine g_iadd (dk (D_X3_goOn (dd + 1)) 68 rfl) ?_
            refine g_aload_n (dk (D_X3_goOn (dd + 1)) 69 rfl) rfl ?_
            refine g_getAt (t := 100) fl_RX3_9 rfl ht0 (dk (D_X3_goOn (dd + 1)) 70 rfl) (fun ht23 => ?_)
            refine g_iload (dk (D_X3_goOn (dd + 1)) 71 rfl) rfl ?_
            refine g_iaload ht5 hi6 (dk (D_X3_goOn (dd + 1)) 72 rfl) ?_
            refine g_iload (dk (D_X3_goOn (dd + 1)) 73 rfl) rfl ?_
            refine g_iload (dk (D_X3_goOn (dd + 1)) 74 rfl) rfl ?_
            refine g_iconst (v := (1 : Int32)) (dk (D_X3_goOn (dd + 1)) 75 rfl) rfl ?_
            refine g_iload (dk (D_X3_goOn (dd + 1)) 76 rfl) rfl ?_
            refine g_ishl (dk (D_X3_goOn (dd + 1)) 77 rfl) ?_
            refine g_ior (dk (D_X3_goOn (dd + 1)) 78 rfl) ?_
            refine g_bind (fun q24 hq25 => ?_)
            refine h_callVt (st := []) (hrc I22 (x1 + (1 : Int32)) (rd I22 (S0.1 a0 1) x5) x7_14 (x4 ||| ((1 : Int32) <<< (x5 &&& 31))) q24 hq25) (cl_RX3_55 _) ht0 rfl rfl (by refine ⟨⟨?_, ?_⟩, ⟨rfl, rfl⟩, Nat.zero_le _, Nat.zero_le _⟩ <;> simp [i_X3_goOn, i_X3_goOn] <;> omega) (Nat.le_of_ble_eq_true rfl) (dk (D_X3_goOn (dd + 1)) 79 rfl) ?_
            refine g_Lp [0, 1, 2, 3, 4, 5] rfl ?_
            exact hj145 q24 x5
  unfold o_X3_goOn
  refine g_iload_n (dk (D_X3_goOn (dd + 1)) 0 rfl) rfl ?_
  refine g_aload_n (dk (D_X3_goOn (dd + 1)) 1 rfl) rfl ?_
  refine g_getIt fl_RX3_24 (by decide) ht0 (dk (D_X3_goOn (dd + 1)) 2 rfl) ?_
  refine g_icmp_lt (tgt := 31) (dk (D_X3_goOn (dd + 1)) 3 rfl) rfl (fun hc27 => ?_) (fun hc27 => ?_)
  · refine g_iconst (v := (0 : Int32)) (dk (D_X3_goOn (dd + 1)) 17 rfl) rfl ?_
    refine g_istore (L' := [(0, vA (a0 + 1)), (1, vI x1), (2, vI x2), (3, vI x3), (4, vI x4), (5, vI (0 : Int32))]) (dk (D_X3_goOn (dd + 1)) 18 rfl) (Nat.le_of_ble_eq_true rfl) rfl ?_
    exact hl34 fu (0 : Int32) I0 trivial
  · refine g_aload_n (dk (D_X3_goOn (dd + 1)) 4 rfl) rfl ?_
    refine g_iload_n (dk (D_X3_goOn (dd + 1)) 5 rfl) rfl ?_
    refine g_putIt fl_RX3_32 fp_3_7 (fun h => (by cases h)) (by decide) rfl rfl ht0 (dk (D_X3_goOn (dd + 1)) 6 rfl) ?_
    refine g_ltI (fun I28 eI28 => ?_)
    refine g_aload_n (dk (D_X3_goOn (dd + 1)) 7 rfl) rfl ?_
    refine g_getAt (t := 100) fl_RX3_21 rfl ht0 (dk (D_X3_goOn (dd + 1)) 8 rfl) (fun ht29 => ?_)
    refine g_iconst (v := (0 : Int32)) (dk (D_X3_goOn (dd + 1)) 9 rfl) rfl ?_
    refine g_aload_n (dk (D_X3_goOn (dd + 1)) 10 rfl) rfl ?_
    refine g_getAt (t := 100) fl_RX3_28 rfl ht0 (dk (D_X3_goOn (dd + 1)) 11 rfl) (fun ht30 => ?_)
    refine g_iconst (v := (0 : Int32)) (dk (D_X3_goOn (dd + 1)) 12 rfl) rfl ?_
    refine g_aload_n (dk (D_X3_goOn (dd + 1)) 13 rfl) rfl ?_
    refine g_getIt fl_RX3_24 (by decide) ht0 (dk (D_X3_goOn (dd + 1)) 14 rfl) ?_
    refine g_gd (fun hi31 => ?_)
    refine g_acopy lk_RX3_59 lk_acp ht29 ht30 hi31 (by simp [i_X3_goOn]) (by simp [i_X3_goOn, wid, isW, nativeFrameWords] <;> omega) (dk (D_X3_goOn (dd + 1)) 15 rfl) ?_
    refine g_ltI (fun I32 eI32 => ?_)
    exact g_return rfl rfl Sx.rf rfl (Nat.zero_le _) (Nat.zero_le _) (dk (D_X3_goOn (dd + 1)) 16 rfl)
def f_X3_goOn (fu : Nat) (S : Sk) (a0 : Nat) : Nat → II → Int32 → Int32 → Int32 → Int32 → Option (II)
  | 0, _, _, _, _, _ => none
  | dd + 1, I, x1, x2, x3, x4 => o_X3_goOn fu S I (f_X3_goOn fu S a0 dd) a0 x1 x2 x3 x4
theorem c_X3_goOn {E : EV} (fu : Nat) (S0 : Sk) (a0 : Nat) (ht0 : tyO S0 3 a0) : ∀ (dd : Nat) (I0 : II) (x1 : Int32) (x2 : Int32) (x3 : Int32) (x4 : Int32) (r : II), f_X3_goOn fu S0 a0 dd I0 x1 x2 x3 x4 = some r → MX E yX3_goOn (i_X3_goOn dd) S0 I0 [vA (a0 + 1), vI x1, vI x2, vI x3, vI x4] (po_X3_goOn S0 I0 r) := by
  intro dd
  induction dd with
  | zero => intro I0 x1 x2 x3 x4 r h; cases h
  | succ dd ih => intro I0 x1 x2 x3 x4 r h; exact MX.of (g := o_X3_goOn fu S0 I0 (f_X3_goOn fu S0 a0 dd) a0 x1 x2 x3 x4) h (by decide) rfl rfl (Nat.le_of_ble_eq_true rfl) (gg_X3_goOn fu S0 I0 _ dd a0 x1 x2 x3 x4 ht0 ih)
