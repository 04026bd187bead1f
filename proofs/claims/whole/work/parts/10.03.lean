theorem fl_RX10_162 : FL RX10 162 1 9 := ⟨RX1, TX1, 11, rfl, by decide, rfl, by decide, (gm 444 (by decide +kernel) (by decide +kernel)), inG1⟩
theorem fl_RX10_165 : FL RX10 165 1 10 := ⟨RX1, TX1, 11, rfl, by decide, rfl, by decide, (gm 446 (by decide +kernel) (by decide +kernel)), inG1⟩
theorem cl_RX10_155 : CV0 RX10 155 yX2_lineAt i_X2_lineAt 1 2 := ⟨⟨(gm 478 (by decide +kernel) (by decide +kernel)), (gm 67 (by decide +kernel) (by decide +kernel)), ((gm 481 (by decide +kernel) (by decide +kernel))), by decide +kernel, by decide +kernel, by decide +kernel⟩, ⟨(gm 479 (by decide +kernel) (by decide +kernel)), (gm 480 (by decide +kernel) (by decide +kernel))⟩, rfl, by decide⟩
theorem cl_RX10_159 : CS0 RX10 159 yX10_isDay i_X10_isDay 1 := ⟨⟨(gm 482 (by decide +kernel) (by decide +kernel)), (gm 66 (by decide +kernel) (by decide +kernel)), (gm 484 (by decide +kernel) (by decide +kernel)), by decide +kernel, by decide +kernel, by decide +kernel⟩, (gm 483 (by decide +kernel) (by decide +kernel))⟩
def tb_X10_days : List (Nat × Instr × Nat) := [(0, .aload_n 0, 1), (1, .getfield 12, 3), (4, .iload_n 1, 1), (5, .invokevirtual 155, 3), (8, .astore 4, 2), (10, .aload 4, 2), (12, .ifnonnull 5, 3), (15, .iconst (-1), 1), (16, .ireturn, 1), (17, .iload_n 2, 1), (18, .invokestatic 159, 3), (21, .ifCond .eq 15, 3), (24, .iload_n 3, 1), (25, .invokestatic 159, 3), (28, .ifCond .eq 8, 3), (31, .iload_n 3, 1), (32, .iload_n 2, 1), (33, .if_icmp .ge 6, 3), (36, .bipush (-2), 2), (38, .ireturn, 1), (39, .aload 4, 2), (41, .getfield 162, 3), (44, .iload_n 2, 1), (45, .if_icmp .ne 14, 3), (48, .aload 4, 2), (50, .getfield 165, 3), (53, .iload_n 3, 1), (54, .if_icmp .ne 5, 3), (57, .iconst 0, 1), (58, .ireturn, 1), (59, .aload 4, 2), (61, .iload_n 2, 1), (62, .putfield 162, 3), (65, .aload 4, 2), (67, .iload_n 3, 1), (68, .putfield 165, 3), (71, .iconst 1, 1), (72, .ireturn, 1)]
def i_X10_days : MI := (RX10, cX10_days, 5, (some .int), "days", { frames := 2, cells := 0, slots := 0, locals := 42 })
theorem D_X10_days : tbOK (i_X10_days).2.1 tb_X10_days := by show ∀ q ∈ tb_X10_days, decode cX10_days q.1 = .ok (q.2.1, q.2.2); decide +kernel
def po_X10_days (S : Sk) (I : II) (r : Int32 × II) : Option LV × Sk × II := (some (vI r.1), S, r.2)
def jn_X10_days_59 (fu : Nat) (S : Sk) (I : II) (a0 : Nat) (x2 : Int32) (x3 : Int32) (r4 : Nat) : Option (Int32 × II) :=
  gd (r4 ≠ 0) (lt (upI I (r4 - 1) 9 x2) fun I2 => (lt (upI I2 (r4 - 1) 10 x3) fun I3 => (some (((1 : Int32), I3)))))
def f_X10_days (fu : Nat) (S : Sk) (I : II) (a0 : Nat) (x1 : Int32) (x2 : Int32) (x3 : Int32) : Option (Int32 × II) :=
  gd ((S.1 a0 0) ≠ 0) ((f_X2_lineAt fu S I ((S.1 a0 0) - 1) x1).bind fun q6 => (if q6 = 0 then some ((((-1) : Int32), I)) else if (t_X10_isDay x2) = 0 then some ((((-2) : Int32), I)) else if (t_X10_isDay x3) = 0 then some ((((-2) : Int32), I)) else if x2 ≤ x3 then if (I (q6 - 1) 9) = x2 then if (I (q6 - 1) 10) = x3 then some (((0 : Int32), I)) else jn_X10_days_59 fu S I a0 x2 x3 q6 else jn_X10_days_59 fu S I a0 x2 x3 q6 else some ((((-2) : Int32), I))))
set_option maxRecDepth 100000 in
set_option maxHeartbeats 4000000 in
theorem gg_X10_days {E : EV} (fu : Nat) (S0 : Sk) (I0 : II) (a0 : Nat) (x1 : Int32) (x2 : Int32) (x3 : Int32) (ht0 : tyO S0 10 a0) : GG E i_X10_days (enM E i_X10_days S0 (po_X10_days S0 I0)) S0 I0 (0, 0) 0 [(0, vA (a0 + 1)), (1, vI x1), (2, vI x2), (3, vI x3)] [] (f_X10_days fu S0 I0 a0 x1 x2 x3) := by
  have hj59 : ∀ (I : II) (r4 : Nat) (h_r4 : tyR S0 1 r4), GG E i_X10_days (enM E i_X10_days S0 (po_X10_days S0 I0)) S0 I (0, 0) 59 [(2, vI x2), (3, vI x3), (4, vA r4)] [] (jn_X10_days_59 fu S0 I a0 x2 x3 r4) := by
    intro I r4 h_r4
    unfold jn_X10_days_59
    refine g_aload (dk D_X10_days 30 rfl) rfl ?_
    refine g_iload_n (dk D_X10_days 31 rfl) rfl ?_
    refine g_gd (fun hn1 => ?_)
    refine g_putI fl_RX10_162 fp_1_9 (fun h => (by cases h)) (by decide) rfl rfl h_r4 hn1 (dk D_X10_days 32 rfl) ?_
    refine g_ltI (fun I2 eI2 => ?_)
    refine g_aload (dk D_X10_days 33 rfl) rfl ?_
    refine g_iload_n (dk D_X10_days 34 rfl) rfl ?_
    refine g_putI fl_RX10_165 fp_1_10 (fun h => (by cases h)) (by decide) rfl rfl h_r4 hn1 (dk D_X10_days 35 rfl) ?_
    refine g_ltI (fun I3 eI3 => ?_)
    refine g_iconst (v := (1 : Int32)) (dk D_X10_days 36 rfl) rfl ?_
    exact g_ireturn rfl rfl Sx.rf rfl (by decide) (by decide) (dk D_X10_days 37 rfl)
  unfold f_X10_days
  refine g_aload_n (dk D_X10_days 0 rfl) rfl ?_
  refine g_getAt (t := 2) fl_RX10_12 rfl ht0 (dk D_X10_days 1 rfl) (fun ht4 => ?_)
  refine g_iload_n (dk D_X10_days 2 rfl) rfl ?_
  refine g_gd (fun hn5 => ?_)
  refine g_bind (fun q6 hq7 => ?_)
  refine h_callVA (st := []) (c_X2_lineAt (E := E) fu S0 I0 ((S0.1 a0 0) - 1) x1 q6 hq7 (ht4.nz hn5)) rt_X2_lineAt cl_RX10_155 ht4 hn5 rfl rfl (by decide) (Nat.le_of_ble_eq_true rfl) (dk D_X10_days 3 rfl) (fun ht8 => ?_)
  refine g_astore (L' := [(0, vA (a0 + 1)), (1, vI x1), (2, vI x2), (3, vI x3), (4, vA q6)]) (dk D_X10_days 4 rfl) (Nat.le_of_ble_eq_true rfl) rfl ?_
  refine g_aload (dk D_X10_days 5 rfl) rfl ?_
  refine g_ifnonnull (tgt := 17) (dk D_X10_days 6 rfl) rfl (fun hc9 => ?_) (fun hc9 => ?_)
  · refine g_iload_n (dk D_X10_days 9 rfl) rfl ?_
    refine h_callS (st := []) (c_X10_isDay (E := E) S0 I0 x2) cl_RX10_159 rfl rfl (by decide) (Nat.le_of_ble_eq_true rfl) (dk D_X10_days 10 rfl) ?_
    refine g_if_eq (tgt := 36) (dk D_X10_days 11 rfl) rfl (fun hc11 => ?_) (fun hc11 => ?_)
    · refine g_bipush (v := ((-2) : Int32)) (dk D_X10_days 18 rfl) rfl ?_
      exact g_ireturn rfl rfl Sx.rf rfl (by decide) (by decide) (dk D_X10_days 19 rfl)
    · refine g_iload_n (dk D_X10_days 12 rfl) rfl ?_
      refine h_callS (st := []) (c_X10_isDay (E := E) S0 I0 x3) cl_RX10_159 rfl rfl (by decide) (Nat.le_of_ble_eq_true rfl) (dk D_X10_days 13 rfl) ?_
      refine g_if_eq (tgt := 36) (dk D_X10_days 14 rfl) rfl (fun hc13 => ?_) (fun hc13 => ?_)
      · refine g_bipush (v := ((-2) : Int32)) (dk D_X10_days 18 rfl) rfl ?_
        exact g_ireturn rfl rfl Sx.rf rfl (by decide) (by decide) (dk D_X10_days 19 rfl)
      · refine g_iload_n (dk D_X10_days 15 rfl) rfl ?_
        refine g_iload_n (dk D_X10_days 16 rfl) rfl ?_
        refine g_icmp_ge (tgt := 39) (dk D_X10_days 17 rfl) rfl (fun hc14 => ?_) (fun hc14 => ?_)
        · refine g_aload (dk D_X10_days 20 rfl) rfl ?_
          refine g_getI fl_RX10_162 (by decide) ht8 hc9 (dk D_X10_days 21 rfl) ?_
          refine g_iload_n (dk D_X10_days 22 rfl) rfl ?_
          refine g_icmp_ne (tgt := 59) (dk D_X10_days 23 rfl) rfl (fun hc15 => ?_) (fun hc15 => ?_)
          · refine g_Lp [2, 3, 4] rfl ?_
            exact hj59 I0 q6 ht8
          · refine g_aload (dk D_X10_days 24 rfl) rfl ?_
            refine g_getI fl_RX10_165 (by decide) ht8 hc9 (dk D_X10_days 25 rfl) ?_
            refine g_iload_n (dk D_X10_days 26 rfl) rfl ?_
            refine g_icmp_ne (tgt := 59) (dk D_X10_days 27 rfl) rfl (fun hc16 => ?_) (fun hc16 => ?_)
            · refine g_Lp [2, 3, 4] rfl ?_
              exact hj59 I0 q6 ht8
            · refine g_iconst (v := (0 : Int32)) (dk D_X10_days 28 rfl) rfl ?_
              exact g_ireturn rfl rfl Sx.rf rfl (by decide) (by decide) (dk D_X10_days 29 rfl)
        · refine g_bipush (v := ((-2) : Int32)) (dk D_X10_days 18 rfl) rfl ?_
          exact g_ireturn rfl rfl Sx.rf rfl (by decide) (by decide) (dk D_X10_days 19 rfl)
  · refine g_iconst (v := ((-1) : Int32)) (dk D_X10_days 7 rfl) rfl ?_
    exact g_ireturn rfl rfl Sx.rf rfl (by decide) (by decide) (dk D_X10_days 8 rfl)
theorem c_X10_days {E : EV} (fu : Nat) (S0 : Sk) (I0 : II) (a0 : Nat) (x1 : Int32) (x2 : Int32) (x3 : Int32) (r : Int32 × II) (h : f_X10_days fu S0 I0 a0 x1 x2 x3 = some r) (ht0 : tyO S0 10 a0) : MX E yX10_days i_X10_days S0 I0 [vA (a0 + 1), vI x1, vI x2, vI x3] (po_X10_days S0 I0 r) :=
  MX.of h (by decide) rfl rfl (Nat.le_of_ble_eq_true rfl) (gg_X10_days fu S0 I0 a0 x1 x2 x3 ht0)
theorem fl_RX10_168 : FL RX10 168 1 1 := ⟨RX1, TX1, 11, rfl, by decide, rfl, by decide, (gm 423 (by decide +kernel) (by decide +kernel)), inG1⟩
theorem fl_RX10_171 : FL RX10 171 1 5 := ⟨RX1, TX1, 11, rfl, by decide, rfl, by decide, (gm 432 (by decide +kernel) (by decide +kernel)), inG1⟩
theorem fl_RX10_174 : FL RX10 174 1 2 := ⟨RX1, TX1, 11, rfl, by decide, rfl, by decide, (gm 425 (by decide +kernel) (by decide +kernel)), inG1⟩
theorem fl_RX10_177 : FL RX10 177 1 3 := ⟨RX1, TX1, 11, rfl, by decide, rfl, by decide, (gm 428 (by decide +kernel) (by decide +kernel)), inG1⟩
theorem fl_RX10_180 : FL RX10 180 1 4 := ⟨RX1, TX1, 11, rfl, by decide, rfl, by decide, (gm 430 (by decide +kernel) (by decide +kernel)), inG1⟩
theorem cl_RX10_183 : CV0 RX10 183 yX1_roundMinutes i_X1_roundMinutes 0 1 := ⟨⟨(gm 489 (by decide +kernel) (by decide +kernel)), (gm 76 (by decide +kernel) (by decide +kernel)), ((gm 492 (by decide +kernel) (by decide +kernel))), by decide +kernel, by decide +kernel, by decide +kernel⟩, ⟨(gm 490 (by decide +kernel) (by decide +kernel)), (gm 491 (by decide +kernel) (by decide +kernel))⟩, rfl, by decide⟩
theorem cl_RX10_187 : CV0 RX10 187 yX1_buses i_X1_buses 0 1 := ⟨⟨(gm 493 (by decide +kernel) (by decide +kernel)), (gm 76 (by decide +kernel) (by decide +kernel)), ((gm 496 (by decide +kernel) (by decide +kernel))), by decide +kernel, by decide +kernel, by decide +kernel⟩, ⟨(gm 494 (by decide +kernel) (by decide +kernel)), (gm 495 (by decide +kernel) (by decide +kernel))⟩, rfl, by decide⟩
theorem cl_RX10_190 : CV0 RX10 190 yX1_hasPlace i_X1_hasPlace 1 1 := ⟨⟨(gm 497 (by decide +kernel) (by decide +kernel)), (gm 76 (by decide +kernel) (by decide +kernel)), ((gm 500 (by decide +kernel) (by decide +kernel))), by decide +kernel, by decide +kernel, by decide +kernel⟩, ⟨(gm 498 (by decide +kernel) (by decide +kernel)), (gm 499 (by decide +kernel) (by decide +kernel))⟩, rfl, by decide⟩
theorem fl_RX10_193 : FL RX10 193 1 6 := ⟨RX1, TX1, 11, rfl, by decide, rfl, by decide, (gm 435 (by decide +kernel) (by decide +kernel)), inG1⟩
def tb_X10_ofLine : List (Nat × Instr × Nat) := [(0, .aload_n 0, 1), (1, .getfield 12, 3), (4, .iload_n 1, 1), (5, .invokevirtual 155, 3), (8, .astore_n 3, 1), (9, .aload_n 3, 1), (10, .ifnonnull 5, 3), (13, .iconst (-1), 1), (14, .ireturn, 1), (15, .iload_n 2, 1), (16, .tableswitch 97 0 8 #[52, 57, 62, 67, 72, 77, 82, 87, 92], 52), (68, .aload_n 3, 1), (69, .getfield 168, 3), (72, .ireturn, 1), (73, .aload_n 3, 1), (74, .getfield 171, 3), (77, .ireturn, 1), (78, .aload_n 3, 1), (79, .getfield 174, 3), (82, .ireturn, 1), (83, .aload_n 3, 1), (84, .getfield 177, 3), (87, .ireturn, 1), (88, .aload_n 3, 1), (89, .getfield 180, 3), (92, .ireturn, 1), (93, .aload_n 3, 1), (94, .getfield 162, 3), (97, .ireturn, 1), (98, .aload_n 3, 1), (99, .getfield 165, 3), (102, .ireturn, 1), (103, .aload_n 3, 1), (104, .invokevirtual 183, 3), (107, .ireturn, 1), (108, .aload_n 3, 1), (109, .invokevirtual 187, 3), (112, .ireturn, 1), (113, .iload_n 2, 1), (114, .bipush 10, 2), (116, .if_icmp .lt 26, 3), (119, .aload_n 3, 1), (120, .iload_n 2, 1), (121, .bipush 10, 2), (123, .isub, 1), (124, .invokevirtual 190, 3), (127, .ifCond .eq 15, 3), (130, .aload_n 3, 1), (131, .getfield 193, 3), (134, .iload_n 2, 1), (135, .bipush 10, 2), (137, .isub, 1), (138, .iaload, 1), (139, .goto 5, 3), (142, .bipush (-2), 2), (144, .ireturn, 1)]
def i_X10_ofLine : MI := (RX10, cX10_ofLine, 4, (some .int), "ofLine", { frames := 1, cells := 0, slots := 0, locals := 21 })
theorem D_X10_ofLine : tbOK (i_X10_ofLine).2.1 tb_X10_ofLine := by show ∀ q ∈ tb_X10_ofLine, decode cX10_ofLine q.1 = .ok (q.2.1, q.2.2); decide +kernel
def po_X10_ofLine (S : Sk) (I : II) (r : Int32) : Option LV × Sk × II := (some (vI r), S, I)
def f_X10_ofLine (fu : Nat) (S : Sk) (I : II) (a0 : Nat) (x1 : Int32) (x2 : Int32) : Option (Int32) :=
  gd ((S.1 a0 0) ≠ 0) ((f_X2_lineAt fu S I ((S.1 a0 0) - 1) x1).bind fun q3 => (if q3 = 0 then some (((-1) : Int32)) else if x2 = (0 : Int32) then some ((I (q3 - 1) 1)) else (if x2 = (1 : Int32) then some ((I (q3 - 1) 5)) else (if x2 = (2 : Int32) then some ((I (q3 - 1) 2)) else (if x2 = (3 : Int32) then some ((I (q3 - 1) 3)) else (if x2 = (4 : Int32) then some ((I (q3 - 1) 4)) else (if x2 = (5 : Int32) then some ((I (q3 - 1) 9)) else (if x2 = (6 : Int32) then some ((I (q3 - 1) 10)) else (if x2 = (7 : Int32) then (f_X1_roundMinutes fu S I (q3 - 1)).bind fun q15 => (some (q15)) else (if x2 = (8 : Int32) then (f_X1_buses fu S I (q3 - 1)).bind fun q19 => (some (q19)) else (if x2 < (10 : Int32) then some (((-2) : Int32)) else if (t_X1_hasPlace I (q3 - 1) (x2 - (10 : Int32))) = 0 then some (((-2) : Int32)) else gd (inb S (S.1 (q3 - 1) 6) (x2 - (10 : Int32))) (some ((rd I (S.1 (q3 - 1) 6) (x2 - (10 : Int32))))))))))))))))
set_option maxRecDepth 100000 in
set_option maxHeartbeats 4000000 in
theorem gg_X10_ofLine {E : EV} (fu : Nat) (S0 : Sk) (I0 : II) (a0 : Nat) (x1 : Int32) (x2 : Int32) (ht0 : tyO S0 10 a0) : GG E i_X10_ofLine (enM E i_X10_ofLine S0 (po_X10_ofLine S0 I0)) S0 I0 (0, 0) 0 [(0, vA (a0 + 1)), (1, vI x1), (2, vI x2)] [] (f_X10_ofLine fu S0 I0 a0 x1 x2) := by
  unfold f_X10_ofLine
  refine g_aload_n (dk D_X10_ofLine 0 rfl) rfl ?_
  refine g_getAt (t := 2) fl_RX10_12 rfl ht0 (dk D_X10_ofLine 1 rfl) (fun ht1 => ?_)
  refine g_iload_n (dk D_X10_ofLine 2 rfl) rfl ?_
  refine g_gd (fun hn2 => ?_)
  refine g_bind (fun q3 hq4 => ?_)
  refine h_callVA (st := []) (c_X2_lineAt (E := E) fu S0 I0 ((S0.1 a0 0) - 1) x1 q3 hq4 (ht1.nz hn2)) rt_X2_lineAt cl_RX10_155 ht1 hn2 rfl rfl (by decide) (Nat.le_of_ble_eq_true rfl) (dk D_X10_ofLine 3 rfl) (fun ht5 => ?_)
  refine g_astore_n (L' := [(0, vA (a0 + 1)), (1, vI x1), (2, vI x2), (3, vA q3)]) (dk D_X10_ofLine 4 rfl) (Nat.le_of_ble_eq_true rfl) rfl ?_
  refine g_aload_n (dk D_X10_ofLine 5 rfl) rfl ?_
  refine g_ifnonnull (tgt := 15) (dk D_X10_ofLine 6 rfl) rfl (fun hc6 => ?_) (fun hc6 => ?_)
  · refine g_iload_n (dk D_X10_ofLine 9 rfl) rfl ?_
    refine g_ite (fun hc7 => ?_) (fun hc7 => ?_)
    · refine g_tabIn (tgt := 68) (off := 52) (dk D_X10_ofLine 10 rfl) (by rw [hc7] <;> decide +kernel) (by rw [hc7] <;> decide +kernel) (by rw [hc7] <;> decide +kernel) rfl ?_
      refine g_aload_n (dk D_X10_ofLine 11 rfl) rfl ?_
      refine g_getI fl_RX10_168 (by decide) ht5 hc6 (dk D_X10_ofLine 12 rfl) ?_
      exact g_ireturn rfl rfl Sx.rf rfl (by decide) (by decide) (dk D_X10_ofLine 13 rfl)
    refine g_ite (fun hc8 => ?_) (fun hc8 => ?_)
    · refine g_tabIn (tgt := 73) (off := 57) (dk D_X10_ofLine 10 rfl) (by rw [hc8] <;> decide +kernel) (by rw [hc8] <;> decide +kernel) (by rw [hc8] <;> decide +kernel) rfl ?_
      refine g_aload_n (dk D_X10_ofLine 14 rfl) rfl ?_
      refine g_getI fl_RX10_171 (by decide) ht5 hc6 (dk D_X10_ofLine 15 rfl) ?_
      exact g_ireturn rfl rfl Sx.rf rfl (by decide) (by decide) (dk D_X10_ofLine 16 rfl)
    refine g_ite (fun hc9 => ?_) (fun hc9 => ?_)
    · refine g_tabIn (tgt := 78) (off := 62) (dk D_X10_ofLine 10 rfl) (by rw [hc9] <;> decide +kernel) (by rw [hc9] <;> decide +kernel) (by rw [hc9] <;> decide +kernel) rfl ?_
      refine g_aload_n (dk D_X10_ofLine 17 rfl) rfl ?_
      refine g_getI fl_RX10_174 (by decide) ht5 hc6 (dk D_X10_ofLine 18 rfl) ?_
      exact g_ireturn rfl rfl Sx.rf rfl (by decide) (by decide) (dk D_X10_ofLine 19 rfl)
    refine g_ite (fun hc10 => ?_) (fun hc10 => ?_)
    · refine g_tabIn (tgt := 83) (off := 67) (dk D_X10_ofLine 10 rfl) (by rw [hc10] <;> decide +kernel) (by rw [hc10] <;> decide +kernel) (by rw [hc10] <;> decide +kernel) rfl ?_
      refine g_aload_n (dk D_X10_ofLine 20 rfl) rfl ?_
      refine g_getI fl_RX10_177 (by decide) ht5 hc6 (dk D_X10_ofLine 21 rfl) ?_
      exact g_ireturn rfl rfl Sx.rf rfl (by decide) (by decide) (dk D_X10_ofLine 22 rfl)
    refine g_ite (fun hc11 => ?_) (fun hc11 => ?_)
    · refine g_tabIn (tgt := 88) (off := 72) (dk D_X10_ofLine 10 rfl) (by rw [hc11] <;> decide +kernel) (by rw [hc11] <;> decide +kernel) (by rw [hc11] <;> decide +kernel) rfl ?_
      refine g_aload_n (dk D_X10_ofLine 23 rfl) rfl ?_
      refine g_getI fl_RX10_180 (by decide) ht5 hc6 (dk D_X10_ofLine 24 rfl) ?_
      exact g_ireturn rfl rfl Sx.rf rfl (by decide) (by decide) (dk D_X10_ofLine 25 rfl)
    refine g_ite (fun hc12 => ?_) (fun hc12 => ?_)
    · refine g_tabIn (tgt := 93) (off := 77) (dk D_X10_ofLine 10 rfl) (by rw [hc12] <;> decide +kernel) (by rw [hc12] <;> decide +kernel) (by rw [hc12] <;> decide +kernel) rfl ?_
      refine g_aload_n (dk D_X10_ofLine 26 rfl) rfl ?_
      refine g_getI fl_RX10_162 (by decide) ht5 hc6 (dk D_X10_ofLine 27 rfl) ?_
      exact g_ireturn rfl rfl Sx.rf rfl (by decide) (by decide) (dk D_X10_ofLine 28 rfl)
    refine g_ite (fun hc13 => ?_) (fun hc13 => ?_)
    · refine g_tabIn (tgt := 98) (off := 82) (dk D_X10_ofLine 10 rfl) (by rw [hc13] <;> decide +kernel) (by rw [hc13] <;> decide +kernel) (by rw [hc13] <;> decide +kernel) rfl ?_
      refine g_aload_n (dk D_X10_ofLine 29 rfl) rfl ?_
      refine g_getI fl_RX10_165 (by decide) ht5 hc6 (dk D_X10_ofLine 30 rfl) ?_
      exact g_ireturn rfl rfl Sx.rf rfl (by decide) (by decide) (dk D_X10_ofLine 31 rfl)
    refine g_ite (fun hc14 => ?_) (fun hc14 => ?_)
    · refine g_tabIn (tgt := 103) (off := 87) (dk D_X10_ofLine 10 rfl) (by rw [hc14] <;> decide +kernel) (by rw [hc14] <;> decide +kernel) (by rw [hc14] <;> decide +kernel) rfl ?_
      refine g_aload_n (dk D_X10_ofLine 32 rfl) rfl ?_
      refine g_bind (fun q15 hq16 => ?_)
      refine h_callV (st := []) (c_X1_roundMinutes (E := E) fu S0 I0 (q3 - 1) q15 hq16 (ht5.nz hc6)) cl_RX10_183 ht5 hc6 rfl rfl (by decide) (Nat.le_of_ble_eq_true rfl) (dk D_X10_ofLine 33 rfl) ?_
      exact g_ireturn rfl rfl Sx.rf rfl (by decide) (by decide) (dk D_X10_ofLine 34 rfl)
    refine g_ite (fun hc18 => ?_) (fun hc18 => ?_)
    · refine g_tabIn (tgt := 108) (off := 92) (dk D_X10_ofLine 10 rfl) (by rw [hc18] <;> decide +kernel) (by rw [hc18] <;> decide +kernel) (by rw [hc18] <;> decide +kernel) rfl ?_
      refine g_aload_n (dk D_X10_ofLine 35 rfl) rfl ?_
      refine g_bind (fun q19 hq20 => ?_)
      refine h_callV (st := []) (c_X1_buses (E := E) fu S0 I0 (q3 - 1) q19 hq20 (ht5.nz hc6)) cl_RX10_187 ht5 hc6 rfl rfl (by decide) (Nat.le_of_ble_eq_true rfl) (dk D_X10_ofLine 36 rfl) ?_
      exact g_ireturn rfl rfl Sx.rf rfl (by decide) (by decide) (dk D_X10_ofLine 37 rfl)
    refine g_tabOut (tgt := 113) (dk D_X10_ofLine 10 rfl) (tabOut (n := 9) (by decide) (fun k hk => (match k, hk with | 0, _ => hc7 | 1, _ => hc8 | 2, _ => hc9 | 3, _ => hc10 | 4, _ => hc11 | 5, _ => hc12 | 6, _ => hc13 | 7, _ => hc14 | 8, _ => hc18 | k + 9, hk => absurd hk (by omega)))) rfl ?_
    refine g_iload_n (dk D_X10_ofLine 38 rfl) rfl ?_
    refine g_bipush (v := (10 : Int32)) (dk D_X10_ofLine 39 rfl) rfl ?_
    refine g_icmp_lt (tgt := 142) (dk D_X10_ofLine 40 rfl) rfl (fun hc22 => ?_) (fun hc22 => ?_)
    · refine g_bipush (v := ((-2) : Int32)) (dk D_X10_ofLine 54 rfl) rfl ?_
      exact g_ireturn rfl rfl Sx.rf rfl (by decide) (by decide) (dk D_X10_ofLine 55 rfl)
    · refine g_aload_n (dk D_X10_ofLine 41 rfl) rfl ?_
      refine g_iload_n (dk D_X10_ofLine 42 rfl) rfl ?_
      refine g_bipush (v := (10 : Int32)) (dk D_X10_ofLine 43 rfl) rfl ?_
      refine g_isub (dk D_X10_ofLine 44 rfl) ?_
      refine h_callV (st := []) (c_X1_hasPlace (E := E) S0 I0 (q3 - 1) (x2 - (10 : Int32)) (ht5.nz hc6)) cl_RX10_190 ht5 hc6 rfl rfl (by decide) (Nat.le_of_ble_eq_true rfl) (dk D_X10_ofLine 45 rfl) ?_
      refine g_if_eq (tgt := 142) (dk D_X10_ofLine 46 rfl) rfl (fun hc24 => ?_) (fun hc24 => ?_)
      · refine g_bipush (v := ((-2) : Int32)) (dk D_X10_ofLine 54 rfl) rfl ?_
        exact g_ireturn rfl rfl Sx.rf rfl (by decide) (by decide) (dk D_X10_ofLine 55 rfl)
      · refine g_aload_n (dk D_X10_ofLine 47 rfl) rfl ?_
        refine g_getA (t := 100) fl_RX10_193 rfl ht5 hc6 (dk D_X10_ofLine 48 rfl) (fun ht25 => ?_)
        refine g_iload_n (dk D_X10_ofLine 49 rfl) rfl ?_
        refine g_bipush (v := (10 : Int32)) (dk D_X10_ofLine 50 rfl) rfl ?_
        refine g_isub (dk D_X10_ofLine 51 rfl) ?_
        refine g_gd (fun hi26 => ?_)
        refine g_iaload ht25 hi26 (dk D_X10_ofLine 52 rfl) ?_
        refine g_goto (tgt := 144) (dk D_X10_ofLine 53 rfl) rfl ?_
        exact g_ireturn rfl rfl Sx.rf rfl (by decide) (by decide) (dk D_X10_ofLine 55 rfl)
  · refine g_iconst (v := ((-1) : Int32)) (dk D_X10_ofLine 7 rfl) rfl ?_
    exact g_ireturn rfl rfl Sx.rf rfl (by decide) (by decide) (dk D_X10_ofLine 8 rfl)
theorem c_X10_ofLine {E : EV} (fu : Nat) (S0 : Sk) (I0 : II) (a0 : Nat) (x1 : Int32) (x2 : Int32) (r : Int32) (h : f_X10_ofLine fu S0 I0 a0 x1 x2 = some r) (ht0 : tyO S0 10 a0) : MX E yX10_ofLine i_X10_ofLine S0 I0 [vA (a0 + 1), vI x1, vI x2] (po_X10_ofLine S0 I0 r) :=
  MX.of h (by decide) rfl rfl (Nat.le_of_ble_eq_true rfl) (gg_X10_ofLine fu S0 I0 a0 x1 x2 ht0)
theorem cl_RX10_196 : CV0 RX10 196 yX1_goesOn i_X1_goesOn 1 1 := ⟨⟨(gm 505 (by decide +kernel) (by decide +kernel)), (gm 76 (by decide +kernel) (by decide +kernel)), ((gm 508 (by decide +kernel) (by decide +kernel))), by decide +kernel, by decide +kernel, by decide +kernel⟩, ⟨(gm 506 (by decide +kernel) (by decide +kernel)), (gm 507 (by decide +kernel) (by decide +kernel))⟩, rfl, by decide⟩
def tb_X10_runs : List (Nat × Instr × Nat) := [(0, .aload_n 0, 1), (1, .getfield 12, 3), (4, .iload_n 1, 1), (5, .invokevirtual 155, 3), (8, .astore_n 3, 1), (9, .aload_n 3, 1), (10, .ifnonnull 5, 3), (13, .iconst (-1), 1), (14, .ireturn, 1), (15, .iload_n 2, 1), (16, .invokestatic 159, 3), (19, .ifCond .ne 6, 3), (22, .bipush (-2), 2), (24, .ireturn, 1), (25, .aload_n 3, 1), (26, .iload_n 2, 1), (27, .invokevirtual 196, 3), (30, .ifCond .eq 7, 3), (33, .iconst 1, 1), (34, .goto 4, 3), (37, .iconst 0, 1), (38, .ireturn, 1)]
def i_X10_runs : MI := (RX10, cX10_runs, 4, (some .int), "runs", { frames := 2, cells := 0, slots := 0, locals := 42 })
theorem D_X10_runs : tbOK (i_X10_runs).2.1 tb_X10_runs := by show ∀ q ∈ tb_X10_runs, decode cX10_runs q.1 = .ok (q.2.1, q.2.2); decide +kernel
def po_X10_runs (S : Sk) (I : II) (r : Int32) : Option LV × Sk × II := (some (vI r), S, I)
def f_X10_runs (fu : Nat) (S : Sk) (I : II) (a0 : Nat) (x1 : Int32) (x2 : Int32) : Option (Int32) :=
  gd ((S.1 a0 0) ≠ 0) ((f_X2_lineAt fu S I ((S.1 a0 0) - 1) x1).bind fun q3 => (if q3 = 0 then some (((-1) : Int32)) else if (t_X10_isDay x2) = 0 then some (((-2) : Int32)) else if (t_X1_goesOn I (q3 - 1) x2) = 0 then some ((0 : Int32)) else some ((1 : Int32))))
set_option maxRecDepth 100000 in
set_option maxHeartbeats 4000000 in
theorem gg_X10_runs {E : EV} (fu : Nat) (S0 : Sk) (I0 : II) (a0 : Nat) (x1 : Int32) (x2 : Int32) (ht0 : tyO S0 10 a0) : GG E i_X10_runs (enM E i_X10_runs S0 (po_X10_runs S0 I0)) S0 I0 (0, 0) 0 [(0, vA (a0 + 1)), (1, vI x1), (2, vI x2)] [] (f_X10_runs fu S0 I0 a0 x1 x2) := by
  unfold f_X10_runs
  refine g_aload_n (dk D_X10_runs 0 rfl) rfl ?_
  refine g_getAt (t := 2) fl_RX10_12 rfl ht0 (dk D_X10_runs 1 rfl) (fun ht1 => ?_)
  refine g_iload_n (dk D_X10_runs 2 rfl) rfl ?_
  refine g_gd (fun hn2 => ?_)
  refine g_bind (fun q3 hq4 => ?_)
  refine h_callVA (st := []) (c_X2_lineAt (E := E) fu S0 I0 ((S0.1 a0 0) - 1) x1 q3 hq4 (ht1.nz hn2)) rt_X2_lineAt cl_RX10_155 ht1 hn2 rfl rfl (by decide) (Nat.le_of_ble_eq_true rfl) (dk D_X10_runs 3 rfl) (fun ht5 => ?_)
  refine g_astore_n (L' := [(0, vA (a0 + 1)), (1, vI x1), (2, vI x2), (3, vA q3)]) (dk D_X10_runs 4 rfl) (Nat.le_of_ble_eq_true rfl) rfl ?_
  refine g_aload_n (dk D_X10_runs 5 rfl) rfl ?_
  refine g_ifnonnull (tgt := 15) (dk D_X10_runs 6 rfl) rfl (fun hc6 => ?_) (fun hc6 => ?_)
  · refine g_iload_n (dk D_X10_runs 9 rfl) rfl ?_
    refine h_callS (st := []) (c_X10_isDay (E := E) S0 I0 x2) cl_RX10_159 rfl rfl (by decide) (Nat.le_of_ble_eq_true rfl) (dk D_X10_runs 10 rfl) ?_
    refine g_if_ne (tgt := 25) (dk D_X10_runs 11 rfl) rfl (fun hc8 => ?_) (fun hc8 => ?_)
    · refine g_aload_n (dk D_X10_runs 14 rfl) rfl ?_
      refine g_iload_n (dk D_X10_runs 15 rfl) rfl ?_
      refine h_callV (st := []) (c_X1_goesOn (E := E) S0 I0 (q3 - 1) x2 (ht5.nz hc6)) cl_RX10_196 ht5 hc6 rfl rfl (by decide) (Nat.le_of_ble_eq_true rfl) (dk D_X10_runs 16 rfl) ?_
      refine g_if_eq (tgt := 37) (dk D_X10_runs 17 rfl) rfl (fun hc10 => ?_) (fun hc10 => ?_)
      · refine g_iconst (v := (0 : Int32)) (dk D_X10_runs 20 rfl) rfl ?_
        exact g_ireturn rfl rfl Sx.rf rfl (by decide) (by decide) (dk D_X10_runs 21 rfl)
      · refine g_iconst (v := (1 : Int32)) (dk D_X10_runs 18 rfl) rfl ?_
        refine g_goto (tgt := 38) (dk D_X10_runs 19 rfl) rfl ?_
        exact g_ireturn rfl rfl Sx.rf rfl (by decide) (by decide) (dk D_X10_runs 21 rfl)
    · refine g_bipush (v := ((-2) : Int32)) (dk D_X10_runs 12 rfl) rfl ?_
      exact g_ireturn rfl rfl Sx.rf rfl (by decide) (by decide) (dk D_X10_runs 13 rfl)
  · refine g_iconst (v := ((-1) : Int32)) (dk D_X10_runs 7 rfl) rfl ?_
    exact g_ireturn rfl rfl Sx.rf rfl (by decide) (by decide) (dk D_X10_runs 8 rfl)
theorem c_X10_runs {E : EV} (fu : Nat) (S0 : Sk) (I0 : II) (a0 : Nat) (x1 : Int32) (x2 : Int32) (r : Int32) (h : f_X10_runs fu S0 I0 a0 x1 x2 = some r) (ht0 : tyO S0 10 a0) : MX E yX10_runs i_X10_runs S0 I0 [vA (a0 + 1), vI x1, vI x2] (po_X10_runs S0 I0 r) :=
  MX.of h (by decide) rfl rfl (Nat.le_of_ble_eq_true rfl) (gg_X10_runs fu S0 I0 a0 x1 x2 ht0)
theorem cl_RX10_199 : CV0 RX10 199 yX1_startOfBus i_X1_startOfBus 2 1 := ⟨⟨(gm 513 (by decide +kernel) (by decide +kernel)), (gm 76 (by decide +kernel) (by decide +kernel)), ((gm 516 (by decide +kernel) (by decide +kernel))), by decide +kernel, by decide +kernel, by decide +kernel⟩, ⟨(gm 514 (by decide +kernel) (by decide +kernel)), (gm 515 (by decide +kernel) (by decide +kernel))⟩, rfl, by decide⟩
theorem lk_RX10_202 : Cond.constant RX10 202 (1073741824 : Int32) ∈ lw_good := (gm 518 (by decide +kernel) (by decide +kernel))
theorem fl_RX10_203 : FL RX10 203 1 7 := ⟨RX1, TX1, 11, rfl, by decide, rfl, by decide, (gm 438 (by decide +kernel) (by decide +kernel)), inG1⟩
def tb_X10_minute : List (Nat × Instr × Nat) := [(0, .aload_n 0, 1), (1, .getfield 12, 3), (4, .iload_n 1, 1), (5, .invokevirtual 155, 3), (8, .astore 4, 2), (10, .aload 4, 2), (12, .ifnull 12, 3), (15, .aload 4, 2), (17, .iload_n 2, 1), (18, .invokevirtual 190, 3), (21, .ifCond .ne 5, 3), (24, .iconst (-1), 1), (25, .ireturn, 1), (26, .iload_n 3, 1), (27, .ifCond .lt 10, 3), (30, .iload_n 3, 1), (31, .sipush 2880, 3), (34, .if_icmp .lt 6, 3), (37, .bipush (-2), 2), (39, .ireturn, 1), (40, .aload 4, 2), (42, .iload_n 2, 1), (43, .iload_n 3, 1), (44, .invokevirtual 199, 3), (47, .istore 5, 2), (49, .iload 5, 2), (51, .ldc 202, 2), (53, .if_icmp .ne 8, 3), (56, .bipush (-9), 2), (58, .goto 13, 3), (61, .iload 5, 2), (63, .aload 4, 2), (65, .getfield 203, 3), (68, .iload_n 2, 1), (69, .iaload, 1), (70, .iadd, 1), (71, .ireturn, 1)]
def i_X10_minute : MI := (RX10, cX10_minute, 6, (some .int), "minute", { frames := 1, cells := 0, slots := 0, locals := 24 })
theorem D_X10_minute : tbOK (i_X10_minute).2.1 tb_X10_minute := by show ∀ q ∈ tb_X10_minute, decode cX10_minute q.1 = .ok (q.2.1, q.2.2); decide +kernel
def po_X10_minute (S : Sk) (I : II) (r : Int32) : Option LV × Sk × II := (some (vI r), S, I)
def f_X10_minute (fu : Nat) (S : Sk) (I : II) (a0 : Nat) (x1 : Int32) (x2 : Int32) (x3 : Int32) : Option (Int32) :=
  gd ((S.1 a0 0) ≠ 0) ((f_X2_lineAt fu S I ((S.1 a0 0) - 1) x1).bind fun q3 => (if q3 = 0 then some (((-1) : Int32)) else if (t_X1_hasPlace I (q3 - 1) x2) = 0 then some (((-1) : Int32)) else if x3 < 0 then some (((-2) : Int32)) else if x3 < (2880 : Int32) then (f_X1_startOfBus fu S I (q3 - 1) x2 x3).bind fun q11 => (if q11 = (1073741824 : Int32) then some (((-9) : Int32)) else gd (inb S (S.1 (q3 - 1) 7) x2) (some ((q11 + (rd I (S.1 (q3 - 1) 7) x2))))) else some (((-2) : Int32))))
set_option maxRecDepth 100000 in
set_option maxHeartbeats 4000000 in
theorem gg_X10_minute {E : EV} (fu : Nat) (S0 : Sk) (I0 : II) (a0 : Nat) (x1 : Int32) (x2 : Int32) (x3 : Int32) (ht0 : tyO S0 10 a0) : GG E i_X10_minute (enM E i_X10_minute S0 (po_X10_minute S0 I0)) S0 I0 (0, 0) 0 [(0, vA (a0 + 1)), (1, vI x1), (2, vI x2), (3, vI x3)] [] (f_X10_minute fu S0 I0 a0 x1 x2 x3) := by
  unfold f_X10_minute
  refine g_aload_n (dk D_X10_minute 0 rfl) rfl ?_
  refine g_getAt (t := 2) fl_RX10_12 rfl ht0 (dk D_X10_minute 1 rfl) (fun ht1 => ?_)
  refine g_iload_n (dk D_X10_minute 2 rfl) rfl ?_
  refine g_gd (fun hn2 => ?_)
  refine g_bind (fun q3 hq4 => ?_)
  refine h_callVA (st := []) (c_X2_lineAt (E := E) fu S0 I0 ((S0.1 a0 0) - 1) x1 q3 hq4 (ht1.nz hn2)) rt_X2_lineAt cl_RX10_155 ht1 hn2 rfl rfl (by decide) (Nat.le_of_ble_eq_true rfl) (dk D_X10_minute 3 rfl) (fun ht5 => ?_)
  refine g_astore (L' := [(0, vA (a0 + 1)), (1, vI x1), (2, vI x2), (3, vI x3), (4, vA q3)]) (dk D_X10_minute 4 rfl) (Nat.le_of_ble_eq_true rfl) rfl ?_
  refine g_aload (dk D_X10_minute 5 rfl) rfl ?_
  refine g_ifnull (tgt := 24) (dk D_X10_minute 6 rfl) rfl (fun hc6 => ?_) (fun hc6 => ?_)
  · refine g_iconst (v := ((-1) : Int32)) (dk D_X10_minute 11 rfl) rfl ?_
    exact g_ireturn rfl rfl Sx.rf rfl (by decide) (by decide) (dk D_X10_minute 12 rfl)
  · refine g_aload (dk D_X10_minute 7 rfl) rfl ?_
    refine g_iload_n (dk D_X10_minute 8 rfl) rfl ?_
    refine h_callV (st := []) (c_X1_hasPlace (E := E) S0 I0 (q3 - 1) x2 (ht5.nz hc6)) cl_RX10_190 ht5 hc6 rfl rfl (by decide) (Nat.le_of_ble_eq_true rfl) (dk D_X10_minute 9 rfl) ?_
    refine g_if_ne (tgt := 26) (dk D_X10_minute 10 rfl) rfl (fun hc8 => ?_) (fun hc8 => ?_)
    · refine g_iload_n (dk D_X10_minute 13 rfl) rfl ?_
      refine g_if_lt (tgt := 37) (dk D_X10_minute 14 rfl) rfl (fun hc9 => ?_) (fun hc9 => ?_)
      · refine g_bipush (v := ((-2) : Int32)) (dk D_X10_minute 18 rfl) rfl ?_
        exact g_ireturn rfl rfl Sx.rf rfl (by decide) (by decide) (dk D_X10_minute 19 rfl)
      · refine g_iload_n (dk D_X10_minute 15 rfl) rfl ?_
        refine g_sipush (v := (2880 : Int32)) (dk D_X10_minute 16 rfl) rfl ?_
        refine g_icmp_lt (tgt := 40) (dk D_X10_minute 17 rfl) rfl (fun hc10 => ?_) (fun hc10 => ?_)
        · refine g_aload (dk D_X10_minute 20 rfl) rfl ?_
          refine g_iload_n (dk D_X10_minute 21 rfl) rfl ?_
          refine g_iload_n (dk D_X10_minute 22 rfl) rfl ?_
          refine g_bind (fun q11 hq12 => ?_)
          refine h_callV (st := []) (c_X1_startOfBus (E := E) fu S0 I0 (q3 - 1) x2 x3 q11 hq12 (ht5.nz hc6)) cl_RX10_199 ht5 hc6 rfl rfl (by decide) (Nat.le_of_ble_eq_true rfl) (dk D_X10_minute 23 rfl) ?_
          refine g_istore (L' := [(0, vA (a0 + 1)), (1, vI x1), (2, vI x2), (3, vI x3), (4, vA q3), (5, vI q11)]) (dk D_X10_minute 24 rfl) (Nat.le_of_ble_eq_true rfl) rfl ?_
          refine g_iload (dk D_X10_minute 25 rfl) rfl ?_
          refine g_ldc (dk D_X10_minute 26 rfl) lk_RX10_202 ?_
          refine g_icmp_ne (tgt := 61) (dk D_X10_minute 27 rfl) rfl (fun hc14 => ?_) (fun hc14 => ?_)
          · refine g_iload (dk D_X10_minute 30 rfl) rfl ?_
            refine g_aload (dk D_X10_minute 31 rfl) rfl ?_
            refine g_getA (t := 100) fl_RX10_203 rfl ht5 hc6 (dk D_X10_minute 32 rfl) (fun ht15 => ?_)
            refine g_iload_n (dk D_X10_minute 33 rfl) rfl ?_
            refine g_gd (fun hi16 => ?_)
            refine g_iaload ht15 hi16 (dk D_X10_minute 34 rfl) ?_
            refine g_iadd (dk D_X10_minute 35 rfl) ?_
            exact g_ireturn rfl rfl Sx.rf rfl (by decide) (by decide) (dk D_X10_minute 36 rfl)
          · refine g_bipush (v := ((-9) : Int32)) (dk D_X10_minute 28 rfl) rfl ?_
            refine g_goto (tgt := 71) (dk D_X10_minute 29 rfl) rfl ?_
            exact g_ireturn rfl rfl Sx.rf rfl (by decide) (by decide) (dk D_X10_minute 36 rfl)
        · refine g_bipush (v := ((-2) : Int32)) (dk D_X10_minute 18 rfl) rfl ?_
          exact g_ireturn rfl rfl Sx.rf rfl (by decide) (by decide) (dk D_X10_minute 19 rfl)
    · refine g_iconst (v := ((-1) : Int32)) (dk D_X10_minute 11 rfl) rfl ?_
      exact g_ireturn rfl rfl Sx.rf rfl (by decide) (by decide) (dk D_X10_minute 12 rfl)
theorem c_X10_minute {E : EV} (fu : Nat) (S0 : Sk) (I0 : II) (a0 : Nat) (x1 : Int32) (x2 : Int32) (x3 : Int32) (r : Int32) (h : f_X10_minute fu S0 I0 a0 x1 x2 x3 = some r) (ht0 : tyO S0 10 a0) : MX E yX10_minute i_X10_minute S0 I0 [vA (a0 + 1), vI x1, vI x2, vI x3] (po_X10_minute S0 I0 r) :=
  MX.of h (by decide) rfl rfl (Nat.le_of_ble_eq_true rfl) (gg_X10_minute fu S0 I0 a0 x1 x2 x3 ht0)
theorem cl_RX10_206 : CV0 RX10 206 yX2_hasStop i_X2_hasStop 1 2 := ⟨⟨(gm 523 (by decide +kernel) (by decide +kernel)), (gm 67 (by decide +kernel) (by decide +kernel)), ((gm 404 (by decide +kernel) (by decide +kernel))), by decide +kernel, by decide +kernel, by decide +kernel⟩, ⟨(gm 402 (by decide +kernel) (by decide +kernel)), (gm 403 (by decide +kernel) (by decide +kernel))⟩, rfl, by decide⟩
theorem cl_RX10_209 : CV0 RX10 209 yX2_walk i_X2_walk 2 2 := ⟨⟨(gm 524 (by decide +kernel) (by decide +kernel)), (gm 67 (by decide +kernel) (by decide +kernel)), ((gm 527 (by decide +kernel) (by decide +kernel))), by decide +kernel, by decide +kernel, by decide +kernel⟩, ⟨(gm 525 (by decide +kernel) (by decide +kernel)), (gm 526 (by decide +kernel) (by decide +kernel))⟩, rfl, by decide⟩
def tb_X10_far : List (Nat × Instr × Nat) := [(0, .aload_n 0, 1), (1, .getfield 12, 3), (4, .iload_n 1, 1), (5, .invokevirtual 206, 3), (8, .ifCond .eq 14, 3), (11, .aload_n 0, 1), (12, .getfield 12, 3), (15, .iload_n 2, 1), (16, .invokevirtual 206, 3), (19, .ifCond .ne 5, 3), (22, .iconst (-1), 1), (23, .ireturn, 1), (24, .aload_n 0, 1), (25, .getfield 12, 3), (28, .iload_n 1, 1), (29, .iload_n 2, 1), (30, .invokevirtual 209, 3), (33, .ireturn, 1)]
def i_X10_far : MI := (RX10, cX10_far, 3, (some .int), "far", { frames := 1, cells := 0, slots := 0, locals := 22 })
theorem D_X10_far : tbOK (i_X10_far).2.1 tb_X10_far := by show ∀ q ∈ tb_X10_far, decode cX10_far q.1 = .ok (q.2.1, q.2.2); decide +kernel
def po_X10_far (S : Sk) (I : II) (r : Int32) : Option LV × Sk × II := (some (vI r), S, I)
def f_X10_far (fu : Nat) (S : Sk) (I : II) (a0 : Nat) (x1 : Int32) (x2 : Int32) : Option (Int32) :=
  gd ((S.1 a0 0) ≠ 0) (if (t_X2_hasStop I ((S.1 a0 0) - 1) x1) = 0 then some (((-1) : Int32)) else if (t_X2_hasStop I ((S.1 a0 0) - 1) x2) = 0 then some (((-1) : Int32)) else (f_X2_walk fu S I ((S.1 a0 0) - 1) x1 x2).bind fun q9 => (some (q9)))
set_option maxRecDepth 100000 in
set_option maxHeartbeats 4000000 in
theorem gg_X10_far {E : EV} (fu : Nat) (S0 : Sk) (I0 : II) (a0 : Nat) (x1 : Int32) (x2 : Int32) (ht0 : tyO S0 10 a0) : GG E i_X10_far (enM E i_X10_far S0 (po_X10_far S0 I0)) S0 I0 (0, 0) 0 [(0, vA (a0 + 1)), (1, vI x1), (2, vI x2)] [] (f_X10_far fu S0 I0 a0 x1 x2) := by
  unfold f_X10_far
  refine g_aload_n (dk D_X10_far 0 rfl) rfl ?_
  refine g_getAt (t := 2) fl_RX10_12 rfl ht0 (dk D_X10_far 1 rfl) (fun ht1 => ?_)
  refine g_iload_n (dk D_X10_far 2 rfl) rfl ?_
  refine g_gd (fun hn2 => ?_)
  refine h_callV (st := []) (c_X2_hasStop (E := E) S0 I0 ((S0.1 a0 0) - 1) x1 (ht1.nz hn2)) cl_RX10_206 ht1 hn2 rfl rfl (by decide) (Nat.le_of_ble_eq_true rfl) (dk D_X10_far 3 rfl) ?_
  refine g_if_eq (tgt := 22) (dk D_X10_far 4 rfl) rfl (fun hc4 => ?_) (fun hc4 => ?_)
  · refine g_iconst (v := ((-1) : Int32)) (dk D_X10_far 10 rfl) rfl ?_
    exact g_ireturn rfl rfl Sx.rf rfl (by decide) (by decide) (dk D_X10_far 11 rfl)
  · refine g_aload_n (dk D_X10_far 5 rfl) rfl ?_
    refine g_getAt (t := 2) fl_RX10_12 rfl ht0 (dk D_X10_far 6 rfl) (fun ht5 => ?_)
    refine g_iload_n (dk D_X10_far 7 rfl) rfl ?_
    refine h_callV (st := []) (c_X2_hasStop (E := E) S0 I0 ((S0.1 a0 0) - 1) x2 (ht1.nz hn2)) cl_RX10_206 ht1 hn2 rfl rfl (by decide) (Nat.le_of_ble_eq_true rfl) (dk D_X10_far 8 rfl) ?_
    refine g_if_ne (tgt := 24) (dk D_X10_far 9 rfl) rfl (fun hc7 => ?_) (fun hc7 => ?_)
    · refine g_aload_n (dk D_X10_far 12 rfl) rfl ?_
      refine g_getAt (t := 2) fl_RX10_12 rfl ht0 (dk D_X10_far 13 rfl) (fun ht8 => ?_)
      refine g_iload_n (dk D_X10_far 14 rfl) rfl ?_
      refine g_iload_n (dk D_X10_far 15 rfl) rfl ?_
      refine g_bind (fun q9 hq10 => ?_)
      refine h_callV (st := []) (c_X2_walk (E := E) fu S0 I0 ((S0.1 a0 0) - 1) x1 x2 q9 hq10 (ht1.nz hn2)) cl_RX10_209 ht1 hn2 rfl rfl (by decide) (Nat.le_of_ble_eq_true rfl) (dk D_X10_far 16 rfl) ?_
      exact g_ireturn rfl rfl Sx.rf rfl (by decide) (by decide) (dk D_X10_far 17 rfl)
    · refine g_iconst (v := ((-1) : Int32)) (dk D_X10_far 10 rfl) rfl ?_
      exact g_ireturn rfl rfl Sx.rf rfl (by decide) (by decide) (dk D_X10_far 11 rfl)
theorem c_X10_far {E : EV} (fu : Nat) (S0 : Sk) (I0 : II) (a0 : Nat) (x1 : Int32) (x2 : Int32) (r : Int32) (h : f_X10_far fu S0 I0 a0 x1 x2 = some r) (ht0 : tyO S0 10 a0) : MX E yX10_far i_X10_far S0 I0 [vA (a0 + 1), vI x1, vI x2] (po_X10_far S0 I0 r) :=
  MX.of h (by decide) rfl rfl (Nat.le_of_ble_eq_true rfl) (gg_X10_far fu S0 I0 a0 x1 x2 ht0)
theorem nw_RX10_18 : NW RX10 18 7 := ⟨RX7, TX7, 1, tyX7, rfl, rfl, by decide, tyX7_ok, by decide +kernel, (gm 125 (by decide +kernel) (by decide +kernel)), (gm 532 (by decide +kernel) (by decide +kernel)), (gm 77 (by decide +kernel) (by decide +kernel)), inG7⟩
theorem cl_RX10_212 : LkN RX10 212 yX7_init "RedrawnLines" i_X7_init 0 := ⟨(gmN 533 (by decide +kernel) (by decide +kernel)), (gm 77 (by decide +kernel) (by decide +kernel)), (gm 535 (by decide +kernel) (by decide +kernel)), by decide +kernel, by decide +kernel, by decide +kernel⟩
theorem si_X7_init : Cond.instanceMethod yX7_init ∈ lw_good := (gm 534 (by decide +kernel) (by decide +kernel))
theorem cl_RX10_213 : CV0 RX10 213 yX7_firstFault i_X7_firstFault 2 7 := ⟨⟨(gm 541 (by decide +kernel) (by decide +kernel)), (gm 77 (by decide +kernel) (by decide +kernel)), ((gm 544 (by decide +kernel) (by decide +kernel))), by decide +kernel, by decide +kernel, by decide +kernel⟩, ⟨(gm 542 (by decide +kernel) (by decide +kernel)), (gm 543 (by decide +kernel) (by decide +kernel))⟩, rfl, by decide⟩
def tb_X10_text : List (Nat × Instr × Nat) := [(0, .aload_n 0, 1), (1, .iconst 0, 1), (2, .putfield 100, 3), (5, .iload_n 1, 1), (6, .invokestatic 115, 3), (9, .ifCond .ne 5, 3), (12, .iconst (-1), 1), (13, .ireturn, 1), (14, .iload_n 2, 1), (15, .invokestatic 126, 3), (18, .ifCond .ne 6, 3), (21, .bipush (-2), 2), (23, .ireturn, 1), (24, .aload_n 0, 1), (25, .getfield 93, 3), (28, .iload_n 1, 1), (29, .aaload, 1), (30, .iload_n 2, 1), (31, .iload_n 3, 1), (32, .iload 4, 2), (34, .iconst 1, 1), (35, .invokevirtual 129, 3), (38, .istore 5, 2), (40, .iload 5, 2), (42, .ifCond .eq 10, 3), (45, .aload_n 0, 1), (46, .iload 5, 2), (48, .invokevirtual 133, 3), (51, .ireturn, 1), (52, .new 18, 3), (55, .dup, 1), (56, .invokespecial 212, 3), (59, .astore 6, 2), (61, .aload 6, 2), (63, .aload_n 0, 1), (64, .getfield 93, 3), (67, .iload_n 1, 1), (68, .aaload, 1), (69, .iload_n 3, 1), (70, .iload 4, 2), (72, .invokevirtual 137, 3), (75, .aload_n 0, 1), (76, .getfield 12, 3), (79, .getfield 108, 3), (82, .invokevirtual 213, 3), (85, .istore 7, 2), (87, .iload 7, 2), (89, .ifCond .lt 9, 3), (92, .bipush (-100), 2), (94, .iload 7, 2), (96, .isub, 1), (97, .ireturn, 1), (98, .aload_n 0, 1), (99, .getfield 24, 3), (102, .bipush 12, 2), (104, .if_icmp .lt 6, 3), (107, .bipush (-4), 2), (109, .ireturn, 1), (110, .aload_n 0, 1), (111, .getfield 20, 3), (114, .aload_n 0, 1), (115, .getfield 24, 3), (118, .aload 6, 2), (120, .aastore, 1), (121, .aload_n 0, 1), (122, .dup, 1), (123, .getfield 24, 3), (126, .iconst 1, 1), (127, .iadd, 1), (128, .putfield 24, 3), (131, .aload_n 0, 1), (132, .getfield 24, 3), (135, .iconst 1, 1), (136, .isub, 1), (137, .ireturn, 1)]
def i_X10_text : MI := (RX10, cX10_text, 8, (some .int), "text", { frames := 4, cells := 3, slots := 65, locals := 148 })
theorem D_X10_text : tbOK (i_X10_text).2.1 tb_X10_text := by show ∀ q ∈ tb_X10_text, decode cX10_text q.1 = .ok (q.2.1, q.2.2); decide +kernel
def po_X10_text (S : Sk) (I : II) (r : Int32 × Sk × II) : Option LV × Sk × II := (some (vI r.1), r.2.1, r.2.2)
def f_X10_text (fu : Nat) (S : Sk) (I : II) (a0 : Nat) (x1 : Int32) (x2 : Int32) (x3 : Int32) (x4 : Int32) : Option (Int32 × Sk × II) :=
  lt (upI I a0 18 (0 : Int32)) fun I1 => (if (t_X10_isSheet x1) = 0 then some ((((-1) : Int32), S, I1)) else if (t_X10_isLane x2) = 0 then some ((((-2) : Int32), S, I1)) else gd (inb S (S.1 a0 16) x1) (gd ((S.1 ((S.1 a0 16) - 1) (nx x1)) ≠ 0) (lt (t_X5_rowFault I1 ((S.1 ((S.1 a0 16) - 1) (nx x1)) - 1) x2 x3 x4 (1 : Int32)) fun x5_11 => (if x5_11 = 0 then lt (nwS S 7 0) fun S13 => (lt (nwI S I1) fun I14 => ((f_X7_init fu S13 I14 S.2.2.2).bind fun q21 => (gd (inb q21.1 (q21.1.1 a0 16) x1) (gd ((q21.1.1 ((q21.1.1 a0 16) - 1) (nx x1)) ≠ 0) ((f_X5_cellsFrom fu q21.1 q21.2 ((q21.1.1 ((q21.1.1 a0 16) - 1) (nx x1)) - 1) x3 x4).bind fun q34 => (gd ((q34.2.1.1 a0 0) ≠ 0) ((f_X7_firstFault fu q34.2.1 q34.2.2 ((S.2.2.2 + 1) - 1) q34.1 (q34.2.2 ((q34.2.1.1 a0 0) - 1) 3)).bind fun q47 => (lt q47.1 fun x7_50 => (if x7_50 < 0 then if (q47.2 a0 2) < (12 : Int32) then gd (inb q34.2.1 (q34.2.1.1 a0 1) (q47.2 a0 2)) (lt (upP q34.2.1 ((q34.2.1.1 a0 1) - 1) (nx (q47.2 a0 2)) (S.2.2.2 + 1)) fun S55 => (lt (upI q47.2 a0 2 ((q47.2 a0 2) + (1 : Int32))) fun I67 => (some ((((I67 a0 2) - (1 : Int32)), S55, I67))))) else some ((((-4) : Int32), q34.2.1, q47.2)) else some (((((-100) : Int32) - x7_50), q34.2.1, q47.2))))))))))) else (f_X10_fail fu S I1 a0 x5_11).bind fun q68 => (some ((q68.1, S, q68.2)))))))
set_option maxRecDepth 100000 in
set_option maxHeartbeats 4000000 in
theorem gg_X10_text {E : EV} (fu : Nat) (S0 : Sk) (I0 : II) (a0 : Nat) (x1 : Int32) (x2 : Int32) (x3 : Int32) (x4 : Int32) (ht0 : tyO S0 10 a0) : GG E i_X10_text (enM E i_X10_text S0 (po_X10_text S0 I0)) S0 I0 (0, 0) 0 [(0, vA (a0 + 1)), (1, vI x1), (2, vI x2), (3, vI x3), (4, vI x4)] [] (f_X10_text fu S0 I0 a0 x1 x2 x3 x4) := by
  unfold f_X10_text
  refine g_aload_n (dk D_X10_text 0 rfl) rfl ?_
  refine g_iconst (v := (0 : Int32)) (dk D_X10_text 1 rfl) rfl ?_
  refine g_putIt fl_RX10_100 fp_10_18 (fun h => (by cases h)) (by decide) rfl rfl ht0 (dk D_X10_text 2 rfl) ?_
  refine g_ltI (fun I1 eI1 => ?_)
  refine g_iload_n (dk D_X10_text 3 rfl) rfl ?_
  refine h_callS (st := []) (c_X10_isSheet (E := E) S0 I1 x1) cl_RX10_115 rfl rfl ⟨⟨by decide, by decide⟩, ⟨rfl, rfl⟩, by show 0 ≤ 3; omega, by show 0 ≤ 65; omega⟩ (Nat.le_of_ble_eq_true rfl) (dk D_X10_text 4 rfl) ?_
  refine g_if_ne (tgt := 14) (dk D_X10_text 5 rfl) rfl (fun hc3 => ?_) (fun hc3 => ?_)
  · refine g_iload_n (dk D_X10_text 8 rfl) rfl ?_
    refine h_callS (st := []) (c_X10_isLane (E := E) S0 I1 x2) cl_RX10_126 rfl rfl ⟨⟨by decide, by decide⟩, ⟨rfl, rfl⟩, by show 0 ≤ 3; omega, by show 0 ≤ 65; omega⟩ (Nat.le_of_ble_eq_true rfl) (dk D_X10_text 9 rfl) ?_
    refine g_if_ne (tgt := 24) (dk D_X10_text 10 rfl) rfl (fun hc5 => ?_) (fun hc5 => ?_)
    · refine g_aload_n (dk D_X10_text 13 rfl) rfl ?_
      refine g_getAt (t := 115) fl_RX10_93 rfl ht0 (dk D_X10_text 14 rfl) (fun ht6 => ?_)
      refine g_iload_n (dk D_X10_text 15 rfl) rfl ?_
      refine g_gd (fun hi7 => ?_)
      refine g_aaload (c0 := 5) (by unfold aoC; decide) ht6 hi7 (dk D_X10_text 16 rfl) (fun ht8 => ?_)
      refine g_iload_n (dk D_X10_text 17 rfl) rfl ?_
      refine g_iload_n (dk D_X10_text 18 rfl) rfl ?_
      refine g_iload (dk D_X10_text 19 rfl) rfl ?_
      refine g_iconst (v := (1 : Int32)) (dk D_X10_text 20 rfl) rfl ?_
      refine g_gd (fun hn9 => ?_)
      refine h_callV (st := []) (c_X5_rowFault (E := E) S0 I1 ((S0.1 ((S0.1 a0 16) - 1) (nx x1)) - 1) x2 x3 x4 (1 : Int32) (ht8.nz hn9)) cl_RX10_129 ht8 hn9 rfl rfl ⟨⟨by decide, by decide⟩, ⟨rfl, rfl⟩, by show 0 ≤ 3; omega, by show 0 ≤ 65; omega⟩ (Nat.le_of_ble_eq_true rfl) (dk D_X10_text 21 rfl) ?_
      refine g_ltV (fun x5_11 ex5_11 => ?_)
      refine g_istore (L' := [(0, vA (a0 + 1)), (1, vI x1), (2, vI x2), (3, vI x3), (4, vI x4), (5, vI x5_11)]) (dk D_X10_text 22 rfl) (Nat.le_of_ble_eq_true rfl) rfl ?_
      refine g_iload (dk D_X10_text 23 rfl) rfl ?_
      refine g_if_eq (tgt := 52) (dk D_X10_text 24 rfl) rfl (fun hc12 => ?_) (fun hc12 => ?_)
      · refine g_new nw_RX10_18 (by show 0 + 1 ≤ 3; omega) (by show 0 + 1 ≤ 65; omega) (dk D_X10_text 29 rfl) ?_
        refine g_wide (cs' := (1, 1)) (by show 0 + 1 ≤ 1; omega) (by show 0 + 1 ≤ 1; omega) ?_
        refine g_ltS (fun S13 eS13 => ?_)
        refine g_ltI (fun I14 eI14 => ?_)
        have hx15 : Sx S0 S13 := eS13 ▸ nwS_x
        have ht16 := ht6.x hx15
        have ht17 := ht8.x hx15
        have ht18 := ht0.x hx15
        have hsx19 := Sx.tr Sx.rf hx15
        have ht20 : tyR S13 7 (S0.2.2.2 + 1) := eS13 ▸ nwS_ty.R
        refine g_dup (dk D_X10_text 30 rfl) rfl ?_
        refine g_bind (fun q21 hq22 => ?_)
        refine g_callIN (st := [vA (S0.2.2.2 + 1)]) (c_X7_init (E := E) fu S13 I14 S0.2.2.2 q21 hq22 (ht20.nz (Nat.succ_ne_zero _))) cl_RX10_212 rfl si_X7_init rfl rfl rfl ⟨⟨by decide, by decide⟩, by show 1 + 1 ≤ 3; omega, by show 1 + 4 ≤ 65; omega⟩ (Nat.le_of_ble_eq_true rfl) (dk D_X10_text 31 rfl) (fun hx24 => ?_)
        refine g_wide (cs' := (2, 5)) (by show 1 + 1 ≤ 2; omega) (by show 1 + 4 ≤ 5; omega) ?_
        have ht25 := ht16.x hx24
        have ht26 := ht17.x hx24
        have ht27 := ht20.x hx24
        have ht28 := ht18.x hx24
        have hsx29 := Sx.tr hsx19 hx24
        refine g_astore (L' := [(0, vA (a0 + 1)), (1, vI x1), (2, vI x2), (3, vI x3), (4, vI x4), (5, vI x5_11), (6, vA (S0.2.2.2 + 1))]) (dk D_X10_text 32 rfl) (Nat.le_of_ble_eq_true rfl) rfl ?_
        refine g_aload (dk D_X10_text 33 rfl) rfl ?_
        refine g_aload_n (dk D_X10_text 34 rfl) rfl ?_
        refine g_getAt (t := 115) fl_RX10_93 rfl ht28 (dk D_X10_text 35 rfl) (fun ht30 => ?_)
        refine g_iload_n (dk D_X10_text 36 rfl) rfl ?_
        refine g_gd (fun hi31 => ?_)
        refine g_aaload (c0 := 5) (by unfold aoC; decide) ht30 hi31 (dk D_X10_text 37 rfl) (fun ht32 => ?_)
        refine g_iload_n (dk D_X10_text 38 rfl) rfl ?_
        refine g_iload (dk D_X10_text 39 rfl) rfl ?_
        refine g_gd (fun hn33 => ?_)
        refine g_bind (fun q34 hq35 => ?_)
        refine g_callV' (st := [vA (S0.2.2.2 + 1)]) (c_X5_cellsFrom (E := E) fu q21.1 q21.2 ((q21.1.1 ((q21.1.1 a0 16) - 1) (nx x1)) - 1) x3 x4 q34 hq35 (ht32.nz hn33)) cl_RX10_137.1 cl_RX10_137.2.1 cl_RX10_137.2.2.1 cl_RX10_137.2.2.2 ht32 hn33 rfl rfl ⟨⟨by decide, by decide⟩, by show 2 + 1 ≤ 3; omega, by show 5 + 60 ≤ 65; omega⟩ (Nat.le_of_ble_eq_true rfl) (dk D_X10_text 40 rfl) (fun hx37 ht36 => ?_)
        refine g_wide (cs' := (3, 65)) (by show 2 + 1 ≤ 3; omega) (by show 5 + 60 ≤ 65; omega) ?_
        have ht38 := ht25.x hx37
        have ht39 := ht26.x hx37
        have ht40 := ht27.x hx37
        have ht41 := ht30.x hx37
        have ht42 := ht32.x hx37
        have ht43 := ht28.x hx37
        have hsx44 := Sx.tr hsx29 hx37
        have ht36 : tyR q34.2.1 100 q34.1 := rt_X5_cellsFrom ▸ ht36
        refine g_aload_n (dk D_X10_text 41 rfl) rfl ?_
        refine g_getAt (t := 2) fl_RX10_12 rfl ht43 (dk D_X10_text 42 rfl) (fun ht45 => ?_)
        refine g_gd (fun hn46 => ?_)
        refine g_getI fl_RX10_108 (by decide) ht45 hn46 (dk D_X10_text 43 rfl) ?_
        refine g_bind (fun q47 hq48 => ?_)
        refine h_callV (st := []) (c_X7_firstFault (E := E) fu q34.2.1 q34.2.2 ((S0.2.2.2 + 1) - 1) q34.1 (q34.2.2 ((q34.2.1.1 a0 0) - 1) 3) q47 hq48 (ht40.nz (Nat.succ_ne_zero _)) ht36) cl_RX10_213 ht40 (Nat.succ_ne_zero _) rfl rfl ⟨⟨by decide, by decide⟩, ⟨rfl, rfl⟩, by show 3 ≤ 3; omega, by show 65 ≤ 65; omega⟩ (Nat.le_of_ble_eq_true rfl) (dk D_X10_text 44 rfl) ?_
        refine g_ltV (fun x7_50 ex7_50 => ?_)
        refine g_istore (L' := [(0, vA (a0 + 1)), (1, vI x1), (2, vI x2), (3, vI x3), (4, vI x4), (5, vI x5_11), (6, vA (S0.2.2.2 + 1)), (7, vI x7_50)]) (dk D_X10_text 45 rfl) (Nat.le_of_ble_eq_true rfl) rfl ?_
        refine g_iload (dk D_X10_text 46 rfl) rfl ?_
        refine g_if_lt (tgt := 98) (dk D_X10_text 47 rfl) rfl (fun hc51 => ?_) (fun hc51 => ?_)
        · refine g_aload_n (dk D_X10_text 52 rfl) rfl ?_
          refine g_getIt fl_RX10_24 (by decide) ht43 (dk D_X10_text 53 rfl) ?_
          refine g_bipush (v := (12 : Int32)) (dk D_X10_text 54 rfl) rfl ?_
          refine g_icmp_lt (tgt := 110) (dk D_X10_text 55 rfl) rfl (fun hc52 => ?_) (fun hc52 => ?_)
          · refine g_aload_n (dk D_X10_text 58 rfl) rfl ?_
            refine g_getAt (t := 117) fl_RX10_20 rfl ht43 (dk D_X10_text 59 rfl) (fun ht53 => ?_)
            refine g_aload_n (dk D_X10_text 60 rfl) rfl ?_
            refine g_getIt fl_RX10_24 (by decide) ht43 (dk D_X10_text 61 rfl) ?_
            refine g_aload (dk D_X10_text 62 rfl) rfl ?_
            refine g_gd (fun hi54 => ?_)
            refine g_aastore (c0 := 7) (by unfold aoC; decide) ht53 hi54 ht40 (Nat.succ_ne_zero _) (dk D_X10_text 63 rfl) ?_
            refine g_ltS (fun S55 eS55 => ?_)
            have hx56 : Sx q34.2.1 S55 := eS55 ▸ upP_x
            have ht57 := ht38.x hx56
            have ht58 := ht39.x hx56
            have ht59 := ht40.x hx56
            have ht60 := ht41.x hx56
            have ht61 := ht42.x hx56
            have ht62 := ht36.x hx56
            have ht63 := ht45.x hx56
            have ht64 := ht53.x hx56
            have ht65 := ht43.x hx56
            have hsx66 := Sx.tr hsx44 hx56
            refine g_aload_n (dk D_X10_text 64 rfl) rfl ?_
            refine g_dup (dk D_X10_text 65 rfl) rfl ?_
            refine g_getIt fl_RX10_24 (by decide) ht65 (dk D_X10_text 66 rfl) ?_
            refine g_iconst (v := (1 : Int32)) (dk D_X10_text 67 rfl) rfl ?_
            refine g_iadd (dk D_X10_text 68 rfl) ?_
            refine g_putIt fl_RX10_24 fp_10_2 (fun h => (by cases h)) (by decide) rfl rfl ht65 (dk D_X10_text 69 rfl) ?_
            refine g_ltI (fun I67 eI67 => ?_)
            refine g_aload_n (dk D_X10_text 70 rfl) rfl ?_
            refine g_getIt fl_RX10_24 (by decide) ht65 (dk D_X10_text 71 rfl) ?_
            refine g_iconst (v := (1 : Int32)) (dk D_X10_text 72 rfl) rfl ?_
            refine g_isub (dk D_X10_text 73 rfl) ?_
            exact g_ireturn rfl rfl hsx66 rfl (by show 3 ≤ 3; omega) (by show 65 ≤ 65; omega) (dk D_X10_text 74 rfl)
          · refine g_bipush (v := ((-4) : Int32)) (dk D_X10_text 56 rfl) rfl ?_
            exact g_ireturn rfl rfl hsx44 rfl (by show 3 ≤ 3; omega) (by show 65 ≤ 65; omega) (dk D_X10_text 57 rfl)
        · refine g_bipush (v := ((-100) : Int32)) (dk D_X10_text 48 rfl) rfl ?_
          refine g_iload (dk D_X10_text 49 rfl) rfl ?_
          refine g_isub (dk D_X10_text 50 rfl) ?_
          exact g_ireturn rfl rfl hsx44 rfl (by show 3 ≤ 3; omega) (by show 65 ≤ 65; omega) (dk D_X10_text 51 rfl)
      · refine g_aload_n (dk D_X10_text 25 rfl) rfl ?_
        refine g_iload (dk D_X10_text 26 rfl) rfl ?_
        refine g_bind (fun q68 hq69 => ?_)
        refine h_callVt (st := []) (c_X10_fail (E := E) fu S0 I1 a0 x5_11 q68 hq69 (ht0)) cl_RX10_133 ht0 rfl rfl ⟨⟨by decide, by decide⟩, ⟨rfl, rfl⟩, by show 0 ≤ 3; omega, by show 0 ≤ 65; omega⟩ (Nat.le_of_ble_eq_true rfl) (dk D_X10_text 27 rfl) ?_
        exact g_ireturn rfl rfl Sx.rf rfl (by show 0 ≤ 3; omega) (by show 0 ≤ 65; omega) (dk D_X10_text 28 rfl)
    · refine g_bipush (v := ((-2) : Int32)) (dk D_X10_text 11 rfl) rfl ?_
      exact g_ireturn rfl rfl Sx.rf rfl (by show 0 ≤ 3; omega) (by show 0 ≤ 65; omega) (dk D_X10_text 12 rfl)
  · refine g_iconst (v := ((-1) : Int32)) (dk D_X10_text 6 rfl) rfl ?_
    exact g_ireturn rfl rfl Sx.rf rfl (by show 0 ≤ 3; omega) (by show 0 ≤ 65; omega) (dk D_X10_text 7 rfl)
theorem c_X10_text {E : EV} (fu : Nat) (S0 : Sk) (I0 : II) (a0 : Nat) (x1 : Int32) (x2 : Int32) (x3 : Int32) (x4 : Int32) (r : Int32 × Sk × II) (h : f_X10_text fu S0 I0 a0 x1 x2 x3 x4 = some r) (ht0 : tyO S0 10 a0) : MX E yX10_text i_X10_text S0 I0 [vA (a0 + 1), vI x1, vI x2, vI x3, vI x4] (po_X10_text S0 I0 r) :=
  MX.of h (by decide) rfl rfl (Nat.le_of_ble_eq_true rfl) (gg_X10_text fu S0 I0 a0 x1 x2 x3 x4 ht0)
theorem cl_RX10_387 : CV0 RX10 387 yX7_isInForce i_X7_isInForce 2 7 := ⟨⟨(gm 570 (by decide +kernel) (by decide +kernel)), (gm 77 (by decide +kernel) (by decide +kernel)), ((gm 573 (by decide +kernel) (by decide +kernel))), by decide +kernel, by decide +kernel, by decide +kernel⟩, ⟨(gm 571 (by decide +kernel) (by decide +kernel)), (gm 572 (by decide +kernel) (by decide +kernel))⟩, rfl, by decide⟩
def tb_X10_textFor : List (Nat × Instr × Nat) := [(0, .aload_n 0, 1), (1, .getfield 24, 3), (4, .iconst 1, 1), (5, .isub, 1), (6, .istore_n 3, 1), (7, .iload_n 3, 1), (8, .ifCond .lt 25, 3), (11, .aload_n 0, 1), (12, .getfield 20, 3), (15, .iload_n 3, 1), (16, .aaload, 1), (17, .iload_n 1, 1), (18, .iload_n 2, 1), (19, .invokevirtual 387, 3), (22, .ifCond .eq 5, 3), (25, .iload_n 3, 1), (26, .ireturn, 1), (27, .iinc 3 (-1), 3), (30, .goto (-23), 3), (33, .bipush (-9), 2), (35, .ireturn, 1)]
def i_X10_textFor : MI := (RX10, cX10_textFor, 4, (some .int), "textFor", { frames := 2, cells := 0, slots := 0, locals := 44 })
theorem D_X10_textFor : tbOK (i_X10_textFor).2.1 tb_X10_textFor := by show ∀ q ∈ tb_X10_textFor, decode cX10_textFor q.1 = .ok (q.2.1, q.2.2); decide +kernel
def po_X10_textFor (S : Sk) (I : II) (r : Int32) : Option LV × Sk × II := (some (vI r), S, I)
def lp_X10_textFor_7 (fu : Nat) (S : Sk) (I : II) (a0 : Nat) (x1 : Int32) (x2 : Int32) (self7 : Int32 → Option (Int32)) (x3 : Int32) : Option (Int32) :=
  if x3 < 0 then some (((-9) : Int32)) else gd (inb S (S.1 a0 1) x3) (gd ((S.1 ((S.1 a0 1) - 1) (nx x3)) ≠ 0) ((f_X7_isInForce fu S I ((S.1 ((S.1 a0 1) - 1) (nx x3)) - 1) x1 x2).bind fun q6 => (if q6 = 0 then self7 (x3 + ((-1) : Int32)) else some (x3))))
def f_X10_textFor (fu : Nat) (S : Sk) (I : II) (a0 : Nat) (x1 : Int32) (x2 : Int32) : Option (Int32) :=
  lt ((I a0 2) - (1 : Int32)) fun x3_10 => (fix1 (lp_X10_textFor_7 fu S I a0 x1 x2) fu x3_10)
set_option maxRecDepth 100000 in
set_option maxHeartbeats 4000000 in
theorem gg_X10_textFor {E : EV} (fu : Nat) (S0 : Sk) (I0 : II) (a0 : Nat) (x1 : Int32) (x2 : Int32) (ht0 : tyO S0 10 a0) : GG E i_X10_textFor (enM E i_X10_textFor S0 (po_X10_textFor S0 I0)) S0 I0 (0, 0) 0 [(0, vA (a0 + 1)), (1, vI x1), (2, vI x2)] [] (f_X10_textFor fu S0 I0 a0 x1 x2) := by
  have hl7 : ∀ (nn : Nat) (x3 : Int32), True → GG E i_X10_textFor (enM E i_X10_textFor S0 (po_X10_textFor S0 I0)) S0 I0 (0, 0) 7 [(0, vA (a0 + 1)), (1, vI x1), (2, vI x2), (3, vI x3)] [] (fix1 (lp_X10_textFor_7 fu S0 I0 a0 x1 x2) nn x3) := by
    refine g_fix1 (fun _ => S0) (fun _ => I0) (fun x3 => [(0, vA (a0 + 1)), (1, vI x1), (2, vI x2), (3, vI x3)]) (fun x3 => True) ?_
    intro self7 hself7 x3 hinv
    unfold lp_X10_textFor_7
    refine g_iload_n (dk D_X10_textFor 5 rfl) rfl ?_
    refine g_if_lt (tgt := 33) (dk D_X10_textFor 6 rfl) rfl (fun hc1 => ?_) (fun hc1 => ?_)
    · refine g_bipush (v := ((-9) : Int32)) (dk D_X10_textFor 19 rfl) rfl ?_
      exact g_ireturn rfl rfl Sx.rf rfl (by decide) (by decide) (dk D_X10_textFor 20 rfl)
    · refine g_aload_n (dk D_X10_textFor 7 rfl) rfl ?_
      refine g_getAt (t := 117) fl_RX10_20 rfl ht0 (dk D_X10_textFor 8 rfl) (fun ht2 => ?_)
      refine g_iload_n (dk D_X10_textFor 9 rfl) rfl ?_
      refine g_gd (fun hi3 => ?_)
      refine g_aaload (c0 := 7) (by unfold aoC; decide) ht2 hi3 (dk D_X10_textFor 10 rfl) (fun ht4 => ?_)
      refine g_iload_n (dk D_X10_textFor 11 rfl) rfl ?_
      refine g_iload_n (dk D_X10_textFor 12 rfl) rfl ?_
      refine g_gd (fun hn5 => ?_)
      refine g_bind (fun q6 hq7 => ?_)
      refine h_callV (st := []) (c_X7_isInForce (E := E) fu S0 I0 ((S0.1 ((S0.1 a0 1) - 1) (nx x3)) - 1) x1 x2 q6 hq7 (ht4.nz hn5)) cl_RX10_387 ht4 hn5 rfl rfl (by decide) (Nat.le_of_ble_eq_true rfl) (dk D_X10_textFor 13 rfl) ?_
      refine g_if_eq (tgt := 27) (dk D_X10_textFor 14 rfl) rfl (fun hc9 => ?_) (fun hc9 => ?_)
      · refine g_iinc (v := ((-1) : Int32)) (L' := [(0, vA (a0 + 1)), (1, vI x1), (2, vI x2), (3, vI (x3 + ((-1) : Int32)))]) (dk D_X10_textFor 17 rfl) rfl rfl (Nat.le_of_ble_eq_true rfl) rfl ?_
        refine g_goto (tgt := 7) (dk D_X10_textFor 18 rfl) rfl ?_
        exact hself7 (x3 + ((-1) : Int32)) trivial
      · refine g_iload_n (dk D_X10_textFor 15 rfl) rfl ?_
        exact g_ireturn rfl rfl Sx.rf rfl (by decide) (by decide) (dk D_X10_textFor 16 rfl)
  unfold f_X10_textFor
  refine g_aload_n (dk D_X10_textFor 0 rfl) rfl ?_
  refine g_getIt fl_RX10_24 (by decide) ht0 (dk D_X10_textFor 1 rfl) ?_
  refine g_iconst (v := (1 : Int32)) (dk D_X10_textFor 2 rfl) rfl ?_
  refine g_isub (dk D_X10_textFor 3 rfl) ?_
  refine g_ltV (fun x3_10 ex3_10 => ?_)
  refine g_istore_n (L' := [(0, vA (a0 + 1)), (1, vI x1), (2, vI x2), (3, vI x3_10)]) (dk D_X10_textFor 4 rfl) (Nat.le_of_ble_eq_true rfl) rfl ?_
  exact hl7 fu x3_10 trivial
theorem c_X10_textFor {E : EV} (fu : Nat) (S0 : Sk) (I0 : II) (a0 : Nat) (x1 : Int32) (x2 : Int32) (r : Int32) (h : f_X10_textFor fu S0 I0 a0 x1 x2 = some r) (ht0 : tyO S0 10 a0) : MX E yX10_textFor i_X10_textFor S0 I0 [vA (a0 + 1), vI x1, vI x2] (po_X10_textFor S0 I0 r) :=
  MX.of h (by decide) rfl rfl (Nat.le_of_ble_eq_true rfl) (gg_X10_textFor fu S0 I0 a0 x1 x2 ht0)
theorem cl_RX10_220 : CV0 RX10 220 yX10_textFor i_X10_textFor 2 10 := ⟨⟨(gm 566 (by decide +kernel) (by decide +kernel)), (gm 66 (by decide +kernel) (by decide +kernel)), ((gm 569 (by decide +kernel) (by decide +kernel))), by decide +kernel, by decide +kernel, by decide +kernel⟩, ⟨(gm 568 (by decide +kernel) (by decide +kernel)), (gm 3 (by decide +kernel) (by decide +kernel))⟩, rfl, by decide⟩
theorem cl_RX10_390 : CV0 RX10 390 yX7_least i_X7_least 0 7 := ⟨⟨(gm 575 (by decide +kernel) (by decide +kernel)), (gm 77 (by decide +kernel) (by decide +kernel)), ((gm 578 (by decide +kernel) (by decide +kernel))), by decide +kernel, by decide +kernel, by decide +kernel⟩, ⟨(gm 576 (by decide +kernel) (by decide +kernel)), (gm 577 (by decide +kernel) (by decide +kernel))⟩, rfl, by decide⟩
def tb_X10_owedTo : List (Nat × Instr × Nat) := [(0, .aload_n 0, 1), (1, .iload_n 1, 1), (2, .iload_n 2, 1), (3, .invokevirtual 220, 3), (6, .istore_n 3, 1), (7, .iload_n 3, 1), (8, .bipush (-9), 2), (10, .if_icmp .ne 7, 3), (13, .iconst 0, 1), (14, .goto 12, 3), (17, .aload_n 0, 1), (18, .getfield 20, 3), (21, .iload_n 3, 1), (22, .aaload, 1), (23, .invokevirtual 390, 3), (26, .ireturn, 1)]
def i_X10_owedTo : MI := (RX10, cX10_owedTo, 4, (some .int), "owedTo", { frames := 3, cells := 0, slots := 0, locals := 67 })
theorem D_X10_owedTo : tbOK (i_X10_owedTo).2.1 tb_X10_owedTo := by show ∀ q ∈ tb_X10_owedTo, decode cX10_owedTo q.1 = .ok (q.2.1, q.2.2); decide +kernel
def po_X10_owedTo (S : Sk) (I : II) (r : Int32) : Option LV × Sk × II := (some (vI r), S, I)
def f_X10_owedTo (fu : Nat) (S : Sk) (I : II) (a0 : Nat) (x1 : Int32) (x2 : Int32) : Option (Int32) :=
  (f_X10_textFor fu S I a0 x1 x2).bind fun q1 => (if q1 = ((-9) : Int32) then some ((0 : Int32)) else gd (inb S (S.1 a0 1) q1) (gd ((S.1 ((S.1 a0 1) - 1) (nx q1)) ≠ 0) ((f_X7_least fu S I ((S.1 ((S.1 a0 1) - 1) (nx q1)) - 1)).bind fun q9 => (some (q9)))))
set_option maxRecDepth 100000 in
set_option maxHeartbeats 4000000 in
theorem gg_X10_owedTo {E : EV} (fu : Nat) (S0 : Sk) (I0 : II) (a0 : Nat) (x1 : Int32) (x2 : Int32) (ht0 : tyO S0 10 a0) : GG E i_X10_owedTo (enM E i_X10_owedTo S0 (po_X10_owedTo S0 I0)) S0 I0 (0, 0) 0 [(0, vA (a0 + 1)), (1, vI x1), (2, vI x2)] [] (f_X10_owedTo fu S0 I0 a0 x1 x2) := by
  unfold f_X10_owedTo
  refine g_aload_n (dk D_X10_owedTo 0 rfl) rfl ?_
  refine g_iload_n (dk D_X10_owedTo 1 rfl) rfl ?_
  refine g_iload_n (dk D_X10_owedTo 2 rfl) rfl ?_
  refine g_bind (fun q1 hq2 => ?_)
  refine h_callVt (st := []) (c_X10_textFor (E := E) fu S0 I0 a0 x1 x2 q1 hq2 (ht0)) cl_RX10_220 ht0 rfl rfl (by decide) (Nat.le_of_ble_eq_true rfl) (dk D_X10_owedTo 3 rfl) ?_
  refine g_istore_n (L' := [(0, vA (a0 + 1)), (1, vI x1), (2, vI x2), (3, vI q1)]) (dk D_X10_owedTo 4 rfl) (Nat.le_of_ble_eq_true rfl) rfl ?_
  refine g_iload_n (dk D_X10_owedTo 5 rfl) rfl ?_
  refine g_bipush (v := ((-9) : Int32)) (dk D_X10_owedTo 6 rfl) rfl ?_
  refine g_icmp_ne (tgt := 17) (dk D_X10_owedTo 7 rfl) rfl (fun hc4 => ?_) (fun hc4 => ?_)
  · refine g_aload_n (dk D_X10_owedTo 10 rfl) rfl ?_
    refine g_getAt (t := 117) fl_RX10_20 rfl ht0 (dk D_X10_owedTo 11 rfl) (fun ht5 => ?_)
    refine g_iload_n (dk D_X10_owedTo 12 rfl) rfl ?_
    refine g_gd (fun hi6 => ?_)
    refine g_aaload (c0 := 7) (by unfold aoC; decide) ht5 hi6 (dk D_X10_owedTo 13 rfl) (fun ht7 => ?_)
    refine g_gd (fun hn8 => ?_)
    refine g_bind (fun q9 hq10 => ?_)
    refine h_callV (st := []) (c_X7_least (E := E) fu S0 I0 ((S0.1 ((S0.1 a0 1) - 1) (nx q1)) - 1) q9 hq10 (ht7.nz hn8)) cl_RX10_390 ht7 hn8 rfl rfl (by decide) (Nat.le_of_ble_eq_true rfl) (dk D_X10_owedTo 14 rfl) ?_
    exact g_ireturn rfl rfl Sx.rf rfl (by decide) (by decide) (dk D_X10_owedTo 15 rfl)
  · refine g_iconst (v := (0 : Int32)) (dk D_X10_owedTo 8 rfl) rfl ?_
    refine g_goto (tgt := 26) (dk D_X10_owedTo 9 rfl) rfl ?_
    exact g_ireturn rfl rfl Sx.rf rfl (by decide) (by decide) (dk D_X10_owedTo 15 rfl)
theorem c_X10_owedTo {E : EV} (fu : Nat) (S0 : Sk) (I0 : II) (a0 : Nat) (x1 : Int32) (x2 : Int32) (r : Int32) (h : f_X10_owedTo fu S0 I0 a0 x1 x2 = some r) (ht0 : tyO S0 10 a0) : MX E yX10_owedTo i_X10_owedTo S0 I0 [vA (a0 + 1), vI x1, vI x2] (po_X10_owedTo S0 I0 r) :=
  MX.of h (by decide) rfl rfl (Nat.le_of_ble_eq_true rfl) (gg_X10_owedTo fu S0 I0 a0 x1 x2 ht0)
theorem cl_RX10_217 : CV0 RX10 217 yX10_owedTo i_X10_owedTo 2 10 := ⟨⟨(gm 562 (by decide +kernel) (by decide +kernel)), (gm 66 (by decide +kernel) (by decide +kernel)), ((gm 565 (by decide +kernel) (by decide +kernel))), by decide +kernel, by decide +kernel, by decide +kernel⟩, ⟨(gm 564 (by decide +kernel) (by decide +kernel)), (gm 2 (by decide +kernel) (by decide +kernel))⟩, rfl, by decide⟩
def tb_X10_owed : List (Nat × Instr × Nat) := [(0, .aload_n 0, 1), (1, .getfield 12, 3), (4, .iload_n 1, 1), (5, .invokevirtual 206, 3), (8, .ifCond .ne 5, 3), (11, .iconst (-1), 1), (12, .ireturn, 1), (13, .iload_n 2, 1), (14, .invokestatic 159, 3), (17, .ifCond .eq 12, 3), (20, .aload_n 0, 1), (21, .iload_n 1, 1), (22, .iload_n 2, 1), (23, .invokevirtual 217, 3), (26, .goto 5, 3), (29, .bipush (-2), 2), (31, .ireturn, 1)]
def i_X10_owed : MI := (RX10, cX10_owed, 3, (some .int), "owed", { frames := 4, cells := 0, slots := 0, locals := 90 })
theorem D_X10_owed : tbOK (i_X10_owed).2.1 tb_X10_owed := by show ∀ q ∈ tb_X10_owed, decode cX10_owed q.1 = .ok (q.2.1, q.2.2); decide +kernel
def po_X10_owed (S : Sk) (I : II) (r : Int32) : Option LV × Sk × II := (some (vI r), S, I)
def f_X10_owed (fu : Nat) (S : Sk) (I : II) (a0 : Nat) (x1 : Int32) (x2 : Int32) : Option (Int32) :=
  gd ((S.1 a0 0) ≠ 0) (if (t_X2_hasStop I ((S.1 a0 0) - 1) x1) = 0 then some (((-1) : Int32)) else if (t_X10_isDay x2) = 0 then some (((-2) : Int32)) else (f_X10_owedTo fu S I a0 x1 x2).bind fun q7 => (some (q7)))
set_option maxRecDepth 100000 in
set_option maxHeartbeats 4000000 in
theorem gg_X10_owed {E : EV} (fu : Nat) (S0 : Sk) (I0 : II) (a0 : Nat) (x1 : Int32) (x2 : Int32) (ht0 : tyO S0 10 a0) : GG E i_X10_owed (enM E i_X10_owed S0 (po_X10_owed S0 I0)) S0 I0 (0, 0) 0 [(0, vA (a0 + 1)), (1, vI x1), (2, vI x2)] [] (f_X10_owed fu S0 I0 a0 x1 x2) := by
  unfold f_X10_owed
  refine g_aload_n (dk D_X10_owed 0 rfl) rfl ?_
  refine g_getAt (t := 2) fl_RX10_12 rfl ht0 (dk D_X10_owed 1 rfl) (fun ht1 => ?_)
  refine g_iload_n (dk D_X10_owed 2 rfl) rfl ?_
  refine g_gd (fun hn2 => ?_)
  refine h_callV (st := []) (c_X2_hasStop (E := E) S0 I0 ((S0.1 a0 0) - 1) x1 (ht1.nz hn2)) cl_RX10_206 ht1 hn2 rfl rfl (by decide) (Nat.le_of_ble_eq_true rfl) (dk D_X10_owed 3 rfl) ?_
  refine g_if_ne (tgt := 13) (dk D_X10_owed 4 rfl) rfl (fun hc4 => ?_) (fun hc4 => ?_)
  · refine g_iload_n (dk D_X10_owed 7 rfl) rfl ?_
    refine h_callS (st := []) (c_X10_isDay (E := E) S0 I0 x2) cl_RX10_159 rfl rfl (by decide) (Nat.le_of_ble_eq_true rfl) (dk D_X10_owed 8 rfl) ?_
    refine g_if_eq (tgt := 29) (dk D_X10_owed 9 rfl) rfl (fun hc6 => ?_) (fun hc6 => ?_)
    · refine g_bipush (v := ((-2) : Int32)) (dk D_X10_owed 15 rfl) rfl ?_
      exact g_ireturn rfl rfl Sx.rf rfl (by decide) (by decide) (dk D_X10_owed 16 rfl)
    · refine g_aload_n (dk D_X10_owed 10 rfl) rfl ?_
      refine g_iload_n (dk D_X10_owed 11 rfl) rfl ?_
      refine g_iload_n (dk D_X10_owed 12 rfl) rfl ?_
      refine g_bind (fun q7 hq8 => ?_)
      refine h_callVt (st := []) (c_X10_owedTo (E := E) fu S0 I0 a0 x1 x2 q7 hq8 (ht0)) cl_RX10_217 ht0 rfl rfl (by decide) (Nat.le_of_ble_eq_true rfl) (dk D_X10_owed 13 rfl) ?_
      refine g_goto (tgt := 31) (dk D_X10_owed 14 rfl) rfl ?_
      exact g_ireturn rfl rfl Sx.rf rfl (by decide) (by decide) (dk D_X10_owed 16 rfl)
  · refine g_iconst (v := ((-1) : Int32)) (dk D_X10_owed 5 rfl) rfl ?_
    exact g_ireturn rfl rfl Sx.rf rfl (by decide) (by decide) (dk D_X10_owed 6 rfl)
theorem c_X10_owed {E : EV} (fu : Nat) (S0 : Sk) (I0 : II) (a0 : Nat) (x1 : Int32) (x2 : Int32) (r : Int32) (h : f_X10_owed fu S0 I0 a0 x1 x2 = some r) (ht0 : tyO S0 10 a0) : MX E yX10_owed i_X10_owed S0 I0 [vA (a0 + 1), vI x1, vI x2] (po_X10_owed S0 I0 r) :=
  MX.of h (by decide) rfl rfl (Nat.le_of_ble_eq_true rfl) (gg_X10_owed fu S0 I0 a0 x1 x2 ht0)
def tb_X10_why : List (Nat × Instr × Nat) := [(0, .aload_n 0, 1), (1, .getfield 12, 3), (4, .iload_n 1, 1), (5, .invokevirtual 206, 3), (8, .ifCond .ne 5, 3), (11, .iconst (-1), 1), (12, .ireturn, 1), (13, .iload_n 2, 1), (14, .invokestatic 159, 3), (17, .ifCond .eq 12, 3), (20, .aload_n 0, 1), (21, .iload_n 1, 1), (22, .iload_n 2, 1), (23, .invokevirtual 220, 3), (26, .goto 5, 3), (29, .bipush (-2), 2), (31, .ireturn, 1)]
def i_X10_why : MI := (RX10, cX10_why, 3, (some .int), "why", { frames := 3, cells := 0, slots := 0, locals := 67 })
theorem D_X10_why : tbOK (i_X10_why).2.1 tb_X10_why := by show ∀ q ∈ tb_X10_why, decode cX10_why q.1 = .ok (q.2.1, q.2.2); decide +kernel
def po_X10_why (S : Sk) (I : II) (r : Int32) : Option LV × Sk × II := (some (vI r), S, I)
def f_X10_why (fu : Nat) (S : Sk) (I : II) (a0 : Nat) (x1 : Int32) (x2 : Int32) : Option (Int32) :=
  gd ((S.1 a0 0) ≠ 0) (if (t_X2_hasStop I ((S.1 a0 0) - 1) x1) = 0 then some (((-1) : Int32)) else if (t_X10_isDay x2) = 0 then some (((-2) : Int32)) else (f_X10_textFor fu S I a0 x1 x2).bind fun q7 => (some (q7)))
set_option maxRecDepth 100000 in
set_option maxHeartbeats 4000000 in
theorem gg_X10_why {E : EV} (fu : Nat) (S0 : Sk) (I0 : II) (a0 : Nat) (x1 : Int32) (x2 : Int32) (ht0 : tyO S0 10 a0) : GG E i_X10_why (enM E i_X10_why S0 (po_X10_why S0 I0)) S0 I0 (0, 0) 0 [(0, vA (a0 + 1)), (1, vI x1), (2, vI x2)] [] (f_X10_why fu S0 I0 a0 x1 x2) := by
  unfold f_X10_why
  refine g_aload_n (dk D_X10_why 0 rfl) rfl ?_
  refine g_getAt (t := 2) fl_RX10_12 rfl ht0 (dk D_X10_why 1 rfl) (fun ht1 => ?_)
  refine g_iload_n (dk D_X10_why 2 rfl) rfl ?_
  refine g_gd (fun hn2 => ?_)
  refine h_callV (st := []) (c_X2_hasStop (E := E) S0 I0 ((S0.1 a0 0) - 1) x1 (ht1.nz hn2)) cl_RX10_206 ht1 hn2 rfl rfl (by decide) (Nat.le_of_ble_eq_true rfl) (dk D_X10_why 3 rfl) ?_
  refine g_if_ne (tgt := 13) (dk D_X10_why 4 rfl) rfl (fun hc4 => ?_) (fun hc4 => ?_)
  · refine g_iload_n (dk D_X10_why 7 rfl) rfl ?_
    refine h_callS (st := []) (c_X10_isDay (E := E) S0 I0 x2) cl_RX10_159 rfl rfl (by decide) (Nat.le_of_ble_eq_true rfl) (dk D_X10_why 8 rfl) ?_
    refine g_if_eq (tgt := 29) (dk D_X10_why 9 rfl) rfl (fun hc6 => ?_) (fun hc6 => ?_)
    · refine g_bipush (v := ((-2) : Int32)) (dk D_X10_why 15 rfl) rfl ?_
      exact g_ireturn rfl rfl Sx.rf rfl (by decide) (by decide) (dk D_X10_why 16 rfl)
    · refine g_aload_n (dk D_X10_why 10 rfl) rfl ?_
      refine g_iload_n (dk D_X10_why 11 rfl) rfl ?_
      refine g_iload_n (dk D_X10_why 12 rfl) rfl ?_
      refine g_bind (fun q7 hq8 => ?_)
      refine h_callVt (st := []) (c_X10_textFor (E := E) fu S0 I0 a0 x1 x2 q7 hq8 (ht0)) cl_RX10_220 ht0 rfl rfl (by decide) (Nat.le_of_ble_eq_true rfl) (dk D_X10_why 13 rfl) ?_
      refine g_goto (tgt := 31) (dk D_X10_why 14 rfl) rfl ?_
      exact g_ireturn rfl rfl Sx.rf rfl (by decide) (by decide) (dk D_X10_why 16 rfl)
  · refine g_iconst (v := ((-1) : Int32)) (dk D_X10_why 5 rfl) rfl ?_
    exact g_ireturn rfl rfl Sx.rf rfl (by decide) (by decide) (dk D_X10_why 6 rfl)
theorem c_X10_why {E : EV} (fu : Nat) (S0 : Sk) (I0 : II) (a0 : Nat) (x1 : Int32) (x2 : Int32) (r : Int32) (h : f_X10_why fu S0 I0 a0 x1 x2 = some r) (ht0 : tyO S0 10 a0) : MX E yX10_why i_X10_why S0 I0 [vA (a0 + 1), vI x1, vI x2] (po_X10_why S0 I0 r) :=
  MX.of h (by decide) rfl rfl (Nat.le_of_ble_eq_true rfl) (gg_X10_why fu S0 I0 a0 x1 x2 ht0)
theorem cl_RX10_223 : CV0 RX10 223 yX2_busesLeaving i_X2_busesLeaving 2 2 := ⟨⟨(gm 587 (by decide +kernel) (by decide +kernel)), (gm 67 (by decide +kernel) (by decide +kernel)), ((gm 590 (by decide +kernel) (by decide +kernel))), by decide +kernel, by decide +kernel, by decide +kernel⟩, ⟨(gm 588 (by decide +kernel) (by decide +kernel)), (gm 589 (by decide +kernel) (by decide +kernel))⟩, rfl, by decide⟩
def tb_X10_served : List (Nat × Instr × Nat) := [(0, .aload_n 0, 1), (1, .getfield 12, 3), (4, .iload_n 1, 1), (5, .invokevirtual 206, 3), (8, .ifCond .ne 5, 3), (11, .iconst (-1), 1), (12, .ireturn, 1), (13, .iload_n 2, 1), (14, .invokestatic 159, 3), (17, .ifCond .eq 15, 3), (20, .aload_n 0, 1), (21, .getfield 12, 3), (24, .iload_n 1, 1), (25, .iload_n 2, 1), (26, .invokevirtual 223, 3), (29, .goto 5, 3), (32, .bipush (-2), 2), (34, .ireturn, 1)]
def i_X10_served : MI := (RX10, cX10_served, 3, (some .int), "served", { frames := 2, cells := 0, slots := 0, locals := 47 })
theorem D_X10_served : tbOK (i_X10_served).2.1 tb_X10_served := by show ∀ q ∈ tb_X10_served, decode cX10_served q.1 = .ok (q.2.1, q.2.2); decide +kernel
def po_X10_served (S : Sk) (I : II) (r : Int32) : Option LV × Sk × II := (some (vI r), S, I)
def f_X10_served (fu : Nat) (S : Sk) (I : II) (a0 : Nat) (x1 : Int32) (x2 : Int32) : Option (Int32) :=
  gd ((S.1 a0 0) ≠ 0) (if (t_X2_hasStop I ((S.1 a0 0) - 1) x1) = 0 then some (((-1) : Int32)) else if (t_X10_isDay x2) = 0 then some (((-2) : Int32)) else (f_X2_busesLeaving fu S I ((S.1 a0 0) - 1) x1 x2).bind fun q8 => (some (q8)))
set_option maxRecDepth 100000 in
set_option maxHeartbeats 4000000 in
theorem gg_X10_served {E : EV} (fu : Nat) (S0 : Sk) (I0 : II) (a0 : Nat) (x1 : Int32) (x2 : Int32) (ht0 : tyO S0 10 a0) : GG E i_X10_served (enM E i_X10_served S0 (po_X10_served S0 I0)) S0 I0 (0, 0) 0 [(0, vA (a0 + 1)), (1, vI x1), (2, vI x2)] [] (f_X10_served fu S0 I0 a0 x1 x2) := by
  unfold f_X10_served
  refine g_aload_n (dk D_X10_served 0 rfl) rfl ?_
  refine g_getAt (t := 2) fl_RX10_12 rfl ht0 (dk D_X10_served 1 rfl) (fun ht1 => ?_)
  refine g_iload_n (dk D_X10_served 2 rfl) rfl ?_
  refine g_gd (fun hn2 => ?_)
  refine h_callV (st := []) (c_X2_hasStop (E := E) S0 I0 ((S0.1 a0 0) - 1) x1 (ht1.nz hn2)) cl_RX10_206 ht1 hn2 rfl rfl (by decide) (Nat.le_of_ble_eq_true rfl) (dk D_X10_served 3 rfl) ?_
  refine g_if_ne (tgt := 13) (dk D_X10_served 4 rfl) rfl (fun hc4 => ?_) (fun hc4 => ?_)
  · refine g_iload_n (dk D_X10_served 7 rfl) rfl ?_
    refine h_callS (st := []) (c_X10_isDay (E := E) S0 I0 x2) cl_RX10_159 rfl rfl (by decide) (Nat.le_of_ble_eq_true rfl) (dk D_X10_served 8 rfl) ?_
    refine g_if_eq (tgt := 32) (dk D_X10_served 9 rfl) rfl (fun hc6 => ?_) (fun hc6 => ?_)
    · refine g_bipush (v := ((-2) : Int32)) (dk D_X10_served 16 rfl) rfl ?_
      exact g_ireturn rfl rfl Sx.rf rfl (by decide) (by decide) (dk D_X10_served 17 rfl)
    · refine g_aload_n (dk D_X10_served 10 rfl) rfl ?_
      refine g_getAt (t := 2) fl_RX10_12 rfl ht0 (dk D_X10_served 11 rfl) (fun ht7 => ?_)
      refine g_iload_n (dk D_X10_served 12 rfl) rfl ?_
      refine g_iload_n (dk D_X10_served 13 rfl) rfl ?_
      refine g_bind (fun q8 hq9 => ?_)
      refine h_callV (st := []) (c_X2_busesLeaving (E := E) fu S0 I0 ((S0.1 a0 0) - 1) x1 x2 q8 hq9 (ht1.nz hn2)) cl_RX10_223 ht1 hn2 rfl rfl (by decide) (Nat.le_of_ble_eq_true rfl) (dk D_X10_served 14 rfl) ?_
      refine g_goto (tgt := 34) (dk D_X10_served 15 rfl) rfl ?_
      exact g_ireturn rfl rfl Sx.rf rfl (by decide) (by decide) (dk D_X10_served 17 rfl)
  · refine g_iconst (v := ((-1) : Int32)) (dk D_X10_served 5 rfl) rfl ?_
    exact g_ireturn rfl rfl Sx.rf rfl (by decide) (by decide) (dk D_X10_served 6 rfl)
theorem c_X10_served {E : EV} (fu : Nat) (S0 : Sk) (I0 : II) (a0 : Nat) (x1 : Int32) (x2 : Int32) (r : Int32) (h : f_X10_served fu S0 I0 a0 x1 x2 = some r) (ht0 : tyO S0 10 a0) : MX E yX10_served i_X10_served S0 I0 [vA (a0 + 1), vI x1, vI x2] (po_X10_served S0 I0 r) :=
  MX.of h (by decide) rfl rfl (Nat.le_of_ble_eq_true rfl) (gg_X10_served fu S0 I0 a0 x1 x2 ht0)
def tb_X10_breach : List (Nat × Instr × Nat) := [(0, .iload_n 1, 1), (1, .invokestatic 159, 3), (4, .ifCond .ne 6, 3), (7, .bipush (-2), 2), (9, .ireturn, 1), (10, .iconst 0, 1), (11, .istore_n 2, 1), (12, .iconst 0, 1), (13, .istore_n 3, 1), (14, .iload_n 3, 1), (15, .aload_n 0, 1), (16, .getfield 12, 3), (19, .getfield 108, 3), (22, .if_icmp .ge 33, 3), (25, .aload_n 0, 1), (26, .getfield 12, 3), (29, .iload_n 3, 1), (30, .iload_n 1, 1), (31, .invokevirtual 223, 3), (34, .aload_n 0, 1), (35, .iload_n 3, 1), (36, .iload_n 1, 1), (37, .invokevirtual 217, 3), (40, .if_icmp .ge 9, 3), (43, .iload_n 2, 1), (44, .iconst 1, 1), (45, .iload_n 3, 1), (46, .ishl, 1), (47, .ior, 1), (48, .istore_n 2, 1), (49, .iinc 3 1, 3), (52, .goto (-38), 3), (55, .iload_n 2, 1), (56, .ireturn, 1)]
def i_X10_breach : MI := (RX10, cX10_breach, 4, (some .int), "breach", { frames := 4, cells := 0, slots := 0, locals := 90 })
theorem D_X10_breach : tbOK (i_X10_breach).2.1 tb_X10_breach := by show ∀ q ∈ tb_X10_breach, decode cX10_breach q.1 = .ok (q.2.1, q.2.2); decide +kernel
def po_X10_breach (S : Sk) (I : II) (r : Int32) : Option LV × Sk × II := (some (vI r), S, I)
def jn_X10_breach_49 (fu : Nat) (S : Sk) (I : II) (self14 : Int32 → Int32 → Option (Int32)) (a0 : Nat) (x1 : Int32) (x2 : Int32) (x3 : Int32) : Option (Int32) :=
  self14 x2 (x3 + (1 : Int32))
def lp_X10_breach_14 (fu : Nat) (S : Sk) (I : II) (a0 : Nat) (x1 : Int32) (self14 : Int32 → Int32 → Option (Int32)) (x2 : Int32) (x3 : Int32) : Option (Int32) :=
  gd ((S.1 a0 0) ≠ 0) (if (I ((S.1 a0 0) - 1) 3) ≤ x3 then some (x2) else (f_X2_busesLeaving fu S I ((S.1 a0 0) - 1) x3 x1).bind fun q5 => ((f_X10_owedTo fu S I a0 x3 x1).bind fun q8 => (if q8 ≤ q5 then jn_X10_breach_49 fu S I self14 a0 x1 x2 x3 else lt (x2 ||| ((1 : Int32) <<< (x3 &&& 31))) fun x2_12 => (jn_X10_breach_49 fu S I self14 a0 x1 x2_12 x3))))
def f_X10_breach (fu : Nat) (S : Sk) (I : II) (a0 : Nat) (x1 : Int32) : Option (Int32) :=
  if (t_X10_isDay x1) = 0 then some (((-2) : Int32)) else fix2 (lp_X10_breach_14 fu S I a0 x1) fu (0 : Int32) (0 : Int32)
set_option maxRecDepth 100000 in
set_option maxHeartbeats 4000000 in
theorem gg_X10_breach {E : EV} (fu : Nat) (S0 : Sk) (I0 : II) (a0 : Nat) (x1 : Int32) (ht0 : tyO S0 10 a0) : GG E i_X10_breach (enM E i_X10_breach S0 (po_X10_breach S0 I0)) S0 I0 (0, 0) 0 [(0, vA (a0 + 1)), (1, vI x1)] [] (f_X10_breach fu S0 I0 a0 x1) := by
  have hl14 : ∀ (nn : Nat) (x2 : Int32) (x3 : Int32), True → GG E i_X10_breach (enM E i_X10_breach S0 (po_X10_breach S0 I0)) S0 I0 (0, 0) 14 [(0, vA (a0 + 1)), (1, vI x1), (2, vI x2), (3, vI x3)] [] (fix2 (lp_X10_breach_14 fu S0 I0 a0 x1) nn x2 x3) := by
    refine g_fix2 (fun _ _ => S0) (fun _ _ => I0) (fun x2 x3 => [(0, vA (a0 + 1)), (1, vI x1), (2, vI x2), (3, vI x3)]) (fun x2 x3 => True) ?_
    intro self14 hself14 x2 x3 hinv
    have hj49 : ∀ (x2 : Int32) (x3 : Int32), GG E i_X10_breach (enM E i_X10_breach S0 (po_X10_breach S0 I0)) S0 I0 (0, 0) 49 [(0, vA (a0 + 1)), (1, vI x1), (2, vI x2), (3, vI x3)] [] (jn_X10_breach_49 fu S0 I0 self14 a0 x1 x2 x3) := by
      intro x2 x3 
      unfold jn_X10_breach_49
      refine g_iinc (v := (1 : Int32)) (L' := [(0, vA (a0 + 1)), (1, vI x1), (2, vI x2), (3, vI (x3 + (1 : Int32)))]) (dk D_X10_breach 30 rfl) rfl rfl (Nat.le_of_ble_eq_true rfl) rfl ?_
      refine g_goto (tgt := 14) (dk D_X10_breach 31 rfl) rfl ?_
      exact hself14 x2 (x3 + (1 : Int32)) trivial
    unfold lp_X10_breach_14
    refine g_iload_n (dk D_X10_breach 9 rfl) rfl ?_
    refine g_aload_n (dk D_X10_breach 10 rfl) rfl ?_
    refine g_getAt (t := 2) fl_RX10_12 rfl ht0 (dk D_X10_breach 11 rfl) (fun ht1 => ?_)
    refine g_gd (fun hn2 => ?_)
    refine g_getI fl_RX10_108 (by decide) ht1 hn2 (dk D_X10_breach 12 rfl) ?_
    refine g_icmp_ge (tgt := 55) (dk D_X10_breach 13 rfl) rfl (fun hc3 => ?_) (fun hc3 => ?_)
    · refine g_iload_n (dk D_X10_breach 32 rfl) rfl ?_
      exact g_ireturn rfl rfl Sx.rf rfl (by decide) (by decide) (dk D_X10_breach 33 rfl)
    · refine g_aload_n (dk D_X10_breach 14 rfl) rfl ?_
      refine g_getAt (t := 2) fl_RX10_12 rfl ht0 (dk D_X10_breach 15 rfl) (fun ht4 => ?_)
      refine g_iload_n (dk D_X10_breach 16 rfl) rfl ?_
      refine g_iload_n (dk D_X10_breach 17 rfl) rfl ?_
      refine g_bind (fun q5 hq6 => ?_)
      refine h_callV (st := []) (c_X2_busesLeaving (E := E) fu S0 I0 ((S0.1 a0 0) - 1) x3 x1 q5 hq6 (ht1.nz hn2)) cl_RX10_223 ht1 hn2 rfl rfl (by decide) (Nat.le_of_ble_eq_true rfl) (dk D_X10_breach 18 rfl) ?_
      refine g_aload_n (dk D_X10_breach 19 rfl) rfl ?_
      refine g_iload_n (dk D_X10_breach 20 rfl) rfl ?_
      refine g_iload_n (dk D_X10_breach 21 rfl) rfl ?_
      refine g_bind (fun q8 hq9 => ?_)
      refine h_callVt (st := [vI q5]) (c_X10_owedTo (E := E) fu S0 I0 a0 x3 x1 q8 hq9 (ht0)) cl_RX10_217 ht0 rfl rfl (by decide) (Nat.le_of_ble_eq_true rfl) (dk D_X10_breach 22 rfl) ?_
      refine g_icmp_ge (tgt := 49) (dk D_X10_breach 23 rfl) rfl (fun hc11 => ?_) (fun hc11 => ?_)
      · exact hj49 x2 x3
      · refine g_iload_n (dk D_X10_breach 24 rfl) rfl ?_
        refine g_iconst (v := (1 : Int32)) (dk D_X10_breach 25 rfl) rfl ?_
        refine g_iload_n (dk D_X10_breach 26 rfl) rfl ?_
        refine g_ishl (dk D_X10_breach 27 rfl) ?_
        refine g_ior (dk D_X10_breach 28 rfl) ?_
        refine g_ltV (fun x2_12 ex2_12 => ?_)
        refine g_istore_n (L' := [(0, vA (a0 + 1)), (1, vI x1), (2, vI x2_12), (3, vI x3)]) (dk D_X10_breach 29 rfl) (Nat.le_of_ble_eq_true rfl) rfl ?_
        exact hj49 x2_12 x3
  unfold f_X10_breach
  refine g_iload_n (dk D_X10_breach 0 rfl) rfl ?_
  refine h_callS (st := []) (c_X10_isDay (E := E) S0 I0 x1) cl_RX10_159 rfl rfl (by decide) (Nat.le_of_ble_eq_true rfl) (dk D_X10_breach 1 rfl) ?_
  refine g_if_ne (tgt := 10) (dk D_X10_breach 2 rfl) rfl (fun hc14 => ?_) (fun hc14 => ?_)
  · refine g_iconst (v := (0 : Int32)) (dk D_X10_breach 5 rfl) rfl ?_
    refine g_istore_n (L' := [(0, vA (a0 + 1)), (1, vI x1), (2, vI (0 : Int32))]) (dk D_X10_breach 6 rfl) (Nat.le_of_ble_eq_true rfl) rfl ?_
    refine g_iconst (v := (0 : Int32)) (dk D_X10_breach 7 rfl) rfl ?_
    refine g_istore_n (L' := [(0, vA (a0 + 1)), (1, vI x1), (2, vI (0 : Int32)), (3, vI (0 : Int32))]) (dk D_X10_breach 8 rfl) (Nat.le_of_ble_eq_true rfl) rfl ?_
    exact hl14 fu (0 : Int32) (0 : Int32) trivial
  · refine g_bipush (v := ((-2) : Int32)) (dk D_X10_breach 3 rfl) rfl ?_
    exact g_ireturn rfl rfl Sx.rf rfl (by decide) (by decide) (dk D_X10_breach 4 rfl)
theorem c_X10_breach {E : EV} (fu : Nat) (S0 : Sk) (I0 : II) (a0 : Nat) (x1 : Int32) (r : Int32) (h : f_X10_breach fu S0 I0 a0 x1 = some r) (ht0 : tyO S0 10 a0) : MX E yX10_breach i_X10_breach S0 I0 [vA (a0 + 1), vI x1] (po_X10_breach S0 I0 r) :=
  MX.of h (by decide) rfl rfl (Nat.le_of_ble_eq_true rfl) (gg_X10_breach fu S0 I0 a0 x1 ht0)
theorem nw_RX10_28 : NW RX10 28 8 := ⟨RX8, TX8, 5, tyX8, rfl, rfl, by decide, tyX8_ok, by decide +kernel, (gm 127 (by decide +kernel) (by decide +kernel)), (gm 609 (by decide +kernel) (by decide +kernel)), (gm 78 (by decide +kernel) (by decide +kernel)), inG8⟩
theorem cl_RX10_229 : LkB RX10 229 yX8_init i_X8_init 5 := ⟨(gm 610 (by decide +kernel) (by decide +kernel)), (gm 78 (by decide +kernel) (by decide +kernel)), (gm 612 (by decide +kernel) (by decide +kernel)), by decide +kernel, by decide +kernel, by decide +kernel⟩
theorem si_X8_init : Cond.instanceMethod yX8_init ∈ lw_good := (gm 611 (by decide +kernel) (by decide +kernel))
def tb_X10_trip : List (Nat × Instr × Nat) := [(0, .aload_n 0, 1), (1, .getfield 12, 3), (4, .iload_n 1, 1), (5, .invokevirtual 206, 3), (8, .ifCond .eq 14, 3), (11, .aload_n 0, 1), (12, .getfield 12, 3), (15, .iload_n 2, 1), (16, .invokevirtual 206, 3), (19, .ifCond .ne 5, 3), (22, .iconst (-1), 1), (23, .ireturn, 1), (24, .iload_n 3, 1), (25, .iconst 0, 1), (26, .sipush 1439, 3), (29, .invokestatic 226, 3), (32, .ifCond .eq 24, 3), (35, .iload 4, 2), (37, .iconst 0, 1), (38, .bipush 30, 2), (40, .invokestatic 226, 3), (43, .ifCond .eq 13, 3), (46, .iload 5, 2), (48, .iconst 0, 1), (49, .iconst 3, 1), (50, .invokestatic 226, 3), (53, .ifCond .ne 6, 3), (56, .bipush (-2), 2), (58, .ireturn, 1), (59, .aload_n 0, 1), (60, .getfield 34, 3), (63, .bipush 6, 2), (65, .if_icmp .lt 6, 3), (68, .bipush (-4), 2), (70, .ireturn, 1), (71, .aload_n 0, 1), (72, .getfield 30, 3), (75, .aload_n 0, 1), (76, .getfield 34, 3), (79, .new 28, 3), (82, .dup, 1), (83, .iload_n 1, 1), (84, .iload_n 2, 1), (85, .iload_n 3, 1), (86, .iload 4, 2), (88, .iload 5, 2), (90, .invokespecial 229, 3), (93, .aastore, 1), (94, .aload_n 0, 1), (95, .dup, 1), (96, .getfield 34, 3), (99, .iconst 1, 1), (100, .iadd, 1), (101, .putfield 34, 3), (104, .aload_n 0, 1), (105, .getfield 34, 3), (108, .iconst 1, 1), (109, .isub, 1), (110, .ireturn, 1)]
def i_X10_trip : MI := (RX10, cX10_trip, 6, (some .int), "trip", { frames := 2, cells := 1, slots := 5, locals := 105 })
theorem D_X10_trip : tbOK (i_X10_trip).2.1 tb_X10_trip := by show ∀ q ∈ tb_X10_trip, decode cX10_trip q.1 = .ok (q.2.1, q.2.2); decide +kernel
def po_X10_trip (S : Sk) (I : II) (r : Int32 × Sk × II) : Option LV × Sk × II := (some (vI r.1), r.2.1, r.2.2)
def f_X10_trip (fu : Nat) (S : Sk) (I : II) (a0 : Nat) (x1 : Int32) (x2 : Int32) (x3 : Int32) (x4 : Int32) (x5 : Int32) : Option (Int32 × Sk × II) :=
  gd ((S.1 a0 0) ≠ 0) (if (t_X2_hasStop I ((S.1 a0 0) - 1) x1) = 0 then some ((((-1) : Int32), S, I)) else if (t_X2_hasStop I ((S.1 a0 0) - 1) x2) = 0 then some ((((-1) : Int32), S, I)) else if (t_X10_isWithin x3 (0 : Int32) (1439 : Int32)) = 0 then some ((((-2) : Int32), S, I)) else if (t_X10_isWithin x4 (0 : Int32) (30 : Int32)) = 0 then some ((((-2) : Int32), S, I)) else if (t_X10_isWithin x5 (0 : Int32) (3 : Int32)) = 0 then some ((((-2) : Int32), S, I)) else if (I a0 4) < (6 : Int32) then lt (nwS S 8 0) fun S16 => (lt (nwI S I) fun I17 => ((f_X8_init fu S16 I17 S.2.2.2 x1 x2 x3 x4 x5).bind fun q24 => (gd (inb S16 (S.1 a0 3) (I a0 4)) (lt (upP S16 ((S.1 a0 3) - 1) (nx (I a0 4)) (S.2.2.2 + 1)) fun S29 => (lt (upI q24 a0 4 ((q24 a0 4) + (1 : Int32))) fun I36 => (some ((((I36 a0 4) - (1 : Int32)), S29, I36)))))))) else some ((((-4) : Int32), S, I)))
set_option maxRecDepth 100000 in
set_option maxHeartbeats 4000000 in
theorem gg_X10_trip {E : EV} (fu : Nat) (S0 : Sk) (I0 : II) (a0 : Nat) (x1 : Int32) (x2 : Int32) (x3 : Int32) (x4 : Int32) (x5 : Int32) (ht0 : tyO S0 10 a0) : GG E i_X10_trip (enM E i_X10_trip S0 (po_X10_trip S0 I0)) S0 I0 (0, 0) 0 [(0, vA (a0 + 1)), (1, vI x1), (2, vI x2), (3, vI x3), (4, vI x4), (5, vI x5)] [] (f_X10_trip fu S0 I0 a0 x1 x2 x3 x4 x5) := by
  unfold f_X10_trip
  refine g_aload_n (dk D_X10_trip 0 rfl) rfl ?_
  refine g_getAt (t := 2) fl_RX10_12 rfl ht0 (dk D_X10_trip 1 rfl) (fun ht1 => ?_)
  refine g_iload_n (dk D_X10_trip 2 rfl) rfl ?_
  refine g_gd (fun hn2 => ?_)
  refine h_callV (st := []) (c_X2_hasStop (E := E) S0 I0 ((S0.1 a0 0) - 1) x1 (ht1.nz hn2)) cl_RX10_206 ht1 hn2 rfl rfl ⟨⟨by decide, by decide⟩, ⟨rfl, rfl⟩, by show 0 ≤ 1; omega, by show 0 ≤ 5; omega⟩ (Nat.le_of_ble_eq_true rfl) (dk D_X10_trip 3 rfl) ?_
  refine g_if_eq (tgt := 22) (dk D_X10_trip 4 rfl) rfl (fun hc4 => ?_) (fun hc4 => ?_)
  · refine g_iconst (v := ((-1) : Int32)) (dk D_X10_trip 10 rfl) rfl ?_
    exact g_ireturn rfl rfl Sx.rf rfl (by show 0 ≤ 1; omega) (by show 0 ≤ 5; omega) (dk D_X10_trip 11 rfl)
  · refine g_aload_n (dk D_X10_trip 5 rfl) rfl ?_
    refine g_getAt (t := 2) fl_RX10_12 rfl ht0 (dk D_X10_trip 6 rfl) (fun ht5 => ?_)
    refine g_iload_n (dk D_X10_trip 7 rfl) rfl ?_
    refine h_callV (st := []) (c_X2_hasStop (E := E) S0 I0 ((S0.1 a0 0) - 1) x2 (ht1.nz hn2)) cl_RX10_206 ht1 hn2 rfl rfl ⟨⟨by decide, by decide⟩, ⟨rfl, rfl⟩, by show 0 ≤ 1; omega, by show 0 ≤ 5; omega⟩ (Nat.le_of_ble_eq_true rfl) (dk D_X10_trip 8 rfl) ?_
    refine g_if_ne (tgt := 24) (dk D_X10_trip 9 rfl) rfl (fun hc7 => ?_) (fun hc7 => ?_)
    · refine g_iload_n (dk D_X10_trip 12 rfl) rfl ?_
      refine g_iconst (v := (0 : Int32)) (dk D_X10_trip 13 rfl) rfl ?_
      refine g_sipush (v := (1439 : Int32)) (dk D_X10_trip 14 rfl) rfl ?_
      refine h_callS (st := []) (c_X10_isWithin (E := E) S0 I0 x3 (0 : Int32) (1439 : Int32)) cl_RX10_226 rfl rfl ⟨⟨by decide, by decide⟩, ⟨rfl, rfl⟩, by show 0 ≤ 1; omega, by show 0 ≤ 5; omega⟩ (Nat.le_of_ble_eq_true rfl) (dk D_X10_trip 15 rfl) ?_
      refine g_if_eq (tgt := 56) (dk D_X10_trip 16 rfl) rfl (fun hc9 => ?_) (fun hc9 => ?_)
      · refine g_bipush (v := ((-2) : Int32)) (dk D_X10_trip 27 rfl) rfl ?_
        exact g_ireturn rfl rfl Sx.rf rfl (by show 0 ≤ 1; omega) (by show 0 ≤ 5; omega) (dk D_X10_trip 28 rfl)
      · refine g_iload (dk D_X10_trip 17 rfl) rfl ?_
        refine g_iconst (v := (0 : Int32)) (dk D_X10_trip 18 rfl) rfl ?_
        refine g_bipush (v := (30 : Int32)) (dk D_X10_trip 19 rfl) rfl ?_
        refine h_callS (st := []) (c_X10_isWithin (E := E) S0 I0 x4 (0 : Int32) (30 : Int32)) cl_RX10_226 rfl rfl ⟨⟨by decide, by decide⟩, ⟨rfl, rfl⟩, by show 0 ≤ 1; omega, by show 0 ≤ 5; omega⟩ (Nat.le_of_ble_eq_true rfl) (dk D_X10_trip 20 rfl) ?_
        refine g_if_eq (tgt := 56) (dk D_X10_trip 21 rfl) rfl (fun hc11 => ?_) (fun hc11 => ?_)
        · refine g_bipush (v := ((-2) : Int32)) (dk D_X10_trip 27 rfl) rfl ?_
          exact g_ireturn rfl rfl Sx.rf rfl (by show 0 ≤ 1; omega) (by show 0 ≤ 5; omega) (dk D_X10_trip 28 rfl)
        · refine g_iload (dk D_X10_trip 22 rfl) rfl ?_
          refine g_iconst (v := (0 : Int32)) (dk D_X10_trip 23 rfl) rfl ?_
          refine g_iconst (v := (3 : Int32)) (dk D_X10_trip 24 rfl) rfl ?_
          refine h_callS (st := []) (c_X10_isWithin (E := E) S0 I0 x5 (0 : Int32) (3 : Int32)) cl_RX10_226 rfl rfl ⟨⟨by decide, by decide⟩, ⟨rfl, rfl⟩, by show 0 ≤ 1; omega, by show 0 ≤ 5; omega⟩ (Nat.le_of_ble_eq_true rfl) (dk D_X10_trip 25 rfl) ?_
          refine g_if_ne (tgt := 59) (dk D_X10_trip 26 rfl) rfl (fun hc13 => ?_) (fun hc13 => ?_)
          · refine g_aload_n (dk D_X10_trip 29 rfl) rfl ?_
            refine g_getIt fl_RX10_34 (by decide) ht0 (dk D_X10_trip 30 rfl) ?_
            refine g_bipush (v := (6 : Int32)) (dk D_X10_trip 31 rfl) rfl ?_
            refine g_icmp_lt (tgt := 71) (dk D_X10_trip 32 rfl) rfl (fun hc14 => ?_) (fun hc14 => ?_)
            · refine g_aload_n (dk D_X10_trip 35 rfl) rfl ?_
              refine g_getAt (t := 118) fl_RX10_30 rfl ht0 (dk D_X10_trip 36 rfl) (fun ht15 => ?_)
              refine g_aload_n (dk D_X10_trip 37 rfl) rfl ?_
              refine g_getIt fl_RX10_34 (by decide) ht0 (dk D_X10_trip 38 rfl) ?_
              refine g_new nw_RX10_28 (by show 0 + 1 ≤ 1; omega) (by show 0 + 5 ≤ 5; omega) (dk D_X10_trip 39 rfl) ?_
              refine g_wide (cs' := (1, 5)) (by show 0 + 1 ≤ 1; omega) (by show 0 + 5 ≤ 5; omega) ?_
              refine g_ltS (fun S16 eS16 => ?_)
              refine g_ltI (fun I17 eI17 => ?_)
              have hx18 : Sx S0 S16 := eS16 ▸ nwS_x
              have ht19 := ht1.x hx18
              have ht20 := ht15.x hx18
              have ht21 := ht0.x hx18
              have hsx22 := Sx.tr Sx.rf hx18
              have ht23 : tyR S16 8 (S0.2.2.2 + 1) := eS16 ▸ nwS_ty.R
              refine g_dup (dk D_X10_trip 40 rfl) rfl ?_
              refine g_iload_n (dk D_X10_trip 41 rfl) rfl ?_
              refine g_iload_n (dk D_X10_trip 42 rfl) rfl ?_
              refine g_iload_n (dk D_X10_trip 43 rfl) rfl ?_
              refine g_iload (dk D_X10_trip 44 rfl) rfl ?_
              refine g_iload (dk D_X10_trip 45 rfl) rfl ?_
              refine g_bind (fun q24 hq25 => ?_)
              refine g_callI (st := [vA (S0.2.2.2 + 1), vI (I0 a0 4), vA (S0.1 a0 3)]) (c_X8_init (E := E) fu S16 I17 S0.2.2.2 x1 x2 x3 x4 x5 q24 hq25 (ht23.nz (Nat.succ_ne_zero _))) cl_RX10_229 rfl si_X8_init rfl rfl rfl ⟨⟨by decide, by decide⟩, by show 1 + 0 ≤ 1; omega, by show 5 + 0 ≤ 5; omega⟩ (Nat.le_of_ble_eq_true rfl) (dk D_X10_trip 46 rfl) (fun hx27 => ?_)
              refine g_wide (cs' := (1, 5)) (by show 1 + 0 ≤ 1; omega) (by show 5 + 0 ≤ 5; omega) ?_
              refine g_gd (fun hi28 => ?_)
              refine g_aastore (c0 := 8) (by unfold aoC; decide) ht20 hi28 ht23 (Nat.succ_ne_zero _) (dk D_X10_trip 47 rfl) ?_
              refine g_ltS (fun S29 eS29 => ?_)
              have hx30 : Sx S16 S29 := eS29 ▸ upP_x
              have ht31 := ht19.x hx30
              have ht32 := ht20.x hx30
              have ht33 := ht23.x hx30
              have ht34 := ht21.x hx30
              have hsx35 := Sx.tr hsx22 hx30
              refine g_aload_n (dk D_X10_trip 48 rfl) rfl ?_
              refine g_dup (dk D_X10_trip 49 rfl) rfl ?_
              refine g_getIt fl_RX10_34 (by decide) ht34 (dk D_X10_trip 50 rfl) ?_
              refine g_iconst (v := (1 : Int32)) (dk D_X10_trip 51 rfl) rfl ?_
              refine g_iadd (dk D_X10_trip 52 rfl) ?_
              refine g_putIt fl_RX10_34 fp_10_4 (fun h => (by cases h)) (by decide) rfl rfl ht34 (dk D_X10_trip 53 rfl) ?_
              refine g_ltI (fun I36 eI36 => ?_)
              refine g_aload_n (dk D_X10_trip 54 rfl) rfl ?_
              refine g_getIt fl_RX10_34 (by decide) ht34 (dk D_X10_trip 55 rfl) ?_
              refine g_iconst (v := (1 : Int32)) (dk D_X10_trip 56 rfl) rfl ?_
              refine g_isub (dk D_X10_trip 57 rfl) ?_
              exact g_ireturn rfl rfl hsx35 rfl (by show 1 ≤ 1; omega) (by show 5 ≤ 5; omega) (dk D_X10_trip 58 rfl)
            · refine g_bipush (v := ((-4) : Int32)) (dk D_X10_trip 33 rfl) rfl ?_
              exact g_ireturn rfl rfl Sx.rf rfl (by show 0 ≤ 1; omega) (by show 0 ≤ 5; omega) (dk D_X10_trip 34 rfl)
          · refine g_bipush (v := ((-2) : Int32)) (dk D_X10_trip 27 rfl) rfl ?_
            exact g_ireturn rfl rfl Sx.rf rfl (by show 0 ≤ 1; omega) (by show 0 ≤ 5; omega) (dk D_X10_trip 28 rfl)
    · refine g_iconst (v := ((-1) : Int32)) (dk D_X10_trip 10 rfl) rfl ?_
      exact g_ireturn rfl rfl Sx.rf rfl (by show 0 ≤ 1; omega) (by show 0 ≤ 5; omega) (dk D_X10_trip 11 rfl)
theorem c_X10_trip {E : EV} (fu : Nat) (S0 : Sk) (I0 : II) (a0 : Nat) (x1 : Int32) (x2 : Int32) (x3 : Int32) (x4 : Int32) (x5 : Int32) (r : Int32 × Sk × II) (h : f_X10_trip fu S0 I0 a0 x1 x2 x3 x4 x5 = some r) (ht0 : tyO S0 10 a0) : MX E yX10_trip i_X10_trip S0 I0 [vA (a0 + 1), vI x1, vI x2, vI x3, vI x4, vI x5] (po_X10_trip S0 I0 r) :=
  MX.of h (by decide) rfl rfl (Nat.le_of_ble_eq_true rfl) (gg_X10_trip fu S0 I0 a0 x1 x2 x3 x4 x5 ht0)
def tb_X10_isTrip : List (Nat × Instr × Nat) := [(0, .iload_n 1, 1), (1, .iconst 0, 1), (2, .aload_n 0, 1), (3, .getfield 34, 3), (6, .iconst 1, 1), (7, .isub, 1), (8, .invokestatic 226, 3), (11, .ireturn, 1)]
def i_X10_isTrip : MI := (RX10, cX10_isTrip, 2, (some .boolean), "isTrip", { frames := 1, cells := 0, slots := 0, locals := 22 })
theorem D_X10_isTrip : tbOK (i_X10_isTrip).2.1 tb_X10_isTrip := by show ∀ q ∈ tb_X10_isTrip, decode cX10_isTrip q.1 = .ok (q.2.1, q.2.2); decide +kernel
def po_X10_isTrip (S : Sk) (I : II) (r : Int32) : Option LV × Sk × II := (some (vI r), S, I)
def f_X10_isTrip (fu : Nat) (S : Sk) (I : II) (a0 : Nat) (x1 : Int32) : Option (Int32) :=
  some ((t_X10_isWithin x1 (0 : Int32) ((I a0 4) - (1 : Int32))))
set_option maxRecDepth 100000 in
set_option maxHeartbeats 4000000 in
theorem gg_X10_isTrip {E : EV} (fu : Nat) (S0 : Sk) (I0 : II) (a0 : Nat) (x1 : Int32) (ht0 : tyO S0 10 a0) : GG E i_X10_isTrip (enM E i_X10_isTrip S0 (po_X10_isTrip S0 I0)) S0 I0 (0, 0) 0 [(0, vA (a0 + 1)), (1, vI x1)] [] (f_X10_isTrip fu S0 I0 a0 x1) := by
  unfold f_X10_isTrip
  refine g_iload_n (dk D_X10_isTrip 0 rfl) rfl ?_
  refine g_iconst (v := (0 : Int32)) (dk D_X10_isTrip 1 rfl) rfl ?_
  refine g_aload_n (dk D_X10_isTrip 2 rfl) rfl ?_
  refine g_getIt fl_RX10_34 (by decide) ht0 (dk D_X10_isTrip 3 rfl) ?_
  refine g_iconst (v := (1 : Int32)) (dk D_X10_isTrip 4 rfl) rfl ?_
  refine g_isub (dk D_X10_isTrip 5 rfl) ?_
  refine h_callS (st := []) (c_X10_isWithin (E := E) S0 I0 x1 (0 : Int32) ((I0 a0 4) - (1 : Int32))) cl_RX10_226 rfl rfl (by decide) (Nat.le_of_ble_eq_true rfl) (dk D_X10_isTrip 6 rfl) ?_
  exact g_zreturn rfl rfl (z_X10_isWithin x1 (0 : Int32) ((I0 a0 4) - (1 : Int32))) Sx.rf rfl (by decide) (by decide) (dk D_X10_isTrip 7 rfl)
def t_X10_isTrip (I : II) (a0 : Nat) (x1 : Int32) : Int32 :=
  (t_X10_isWithin x1 (0 : Int32) ((I a0 4) - (1 : Int32)))
theorem ft_X10_isTrip (fu : Nat) (S : Sk) (I0 : II) (a0 : Nat) (x1 : Int32) : f_X10_isTrip fu S I0 a0 x1 = some (t_X10_isTrip I0 a0 x1) := by
  simp only [f_X10_isTrip, t_X10_isTrip, lt, apply_ite some]
theorem z_X10_isTrip (I : II) (a0 : Nat) (x1 : Int32) : t_X10_isTrip I a0 x1 = 0 ∨ t_X10_isTrip I a0 x1 = 1 := z_X10_isWithin x1 (0 : Int32) ((I a0 4) - (1 : Int32))
theorem c_X10_isTrip {E : EV} (S0 : Sk) (I0 : II) (a0 : Nat) (x1 : Int32) (ht0 : tyO S0 10 a0) : MX E yX10_isTrip i_X10_isTrip S0 I0 [vA (a0 + 1), vI x1] (po_X10_isTrip S0 I0 (t_X10_isTrip I0 a0 x1)) :=
  MX.of (ft_X10_isTrip 0 S0 I0 a0 x1) (by decide) rfl rfl (Nat.le_of_ble_eq_true rfl) (gg_X10_isTrip 0 S0 I0 a0 x1 ht0)
theorem cl_RX10_393 : CV0 RX10 393 yX9_search i_X9_search 2 9 := ⟨⟨(gm 654 (by decide +kernel) (by decide +kernel)), (gm 68 (by decide +kernel) (by decide +kernel)), ((gm 657 (by decide +kernel) (by decide +kernel))), by decide +kernel, by decide +kernel, by decide +kernel⟩, ⟨(gm 655 (by decide +kernel) (by decide +kernel)), (gm 656 (by decide +kernel) (by decide +kernel))⟩, rfl, by decide⟩
theorem fl_RX10_397 : FL RX10 397 9 4 := ⟨RX9, TX9, 7, rfl, by decide, rfl, by decide, (gm 141 (by decide +kernel) (by decide +kernel)), inG9⟩
def tb_X10_arrival : List (Nat × Instr × Nat) := [(0, .aload_n 0, 1), (1, .getfield 42, 3), (4, .aload_n 0, 1), (5, .getfield 30, 3), (8, .iload_n 1, 1), (9, .aaload, 1), (10, .iload_n 2, 1), (11, .invokevirtual 393, 3), (14, .aload_n 0, 1), (15, .getfield 42, 3), (18, .getfield 397, 3), (21, .ireturn, 1)]
def i_X10_arrival : MI := (RX10, cX10_arrival, 3, (some .int), "arrival", { frames := 4, cells := 0, slots := 0, locals := 153 })
theorem D_X10_arrival : tbOK (i_X10_arrival).2.1 tb_X10_arrival := by show ∀ q ∈ tb_X10_arrival, decode cX10_arrival q.1 = .ok (q.2.1, q.2.2); decide +kernel
def po_X10_arrival (S : Sk) (I : II) (r : Int32 × II) : Option LV × Sk × II := (some (vI r.1), S, r.2)
def f_X10_arrival (fu : Nat) (S : Sk) (I : II) (a0 : Nat) (x1 : Int32) (x2 : Int32) : Option (Int32 × II) :=
  gd (inb S (S.1 a0 3) x1) (gd ((S.1 a0 5) ≠ 0) ((f_X9_search fu S I ((S.1 a0 5) - 1) (S.1 ((S.1 a0 3) - 1) (nx x1)) x2).bind fun q6 => (some (((q6 ((S.1 a0 5) - 1) 4), q6)))))
set_option maxRecDepth 100000 in
set_option maxHeartbeats 4000000 in
theorem gg_X10_arrival {E : EV} (fu : Nat) (S0 : Sk) (I0 : II) (a0 : Nat) (x1 : Int32) (x2 : Int32) (ht0 : tyO S0 10 a0) : GG E i_X10_arrival (enM E i_X10_arrival S0 (po_X10_arrival S0 I0)) S0 I0 (0, 0) 0 [(0, vA (a0 + 1)), (1, vI x1), (2, vI x2)] [] (f_X10_arrival fu S0 I0 a0 x1 x2) := by
  unfold f_X10_arrival
  refine g_aload_n (dk D_X10_arrival 0 rfl) rfl ?_
  refine g_getAt (t := 9) fl_RX10_42 rfl ht0 (dk D_X10_arrival 1 rfl) (fun ht1 => ?_)
  refine g_aload_n (dk D_X10_arrival 2 rfl) rfl ?_
  refine g_getAt (t := 118) fl_RX10_30 rfl ht0 (dk D_X10_arrival 3 rfl) (fun ht2 => ?_)
  refine g_iload_n (dk D_X10_arrival 4 rfl) rfl ?_
  refine g_gd (fun hi3 => ?_)
  refine g_aaload (c0 := 8) (by unfold aoC; decide) ht2 hi3 (dk D_X10_arrival 5 rfl) (fun ht4 => ?_)
  refine g_iload_n (dk D_X10_arrival 6 rfl) rfl ?_
  refine g_gd (fun hn5 => ?_)
  refine g_bind (fun q6 hq7 => ?_)
  refine h_callV (st := []) (c_X9_search (E := E) fu S0 I0 ((S0.1 a0 5) - 1) (S0.1 ((S0.1 a0 3) - 1) (nx x1)) x2 q6 hq7 (ht1.nz hn5) ht4) cl_RX10_393 ht1 hn5 rfl rfl (by decide) (Nat.le_of_ble_eq_true rfl) (dk D_X10_arrival 7 rfl) ?_
  refine g_aload_n (dk D_X10_arrival 8 rfl) rfl ?_
  refine g_getAt (t := 9) fl_RX10_42 rfl ht0 (dk D_X10_arrival 9 rfl) (fun ht9 => ?_)
  refine g_getI fl_RX10_397 (by decide) ht1 hn5 (dk D_X10_arrival 10 rfl) ?_
  exact g_ireturn rfl rfl Sx.rf rfl (by decide) (by decide) (dk D_X10_arrival 11 rfl)
theorem c_X10_arrival {E : EV} (fu : Nat) (S0 : Sk) (I0 : II) (a0 : Nat) (x1 : Int32) (x2 : Int32) (r : Int32 × II) (h : f_X10_arrival fu S0 I0 a0 x1 x2 = some r) (ht0 : tyO S0 10 a0) : MX E yX10_arrival i_X10_arrival S0 I0 [vA (a0 + 1), vI x1, vI x2] (po_X10_arrival S0 I0 r) :=
  MX.of h (by decide) rfl rfl (Nat.le_of_ble_eq_true rfl) (gg_X10_arrival fu S0 I0 a0 x1 x2 ht0)
theorem cl_RX10_232 : CV0 RX10 232 yX10_isTrip i_X10_isTrip 1 10 := ⟨⟨(gm 639 (by decide +kernel) (by decide +kernel)), (gm 66 (by decide +kernel) (by decide +kernel)), ((gm 642 (by decide +kernel) (by decide +kernel))), by decide +kernel, by decide +kernel, by decide +kernel⟩, ⟨(gm 641 (by decide +kernel) (by decide +kernel)), (gm 4 (by decide +kernel) (by decide +kernel))⟩, rfl, by decide⟩
theorem cl_RX10_235 : CV0 RX10 235 yX2_running i_X2_running 1 2 := ⟨⟨(gm 643 (by decide +kernel) (by decide +kernel)), (gm 67 (by decide +kernel) (by decide +kernel)), ((gm 646 (by decide +kernel) (by decide +kernel))), by decide +kernel, by decide +kernel, by decide +kernel⟩, ⟨(gm 644 (by decide +kernel) (by decide +kernel)), (gm 645 (by decide +kernel) (by decide +kernel))⟩, rfl, by decide⟩
theorem cl_RX10_238 : CV0 RX10 238 yX10_arrival i_X10_arrival 2 10 := ⟨⟨(gm 650 (by decide +kernel) (by decide +kernel)), (gm 66 (by decide +kernel) (by decide +kernel)), ((gm 653 (by decide +kernel) (by decide +kernel))), by decide +kernel, by decide +kernel, by decide +kernel⟩, ⟨(gm 652 (by decide +kernel) (by decide +kernel)), (gm 5 (by decide +kernel) (by decide +kernel))⟩, rfl, by decide⟩
theorem fl_RX10_241 : FL RX10 241 9 5 := ⟨RX9, TX9, 7, rfl, by decide, rfl, by decide, (gm 143 (by decide +kernel) (by decide +kernel)), inG9⟩
theorem fl_RX10_244 : FL RX10 244 9 6 := ⟨RX9, TX9, 7, rfl, by decide, rfl, by decide, (gm 145 (by decide +kernel) (by decide +kernel)), inG9⟩
def tb_X10_way : List (Nat × Instr × Nat) := [(0, .aload_n 0, 1), (1, .iload_n 1, 1), (2, .invokevirtual 232, 3), (5, .ifCond .ne 5, 3), (8, .iconst (-1), 1), (9, .ireturn, 1), (10, .iload_n 2, 1), (11, .invokestatic 159, 3), (14, .ifCond .eq 12, 3), (17, .iload_n 3, 1), (18, .iconst 0, 1), (19, .iconst 2, 1), (20, .invokestatic 226, 3), (23, .ifCond .ne 6, 3), (26, .bipush (-2), 2), (28, .ireturn, 1), (29, .aload_n 0, 1), (30, .iload_n 1, 1), (31, .aload_n 0, 1), (32, .getfield 12, 3), (35, .iload_n 2, 1), (36, .invokevirtual 235, 3), (39, .invokevirtual 238, 3), (42, .istore 4, 2), (44, .iload 4, 2), (46, .ldc 202, 2), (48, .if_icmp .ne 6, 3), (51, .bipush (-9), 2), (53, .ireturn, 1), (54, .iload_n 3, 1), (55, .lookupswitch 36 #[(0, 25), (1, 28)], 25), (80, .iload 4, 2), (82, .ireturn, 1), (83, .aload_n 0, 1), (84, .getfield 42, 3), (87, .getfield 241, 3), (90, .ireturn, 1), (91, .aload_n 0, 1), (92, .getfield 42, 3), (95, .getfield 244, 3), (98, .ireturn, 1)]
def i_X10_way : MI := (RX10, cX10_way, 5, (some .int), "way", { frames := 5, cells := 0, slots := 0, locals := 175 })
theorem D_X10_way : tbOK (i_X10_way).2.1 tb_X10_way := by show ∀ q ∈ tb_X10_way, decode cX10_way q.1 = .ok (q.2.1, q.2.2); decide +kernel
def po_X10_way (S : Sk) (I : II) (r : Int32 × II) : Option LV × Sk × II := (some (vI r.1), S, r.2)
def f_X10_way (fu : Nat) (S : Sk) (I : II) (a0 : Nat) (x1 : Int32) (x2 : Int32) (x3 : Int32) : Option (Int32 × II) :=
  if (t_X10_isTrip I a0 x1) = 0 then some ((((-1) : Int32), I)) else if (t_X10_isDay x2) = 0 then some ((((-2) : Int32), I)) else if (t_X10_isWithin x3 (0 : Int32) (2 : Int32)) = 0 then some ((((-2) : Int32), I)) else gd ((S.1 a0 0) ≠ 0) ((f_X2_running fu S I ((S.1 a0 0) - 1) x2).bind fun q9 => ((f_X10_arrival fu S I a0 x1 q9).bind fun q12 => (lt q12.1 fun x4_15 => (if x4_15 = (1073741824 : Int32) then some ((((-9) : Int32), q12.2)) else if x3 = (0 : Int32) then some ((x4_15, q12.2)) else (if x3 = (1 : Int32) then gd ((S.1 a0 5) ≠ 0) (some (((q12.2 ((S.1 a0 5) - 1) 5), q12.2))) else gd ((S.1 a0 5) ≠ 0) (some (((q12.2 ((S.1 a0 5) - 1) 6), q12.2))))))))
set_option maxRecDepth 100000 in
set_option maxHeartbeats 4000000 in
theorem gg_X10_way {E : EV} (fu : Nat) (S0 : Sk) (I0 : II) (a0 : Nat) (x1 : Int32) (x2 : Int32) (x3 : Int32) (ht0 : tyO S0 10 a0) : GG E i_X10_way (enM E i_X10_way S0 (po_X10_way S0 I0)) S0 I0 (0, 0) 0 [(0, vA (a0 + 1)), (1, vI x1), (2, vI x2), (3, vI x3)] [] (f_X10_way fu S0 I0 a0 x1 x2 x3) := by
  unfold f_X10_way
  refine g_aload_n (dk D_X10_way 0 rfl) rfl ?_
  refine g_iload_n (dk D_X10_way 1 rfl) rfl ?_
  refine h_callVt (st := []) (c_X10_isTrip (E := E) S0 I0 a0 x1 (ht0)) cl_RX10_232 ht0 rfl rfl (by decide) (Nat.le_of_ble_eq_true rfl) (dk D_X10_way 2 rfl) ?_
  refine g_if_ne (tgt := 10) (dk D_X10_way 3 rfl) rfl (fun hc2 => ?_) (fun hc2 => ?_)
  · refine g_iload_n (dk D_X10_way 6 rfl) rfl ?_
    refine h_callS (st := []) (c_X10_isDay (E := E) S0 I0 x2) cl_RX10_159 rfl rfl (by decide) (Nat.le_of_ble_eq_true rfl) (dk D_X10_way 7 rfl) ?_
    refine g_if_eq (tgt := 26) (dk D_X10_way 8 rfl) rfl (fun hc4 => ?_) (fun hc4 => ?_)
    · refine g_bipush (v := ((-2) : Int32)) (dk D_X10_way 14 rfl) rfl ?_
      exact g_ireturn rfl rfl Sx.rf rfl (by decide) (by decide) (dk D_X10_way 15 rfl)
    · refine g_iload_n (dk D_X10_way 9 rfl) rfl ?_
      refine g_iconst (v := (0 : Int32)) (dk D_X10_way 10 rfl) rfl ?_
      refine g_iconst (v := (2 : Int32)) (dk D_X10_way 11 rfl) rfl ?_
      refine h_callS (st := []) (c_X10_isWithin (E := E) S0 I0 x3 (0 : Int32) (2 : Int32)) cl_RX10_226 rfl rfl (by decide) (Nat.le_of_ble_eq_true rfl) (dk D_X10_way 12 rfl) ?_
      refine g_if_ne (tgt := 29) (dk D_X10_way 13 rfl) rfl (fun hc6 => ?_) (fun hc6 => ?_)
      · refine g_aload_n (dk D_X10_way 16 rfl) rfl ?_
        refine g_iload_n (dk D_X10_way 17 rfl) rfl ?_
        refine g_aload_n (dk D_X10_way 18 rfl) rfl ?_
        refine g_getAt (t := 2) fl_RX10_12 rfl ht0 (dk D_X10_way 19 rfl) (fun ht7 => ?_)
        refine g_iload_n (dk D_X10_way 20 rfl) rfl ?_
        refine g_gd (fun hn8 => ?_)
        refine g_bind (fun q9 hq10 => ?_)
        refine h_callV (st := [vI x1, vA (a0 + 1)]) (c_X2_running (E := E) fu S0 I0 ((S0.1 a0 0) - 1) x2 q9 hq10 (ht7.nz hn8)) cl_RX10_235 ht7 hn8 rfl rfl (by decide) (Nat.le_of_ble_eq_true rfl) (dk D_X10_way 21 rfl) ?_
        refine g_bind (fun q12 hq13 => ?_)
        refine h_callVt (st := []) (c_X10_arrival (E := E) fu S0 I0 a0 x1 q9 q12 hq13 (ht0)) cl_RX10_238 ht0 rfl rfl (by decide) (Nat.le_of_ble_eq_true rfl) (dk D_X10_way 22 rfl) ?_
        refine g_ltV (fun x4_15 ex4_15 => ?_)
        refine g_istore (L' := [(0, vA (a0 + 1)), (1, vI x1), (2, vI x2), (3, vI x3), (4, vI x4_15)]) (dk D_X10_way 23 rfl) (Nat.le_of_ble_eq_true rfl) rfl ?_
        refine g_iload (dk D_X10_way 24 rfl) rfl ?_
        refine g_ldc (dk D_X10_way 25 rfl) lk_RX10_202 ?_
        refine g_icmp_ne (tgt := 54) (dk D_X10_way 26 rfl) rfl (fun hc16 => ?_) (fun hc16 => ?_)
        · refine g_iload_n (dk D_X10_way 29 rfl) rfl ?_
          refine g_ite (fun hc17 => ?_) (fun hc17 => ?_)
          · refine g_look (tgt := 80) (off := 25) (dk D_X10_way 30 rfl) (by decide +kernel) (by rw [hc17] <;> decide +kernel) rfl ?_
            refine g_iload (dk D_X10_way 31 rfl) rfl ?_
            exact g_ireturn rfl rfl Sx.rf rfl (by decide) (by decide) (dk D_X10_way 32 rfl)
          refine g_ite (fun hc18 => ?_) (fun hc18 => ?_)
          · refine g_look (tgt := 83) (off := 28) (dk D_X10_way 30 rfl) (by decide +kernel) (by rw [hc18] <;> decide +kernel) rfl ?_
            refine g_aload_n (dk D_X10_way 33 rfl) rfl ?_
            refine g_getAt (t := 9) fl_RX10_42 rfl ht0 (dk D_X10_way 34 rfl) (fun ht19 => ?_)
            refine g_gd (fun hn20 => ?_)
            refine g_getI fl_RX10_241 (by decide) ht19 hn20 (dk D_X10_way 35 rfl) ?_
            exact g_ireturn rfl rfl Sx.rf rfl (by decide) (by decide) (dk D_X10_way 36 rfl)
          refine g_look (tgt := 91) (dk D_X10_way 30 rfl) (by decide +kernel) (look_out2 (a := (0 : Int32)) (b := (1 : Int32)) rfl rfl hc17 hc18) rfl ?_
          refine g_aload_n (dk D_X10_way 37 rfl) rfl ?_
          refine g_getAt (t := 9) fl_RX10_42 rfl ht0 (dk D_X10_way 38 rfl) (fun ht21 => ?_)
          refine g_gd (fun hn22 => ?_)
          refine g_getI fl_RX10_244 (by decide) ht21 hn22 (dk D_X10_way 39 rfl) ?_
          exact g_ireturn rfl rfl Sx.rf rfl (by decide) (by decide) (dk D_X10_way 40 rfl)
        · refine g_bipush (v := ((-9) : Int32)) (dk D_X10_way 27 rfl) rfl ?_
          exact g_ireturn rfl rfl Sx.rf rfl (by decide) (by decide) (dk D_X10_way 28 rfl)
      · refine g_bipush (v := ((-2) : Int32)) (dk D_X10_way 14 rfl) rfl ?_
        exact g_ireturn rfl rfl Sx.rf rfl (by decide) (by decide) (dk D_X10_way 15 rfl)
  · refine g_iconst (v := ((-1) : Int32)) (dk D_X10_way 4 rfl) rfl ?_
    exact g_ireturn rfl rfl Sx.rf rfl (by decide) (by decide) (dk D_X10_way 5 rfl)
theorem c_X10_way {E : EV} (fu : Nat) (S0 : Sk) (I0 : II) (a0 : Nat) (x1 : Int32) (x2 : Int32) (x3 : Int32) (r : Int32 × II) (h : f_X10_way fu S0 I0 a0 x1 x2 x3 = some r) (ht0 : tyO S0 10 a0) : MX E yX10_way i_X10_way S0 I0 [vA (a0 + 1), vI x1, vI x2, vI x3] (po_X10_way S0 I0 r) :=
  MX.of h (by decide) rfl rfl (Nat.le_of_ble_eq_true rfl) (gg_X10_way fu S0 I0 a0 x1 x2 x3 ht0)
theorem lk_RX10_338 : Cond.methodLink RX10 338 Lib.Math.max.name ∈ lw_good := (gm 701 (by decide +kernel) (by decide +kernel))
def tb_X10_worseBy : List (Nat × Instr × Nat) := [(0, .iload_n 0, 1), (1, .ldc 202, 2), (3, .if_icmp .ne 5, 3), (6, .iconst 0, 1), (7, .ireturn, 1), (8, .iload_n 1, 1), (9, .ldc 202, 2), (11, .if_icmp .ne 9, 3), (14, .sipush 9999, 3), (17, .goto 10, 3), (20, .iconst 0, 1), (21, .iload_n 1, 1), (22, .iload_n 0, 1), (23, .isub, 1), (24, .invokestatic 338, 3), (27, .ireturn, 1)]
def i_X10_worseBy : MI := (RX10, cX10_worseBy, 2, (some .int), "worseBy", { frames := 1, cells := 0, slots := 0, locals := 80 })
theorem D_X10_worseBy : tbOK (i_X10_worseBy).2.1 tb_X10_worseBy := by show ∀ q ∈ tb_X10_worseBy, decode cX10_worseBy q.1 = .ok (q.2.1, q.2.2); decide +kernel
def po_X10_worseBy (S : Sk) (I : II) (r : Int32) : Option LV × Sk × II := (some (vI r), S, I)
def f_X10_worseBy (fu : Nat) (S : Sk) (I : II) (x0 : Int32) (x1 : Int32) : Option (Int32) :=
  if x0 = (1073741824 : Int32) then some ((0 : Int32)) else if x1 = (1073741824 : Int32) then some ((9999 : Int32)) else some ((jmax (0 : Int32) (x1 - x0)))
set_option maxRecDepth 100000 in
set_option maxHeartbeats 4000000 in
theorem gg_X10_worseBy {E : EV} (fu : Nat) (S0 : Sk) (I0 : II) (x0 : Int32) (x1 : Int32) : GG E i_X10_worseBy (enM E i_X10_worseBy S0 (po_X10_worseBy S0 I0)) S0 I0 (0, 0) 0 [(0, vI x0), (1, vI x1)] [] (f_X10_worseBy fu S0 I0 x0 x1) := by
  unfold f_X10_worseBy
  refine g_iload_n (dk D_X10_worseBy 0 rfl) rfl ?_
  refine g_ldc (dk D_X10_worseBy 1 rfl) lk_RX10_202 ?_
  refine g_icmp_ne (tgt := 8) (dk D_X10_worseBy 2 rfl) rfl (fun hc1 => ?_) (fun hc1 => ?_)
  · refine g_iload_n (dk D_X10_worseBy 5 rfl) rfl ?_
    refine g_ldc (dk D_X10_worseBy 6 rfl) lk_RX10_202 ?_
    refine g_icmp_ne (tgt := 20) (dk D_X10_worseBy 7 rfl) rfl (fun hc2 => ?_) (fun hc2 => ?_)
    · refine g_iconst (v := (0 : Int32)) (dk D_X10_worseBy 10 rfl) rfl ?_
      refine g_iload_n (dk D_X10_worseBy 11 rfl) rfl ?_
      refine g_iload_n (dk D_X10_worseBy 12 rfl) rfl ?_
      refine g_isub (dk D_X10_worseBy 13 rfl) ?_
      refine g_mmax lk_RX10_338 lk_mmax (by decide) (Nat.le_of_ble_eq_true rfl) (by decide) (by decide) (dk D_X10_worseBy 14 rfl) ?_
      exact g_ireturn rfl rfl Sx.rf rfl (by decide) (by decide) (dk D_X10_worseBy 15 rfl)
    · refine g_sipush (v := (9999 : Int32)) (dk D_X10_worseBy 8 rfl) rfl ?_
      refine g_goto (tgt := 27) (dk D_X10_worseBy 9 rfl) rfl ?_
      exact g_ireturn rfl rfl Sx.rf rfl (by decide) (by decide) (dk D_X10_worseBy 15 rfl)
  · refine g_iconst (v := (0 : Int32)) (dk D_X10_worseBy 3 rfl) rfl ?_
    exact g_ireturn rfl rfl Sx.rf rfl (by decide) (by decide) (dk D_X10_worseBy 4 rfl)
def t_X10_worseBy (x0 : Int32) (x1 : Int32) : Int32 :=
  if x0 = (1073741824 : Int32) then (0 : Int32) else if x1 = (1073741824 : Int32) then (9999 : Int32) else (jmax (0 : Int32) (x1 - x0))
theorem ft_X10_worseBy (fu : Nat) (S : Sk) (I0 : II) (x0 : Int32) (x1 : Int32) : f_X10_worseBy fu S I0 x0 x1 = some (t_X10_worseBy x0 x1) := by
  simp only [f_X10_worseBy, t_X10_worseBy, lt, apply_ite some]
theorem c_X10_worseBy {E : EV} (S0 : Sk) (I0 : II) (x0 : Int32) (x1 : Int32) : MX E yX10_worseBy i_X10_worseBy S0 I0 [vI x0, vI x1] (po_X10_worseBy S0 I0 (t_X10_worseBy x0 x1)) :=
  MX.of (ft_X10_worseBy 0 S0 I0 x0 x1) (by decide) rfl rfl (Nat.le_of_ble_eq_true rfl) (gg_X10_worseBy 0 S0 I0 x0 x1)
theorem cl_RX10_247 : CS0 RX10 247 yX10_worseBy i_X10_worseBy 2 := ⟨⟨(gm 698 (by decide +kernel) (by decide +kernel)), (gm 66 (by decide +kernel) (by decide +kernel)), (gm 700 (by decide +kernel) (by decide +kernel)), by decide +kernel, by decide +kernel, by decide +kernel⟩, (gm 699 (by decide +kernel) (by decide +kernel))⟩
def tb_X10_lose : List (Nat × Instr × Nat) := [(0, .aload_n 0, 1), (1, .iload_n 1, 1), (2, .invokevirtual 232, 3), (5, .ifCond .ne 5, 3), (8, .iconst (-1), 1), (9, .ireturn, 1), (10, .iload_n 2, 1), (11, .invokestatic 159, 3), (14, .ifCond .eq 10, 3), (17, .iload_n 3, 1), (18, .invokestatic 159, 3), (21, .ifCond .ne 6, 3), (24, .bipush (-2), 2), (26, .ireturn, 1), (27, .aload_n 0, 1), (28, .iload_n 1, 1), (29, .aload_n 0, 1), (30, .getfield 12, 3), (33, .iload_n 2, 1), (34, .invokevirtual 235, 3), (37, .invokevirtual 238, 3), (40, .aload_n 0, 1), (41, .iload_n 1, 1), (42, .aload_n 0, 1), (43, .getfield 12, 3), (46, .iload_n 3, 1), (47, .invokevirtual 235, 3), (50, .invokevirtual 238, 3), (53, .invokestatic 247, 3), (56, .ireturn, 1)]
def i_X10_lose : MI := (RX10, cX10_lose, 4, (some .int), "lose", { frames := 5, cells := 0, slots := 0, locals := 175 })
theorem D_X10_lose : tbOK (i_X10_lose).2.1 tb_X10_lose := by show ∀ q ∈ tb_X10_lose, decode cX10_lose q.1 = .ok (q.2.1, q.2.2); decide +kernel
def po_X10_lose (S : Sk) (I : II) (r : Int32 × II) : Option LV × Sk × II := (some (vI r.1), S, r.2)
def f_X10_lose (fu : Nat) (S : Sk) (I : II) (a0 : Nat) (x1 : Int32) (x2 : Int32) (x3 : Int32) : Option (Int32 × II) :=
  if (t_X10_isTrip I a0 x1) = 0 then some ((((-1) : Int32), I)) else if (t_X10_isDay x2) = 0 then some ((((-2) : Int32), I)) else if (t_X10_isDay x3) = 0 then some ((((-2) : Int32), I)) else gd ((S.1 a0 0) ≠ 0) ((f_X2_running fu S I ((S.1 a0 0) - 1) x2).bind fun q9 => ((f_X10_arrival fu S I a0 x1 q9).bind fun q12 => ((f_X2_running fu S q12.2 ((S.1 a0 0) - 1) x3).bind fun q16 => ((f_X10_arrival fu S q12.2 a0 x1 q16).bind fun q19 => (some (((t_X10_worseBy q12.1 q19.1), q19.2)))))))
set_option maxRecDepth 100000 in
set_option maxHeartbeats 4000000 in
theorem gg_X10_lose {E : EV} (fu : Nat) (S0 : Sk) (I0 : II) (a0 : Nat) (x1 : Int32) (x2 : Int32) (x3 : Int32) (ht0 : tyO S0 10 a0) : GG E i_X10_lose (enM E i_X10_lose S0 (po_X10_lose S0 I0)) S0 I0 (0, 0) 0 [(0, vA (a0 + 1)), (1, vI x1), (2, vI x2), (3, vI x3)] [] (f_X10_lose fu S0 I0 a0 x1 x2 x3) := by
  unfold f_X10_lose
  refine g_aload_n (dk D_X10_lose 0 rfl) rfl ?_
  refine g_iload_n (dk D_X10_lose 1 rfl) rfl ?_
  refine h_callVt (st := []) (c_X10_isTrip (E := E) S0 I0 a0 x1 (ht0)) cl_RX10_232 ht0 rfl rfl (by decide) (Nat.le_of_ble_eq_true rfl) (dk D_X10_lose 2 rfl) ?_
  refine g_if_ne (tgt := 10) (dk D_X10_lose 3 rfl) rfl (fun hc2 => ?_) (fun hc2 => ?_)
  · refine g_iload_n (dk D_X10_lose 6 rfl) rfl ?_
    refine h_callS (st := []) (c_X10_isDay (E := E) S0 I0 x2) cl_RX10_159 rfl rfl (by decide) (Nat.le_of_ble_eq_true rfl) (dk D_X10_lose 7 rfl) ?_
    refine g_if_eq (tgt := 24) (dk D_X10_lose 8 rfl) rfl (fun hc4 => ?_) (fun hc4 => ?_)
    · refine g_bipush (v := ((-2) : Int32)) (dk D_X10_lose 12 rfl) rfl ?_
      exact g_ireturn rfl rfl Sx.rf rfl (by decide) (by decide) (dk D_X10_lose 13 rfl)
    · refine g_iload_n (dk D_X10_lose 9 rfl) rfl ?_
      refine h_callS (st := []) (c_X10_isDay (E := E) S0 I0 x3) cl_RX10_159 rfl rfl (by decide) (Nat.le_of_ble_eq_true rfl) (dk D_X10_lose 10 rfl) ?_
      refine g_if_ne (tgt := 27) (dk D_X10_lose 11 rfl) rfl (fun hc6 => ?_) (fun hc6 => ?_)
      · refine g_aload_n (dk D_X10_lose 14 rfl) rfl ?_
        refine g_iload_n (dk D_X10_lose 15 rfl) rfl ?_
        refine g_aload_n (dk D_X10_lose 16 rfl) rfl ?_
        refine g_getAt (t := 2) fl_RX10_12 rfl ht0 (dk D_X10_lose 17 rfl) (fun ht7 => ?_)
        refine g_iload_n (dk D_X10_lose 18 rfl) rfl ?_
        refine g_gd (fun hn8 => ?_)
        refine g_bind (fun q9 hq10 => ?_)
        refine h_callV (st := [vI x1, vA (a0 + 1)]) (c_X2_running (E := E) fu S0 I0 ((S0.1 a0 0) - 1) x2 q9 hq10 (ht7.nz hn8)) cl_RX10_235 ht7 hn8 rfl rfl (by decide) (Nat.le_of_ble_eq_true rfl) (dk D_X10_lose 19 rfl) ?_
        refine g_bind (fun q12 hq13 => ?_)
        refine h_callVt (st := []) (c_X10_arrival (E := E) fu S0 I0 a0 x1 q9 q12 hq13 (ht0)) cl_RX10_238 ht0 rfl rfl (by decide) (Nat.le_of_ble_eq_true rfl) (dk D_X10_lose 20 rfl) ?_
        refine g_aload_n (dk D_X10_lose 21 rfl) rfl ?_
        refine g_iload_n (dk D_X10_lose 22 rfl) rfl ?_
        refine g_aload_n (dk D_X10_lose 23 rfl) rfl ?_
        refine g_getAt (t := 2) fl_RX10_12 rfl ht0 (dk D_X10_lose 24 rfl) (fun ht15 => ?_)
        refine g_iload_n (dk D_X10_lose 25 rfl) rfl ?_
        refine g_bind (fun q16 hq17 => ?_)
        refine h_callV (st := [vI x1, vA (a0 + 1), vI q12.1]) (c_X2_running (E := E) fu S0 q12.2 ((S0.1 a0 0) - 1) x3 q16 hq17 (ht7.nz hn8)) cl_RX10_235 ht7 hn8 rfl rfl (by decide) (Nat.le_of_ble_eq_true rfl) (dk D_X10_lose 26 rfl) ?_
        refine g_bind (fun q19 hq20 => ?_)
        refine h_callVt (st := [vI q12.1]) (c_X10_arrival (E := E) fu S0 q12.2 a0 x1 q16 q19 hq20 (ht0)) cl_RX10_238 ht0 rfl rfl (by decide) (Nat.le_of_ble_eq_true rfl) (dk D_X10_lose 27 rfl) ?_
        refine h_callS (st := []) (c_X10_worseBy (E := E) S0 q19.2 q12.1 q19.1) cl_RX10_247 rfl rfl (by decide) (Nat.le_of_ble_eq_true rfl) (dk D_X10_lose 28 rfl) ?_
        exact g_ireturn rfl rfl Sx.rf rfl (by decide) (by decide) (dk D_X10_lose 29 rfl)
      · refine g_bipush (v := ((-2) : Int32)) (dk D_X10_lose 12 rfl) rfl ?_
        exact g_ireturn rfl rfl Sx.rf rfl (by decide) (by decide) (dk D_X10_lose 13 rfl)
  · refine g_iconst (v := ((-1) : Int32)) (dk D_X10_lose 4 rfl) rfl ?_
    exact g_ireturn rfl rfl Sx.rf rfl (by decide) (by decide) (dk D_X10_lose 5 rfl)
theorem c_X10_lose {E : EV} (fu : Nat) (S0 : Sk) (I0 : II) (a0 : Nat) (x1 : Int32) (x2 : Int32) (x3 : Int32) (r : Int32 × II) (h : f_X10_lose fu S0 I0 a0 x1 x2 x3 = some r) (ht0 : tyO S0 10 a0) : MX E yX10_lose i_X10_lose S0 I0 [vA (a0 + 1), vI x1, vI x2, vI x3] (po_X10_lose S0 I0 r) :=
  MX.of h (by decide) rfl rfl (Nat.le_of_ble_eq_true rfl) (gg_X10_lose fu S0 I0 a0 x1 x2 x3 ht0)
theorem cl_RX10_250 : CS0 RX10 250 yX10_bitIf i_X10_bitIf 2 := ⟨⟨(gm 706 (by decide +kernel) (by decide +kernel)), (gm 66 (by decide +kernel) (by decide +kernel)), (gm 649 (by decide +kernel) (by decide +kernel)), by decide +kernel, by decide +kernel, by decide +kernel⟩, (gm 648 (by decide +kernel) (by decide +kernel))⟩
def tb_X10_who : List (Nat × Instr × Nat) := [(0, .iload_n 1, 1), (1, .invokestatic 159, 3), (4, .ifCond .eq 19, 3), (7, .iload_n 2, 1), (8, .invokestatic 159, 3), (11, .ifCond .eq 12, 3), (14, .iload_n 3, 1), (15, .iconst 0, 1), (16, .iconst 4, 1), (17, .invokestatic 226, 3), (20, .ifCond .ne 6, 3), (23, .bipush (-2), 2), (25, .ireturn, 1), (26, .aload_n 0, 1), (27, .getfield 12, 3), (30, .iload_n 1, 1), (31, .invokevirtual 235, 3), (34, .istore 4, 2), (36, .aload_n 0, 1), (37, .getfield 12, 3), (40, .iload_n 2, 1), (41, .invokevirtual 235, 3), (44, .istore 5, 2), (46, .iconst 0, 1), (47, .istore 6, 2), (49, .iconst 0, 1), (50, .istore 7, 2), (52, .iload 7, 2), (54, .aload_n 0, 1), (55, .getfield 34, 3), (58, .if_icmp .ge 168, 3), (61, .aload_n 0, 1), (62, .iload 7, 2), (64, .iload 4, 2), (66, .invokevirtual 238, 3), (69, .istore 8, 2), (71, .aload_n 0, 1), (72, .iload 7, 2), (74, .iload 5, 2), (76, .invokevirtual 238, 3), (79, .istore 9, 2), (81, .iload 8, 2), (83, .iload 9, 2), (85, .invokestatic 247, 3), (88, .istore 10, 2), (90, .iload 9, 2), (92, .iload 8, 2), (94, .invokestatic 247, 3), (97, .istore 11, 2), (99, .iload_n 3, 1), (100, .tableswitch 113 0 3 #[32, 55, 78, 103], 32), (132, .iload 6, 2), (134, .iload 10, 2), (136, .ifCond .le 7, 3), (139, .iconst 1, 1), (140, .goto 4, 3), (143, .iconst 0, 1), (144, .iload 7, 2), (146, .invokestatic 250, 3), (149, .ior, 1), (150, .istore 6, 2), (152, .goto 68, 3), (155, .iload 6, 2), (157, .iload 11, 2), (159, .ifCond .le 7, 3), (162, .iconst 1, 1), (163, .goto 4, 3), (166, .iconst 0, 1), (167, .iload 7, 2), (169, .invokestatic 250, 3), (172, .ior, 1), (173, .istore 6, 2), (175, .goto 45, 3), (178, .iload 6, 2), (180, .iload 9, 2), (182, .ldc 202, 2), (184, .if_icmp .ne 7, 3), (187, .iconst 1, 1), (188, .goto 4, 3), (191, .iconst 0, 1), (192, .iload 7, 2), (194, .invokestatic 250, 3), (197, .ior, 1), (198, .istore 6, 2), (200, .goto 20, 3), (203, .iload 6, 2), (205, .iload 10, 2), (207, .iadd, 1), (208, .istore 6, 2), (210, .goto 10, 3), (213, .iload 6, 2), (215, .iload 11, 2), (217, .iadd, 1), (218, .istore 6, 2), (220, .iinc 7 1, 3), (223, .goto (-171), 3), (226, .iload 6, 2), (228, .ireturn, 1)]
def i_X10_who : MI := (RX10, cX10_who, 12, (some .int), "who", { frames := 5, cells := 0, slots := 0, locals := 175 })
theorem D_X10_who : tbOK (i_X10_who).2.1 tb_X10_who := by show ∀ q ∈ tb_X10_who, decode cX10_who q.1 = .ok (q.2.1, q.2.2); decide +kernel
def po_X10_who (S : Sk) (I : II) (r : Int32 × II) : Option LV × Sk × II := (some (vI r.1), S, r.2)
def jn_X10_who_220 (fu : Nat) (S : Sk) (I : II) (self52 : Int32 → Int32 → II → Option (Int32 × II)) (a0 : Nat) (x3 : Int32) (x4 : Int32) (x5 : Int32) (x6 : Int32) (x7 : Int32) : Option (Int32 × II) :=
  self52 x6 (x7 + (1 : Int32)) I
def jn_X10_who_144 (fu : Nat) (S : Sk) (I : II) (self52 : Int32 → Int32 → II → Option (Int32 × II)) (a0 : Nat) (x3 : Int32) (x4 : Int32) (x5 : Int32) (x7 : Int32) (s0 : Int32) (s1 : Int32) : Option (Int32 × II) :=
  lt (s0 ||| (t_X10_bitIf s1 x7)) fun x6_2 => (jn_X10_who_220 fu S I self52 a0 x3 x4 x5 x6_2 x7)
def jn_X10_who_167 (fu : Nat) (S : Sk) (I : II) (self52 : Int32 → Int32 → II → Option (Int32 × II)) (a0 : Nat) (x3 : Int32) (x4 : Int32) (x5 : Int32) (x7 : Int32) (s0 : Int32) (s1 : Int32) : Option (Int32 × II) :=
  lt (s0 ||| (t_X10_bitIf s1 x7)) fun x6_4 => (jn_X10_who_220 fu S I self52 a0 x3 x4 x5 x6_4 x7)
def jn_X10_who_192 (fu : Nat) (S : Sk) (I : II) (self52 : Int32 → Int32 → II → Option (Int32 × II)) (a0 : Nat) (x3 : Int32) (x4 : Int32) (x5 : Int32) (x7 : Int32) (s0 : Int32) (s1 : Int32) : Option (Int32 × II) :=
  lt (s0 ||| (t_X10_bitIf s1 x7)) fun x6_6 => (jn_X10_who_220 fu S I self52 a0 x3 x4 x5 x6_6 x7)
def lp_X10_who_52 (fu : Nat) (S : Sk) (a0 : Nat) (x3 : Int32) (x4 : Int32) (x5 : Int32) (self52 : Int32 → Int32 → II → Option (Int32 × II)) (x6 : Int32) (x7 : Int32) (I : II) : Option (Int32 × II) :=
  if (I a0 4) ≤ x7 then some ((x6, I)) else (f_X10_arrival fu S I a0 x7 x4).bind fun q8 => (lt q8.1 fun x8_11 => ((f_X10_arrival fu S q8.2 a0 x7 x5).bind fun q12 => (lt q12.1 fun x9_15 => (lt (t_X10_worseBy x8_11 x9_15) fun x10_17 => (lt (t_X10_worseBy x9_15 x8_11) fun x11_19 => (if x3 = (0 : Int32) then if x10_17 ≤ 0 then jn_X10_who_144 fu S q12.2 self52 a0 x3 x4 x5 x7 x6 (0 : Int32) else jn_X10_who_144 fu S q12.2 self52 a0 x3 x4 x5 x7 x6 (1 : Int32) else (if x3 = (1 : Int32) then if x11_19 ≤ 0 then jn_X10_who_167 fu S q12.2 self52 a0 x3 x4 x5 x7 x6 (0 : Int32) else jn_X10_who_167 fu S q12.2 self52 a0 x3 x4 x5 x7 x6 (1 : Int32) else (if x3 = (2 : Int32) then if x9_15 = (1073741824 : Int32) then jn_X10_who_192 fu S q12.2 self52 a0 x3 x4 x5 x7 x6 (1 : Int32) else jn_X10_who_192 fu S q12.2 self52 a0 x3 x4 x5 x7 x6 (0 : Int32) else (if x3 = (3 : Int32) then lt (x6 + x10_17) fun x6_27 => (jn_X10_who_220 fu S q12.2 self52 a0 x3 x4 x5 x6_27 x7) else lt (x6 + x11_19) fun x6_28 => (jn_X10_who_220 fu S q12.2 self52 a0 x3 x4 x5 x6_28 x7))))))))))
def f_X10_who (fu : Nat) (S : Sk) (I : II) (a0 : Nat) (x1 : Int32) (x2 : Int32) (x3 : Int32) : Option (Int32 × II) :=
  if (t_X10_isDay x1) = 0 then some ((((-2) : Int32), I)) else if (t_X10_isDay x2) = 0 then some ((((-2) : Int32), I)) else if (t_X10_isWithin x3 (0 : Int32) (4 : Int32)) = 0 then some ((((-2) : Int32), I)) else gd ((S.1 a0 0) ≠ 0) ((f_X2_running fu S I ((S.1 a0 0) - 1) x1).bind fun q37 => ((f_X2_running fu S I ((S.1 a0 0) - 1) x2).bind fun q41 => (fix3 (lp_X10_who_52 fu S a0 x3 q37 q41) fu (0 : Int32) (0 : Int32) I)))
set_option maxRecDepth 100000 in
set_option maxHeartbeats 4000000 in
theorem gg_X10_who {E : EV} (fu : Nat) (S0 : Sk) (I0 : II) (a0 : Nat) (x1 : Int32) (x2 : Int32) (x3 : Int32) (ht0 : tyO S0 10 a0) : GG E i_X10_who (enM E i_X10_who S0 (po_X10_who S0 I0)) S0 I0 (0, 0) 0 [(0, vA (a0 + 1)), (1, vI x1), (2, vI x2), (3, vI x3)] [] (f_X10_who fu S0 I0 a0 x1 x2 x3) := by
  have hl52 : ∀ (x4 : Int32) (x5 : Int32) (nn : Nat) (x6 : Int32) (x7 : Int32) (I : II), True → GG E i_X10_who (enM E i_X10_who S0 (po_X10_who S0 I0)) S0 I (0, 0) 52 [(0, vA (a0 + 1)), (3, vI x3), (4, vI x4), (5, vI x5), (6, vI x6), (7, vI x7)] [] (fix3 (lp_X10_who_52 fu S0 a0 x3 x4 x5) nn x6 x7 I) := by
    intro x4 x5 
    refine g_fix3 (fun _ _ _ => S0) (fun x6 x7 I => I) (fun x6 x7 I => [(0, vA (a0 + 1)), (3, vI x3), (4, vI x4), (5, vI x5), (6, vI x6), (7, vI x7)]) (fun x6 x7 I => True) ?_
    intro self52 hself52 x6 x7 I hinv
    have hj220 : ∀ (I : II) (x6 : Int32) (x7 : Int32), GG E i_X10_who (enM E i_X10_who S0 (po_X10_who S0 I0)) S0 I (0, 0) 220 [(0, vA (a0 + 1)), (3, vI x3), (4, vI x4), (5, vI x5), (6, vI x6), (7, vI x7)] [] (jn_X10_who_220 fu S0 I self52 a0 x3 x4 x5 x6 x7) := by
      intro I x6 x7 
      unfold jn_X10_who_220
      refine g_iinc (v := (1 : Int32)) (L' := [(0, vA (a0 + 1)), (3, vI x3), (4, vI x4), (5, vI x5), (6, vI x6), (7, vI (x7 + (1 : Int32)))]) (dk D_X10_who 94 rfl) rfl rfl (Nat.le_of_ble_eq_true rfl) rfl ?_
      refine g_goto (tgt := 52) (dk D_X10_who 95 rfl) rfl ?_
      exact hself52 x6 (x7 + (1 : Int32)) I trivial
    have hj144 : ∀ (I : II) (x7 : Int32) (s0 : Int32) (s1 : Int32), GG E i_X10_who (enM E i_X10_who S0 (po_X10_who S0 I0)) S0 I (0, 0) 144 [(0, vA (a0 + 1)), (3, vI x3), (4, vI x4), (5, vI x5), (7, vI x7)] [vI s1, vI s0] (jn_X10_who_144 fu S0 I self52 a0 x3 x4 x5 x7 s0 s1) := by
      intro I x7 s0 s1 
      unfold jn_X10_who_144
      refine g_iload (dk D_X10_who 57 rfl) rfl ?_
      refine h_callS (st := [vI s0]) (c_X10_bitIf (E := E) S0 I s1 x7) cl_RX10_250 rfl rfl (by decide) (Nat.le_of_ble_eq_true rfl) (dk D_X10_who 58 rfl) ?_
      refine g_ior (dk D_X10_who 59 rfl) ?_
      refine g_ltV (fun x6_2 ex6_2 => ?_)
      refine g_istore (L' := [(0, vA (a0 + 1)), (3, vI x3), (4, vI x4), (5, vI x5), (6, vI x6_2), (7, vI x7)]) (dk D_X10_who 60 rfl) (Nat.le_of_ble_eq_true rfl) rfl ?_
      refine g_goto (tgt := 220) (dk D_X10_who 61 rfl) rfl ?_
      exact hj220 I x6_2 x7
    have hj167 : ∀ (I : II) (x7 : Int32) (s0 : Int32) (s1 : Int32), GG E i_X10_who (enM E i_X10_who S0 (po_X10_who S0 I0)) S0 I (0, 0) 167 [(0, vA (a0 + 1)), (3, vI x3), (4, vI x4), (5, vI x5), (7, vI x7)] [vI s1, vI s0] (jn_X10_who_167 fu S0 I self52 a0 x3 x4 x5 x7 s0 s1) := by
      intro I x7 s0 s1 
      unfold jn_X10_who_167
      refine g_iload (dk D_X10_who 68 rfl) rfl ?_
      refine h_callS (st := [vI s0]) (c_X10_bitIf (E := E) S0 I s1 x7) cl_RX10_250 rfl rfl (by decide) (Nat.le_of_ble_eq_true rfl) (dk D_X10_who 69 rfl) ?_
      refine g_ior (dk D_X10_who 70 rfl) ?_
      refine g_ltV (fun x6_4 ex6_4 => ?_)
      refine g_istore (L' := [(0, vA (a0 + 1)), (3, vI x3), (4, vI x4), (5, vI x5), (6, vI x6_4), (7, vI x7)]) (dk D_X10_who 71 rfl) (Nat.le_of_ble_eq_true rfl) rfl ?_
      refine g_goto (tgt := 220) (dk D_X10_who 72 rfl) rfl ?_
      exact hj220 I x6_4 x7
    have hj192 : ∀ (I : II) (x7 : Int32) (s0 : Int32) (s1 : Int32), GG E i_X10_who (enM E i_X10_who S0 (po_X10_who S0 I0)) S0 I (0, 0) 192 [(0, vA (a0 + 1)), (3, vI x3), (4, vI x4), (5, vI x5), (7, vI x7)] [vI s1, vI s0] (jn_X10_who_192 fu S0 I self52 a0 x3 x4 x5 x7 s0 s1) := by
      intro I x7 s0 s1 
      unfold jn_X10_who_192
      refine g_iload (dk D_X10_who 80 rfl) rfl ?_
      refine h_callS (st := [vI s0]) (c_X10_bitIf (E := E) S0 I s1 x7) cl_RX10_250 rfl rfl (by decide) (Nat.le_of_ble_eq_true rfl) (dk D_X10_who 81 rfl) ?_
      refine g_ior (dk D_X10_who 82 rfl) ?_
      refine g_ltV (fun x6_6 ex6_6 => ?_)
      refine g_istore (L' := [(0, vA (a0 + 1)), (3, vI x3), (4, vI x4), (5, vI x5), (6, vI x6_6), (7, vI x7)]) (dk D_X10_who 83 rfl) (Nat.le_of_ble_eq_true rfl) rfl ?_
      refine g_goto (tgt := 220) (dk D_X10_who 84 rfl) rfl ?_
      exact hj220 I x6_6 x7
    unfold lp_X10_who_52
    refine g_iload (dk D_X10_who 27 rfl) rfl ?_
    refine g_aload_n (dk D_X10_who 28 rfl) rfl ?_
    refine g_getIt fl_RX10_34 (by decide) ht0 (dk D_X10_who 29 rfl) ?_
    refine g_icmp_ge (tgt := 226) (dk D_X10_who 30 rfl) rfl (fun hc7 => ?_) (fun hc7 => ?_)
    · refine g_iload (dk D_X10_who 96 rfl) rfl ?_
      exact g_ireturn rfl rfl Sx.rf rfl (by decide) (by decide) (dk D_X10_who 97 rfl)
    · refine g_aload_n (dk D_X10_who 31 rfl) rfl ?_
      refine g_iload (dk D_X10_who 32 rfl) rfl ?_
      refine g_iload (dk D_X10_who 33 rfl) rfl ?_
      refine g_bind (fun q8 hq9 => ?_)
      refine h_callVt (st := []) (c_X10_arrival (E := E) fu S0 I a0 x7 x4 q8 hq9 (ht0)) cl_RX10_238 ht0 rfl rfl (by decide) (Nat.le_of_ble_eq_true rfl) (dk D_X10_who 34 rfl) ?_
      refine g_ltV (fun x8_11 ex8_11 => ?_)
      refine g_istore (L' := [(0, vA (a0 + 1)), (3, vI x3), (4, vI x4), (5, vI x5), (6, vI x6), (7, vI x7), (8, vI x8_11)]) (dk D_X10_who 35 rfl) (Nat.le_of_ble_eq_true rfl) rfl ?_
      refine g_aload_n (dk D_X10_who 36 rfl) rfl ?_
      refine g_iload (dk D_X10_who 37 rfl) rfl ?_
      refine g_iload (dk D_X10_who 38 rfl) rfl ?_
      refine g_bind (fun q12 hq13 => ?_)
      refine h_callVt (st := []) (c_X10_arrival (E := E) fu S0 q8.2 a0 x7 x5 q12 hq13 (ht0)) cl_RX10_238 ht0 rfl rfl (by decide) (Nat.le_of_ble_eq_true rfl) (dk D_X10_who 39 rfl) ?_
      refine g_ltV (fun x9_15 ex9_15 => ?_)
      refine g_istore (L' := [(0, vA (a0 + 1)), (3, vI x3), (4, vI x4), (5, vI x5), (6, vI x6), (7, vI x7), (8, vI x8_11), (9, vI x9_15)]) (dk D_X10_who 40 rfl) (Nat.le_of_ble_eq_true rfl) rfl ?_
      refine g_iload (dk D_X10_who 41 rfl) rfl ?_
      refine g_iload (dk D_X10_who 42 rfl) rfl ?_
      refine h_callS (st := []) (c_X10_worseBy (E := E) S0 q12.2 x8_11 x9_15) cl_RX10_247 rfl rfl (by decide) (Nat.le_of_ble_eq_true rfl) (dk D_X10_who 43 rfl) ?_
      refine g_ltV (fun x10_17 ex10_17 => ?_)
      refine g_istore (L' := [(0, vA (a0 + 1)), (3, vI x3), (4, vI x4), (5, vI x5), (6, vI x6), (7, vI x7), (8, vI x8_11), (9, vI x9_15), (10, vI x10_17)]) (dk D_X10_who 44 rfl) (Nat.le_of_ble_eq_true rfl) rfl ?_
      refine g_iload (dk D_X10_who 45 rfl) rfl ?_
      refine g_iload (dk D_X10_who 46 rfl) rfl ?_
      refine h_callS (st := []) (c_X10_worseBy (E := E) S0 q12.2 x9_15 x8_11) cl_RX10_247 rfl rfl (by decide) (Nat.le_of_ble_eq_true rfl) (dk D_X10_who 47 rfl) ?_
      refine g_ltV (fun x11_19 ex11_19 => ?_)
      refine g_istore (L' := [(0, vA (a0 + 1)), (3, vI x3), (4, vI x4), (5, vI x5), (6, vI x6), (7, vI x7), (8, vI x8_11), (9, vI x9_15), (10, vI x10_17), (11, vI x11_19)]) (dk D_X10_who 48 rfl) (Nat.le_of_ble_eq_true rfl) rfl ?_
      refine g_iload_n (dk D_X10_who 49 rfl) rfl ?_
      refine g_ite (fun hc20 => ?_) (fun hc20 => ?_)
      · refine g_tabIn (tgt := 132) (off := 32) (dk D_X10_who 50 rfl) (by rw [hc20] <;> decide +kernel) (by rw [hc20] <;> decide +kernel) (by rw [hc20] <;> decide +kernel) rfl ?_
        refine g_iload (dk D_X10_who 51 rfl) rfl ?_
        refine g_iload (dk D_X10_who 52 rfl) rfl ?_
        refine g_if_le (tgt := 143) (dk D_X10_who 53 rfl) rfl (fun hc21 => ?_) (fun hc21 => ?_)
        · refine g_iconst (v := (0 : Int32)) (dk D_X10_who 56 rfl) rfl ?_
          refine g_Lp [0, 1, 2, 3, 5] rfl ?_
          exact hj144 q12.2 x7 x6 (0 : Int32)
        · refine g_iconst (v := (1 : Int32)) (dk D_X10_who 54 rfl) rfl ?_
          refine g_goto (tgt := 144) (dk D_X10_who 55 rfl) rfl ?_
          refine g_Lp [0, 1, 2, 3, 5] rfl ?_
          exact hj144 q12.2 x7 x6 (1 : Int32)
      refine g_ite (fun hc22 => ?_) (fun hc22 => ?_)
      · refine g_tabIn (tgt := 155) (off := 55) (dk D_X10_who 50 rfl) (by rw [hc22] <;> decide +kernel) (by rw [hc22] <;> decide +kernel) (by rw [hc22] <;> decide +kernel) rfl ?_
        refine g_iload (dk D_X10_who 62 rfl) rfl ?_
        refine g_iload (dk D_X10_who 63 rfl) rfl ?_
        refine g_if_le (tgt := 166) (dk D_X10_who 64 rfl) rfl (fun hc23 => ?_) (fun hc23 => ?_)
        · refine g_iconst (v := (0 : Int32)) (dk D_X10_who 67 rfl) rfl ?_
          refine g_Lp [0, 1, 2, 3, 5] rfl ?_
          exact hj167 q12.2 x7 x6 (0 : Int32)
        · refine g_iconst (v := (1 : Int32)) (dk D_X10_who 65 rfl) rfl ?_
          refine g_goto (tgt := 167) (dk D_X10_who 66 rfl) rfl ?_
          refine g_Lp [0, 1, 2, 3, 5] rfl ?_
          exact hj167 q12.2 x7 x6 (1 : Int32)
      refine g_ite (fun hc24 => ?_) (fun hc24 => ?_)
      · refine g_tabIn (tgt := 178) (off := 78) (dk D_X10_who 50 rfl) (by rw [hc24] <;> decide +kernel) (by rw [hc24] <;> decide +kernel) (by rw [hc24] <;> decide +kernel) rfl ?_
        refine g_iload (dk D_X10_who 73 rfl) rfl ?_
        refine g_iload (dk D_X10_who 74 rfl) rfl ?_
        refine g_ldc (dk D_X10_who 75 rfl) lk_RX10_202 ?_
        refine g_icmp_ne (tgt := 191) (dk D_X10_who 76 rfl) rfl (fun hc25 => ?_) (fun hc25 => ?_)
        · refine g_iconst (v := (0 : Int32)) (dk D_X10_who 79 rfl) rfl ?_
          refine g_Lp [0, 1, 2, 3, 5] rfl ?_
          exact hj192 q12.2 x7 x6 (0 : Int32)
        · refine g_iconst (v := (1 : Int32)) (dk D_X10_who 77 rfl) rfl ?_
          refine g_goto (tgt := 192) (dk D_X10_who 78 rfl) rfl ?_
          refine g_Lp [0, 1, 2, 3, 5] rfl ?_
          exact hj192 q12.2 x7 x6 (1 : Int32)
      refine g_ite (fun hc26 => ?_) (fun hc26 => ?_)
      · refine g_tabIn (tgt := 203) (off := 103) (dk D_X10_who 50 rfl) (by rw [hc26] <;> decide +kernel) (by rw [hc26] <;> decide +kernel) (by rw [hc26] <;> decide +kernel) rfl ?_
        refine g_iload (dk D_X10_who 85 rfl) rfl ?_
        refine g_iload (dk D_X10_who 86 rfl) rfl ?_
        refine g_iadd (dk D_X10_who 87 rfl) ?_
        refine g_ltV (fun x6_27 ex6_27 => ?_)
        refine g_istore (L' := [(0, vA (a0 + 1)), (3, vI x3), (4, vI x4), (5, vI x5), (6, vI x6_27), (7, vI x7), (8, vI x8_11), (9, vI x9_15), (10, vI x10_17), (11, vI x11_19)]) (dk D_X10_who 88 rfl) (Nat.le_of_ble_eq_true rfl) rfl ?_
        refine g_goto (tgt := 220) (dk D_X10_who 89 rfl) rfl ?_
        refine g_Lp [0, 1, 2, 3, 4, 5] rfl ?_
        exact hj220 q12.2 x6_27 x7
      refine g_tabOut (tgt := 213) (dk D_X10_who 50 rfl) (tabOut (n := 4) (by decide) (fun k hk => (match k, hk with | 0, _ => hc20 | 1, _ => hc22 | 2, _ => hc24 | 3, _ => hc26 | k + 4, hk => absurd hk (by omega)))) rfl ?_
      refine g_iload (dk D_X10_who 90 rfl) rfl ?_
      refine g_iload (dk D_X10_who 91 rfl) rfl ?_
      refine g_iadd (dk D_X10_who 92 rfl) ?_
      refine g_ltV (fun x6_28 ex6_28 => ?_)
      refine g_istore (L' := [(0, vA (a0 + 1)), (3, vI x3), (4, vI x4), (5, vI x5), (6, vI x6_28), (7, vI x7), (8, vI x8_11), (9, vI x9_15), (10, vI x10_17), (11, vI x11_19)]) (dk D_X10_who 93 rfl) (Nat.le_of_ble_eq_true rfl) rfl ?_
      refine g_Lp [0, 1, 2, 3, 4, 5] rfl ?_
      exact hj220 q12.2 x6_28 x7
  unfold f_X10_who
  refine g_iload_n (dk D_X10_who 0 rfl) rfl ?_
  refine h_callS (st := []) (c_X10_isDay (E := E) S0 I0 x1) cl_RX10_159 rfl rfl (by decide) (Nat.le_of_ble_eq_true rfl) (dk D_X10_who 1 rfl) ?_
  refine g_if_eq (tgt := 23) (dk D_X10_who 2 rfl) rfl (fun hc30 => ?_) (fun hc30 => ?_)
  · refine g_bipush (v := ((-2) : Int32)) (dk D_X10_who 11 rfl) rfl ?_
    exact g_ireturn rfl rfl Sx.rf rfl (by decide) (by decide) (dk D_X10_who 12 rfl)
  · refine g_iload_n (dk D_X10_who 3 rfl) rfl ?_
    refine h_callS (st := []) (c_X10_isDay (E := E) S0 I0 x2) cl_RX10_159 rfl rfl (by decide) (Nat.le_of_ble_eq_true rfl) (dk D_X10_who 4 rfl) ?_
    refine g_if_eq (tgt := 23) (dk D_X10_who 5 rfl) rfl (fun hc32 => ?_) (fun hc32 => ?_)
    · refine g_bipush (v := ((-2) : Int32)) (dk D_X10_who 11 rfl) rfl ?_
      exact g_ireturn rfl rfl Sx.rf rfl (by decide) (by decide) (dk D_X10_who 12 rfl)
    · refine g_iload_n (dk D_X10_who 6 rfl) rfl ?_
      refine g_iconst (v := (0 : Int32)) (dk D_X10_who 7 rfl) rfl ?_
      refine g_iconst (v := (4 : Int32)) (dk D_X10_who 8 rfl) rfl ?_
      refine h_callS (st := []) (c_X10_isWithin (E := E) S0 I0 x3 (0 : Int32) (4 : Int32)) cl_RX10_226 rfl rfl (by decide) (Nat.le_of_ble_eq_true rfl) (dk D_X10_who 9 rfl) ?_
      refine g_if_ne (tgt := 26) (dk D_X10_who 10 rfl) rfl (fun hc34 => ?_) (fun hc34 => ?_)
      · refine g_aload_n (dk D_X10_who 13 rfl) rfl ?_
        refine g_getAt (t := 2) fl_RX10_12 rfl ht0 (dk D_X10_who 14 rfl) (fun ht35 => ?_)
        refine g_iload_n (dk D_X10_who 15 rfl) rfl ?_
        refine g_gd (fun hn36 => ?_)
        refine g_bind (fun q37 hq38 => ?_)
        refine h_callV (st := []) (c_X2_running (E := E) fu S0 I0 ((S0.1 a0 0) - 1) x1 q37 hq38 (ht35.nz hn36)) cl_RX10_235 ht35 hn36 rfl rfl (by decide) (Nat.le_of_ble_eq_true rfl) (dk D_X10_who 16 rfl) ?_
        refine g_istore (L' := [(0, vA (a0 + 1)), (1, vI x1), (2, vI x2), (3, vI x3), (4, vI q37)]) (dk D_X10_who 17 rfl) (Nat.le_of_ble_eq_true rfl) rfl ?_
        refine g_aload_n (dk D_X10_who 18 rfl) rfl ?_
        refine g_getAt (t := 2) fl_RX10_12 rfl ht0 (dk D_X10_who 19 rfl) (fun ht40 => ?_)
        refine g_iload_n (dk D_X10_who 20 rfl) rfl ?_
        refine g_bind (fun q41 hq42 => ?_)
        refine h_callV (st := []) (c_X2_running (E := E) fu S0 I0 ((S0.1 a0 0) - 1) x2 q41 hq42 (ht35.nz hn36)) cl_RX10_235 ht35 hn36 rfl rfl (by decide) (Nat.le_of_ble_eq_true rfl) (dk D_X10_who 21 rfl) ?_
        refine g_istore (L' := [(0, vA (a0 + 1)), (1, vI x1), (2, vI x2), (3, vI x3), (4, vI q37), (5, vI q41)]) (dk D_X10_who 22 rfl) (Nat.le_of_ble_eq_true rfl) rfl ?_
        refine g_iconst (v := (0 : Int32)) (dk D_X10_who 23 rfl) rfl ?_
        refine g_istore (L' := [(0, vA (a0 + 1)), (1, vI x1), (2, vI x2), (3, vI x3), (4, vI q37), (5, vI q41), (6, vI (0 : Int32))]) (dk D_X10_who 24 rfl) (Nat.le_of_ble_eq_true rfl) rfl ?_
        refine g_iconst (v := (0 : Int32)) (dk D_X10_who 25 rfl) rfl ?_
        refine g_istore (L' := [(0, vA (a0 + 1)), (1, vI x1), (2, vI x2), (3, vI x3), (4, vI q37), (5, vI q41), (6, vI (0 : Int32)), (7, vI (0 : Int32))]) (dk D_X10_who 26 rfl) (Nat.le_of_ble_eq_true rfl) rfl ?_
        refine g_Lp [0, 3, 4, 5, 6, 7] rfl ?_
        exact hl52 q37 q41 fu (0 : Int32) (0 : Int32) I0 trivial
      · refine g_bipush (v := ((-2) : Int32)) (dk D_X10_who 11 rfl) rfl ?_
        exact g_ireturn rfl rfl Sx.rf rfl (by decide) (by decide) (dk D_X10_who 12 rfl)
theorem c_X10_who {E : EV} (fu : Nat) (S0 : Sk) (I0 : II) (a0 : Nat) (x1 : Int32) (x2 : Int32) (x3 : Int32) (r : Int32 × II) (h : f_X10_who fu S0 I0 a0 x1 x2 x3 = some r) (ht0 : tyO S0 10 a0) : MX E yX10_who i_X10_who S0 I0 [vA (a0 + 1), vI x1, vI x2, vI x3] (po_X10_who S0 I0 r) :=
  MX.of h (by decide) rfl rfl (Nat.le_of_ble_eq_true rfl) (gg_X10_who fu S0 I0 a0 x1 x2 x3 ht0)
theorem cl_RX10_257 : CS0 RX10 257 yX10_has i_X10_has 2 := ⟨⟨(gm 715 (by decide +kernel) (by decide +kernel)), (gm 66 (by decide +kernel) (by decide +kernel)), (gm 407 (by decide +kernel) (by decide +kernel)), by decide +kernel, by decide +kernel, by decide +kernel⟩, (gm 406 (by decide +kernel) (by decide +kernel))⟩
theorem fl_RX10_384 : FL RX10 384 1 0 := ⟨RX1, TX1, 11, rfl, by decide, rfl, by decide, (gm 421 (by decide +kernel) (by decide +kernel)), inG1⟩
def tb_X10_offeredLines : List (Nat × Instr × Nat) := [(0, .iconst 0, 1), (1, .istore_n 2, 1), (2, .iconst 0, 1), (3, .istore_n 3, 1), (4, .iload_n 3, 1), (5, .aload_n 0, 1), (6, .getfield 52, 3), (9, .if_icmp .ge 31, 3), (12, .iload_n 1, 1), (13, .iload_n 3, 1), (14, .invokestatic 257, 3), (17, .ifCond .eq 17, 3), (20, .iload_n 2, 1), (21, .iconst 1, 1), (22, .aload_n 0, 1), (23, .getfield 48, 3), (26, .iload_n 3, 1), (27, .aaload, 1), (28, .getfield 384, 3), (31, .ishl, 1), (32, .ior, 1), (33, .istore_n 2, 1), (34, .iinc 3 1, 3), (37, .goto (-33), 3), (40, .iload_n 2, 1), (41, .ireturn, 1)]
def i_X10_offeredLines : MI := (RX10, cX10_offeredLines, 4, (some .int), "offeredLines", { frames := 1, cells := 0, slots := 0, locals := 21 })
theorem D_X10_offeredLines : tbOK (i_X10_offeredLines).2.1 tb_X10_offeredLines := by show ∀ q ∈ tb_X10_offeredLines, decode cX10_offeredLines q.1 = .ok (q.2.1, q.2.2); decide +kernel
def po_X10_offeredLines (S : Sk) (I : II) (r : Int32) : Option LV × Sk × II := (some (vI r), S, I)
def jn_X10_offeredLines_34 (fu : Nat) (S : Sk) (I : II) (self4 : Int32 → Int32 → Option (Int32)) (a0 : Nat) (x1 : Int32) (x2 : Int32) (x3 : Int32) : Option (Int32) :=
  self4 x2 (x3 + (1 : Int32))
def lp_X10_offeredLines_4 (fu : Nat) (S : Sk) (I : II) (a0 : Nat) (x1 : Int32) (self4 : Int32 → Int32 → Option (Int32)) (x2 : Int32) (x3 : Int32) : Option (Int32) :=
  if (I a0 7) ≤ x3 then some (x2) else if (t_X10_has x1 x3) = 0 then jn_X10_offeredLines_34 fu S I self4 a0 x1 x2 x3 else gd (inb S (S.1 a0 6) x3) (gd ((S.1 ((S.1 a0 6) - 1) (nx x3)) ≠ 0) (lt (x2 ||| ((1 : Int32) <<< ((I ((S.1 ((S.1 a0 6) - 1) (nx x3)) - 1) 0) &&& 31))) fun x2_8 => (jn_X10_offeredLines_34 fu S I self4 a0 x1 x2_8 x3)))
def f_X10_offeredLines (fu : Nat) (S : Sk) (I : II) (a0 : Nat) (x1 : Int32) : Option (Int32) :=
  fix2 (lp_X10_offeredLines_4 fu S I a0 x1) fu (0 : Int32) (0 : Int32)
set_option maxRecDepth 100000 in
set_option maxHeartbeats 4000000 in
theorem gg_X10_offeredLines {E : EV} (fu : Nat) (S0 : Sk) (I0 : II) (a0 : Nat) (x1 : Int32) (ht0 : tyO S0 10 a0) : GG E i_X10_offeredLines (enM E i_X10_offeredLines S0 (po_X10_offeredLines S0 I0)) S0 I0 (0, 0) 0 [(0, vA (a0 + 1)), (1, vI x1)] [] (f_X10_offeredLines fu S0 I0 a0 x1) := by
  have hl4 : ∀ (nn : Nat) (x2 : Int32) (x3 : Int32), True → GG E i_X10_offeredLines (enM E i_X10_offeredLines S0 (po_X10_offeredLines S0 I0)) S0 I0 (0, 0) 4 [(0, vA (a0 + 1)), (1, vI x1), (2, vI x2), (3, vI x3)] [] (fix2 (lp_X10_offeredLines_4 fu S0 I0 a0 x1) nn x2 x3) := by
    refine g_fix2 (fun _ _ => S0) (fun _ _ => I0) (fun x2 x3 => [(0, vA (a0 + 1)), (1, vI x1), (2, vI x2), (3, vI x3)]) (fun x2 x3 => True) ?_
    intro self4 hself4 x2 x3 hinv
    have hj34 : ∀ (x2 : Int32) (x3 : Int32), GG E i_X10_offeredLines (enM E i_X10_offeredLines S0 (po_X10_offeredLines S0 I0)) S0 I0 (0, 0) 34 [(0, vA (a0 + 1)), (1, vI x1), (2, vI x2), (3, vI x3)] [] (jn_X10_offeredLines_34 fu S0 I0 self4 a0 x1 x2 x3) := by
      intro x2 x3 
      unfold jn_X10_offeredLines_34
      refine g_iinc (v := (1 : Int32)) (L' := [(0, vA (a0 + 1)), (1, vI x1), (2, vI x2), (3, vI (x3 + (1 : Int32)))]) (dk D_X10_offeredLines 22 rfl) rfl rfl (Nat.le_of_ble_eq_true rfl) rfl ?_
      refine g_goto (tgt := 4) (dk D_X10_offeredLines 23 rfl) rfl ?_
      exact hself4 x2 (x3 + (1 : Int32)) trivial
    unfold lp_X10_offeredLines_4
    refine g_iload_n (dk D_X10_offeredLines 4 rfl) rfl ?_
    refine g_aload_n (dk D_X10_offeredLines 5 rfl) rfl ?_
    refine g_getIt fl_RX10_52 (by decide) ht0 (dk D_X10_offeredLines 6 rfl) ?_
    refine g_icmp_ge (tgt := 40) (dk D_X10_offeredLines 7 rfl) rfl (fun hc1 => ?_) (fun hc1 => ?_)
    · refine g_iload_n (dk D_X10_offeredLines 24 rfl) rfl ?_
      exact g_ireturn rfl rfl Sx.rf rfl (by decide) (by decide) (dk D_X10_offeredLines 25 rfl)
    · refine g_iload_n (dk D_X10_offeredLines 8 rfl) rfl ?_
      refine g_iload_n (dk D_X10_offeredLines 9 rfl) rfl ?_
      refine h_callS (st := []) (c_X10_has (E := E) S0 I0 x1 x3) cl_RX10_257 rfl rfl (by decide) (Nat.le_of_ble_eq_true rfl) (dk D_X10_offeredLines 10 rfl) ?_
      refine g_if_eq (tgt := 34) (dk D_X10_offeredLines 11 rfl) rfl (fun hc3 => ?_) (fun hc3 => ?_)
      · exact hj34 x2 x3
      · refine g_iload_n (dk D_X10_offeredLines 12 rfl) rfl ?_
        refine g_iconst (v := (1 : Int32)) (dk D_X10_offeredLines 13 rfl) rfl ?_
        refine g_aload_n (dk D_X10_offeredLines 14 rfl) rfl ?_
        refine g_getAt (t := 111) fl_RX10_48 rfl ht0 (dk D_X10_offeredLines 15 rfl) (fun ht4 => ?_)
        refine g_iload_n (dk D_X10_offeredLines 16 rfl) rfl ?_
        refine g_gd (fun hi5 => ?_)
        refine g_aaload (c0 := 1) (by unfold aoC; decide) ht4 hi5 (dk D_X10_offeredLines 17 rfl) (fun ht6 => ?_)
        refine g_gd (fun hn7 => ?_)
        refine g_getI fl_RX10_384 (by decide) ht6 hn7 (dk D_X10_offeredLines 18 rfl) ?_
        refine g_ishl (dk D_X10_offeredLines 19 rfl) ?_
        refine g_ior (dk D_X10_offeredLines 20 rfl) ?_
        refine g_ltV (fun x2_8 ex2_8 => ?_)
        refine g_istore_n (L' := [(0, vA (a0 + 1)), (1, vI x1), (2, vI x2_8), (3, vI x3)]) (dk D_X10_offeredLines 21 rfl) (Nat.le_of_ble_eq_true rfl) rfl ?_
        exact hj34 x2_8 x3
  unfold f_X10_offeredLines
  refine g_iconst (v := (0 : Int32)) (dk D_X10_offeredLines 0 rfl) rfl ?_
  refine g_istore_n (L' := [(0, vA (a0 + 1)), (1, vI x1), (2, vI (0 : Int32))]) (dk D_X10_offeredLines 1 rfl) (Nat.le_of_ble_eq_true rfl) rfl ?_
  refine g_iconst (v := (0 : Int32)) (dk D_X10_offeredLines 2 rfl) rfl ?_
  refine g_istore_n (L' := [(0, vA (a0 + 1)), (1, vI x1), (2, vI (0 : Int32)), (3, vI (0 : Int32))]) (dk D_X10_offeredLines 3 rfl) (Nat.le_of_ble_eq_true rfl) rfl ?_
  exact hl4 fu (0 : Int32) (0 : Int32) trivial
theorem c_X10_offeredLines {E : EV} (fu : Nat) (S0 : Sk) (I0 : II) (a0 : Nat) (x1 : Int32) (r : Int32) (h : f_X10_offeredLines fu S0 I0 a0 x1 = some r) (ht0 : tyO S0 10 a0) : MX E yX10_offeredLines i_X10_offeredLines S0 I0 [vA (a0 + 1), vI x1] (po_X10_offeredLines S0 I0 r) :=
  MX.of h (by decide) rfl rfl (Nat.le_of_ble_eq_true rfl) (gg_X10_offeredLines fu S0 I0 a0 x1 ht0)
theorem cl_RX10_254 : CV0 RX10 254 yX10_offeredLines i_X10_offeredLines 1 10 := ⟨⟨(gm 711 (by decide +kernel) (by decide +kernel)), (gm 66 (by decide +kernel) (by decide +kernel)), ((gm 714 (by decide +kernel) (by decide +kernel))), by decide +kernel, by decide +kernel, by decide +kernel⟩, ⟨(gm 713 (by decide +kernel) (by decide +kernel)), (gm 13 (by decide +kernel) (by decide +kernel))⟩, rfl, by decide⟩
def tb_X10_offer : List (Nat × Instr × Nat) := [(0, .aload_n 0, 1), (1, .getfield 12, 3), (4, .iload_n 1, 1), (5, .invokevirtual 155, 3), (8, .astore_n 2, 1), (9, .aload_n 2, 1), (10, .ifnonnull 5, 3), (13, .iconst (-1), 1), (14, .ireturn, 1), (15, .aload_n 0, 1), (16, .iconst (-1), 1), (17, .invokevirtual 254, 3), (20, .iload_n 1, 1), (21, .invokestatic 257, 3), (24, .ifCond .eq 6, 3), (27, .bipush (-3), 2), (29, .ireturn, 1), (30, .aload_n 0, 1), (31, .getfield 52, 3), (34, .iconst 4, 1), (35, .if_icmp .lt 6, 3), (38, .bipush (-4), 2), (40, .ireturn, 1), (41, .aload_n 0, 1), (42, .getfield 48, 3), (45, .aload_n 0, 1), (46, .getfield 52, 3), (49, .aload_n 2, 1), (50, .aastore, 1), (51, .aload_n 0, 1), (52, .dup, 1), (53, .getfield 52, 3), (56, .iconst 1, 1), (57, .iadd, 1), (58, .putfield 52, 3), (61, .aload_n 0, 1), (62, .getfield 52, 3), (65, .iconst 1, 1), (66, .isub, 1), (67, .ireturn, 1)]
def i_X10_offer : MI := (RX10, cX10_offer, 3, (some .int), "offer", { frames := 2, cells := 0, slots := 0, locals := 44 })
theorem D_X10_offer : tbOK (i_X10_offer).2.1 tb_X10_offer := by show ∀ q ∈ tb_X10_offer, decode cX10_offer q.1 = .ok (q.2.1, q.2.2); decide +kernel
def po_X10_offer (S : Sk) (I : II) (r : Int32 × Sk × II) : Option LV × Sk × II := (some (vI r.1), r.2.1, r.2.2)
def f_X10_offer (fu : Nat) (S : Sk) (I : II) (a0 : Nat) (x1 : Int32) : Option (Int32 × Sk × II) :=
  gd ((S.1 a0 0) ≠ 0) ((f_X2_lineAt fu S I ((S.1 a0 0) - 1) x1).bind fun q3 => (if q3 = 0 then some ((((-1) : Int32), S, I)) else (f_X10_offeredLines fu S I a0 ((-1) : Int32)).bind fun q7 => (if (t_X10_has q7 x1) = 0 then if (I a0 7) < (4 : Int32) then gd (inb S (S.1 a0 6) (I a0 7)) (lt (upP S ((S.1 a0 6) - 1) (nx (I a0 7)) q3) fun S15 => (lt (upI I a0 7 ((I a0 7) + (1 : Int32))) fun I22 => (some ((((I22 a0 7) - (1 : Int32)), S15, I22))))) else some ((((-4) : Int32), S, I)) else some ((((-3) : Int32), S, I)))))
set_option maxRecDepth 100000 in
set_option maxHeartbeats 4000000 in
theorem gg_X10_offer {E : EV} (fu : Nat) (S0 : Sk) (I0 : II) (a0 : Nat) (x1 : Int32) (ht0 : tyO S0 10 a0) : GG E i_X10_offer (enM E i_X10_offer S0 (po_X10_offer S0 I0)) S0 I0 (0, 0) 0 [(0, vA (a0 + 1)), (1, vI x1)] [] (f_X10_offer fu S0 I0 a0 x1) := by
  unfold f_X10_offer
  refine g_aload_n (dk D_X10_offer 0 rfl) rfl ?_
  refine g_getAt (t := 2) fl_RX10_12 rfl ht0 (dk D_X10_offer 1 rfl) (fun ht1 => ?_)
  refine g_iload_n (dk D_X10_offer 2 rfl) rfl ?_
  refine g_gd (fun hn2 => ?_)
  refine g_bind (fun q3 hq4 => ?_)
  refine h_callVA (st := []) (c_X2_lineAt (E := E) fu S0 I0 ((S0.1 a0 0) - 1) x1 q3 hq4 (ht1.nz hn2)) rt_X2_lineAt cl_RX10_155 ht1 hn2 rfl rfl ⟨⟨by decide, by decide⟩, ⟨rfl, rfl⟩, by show 0 ≤ 0; omega, by show 0 ≤ 0; omega⟩ (Nat.le_of_ble_eq_true rfl) (dk D_X10_offer 3 rfl) (fun ht5 => ?_)
  refine g_astore_n (L' := [(0, vA (a0 + 1)), (1, vI x1), (2, vA q3)]) (dk D_X10_offer 4 rfl) (Nat.le_of_ble_eq_true rfl) rfl ?_
  refine g_aload_n (dk D_X10_offer 5 rfl) rfl ?_
  refine g_ifnonnull (tgt := 15) (dk D_X10_offer 6 rfl) rfl (fun hc6 => ?_) (fun hc6 => ?_)
  · refine g_aload_n (dk D_X10_offer 9 rfl) rfl ?_
    refine g_iconst (v := ((-1) : Int32)) (dk D_X10_offer 10 rfl) rfl ?_
    refine g_bind (fun q7 hq8 => ?_)
    refine h_callVt (st := []) (c_X10_offeredLines (E := E) fu S0 I0 a0 ((-1) : Int32) q7 hq8 (ht0)) cl_RX10_254 ht0 rfl rfl ⟨⟨by decide, by decide⟩, ⟨rfl, rfl⟩, by show 0 ≤ 0; omega, by show 0 ≤ 0; omega⟩ (Nat.le_of_ble_eq_true rfl) (dk D_X10_offer 11 rfl) ?_
    refine g_iload_n (dk D_X10_offer 12 rfl) rfl ?_
    refine h_callS (st := []) (c_X10_has (E := E) S0 I0 q7 x1) cl_RX10_257 rfl rfl ⟨⟨by decide, by decide⟩, ⟨rfl, rfl⟩, by show 0 ≤ 0; omega, by show 0 ≤ 0; omega⟩ (Nat.le_of_ble_eq_true rfl) (dk D_X10_offer 13 rfl) ?_
    refine g_if_eq (tgt := 30) (dk D_X10_offer 14 rfl) rfl (fun hc11 => ?_) (fun hc11 => ?_)
    · refine g_aload_n (dk D_X10_offer 17 rfl) rfl ?_
      refine g_getIt fl_RX10_52 (by decide) ht0 (dk D_X10_offer 18 rfl) ?_
      refine g_iconst (v := (4 : Int32)) (dk D_X10_offer 19 rfl) rfl ?_
      refine g_icmp_lt (tgt := 41) (dk D_X10_offer 20 rfl) rfl (fun hc12 => ?_) (fun hc12 => ?_)
      · refine g_aload_n (dk D_X10_offer 23 rfl) rfl ?_
        refine g_getAt (t := 111) fl_RX10_48 rfl ht0 (dk D_X10_offer 24 rfl) (fun ht13 => ?_)
        refine g_aload_n (dk D_X10_offer 25 rfl) rfl ?_
        refine g_getIt fl_RX10_52 (by decide) ht0 (dk D_X10_offer 26 rfl) ?_
        refine g_aload_n (dk D_X10_offer 27 rfl) rfl ?_
        refine g_gd (fun hi14 => ?_)
        refine g_aastore (c0 := 1) (by unfold aoC; decide) ht13 hi14 ht5 hc6 (dk D_X10_offer 28 rfl) ?_
        refine g_ltS (fun S15 eS15 => ?_)
        have hx16 : Sx S0 S15 := eS15 ▸ upP_x
        have ht17 := ht1.x hx16
        have ht18 := ht5.x hx16
        have ht19 := ht13.x hx16
        have ht20 := ht0.x hx16
        have hsx21 := Sx.tr Sx.rf hx16
        refine g_aload_n (dk D_X10_offer 29 rfl) rfl ?_
        refine g_dup (dk D_X10_offer 30 rfl) rfl ?_
        refine g_getIt fl_RX10_52 (by decide) ht20 (dk D_X10_offer 31 rfl) ?_
        refine g_iconst (v := (1 : Int32)) (dk D_X10_offer 32 rfl) rfl ?_
        refine g_iadd (dk D_X10_offer 33 rfl) ?_
        refine g_putIt fl_RX10_52 fp_10_7 (fun h => (by cases h)) (by decide) rfl rfl ht20 (dk D_X10_offer 34 rfl) ?_
        refine g_ltI (fun I22 eI22 => ?_)
        refine g_aload_n (dk D_X10_offer 35 rfl) rfl ?_
        refine g_getIt fl_RX10_52 (by decide) ht20 (dk D_X10_offer 36 rfl) ?_
        refine g_iconst (v := (1 : Int32)) (dk D_X10_offer 37 rfl) rfl ?_
        refine g_isub (dk D_X10_offer 38 rfl) ?_
        exact g_ireturn rfl rfl hsx21 rfl (by show 0 ≤ 0; omega) (by show 0 ≤ 0; omega) (dk D_X10_offer 39 rfl)
      · refine g_bipush (v := ((-4) : Int32)) (dk D_X10_offer 21 rfl) rfl ?_
        exact g_ireturn rfl rfl Sx.rf rfl (by show 0 ≤ 0; omega) (by show 0 ≤ 0; omega) (dk D_X10_offer 22 rfl)
    · refine g_bipush (v := ((-3) : Int32)) (dk D_X10_offer 15 rfl) rfl ?_
      exact g_ireturn rfl rfl Sx.rf rfl (by show 0 ≤ 0; omega) (by show 0 ≤ 0; omega) (dk D_X10_offer 16 rfl)
  · refine g_iconst (v := ((-1) : Int32)) (dk D_X10_offer 7 rfl) rfl ?_
    exact g_ireturn rfl rfl Sx.rf rfl (by show 0 ≤ 0; omega) (by show 0 ≤ 0; omega) (dk D_X10_offer 8 rfl)
theorem c_X10_offer {E : EV} (fu : Nat) (S0 : Sk) (I0 : II) (a0 : Nat) (x1 : Int32) (r : Int32 × Sk × II) (h : f_X10_offer fu S0 I0 a0 x1 = some r) (ht0 : tyO S0 10 a0) : MX E yX10_offer i_X10_offer S0 I0 [vA (a0 + 1), vI x1] (po_X10_offer S0 I0 r) :=
  MX.of h (by decide) rfl rfl (Nat.le_of_ble_eq_true rfl) (gg_X10_offer fu S0 I0 a0 x1 ht0)
theorem nw_RX10_269 : NW RX10 269 6 := ⟨RX6, TX6, 3, tyX6, rfl, rfl, by decide, tyX6_ok, by decide +kernel, (gm 725 (by decide +kernel) (by decide +kernel)), (gm 726 (by decide +kernel) (by decide +kernel)), (gm 79 (by decide +kernel) (by decide +kernel)), inG6⟩
theorem cl_RX10_400 : LkB RX10 400 yX6_init i_X6_init 3 := ⟨(gm 727 (by decide +kernel) (by decide +kernel)), (gm 79 (by decide +kernel) (by decide +kernel)), (gm 729 (by decide +kernel) (by decide +kernel)), by decide +kernel, by decide +kernel, by decide +kernel⟩
theorem si_X6_init : Cond.instanceMethod yX6_init ∈ lw_good := (gm 728 (by decide +kernel) (by decide +kernel))
def tb_X10_tallyOf : List (Nat × Instr × Nat) := [(0, .iconst 0, 1), (1, .istore_n 3, 1), (2, .iconst 0, 1), (3, .istore 4, 2), (5, .iconst 0, 1), (6, .istore 5, 2), (8, .iload 5, 2), (10, .aload_n 0, 1), (11, .getfield 34, 3), (14, .if_icmp .ge 35, 3), (17, .aload_n 0, 1), (18, .iload 5, 2), (20, .iload_n 2, 1), (21, .invokevirtual 238, 3), (24, .istore 6, 2), (26, .iload 6, 2), (28, .ldc 202, 2), (30, .if_icmp .eq 13, 3), (33, .iinc 3 1, 3), (36, .iload 4, 2), (38, .iload 6, 2), (40, .iadd, 1), (41, .istore 4, 2), (43, .iinc 5 1, 3), (46, .goto (-38), 3), (49, .new 269, 3), (52, .dup, 1), (53, .iload_n 1, 1), (54, .iload_n 3, 1), (55, .iload 4, 2), (57, .invokespecial 400, 3), (60, .areturn, 1)]
def i_X10_tallyOf : MI := (RX10, cX10_tallyOf, 7, (some (.object "RedrawnLines$Tally")), "tallyOf", { frames := 5, cells := 1, slots := 3, locals := 175 })
theorem D_X10_tallyOf : tbOK (i_X10_tallyOf).2.1 tb_X10_tallyOf := by show ∀ q ∈ tb_X10_tallyOf, decode cX10_tallyOf q.1 = .ok (q.2.1, q.2.2); decide +kernel
theorem rt_X10_tallyOf : rtag (i_X10_tallyOf).2.2.2.1 = 6 := by decide +kernel
def po_X10_tallyOf (S : Sk) (I : II) (r : Nat × Sk × II) : Option LV × Sk × II := (some (vA r.1), r.2.1, r.2.2)
def jn_X10_tallyOf_43 (fu : Nat) (S : Sk) (I : II) (self8 : Int32 → Int32 → Int32 → II → Option (Nat × Sk × II)) (a0 : Nat) (x1 : Int32) (x2 : Int32) (x3 : Int32) (x4 : Int32) (x5 : Int32) : Option (Nat × Sk × II) :=
  self8 x3 x4 (x5 + (1 : Int32)) I
def lp_X10_tallyOf_8 (fu : Nat) (S : Sk) (a0 : Nat) (x1 : Int32) (x2 : Int32) (self8 : Int32 → Int32 → Int32 → II → Option (Nat × Sk × II)) (x3 : Int32) (x4 : Int32) (x5 : Int32) (I : II) : Option (Nat × Sk × II) :=
  if (I a0 4) ≤ x5 then lt (nwS S 6 0) fun S2 => (lt (nwI S I) fun I3 => ((f_X6_init fu S2 I3 S.2.2.2 x1 x3 x4).bind fun q8 => (some (((S.2.2.2 + 1), S2, q8))))) else (f_X10_arrival fu S I a0 x5 x2).bind fun q12 => (lt q12.1 fun x6_15 => (if x6_15 = (1073741824 : Int32) then jn_X10_tallyOf_43 fu S q12.2 self8 a0 x1 x2 x3 x4 x5 else lt (x4 + x6_15) fun x4_17 => (jn_X10_tallyOf_43 fu S q12.2 self8 a0 x1 x2 (x3 + (1 : Int32)) x4_17 x5)))
def f_X10_tallyOf (fu : Nat) (S : Sk) (I : II) (a0 : Nat) (x1 : Int32) (x2 : Int32) : Option (Nat × Sk × II) :=
  fix4 (lp_X10_tallyOf_8 fu S a0 x1 x2) fu (0 : Int32) (0 : Int32) (0 : Int32) I
set_option maxRecDepth 100000 in
set_option maxHeartbeats 4000000 in
theorem gg_X10_tallyOf {E : EV} (fu : Nat) (S0 : Sk) (I0 : II) (a0 : Nat) (x1 : Int32) (x2 : Int32) (ht0 : tyO S0 10 a0) : GG E i_X10_tallyOf (enM E i_X10_tallyOf S0 (po_X10_tallyOf S0 I0)) S0 I0 (0, 0) 0 [(0, vA (a0 + 1)), (1, vI x1), (2, vI x2)] [] (f_X10_tallyOf fu S0 I0 a0 x1 x2) := by
  have hl8 : ∀ (S : Sk) (ht0 : tyO S 10 a0) (hsx : Sx S0 S) (nn : Nat) (x3 : Int32) (x4 : Int32) (x5 : Int32) (I : II), True → GG E i_X10_tallyOf (enM E i_X10_tallyOf S0 (po_X10_tallyOf S0 I0)) S I (0, 0) 8 [(0, vA (a0 + 1)), (1, vI x1), (2, vI x2), (3, vI x3), (4, vI x4), (5, vI x5)] [] (fix4 (lp_X10_tallyOf_8 fu S a0 x1 x2) nn x3 x4 x5 I) := by
    intro S   ht0 hsx
    refine g_fix4 (fun _ _ _ _ => S) (fun x3 x4 x5 I => I) (fun x3 x4 x5 I => [(0, vA (a0 + 1)), (1, vI x1), (2, vI x2), (3, vI x3), (4, vI x4), (5, vI x5)]) (fun x3 x4 x5 I => True) ?_
    intro self8 hself8 x3 x4 x5 I hinv
    have hj43 : ∀ (I : II) (x3 : Int32) (x4 : Int32) (x5 : Int32), GG E i_X10_tallyOf (enM E i_X10_tallyOf S0 (po_X10_tallyOf S0 I0)) S I (0, 0) 43 [(0, vA (a0 + 1)), (1, vI x1), (2, vI x2), (3, vI x3), (4, vI x4), (5, vI x5)] [] (jn_X10_tallyOf_43 fu S I self8 a0 x1 x2 x3 x4 x5) := by
      intro I x3 x4 x5 
      unfold jn_X10_tallyOf_43
      refine g_iinc (v := (1 : Int32)) (L' := [(0, vA (a0 + 1)), (1, vI x1), (2, vI x2), (3, vI x3), (4, vI x4), (5, vI (x5 + (1 : Int32)))]) (dk D_X10_tallyOf 23 rfl) rfl rfl (Nat.le_of_ble_eq_true rfl) rfl ?_
      refine g_goto (tgt := 8) (dk D_X10_tallyOf 24 rfl) rfl ?_
      exact hself8 x3 x4 (x5 + (1 : Int32)) I trivial
    unfold lp_X10_tallyOf_8
    refine g_iload (dk D_X10_tallyOf 6 rfl) rfl ?_
    refine g_aload_n (dk D_X10_tallyOf 7 rfl) rfl ?_
    refine g_getIt fl_RX10_34 (by decide) ht0 (dk D_X10_tallyOf 8 rfl) ?_
    refine g_icmp_ge (tgt := 49) (dk D_X10_tallyOf 9 rfl) rfl (fun hc1 => ?_) (fun hc1 => ?_)
    · refine g_new nw_RX10_269 (by show 0 + 1 ≤ 1; omega) (by show 0 + 3 ≤ 3; omega) (dk D_X10_tallyOf 25 rfl) ?_
      refine g_wide (cs' := (1, 3)) (by show 0 + 1 ≤ 1; omega) (by show 0 + 3 ≤ 3; omega) ?_
      refine g_ltS (fun S2 eS2 => ?_)
      refine g_ltI (fun I3 eI3 => ?_)
      have hx4 : Sx S S2 := eS2 ▸ nwS_x
      have ht5 := ht0.x hx4
      have hsx6 := Sx.tr hsx hx4
      have ht7 : tyR S2 6 (S.2.2.2 + 1) := eS2 ▸ nwS_ty.R
      refine g_dup (dk D_X10_tallyOf 26 rfl) rfl ?_
      refine g_iload_n (dk D_X10_tallyOf 27 rfl) rfl ?_
      refine g_iload_n (dk D_X10_tallyOf 28 rfl) rfl ?_
      refine g_iload (dk D_X10_tallyOf 29 rfl) rfl ?_
      refine g_bind (fun q8 hq9 => ?_)
      refine g_callI (st := [vA (S.2.2.2 + 1)]) (c_X6_init (E := E) fu S2 I3 S.2.2.2 x1 x3 x4 q8 hq9 (ht7.nz (Nat.succ_ne_zero _))) cl_RX10_400 rfl si_X6_init rfl rfl rfl ⟨⟨by decide, by decide⟩, by show 1 + 0 ≤ 1; omega, by show 3 + 0 ≤ 3; omega⟩ (Nat.le_of_ble_eq_true rfl) (dk D_X10_tallyOf 30 rfl) (fun hx11 => ?_)
      refine g_wide (cs' := (1, 3)) (by show 1 + 0 ≤ 1; omega) (by show 3 + 0 ≤ 3; omega) ?_
      exact g_areturn rfl rfl hsx6 rfl rt_X10_tallyOf ht7 (Or.inl ⟨_, rfl⟩) (by show 1 ≤ 1; omega) (by show 3 ≤ 3; omega) (dk D_X10_tallyOf 31 rfl)
    · refine g_aload_n (dk D_X10_tallyOf 10 rfl) rfl ?_
      refine g_iload (dk D_X10_tallyOf 11 rfl) rfl ?_
      refine g_iload_n (dk D_X10_tallyOf 12 rfl) rfl ?_
      refine g_bind (fun q12 hq13 => ?_)
      refine h_callVt (st := []) (c_X10_arrival (E := E) fu S I a0 x5 x2 q12 hq13 (ht0)) cl_RX10_238 ht0 rfl rfl ⟨⟨by decide, by decide⟩, ⟨rfl, rfl⟩, by show 0 ≤ 1; omega, by show 0 ≤ 3; omega⟩ (Nat.le_of_ble_eq_true rfl) (dk D_X10_tallyOf 13 rfl) ?_
      refine g_ltV (fun x6_15 ex6_15 => ?_)
      refine g_istore (L' := [(0, vA (a0 + 1)), (1, vI x1), (2, vI x2), (3, vI x3), (4, vI x4), (5, vI x5), (6, vI x6_15)]) (dk D_X10_tallyOf 14 rfl) (Nat.le_of_ble_eq_true rfl) rfl ?_
      refine g_iload (dk D_X10_tallyOf 15 rfl) rfl ?_
      refine g_ldc (dk D_X10_tallyOf 16 rfl) lk_RX10_202 ?_
      refine g_icmp_eq (tgt := 43) (dk D_X10_tallyOf 17 rfl) rfl (fun hc16 => ?_) (fun hc16 => ?_)
      · refine g_Lp [0, 1, 2, 3, 4, 5] rfl ?_
        exact hj43 q12.2 x3 x4 x5
      · refine g_iinc (v := (1 : Int32)) (L' := [(0, vA (a0 + 1)), (1, vI x1), (2, vI x2), (3, vI (x3 + (1 : Int32))), (4, vI x4), (5, vI x5), (6, vI x6_15)]) (dk D_X10_tallyOf 18 rfl) rfl rfl (Nat.le_of_ble_eq_true rfl) rfl ?_
        refine g_iload (dk D_X10_tallyOf 19 rfl) rfl ?_
        refine g_iload (dk D_X10_tallyOf 20 rfl) rfl ?_
        refine g_iadd (dk D_X10_tallyOf 21 rfl) ?_
        refine g_ltV (fun x4_17 ex4_17 => ?_)
        refine g_istore (L' := [(0, vA (a0 + 1)), (1, vI x1), (2, vI x2), (3, vI (x3 + (1 : Int32))), (4, vI x4_17), (5, vI x5), (6, vI x6_15)]) (dk D_X10_tallyOf 22 rfl) (Nat.le_of_ble_eq_true rfl) rfl ?_
        refine g_Lp [0, 1, 2, 3, 4, 5] rfl ?_
        exact hj43 q12.2 (x3 + (1 : Int32)) x4_17 x5
  unfold f_X10_tallyOf
  refine g_iconst (v := (0 : Int32)) (dk D_X10_tallyOf 0 rfl) rfl ?_
  refine g_istore_n (L' := [(0, vA (a0 + 1)), (1, vI x1), (2, vI x2), (3, vI (0 : Int32))]) (dk D_X10_tallyOf 1 rfl) (Nat.le_of_ble_eq_true rfl) rfl ?_
  refine g_iconst (v := (0 : Int32)) (dk D_X10_tallyOf 2 rfl) rfl ?_
  refine g_istore (L' := [(0, vA (a0 + 1)), (1, vI x1), (2, vI x2), (3, vI (0 : Int32)), (4, vI (0 : Int32))]) (dk D_X10_tallyOf 3 rfl) (Nat.le_of_ble_eq_true rfl) rfl ?_
  refine g_iconst (v := (0 : Int32)) (dk D_X10_tallyOf 4 rfl) rfl ?_
  refine g_istore (L' := [(0, vA (a0 + 1)), (1, vI x1), (2, vI x2), (3, vI (0 : Int32)), (4, vI (0 : Int32)), (5, vI (0 : Int32))]) (dk D_X10_tallyOf 5 rfl) (Nat.le_of_ble_eq_true rfl) rfl ?_
  exact hl8 S0 ht0 Sx.rf fu (0 : Int32) (0 : Int32) (0 : Int32) I0 trivial
theorem c_X10_tallyOf {E : EV} (fu : Nat) (S0 : Sk) (I0 : II) (a0 : Nat) (x1 : Int32) (x2 : Int32) (r : Nat × Sk × II) (h : f_X10_tallyOf fu S0 I0 a0 x1 x2 = some r) (ht0 : tyO S0 10 a0) : MX E yX10_tallyOf i_X10_tallyOf S0 I0 [vA (a0 + 1), vI x1, vI x2] (po_X10_tallyOf S0 I0 r) :=
  MX.of h (by decide) rfl rfl (Nat.le_of_ble_eq_true rfl) (gg_X10_tallyOf fu S0 I0 a0 x1 x2 ht0)
theorem fl_RX10_274 : FL RX10 274 6 0 := ⟨RX6, TX6, 3, rfl, by decide, rfl, by decide, (gm 732 (by decide +kernel) (by decide +kernel)), inG6⟩
theorem fl_RX10_277 : FL RX10 277 6 1 := ⟨RX6, TX6, 3, rfl, by decide, rfl, by decide, (gm 734 (by decide +kernel) (by decide +kernel)), inG6⟩
theorem fl_RX10_280 : FL RX10 280 6 2 := ⟨RX6, TX6, 3, rfl, by decide, rfl, by decide, (gm 736 (by decide +kernel) (by decide +kernel)), inG6⟩
theorem cl_RX10_265 : CV0 RX10 265 yX2_busMinutes i_X2_busMinutes 1 2 := ⟨⟨(gm 744 (by decide +kernel) (by decide +kernel)), (gm 67 (by decide +kernel) (by decide +kernel)), ((gm 747 (by decide +kernel) (by decide +kernel))), by decide +kernel, by decide +kernel, by decide +kernel⟩, ⟨(gm 745 (by decide +kernel) (by decide +kernel)), (gm 746 (by decide +kernel) (by decide +kernel))⟩, rfl, by decide⟩
theorem cl_RX10_261 : CV0 RX10 261 yX10_tallyOf i_X10_tallyOf 2 10 := ⟨⟨(gm 721 (by decide +kernel) (by decide +kernel)), (gm 66 (by decide +kernel) (by decide +kernel)), ((gm 724 (by decide +kernel) (by decide +kernel))), by decide +kernel, by decide +kernel, by decide +kernel⟩, ⟨(gm 723 (by decide +kernel) (by decide +kernel)), (gm 14 (by decide +kernel) (by decide +kernel))⟩, rfl, by decide⟩
theorem cl_RX10_268 : CV0 RX10 268 yX6_beats i_X6_beats 1 6 := ⟨⟨(gm 749 (by decide +kernel) (by decide +kernel)), (gm 79 (by decide +kernel) (by decide +kernel)), ((gm 752 (by decide +kernel) (by decide +kernel))), by decide +kernel, by decide +kernel, by decide +kernel⟩, ⟨(gm 750 (by decide +kernel) (by decide +kernel)), (gm 751 (by decide +kernel) (by decide +kernel))⟩, rfl, by decide⟩
theorem lk_RX10_260 : Cond.constant RX10 260 (99999 : Int32) ∈ lw_good := (gm 720 (by decide +kernel) (by decide +kernel))
def tb_X10_best : List (Nat × Instr × Nat) := [(0, .iload_n 1, 1), (1, .invokestatic 159, 3), (4, .ifCond .eq 23, 3), (7, .iload_n 2, 1), (8, .iconst 0, 1), (9, .ldc_w 260, 3), (12, .invokestatic 226, 3), (15, .ifCond .eq 12, 3), (18, .iload_n 3, 1), (19, .iconst 0, 1), (20, .iconst 3, 1), (21, .invokestatic 226, 3), (24, .ifCond .ne 6, 3), (27, .bipush (-2), 2), (29, .ireturn, 1), (30, .aload_n 0, 1), (31, .getfield 12, 3), (34, .iload_n 1, 1), (35, .invokevirtual 235, 3), (38, .istore 4, 2), (40, .iload 4, 2), (42, .aload_n 0, 1), (43, .iconst (-1), 1), (44, .invokevirtual 254, 3), (47, .iconst (-1), 1), (48, .ixor, 1), (49, .iand, 1), (50, .istore 5, 2), (52, .aload_n 0, 1), (53, .iconst 0, 1), (54, .iload 5, 2), (56, .invokevirtual 261, 3), (59, .astore 6, 2), (61, .iconst 1, 1), (62, .istore 7, 2), (64, .iload 7, 2), (66, .iconst 1, 1), (67, .aload_n 0, 1), (68, .getfield 52, 3), (71, .ishl, 1), (72, .if_icmp .ge 67, 3), (75, .aload_n 0, 1), (76, .iload 7, 2), (78, .invokevirtual 254, 3), (81, .istore 8, 2), (83, .iload 8, 2), (85, .iload 4, 2), (87, .iconst (-1), 1), (88, .ixor, 1), (89, .iand, 1), (90, .ifCond .ne 43, 3), (93, .aload_n 0, 1), (94, .getfield 12, 3), (97, .iload 8, 2), (99, .invokevirtual 265, 3), (102, .iload_n 2, 1), (103, .if_icmp .gt 30, 3), (106, .aload_n 0, 1), (107, .iload 7, 2), (109, .iload 5, 2), (111, .iload 8, 2), (113, .ior, 1), (114, .invokevirtual 261, 3), (117, .astore 9, 2), (119, .aload 9, 2), (121, .aload 6, 2), (123, .invokevirtual 268, 3), (126, .ifCond .eq 7, 3), (129, .aload 9, 2), (131, .astore 6, 2), (133, .iinc 7 1, 3), (136, .goto (-72), 3), (139, .iload_n 3, 1), (140, .tableswitch 46 0 2 #[28, 34, 40], 28), (168, .aload 6, 2), (170, .getfield 274, 3), (173, .ireturn, 1), (174, .aload 6, 2), (176, .getfield 277, 3), (179, .ireturn, 1), (180, .aload 6, 2), (182, .getfield 280, 3), (185, .ireturn, 1), (186, .aload_n 0, 1), (187, .getfield 12, 3), (190, .aload_n 0, 1), (191, .aload 6, 2), (193, .getfield 274, 3), (196, .invokevirtual 254, 3), (199, .invokevirtual 265, 3), (202, .ireturn, 1)]
def i_X10_best : MI := (RX10, cX10_best, 10, (some .int), "best", { frames := 6, cells := 19, slots := 57, locals := 201 })
theorem D_X10_best : tbOK (i_X10_best).2.1 tb_X10_best := by show ∀ q ∈ tb_X10_best, decode cX10_best q.1 = .ok (q.2.1, q.2.2); decide +kernel
def po_X10_best (S : Sk) (I : II) (r : Int32 × Sk × II) : Option LV × Sk × II := (some (vI r.1), r.2.1, r.2.2)
def jn_X10_best_133 (fu : Nat) (S : Sk) (I : II) (self64 : Nat → Int32 → Sk → II → Option (Int32 × Sk × II)) (a0 : Nat) (x2 : Int32) (x3 : Int32) (x4 : Int32) (x5 : Int32) (r6 : Nat) (x7 : Int32) : Option (Int32 × Sk × II) :=
  self64 r6 (x7 + (1 : Int32)) S I
def lp_X10_best_64 (fu : Nat) (a0 : Nat) (x2 : Int32) (x3 : Int32) (x4 : Int32) (x5 : Int32) (self64 : Nat → Int32 → Sk → II → Option (Int32 × Sk × II)) (r6 : Nat) (x7 : Int32) (S : Sk) (I : II) : Option (Int32 × Sk × II) :=
  if ((1 : Int32) <<< ((I a0 7) &&& 31)) ≤ x7 then if x3 = (0 : Int32) then gd (r6 ≠ 0) (some (((I (r6 - 1) 0), S, I))) else (if x3 = (1 : Int32) then gd (r6 ≠ 0) (some (((I (r6 - 1) 1), S, I))) else (if x3 = (2 : Int32) then gd (r6 ≠ 0) (some (((I (r6 - 1) 2), S, I))) else gd (r6 ≠ 0) ((f_X10_offeredLines fu S I a0 (I (r6 - 1) 0)).bind fun q10 => (gd ((S.1 a0 0) ≠ 0) ((f_X2_busMinutes fu S I ((S.1 a0 0) - 1) q10).bind fun q14 => (some ((q14, S, I)))))))) else (f_X10_offeredLines fu S I a0 x7).bind fun q17 => (if (q17 &&& (x4 ^^^ ((-1) : Int32))) = 0 then gd ((S.1 a0 0) ≠ 0) ((f_X2_busMinutes fu S I ((S.1 a0 0) - 1) q17).bind fun q23 => (if x2 < q23 then jn_X10_best_133 fu S I self64 a0 x2 x3 x4 x5 r6 x7 else (f_X10_tallyOf fu S I a0 x7 (x5 ||| q17)).bind fun q27 => (gd (q27.1 ≠ 0) ((f_X6_beats fu q27.2.1 q27.2.2 (q27.1 - 1) r6).bind fun q36 => (if q36 = 0 then jn_X10_best_133 fu q27.2.1 q27.2.2 self64 a0 x2 x3 x4 x5 r6 x7 else jn_X10_best_133 fu q27.2.1 q27.2.2 self64 a0 x2 x3 x4 x5 q27.1 x7))))) else jn_X10_best_133 fu S I self64 a0 x2 x3 x4 x5 r6 x7)
def f_X10_best (fu : Nat) (S : Sk) (I : II) (a0 : Nat) (x1 : Int32) (x2 : Int32) (x3 : Int32) : Option (Int32 × Sk × II) :=
  if (t_X10_isDay x1) = 0 then some ((((-2) : Int32), S, I)) else if (t_X10_isWithin x2 (0 : Int32) (99999 : Int32)) = 0 then some ((((-2) : Int32), S, I)) else if (t_X10_isWithin x3 (0 : Int32) (3 : Int32)) = 0 then some ((((-2) : Int32), S, I)) else gd ((S.1 a0 0) ≠ 0) ((f_X2_running fu S I ((S.1 a0 0) - 1) x1).bind fun q48 => ((f_X10_offeredLines fu S I a0 ((-1) : Int32)).bind fun q51 => (lt (q48 &&& (q51 ^^^ ((-1) : Int32))) fun x5_54 => ((f_X10_tallyOf fu S I a0 (0 : Int32) x5_54).bind fun q55 => (fix4 (lp_X10_best_64 fu a0 x2 x3 q48 x5_54) 17 q55.1 (1 : Int32) q55.2.1 q55.2.2)))))
set_option maxRecDepth 100000 in
set_option maxHeartbeats 4000000 in
theorem gg_X10_best {E : EV} (fu : Nat) (S0 : Sk) (I0 : II) (a0 : Nat) (x1 : Int32) (x2 : Int32) (x3 : Int32) (ht0 : tyO S0 10 a0) : GG E i_X10_best (enM E i_X10_best S0 (po_X10_best S0 I0)) S0 I0 (0, 0) 0 [(0, vA (a0 + 1)), (1, vI x1), (2, vI x2), (3, vI x3)] [] (f_X10_best fu S0 I0 a0 x1 x2 x3) := by
  have hl64 : ∀ (x4 : Int32) (x5 : Int32) (nn : Nat) (c s : Nat) (hc : c + nn * 1 ≤ 19) (hs : s + nn * 3 ≤ 57) (r6 : Nat) (x7 : Int32) (S : Sk) (I : II), tyO S 10 a0 ∧ tyR S 6 r6 ∧ Sx S0 S → GG E i_X10_best (enM E i_X10_best S0 (po_X10_best S0 I0)) S I (c, s) 64 [(0, vA (a0 + 1)), (2, vI x2), (3, vI x3), (4, vI x4), (5, vI x5), (6, vA r6), (7, vI x7)] [] (fix4 (lp_X10_best_64 fu a0 x2 x3 x4 x5) nn r6 x7 S I) := by
    intro x4 x5 
    refine g_fix4A (qc := 1) (qs := 3) (CT := 19) (CS := 57) (fun r6 x7 S I => S) (fun r6 x7 S I => I) (fun r6 x7 S I => [(0, vA (a0 + 1)), (2, vI x2), (3, vI x3), (4, vI x4), (5, vI x5), (6, vA r6), (7, vI x7)]) (fun r6 x7 S I => tyO S 10 a0 ∧ tyR S 6 r6 ∧ Sx S0 S) ?_
    intro nn self64 hself64 c s hc hs r6 x7 S I hinv
    obtain ⟨ht0, h_r6, hsx⟩ := hinv
    have hj133 : ∀ (S : Sk) (I : II) (r6 : Nat) (x7 : Int32) (h_r6 : tyR S 6 r6) (ht0 : tyO S 10 a0) (hsx : Sx S0 S), GG E i_X10_best (enM E i_X10_best S0 (po_X10_best S0 I0)) S I (c + 1, s + 3) 133 [(0, vA (a0 + 1)), (2, vI x2), (3, vI x3), (4, vI x4), (5, vI x5), (6, vA r6), (7, vI x7)] [] (jn_X10_best_133 fu S I self64 a0 x2 x3 x4 x5 r6 x7) := by
      intro S I r6 x7 h_r6 ht0 hsx
      unfold jn_X10_best_133
      refine g_iinc (v := (1 : Int32)) (L' := [(0, vA (a0 + 1)), (2, vI x2), (3, vI x3), (4, vI x4), (5, vI x5), (6, vA r6), (7, vI (x7 + (1 : Int32)))]) (dk D_X10_best 70 rfl) rfl rfl (Nat.le_of_ble_eq_true rfl) rfl ?_
      refine g_goto (tgt := 64) (dk D_X10_best 71 rfl) rfl ?_
      exact hself64 (c + 1) (s + 3) (by omega) (by omega) r6 (x7 + (1 : Int32)) S I ⟨ht0, h_r6, hsx⟩
    unfold lp_X10_best_64
    refine g_iload (dk D_X10_best 35 rfl) rfl ?_
    refine g_iconst (v := (1 : Int32)) (dk D_X10_best 36 rfl) rfl ?_
    refine g_aload_n (dk D_X10_best 37 rfl) rfl ?_
    refine g_getIt fl_RX10_52 (by decide) ht0 (dk D_X10_best 38 rfl) ?_
    refine g_ishl (dk D_X10_best 39 rfl) ?_
    refine g_icmp_ge (tgt := 139) (dk D_X10_best 40 rfl) rfl (fun hc1 => ?_) (fun hc1 => ?_)
    · refine g_iload_n (dk D_X10_best 72 rfl) rfl ?_
      refine g_ite (fun hc2 => ?_) (fun hc2 => ?_)
      · refine g_tabIn (tgt := 168) (off := 28) (dk D_X10_best 73 rfl) (by rw [hc2] <;> decide +kernel) (by rw [hc2] <;> decide +kernel) (by rw [hc2] <;> decide +kernel) rfl ?_
        refine g_aload (dk D_X10_best 74 rfl) rfl ?_
        refine g_gd (fun hn3 => ?_)
        refine g_getI fl_RX10_274 (by decide) h_r6 hn3 (dk D_X10_best 75 rfl) ?_
        exact g_ireturn rfl rfl hsx rfl (by show c ≤ 19; omega) (by show s ≤ 57; omega) (dk D_X10_best 76 rfl)
      refine g_ite (fun hc4 => ?_) (fun hc4 => ?_)
      · refine g_tabIn (tgt := 174) (off := 34) (dk D_X10_best 73 rfl) (by rw [hc4] <;> decide +kernel) (by rw [hc4] <;> decide +kernel) (by rw [hc4] <;> decide +kernel) rfl ?_
        refine g_aload (dk D_X10_best 77 rfl) rfl ?_
        refine g_gd (fun hn5 => ?_)
        refine g_getI fl_RX10_277 (by decide) h_r6 hn5 (dk D_X10_best 78 rfl) ?_
        exact g_ireturn rfl rfl hsx rfl (by show c ≤ 19; omega) (by show s ≤ 57; omega) (dk D_X10_best 79 rfl)
      refine g_ite (fun hc6 => ?_) (fun hc6 => ?_)
      · refine g_tabIn (tgt := 180) (off := 40) (dk D_X10_best 73 rfl) (by rw [hc6] <;> decide +kernel) (by rw [hc6] <;> decide +kernel) (by rw [hc6] <;> decide +kernel) rfl ?_
        refine g_aload (dk D_X10_best 80 rfl) rfl ?_
        refine g_gd (fun hn7 => ?_)
        refine g_getI fl_RX10_280 (by decide) h_r6 hn7 (dk D_X10_best 81 rfl) ?_
        exact g_ireturn rfl rfl hsx rfl (by show c ≤ 19; omega) (by show s ≤ 57; omega) (dk D_X10_best 82 rfl)
      refine g_tabOut (tgt := 186) (dk D_X10_best 73 rfl) (tabOut (n := 3) (by decide) (fun k hk => (match k, hk with | 0, _ => hc2 | 1, _ => hc4 | 2, _ => hc6 | k + 3, hk => absurd hk (by omega)))) rfl ?_
      refine g_aload_n (dk D_X10_best 83 rfl) rfl ?_
      refine g_getAt (t := 2) fl_RX10_12 rfl ht0 (dk D_X10_best 84 rfl) (fun ht8 => ?_)
      refine g_aload_n (dk D_X10_best 85 rfl) rfl ?_
      refine g_aload (dk D_X10_best 86 rfl) rfl ?_
      refine g_gd (fun hn9 => ?_)
      refine g_getI fl_RX10_274 (by decide) h_r6 hn9 (dk D_X10_best 87 rfl) ?_
      refine g_bind (fun q10 hq11 => ?_)
      refine h_callVt (st := [vA (S.1 a0 0)]) (c_X10_offeredLines (E := E) fu S I a0 (I (r6 - 1) 0) q10 hq11 (ht0)) cl_RX10_254 ht0 rfl rfl ⟨⟨by decide, by decide⟩, ⟨rfl, rfl⟩, by show c ≤ 19; omega, by show s ≤ 57; omega⟩ (Nat.le_of_ble_eq_true rfl) (dk D_X10_best 88 rfl) ?_
      refine g_gd (fun hn13 => ?_)
      refine g_bind (fun q14 hq15 => ?_)
      refine h_callV (st := []) (c_X2_busMinutes (E := E) fu S I ((S.1 a0 0) - 1) q10 q14 hq15 (ht8.nz hn13)) cl_RX10_265 ht8 hn13 rfl rfl ⟨⟨by decide, by decide⟩, ⟨rfl, rfl⟩, by show c ≤ 19; omega, by show s ≤ 57; omega⟩ (Nat.le_of_ble_eq_true rfl) (dk D_X10_best 89 rfl) ?_
      exact g_ireturn rfl rfl hsx rfl (by show c ≤ 19; omega) (by show s ≤ 57; omega) (dk D_X10_best 90 rfl)
    · refine g_aload_n (dk D_X10_best 41 rfl) rfl ?_
      refine g_iload (dk D_X10_best 42 rfl) rfl ?_
      refine g_bind (fun q17 hq18 => ?_)
      refine h_callVt (st := []) (c_X10_offeredLines (E := E) fu S I a0 x7 q17 hq18 (ht0)) cl_RX10_254 ht0 rfl rfl ⟨⟨by decide, by decide⟩, ⟨rfl, rfl⟩, by show c ≤ 19; omega, by show s ≤ 57; omega⟩ (Nat.le_of_ble_eq_true rfl) (dk D_X10_best 43 rfl) ?_
      refine g_istore (L' := [(0, vA (a0 + 1)), (2, vI x2), (3, vI x3), (4, vI x4), (5, vI x5), (6, vA r6), (7, vI x7), (8, vI q17)]) (dk D_X10_best 44 rfl) (Nat.le_of_ble_eq_true rfl) rfl ?_
      refine g_iload (dk D_X10_best 45 rfl) rfl ?_
      refine g_iload (dk D_X10_best 46 rfl) rfl ?_
      refine g_iconst (v := ((-1) : Int32)) (dk D_X10_best 47 rfl) rfl ?_
      refine g_ixor (dk D_X10_best 48 rfl) ?_
      refine g_iand (dk D_X10_best 49 rfl) ?_
      refine g_if_ne (tgt := 133) (dk D_X10_best 50 rfl) rfl (fun hc20 => ?_) (fun hc20 => ?_)
      · refine g_Lp [0, 1, 2, 3, 4, 5, 6] rfl ?_
        refine g_wide (cs' := (c + 1, s + 3)) (by show c ≤ c + 1; omega) (by show s ≤ s + 3; omega) ?_
        exact hj133 S I r6 x7 h_r6 ht0 hsx
      · refine g_aload_n (dk D_X10_best 51 rfl) rfl ?_
        refine g_getAt (t := 2) fl_RX10_12 rfl ht0 (dk D_X10_best 52 rfl) (fun ht21 => ?_)
        refine g_iload (dk D_X10_best 53 rfl) rfl ?_
        refine g_gd (fun hn22 => ?_)
        refine g_bind (fun q23 hq24 => ?_)
        refine h_callV (st := []) (c_X2_busMinutes (E := E) fu S I ((S.1 a0 0) - 1) q17 q23 hq24 (ht21.nz hn22)) cl_RX10_265 ht21 hn22 rfl rfl ⟨⟨by decide, by decide⟩, ⟨rfl, rfl⟩, by show c ≤ 19; omega, by show s ≤ 57; omega⟩ (Nat.le_of_ble_eq_true rfl) (dk D_X10_best 54 rfl) ?_
        refine g_iload_n (dk D_X10_best 55 rfl) rfl ?_
        refine g_icmp_gt (tgt := 133) (dk D_X10_best 56 rfl) rfl (fun hc26 => ?_) (fun hc26 => ?_)
        · refine g_Lp [0, 1, 2, 3, 4, 5, 6] rfl ?_
          refine g_wide (cs' := (c + 1, s + 3)) (by show c ≤ c + 1; omega) (by show s ≤ s + 3; omega) ?_
          exact hj133 S I r6 x7 h_r6 ht0 hsx
        · refine g_aload_n (dk D_X10_best 57 rfl) rfl ?_
          refine g_iload (dk D_X10_best 58 rfl) rfl ?_
          refine g_iload (dk D_X10_best 59 rfl) rfl ?_
          refine g_iload (dk D_X10_best 60 rfl) rfl ?_
          refine g_ior (dk D_X10_best 61 rfl) ?_
          refine g_bind (fun q27 hq28 => ?_)
          refine g_callVt (st := []) (c_X10_tallyOf (E := E) fu S I a0 x7 (x5 ||| q17) q27 hq28 (ht0)) cl_RX10_261.1 cl_RX10_261.2.1 cl_RX10_261.2.2.1 cl_RX10_261.2.2.2 ht0 rfl rfl ⟨⟨by decide, by decide⟩, by show c + 1 ≤ 19; omega, by show s + 3 ≤ 57; omega⟩ (Nat.le_of_ble_eq_true rfl) (dk D_X10_best 62 rfl) (fun hx30 ht29 => ?_)
          refine g_wide (cs' := (c + 1, s + 3)) (by show c + 1 ≤ c + 1; omega) (by show s + 3 ≤ s + 3; omega) ?_
          have ht31 := h_r6.x hx30
          have ht32 := ht21.x hx30
          have ht33 := ht0.x hx30
          have hsx34 := Sx.tr hsx hx30
          have ht29 : tyR q27.2.1 6 q27.1 := rt_X10_tallyOf ▸ ht29
          refine g_astore (L' := [(0, vA (a0 + 1)), (2, vI x2), (3, vI x3), (4, vI x4), (5, vI x5), (6, vA r6), (7, vI x7), (8, vI q17), (9, vA q27.1)]) (dk D_X10_best 63 rfl) (Nat.le_of_ble_eq_true rfl) rfl ?_
          refine g_aload (dk D_X10_best 64 rfl) rfl ?_
          refine g_aload (dk D_X10_best 65 rfl) rfl ?_
          refine g_gd (fun hn35 => ?_)
          refine g_bind (fun q36 hq37 => ?_)
          refine h_callV (st := []) (c_X6_beats (E := E) fu q27.2.1 q27.2.2 (q27.1 - 1) r6 q36 hq37 (ht29.nz hn35) ht31) cl_RX10_268 ht29 hn35 rfl rfl ⟨⟨by decide, by decide⟩, ⟨rfl, rfl⟩, by show c + 1 ≤ 19; omega, by show s + 3 ≤ 57; omega⟩ (Nat.le_of_ble_eq_true rfl) (dk D_X10_best 66 rfl) ?_
          refine g_if_eq (tgt := 133) (dk D_X10_best 67 rfl) rfl (fun hc39 => ?_) (fun hc39 => ?_)
          · refine g_Lp [0, 1, 2, 3, 4, 5, 6] rfl ?_
            exact hj133 q27.2.1 q27.2.2 r6 x7 ht31 ht33 hsx34
          · refine g_aload (dk D_X10_best 68 rfl) rfl ?_
            refine g_astore (L' := [(0, vA (a0 + 1)), (2, vI x2), (3, vI x3), (4, vI x4), (5, vI x5), (6, vA q27.1), (7, vI x7), (8, vI q17), (9, vA q27.1)]) (dk D_X10_best 69 rfl) (Nat.le_of_ble_eq_true rfl) rfl ?_
            refine g_Lp [0, 1, 2, 3, 4, 5, 6] rfl ?_
            exact hj133 q27.2.1 q27.2.2 q27.1 x7 ht29 ht33 hsx34
  unfold f_X10_best
  refine g_iload_n (dk D_X10_best 0 rfl) rfl ?_
  refine h_callS (st := []) (c_X10_isDay (E := E) S0 I0 x1) cl_RX10_159 rfl rfl ⟨⟨by decide, by decide⟩, ⟨rfl, rfl⟩, by show 0 ≤ 19; omega, by show 0 ≤ 57; omega⟩ (Nat.le_of_ble_eq_true rfl) (dk D_X10_best 1 rfl) ?_
  refine g_if_eq (tgt := 27) (dk D_X10_best 2 rfl) rfl (fun hc41 => ?_) (fun hc41 => ?_)
  · refine g_bipush (v := ((-2) : Int32)) (dk D_X10_best 13 rfl) rfl ?_
    exact g_ireturn rfl rfl Sx.rf rfl (by show 0 ≤ 19; omega) (by show 0 ≤ 57; omega) (dk D_X10_best 14 rfl)
  · refine g_iload_n (dk D_X10_best 3 rfl) rfl ?_
    refine g_iconst (v := (0 : Int32)) (dk D_X10_best 4 rfl) rfl ?_
    refine g_ldcw (dk D_X10_best 5 rfl) lk_RX10_260 ?_
    refine h_callS (st := []) (c_X10_isWithin (E := E) S0 I0 x2 (0 : Int32) (99999 : Int32)) cl_RX10_226 rfl rfl ⟨⟨by decide, by decide⟩, ⟨rfl, rfl⟩, by show 0 ≤ 19; omega, by show 0 ≤ 57; omega⟩ (Nat.le_of_ble_eq_true rfl) (dk D_X10_best 6 rfl) ?_
    refine g_if_eq (tgt := 27) (dk D_X10_best 7 rfl) rfl (fun hc43 => ?_) (fun hc43 => ?_)
    · refine g_bipush (v := ((-2) : Int32)) (dk D_X10_best 13 rfl) rfl ?_
      exact g_ireturn rfl rfl Sx.rf rfl (by show 0 ≤ 19; omega) (by show 0 ≤ 57; omega) (dk D_X10_best 14 rfl)
    · refine g_iload_n (dk D_X10_best 8 rfl) rfl ?_
      refine g_iconst (v := (0 : Int32)) (dk D_X10_best 9 rfl) rfl ?_
      refine g_iconst (v := (3 : Int32)) (dk D_X10_best 10 rfl) rfl ?_
      refine h_callS (st := []) (c_X10_isWithin (E := E) S0 I0 x3 (0 : Int32) (3 : Int32)) cl_RX10_226 rfl rfl ⟨⟨by decide, by decide⟩, ⟨rfl, rfl⟩, by show 0 ≤ 19; omega, by show 0 ≤ 57; omega⟩ (Nat.le_of_ble_eq_true rfl) (dk D_X10_best 11 rfl) ?_
      refine g_if_ne (tgt := 30) (dk D_X10_best 12 rfl) rfl (fun hc45 => ?_) (fun hc45 => ?_)
      · refine g_aload_n (dk D_X10_best 15 rfl) rfl ?_
        refine g_getAt (t := 2) fl_RX10_12 rfl ht0 (dk D_X10_best 16 rfl) (fun ht46 => ?_)
        refine g_iload_n (dk D_X10_best 17 rfl) rfl ?_
        refine g_gd (fun hn47 => ?_)
        refine g_bind (fun q48 hq49 => ?_)
        refine h_callV (st := []) (c_X2_running (E := E) fu S0 I0 ((S0.1 a0 0) - 1) x1 q48 hq49 (ht46.nz hn47)) cl_RX10_235 ht46 hn47 rfl rfl ⟨⟨by decide, by decide⟩, ⟨rfl, rfl⟩, by show 0 ≤ 19; omega, by show 0 ≤ 57; omega⟩ (Nat.le_of_ble_eq_true rfl) (dk D_X10_best 18 rfl) ?_
        refine g_istore (L' := [(0, vA (a0 + 1)), (1, vI x1), (2, vI x2), (3, vI x3), (4, vI q48)]) (dk D_X10_best 19 rfl) (Nat.le_of_ble_eq_true rfl) rfl ?_
        refine g_iload (dk D_X10_best 20 rfl) rfl ?_
        refine g_aload_n (dk D_X10_best 21 rfl) rfl ?_
        refine g_iconst (v := ((-1) : Int32)) (dk D_X10_best 22 rfl) rfl ?_
        refine g_bind (fun q51 hq52 => ?_)
        refine h_callVt (st := [vI q48]) (c_X10_offeredLines (E := E) fu S0 I0 a0 ((-1) : Int32) q51 hq52 (ht0)) cl_RX10_254 ht0 rfl rfl ⟨⟨by decide, by decide⟩, ⟨rfl, rfl⟩, by show 0 ≤ 19; omega, by show 0 ≤ 57; omega⟩ (Nat.le_of_ble_eq_true rfl) (dk D_X10_best 23 rfl) ?_
        refine g_iconst (v := ((-1) : Int32)) (dk D_X10_best 24 rfl) rfl ?_
        refine g_ixor (dk D_X10_best 25 rfl) ?_
        refine g_iand (dk D_X10_best 26 rfl) ?_
        refine g_ltV (fun x5_54 ex5_54 => ?_)
        refine g_istore (L' := [(0, vA (a0 + 1)), (1, vI x1), (2, vI x2), (3, vI x3), (4, vI q48), (5, vI x5_54)]) (dk D_X10_best 27 rfl) (Nat.le_of_ble_eq_true rfl) rfl ?_
        refine g_aload_n (dk D_X10_best 28 rfl) rfl ?_
        refine g_iconst (v := (0 : Int32)) (dk D_X10_best 29 rfl) rfl ?_
        refine g_iload (dk D_X10_best 30 rfl) rfl ?_
        refine g_bind (fun q55 hq56 => ?_)
        refine g_callVt (st := []) (c_X10_tallyOf (E := E) fu S0 I0 a0 (0 : Int32) x5_54 q55 hq56 (ht0)) cl_RX10_261.1 cl_RX10_261.2.1 cl_RX10_261.2.2.1 cl_RX10_261.2.2.2 ht0 rfl rfl ⟨⟨by decide, by decide⟩, by show 0 + 1 ≤ 19; omega, by show 0 + 3 ≤ 57; omega⟩ (Nat.le_of_ble_eq_true rfl) (dk D_X10_best 31 rfl) (fun hx58 ht57 => ?_)
        refine g_wide (cs' := (1, 3)) (by show 0 + 1 ≤ 1; omega) (by show 0 + 3 ≤ 3; omega) ?_
        have ht59 := ht46.x hx58
        have ht60 := ht0.x hx58
        have hsx61 := Sx.tr Sx.rf hx58
        have ht57 : tyR q55.2.1 6 q55.1 := rt_X10_tallyOf ▸ ht57
        refine g_astore (L' := [(0, vA (a0 + 1)), (1, vI x1), (2, vI x2), (3, vI x3), (4, vI q48), (5, vI x5_54), (6, vA q55.1)]) (dk D_X10_best 32 rfl) (Nat.le_of_ble_eq_true rfl) rfl ?_
        refine g_iconst (v := (1 : Int32)) (dk D_X10_best 33 rfl) rfl ?_
        refine g_istore (L' := [(0, vA (a0 + 1)), (1, vI x1), (2, vI x2), (3, vI x3), (4, vI q48), (5, vI x5_54), (6, vA q55.1), (7, vI (1 : Int32))]) (dk D_X10_best 34 rfl) (Nat.le_of_ble_eq_true rfl) rfl ?_
        refine g_Lp [0, 2, 3, 4, 5, 6, 7] rfl ?_
        exact hl64 q48 x5_54 17 (1) (3) (by omega) (by omega) q55.1 (1 : Int32) q55.2.1 q55.2.2 ⟨ht60, ht57, hsx61⟩
      · refine g_bipush (v := ((-2) : Int32)) (dk D_X10_best 13 rfl) rfl ?_
        exact g_ireturn rfl rfl Sx.rf rfl (by show 0 ≤ 19; omega) (by show 0 ≤ 57; omega) (dk D_X10_best 14 rfl)
theorem c_X10_best {E : EV} (fu : Nat) (S0 : Sk) (I0 : II) (a0 : Nat) (x1 : Int32) (x2 : Int32) (x3 : Int32) (r : Int32 × Sk × II) (h : f_X10_best fu S0 I0 a0 x1 x2 x3 = some r) (ht0 : tyO S0 10 a0) : MX E yX10_best i_X10_best S0 I0 [vA (a0 + 1), vI x1, vI x2, vI x3] (po_X10_best S0 I0 r) :=
  MX.of h (by decide) rfl rfl (Nat.le_of_ble_eq_true rfl) (gg_X10_best fu S0 I0 a0 x1 x2 x3 ht0)
