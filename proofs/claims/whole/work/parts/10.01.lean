theorem fl_RX3_39 : FL RX3 39 2 3 := ⟨RX2, TX2, 6, rfl, by decide, rfl, by decide, (gm 102 (by decide +kernel) (by decide +kernel)), inG2⟩
theorem cl_RX3_48 : CV0 RX3 48 yX2_lastBus i_X2_lastBus 2 2 := ⟨⟨(gm 856 (by decide +kernel) (by decide +kernel)), (gm 67 (by decide +kernel) (by decide +kernel)), ((gm 859 (by decide +kernel) (by decide +kernel))), by decide +kernel, by decide +kernel, by decide +kernel⟩, ⟨(gm 857 (by decide +kernel) (by decide +kernel)), (gm 858 (by decide +kernel) (by decide +kernel))⟩, rfl, by decide⟩
theorem cl_RX3_52 : CV0 RX3 52 yX2_firstBus i_X2_firstBus 2 2 := ⟨⟨(gm 866 (by decide +kernel) (by decide +kernel)), (gm 67 (by decide +kernel) (by decide +kernel)), ((gm 869 (by decide +kernel) (by decide +kernel))), by decide +kernel, by decide +kernel, by decide +kernel⟩, ⟨(gm 867 (by decide +kernel) (by decide +kernel)), (gm 868 (by decide +kernel) (by decide +kernel))⟩, rfl, by decide⟩
def tb_X3_plan : List (Nat × Instr × Nat) := [(0, .aload_n 0, 1), (1, .iconst 0, 1), (2, .putfield 24, 3), (5, .iconst 0, 1), (6, .istore 5, 2), (8, .iload 5, 2), (10, .aload_n 0, 1), (11, .getfield 35, 3), (14, .getfield 39, 3), (17, .if_icmp .ge 92, 3), (20, .aload_n 0, 1), (21, .getfield 24, 3), (24, .bipush 6, 2), (26, .if_icmp .ge 83, 3), (29, .iload_n 1, 1), (30, .iload 5, 2), (32, .invokestatic 44, 3), (35, .ifCond .eq 68, 3), (38, .aload_n 0, 1), (39, .getfield 9, 3), (42, .aload_n 0, 1), (43, .getfield 24, 3), (46, .iload 5, 2), (48, .iastore, 1), (49, .aload_n 0, 1), (50, .getfield 15, 3), (53, .aload_n 0, 1), (54, .getfield 24, 3), (57, .aload_n 0, 1), (58, .getfield 35, 3), (61, .iload 5, 2), (63, .iload_n 2, 1), (64, .invokevirtual 48, 3), (67, .iastore, 1), (68, .aload_n 0, 1), (69, .getfield 18, 3), (72, .aload_n 0, 1), (73, .getfield 24, 3), (76, .sipush 1440, 3), (79, .aload_n 0, 1), (80, .getfield 35, 3), (83, .iload 5, 2), (85, .iload_n 2, 1), (86, .iconst 1, 1), (87, .iadd, 1), (88, .invokevirtual 52, 3), (91, .iadd, 1), (92, .iastore, 1), (93, .aload_n 0, 1), (94, .dup, 1), (95, .getfield 24, 3), (98, .iconst 1, 1), (99, .iadd, 1), (100, .putfield 24, 3), (103, .iinc 5 1, 3), (106, .goto (-98), 3), (109, .aload_n 0, 1), (110, .ldc 31, 2), (112, .putfield 32, 3), (115, .aload_n 0, 1), (116, .iconst 0, 1), (117, .iload_n 3, 1), (118, .iload 4, 2), (120, .iconst 0, 1), (121, .invokevirtual 55, 3), (124, .return_, 1)]
def i_X3_plan : MI := (RX3, cX3_plan, 6, none, "plan", { frames := 10, cells := 0, slots := 0, locals := 343 })
theorem D_X3_plan : tbOK (i_X3_plan).2.1 tb_X3_plan := by show ∀ q ∈ tb_X3_plan, decode cX3_plan q.1 = .ok (q.2.1, q.2.2); decide +kernel
def po_X3_plan (S : Sk) (I : II) (r : II) : Option LV × Sk × II := (none, S, r)
def jn_X3_plan_109 (fu : Nat) (S : Sk) (I : II) (a0 : Nat) (x3 : Int32) (x4 : Int32) : Option (II) :=
  lt (upI I a0 7 (1073741824 : Int32)) fun I1 => ((f_X3_goOn fu S a0 8 I1 (0 : Int32) x3 x4 (0 : Int32)).bind fun q2 => (some (q2)))
def jn_X3_plan_103 (fu : Nat) (S : Sk) (I : II) (self8 : Int32 → II → Option (II)) (a0 : Nat) (x1 : Int32) (x2 : Int32) (x3 : Int32) (x4 : Int32) (x5 : Int32) : Option (II) :=
  self8 (x5 + (1 : Int32)) I
def lp_X3_plan_8 (fu : Nat) (S : Sk) (a0 : Nat) (x1 : Int32) (x2 : Int32) (x3 : Int32) (x4 : Int32) (self8 : Int32 → II → Option (II)) (x5 : Int32) (I : II) : Option (II) :=
  gd ((S.1 a0 0) ≠ 0) (if (I ((S.1 a0 0) - 1) 3) ≤ x5 then jn_X3_plan_109 fu S I a0 x3 x4 else if (6 : Int32) ≤ (I a0 5) then jn_X3_plan_109 fu S I a0 x3 x4 else if (t_X10_has x1 x5) = 0 then jn_X3_plan_103 fu S I self8 a0 x1 x2 x3 x4 x5 else gd (inb S (S.1 a0 1) (I a0 5)) (lt (wr I (S.1 a0 1) (I a0 5) x5) fun I13 => ((f_X2_lastBus fu S I13 ((S.1 a0 0) - 1) x5 x2).bind fun q16 => (gd (inb S (S.1 a0 2) (I13 a0 5)) (lt (wr I13 (S.1 a0 2) (I13 a0 5) q16) fun I20 => ((f_X2_firstBus fu S I20 ((S.1 a0 0) - 1) x5 (x2 + (1 : Int32))).bind fun q23 => (gd (inb S (S.1 a0 3) (I20 a0 5)) (lt (wr I20 (S.1 a0 3) (I20 a0 5) ((1440 : Int32) + q23)) fun I27 => (lt (upI I27 a0 5 ((I27 a0 5) + (1 : Int32))) fun I28 => (jn_X3_plan_103 fu S I28 self8 a0 x1 x2 x3 x4 x5))))))))))
def f_X3_plan (fu : Nat) (S : Sk) (I : II) (a0 : Nat) (x1 : Int32) (x2 : Int32) (x3 : Int32) (x4 : Int32) : Option (II) :=
  lt (upI I a0 5 (0 : Int32)) fun I29 => (fix2 (lp_X3_plan_8 fu S a0 x1 x2 x3 x4) fu (0 : Int32) I29)
set_option maxRecDepth 100000 in
set_option maxHeartbeats 4000000 in
theorem gg_X3_plan {E : EV} (fu : Nat) (S0 : Sk) (I0 : II) (a0 : Nat) (x1 : Int32) (x2 : Int32) (x3 : Int32) (x4 : Int32) (ht0 : tyO S0 3 a0) : GG E i_X3_plan (enM E i_X3_plan S0 (po_X3_plan S0 I0)) S0 I0 (0, 0) 0 [(0, vA (a0 + 1)), (1, vI x1), (2, vI x2), (3, vI x3), (4, vI x4)] [] (f_X3_plan fu S0 I0 a0 x1 x2 x3 x4) := by
  have hj109 : ∀ (I : II), GG E i_X3_plan (enM E i_X3_plan S0 (po_X3_plan S0 I0)) S0 I (0, 0) 109 [(0, vA (a0 + 1)), (3, vI x3), (4, vI x4)] [] (jn_X3_plan_109 fu S0 I a0 x3 x4) := by
    intro I  
    unfold jn_X3_plan_109
    refine g_aload_n (dk D_X3_plan 56 rfl) rfl ?_
    refine g_ldc (dk D_X3_plan 57 rfl) lk_RX3_31 ?_
    refine g_putIt fl_RX3_32 fp_3_7 (fun h => (by cases h)) (by decide) rfl rfl ht0 (dk D_X3_plan 58 rfl) ?_
    refine g_ltI (fun I1 eI1 => ?_)
    refine g_aload_n (dk D_X3_plan 59 rfl) rfl ?_
    refine g_iconst (v := (0 : Int32)) (dk D_X3_plan 60 rfl) rfl ?_
    refine g_iload_n (dk D_X3_plan 61 rfl) rfl ?_
    refine g_iload (dk D_X3_plan 62 rfl) rfl ?_
    refine g_iconst (v := (0 : Int32)) (dk D_X3_plan 63 rfl) rfl ?_
    refine g_bind (fun q2 hq3 => ?_)
    refine h_callVt (st := []) (c_X3_goOn (E := E) fu S0 a0 (ht0) 8 I1 (0 : Int32) x3 x4 (0 : Int32) q2 hq3) (cl_RX3_55 _) ht0 rfl rfl (by decide) (Nat.le_of_ble_eq_true rfl) (dk D_X3_plan 64 rfl) ?_
    exact g_return rfl rfl Sx.rf rfl (by decide) (by decide) (dk D_X3_plan 65 rfl)
  have hl8 : ∀ (nn : Nat) (x5 : Int32) (I : II), True → GG E i_X3_plan (enM E i_X3_plan S0 (po_X3_plan S0 I0)) S0 I (0, 0) 8 [(0, vA (a0 + 1)), (1, vI x1), (2, vI x2), (3, vI x3), (4, vI x4), (5, vI x5)] [] (fix2 (lp_X3_plan_8 fu S0 a0 x1 x2 x3 x4) nn x5 I) := by
    refine g_fix2 (fun _ _ => S0) (fun x5 I => I) (fun x5 I => [(0, vA (a0 + 1)), (1, vI x1), (2, vI x2), (3, vI x3), (4, vI x4), (5, vI x5)]) (fun x5 I => True) ?_
    intro self8 hself8 x5 I hinv
    have hj103 : ∀ (I : II) (x5 : Int32), GG E i_X3_plan (enM E i_X3_plan S0 (po_X3_plan S0 I0)) S0 I (0, 0) 103 [(0, vA (a0 + 1)), (1, vI x1), (2, vI x2), (3, vI x3), (4, vI x4), (5, vI x5)] [] (jn_X3_plan_103 fu S0 I self8 a0 x1 x2 x3 x4 x5) := by
      intro I x5 
      unfold jn_X3_plan_103
      refine g_iinc (v := (1 : Int32)) (L' := [(0, vA (a0 + 1)), (1, vI x1), (2, vI x2), (3, vI x3), (4, vI x4), (5, vI (x5 + (1 : Int32)))]) (dk D_X3_plan 54 rfl) rfl rfl (Nat.le_of_ble_eq_true rfl) rfl ?_
      refine g_goto (tgt := 8) (dk D_X3_plan 55 rfl) rfl ?_
      exact hself8 (x5 + (1 : Int32)) I trivial
    unfold lp_X3_plan_8
    refine g_iload (dk D_X3_plan 5 rfl) rfl ?_
    refine g_aload_n (dk D_X3_plan 6 rfl) rfl ?_
    refine g_getAt (t := 2) fl_RX3_35 rfl ht0 (dk D_X3_plan 7 rfl) (fun ht5 => ?_)
    refine g_gd (fun hn6 => ?_)
    refine g_getI fl_RX3_39 (by decide) ht5 hn6 (dk D_X3_plan 8 rfl) ?_
    refine g_icmp_ge (tgt := 109) (dk D_X3_plan 9 rfl) rfl (fun hc7 => ?_) (fun hc7 => ?_)
    · refine g_Lp [0, 3, 4] rfl ?_
      exact hj109 I
    · refine g_aload_n (dk D_X3_plan 10 rfl) rfl ?_
      refine g_getIt fl_RX3_24 (by decide) ht0 (dk D_X3_plan 11 rfl) ?_
      refine g_bipush (v := (6 : Int32)) (dk D_X3_plan 12 rfl) rfl ?_
      refine g_icmp_ge (tgt := 109) (dk D_X3_plan 13 rfl) rfl (fun hc8 => ?_) (fun hc8 => ?_)
      · refine g_Lp [0, 3, 4] rfl ?_
        exact hj109 I
      · refine g_iload_n (dk D_X3_plan 14 rfl) rfl ?_
        refine g_iload (dk D_X3_plan 15 rfl) rfl ?_
        refine h_callSN (st := []) (c_X10_has (E := E) S0 I x1 x5) cl_RX3_44 rfl rfl (by decide) (Nat.le_of_ble_eq_true rfl) (dk D_X3_plan 16 rfl) ?_
        refine g_if_eq (tgt := 103) (dk D_X3_plan 17 rfl) rfl (fun hc10 => ?_) (fun hc10 => ?_)
        · exact hj103 I x5
        · refine g_aload_n (dk D_X3_plan 18 rfl) rfl ?_
          refine g_getAt (t := 100) fl_RX3_9 rfl ht0 (dk D_X3_plan 19 rfl) (fun ht11 => ?_)
          refine g_aload_n (dk D_X3_plan 20 rfl) rfl ?_
          refine g_getIt fl_RX3_24 (by decide) ht0 (dk D_X3_plan 21 rfl) ?_
          refine g_iload (dk D_X3_plan 22 rfl) rfl ?_
          refine g_gd (fun hi12 => ?_)
          refine g_iastore ht11 hi12 (dk D_X3_plan 23 rfl) ?_
          refine g_ltI (fun I13 eI13 => ?_)
          refine g_aload_n (dk D_X3_plan 24 rfl) rfl ?_
          refine g_getAt (t := 100) fl_RX3_15 rfl ht0 (dk D_X3_plan 25 rfl) (fun ht14 => ?_)
          refine g_aload_n (dk D_X3_plan 26 rfl) rfl ?_
          refine g_getIt fl_RX3_24 (by decide) ht0 (dk D_X3_plan 27 rfl) ?_
          refine g_aload_n (dk D_X3_plan 28 rfl) rfl ?_
          refine g_getAt (t := 2) fl_RX3_35 rfl ht0 (dk D_X3_plan 29 rfl) (fun ht15 => ?_)
          refine g_iload (dk D_X3_plan 30 rfl) rfl ?_
          refine g_iload_n (dk D_X3_plan 31 rfl) rfl ?_
          refine g_bind (fun q16 hq17 => ?_)
          refine h_callV (st := [vI (I13 a0 5), vA (S0.1 a0 2)]) (c_X2_lastBus (E := E) fu S0 I13 ((S0.1 a0 0) - 1) x5 x2 q16 hq17 (ht5.nz hn6)) cl_RX3_48 ht5 hn6 rfl rfl (by decide) (Nat.le_of_ble_eq_true rfl) (dk D_X3_plan 32 rfl) ?_
          refine g_gd (fun hi19 => ?_)
          refine g_iastore ht14 hi19 (dk D_X3_plan 33 rfl) ?_
          refine g_ltI (fun I20 eI20 => ?_)
          refine g_aload_n (dk D_X3_plan 34 rfl) rfl ?_
          refine g_getAt (t := 100) fl_RX3_18 rfl ht0 (dk D_X3_plan 35 rfl) (fun ht21 => ?_)
          refine g_aload_n (dk D_X3_plan 36 rfl) rfl ?_
          refine g_getIt fl_RX3_24 (by decide) ht0 (dk D_X3_plan 37 rfl) ?_
          refine g_sipush (v := (1440 : Int32)) (dk D_X3_plan 38 rfl) rfl ?_
          refine g_aload_n (dk D_X3_plan 39 rfl) rfl ?_
          refine g_getAt (t := 2) fl_RX3_35 rfl ht0 (dk D_X3_plan 40 rfl) (fun ht22 => ?_)
          refine g_iload (dk D_X3_plan 41 rfl) rfl ?_
          refine g_iload_n (dk D_X3_plan 42 rfl) rfl ?_
          refine g_iconst (v := (1 : Int32)) (dk D_X3_plan 43 rfl) rfl ?_
          refine g_iadd (dk D_X3_plan 44 rfl) ?_
          refine g_bind (fun q23 hq24 => ?_)
          refine h_callV (st := [vI (1440 : Int32), vI (I20 a0 5), vA (S0.1 a0 3)]) (c_X2_firstBus (E := E) fu S0 I20 ((S0.1 a0 0) - 1) x5 (x2 + (1 : Int32)) q23 hq24 (ht5.nz hn6)) cl_RX3_52 ht5 hn6 rfl rfl (by decide) (Nat.le_of_ble_eq_true rfl) (dk D_X3_plan 45 rfl) ?_
          refine g_iadd (dk D_X3_plan 46 rfl) ?_
          refine g_gd (fun hi26 => ?_)
          refine g_iastore ht21 hi26 (dk D_X3_plan 47 rfl) ?_
          refine g_ltI (fun I27 eI27 => ?_)
          refine g_aload_n (dk D_X3_plan 48 rfl) rfl ?_
          refine g_dup (dk D_X3_plan 49 rfl) rfl ?_
          refine g_getIt fl_RX3_24 (by decide) ht0 (dk D_X3_plan 50 rfl) ?_
          refine g_iconst (v := (1 : Int32)) (dk D_X3_plan 51 rfl) rfl ?_
          refine g_iadd (dk D_X3_plan 52 rfl) ?_
          refine g_putIt fl_RX3_24 fp_3_5 (fun h => (by cases h)) (by decide) rfl rfl ht0 (dk D_X3_plan 53 rfl) ?_
          refine g_ltI (fun I28 eI28 => ?_)
          exact hj103 I28 x5
  unfold f_X3_plan
  refine g_aload_n (dk D_X3_plan 0 rfl) rfl ?_
  refine g_iconst (v := (0 : Int32)) (dk D_X3_plan 1 rfl) rfl ?_
  refine g_putIt fl_RX3_24 fp_3_5 (fun h => (by cases h)) (by decide) rfl rfl ht0 (dk D_X3_plan 2 rfl) ?_
  refine g_ltI (fun I29 eI29 => ?_)
  refine g_iconst (v := (0 : Int32)) (dk D_X3_plan 3 rfl) rfl ?_
  refine g_istore (L' := [(0, vA (a0 + 1)), (1, vI x1), (2, vI x2), (3, vI x3), (4, vI x4), (5, vI (0 : Int32))]) (dk D_X3_plan 4 rfl) (Nat.le_of_ble_eq_true rfl) rfl ?_
  exact hl8 fu (0 : Int32) I29 trivial
theorem c_X3_plan {E : EV} (fu : Nat) (S0 : Sk) (I0 : II) (a0 : Nat) (x1 : Int32) (x2 : Int32) (x3 : Int32) (x4 : Int32) (r : II) (h : f_X3_plan fu S0 I0 a0 x1 x2 x3 x4 = some r) (ht0 : tyO S0 3 a0) : MX E yX3_plan i_X3_plan S0 I0 [vA (a0 + 1), vI x1, vI x2, vI x3, vI x4] (po_X3_plan S0 I0 r) :=
  MX.of h (by decide) rfl rfl (Nat.le_of_ble_eq_true rfl) (gg_X3_plan fu S0 I0 a0 x1 x2 x3 x4 ht0)
theorem lk_RX4_3 : Cond.methodLink RX4 3 Lib.objectInit ∈ lw_good := (gm 169 (by decide +kernel) (by decide +kernel))
theorem fl_RX4_11 : FL RX4 11 4 0 := ⟨RX4, TX4, 11, rfl, by decide, rfl, by decide, (gm 170 (by decide +kernel) (by decide +kernel)), inG4⟩
theorem fp_4_0 : FP 4 0 (tyX4 0) true := ⟨RX4, TX4, 11, tyX4, rfl, tyX4_ok, nmX4, rfl, rfl, rfl⟩
theorem ff_RX4 : FI RX4 "<init>" 4 true := fun _ => ⟨rfl, fun q h => by cases h; rfl⟩
theorem fl_RX4_15 : FL RX4 15 4 1 := ⟨RX4, TX4, 11, rfl, by decide, rfl, by decide, (gm 172 (by decide +kernel) (by decide +kernel)), inG4⟩
theorem fp_4_1 : FP 4 1 (tyX4 1) false := ⟨RX4, TX4, 11, tyX4, rfl, tyX4_ok, nmX4, rfl, rfl, rfl⟩
theorem fl_RX4_19 : FL RX4 19 4 2 := ⟨RX4, TX4, 11, rfl, by decide, rfl, by decide, (gm 174 (by decide +kernel) (by decide +kernel)), inG4⟩
theorem fp_4_2 : FP 4 2 (tyX4 2) false := ⟨RX4, TX4, 11, tyX4, rfl, tyX4_ok, nmX4, rfl, rfl, rfl⟩
theorem fl_RX4_23 : FL RX4 23 4 3 := ⟨RX4, TX4, 11, rfl, by decide, rfl, by decide, (gm 175 (by decide +kernel) (by decide +kernel)), inG4⟩
theorem fp_4_3 : FP 4 3 (tyX4 3) false := ⟨RX4, TX4, 11, tyX4, rfl, tyX4_ok, nmX4, rfl, rfl, rfl⟩
theorem fl_RX4_26 : FL RX4 26 4 4 := ⟨RX4, TX4, 11, rfl, by decide, rfl, by decide, (gm 176 (by decide +kernel) (by decide +kernel)), inG4⟩
theorem fp_4_4 : FP 4 4 (tyX4 4) false := ⟨RX4, TX4, 11, tyX4, rfl, tyX4_ok, nmX4, rfl, rfl, rfl⟩
theorem fl_RX4_29 : FL RX4 29 4 5 := ⟨RX4, TX4, 11, rfl, by decide, rfl, by decide, (gm 177 (by decide +kernel) (by decide +kernel)), inG4⟩
theorem fp_4_5 : FP 4 5 (tyX4 5) true := ⟨RX4, TX4, 11, tyX4, rfl, tyX4_ok, nmX4, rfl, rfl, rfl⟩
theorem fl_RX4_32 : FL RX4 32 4 6 := ⟨RX4, TX4, 11, rfl, by decide, rfl, by decide, (gm 178 (by decide +kernel) (by decide +kernel)), inG4⟩
theorem fp_4_6 : FP 4 6 (tyX4 6) true := ⟨RX4, TX4, 11, tyX4, rfl, tyX4_ok, nmX4, rfl, rfl, rfl⟩
theorem fl_RX4_35 : FL RX4 35 4 7 := ⟨RX4, TX4, 11, rfl, by decide, rfl, by decide, (gm 179 (by decide +kernel) (by decide +kernel)), inG4⟩
theorem fp_4_7 : FP 4 7 (tyX4 7) true := ⟨RX4, TX4, 11, tyX4, rfl, tyX4_ok, nmX4, rfl, rfl, rfl⟩
theorem fl_RX4_38 : FL RX4 38 4 8 := ⟨RX4, TX4, 11, rfl, by decide, rfl, by decide, (gm 180 (by decide +kernel) (by decide +kernel)), inG4⟩
theorem fp_4_8 : FP 4 8 (tyX4 8) true := ⟨RX4, TX4, 11, tyX4, rfl, tyX4_ok, nmX4, rfl, rfl, rfl⟩
theorem fl_RX4_41 : FL RX4 41 4 9 := ⟨RX4, TX4, 11, rfl, by decide, rfl, by decide, (gm 181 (by decide +kernel) (by decide +kernel)), inG4⟩
theorem fp_4_9 : FP 4 9 (tyX4 9) true := ⟨RX4, TX4, 11, tyX4, rfl, tyX4_ok, nmX4, rfl, rfl, rfl⟩
theorem fl_RX4_44 : FL RX4 44 4 10 := ⟨RX4, TX4, 11, rfl, by decide, rfl, by decide, (gm 182 (by decide +kernel) (by decide +kernel)), inG4⟩
theorem fp_4_10 : FP 4 10 (tyX4 10) true := ⟨RX4, TX4, 11, tyX4, rfl, tyX4_ok, nmX4, rfl, rfl, rfl⟩
def tb_X4_init : List (Nat × Instr × Nat) := [(0, .aload_n 0, 1), (1, .invokespecial 3, 3), (4, .aload_n 0, 1), (5, .bipush 8, 2), (7, .newarray .int, 2), (9, .putfield 11, 3), (12, .aload_n 0, 1), (13, .iconst 0, 1), (14, .putfield 15, 3), (17, .aload_n 0, 1), (18, .iconst 0, 1), (19, .putfield 19, 3), (22, .aload_n 0, 1), (23, .iconst 0, 1), (24, .putfield 23, 3), (27, .aload_n 0, 1), (28, .iconst 1, 1), (29, .putfield 26, 3), (32, .aload_n 0, 1), (33, .bipush 6, 2), (35, .newarray .int, 2), (37, .putfield 29, 3), (40, .aload_n 0, 1), (41, .bipush 6, 2), (43, .newarray .int, 2), (45, .putfield 32, 3), (48, .aload_n 0, 1), (49, .bipush 6, 2), (51, .newarray .int, 2), (53, .putfield 35, 3), (56, .aload_n 0, 1), (57, .bipush 48, 2), (59, .newarray .int, 2), (61, .putfield 38, 3), (64, .aload_n 0, 1), (65, .sipush 6561, 3), (68, .newarray .int, 2), (70, .putfield 41, 3), (73, .aload_n 0, 1), (74, .bipush 14, 2), (76, .newarray .int, 2), (78, .putfield 44, 3), (81, .return_, 1)]
def i_X4_init : MI := (RX4, cX4_init, 1, none, "<init>", { frames := 1, cells := 7, slots := 6649, locals := 80 })
theorem D_X4_init : tbOK (i_X4_init).2.1 tb_X4_init := by show ∀ q ∈ tb_X4_init, decode cX4_init q.1 = .ok (q.2.1, q.2.2); decide +kernel
def po_X4_init (S : Sk) (I : II) (r : Sk × II) : Option LV × Sk × II := (none, r.1, r.2)
def f_X4_init (fu : Nat) (S : Sk) (I : II) (a0 : Nat) : Option (Sk × II) :=
  lt (nwS S 100 (nx (8 : Int32))) fun S1 => (lt (nwI S I) fun I2 => (lt (upP S1 a0 0 (S.2.2.2 + 1)) fun S7 => (lt (upI I2 a0 1 (0 : Int32)) fun I12 => (lt (upI I12 a0 2 (0 : Int32)) fun I13 => (lt (upI I13 a0 3 (0 : Int32)) fun I14 => (lt (upI I14 a0 4 (1 : Int32)) fun I15 => (lt (nwS S7 100 (nx (6 : Int32))) fun S16 => (lt (nwI S7 I15) fun I17 => (lt (upP S16 a0 5 (S7.2.2.2 + 1)) fun S23 => (lt (nwS S23 100 (nx (6 : Int32))) fun S29 => (lt (nwI S23 I17) fun I30 => (lt (upP S29 a0 6 (S23.2.2.2 + 1)) fun S37 => (lt (nwS S37 100 (nx (6 : Int32))) fun S44 => (lt (nwI S37 I30) fun I45 => (lt (upP S44 a0 7 (S37.2.2.2 + 1)) fun S53 => (lt (nwS S53 100 (nx (48 : Int32))) fun S61 => (lt (nwI S53 I45) fun I62 => (lt (upP S61 a0 8 (S53.2.2.2 + 1)) fun S71 => (lt (nwS S71 100 (nx (6561 : Int32))) fun S80 => (lt (nwI S71 I62) fun I81 => (lt (upP S80 a0 9 (S71.2.2.2 + 1)) fun S91 => (lt (nwS S91 100 (nx (14 : Int32))) fun S101 => (lt (nwI S91 I81) fun I102 => (lt (upP S101 a0 10 (S91.2.2.2 + 1)) fun S113 => (some ((S113, I102)))))))))))))))))))))))))))
set_option maxRecDepth 100000 in
set_option maxHeartbeats 4000000 in
theorem gg_X4_init {E : EV} (fu : Nat) (S0 : Sk) (I0 : II) (a0 : Nat) (ht0 : tyO S0 4 a0) : GG E i_X4_init (enM E i_X4_init S0 (po_X4_init S0 I0)) S0 I0 (0, 0) 0 [(0, vA (a0 + 1))] [] (f_X4_init fu S0 I0 a0) := by
  unfold f_X4_init
  refine g_aload_n (dk D_X4_init 0 rfl) rfl ?_
  refine g_objInit lk_RX4_3 lk_oi lk_oc (Nat.succ_ne_zero _) (by decide) (by rw [wid_sum]; exact Nat.le_of_ble_eq_true rfl) (dk D_X4_init 1 rfl) ?_
  refine g_aload_n (dk D_X4_init 2 rfl) rfl ?_
  refine g_bipush (v := (8 : Int32)) (dk D_X4_init 3 rfl) rfl ?_
  refine g_newarray (by decide) (by decide) (by show 0 + 1 ≤ 7; omega) (by show 0 + 8 ≤ 6649; omega) lk_arr (dk D_X4_init 4 rfl) ?_
  refine g_wide (cs' := (1, 8)) (by show 0 + 1 ≤ 1; omega) (by show 0 + 8 ≤ 8; omega) ?_
  refine g_ltS (fun S1 eS1 => ?_)
  refine g_ltI (fun I2 eI2 => ?_)
  have hx3 : Sx S0 S1 := eS1 ▸ nwS_x
  have ht4 := ht0.x hx3
  have hsx5 := Sx.tr Sx.rf hx3
  have ht6 : tyR S1 100 (S0.2.2.2 + 1) := eS1 ▸ nwS_ty.R
  refine g_putAt (t := 100) fl_RX4_11 fp_4_0 ff_RX4 rfl (Or.inr ⟨_, rfl⟩) ht6 ht4 (dk D_X4_init 5 rfl) ?_
  refine g_ltS (fun S7 eS7 => ?_)
  have hx8 : Sx S1 S7 := eS7 ▸ upP_x
  have ht9 := ht6.x hx8
  have ht10 := ht4.x hx8
  have hsx11 := Sx.tr hsx5 hx8
  refine g_aload_n (dk D_X4_init 6 rfl) rfl ?_
  refine g_iconst (v := (0 : Int32)) (dk D_X4_init 7 rfl) rfl ?_
  refine g_putIt fl_RX4_15 fp_4_1 (fun h => (by cases h)) (by decide) rfl rfl ht10 (dk D_X4_init 8 rfl) ?_
  refine g_ltI (fun I12 eI12 => ?_)
  refine g_aload_n (dk D_X4_init 9 rfl) rfl ?_
  refine g_iconst (v := (0 : Int32)) (dk D_X4_init 10 rfl) rfl ?_
  refine g_putIt fl_RX4_19 fp_4_2 (fun h => (by cases h)) (by decide) (by decide +kernel) (by decide +kernel) ht10 (dk D_X4_init 11 rfl) ?_
  refine g_ltI (fun I13 eI13 => ?_)
  refine g_aload_n (dk D_X4_init 12 rfl) rfl ?_
  refine g_iconst (v := (0 : Int32)) (dk D_X4_init 13 rfl) rfl ?_
  refine g_putIt fl_RX4_23 fp_4_3 (fun h => (by cases h)) (by decide) rfl rfl ht10 (dk D_X4_init 14 rfl) ?_
  refine g_ltI (fun I14 eI14 => ?_)
  refine g_aload_n (dk D_X4_init 15 rfl) rfl ?_
  refine g_iconst (v := (1 : Int32)) (dk D_X4_init 16 rfl) rfl ?_
  refine g_putIt fl_RX4_26 fp_4_4 (fun h => (by cases h)) (by decide) rfl rfl ht10 (dk D_X4_init 17 rfl) ?_
  refine g_ltI (fun I15 eI15 => ?_)
  refine g_aload_n (dk D_X4_init 18 rfl) rfl ?_
  refine g_bipush (v := (6 : Int32)) (dk D_X4_init 19 rfl) rfl ?_
  refine g_newarray (by decide) (by decide) (by show 1 + 1 ≤ 7; omega) (by show 8 + 6 ≤ 6649; omega) lk_arr (dk D_X4_init 20 rfl) ?_
  refine g_wide (cs' := (2, 14)) (by show 1 + 1 ≤ 2; omega) (by show 8 + 6 ≤ 14; omega) ?_
  refine g_ltS (fun S16 eS16 => ?_)
  refine g_ltI (fun I17 eI17 => ?_)
  have hx18 : Sx S7 S16 := eS16 ▸ nwS_x
  have ht19 := ht9.x hx18
  have ht20 := ht10.x hx18
  have hsx21 := Sx.tr hsx11 hx18
  have ht22 : tyR S16 100 (S7.2.2.2 + 1) := eS16 ▸ nwS_ty.R
  refine g_putAt (t := 100) fl_RX4_29 fp_4_5 ff_RX4 rfl (Or.inr ⟨_, rfl⟩) ht22 ht20 (dk D_X4_init 21 rfl) ?_
  refine g_ltS (fun S23 eS23 => ?_)
  have hx24 : Sx S16 S23 := eS23 ▸ upP_x
  have ht25 := ht19.x hx24
  have ht26 := ht22.x hx24
  have ht27 := ht20.x hx24
  have hsx28 := Sx.tr hsx21 hx24
  refine g_aload_n (dk D_X4_init 22 rfl) rfl ?_
  refine g_bipush (v := (6 : Int32)) (dk D_X4_init 23 rfl) rfl ?_
  refine g_newarray (by decide) (by decide) (by show 2 + 1 ≤ 7; omega) (by show 14 + 6 ≤ 6649; omega) lk_arr (dk D_X4_init 24 rfl) ?_
  refine g_wide (cs' := (3, 20)) (by show 2 + 1 ≤ 3; omega) (by show 14 + 6 ≤ 20; omega) ?_
  refine g_ltS (fun S29 eS29 => ?_)
  refine g_ltI (fun I30 eI30 => ?_)
  have hx31 : Sx S23 S29 := eS29 ▸ nwS_x
  have ht32 := ht25.x hx31
  have ht33 := ht26.x hx31
  have ht34 := ht27.x hx31
  have hsx35 := Sx.tr hsx28 hx31
  have ht36 : tyR S29 100 (S23.2.2.2 + 1) := eS29 ▸ nwS_ty.R
  refine g_putAt (t := 100) fl_RX4_32 fp_4_6 ff_RX4 rfl (Or.inr ⟨_, rfl⟩) ht36 ht34 (dk D_X4_init 25 rfl) ?_
  refine g_ltS (fun S37 eS37 => ?_)
  have hx38 : Sx S29 S37 := eS37 ▸ upP_x
  have ht39 := ht32.x hx38
  have ht40 := ht33.x hx38
  have ht41 := ht36.x hx38
  have ht42 := ht34.x hx38
  have hsx43 := Sx.tr hsx35 hx38
  refine g_aload_n (dk D_X4_init 26 rfl) rfl ?_
  refine g_bipush (v := (6 : Int32)) (dk D_X4_init 27 rfl) rfl ?_
  refine g_newarray (by decide) (by decide) (by show 3 + 1 ≤ 7; omega) (by show 20 + 6 ≤ 6649; omega) lk_arr (dk D_X4_init 28 rfl) ?_
  refine g_wide (cs' := (4, 26)) (by show 3 + 1 ≤ 4; omega) (by show 20 + 6 ≤ 26; omega) ?_
  refine g_ltS (fun S44 eS44 => ?_)
  refine g_ltI (fun I45 eI45 => ?_)
  have hx46 : Sx S37 S44 := eS44 ▸ nwS_x
  have ht47 := ht39.x hx46
  have ht48 := ht40.x hx46
  have ht49 := ht41.x hx46
  have ht50 := ht42.x hx46
  have hsx51 := Sx.tr hsx43 hx46
  have ht52 : tyR S44 100 (S37.2.2.2 + 1) := eS44 ▸ nwS_ty.R
  refine g_putAt (t := 100) fl_RX4_35 fp_4_7 ff_RX4 rfl (Or.inr ⟨_, rfl⟩) ht52 ht50 (dk D_X4_init 29 rfl) ?_
  refine g_ltS (fun S53 eS53 => ?_)
  have hx54 : Sx S44 S53 := eS53 ▸ upP_x
  have ht55 := ht47.x hx54
  have ht56 := ht48.x hx54
  have ht57 := ht49.x hx54
  have ht58 := ht52.x hx54
  have ht59 := ht50.x hx54
  have hsx60 := Sx.tr hsx51 hx54
  refine g_aload_n (dk D_X4_init 30 rfl) rfl ?_
  refine g_bipush (v := (48 : Int32)) (dk D_X4_init 31 rfl) rfl ?_
  refine g_newarray (by decide) (by decide) (by show 4 + 1 ≤ 7; omega) (by show 26 + 48 ≤ 6649; omega) lk_arr (dk D_X4_init 32 rfl) ?_
  refine g_wide (cs' := (5, 74)) (by show 4 + 1 ≤ 5; omega) (by show 26 + 48 ≤ 74; omega) ?_
  refine g_ltS (fun S61 eS61 => ?_)
  refine g_ltI (fun I62 eI62 => ?_)
  have hx63 : Sx S53 S61 := eS61 ▸ nwS_x
  have ht64 := ht55.x hx63
  have ht65 := ht56.x hx63
  have ht66 := ht57.x hx63
  have ht67 := ht58.x hx63
  have ht68 := ht59.x hx63
  have hsx69 := Sx.tr hsx60 hx63
  have ht70 : tyR S61 100 (S53.2.2.2 + 1) := eS61 ▸ nwS_ty.R
  refine g_putAt (t := 100) fl_RX4_38 fp_4_8 ff_RX4 rfl (Or.inr ⟨_, rfl⟩) ht70 ht68 (dk D_X4_init 33 rfl) ?_
  refine g_ltS (fun S71 eS71 => ?_)
  have hx72 : Sx S61 S71 := eS71 ▸ upP_x
  have ht73 := ht64.x hx72
  have ht74 := ht65.x hx72
  have ht75 := ht66.x hx72
  have ht76 := ht67.x hx72
  have ht77 := ht70.x hx72
  have ht78 := ht68.x hx72
  have hsx79 := Sx.tr hsx69 hx72
  refine g_aload_n (dk D_X4_init 34 rfl) rfl ?_
  refine g_sipush (v := (6561 : Int32)) (dk D_X4_init 35 rfl) rfl ?_
  refine g_newarray (by decide) (by decide) (by show 5 + 1 ≤ 7; omega) (by show 74 + 6561 ≤ 6649; omega) lk_arr (dk D_X4_init 36 rfl) ?_
  refine g_wide (cs' := (6, 6635)) (by show 5 + 1 ≤ 6; omega) (by show 74 + 6561 ≤ 6635; omega) ?_
  refine g_ltS (fun S80 eS80 => ?_)
  refine g_ltI (fun I81 eI81 => ?_)
  have hx82 : Sx S71 S80 := eS80 ▸ nwS_x
  have ht83 := ht73.x hx82
  have ht84 := ht74.x hx82
  have ht85 := ht75.x hx82
  have ht86 := ht76.x hx82
  have ht87 := ht77.x hx82
  have ht88 := ht78.x hx82
  have hsx89 := Sx.tr hsx79 hx82
  have ht90 : tyR S80 100 (S71.2.2.2 + 1) := eS80 ▸ nwS_ty.R
  refine g_putAt (t := 100) fl_RX4_41 fp_4_9 ff_RX4 rfl (Or.inr ⟨_, rfl⟩) ht90 ht88 (dk D_X4_init 37 rfl) ?_
  refine g_ltS (fun S91 eS91 => ?_)
  have hx92 : Sx S80 S91 := eS91 ▸ upP_x
  have ht93 := ht83.x hx92
  have ht94 := ht84.x hx92
  have ht95 := ht85.x hx92
  have ht96 := ht86.x hx92
  have ht97 := ht87.x hx92
  have ht98 := ht90.x hx92
  have ht99 := ht88.x hx92
  have hsx100 := Sx.tr hsx89 hx92
  refine g_aload_n (dk D_X4_init 38 rfl) rfl ?_
  refine g_bipush (v := (14 : Int32)) (dk D_X4_init 39 rfl) rfl ?_
  refine g_newarray (by decide) (by decide) (by show 6 + 1 ≤ 7; omega) (by show 6635 + 14 ≤ 6649; omega) lk_arr (dk D_X4_init 40 rfl) ?_
  refine g_wide (cs' := (7, 6649)) (by show 6 + 1 ≤ 7; omega) (by show 6635 + 14 ≤ 6649; omega) ?_
  refine g_ltS (fun S101 eS101 => ?_)
  refine g_ltI (fun I102 eI102 => ?_)
  have hx103 : Sx S91 S101 := eS101 ▸ nwS_x
  have ht104 := ht93.x hx103
  have ht105 := ht94.x hx103
  have ht106 := ht95.x hx103
  have ht107 := ht96.x hx103
  have ht108 := ht97.x hx103
  have ht109 := ht98.x hx103
  have ht110 := ht99.x hx103
  have hsx111 := Sx.tr hsx100 hx103
  have ht112 : tyR S101 100 (S91.2.2.2 + 1) := eS101 ▸ nwS_ty.R
  refine g_putAt (t := 100) fl_RX4_44 fp_4_10 ff_RX4 rfl (Or.inr ⟨_, rfl⟩) ht112 ht110 (dk D_X4_init 41 rfl) ?_
  refine g_ltS (fun S113 eS113 => ?_)
  have hx114 : Sx S101 S113 := eS113 ▸ upP_x
  have ht115 := ht104.x hx114
  have ht116 := ht105.x hx114
  have ht117 := ht106.x hx114
  have ht118 := ht107.x hx114
  have ht119 := ht108.x hx114
  have ht120 := ht109.x hx114
  have ht121 := ht112.x hx114
  have ht122 := ht110.x hx114
  have hsx123 := Sx.tr hsx111 hx114
  exact g_return rfl rfl hsx123 rfl (by show 7 ≤ 7; omega) (by show 6649 ≤ 6649; omega) (dk D_X4_init 42 rfl)
theorem c_X4_init {E : EV} (fu : Nat) (S0 : Sk) (I0 : II) (a0 : Nat) (r : Sk × II) (h : f_X4_init fu S0 I0 a0 = some r) (ht0 : tyO S0 4 a0) : MX E yX4_init i_X4_init S0 I0 [vA (a0 + 1)] (po_X4_init S0 I0 r) :=
  MX.of h (by decide) rfl rfl (Nat.le_of_ble_eq_true rfl) (gg_X4_init fu S0 I0 a0 ht0)
theorem lk_RJ6_265 : Cond.constant RJ6 265 (1431655765 : Int32) ∈ lw_good := (gm 795 (by decide +kernel) (by decide +kernel))
theorem lk_RJ6_266 : Cond.constant RJ6 266 (858993459 : Int32) ∈ lw_good := (gm 796 (by decide +kernel) (by decide +kernel))
theorem lk_RJ6_267 : Cond.constant RJ6 267 (252645135 : Int32) ∈ lw_good := (gm 797 (by decide +kernel) (by decide +kernel))
def tb_J6_bitCount_0f7a4 : List (Nat × Instr × Nat) := [(0, .iload_n 0, 1), (1, .iload_n 0, 1), (2, .iconst 1, 1), (3, .iushr, 1), (4, .ldc_w 265, 3), (7, .iand, 1), (8, .isub, 1), (9, .istore_n 0, 1), (10, .iload_n 0, 1), (11, .ldc_w 266, 3), (14, .iand, 1), (15, .iload_n 0, 1), (16, .iconst 2, 1), (17, .iushr, 1), (18, .ldc_w 266, 3), (21, .iand, 1), (22, .iadd, 1), (23, .istore_n 0, 1), (24, .iload_n 0, 1), (25, .iload_n 0, 1), (26, .iconst 4, 1), (27, .iushr, 1), (28, .iadd, 1), (29, .ldc_w 267, 3), (32, .iand, 1), (33, .istore_n 0, 1), (34, .iload_n 0, 1), (35, .iload_n 0, 1), (36, .bipush 8, 2), (38, .iushr, 1), (39, .iadd, 1), (40, .istore_n 0, 1), (41, .iload_n 0, 1), (42, .iload_n 0, 1), (43, .bipush 16, 2), (45, .iushr, 1), (46, .iadd, 1), (47, .istore_n 0, 1), (48, .iload_n 0, 1), (49, .bipush 63, 2), (51, .iand, 1), (52, .ireturn, 1)]
def i_J6_bitCount_0f7a4 : MI := (RJ6, cJ6_bitCount_0f7a4, 1, (some .int), "bitCount", { frames := 0, cells := 0, slots := 0, locals := 0 })
theorem D_J6_bitCount_0f7a4 : tbOK (i_J6_bitCount_0f7a4).2.1 tb_J6_bitCount_0f7a4 := by show ∀ q ∈ tb_J6_bitCount_0f7a4, decode cJ6_bitCount_0f7a4 q.1 = .ok (q.2.1, q.2.2); decide +kernel
def po_J6_bitCount_0f7a4 (S : Sk) (I : II) (r : Int32) : Option LV × Sk × II := (some (vI r), S, I)
def f_J6_bitCount_0f7a4 (fu : Nat) (S : Sk) (I : II) (x0 : Int32) : Option (Int32) :=
  lt (x0 - ((((x0).toUInt32 >>> (((1 : Int32)).toUInt32 &&& Int32.toUInt32 31)).toInt32) &&& (1431655765 : Int32))) fun x0_1 => (lt ((x0_1 &&& (858993459 : Int32)) + ((((x0_1).toUInt32 >>> (((2 : Int32)).toUInt32 &&& Int32.toUInt32 31)).toInt32) &&& (858993459 : Int32))) fun x0_2 => (lt ((x0_2 + (((x0_2).toUInt32 >>> (((4 : Int32)).toUInt32 &&& Int32.toUInt32 31)).toInt32)) &&& (252645135 : Int32)) fun x0_3 => (lt (x0_3 + (((x0_3).toUInt32 >>> (((8 : Int32)).toUInt32 &&& Int32.toUInt32 31)).toInt32)) fun x0_4 => (lt (x0_4 + (((x0_4).toUInt32 >>> (((16 : Int32)).toUInt32 &&& Int32.toUInt32 31)).toInt32)) fun x0_5 => (some ((x0_5 &&& (63 : Int32))))))))
set_option maxRecDepth 100000 in
set_option maxHeartbeats 4000000 in
theorem gg_J6_bitCount_0f7a4 {E : EV} (fu : Nat) (S0 : Sk) (I0 : II) (x0 : Int32) : GG E i_J6_bitCount_0f7a4 (enM E i_J6_bitCount_0f7a4 S0 (po_J6_bitCount_0f7a4 S0 I0)) S0 I0 (0, 0) 0 [(0, vI x0)] [] (f_J6_bitCount_0f7a4 fu S0 I0 x0) := by
  unfold f_J6_bitCount_0f7a4
  refine g_iload_n (dk D_J6_bitCount_0f7a4 0 rfl) rfl ?_
  refine g_iload_n (dk D_J6_bitCount_0f7a4 1 rfl) rfl ?_
  refine g_iconst (v := (1 : Int32)) (dk D_J6_bitCount_0f7a4 2 rfl) rfl ?_
  refine g_iushr (dk D_J6_bitCount_0f7a4 3 rfl) ?_
  refine g_ldcw (dk D_J6_bitCount_0f7a4 4 rfl) lk_RJ6_265 ?_
  refine g_iand (dk D_J6_bitCount_0f7a4 5 rfl) ?_
  refine g_isub (dk D_J6_bitCount_0f7a4 6 rfl) ?_
  refine g_ltV (fun x0_1 ex0_1 => ?_)
  refine g_istore_n (L' := [(0, vI x0_1)]) (dk D_J6_bitCount_0f7a4 7 rfl) (Nat.le_of_ble_eq_true rfl) rfl ?_
  refine g_iload_n (dk D_J6_bitCount_0f7a4 8 rfl) rfl ?_
  refine g_ldcw (dk D_J6_bitCount_0f7a4 9 rfl) lk_RJ6_266 ?_
  refine g_iand (dk D_J6_bitCount_0f7a4 10 rfl) ?_
  refine g_iload_n (dk D_J6_bitCount_0f7a4 11 rfl) rfl ?_
  refine g_iconst (v := (2 : Int32)) (dk D_J6_bitCount_0f7a4 12 rfl) rfl ?_
  refine g_iushr (dk D_J6_bitCount_0f7a4 13 rfl) ?_
  refine g_ldcw (dk D_J6_bitCount_0f7a4 14 rfl) lk_RJ6_266 ?_
  refine g_iand (dk D_J6_bitCount_0f7a4 15 rfl) ?_
  refine g_iadd (dk D_J6_bitCount_0f7a4 16 rfl) ?_
  refine g_ltV (fun x0_2 ex0_2 => ?_)
  refine g_istore_n (L' := [(0, vI x0_2)]) (dk D_J6_bitCount_0f7a4 17 rfl) (Nat.le_of_ble_eq_true rfl) rfl ?_
  refine g_iload_n (dk D_J6_bitCount_0f7a4 18 rfl) rfl ?_
  refine g_iload_n (dk D_J6_bitCount_0f7a4 19 rfl) rfl ?_
  refine g_iconst (v := (4 : Int32)) (dk D_J6_bitCount_0f7a4 20 rfl) rfl ?_
  refine g_iushr (dk D_J6_bitCount_0f7a4 21 rfl) ?_
  refine g_iadd (dk D_J6_bitCount_0f7a4 22 rfl) ?_
  refine g_ldcw (dk D_J6_bitCount_0f7a4 23 rfl) lk_RJ6_267 ?_
  refine g_iand (dk D_J6_bitCount_0f7a4 24 rfl) ?_
  refine g_ltV (fun x0_3 ex0_3 => ?_)
  refine g_istore_n (L' := [(0, vI x0_3)]) (dk D_J6_bitCount_0f7a4 25 rfl) (Nat.le_of_ble_eq_true rfl) rfl ?_
  refine g_iload_n (dk D_J6_bitCount_0f7a4 26 rfl) rfl ?_
  refine g_iload_n (dk D_J6_bitCount_0f7a4 27 rfl) rfl ?_
  refine g_bipush (v := (8 : Int32)) (dk D_J6_bitCount_0f7a4 28 rfl) rfl ?_
  refine g_iushr (dk D_J6_bitCount_0f7a4 29 rfl) ?_
  refine g_iadd (dk D_J6_bitCount_0f7a4 30 rfl) ?_
  refine g_ltV (fun x0_4 ex0_4 => ?_)
  refine g_istore_n (L' := [(0, vI x0_4)]) (dk D_J6_bitCount_0f7a4 31 rfl) (Nat.le_of_ble_eq_true rfl) rfl ?_
  refine g_iload_n (dk D_J6_bitCount_0f7a4 32 rfl) rfl ?_
  refine g_iload_n (dk D_J6_bitCount_0f7a4 33 rfl) rfl ?_
  refine g_bipush (v := (16 : Int32)) (dk D_J6_bitCount_0f7a4 34 rfl) rfl ?_
  refine g_iushr (dk D_J6_bitCount_0f7a4 35 rfl) ?_
  refine g_iadd (dk D_J6_bitCount_0f7a4 36 rfl) ?_
  refine g_ltV (fun x0_5 ex0_5 => ?_)
  refine g_istore_n (L' := [(0, vI x0_5)]) (dk D_J6_bitCount_0f7a4 37 rfl) (Nat.le_of_ble_eq_true rfl) rfl ?_
  refine g_iload_n (dk D_J6_bitCount_0f7a4 38 rfl) rfl ?_
  refine g_bipush (v := (63 : Int32)) (dk D_J6_bitCount_0f7a4 39 rfl) rfl ?_
  refine g_iand (dk D_J6_bitCount_0f7a4 40 rfl) ?_
  exact g_ireturn rfl rfl Sx.rf rfl (by decide) (by decide) (dk D_J6_bitCount_0f7a4 41 rfl)
def t_J6_bitCount_0f7a4 (x0 : Int32) : Int32 :=
  lt (x0 - ((((x0).toUInt32 >>> (((1 : Int32)).toUInt32 &&& Int32.toUInt32 31)).toInt32) &&& (1431655765 : Int32))) fun x0_1 => (lt ((x0_1 &&& (858993459 : Int32)) + ((((x0_1).toUInt32 >>> (((2 : Int32)).toUInt32 &&& Int32.toUInt32 31)).toInt32) &&& (858993459 : Int32))) fun x0_2 => (lt ((x0_2 + (((x0_2).toUInt32 >>> (((4 : Int32)).toUInt32 &&& Int32.toUInt32 31)).toInt32)) &&& (252645135 : Int32)) fun x0_3 => (lt (x0_3 + (((x0_3).toUInt32 >>> (((8 : Int32)).toUInt32 &&& Int32.toUInt32 31)).toInt32)) fun x0_4 => (lt (x0_4 + (((x0_4).toUInt32 >>> (((16 : Int32)).toUInt32 &&& Int32.toUInt32 31)).toInt32)) fun x0_5 => ((x0_5 &&& (63 : Int32)))))))
theorem ft_J6_bitCount_0f7a4 (fu : Nat) (S : Sk) (I0 : II) (x0 : Int32) : f_J6_bitCount_0f7a4 fu S I0 x0 = some (t_J6_bitCount_0f7a4 x0) := by
  simp only [f_J6_bitCount_0f7a4, t_J6_bitCount_0f7a4, lt, apply_ite some]
theorem c_J6_bitCount_0f7a4 {E : EV} (S0 : Sk) (I0 : II) (x0 : Int32) : MX E yJ6_bitCount_0f7a4 i_J6_bitCount_0f7a4 S0 I0 [vI x0] (po_J6_bitCount_0f7a4 S0 I0 (t_J6_bitCount_0f7a4 x0)) :=
  MX.of (ft_J6_bitCount_0f7a4 0 S0 I0 x0) (by decide) rfl rfl (Nat.le_of_ble_eq_true rfl) (gg_J6_bitCount_0f7a4 0 S0 I0 x0)
theorem cl_RX4_53 : CN0 RX4 53 yX10_has "RedrawnLines" i_X10_has 2 := ⟨⟨(gmN 798 (by decide +kernel) (by decide +kernel)), (gm 66 (by decide +kernel) (by decide +kernel)), (gm 407 (by decide +kernel) (by decide +kernel)), by decide +kernel, by decide +kernel, by decide +kernel⟩, (gm 406 (by decide +kernel) (by decide +kernel))⟩
theorem cl_RX4_47 : CS0 RX4 47 yJ6_bitCount_0f7a4 i_J6_bitCount_0f7a4 1 := ⟨⟨(gm 792 (by decide +kernel) (by decide +kernel)), (gm 81 (by decide +kernel) (by decide +kernel)), (gm 794 (by decide +kernel) (by decide +kernel)), by decide +kernel, by decide +kernel, by decide +kernel⟩, (gm 793 (by decide +kernel) (by decide +kernel))⟩
def tb_X4_begin : List (Nat × Instr × Nat) := [(0, .aload_n 0, 1), (1, .iload_n 1, 1), (2, .invokestatic 47, 3), (5, .bipush 8, 2), (7, .if_icmp .le 7, 3), (10, .iconst 1, 1), (11, .goto 4, 3), (14, .iconst 0, 1), (15, .putfield 19, 3), (18, .aload_n 0, 1), (19, .iconst 0, 1), (20, .putfield 23, 3), (23, .aload_n 0, 1), (24, .iconst 1, 1), (25, .putfield 26, 3), (28, .aload_n 0, 1), (29, .iconst 0, 1), (30, .putfield 15, 3), (33, .iconst 0, 1), (34, .istore_n 2, 1), (35, .iload_n 2, 1), (36, .bipush 14, 2), (38, .if_icmp .ge 44, 3), (41, .iload_n 1, 1), (42, .iload_n 2, 1), (43, .invokestatic 53, 3), (46, .ifCond .eq 30, 3), (49, .aload_n 0, 1), (50, .getfield 19, 3), (53, .ifCond .ne 23, 3), (56, .aload_n 0, 1), (57, .getfield 11, 3), (60, .aload_n 0, 1), (61, .getfield 15, 3), (64, .iload_n 2, 1), (65, .iastore, 1), (66, .aload_n 0, 1), (67, .dup, 1), (68, .getfield 15, 3), (71, .iconst 1, 1), (72, .iadd, 1), (73, .putfield 15, 3), (76, .iinc 2 1, 3), (79, .goto (-44), 3), (82, .return_, 1)]
def i_X4_begin : MI := (RX4, cX4_begin, 3, none, "begin", { frames := 1, cells := 0, slots := 0, locals := 21 })
theorem D_X4_begin : tbOK (i_X4_begin).2.1 tb_X4_begin := by show ∀ q ∈ tb_X4_begin, decode cX4_begin q.1 = .ok (q.2.1, q.2.2); decide +kernel
def po_X4_begin (S : Sk) (I : II) (r : II) : Option LV × Sk × II := (none, S, r)
def jn_X4_begin_76 (fu : Nat) (S : Sk) (I : II) (self35 : Int32 → II → Option (II)) (a0 : Nat) (x1 : Int32) (x2 : Int32) : Option (II) :=
  self35 (x2 + (1 : Int32)) I
def lp_X4_begin_35 (fu : Nat) (S : Sk) (a0 : Nat) (x1 : Int32) (self35 : Int32 → II → Option (II)) (x2 : Int32) (I : II) : Option (II) :=
  if (14 : Int32) ≤ x2 then some (I) else if (t_X10_has x1 x2) = 0 then jn_X4_begin_76 fu S I self35 a0 x1 x2 else if (I a0 2) = 0 then gd (inb S (S.1 a0 0) (I a0 1)) (lt (wr I (S.1 a0 0) (I a0 1) x2) fun I7 => (lt (upI I7 a0 1 ((I7 a0 1) + (1 : Int32))) fun I8 => (jn_X4_begin_76 fu S I8 self35 a0 x1 x2))) else jn_X4_begin_76 fu S I self35 a0 x1 x2
def jn_X4_begin_15 (fu : Nat) (S : Sk) (I : II) (a0 : Nat) (x1 : Int32) (s1 : Int32) : Option (II) :=
  gd (s1 = 0 ∨ s1 = 1) (lt (upI I a0 2 s1) fun I10 => (lt (upI I10 a0 3 (0 : Int32)) fun I11 => (lt (upI I11 a0 4 (1 : Int32)) fun I12 => (lt (upI I12 a0 1 (0 : Int32)) fun I13 => (fix2 (lp_X4_begin_35 fu S a0 x1) fu (0 : Int32) I13)))))
def f_X4_begin (fu : Nat) (S : Sk) (I : II) (a0 : Nat) (x1 : Int32) : Option (II) :=
  if (t_J6_bitCount_0f7a4 x1) ≤ (8 : Int32) then jn_X4_begin_15 fu S I a0 x1 (0 : Int32) else jn_X4_begin_15 fu S I a0 x1 (1 : Int32)
set_option maxRecDepth 100000 in
set_option maxHeartbeats 4000000 in
theorem gg_X4_begin {E : EV} (fu : Nat) (S0 : Sk) (I0 : II) (a0 : Nat) (x1 : Int32) (ht0 : tyO S0 4 a0) : GG E i_X4_begin (enM E i_X4_begin S0 (po_X4_begin S0 I0)) S0 I0 (0, 0) 0 [(0, vA (a0 + 1)), (1, vI x1)] [] (f_X4_begin fu S0 I0 a0 x1) := by
  have hl35 : ∀ (nn : Nat) (x2 : Int32) (I : II), True → GG E i_X4_begin (enM E i_X4_begin S0 (po_X4_begin S0 I0)) S0 I (0, 0) 35 [(0, vA (a0 + 1)), (1, vI x1), (2, vI x2)] [] (fix2 (lp_X4_begin_35 fu S0 a0 x1) nn x2 I) := by
    refine g_fix2 (fun _ _ => S0) (fun x2 I => I) (fun x2 I => [(0, vA (a0 + 1)), (1, vI x1), (2, vI x2)]) (fun x2 I => True) ?_
    intro self35 hself35 x2 I hinv
    have hj76 : ∀ (I : II) (x2 : Int32), GG E i_X4_begin (enM E i_X4_begin S0 (po_X4_begin S0 I0)) S0 I (0, 0) 76 [(0, vA (a0 + 1)), (1, vI x1), (2, vI x2)] [] (jn_X4_begin_76 fu S0 I self35 a0 x1 x2) := by
      intro I x2 
      unfold jn_X4_begin_76
      refine g_iinc (v := (1 : Int32)) (L' := [(0, vA (a0 + 1)), (1, vI x1), (2, vI (x2 + (1 : Int32)))]) (dk D_X4_begin 42 rfl) rfl rfl (Nat.le_of_ble_eq_true rfl) rfl ?_
      refine g_goto (tgt := 35) (dk D_X4_begin 43 rfl) rfl ?_
      exact hself35 (x2 + (1 : Int32)) I trivial
    unfold lp_X4_begin_35
    refine g_iload_n (dk D_X4_begin 20 rfl) rfl ?_
    refine g_bipush (v := (14 : Int32)) (dk D_X4_begin 21 rfl) rfl ?_
    refine g_icmp_ge (tgt := 82) (dk D_X4_begin 22 rfl) rfl (fun hc1 => ?_) (fun hc1 => ?_)
    · exact g_return rfl rfl Sx.rf rfl (by decide) (by decide) (dk D_X4_begin 44 rfl)
    · refine g_iload_n (dk D_X4_begin 23 rfl) rfl ?_
      refine g_iload_n (dk D_X4_begin 24 rfl) rfl ?_
      refine h_callSN (st := []) (c_X10_has (E := E) S0 I x1 x2) cl_RX4_53 rfl rfl (by decide) (Nat.le_of_ble_eq_true rfl) (dk D_X4_begin 25 rfl) ?_
      refine g_if_eq (tgt := 76) (dk D_X4_begin 26 rfl) rfl (fun hc3 => ?_) (fun hc3 => ?_)
      · exact hj76 I x2
      · refine g_aload_n (dk D_X4_begin 27 rfl) rfl ?_
        refine g_getIt fl_RX4_19 (by decide) ht0 (dk D_X4_begin 28 rfl) ?_
        refine g_if_ne (tgt := 76) (dk D_X4_begin 29 rfl) rfl (fun hc4 => ?_) (fun hc4 => ?_)
        · exact hj76 I x2
        · refine g_aload_n (dk D_X4_begin 30 rfl) rfl ?_
          refine g_getAt (t := 100) fl_RX4_11 rfl ht0 (dk D_X4_begin 31 rfl) (fun ht5 => ?_)
          refine g_aload_n (dk D_X4_begin 32 rfl) rfl ?_
          refine g_getIt fl_RX4_15 (by decide) ht0 (dk D_X4_begin 33 rfl) ?_
          refine g_iload_n (dk D_X4_begin 34 rfl) rfl ?_
          refine g_gd (fun hi6 => ?_)
          refine g_iastore ht5 hi6 (dk D_X4_begin 35 rfl) ?_
          refine g_ltI (fun I7 eI7 => ?_)
          refine g_aload_n (dk D_X4_begin 36 rfl) rfl ?_
          refine g_dup (dk D_X4_begin 37 rfl) rfl ?_
          refine g_getIt fl_RX4_15 (by decide) ht0 (dk D_X4_begin 38 rfl) ?_
          refine g_iconst (v := (1 : Int32)) (dk D_X4_begin 39 rfl) rfl ?_
          refine g_iadd (dk D_X4_begin 40 rfl) ?_
          refine g_putIt fl_RX4_15 fp_4_1 (fun h => (by cases h)) (by decide) rfl rfl ht0 (dk D_X4_begin 41 rfl) ?_
          refine g_ltI (fun I8 eI8 => ?_)
          exact hj76 I8 x2
  have hj15 : ∀ (I : II) (s1 : Int32), GG E i_X4_begin (enM E i_X4_begin S0 (po_X4_begin S0 I0)) S0 I (0, 0) 15 [(0, vA (a0 + 1)), (1, vI x1)] [vI s1, vA (a0 + 1)] (jn_X4_begin_15 fu S0 I a0 x1 s1) := by
    intro I s1 
    unfold jn_X4_begin_15
    refine g_gd (fun hb9 => ?_)
    refine g_putIt fl_RX4_19 fp_4_2 (fun h => (by cases h)) (by decide) (nar_b hb9) (fit_b hb9) ht0 (dk D_X4_begin 8 rfl) ?_
    refine g_ltI (fun I10 eI10 => ?_)
    refine g_aload_n (dk D_X4_begin 9 rfl) rfl ?_
    refine g_iconst (v := (0 : Int32)) (dk D_X4_begin 10 rfl) rfl ?_
    refine g_putIt fl_RX4_23 fp_4_3 (fun h => (by cases h)) (by decide) rfl rfl ht0 (dk D_X4_begin 11 rfl) ?_
    refine g_ltI (fun I11 eI11 => ?_)
    refine g_aload_n (dk D_X4_begin 12 rfl) rfl ?_
    refine g_iconst (v := (1 : Int32)) (dk D_X4_begin 13 rfl) rfl ?_
    refine g_putIt fl_RX4_26 fp_4_4 (fun h => (by cases h)) (by decide) rfl rfl ht0 (dk D_X4_begin 14 rfl) ?_
    refine g_ltI (fun I12 eI12 => ?_)
    refine g_aload_n (dk D_X4_begin 15 rfl) rfl ?_
    refine g_iconst (v := (0 : Int32)) (dk D_X4_begin 16 rfl) rfl ?_
    refine g_putIt fl_RX4_15 fp_4_1 (fun h => (by cases h)) (by decide) rfl rfl ht0 (dk D_X4_begin 17 rfl) ?_
    refine g_ltI (fun I13 eI13 => ?_)
    refine g_iconst (v := (0 : Int32)) (dk D_X4_begin 18 rfl) rfl ?_
    refine g_istore_n (L' := [(0, vA (a0 + 1)), (1, vI x1), (2, vI (0 : Int32))]) (dk D_X4_begin 19 rfl) (Nat.le_of_ble_eq_true rfl) rfl ?_
    exact hl35 fu (0 : Int32) I13 trivial
  unfold f_X4_begin
  refine g_aload_n (dk D_X4_begin 0 rfl) rfl ?_
  refine g_iload_n (dk D_X4_begin 1 rfl) rfl ?_
  refine h_callS (st := [vA (a0 + 1)]) (c_J6_bitCount_0f7a4 (E := E) S0 I0 x1) cl_RX4_47 rfl rfl (by decide) (Nat.le_of_ble_eq_true rfl) (dk D_X4_begin 2 rfl) ?_
  refine g_bipush (v := (8 : Int32)) (dk D_X4_begin 3 rfl) rfl ?_
  refine g_icmp_le (tgt := 14) (dk D_X4_begin 4 rfl) rfl (fun hc15 => ?_) (fun hc15 => ?_)
  · refine g_iconst (v := (0 : Int32)) (dk D_X4_begin 7 rfl) rfl ?_
    exact hj15 I0 (0 : Int32)
  · refine g_iconst (v := (1 : Int32)) (dk D_X4_begin 5 rfl) rfl ?_
    refine g_goto (tgt := 15) (dk D_X4_begin 6 rfl) rfl ?_
    exact hj15 I0 (1 : Int32)
theorem c_X4_begin {E : EV} (fu : Nat) (S0 : Sk) (I0 : II) (a0 : Nat) (x1 : Int32) (r : II) (h : f_X4_begin fu S0 I0 a0 x1 = some r) (ht0 : tyO S0 4 a0) : MX E yX4_begin i_X4_begin S0 I0 [vA (a0 + 1), vI x1] (po_X4_begin S0 I0 r) :=
  MX.of h (by decide) rfl rfl (Nat.le_of_ble_eq_true rfl) (gg_X4_begin fu S0 I0 a0 x1 ht0)
theorem lk_RX4_57 : Cond.methodLink RX4 57 Lib.Math.min.name ∈ lw_good := (gm 803 (by decide +kernel) (by decide +kernel))
def tb_X4_addPlace : List (Nat × Instr × Nat) := [(0, .aload_n 0, 1), (1, .getfield 23, 3), (4, .bipush 6, 2), (6, .if_icmp .ge 79, 3), (9, .aload_n 0, 1), (10, .getfield 29, 3), (13, .aload_n 0, 1), (14, .getfield 23, 3), (17, .iload_n 1, 1), (18, .aload_n 0, 1), (19, .getfield 15, 3), (22, .invokestatic 57, 3), (25, .iastore, 1), (26, .aload_n 0, 1), (27, .getfield 35, 3), (30, .aload_n 0, 1), (31, .getfield 23, 3), (34, .iconst 0, 1), (35, .iastore, 1), (36, .aload_n 0, 1), (37, .getfield 32, 3), (40, .aload_n 0, 1), (41, .getfield 23, 3), (44, .aload_n 0, 1), (45, .getfield 26, 3), (48, .iastore, 1), (49, .aload_n 0, 1), (50, .sipush 6561, 3), (53, .aload_n 0, 1), (54, .getfield 26, 3), (57, .aload_n 0, 1), (58, .getfield 29, 3), (61, .aload_n 0, 1), (62, .getfield 23, 3), (65, .iaload, 1), (66, .iconst 1, 1), (67, .iadd, 1), (68, .imul, 1), (69, .invokestatic 57, 3), (72, .putfield 26, 3), (75, .aload_n 0, 1), (76, .dup, 1), (77, .getfield 23, 3), (80, .iconst 1, 1), (81, .iadd, 1), (82, .putfield 23, 3), (85, .return_, 1)]
def i_X4_addPlace : MI := (RX4, cX4_addPlace, 2, none, "addPlace", { frames := 1, cells := 0, slots := 0, locals := 80 })
theorem D_X4_addPlace : tbOK (i_X4_addPlace).2.1 tb_X4_addPlace := by show ∀ q ∈ tb_X4_addPlace, decode cX4_addPlace q.1 = .ok (q.2.1, q.2.2); decide +kernel
def po_X4_addPlace (S : Sk) (I : II) (r : II) : Option LV × Sk × II := (none, S, r)
def f_X4_addPlace (fu : Nat) (S : Sk) (I : II) (a0 : Nat) (x1 : Int32) : Option (II) :=
  if (6 : Int32) ≤ (I a0 3) then some (I) else gd (inb S (S.1 a0 5) (I a0 3)) (lt (wr I (S.1 a0 5) (I a0 3) (jmin x1 (I a0 1))) fun I4 => (gd (inb S (S.1 a0 7) (I4 a0 3)) (lt (wr I4 (S.1 a0 7) (I4 a0 3) (0 : Int32)) fun I7 => (gd (inb S (S.1 a0 6) (I7 a0 3)) (lt (wr I7 (S.1 a0 6) (I7 a0 3) (I7 a0 4)) fun I10 => (gd (inb S (S.1 a0 5) (I10 a0 3)) (lt (upI I10 a0 4 (jmin (6561 : Int32) ((I10 a0 4) * ((rd I10 (S.1 a0 5) (I10 a0 3)) + (1 : Int32))))) fun I13 => (lt (upI I13 a0 3 ((I13 a0 3) + (1 : Int32))) fun I14 => (some (I14))))))))))
set_option maxRecDepth 100000 in
set_option maxHeartbeats 4000000 in
theorem gg_X4_addPlace {E : EV} (fu : Nat) (S0 : Sk) (I0 : II) (a0 : Nat) (x1 : Int32) (ht0 : tyO S0 4 a0) : GG E i_X4_addPlace (enM E i_X4_addPlace S0 (po_X4_addPlace S0 I0)) S0 I0 (0, 0) 0 [(0, vA (a0 + 1)), (1, vI x1)] [] (f_X4_addPlace fu S0 I0 a0 x1) := by
  unfold f_X4_addPlace
  refine g_aload_n (dk D_X4_addPlace 0 rfl) rfl ?_
  refine g_getIt fl_RX4_23 (by decide) ht0 (dk D_X4_addPlace 1 rfl) ?_
  refine g_bipush (v := (6 : Int32)) (dk D_X4_addPlace 2 rfl) rfl ?_
  refine g_icmp_ge (tgt := 85) (dk D_X4_addPlace 3 rfl) rfl (fun hc1 => ?_) (fun hc1 => ?_)
  · exact g_return rfl rfl Sx.rf rfl (by decide) (by decide) (dk D_X4_addPlace 46 rfl)
  · refine g_aload_n (dk D_X4_addPlace 4 rfl) rfl ?_
    refine g_getAt (t := 100) fl_RX4_29 rfl ht0 (dk D_X4_addPlace 5 rfl) (fun ht2 => ?_)
    refine g_aload_n (dk D_X4_addPlace 6 rfl) rfl ?_
    refine g_getIt fl_RX4_23 (by decide) ht0 (dk D_X4_addPlace 7 rfl) ?_
    refine g_iload_n (dk D_X4_addPlace 8 rfl) rfl ?_
    refine g_aload_n (dk D_X4_addPlace 9 rfl) rfl ?_
    refine g_getIt fl_RX4_15 (by decide) ht0 (dk D_X4_addPlace 10 rfl) ?_
    refine g_mmin lk_RX4_57 lk_mmin (by decide) (Nat.le_of_ble_eq_true rfl) (by decide) (by decide) (dk D_X4_addPlace 11 rfl) ?_
    refine g_gd (fun hi3 => ?_)
    refine g_iastore ht2 hi3 (dk D_X4_addPlace 12 rfl) ?_
    refine g_ltI (fun I4 eI4 => ?_)
    refine g_aload_n (dk D_X4_addPlace 13 rfl) rfl ?_
    refine g_getAt (t := 100) fl_RX4_35 rfl ht0 (dk D_X4_addPlace 14 rfl) (fun ht5 => ?_)
    refine g_aload_n (dk D_X4_addPlace 15 rfl) rfl ?_
    refine g_getIt fl_RX4_23 (by decide) ht0 (dk D_X4_addPlace 16 rfl) ?_
    refine g_iconst (v := (0 : Int32)) (dk D_X4_addPlace 17 rfl) rfl ?_
    refine g_gd (fun hi6 => ?_)
    refine g_iastore ht5 hi6 (dk D_X4_addPlace 18 rfl) ?_
    refine g_ltI (fun I7 eI7 => ?_)
    refine g_aload_n (dk D_X4_addPlace 19 rfl) rfl ?_
    refine g_getAt (t := 100) fl_RX4_32 rfl ht0 (dk D_X4_addPlace 20 rfl) (fun ht8 => ?_)
    refine g_aload_n (dk D_X4_addPlace 21 rfl) rfl ?_
    refine g_getIt fl_RX4_23 (by decide) ht0 (dk D_X4_addPlace 22 rfl) ?_
    refine g_aload_n (dk D_X4_addPlace 23 rfl) rfl ?_
    refine g_getIt fl_RX4_26 (by decide) ht0 (dk D_X4_addPlace 24 rfl) ?_
    refine g_gd (fun hi9 => ?_)
    refine g_iastore ht8 hi9 (dk D_X4_addPlace 25 rfl) ?_
    refine g_ltI (fun I10 eI10 => ?_)
    refine g_aload_n (dk D_X4_addPlace 26 rfl) rfl ?_
    refine g_sipush (v := (6561 : Int32)) (dk D_X4_addPlace 27 rfl) rfl ?_
    refine g_aload_n (dk D_X4_addPlace 28 rfl) rfl ?_
    refine g_getIt fl_RX4_26 (by decide) ht0 (dk D_X4_addPlace 29 rfl) ?_
    refine g_aload_n (dk D_X4_addPlace 30 rfl) rfl ?_
    refine g_getAt (t := 100) fl_RX4_29 rfl ht0 (dk D_X4_addPlace 31 rfl) (fun ht11 => ?_)
    refine g_aload_n (dk D_X4_addPlace 32 rfl) rfl ?_
    refine g_getIt fl_RX4_23 (by decide) ht0 (dk D_X4_addPlace 33 rfl) ?_
    refine g_gd (fun hi12 => ?_)
    refine g_iaload ht2 hi12 (dk D_X4_addPlace 34 rfl) ?_
    refine g_iconst (v := (1 : Int32)) (dk D_X4_addPlace 35 rfl) rfl ?_
    refine g_iadd (dk D_X4_addPlace 36 rfl) ?_
    refine g_imul (dk D_X4_addPlace 37 rfl) ?_
    refine g_mmin lk_RX4_57 lk_mmin (by decide) (Nat.le_of_ble_eq_true rfl) (by decide) (by decide) (dk D_X4_addPlace 38 rfl) ?_
    refine g_putIt fl_RX4_26 fp_4_4 (fun h => (by cases h)) (by decide) rfl rfl ht0 (dk D_X4_addPlace 39 rfl) ?_
    refine g_ltI (fun I13 eI13 => ?_)
    refine g_aload_n (dk D_X4_addPlace 40 rfl) rfl ?_
    refine g_dup (dk D_X4_addPlace 41 rfl) rfl ?_
    refine g_getIt fl_RX4_23 (by decide) ht0 (dk D_X4_addPlace 42 rfl) ?_
    refine g_iconst (v := (1 : Int32)) (dk D_X4_addPlace 43 rfl) rfl ?_
    refine g_iadd (dk D_X4_addPlace 44 rfl) ?_
    refine g_putIt fl_RX4_23 fp_4_3 (fun h => (by cases h)) (by decide) rfl rfl ht0 (dk D_X4_addPlace 45 rfl) ?_
    refine g_ltI (fun I14 eI14 => ?_)
    exact g_return rfl rfl Sx.rf rfl (by decide) (by decide) (dk D_X4_addPlace 46 rfl)
theorem c_X4_addPlace {E : EV} (fu : Nat) (S0 : Sk) (I0 : II) (a0 : Nat) (x1 : Int32) (r : II) (h : f_X4_addPlace fu S0 I0 a0 x1 = some r) (ht0 : tyO S0 4 a0) : MX E yX4_addPlace i_X4_addPlace S0 I0 [vA (a0 + 1), vI x1] (po_X4_addPlace S0 I0 r) :=
  MX.of h (by decide) rfl rfl (Nat.le_of_ble_eq_true rfl) (gg_X4_addPlace fu S0 I0 a0 x1 ht0)
def tb_X4_setCost : List (Nat × Instr × Nat) := [(0, .aload_n 0, 1), (1, .getfield 38, 3), (4, .iload_n 1, 1), (5, .bipush 6, 2), (7, .imul, 1), (8, .iload_n 2, 1), (9, .iadd, 1), (10, .iload_n 3, 1), (11, .iastore, 1), (12, .return_, 1)]
def i_X4_setCost : MI := (RX4, cX4_setCost, 4, none, "setCost", { frames := 0, cells := 0, slots := 0, locals := 0 })
theorem D_X4_setCost : tbOK (i_X4_setCost).2.1 tb_X4_setCost := by show ∀ q ∈ tb_X4_setCost, decode cX4_setCost q.1 = .ok (q.2.1, q.2.2); decide +kernel
def po_X4_setCost (S : Sk) (I : II) (r : II) : Option LV × Sk × II := (none, S, r)
def f_X4_setCost (fu : Nat) (S : Sk) (I : II) (a0 : Nat) (x1 : Int32) (x2 : Int32) (x3 : Int32) : Option (II) :=
  gd (inb S (S.1 a0 8) ((x1 * (6 : Int32)) + x2)) (lt (wr I (S.1 a0 8) ((x1 * (6 : Int32)) + x2) x3) fun I3 => (some (I3)))
set_option maxRecDepth 100000 in
set_option maxHeartbeats 4000000 in
theorem gg_X4_setCost {E : EV} (fu : Nat) (S0 : Sk) (I0 : II) (a0 : Nat) (x1 : Int32) (x2 : Int32) (x3 : Int32) (ht0 : tyO S0 4 a0) : GG E i_X4_setCost (enM E i_X4_setCost S0 (po_X4_setCost S0 I0)) S0 I0 (0, 0) 0 [(0, vA (a0 + 1)), (1, vI x1), (2, vI x2), (3, vI x3)] [] (f_X4_setCost fu S0 I0 a0 x1 x2 x3) := by
  unfold f_X4_setCost
  refine g_aload_n (dk D_X4_setCost 0 rfl) rfl ?_
  refine g_getAt (t := 100) fl_RX4_38 rfl ht0 (dk D_X4_setCost 1 rfl) (fun ht1 => ?_)
  refine g_iload_n (dk D_X4_setCost 2 rfl) rfl ?_
  refine g_bipush (v := (6 : Int32)) (dk D_X4_setCost 3 rfl) rfl ?_
  refine g_imul (dk D_X4_setCost 4 rfl) ?_
  refine g_iload_n (dk D_X4_setCost 5 rfl) rfl ?_
  refine g_iadd (dk D_X4_setCost 6 rfl) ?_
  refine g_iload_n (dk D_X4_setCost 7 rfl) rfl ?_
  refine g_gd (fun hi2 => ?_)
  refine g_iastore ht1 hi2 (dk D_X4_setCost 8 rfl) ?_
  refine g_ltI (fun I3 eI3 => ?_)
  exact g_return rfl rfl Sx.rf rfl (by decide) (by decide) (dk D_X4_setCost 9 rfl)
theorem c_X4_setCost {E : EV} (fu : Nat) (S0 : Sk) (I0 : II) (a0 : Nat) (x1 : Int32) (x2 : Int32) (x3 : Int32) (r : II) (h : f_X4_setCost fu S0 I0 a0 x1 x2 x3 = some r) (ht0 : tyO S0 4 a0) : MX E yX4_setCost i_X4_setCost S0 I0 [vA (a0 + 1), vI x1, vI x2, vI x3] (po_X4_setCost S0 I0 r) :=
  MX.of h (by decide) rfl rfl (Nat.le_of_ble_eq_true rfl) (gg_X4_setCost fu S0 I0 a0 x1 x2 x3 ht0)
theorem cl_RX4_63 (dd : Nat) : CV0 RX4 63 yX4_leastFrom (i_X4_leastFrom dd) 2 4 := ⟨⟨(gm 812 (by decide +kernel) (by decide +kernel)), (gm 69 (by decide +kernel) (by decide +kernel)), (show Cond.code yX4_leastFrom cX4_leastFrom 5 (some .int) ∈ lw_good from (gm 815 (by decide +kernel) (by decide +kernel))), by decide +kernel, by decide +kernel, by decide +kernel⟩, ⟨(gm 814 (by decide +kernel) (by decide +kernel)), (gm 16 (by decide +kernel) (by decide +kernel))⟩, rfl, by decide⟩
theorem lk_RX4_66 : Cond.constant RX4 66 (1073741824 : Int32) ∈ lw_good := (gm 816 (by decide +kernel) (by decide +kernel))
def tb_X4_leastWith : List (Nat × Instr × Nat) := [(0, .aload_n 0, 1), (1, .getfield 35, 3), (4, .iload_n 3, 1), (5, .iaload, 1), (6, .aload_n 0, 1), (7, .getfield 29, 3), (10, .iload_n 3, 1), (11, .iaload, 1), (12, .if_icmp .lt 6, 3), (15, .ldc 66, 2), (17, .ireturn, 1), (18, .aload_n 0, 1), (19, .getfield 35, 3), (22, .iload_n 3, 1), (23, .dup2, 1), (24, .iaload, 1), (25, .iconst 1, 1), (26, .iadd, 1), (27, .iastore, 1), (28, .aload_n 0, 1), (29, .getfield 38, 3), (32, .iload_n 1, 1), (33, .bipush 6, 2), (35, .imul, 1), (36, .iload_n 3, 1), (37, .iadd, 1), (38, .iaload, 1), (39, .aload_n 0, 1), (40, .iload_n 1, 1), (41, .iconst 1, 1), (42, .iadd, 1), (43, .iload_n 2, 1), (44, .aload_n 0, 1), (45, .getfield 32, 3), (48, .iload_n 3, 1), (49, .iaload, 1), (50, .iadd, 1), (51, .invokevirtual 63, 3), (54, .iadd, 1), (55, .istore 4, 2), (57, .aload_n 0, 1), (58, .getfield 35, 3), (61, .iload_n 3, 1), (62, .dup2, 1), (63, .iaload, 1), (64, .iconst 1, 1), (65, .isub, 1), (66, .iastore, 1), (67, .iload 4, 2), (69, .ireturn, 1)]
theorem D0_X4_leastWith : tbOK cX4_leastWith tb_X4_leastWith := by show ∀ q ∈ tb_X4_leastWith, decode cX4_leastWith q.1 = .ok (q.2.1, q.2.2); decide +kernel
theorem D_X4_leastWith (dd : Nat) : tbOK (i_X4_leastWith dd).2.1 tb_X4_leastWith := D0_X4_leastWith
def po_X4_leastWith (S : Sk) (I : II) (r : Int32 × II) : Option LV × Sk × II := (some (vI r.1), S, r.2)
def f_X4_leastWith (fu : Nat) (S : Sk) (I : II) (rc : II → Int32 → Int32 → Option (Int32 × II)) (a0 : Nat) (x1 : Int32) (x2 : Int32) (x3 : Int32) : Option (Int32 × II) :=
  gd (inb S (S.1 a0 7) x3) (gd (inb S (S.1 a0 5) x3) (if (rd I (S.1 a0 7) x3) < (rd I (S.1 a0 5) x3) then lt (wr I (S.1 a0 7) x3 ((rd I (S.1 a0 7) x3) + (1 : Int32))) fun I7 => (gd (inb S (S.1 a0 8) ((x1 * (6 : Int32)) + x3)) (gd (inb S (S.1 a0 6) x3) ((rc I7 (x1 + (1 : Int32)) (x2 + (rd I7 (S.1 a0 6) x3))).bind fun q12 => (lt ((rd I7 (S.1 a0 8) ((x1 * (6 : Int32)) + x3)) + q12.1) fun x4_15 => (lt (wr q12.2 (S.1 a0 7) x3 ((rd q12.2 (S.1 a0 7) x3) - (1 : Int32))) fun I17 => (some ((x4_15, I17)))))))) else some (((1073741824 : Int32), I))))
set_option maxRecDepth 100000 in
set_option maxHeartbeats 4000000 in
theorem gg_X4_leastWith {E : EV} (fu : Nat) (S0 : Sk) (I0 : II) (rc : II → Int32 → Int32 → Option (Int32 × II)) (dd : Nat) (a0 : Nat) (x1 : Int32) (x2 : Int32) (x3 : Int32) (ht0 : tyO S0 4 a0) (hrc : ∀ (I : II) (i s : Int32) (r : Int32 × II), rc I i s = some r → MX E yX4_leastFrom (i_X4_leastFrom dd) S0 I [vA (a0 + 1), vI i, vI s] (some (vI r.1), S0, r.2)) : GG E (i_X4_leastWith dd) (enM E (i_X4_leastWith dd) S0 (po_X4_leastWith S0 I0)) S0 I0 (0, 0) 0 [(0, vA (a0 + 1)), (1, vI x1), (2, vI x2), (3, vI x3)] [] (f_X4_leastWith fu S0 I0 rc a0 x1 x2 x3) := by
  unfold f_X4_leastWith
  refine g_aload_n (dk (D_X4_leastWith dd) 0 rfl) rfl ?_
  refine g_getAt (t := 100) fl_RX4_35 rfl ht0 (dk (D_X4_leastWith dd) 1 rfl) (fun ht1 => ?_)
  refine g_iload_n (dk (D_X4_leastWith dd) 2 rfl) rfl ?_
  refine g_gd (fun hi2 => ?_)
  refine g_iaload ht1 hi2 (dk (D_X4_leastWith dd) 3 rfl) ?_
  refine g_aload_n (dk (D_X4_leastWith dd) 4 rfl) rfl ?_
  refine g_getAt (t := 100) fl_RX4_29 rfl ht0 (dk (D_X4_leastWith dd) 5 rfl) (fun ht3 => ?_)
  refine g_iload_n (dk (D_X4_leastWith dd) 6 rfl) rfl ?_
  refine g_gd (fun hi4 => ?_)
  refine g_iaload ht3 hi4 (dk (D_X4_leastWith dd) 7 rfl) ?_
  refine g_icmp_lt (tgt := 18) (dk (D_X4_leastWith dd) 8 rfl) rfl (fun hc5 => ?_) (fun hc5 => ?_)
  · refine g_aload_n (dk (D_X4_leastWith dd) 11 rfl) rfl ?_
    refine g_getAt (t := 100) fl_RX4_35 rfl ht0 (dk (D_X4_leastWith dd) 12 rfl) (fun ht6 => ?_)
    refine g_iload_n (dk (D_X4_leastWith dd) 13 rfl) rfl ?_
    refine g_dup2 (dk (D_X4_leastWith dd) 14 rfl) rfl rfl ?_
    refine g_iaload ht1 hi2 (dk (D_X4_leastWith dd) 15 rfl) ?_
    refine g_iconst (v := (1 : Int32)) (dk (D_X4_leastWith dd) 16 rfl) rfl ?_
    refine g_iadd (dk (D_X4_leastWith dd) 17 rfl) ?_
    refine g_iastore ht1 hi2 (dk (D_X4_leastWith dd) 18 rfl) ?_
    refine g_ltI (fun I7 eI7 => ?_)
    refine g_aload_n (dk (D_X4_leastWith dd) 19 rfl) rfl ?_
    refine g_getAt (t := 100) fl_RX4_38 rfl ht0 (dk (D_X4_leastWith dd) 20 rfl) (fun ht8 => ?_)
    refine g_iload_n (dk (D_X4_leastWith dd) 21 rfl) rfl ?_
    refine g_bipush (v := (6 : Int32)) (dk (D_X4_leastWith dd) 22 rfl) rfl ?_
    refine g_imul (dk (D_X4_leastWith dd) 23 rfl) ?_
    refine g_iload_n (dk (D_X4_leastWith dd) 24 rfl) rfl ?_
    refine g_iadd (dk (D_X4_leastWith dd) 25 rfl) ?_
    refine g_gd (fun hi9 => ?_)
    refine g_iaload ht8 hi9 (dk (D_X4_leastWith dd) 26 rfl) ?_
    refine g_aload_n (dk (D_X4_leastWith dd) 27 rfl) rfl ?_
    refine g_iload_n (dk (D_X4_leastWith dd) 28 rfl) rfl ?_
    refine g_iconst (v := (1 : Int32)) (dk (D_X4_leastWith dd) 29 rfl) rfl ?_
    refine g_iadd (dk (D_X4_leastWith dd) 30 rfl) ?_
    refine g_iload_n (dk (D_X4_leastWith dd) 31 rfl) rfl ?_
    refine g_aload_n (dk (D_X4_leastWith dd) 32 rfl) rfl ?_
    refine g_getAt (t := 100) fl_RX4_32 rfl ht0 (dk (D_X4_leastWith dd) 33 rfl) (fun ht10 => ?_)
    refine g_iload_n (dk (D_X4_leastWith dd) 34 rfl) rfl ?_
    refine g_gd (fun hi11 => ?_)
    refine g_iaload ht10 hi11 (dk (D_X4_leastWith dd) 35 rfl) ?_
    refine g_iadd (dk (D_X4_leastWith dd) 36 rfl) ?_
    refine g_bind (fun q12 hq13 => ?_)
    refine h_callVt (st := [vI (rd I7 (S0.1 a0 8) ((x1 * (6 : Int32)) + x3))]) (hrc I7 (x1 + (1 : Int32)) (x2 + (rd I7 (S0.1 a0 6) x3)) q12 hq13) (cl_RX4_63 _) ht0 rfl rfl (by refine ⟨⟨?_, ?_⟩, ⟨rfl, rfl⟩, Nat.zero_le _, Nat.zero_le _⟩ <;> simp [i_X4_leastWith, i_X4_leastFrom] <;> omega) (Nat.le_of_ble_eq_true rfl) (dk (D_X4_leastWith dd) 37 rfl) ?_
    refine g_iadd (dk (D_X4_leastWith dd) 38 rfl) ?_
    refine g_ltV (fun x4_15 ex4_15 => ?_)
    refine g_istore (L' := [(0, vA (a0 + 1)), (1, vI x1), (2, vI x2), (3, vI x3), (4, vI x4_15)]) (dk (D_X4_leastWith dd) 39 rfl) (Nat.le_of_ble_eq_true rfl) rfl ?_
    refine g_aload_n (dk (D_X4_leastWith dd) 40 rfl) rfl ?_
    refine g_getAt (t := 100) fl_RX4_35 rfl ht0 (dk (D_X4_leastWith dd) 41 rfl) (fun ht16 => ?_)
    refine g_iload_n (dk (D_X4_leastWith dd) 42 rfl) rfl ?_
    refine g_dup2 (dk (D_X4_leastWith dd) 43 rfl) rfl rfl ?_
    refine g_iaload ht1 hi2 (dk (D_X4_leastWith dd) 44 rfl) ?_
    refine g_iconst (v := (1 : Int32)) (dk (D_X4_leastWith dd) 45 rfl) rfl ?_
    refine g_isub (dk (D_X4_leastWith dd) 46 rfl) ?_
    refine g_iastore ht1 hi2 (dk (D_X4_leastWith dd) 47 rfl) ?_
    refine g_ltI (fun I17 eI17 => ?_)
    refine g_iload (dk (D_X4_leastWith dd) 48 rfl) rfl ?_
    exact g_ireturn rfl rfl Sx.rf rfl (Nat.zero_le _) (Nat.zero_le _) (dk (D_X4_leastWith dd) 49 rfl)
  · refine g_ldc (dk (D_X4_leastWith dd) 9 rfl) lk_RX4_66 ?_
    exact g_ireturn rfl rfl Sx.rf rfl (Nat.zero_le _) (Nat.zero_le _) (dk (D_X4_leastWith dd) 10 rfl)
theorem c_X4_leastWith {E : EV} (fu : Nat) (S0 : Sk) (I0 : II) (rc : II → Int32 → Int32 → Option (Int32 × II)) (dd : Nat) (a0 : Nat) (x1 : Int32) (x2 : Int32) (x3 : Int32) (r : Int32 × II) (h : f_X4_leastWith fu S0 I0 rc a0 x1 x2 x3 = some r) (ht0 : tyO S0 4 a0) (hrc : ∀ (I : II) (i s : Int32) (r : Int32 × II), rc I i s = some r → MX E yX4_leastFrom (i_X4_leastFrom dd) S0 I [vA (a0 + 1), vI i, vI s] (some (vI r.1), S0, r.2)) : MX E yX4_leastWith (i_X4_leastWith dd) S0 I0 [vA (a0 + 1), vI x1, vI x2, vI x3] (po_X4_leastWith S0 I0 r) :=
  MX.of h (by decide) rfl rfl (Nat.le_of_ble_eq_true rfl) (gg_X4_leastWith fu S0 I0 rc dd a0 x1 x2 x3 ht0 hrc)
theorem cl_RX4_70 (dd : Nat) : CV0 RX4 70 yX4_leastWith (i_X4_leastWith dd) 3 4 := ⟨⟨(gm 817 (by decide +kernel) (by decide +kernel)), (gm 69 (by decide +kernel) (by decide +kernel)), (show Cond.code yX4_leastWith cX4_leastWith 5 (some .int) ∈ lw_good from (gm 820 (by decide +kernel) (by decide +kernel))), by decide +kernel, by decide +kernel, by decide +kernel⟩, ⟨(gm 819 (by decide +kernel) (by decide +kernel)), (gm 17 (by decide +kernel) (by decide +kernel))⟩, rfl, by decide⟩
def tb_X4_leastFrom : List (Nat × Instr × Nat) := [(0, .iload_n 1, 1), (1, .aload_n 0, 1), (2, .getfield 15, 3), (5, .if_icmp .lt 5, 3), (8, .iconst 0, 1), (9, .ireturn, 1), (10, .aload_n 0, 1), (11, .getfield 41, 3), (14, .iload_n 2, 1), (15, .iaload, 1), (16, .iconst (-1), 1), (17, .if_icmp .ne 44, 3), (20, .ldc 66, 2), (22, .istore_n 3, 1), (23, .iconst 0, 1), (24, .istore 4, 2), (26, .iload 4, 2), (28, .aload_n 0, 1), (29, .getfield 23, 3), (32, .if_icmp .ge 22, 3), (35, .iload_n 3, 1), (36, .aload_n 0, 1), (37, .iload_n 1, 1), (38, .iload_n 2, 1), (39, .iload 4, 2), (41, .invokevirtual 70, 3), (44, .invokestatic 57, 3), (47, .istore_n 3, 1), (48, .iinc 4 1, 3), (51, .goto (-25), 3), (54, .aload_n 0, 1), (55, .getfield 41, 3), (58, .iload_n 2, 1), (59, .iload_n 3, 1), (60, .iastore, 1), (61, .aload_n 0, 1), (62, .getfield 41, 3), (65, .iload_n 2, 1), (66, .iaload, 1), (67, .ireturn, 1)]
theorem D0_X4_leastFrom : tbOK cX4_leastFrom tb_X4_leastFrom := by show ∀ q ∈ tb_X4_leastFrom, decode cX4_leastFrom q.1 = .ok (q.2.1, q.2.2); decide +kernel
theorem D_X4_leastFrom (dd : Nat) : tbOK (i_X4_leastFrom dd).2.1 tb_X4_leastFrom := D0_X4_leastFrom
def po_X4_leastFrom (S : Sk) (I : II) (r : Int32 × II) : Option LV × Sk × II := (some (vI r.1), S, r.2)
def jn_X4_leastFrom_61 (fu : Nat) (S : Sk) (I : II) (rc : II → Int32 → Int32 → Option (Int32 × II)) (a0 : Nat) (x2 : Int32) : Option (Int32 × II) :=
  gd (inb S (S.1 a0 9) x2) (some (((rd I (S.1 a0 9) x2), I)))
def lp_X4_leastFrom_26 (fu : Nat) (S : Sk) (rc : II → Int32 → Int32 → Option (Int32 × II)) (a0 : Nat) (x1 : Int32) (x2 : Int32) (self26 : Int32 → Int32 → II → Option (Int32 × II)) (x3 : Int32) (x4 : Int32) (I : II) : Option (Int32 × II) :=
  if (I a0 3) ≤ x4 then gd (inb S (S.1 a0 9) x2) (lt (wr I (S.1 a0 9) x2 x3) fun I6 => (jn_X4_leastFrom_61 fu S I6 rc a0 x2)) else (f_X4_leastWith fu S I rc a0 x1 x2 x4).bind fun q7 => (lt (jmin x3 q7.1) fun x3_10 => (self26 x3_10 (x4 + (1 : Int32)) q7.2))
def o_X4_leastFrom (fu : Nat) (S : Sk) (I : II) (rc : II → Int32 → Int32 → Option (Int32 × II)) (a0 : Nat) (x1 : Int32) (x2 : Int32) : Option (Int32 × II) :=
  if x1 < (I a0 1) then gd (inb S (S.1 a0 9) x2) (if (rd I (S.1 a0 9) x2) = ((-1) : Int32) then fix3 (lp_X4_leastFrom_26 fu S rc a0 x1 x2) fu (1073741824 : Int32) (0 : Int32) I else jn_X4_leastFrom_61 fu S I rc a0 x2) else some (((0 : Int32), I))
set_option maxRecDepth 100000 in
set_option maxHeartbeats 4000000 in
theorem gg_X4_leastFrom {E : EV} (fu : Nat) (S0 : Sk) (I0 : II) (rc : II → Int32 → Int32 → Option (Int32 × II)) (dd : Nat) (a0 : Nat) (x1 : Int32) (x2 : Int32) (ht0 : tyO S0 4 a0) (hrc : ∀ (I : II) (i s : Int32) (r : Int32 × II), rc I i s = some r → MX E yX4_leastFrom (i_X4_leastFrom dd) S0 I [vA (a0 + 1), vI i, vI s] (some (vI r.1), S0, r.2)) : GG E (i_X4_leastFrom (dd + 1)) (enM E (i_X4_leastFrom (dd + 1)) S0 (po_X4_leastFrom S0 I0)) S0 I0 (0, 0) 0 [(0, vA (a0 + 1)), (1, vI x1), (2, vI x2)] [] (o_X4_leastFrom fu S0 I0 rc a0 x1 x2) := by
  have hj61 : ∀ (I : II), GG E (i_X4_leastFrom (dd + 1)) (enM E (i_X4_leastFrom (dd + 1)) S0 (po_X4_leastFrom S0 I0)) S0 I (0, 0) 61 [(0, vA (a0 + 1)), (2, vI x2)] [] (jn_X4_leastFrom_61 fu S0 I rc a0 x2) := by
    intro I  
    unfold jn_X4_leastFrom_61
    refine g_aload_n (dk (D_X4_leastFrom (dd + 1)) 35 rfl) rfl ?_
    refine g_getAt (t := 100) fl_RX4_41 rfl ht0 (dk (D_X4_leastFrom (dd + 1)) 36 rfl) (fun ht1 => ?_)
    refine g_iload_n (dk (D_X4_leastFrom (dd + 1)) 37 rfl) rfl ?_
    refine g_gd (fun hi2 => ?_)
    refine g_iaload ht1 hi2 (dk (D_X4_leastFrom (dd + 1)) 38 rfl) ?_
    exact g_ireturn rfl rfl Sx.rf rfl (Nat.zero_le _) (Nat.zero_le _) (dk (D_X4_leastFrom (dd + 1)) 39 rfl)
  have hl26 : ∀ (nn : Nat) (x3 : Int32) (x4 : Int32) (I : II), True → GG E (i_X4_leastFrom (dd + 1)) (enM E (i_X4_leastFrom (dd + 1)) S0 (po_X4_leastFrom S0 I0)) S0 I (0, 0) 26 [(0, vA (a0 + 1)), (1, vI x1), (2, vI x2), (3, vI x3), (4, vI x4)] [] (fix3 (lp_X4_leastFrom_26 fu S0 rc a0 x1 x2) nn x3 x4 I) := by
    refine g_fix3 (fun _ _ _ => S0) (fun x3 x4 I => I) (fun x3 x4 I => [(0, vA (a0 + 1)), (1, vI x1), (2, vI x2), (3, vI x3), (4, vI x4)]) (fun x3 x4 I => True) ?_
    intro self26 hself26 x3 x4 I hinv
    unfold lp_X4_leastFrom_26
    refine g_iload (dk (D_X4_leastFrom (dd + 1)) 16 rfl) rfl ?_
    refine g_aload_n (dk (D_X4_leastFrom (dd + 1)) 17 rfl) rfl ?_
    refine g_getIt fl_RX4_23 (by decide) ht0 (dk (D_X4_leastFrom (dd + 1)) 18 rfl) ?_
    refine g_icmp_ge (tgt := 54) (dk (D_X4_leastFrom (dd + 1)) 19 rfl) rfl (fun hc3 => ?_) (fun hc3 => ?_)
    · refine g_aload_n (dk (D_X4_leastFrom (dd + 1)) 30 rfl) rfl ?_
      refine g_getAt (t := 100) fl_RX4_41 rfl ht0 (dk (D_X4_leastFrom (dd + 1)) 31 rfl) (fun ht4 => ?_)
      refine g_iload_n (dk (D_X4_leastFrom (dd + 1)) 32 rfl) rfl ?_
      refine g_iload_n (dk (D_X4_leastFrom (dd + 1)) 33 rfl) rfl ?_
      refine g_gd (fun hi5 => ?_)
      refine g_iastore ht4 hi5 (dk (D_X4_leastFrom (dd + 1)) 34 rfl) ?_
      refine g_ltI (fun I6 eI6 => ?_)
      refine g_Lp [0, 2] rfl ?_
      exact hj61 I6
    · refine g_iload_n (dk (D_X4_leastFrom (dd + 1)) 20 rfl) rfl ?_
      refine g_aload_n (dk (D_X4_leastFrom (dd + 1)) 21 rfl) rfl ?_
      refine g_iload_n (dk (D_X4_leastFrom (dd + 1)) 22 rfl) rfl ?_
      refine g_iload_n (dk (D_X4_leastFrom (dd + 1)) 23 rfl) rfl ?_
      refine g_iload (dk (D_X4_leastFrom (dd + 1)) 24 rfl) rfl ?_
      refine g_bind (fun q7 hq8 => ?_)
      refine h_callVt (st := [vI x3]) (c_X4_leastWith (E := E) fu S0 I rc dd a0 x1 x2 x4 q7 hq8 (ht0) hrc) (cl_RX4_70 _) ht0 rfl rfl (by refine ⟨⟨?_, ?_⟩, ⟨rfl, rfl⟩, Nat.zero_le _, Nat.zero_le _⟩ <;> simp [i_X4_leastFrom, i_X4_leastWith] <;> omega) (Nat.le_of_ble_eq_true rfl) (dk (D_X4_leastFrom (dd + 1)) 25 rfl) ?_
      refine g_mmin lk_RX4_57 lk_mmin (by simp [i_X4_leastFrom]) (by simp [i_X4_leastFrom, wid, isW] <;> omega) (Nat.zero_le _) (Nat.zero_le _) (dk (D_X4_leastFrom (dd + 1)) 26 rfl) ?_
      refine g_ltV (fun x3_10 ex3_10 => ?_)
      refine g_istore_n (L' := [(0, vA (a0 + 1)), (1, vI x1), (2, vI x2), (3, vI x3_10), (4, vI x4)]) (dk (D_X4_leastFrom (dd + 1)) 27 rfl) (Nat.le_of_ble_eq_true rfl) rfl ?_
      refine g_iinc (v := (1 : Int32)) (L' := [(0, vA (a0 + 1)), (1, vI x1), (2, vI x2), (3, vI x3_10), (4, vI (x4 + (1 : Int32)))]) (dk (D_X4_leastFrom (dd + 1)) 28 rfl) rfl rfl (Nat.le_of_ble_eq_true rfl) rfl ?_
      refine g_goto (tgt := 26) (dk (D_X4_leastFrom (dd + 1)) 29 rfl) rfl ?_
      exact hself26 x3_10 (x4 + (1 : Int32)) q7.2 trivial
  unfold o_X4_leastFrom
  refine g_iload_n (dk (D_X4_leastFrom (dd + 1)) 0 rfl) rfl ?_
  refine g_aload_n (dk (D_X4_leastFrom (dd + 1)) 1 rfl) rfl ?_
  refine g_getIt fl_RX4_15 (by decide) ht0 (dk (D_X4_leastFrom (dd + 1)) 2 rfl) ?_
  refine g_icmp_lt (tgt := 10) (dk (D_X4_leastFrom (dd + 1)) 3 rfl) rfl (fun hc11 => ?_) (fun hc11 => ?_)
  · refine g_aload_n (dk (D_X4_leastFrom (dd + 1)) 6 rfl) rfl ?_
    refine g_getAt (t := 100) fl_RX4_41 rfl ht0 (dk (D_X4_leastFrom (dd + 1)) 7 rfl) (fun ht12 => ?_)
    refine g_iload_n (dk (D_X4_leastFrom (dd + 1)) 8 rfl) rfl ?_
    refine g_gd (fun hi13 => ?_)
    refine g_iaload ht12 hi13 (dk (D_X4_leastFrom (dd + 1)) 9 rfl) ?_
    refine g_iconst (v := ((-1) : Int32)) (dk (D_X4_leastFrom (dd + 1)) 10 rfl) rfl ?_
    refine g_icmp_ne (tgt := 61) (dk (D_X4_leastFrom (dd + 1)) 11 rfl) rfl (fun hc14 => ?_) (fun hc14 => ?_)
    · refine g_Lp [0, 2] rfl ?_
      exact hj61 I0
    · refine g_ldc (dk (D_X4_leastFrom (dd + 1)) 12 rfl) lk_RX4_66 ?_
      refine g_istore_n (L' := [(0, vA (a0 + 1)), (1, vI x1), (2, vI x2), (3, vI (1073741824 : Int32))]) (dk (D_X4_leastFrom (dd + 1)) 13 rfl) (Nat.le_of_ble_eq_true rfl) rfl ?_
      refine g_iconst (v := (0 : Int32)) (dk (D_X4_leastFrom (dd + 1)) 14 rfl) rfl ?_
      refine g_istore (L' := [(0, vA (a0 + 1)), (1, vI x1), (2, vI x2), (3, vI (1073741824 : Int32)), (4, vI (0 : Int32))]) (dk (D_X4_leastFrom (dd + 1)) 15 rfl) (Nat.le_of_ble_eq_true rfl) rfl ?_
      exact hl26 fu (1073741824 : Int32) (0 : Int32) I0 trivial
  · refine g_iconst (v := (0 : Int32)) (dk (D_X4_leastFrom (dd + 1)) 4 rfl) rfl ?_
    exact g_ireturn rfl rfl Sx.rf rfl (Nat.zero_le _) (Nat.zero_le _) (dk (D_X4_leastFrom (dd + 1)) 5 rfl)
def f_X4_leastFrom (fu : Nat) (S : Sk) (a0 : Nat) : Nat → II → Int32 → Int32 → Option (Int32 × II)
  | 0, _, _, _ => none
  | dd + 1, I, x1, x2 => o_X4_leastFrom fu S I (f_X4_leastFrom fu S a0 dd) a0 x1 x2
theorem c_X4_leastFrom {E : EV} (fu : Nat) (S0 : Sk) (a0 : Nat) (ht0 : tyO S0 4 a0) : ∀ (dd : Nat) (I0 : II) (x1 : Int32) (x2 : Int32) (r : Int32 × II), f_X4_leastFrom fu S0 a0 dd I0 x1 x2 = some r → MX E yX4_leastFrom (i_X4_leastFrom dd) S0 I0 [vA (a0 + 1), vI x1, vI x2] (po_X4_leastFrom S0 I0 r) := by
  intro dd
  induction dd with
  | zero => intro I0 x1 x2 r h; cases h
  | succ dd ih => intro I0 x1 x2 r h; exact MX.of (g := o_X4_leastFrom fu S0 I0 (f_X4_leastFrom fu S0 a0 dd) a0 x1 x2) h (by decide) rfl rfl (Nat.le_of_ble_eq_true rfl) (gg_X4_leastFrom fu S0 I0 _ dd a0 x1 x2 ht0 ih)
def tb_J7_fill_53178 : List (Nat × Instr × Nat) := [(0, .iconst 0, 1), (1, .istore_n 2, 1), (2, .aload_n 0, 1), (3, .arraylength, 1), (4, .istore_n 3, 1), (5, .iload_n 2, 1), (6, .iload_n 3, 1), (7, .if_icmp .ge 13, 3), (10, .aload_n 0, 1), (11, .iload_n 2, 1), (12, .iload_n 1, 1), (13, .iastore, 1), (14, .iinc 2 1, 3), (17, .goto (-12), 3), (20, .return_, 1)]
def i_J7_fill_53178 : MI := (RJ7, cJ7_fill_53178, 4, none, "fill", { frames := 0, cells := 0, slots := 0, locals := 0 })
theorem D_J7_fill_53178 : tbOK (i_J7_fill_53178).2.1 tb_J7_fill_53178 := by show ∀ q ∈ tb_J7_fill_53178, decode cJ7_fill_53178 q.1 = .ok (q.2.1, q.2.2); decide +kernel
def po_J7_fill_53178 (S : Sk) (I : II) (r : II) : Option LV × Sk × II := (none, S, r)
def lp_J7_fill_53178_5 (fu : Nat) (S : Sk) (r0 : Nat) (x1 : Int32) (x3 : Int32) (self5 : Int32 → II → Option (II)) (x2 : Int32) (I : II) : Option (II) :=
  if x3 ≤ x2 then some (I) else gd (inb S r0 x2) (lt (wr I r0 x2 x1) fun I3 => (self5 (x2 + (1 : Int32)) I3))
def f_J7_fill_53178 (fu : Nat) (S : Sk) (I : II) (r0 : Nat) (x1 : Int32) : Option (II) :=
  gd (r0 ≠ 0) (lt ((S.2.2.1 (r0 - 1)).toInt32) fun x3_5 => (fix2 (lp_J7_fill_53178_5 fu S r0 x1 x3_5) fu (0 : Int32) I))
set_option maxRecDepth 100000 in
set_option maxHeartbeats 4000000 in
theorem gg_J7_fill_53178 {E : EV} (fu : Nat) (S0 : Sk) (I0 : II) (r0 : Nat) (x1 : Int32) (h_r0 : tyR S0 100 r0) : GG E i_J7_fill_53178 (enM E i_J7_fill_53178 S0 (po_J7_fill_53178 S0 I0)) S0 I0 (0, 0) 0 [(0, vA r0), (1, vI x1)] [] (f_J7_fill_53178 fu S0 I0 r0 x1) := by
  have hl5 : ∀ (x3 : Int32) (nn : Nat) (x2 : Int32) (I : II), True → GG E i_J7_fill_53178 (enM E i_J7_fill_53178 S0 (po_J7_fill_53178 S0 I0)) S0 I (0, 0) 5 [(0, vA r0), (1, vI x1), (2, vI x2), (3, vI x3)] [] (fix2 (lp_J7_fill_53178_5 fu S0 r0 x1 x3) nn x2 I) := by
    intro x3 
    refine g_fix2 (fun _ _ => S0) (fun x2 I => I) (fun x2 I => [(0, vA r0), (1, vI x1), (2, vI x2), (3, vI x3)]) (fun x2 I => True) ?_
    intro self5 hself5 x2 I hinv
    unfold lp_J7_fill_53178_5
    refine g_iload_n (dk D_J7_fill_53178 5 rfl) rfl ?_
    refine g_iload_n (dk D_J7_fill_53178 6 rfl) rfl ?_
    refine g_icmp_ge (tgt := 20) (dk D_J7_fill_53178 7 rfl) rfl (fun hc1 => ?_) (fun hc1 => ?_)
    · exact g_return rfl rfl Sx.rf rfl (by decide) (by decide) (dk D_J7_fill_53178 14 rfl)
    · refine g_aload_n (dk D_J7_fill_53178 8 rfl) rfl ?_
      refine g_iload_n (dk D_J7_fill_53178 9 rfl) rfl ?_
      refine g_iload_n (dk D_J7_fill_53178 10 rfl) rfl ?_
      refine g_gd (fun hi2 => ?_)
      refine g_iastore h_r0 hi2 (dk D_J7_fill_53178 11 rfl) ?_
      refine g_ltI (fun I3 eI3 => ?_)
      refine g_iinc (v := (1 : Int32)) (L' := [(0, vA r0), (1, vI x1), (2, vI (x2 + (1 : Int32))), (3, vI x3)]) (dk D_J7_fill_53178 12 rfl) rfl rfl (Nat.le_of_ble_eq_true rfl) rfl ?_
      refine g_goto (tgt := 5) (dk D_J7_fill_53178 13 rfl) rfl ?_
      exact hself5 (x2 + (1 : Int32)) I3 trivial
  unfold f_J7_fill_53178
  refine g_iconst (v := (0 : Int32)) (dk D_J7_fill_53178 0 rfl) rfl ?_
  refine g_istore_n (L' := [(0, vA r0), (1, vI x1), (2, vI (0 : Int32))]) (dk D_J7_fill_53178 1 rfl) (Nat.le_of_ble_eq_true rfl) rfl ?_
  refine g_aload_n (dk D_J7_fill_53178 2 rfl) rfl ?_
  refine g_gd (fun hn4 => ?_)
  refine g_alen (t := 0) h_r0 hn4 rfl (dk D_J7_fill_53178 3 rfl) ?_
  refine g_ltV (fun x3_5 ex3_5 => ?_)
  refine g_istore_n (L' := [(0, vA r0), (1, vI x1), (2, vI (0 : Int32)), (3, vI x3_5)]) (dk D_J7_fill_53178 4 rfl) (Nat.le_of_ble_eq_true rfl) rfl ?_
  exact hl5 x3_5 fu (0 : Int32) I0 trivial
theorem c_J7_fill_53178 {E : EV} (fu : Nat) (S0 : Sk) (I0 : II) (r0 : Nat) (x1 : Int32) (r : II) (h : f_J7_fill_53178 fu S0 I0 r0 x1 = some r) (h_r0 : tyR S0 100 r0) : MX E yJ7_fill_53178 i_J7_fill_53178 S0 I0 [vA r0, vI x1] (po_J7_fill_53178 S0 I0 r) :=
  MX.of h (by decide) rfl rfl (Nat.le_of_ble_eq_true rfl) (gg_J7_fill_53178 fu S0 I0 r0 x1 h_r0)
def tb_X4_firstBest : List (Nat × Instr × Nat) := [(0, .iconst 0, 1), (1, .istore_n 3, 1), (2, .iload_n 3, 1), (3, .aload_n 0, 1), (4, .getfield 23, 3), (7, .iconst 1, 1), (8, .isub, 1), (9, .if_icmp .ge 27, 3), (12, .aload_n 0, 1), (13, .iload_n 1, 1), (14, .iload_n 2, 1), (15, .iload_n 3, 1), (16, .invokevirtual 70, 3), (19, .aload_n 0, 1), (20, .iload_n 1, 1), (21, .iload_n 2, 1), (22, .invokevirtual 63, 3), (25, .if_icmp .ne 5, 3), (28, .iload_n 3, 1), (29, .ireturn, 1), (30, .iinc 3 1, 3), (33, .goto (-31), 3), (36, .aload_n 0, 1), (37, .getfield 23, 3), (40, .iconst 1, 1), (41, .isub, 1), (42, .ireturn, 1)]
def i_X4_firstBest : MI := (RX4, cX4_firstBest, 4, (some .int), "firstBest", { frames := 23, cells := 0, slots := 0, locals := 552 })
theorem D_X4_firstBest : tbOK (i_X4_firstBest).2.1 tb_X4_firstBest := by show ∀ q ∈ tb_X4_firstBest, decode cX4_firstBest q.1 = .ok (q.2.1, q.2.2); decide +kernel
def po_X4_firstBest (S : Sk) (I : II) (r : Int32 × II) : Option LV × Sk × II := (some (vI r.1), S, r.2)
def lp_X4_firstBest_2 (fu : Nat) (S : Sk) (a0 : Nat) (x1 : Int32) (x2 : Int32) (self2 : Int32 → II → Option (Int32 × II)) (x3 : Int32) (I : II) : Option (Int32 × II) :=
  if ((I a0 3) - (1 : Int32)) ≤ x3 then some ((((I a0 3) - (1 : Int32)), I)) else (f_X4_leastWith fu S I (f_X4_leastFrom fu S a0 10) a0 x1 x2 x3).bind fun q2 => ((f_X4_leastFrom fu S a0 10 q2.2 x1 x2).bind fun q5 => (if q2.1 = q5.1 then some ((x3, q5.2)) else self2 (x3 + (1 : Int32)) q5.2))
def f_X4_firstBest (fu : Nat) (S : Sk) (I : II) (a0 : Nat) (x1 : Int32) (x2 : Int32) : Option (Int32 × II) :=
  fix2 (lp_X4_firstBest_2 fu S a0 x1 x2) fu (0 : Int32) I
set_option maxRecDepth 100000 in
set_option maxHeartbeats 4000000 in
theorem gg_X4_firstBest {E : EV} (fu : Nat) (S0 : Sk) (I0 : II) (a0 : Nat) (x1 : Int32) (x2 : Int32) (ht0 : tyO S0 4 a0) : GG E i_X4_firstBest (enM E i_X4_firstBest S0 (po_X4_firstBest S0 I0)) S0 I0 (0, 0) 0 [(0, vA (a0 + 1)), (1, vI x1), (2, vI x2)] [] (f_X4_firstBest fu S0 I0 a0 x1 x2) := by
  have hl2 : ∀ (nn : Nat) (x3 : Int32) (I : II), True → GG E i_X4_firstBest (enM E i_X4_firstBest S0 (po_X4_firstBest S0 I0)) S0 I (0, 0) 2 [(0, vA (a0 + 1)), (1, vI x1), (2, vI x2), (3, vI x3)] [] (fix2 (lp_X4_firstBest_2 fu S0 a0 x1 x2) nn x3 I) := by
    refine g_fix2 (fun _ _ => S0) (fun x3 I => I) (fun x3 I => [(0, vA (a0 + 1)), (1, vI x1), (2, vI x2), (3, vI x3)]) (fun x3 I => True) ?_
    intro self2 hself2 x3 I hinv
    unfold lp_X4_firstBest_2
    refine g_iload_n (dk D_X4_firstBest 2 rfl) rfl ?_
    refine g_aload_n (dk D_X4_firstBest 3 rfl) rfl ?_
    refine g_getIt fl_RX4_23 (by decide) ht0 (dk D_X4_firstBest 4 rfl) ?_
    refine g_iconst (v := (1 : Int32)) (dk D_X4_firstBest 5 rfl) rfl ?_
    refine g_isub (dk D_X4_firstBest 6 rfl) ?_
    refine g_icmp_ge (tgt := 36) (dk D_X4_firstBest 7 rfl) rfl (fun hc1 => ?_) (fun hc1 => ?_)
    · refine g_aload_n (dk D_X4_firstBest 22 rfl) rfl ?_
      refine g_getIt fl_RX4_23 (by decide) ht0 (dk D_X4_firstBest 23 rfl) ?_
      refine g_iconst (v := (1 : Int32)) (dk D_X4_firstBest 24 rfl) rfl ?_
      refine g_isub (dk D_X4_firstBest 25 rfl) ?_
      exact g_ireturn rfl rfl Sx.rf rfl (by decide) (by decide) (dk D_X4_firstBest 26 rfl)
    · refine g_aload_n (dk D_X4_firstBest 8 rfl) rfl ?_
      refine g_iload_n (dk D_X4_firstBest 9 rfl) rfl ?_
      refine g_iload_n (dk D_X4_firstBest 10 rfl) rfl ?_
      refine g_iload_n (dk D_X4_firstBest 11 rfl) rfl ?_
      refine g_bind (fun q2 hq3 => ?_)
      refine h_callVt (st := []) (c_X4_leastWith (E := E) fu S0 I (f_X4_leastFrom fu S0 a0 10) 10 a0 x1 x2 x3 q2 hq3 (ht0) (fun I i s r h => c_X4_leastFrom (E := E) fu S0 a0 (ht0) 10 I i s r h)) (cl_RX4_70 _) ht0 rfl rfl (by decide) (Nat.le_of_ble_eq_true rfl) (dk D_X4_firstBest 12 rfl) ?_
      refine g_aload_n (dk D_X4_firstBest 13 rfl) rfl ?_
      refine g_iload_n (dk D_X4_firstBest 14 rfl) rfl ?_
      refine g_iload_n (dk D_X4_firstBest 15 rfl) rfl ?_
      refine g_bind (fun q5 hq6 => ?_)
      refine h_callVt (st := [vI q2.1]) (c_X4_leastFrom (E := E) fu S0 a0 (ht0) 10 q2.2 x1 x2 q5 hq6) (cl_RX4_63 _) ht0 rfl rfl (by decide) (Nat.le_of_ble_eq_true rfl) (dk D_X4_firstBest 16 rfl) ?_
      refine g_icmp_ne (tgt := 30) (dk D_X4_firstBest 17 rfl) rfl (fun hc8 => ?_) (fun hc8 => ?_)
      · refine g_iinc (v := (1 : Int32)) (L' := [(0, vA (a0 + 1)), (1, vI x1), (2, vI x2), (3, vI (x3 + (1 : Int32)))]) (dk D_X4_firstBest 20 rfl) rfl rfl (Nat.le_of_ble_eq_true rfl) rfl ?_
        refine g_goto (tgt := 2) (dk D_X4_firstBest 21 rfl) rfl ?_
        exact hself2 (x3 + (1 : Int32)) q5.2 trivial
      · refine g_iload_n (dk D_X4_firstBest 18 rfl) rfl ?_
        exact g_ireturn rfl rfl Sx.rf rfl (by decide) (by decide) (dk D_X4_firstBest 19 rfl)
  unfold f_X4_firstBest
  refine g_iconst (v := (0 : Int32)) (dk D_X4_firstBest 0 rfl) rfl ?_
  refine g_istore_n (L' := [(0, vA (a0 + 1)), (1, vI x1), (2, vI x2), (3, vI (0 : Int32))]) (dk D_X4_firstBest 1 rfl) (Nat.le_of_ble_eq_true rfl) rfl ?_
  exact hl2 fu (0 : Int32) I0 trivial
theorem c_X4_firstBest {E : EV} (fu : Nat) (S0 : Sk) (I0 : II) (a0 : Nat) (x1 : Int32) (x2 : Int32) (r : Int32 × II) (h : f_X4_firstBest fu S0 I0 a0 x1 x2 = some r) (ht0 : tyO S0 4 a0) : MX E yX4_firstBest i_X4_firstBest S0 I0 [vA (a0 + 1), vI x1, vI x2] (po_X4_firstBest S0 I0 r) :=
  MX.of h (by decide) rfl rfl (Nat.le_of_ble_eq_true rfl) (gg_X4_firstBest fu S0 I0 a0 x1 x2 ht0)
theorem cl_RX4_80 : CV0 RX4 80 yX4_firstBest i_X4_firstBest 2 4 := ⟨⟨(gm 826 (by decide +kernel) (by decide +kernel)), (gm 69 (by decide +kernel) (by decide +kernel)), ((gm 829 (by decide +kernel) (by decide +kernel))), by decide +kernel, by decide +kernel, by decide +kernel⟩, ⟨(gm 828 (by decide +kernel) (by decide +kernel)), (gm 19 (by decide +kernel) (by decide +kernel))⟩, rfl, by decide⟩
theorem cl_RX4_74 : CS0 RX4 74 yJ7_fill_53178 i_J7_fill_53178 2 := ⟨⟨(gm 825 (by decide +kernel) (by decide +kernel)), (gm 74 (by decide +kernel) (by decide +kernel)), (gm 660 (by decide +kernel) (by decide +kernel)), by decide +kernel, by decide +kernel, by decide +kernel⟩, (gm 659 (by decide +kernel) (by decide +kernel))⟩
def tb_X4_chooseFirst : List (Nat × Instr × Nat) := [(0, .aload_n 0, 1), (1, .getfield 44, 3), (4, .bipush (-9), 2), (6, .invokestatic 74, 3), (9, .iconst 0, 1), (10, .istore_n 1, 1), (11, .iconst 0, 1), (12, .istore_n 2, 1), (13, .iload_n 2, 1), (14, .aload_n 0, 1), (15, .getfield 15, 3), (18, .if_icmp .ge 47, 3), (21, .aload_n 0, 1), (22, .iload_n 2, 1), (23, .iload_n 1, 1), (24, .invokevirtual 80, 3), (27, .istore_n 3, 1), (28, .aload_n 0, 1), (29, .getfield 44, 3), (32, .aload_n 0, 1), (33, .getfield 11, 3), (36, .iload_n 2, 1), (37, .iaload, 1), (38, .iload_n 3, 1), (39, .iastore, 1), (40, .aload_n 0, 1), (41, .getfield 35, 3), (44, .iload_n 3, 1), (45, .dup2, 1), (46, .iaload, 1), (47, .iconst 1, 1), (48, .iadd, 1), (49, .iastore, 1), (50, .iload_n 1, 1), (51, .aload_n 0, 1), (52, .getfield 32, 3), (55, .iload_n 3, 1), (56, .iaload, 1), (57, .iadd, 1), (58, .istore_n 1, 1), (59, .iinc 2 1, 3), (62, .goto (-49), 3), (65, .return_, 1)]
def i_X4_chooseFirst : MI := (RX4, cX4_chooseFirst, 4, none, "chooseFirst", { frames := 24, cells := 0, slots := 0, locals := 575 })
theorem D_X4_chooseFirst : tbOK (i_X4_chooseFirst).2.1 tb_X4_chooseFirst := by show ∀ q ∈ tb_X4_chooseFirst, decode cX4_chooseFirst q.1 = .ok (q.2.1, q.2.2); decide +kernel
def po_X4_chooseFirst (S : Sk) (I : II) (r : II) : Option LV × Sk × II := (none, S, r)
def lp_X4_chooseFirst_13 (fu : Nat) (S : Sk) (a0 : Nat) (self13 : Int32 → Int32 → II → Option (II)) (x1 : Int32) (x2 : Int32) (I : II) : Option (II) :=
  if (I a0 1) ≤ x2 then some (I) else (f_X4_firstBest fu S I a0 x2 x1).bind fun q2 => (lt q2.1 fun x3_5 => (gd (inb S (S.1 a0 0) x2) (gd (inb S (S.1 a0 10) (rd q2.2 (S.1 a0 0) x2)) (lt (wr q2.2 (S.1 a0 10) (rd q2.2 (S.1 a0 0) x2) x3_5) fun I10 => (gd (inb S (S.1 a0 7) x3_5) (lt (wr I10 (S.1 a0 7) x3_5 ((rd I10 (S.1 a0 7) x3_5) + (1 : Int32))) fun I13 => (gd (inb S (S.1 a0 6) x3_5) (lt (x1 + (rd I13 (S.1 a0 6) x3_5)) fun x1_16 => (self13 x1_16 (x2 + (1 : Int32)) I13)))))))))
def f_X4_chooseFirst (fu : Nat) (S : Sk) (I : II) (a0 : Nat) : Option (II) :=
  (f_J7_fill_53178 fu S I (S.1 a0 10) ((-9) : Int32)).bind fun q18 => (fix3 (lp_X4_chooseFirst_13 fu S a0) fu (0 : Int32) (0 : Int32) q18)
set_option maxRecDepth 100000 in
set_option maxHeartbeats 4000000 in
theorem gg_X4_chooseFirst {E : EV} (fu : Nat) (S0 : Sk) (I0 : II) (a0 : Nat) (ht0 : tyO S0 4 a0) : GG E i_X4_chooseFirst (enM E i_X4_chooseFirst S0 (po_X4_chooseFirst S0 I0)) S0 I0 (0, 0) 0 [(0, vA (a0 + 1))] [] (f_X4_chooseFirst fu S0 I0 a0) := by
  have hl13 : ∀ (nn : Nat) (x1 : Int32) (x2 : Int32) (I : II), True → GG E i_X4_chooseFirst (enM E i_X4_chooseFirst S0 (po_X4_chooseFirst S0 I0)) S0 I (0, 0) 13 [(0, vA (a0 + 1)), (1, vI x1), (2, vI x2)] [] (fix3 (lp_X4_chooseFirst_13 fu S0 a0) nn x1 x2 I) := by
    refine g_fix3 (fun _ _ _ => S0) (fun x1 x2 I => I) (fun x1 x2 I => [(0, vA (a0 + 1)), (1, vI x1), (2, vI x2)]) (fun x1 x2 I => True) ?_
    intro self13 hself13 x1 x2 I hinv
    unfold lp_X4_chooseFirst_13
    refine g_iload_n (dk D_X4_chooseFirst 8 rfl) rfl ?_
    refine g_aload_n (dk D_X4_chooseFirst 9 rfl) rfl ?_
    refine g_getIt fl_RX4_15 (by decide) ht0 (dk D_X4_chooseFirst 10 rfl) ?_
    refine g_icmp_ge (tgt := 65) (dk D_X4_chooseFirst 11 rfl) rfl (fun hc1 => ?_) (fun hc1 => ?_)
    · exact g_return rfl rfl Sx.rf rfl (by decide) (by decide) (dk D_X4_chooseFirst 42 rfl)
    · refine g_aload_n (dk D_X4_chooseFirst 12 rfl) rfl ?_
      refine g_iload_n (dk D_X4_chooseFirst 13 rfl) rfl ?_
      refine g_iload_n (dk D_X4_chooseFirst 14 rfl) rfl ?_
      refine g_bind (fun q2 hq3 => ?_)
      refine h_callVt (st := []) (c_X4_firstBest (E := E) fu S0 I a0 x2 x1 q2 hq3 (ht0)) cl_RX4_80 ht0 rfl rfl (by decide) (Nat.le_of_ble_eq_true rfl) (dk D_X4_chooseFirst 15 rfl) ?_
      refine g_ltV (fun x3_5 ex3_5 => ?_)
      refine g_istore_n (L' := [(0, vA (a0 + 1)), (1, vI x1), (2, vI x2), (3, vI x3_5)]) (dk D_X4_chooseFirst 16 rfl) (Nat.le_of_ble_eq_true rfl) rfl ?_
      refine g_aload_n (dk D_X4_chooseFirst 17 rfl) rfl ?_
      refine g_getAt (t := 100) fl_RX4_44 rfl ht0 (dk D_X4_chooseFirst 18 rfl) (fun ht6 => ?_)
      refine g_aload_n (dk D_X4_chooseFirst 19 rfl) rfl ?_
      refine g_getAt (t := 100) fl_RX4_11 rfl ht0 (dk D_X4_chooseFirst 20 rfl) (fun ht7 => ?_)
      refine g_iload_n (dk D_X4_chooseFirst 21 rfl) rfl ?_
      refine g_gd (fun hi8 => ?_)
      refine g_iaload ht7 hi8 (dk D_X4_chooseFirst 22 rfl) ?_
      refine g_iload_n (dk D_X4_chooseFirst 23 rfl) rfl ?_
      refine g_gd (fun hi9 => ?_)
      refine g_iastore ht6 hi9 (dk D_X4_chooseFirst 24 rfl) ?_
      refine g_ltI (fun I10 eI10 => ?_)
      refine g_aload_n (dk D_X4_chooseFirst 25 rfl) rfl ?_
      refine g_getAt (t := 100) fl_RX4_35 rfl ht0 (dk D_X4_chooseFirst 26 rfl) (fun ht11 => ?_)
      refine g_iload_n (dk D_X4_chooseFirst 27 rfl) rfl ?_
      refine g_dup2 (dk D_X4_chooseFirst 28 rfl) rfl rfl ?_
      refine g_gd (fun hi12 => ?_)
      refine g_iaload ht11 hi12 (dk D_X4_chooseFirst 29 rfl) ?_
      refine g_iconst (v := (1 : Int32)) (dk D_X4_chooseFirst 30 rfl) rfl ?_
      refine g_iadd (dk D_X4_chooseFirst 31 rfl) ?_
      refine g_iastore ht11 hi12 (dk D_X4_chooseFirst 32 rfl) ?_
      refine g_ltI (fun I13 eI13 => ?_)
      refine g_iload_n (dk D_X4_chooseFirst 33 rfl) rfl ?_
      refine g_aload_n (dk D_X4_chooseFirst 34 rfl) rfl ?_
      refine g_getAt (t := 100) fl_RX4_32 rfl ht0 (dk D_X4_chooseFirst 35 rfl) (fun ht14 => ?_)
      refine g_iload_n (dk D_X4_chooseFirst 36 rfl) rfl ?_
      refine g_gd (fun hi15 => ?_)
      refine g_iaload ht14 hi15 (dk D_X4_chooseFirst 37 rfl) ?_
      refine g_iadd (dk D_X4_chooseFirst 38 rfl) ?_
      refine g_ltV (fun x1_16 ex1_16 => ?_)
      refine g_istore_n (L' := [(0, vA (a0 + 1)), (1, vI x1_16), (2, vI x2), (3, vI x3_5)]) (dk D_X4_chooseFirst 39 rfl) (Nat.le_of_ble_eq_true rfl) rfl ?_
      refine g_iinc (v := (1 : Int32)) (L' := [(0, vA (a0 + 1)), (1, vI x1_16), (2, vI (x2 + (1 : Int32))), (3, vI x3_5)]) (dk D_X4_chooseFirst 40 rfl) rfl rfl (Nat.le_of_ble_eq_true rfl) rfl ?_
      refine g_goto (tgt := 13) (dk D_X4_chooseFirst 41 rfl) rfl ?_
      refine g_Lp [0, 1, 2] rfl ?_
      exact hself13 x1_16 (x2 + (1 : Int32)) I13 trivial
  unfold f_X4_chooseFirst
  refine g_aload_n (dk D_X4_chooseFirst 0 rfl) rfl ?_
  refine g_getAt (t := 100) fl_RX4_44 rfl ht0 (dk D_X4_chooseFirst 1 rfl) (fun ht17 => ?_)
  refine g_bipush (v := ((-9) : Int32)) (dk D_X4_chooseFirst 2 rfl) rfl ?_
  refine g_bind (fun q18 hq19 => ?_)
  refine h_callS (st := []) (c_J7_fill_53178 (E := E) fu S0 I0 (S0.1 a0 10) ((-9) : Int32) q18 hq19 ht17) cl_RX4_74 rfl rfl (by decide) (Nat.le_of_ble_eq_true rfl) (dk D_X4_chooseFirst 3 rfl) ?_
  refine g_iconst (v := (0 : Int32)) (dk D_X4_chooseFirst 4 rfl) rfl ?_
  refine g_istore_n (L' := [(0, vA (a0 + 1)), (1, vI (0 : Int32))]) (dk D_X4_chooseFirst 5 rfl) (Nat.le_of_ble_eq_true rfl) rfl ?_
  refine g_iconst (v := (0 : Int32)) (dk D_X4_chooseFirst 6 rfl) rfl ?_
  refine g_istore_n (L' := [(0, vA (a0 + 1)), (1, vI (0 : Int32)), (2, vI (0 : Int32))]) (dk D_X4_chooseFirst 7 rfl) (Nat.le_of_ble_eq_true rfl) rfl ?_
  exact hl13 fu (0 : Int32) (0 : Int32) q18 trivial
theorem c_X4_chooseFirst {E : EV} (fu : Nat) (S0 : Sk) (I0 : II) (a0 : Nat) (r : II) (h : f_X4_chooseFirst fu S0 I0 a0 = some r) (ht0 : tyO S0 4 a0) : MX E yX4_chooseFirst i_X4_chooseFirst S0 I0 [vA (a0 + 1)] (po_X4_chooseFirst S0 I0 r) :=
  MX.of h (by decide) rfl rfl (Nat.le_of_ble_eq_true rfl) (gg_X4_chooseFirst fu S0 I0 a0 ht0)
theorem cl_RX4_67 : CV0 RX4 67 yX4_chooseFirst i_X4_chooseFirst 0 4 := ⟨⟨(gm 821 (by decide +kernel) (by decide +kernel)), (gm 69 (by decide +kernel) (by decide +kernel)), ((gm 824 (by decide +kernel) (by decide +kernel))), by decide +kernel, by decide +kernel, by decide +kernel⟩, ⟨(gm 823 (by decide +kernel) (by decide +kernel)), (gm 18 (by decide +kernel) (by decide +kernel))⟩, rfl, by decide⟩
def tb_X4_answer : List (Nat × Instr × Nat) := [(0, .aload_n 0, 1), (1, .getfield 19, 3), (4, .ifCond .eq 6, 3), (7, .bipush (-9), 2), (9, .ireturn, 1), (10, .iconst 0, 1), (11, .istore_n 2, 1), (12, .iload_n 2, 1), (13, .aload_n 0, 1), (14, .getfield 26, 3), (17, .if_icmp .ge 16, 3), (20, .aload_n 0, 1), (21, .getfield 41, 3), (24, .iload_n 2, 1), (25, .iconst (-1), 1), (26, .iastore, 1), (27, .iinc 2 1, 3), (30, .goto (-18), 3), (33, .aload_n 0, 1), (34, .iconst 0, 1), (35, .iconst 0, 1), (36, .invokevirtual 63, 3), (39, .istore_n 2, 1), (40, .iload_n 2, 1), (41, .ldc 66, 2), (43, .if_icmp .ne 6, 3), (46, .bipush (-9), 2), (48, .ireturn, 1), (49, .iload_n 1, 1), (50, .iconst (-1), 1), (51, .if_icmp .ne 5, 3), (54, .iload_n 2, 1), (55, .ireturn, 1), (56, .aload_n 0, 1), (57, .invokevirtual 67, 3), (60, .aload_n 0, 1), (61, .getfield 44, 3), (64, .iload_n 1, 1), (65, .iaload, 1), (66, .ireturn, 1)]
def i_X4_answer : MI := (RX4, cX4_answer, 3, (some .int), "answer", { frames := 25, cells := 0, slots := 0, locals := 598 })
theorem D_X4_answer : tbOK (i_X4_answer).2.1 tb_X4_answer := by show ∀ q ∈ tb_X4_answer, decode cX4_answer q.1 = .ok (q.2.1, q.2.2); decide +kernel
def po_X4_answer (S : Sk) (I : II) (r : Int32 × II) : Option LV × Sk × II := (some (vI r.1), S, r.2)
def lp_X4_answer_12 (fu : Nat) (S : Sk) (a0 : Nat) (x1 : Int32) (self12 : Int32 → II → Option (Int32 × II)) (x2 : Int32) (I : II) : Option (Int32 × II) :=
  if (I a0 4) ≤ x2 then (f_X4_leastFrom fu S a0 10 I (0 : Int32) (0 : Int32)).bind fun q2 => (lt q2.1 fun x2_5 => (if x2_5 = (1073741824 : Int32) then some ((((-9) : Int32), q2.2)) else if x1 = ((-1) : Int32) then some ((x2_5, q2.2)) else (f_X4_chooseFirst fu S q2.2 a0).bind fun q8 => (gd (inb S (S.1 a0 10) x1) (some (((rd q8 (S.1 a0 10) x1), q8)))))) else gd (inb S (S.1 a0 9) x2) (lt (wr I (S.1 a0 9) x2 ((-1) : Int32)) fun I15 => (self12 (x2 + (1 : Int32)) I15))
def f_X4_answer (fu : Nat) (S : Sk) (I : II) (a0 : Nat) (x1 : Int32) : Option (Int32 × II) :=
  if (I a0 2) = 0 then fix2 (lp_X4_answer_12 fu S a0 x1) fu (0 : Int32) I else some ((((-9) : Int32), I))
set_option maxRecDepth 100000 in
set_option maxHeartbeats 4000000 in
theorem gg_X4_answer {E : EV} (fu : Nat) (S0 : Sk) (I0 : II) (a0 : Nat) (x1 : Int32) (ht0 : tyO S0 4 a0) : GG E i_X4_answer (enM E i_X4_answer S0 (po_X4_answer S0 I0)) S0 I0 (0, 0) 0 [(0, vA (a0 + 1)), (1, vI x1)] [] (f_X4_answer fu S0 I0 a0 x1) := by
  have hl12 : ∀ (nn : Nat) (x2 : Int32) (I : II), True → GG E i_X4_answer (enM E i_X4_answer S0 (po_X4_answer S0 I0)) S0 I (0, 0) 12 [(0, vA (a0 + 1)), (1, vI x1), (2, vI x2)] [] (fix2 (lp_X4_answer_12 fu S0 a0 x1) nn x2 I) := by
    refine g_fix2 (fun _ _ => S0) (fun x2 I => I) (fun x2 I => [(0, vA (a0 + 1)), (1, vI x1), (2, vI x2)]) (fun x2 I => True) ?_
    intro self12 hself12 x2 I hinv
    unfold lp_X4_answer_12
    refine g_iload_n (dk D_X4_answer 7 rfl) rfl ?_
    refine g_aload_n (dk D_X4_answer 8 rfl) rfl ?_
    refine g_getIt fl_RX4_26 (by decide) ht0 (dk D_X4_answer 9 rfl) ?_
    refine g_icmp_ge (tgt := 33) (dk D_X4_answer 10 rfl) rfl (fun hc1 => ?_) (fun hc1 => ?_)
    · refine g_aload_n (dk D_X4_answer 18 rfl) rfl ?_
      refine g_iconst (v := (0 : Int32)) (dk D_X4_answer 19 rfl) rfl ?_
      refine g_iconst (v := (0 : Int32)) (dk D_X4_answer 20 rfl) rfl ?_
      refine g_bind (fun q2 hq3 => ?_)
      refine h_callVt (st := []) (c_X4_leastFrom (E := E) fu S0 a0 (ht0) 10 I (0 : Int32) (0 : Int32) q2 hq3) (cl_RX4_63 _) ht0 rfl rfl (by decide) (Nat.le_of_ble_eq_true rfl) (dk D_X4_answer 21 rfl) ?_
      refine g_ltV (fun x2_5 ex2_5 => ?_)
      refine g_istore_n (L' := [(0, vA (a0 + 1)), (1, vI x1), (2, vI x2_5)]) (dk D_X4_answer 22 rfl) (Nat.le_of_ble_eq_true rfl) rfl ?_
      refine g_iload_n (dk D_X4_answer 23 rfl) rfl ?_
      refine g_ldc (dk D_X4_answer 24 rfl) lk_RX4_66 ?_
      refine g_icmp_ne (tgt := 49) (dk D_X4_answer 25 rfl) rfl (fun hc6 => ?_) (fun hc6 => ?_)
      · refine g_iload_n (dk D_X4_answer 28 rfl) rfl ?_
        refine g_iconst (v := ((-1) : Int32)) (dk D_X4_answer 29 rfl) rfl ?_
        refine g_icmp_ne (tgt := 56) (dk D_X4_answer 30 rfl) rfl (fun hc7 => ?_) (fun hc7 => ?_)
        · refine g_aload_n (dk D_X4_answer 33 rfl) rfl ?_
          refine g_bind (fun q8 hq9 => ?_)
          refine h_callVt (st := []) (c_X4_chooseFirst (E := E) fu S0 q2.2 a0 q8 hq9 (ht0)) cl_RX4_67 ht0 rfl rfl (by decide) (Nat.le_of_ble_eq_true rfl) (dk D_X4_answer 34 rfl) ?_
          refine g_aload_n (dk D_X4_answer 35 rfl) rfl ?_
          refine g_getAt (t := 100) fl_RX4_44 rfl ht0 (dk D_X4_answer 36 rfl) (fun ht11 => ?_)
          refine g_iload_n (dk D_X4_answer 37 rfl) rfl ?_
          refine g_gd (fun hi12 => ?_)
          refine g_iaload ht11 hi12 (dk D_X4_answer 38 rfl) ?_
          exact g_ireturn rfl rfl Sx.rf rfl (by decide) (by decide) (dk D_X4_answer 39 rfl)
        · refine g_iload_n (dk D_X4_answer 31 rfl) rfl ?_
          exact g_ireturn rfl rfl Sx.rf rfl (by decide) (by decide) (dk D_X4_answer 32 rfl)
      · refine g_bipush (v := ((-9) : Int32)) (dk D_X4_answer 26 rfl) rfl ?_
        exact g_ireturn rfl rfl Sx.rf rfl (by decide) (by decide) (dk D_X4_answer 27 rfl)
    · refine g_aload_n (dk D_X4_answer 11 rfl) rfl ?_
      refine g_getAt (t := 100) fl_RX4_41 rfl ht0 (dk D_X4_answer 12 rfl) (fun ht13 => ?_)
      refine g_iload_n (dk D_X4_answer 13 rfl) rfl ?_
      refine g_iconst (v := ((-1) : Int32)) (dk D_X4_answer 14 rfl) rfl ?_
      refine g_gd (fun hi14 => ?_)
      refine g_iastore ht13 hi14 (dk D_X4_answer 15 rfl) ?_
      refine g_ltI (fun I15 eI15 => ?_)
      refine g_iinc (v := (1 : Int32)) (L' := [(0, vA (a0 + 1)), (1, vI x1), (2, vI (x2 + (1 : Int32)))]) (dk D_X4_answer 16 rfl) rfl rfl (Nat.le_of_ble_eq_true rfl) rfl ?_
      refine g_goto (tgt := 12) (dk D_X4_answer 17 rfl) rfl ?_
      exact hself12 (x2 + (1 : Int32)) I15 trivial
  unfold f_X4_answer
  refine g_aload_n (dk D_X4_answer 0 rfl) rfl ?_
  refine g_getIt fl_RX4_19 (by decide) ht0 (dk D_X4_answer 1 rfl) ?_
  refine g_if_eq (tgt := 10) (dk D_X4_answer 2 rfl) rfl (fun hc16 => ?_) (fun hc16 => ?_)
  · refine g_iconst (v := (0 : Int32)) (dk D_X4_answer 5 rfl) rfl ?_
    refine g_istore_n (L' := [(0, vA (a0 + 1)), (1, vI x1), (2, vI (0 : Int32))]) (dk D_X4_answer 6 rfl) (Nat.le_of_ble_eq_true rfl) rfl ?_
    exact hl12 fu (0 : Int32) I0 trivial
  · refine g_bipush (v := ((-9) : Int32)) (dk D_X4_answer 3 rfl) rfl ?_
    exact g_ireturn rfl rfl Sx.rf rfl (by decide) (by decide) (dk D_X4_answer 4 rfl)
theorem c_X4_answer {E : EV} (fu : Nat) (S0 : Sk) (I0 : II) (a0 : Nat) (x1 : Int32) (r : Int32 × II) (h : f_X4_answer fu S0 I0 a0 x1 = some r) (ht0 : tyO S0 4 a0) : MX E yX4_answer i_X4_answer S0 I0 [vA (a0 + 1), vI x1] (po_X4_answer S0 I0 r) :=
  MX.of h (by decide) rfl rfl (Nat.le_of_ble_eq_true rfl) (gg_X4_answer fu S0 I0 a0 x1 ht0)
theorem lk_RX5_3 : Cond.methodLink RX5 3 Lib.objectInit ∈ lw_good := (gm 246 (by decide +kernel) (by decide +kernel))
theorem fl_RX5_9 : FL RX5 9 5 0 := ⟨RX5, TX5, 4, rfl, by decide, rfl, by decide, (gm 247 (by decide +kernel) (by decide +kernel)), inG5⟩
theorem fp_5_0 : FP 5 0 (tyX5 0) false := ⟨RX5, TX5, 4, tyX5, rfl, tyX5_ok, nmX5, rfl, rfl, rfl⟩
theorem fl_RX5_15 : FL RX5 15 5 1 := ⟨RX5, TX5, 4, rfl, by decide, rfl, by decide, (gm 249 (by decide +kernel) (by decide +kernel)), inG5⟩
theorem fp_5_1 : FP 5 1 (tyX5 1) false := ⟨RX5, TX5, 4, tyX5, rfl, tyX5_ok, nmX5, rfl, rfl, rfl⟩
theorem fl_RX5_19 : FL RX5 19 5 2 := ⟨RX5, TX5, 4, rfl, by decide, rfl, by decide, (gm 251 (by decide +kernel) (by decide +kernel)), inG5⟩
theorem fp_5_2 : FP 5 2 (tyX5 2) false := ⟨RX5, TX5, 4, tyX5, rfl, tyX5_ok, nmX5, rfl, rfl, rfl⟩
theorem fl_RX5_22 : FL RX5 22 5 3 := ⟨RX5, TX5, 4, rfl, by decide, rfl, by decide, (gm 252 (by decide +kernel) (by decide +kernel)), inG5⟩
theorem fp_5_3 : FP 5 3 (tyX5 3) true := ⟨RX5, TX5, 4, tyX5, rfl, tyX5_ok, nmX5, rfl, rfl, rfl⟩
theorem ff_RX5 : FI RX5 "<init>" 5 true := fun _ => ⟨rfl, fun q h => by cases h; rfl⟩
def tb_X5_init : List (Nat × Instr × Nat) := [(0, .aload_n 0, 1), (1, .invokespecial 3, 3), (4, .aload_n 0, 1), (5, .iconst 0, 1), (6, .putfield 9, 3), (9, .aload_n 0, 1), (10, .iconst 0, 1), (11, .putfield 15, 3), (14, .aload_n 0, 1), (15, .iconst 0, 1), (16, .putfield 19, 3), (19, .aload_n 0, 1), (20, .bipush 60, 2), (22, .newarray .int, 2), (24, .putfield 22, 3), (27, .return_, 1)]
def i_X5_init : MI := (RX5, cX5_init, 1, none, "<init>", { frames := 1, cells := 1, slots := 60, locals := 80 })
theorem D_X5_init : tbOK (i_X5_init).2.1 tb_X5_init := by show ∀ q ∈ tb_X5_init, decode cX5_init q.1 = .ok (q.2.1, q.2.2); decide +kernel
def po_X5_init (S : Sk) (I : II) (r : Sk × II) : Option LV × Sk × II := (none, r.1, r.2)
def f_X5_init (fu : Nat) (S : Sk) (I : II) (a0 : Nat) : Option (Sk × II) :=
  lt (upI I a0 0 (0 : Int32)) fun I1 => (lt (upI I1 a0 1 (0 : Int32)) fun I2 => (lt (upI I2 a0 2 (0 : Int32)) fun I3 => (lt (nwS S 100 (nx (60 : Int32))) fun S4 => (lt (nwI S I3) fun I5 => (lt (upP S4 a0 3 (S.2.2.2 + 1)) fun S10 => (some ((S10, I5))))))))
set_option maxRecDepth 100000 in
set_option maxHeartbeats 4000000 in
theorem gg_X5_init {E : EV} (fu : Nat) (S0 : Sk) (I0 : II) (a0 : Nat) (ht0 : tyO S0 5 a0) : GG E i_X5_init (enM E i_X5_init S0 (po_X5_init S0 I0)) S0 I0 (0, 0) 0 [(0, vA (a0 + 1))] [] (f_X5_init fu S0 I0 a0) := by
  unfold f_X5_init
  refine g_aload_n (dk D_X5_init 0 rfl) rfl ?_
  refine g_objInit lk_RX5_3 lk_oi lk_oc (Nat.succ_ne_zero _) (by decide) (by rw [wid_sum]; exact Nat.le_of_ble_eq_true rfl) (dk D_X5_init 1 rfl) ?_
  refine g_aload_n (dk D_X5_init 2 rfl) rfl ?_
  refine g_iconst (v := (0 : Int32)) (dk D_X5_init 3 rfl) rfl ?_
  refine g_putIt fl_RX5_9 fp_5_0 (fun h => (by cases h)) (by decide) (by decide +kernel) (by decide +kernel) ht0 (dk D_X5_init 4 rfl) ?_
  refine g_ltI (fun I1 eI1 => ?_)
  refine g_aload_n (dk D_X5_init 5 rfl) rfl ?_
  refine g_iconst (v := (0 : Int32)) (dk D_X5_init 6 rfl) rfl ?_
  refine g_putIt fl_RX5_15 fp_5_1 (fun h => (by cases h)) (by decide) rfl rfl ht0 (dk D_X5_init 7 rfl) ?_
  refine g_ltI (fun I2 eI2 => ?_)
  refine g_aload_n (dk D_X5_init 8 rfl) rfl ?_
  refine g_iconst (v := (0 : Int32)) (dk D_X5_init 9 rfl) rfl ?_
  refine g_putIt fl_RX5_19 fp_5_2 (fun h => (by cases h)) (by decide) rfl rfl ht0 (dk D_X5_init 10 rfl) ?_
  refine g_ltI (fun I3 eI3 => ?_)
  refine g_aload_n (dk D_X5_init 11 rfl) rfl ?_
  refine g_bipush (v := (60 : Int32)) (dk D_X5_init 12 rfl) rfl ?_
  refine g_newarray (by decide) (by decide) (by show 0 + 1 ≤ 1; omega) (by show 0 + 60 ≤ 60; omega) lk_arr (dk D_X5_init 13 rfl) ?_
  refine g_wide (cs' := (1, 60)) (by show 0 + 1 ≤ 1; omega) (by show 0 + 60 ≤ 60; omega) ?_
  refine g_ltS (fun S4 eS4 => ?_)
  refine g_ltI (fun I5 eI5 => ?_)
  have hx6 : Sx S0 S4 := eS4 ▸ nwS_x
  have ht7 := ht0.x hx6
  have hsx8 := Sx.tr Sx.rf hx6
  have ht9 : tyR S4 100 (S0.2.2.2 + 1) := eS4 ▸ nwS_ty.R
  refine g_putAt (t := 100) fl_RX5_22 fp_5_3 ff_RX5 rfl (Or.inr ⟨_, rfl⟩) ht9 ht7 (dk D_X5_init 14 rfl) ?_
  refine g_ltS (fun S10 eS10 => ?_)
  have hx11 : Sx S4 S10 := eS10 ▸ upP_x
  have ht12 := ht9.x hx11
  have ht13 := ht7.x hx11
  have hsx14 := Sx.tr hsx8 hx11
  exact g_return rfl rfl hsx14 rfl (by show 1 ≤ 1; omega) (by show 60 ≤ 60; omega) (dk D_X5_init 15 rfl)
theorem c_X5_init {E : EV} (fu : Nat) (S0 : Sk) (I0 : II) (a0 : Nat) (r : Sk × II) (h : f_X5_init fu S0 I0 a0 = some r) (ht0 : tyO S0 5 a0) : MX E yX5_init i_X5_init S0 I0 [vA (a0 + 1)] (po_X5_init S0 I0 r) :=
  MX.of h (by decide) rfl rfl (Nat.le_of_ble_eq_true rfl) (gg_X5_init fu S0 I0 a0 ht0)
theorem cl_RX5_26 : CS0 RX5 26 yJ7_fill_53178 i_J7_fill_53178 2 := ⟨⟨(gm 908 (by decide +kernel) (by decide +kernel)), (gm 74 (by decide +kernel) (by decide +kernel)), (gm 660 (by decide +kernel) (by decide +kernel)), by decide +kernel, by decide +kernel, by decide +kernel⟩, (gm 659 (by decide +kernel) (by decide +kernel))⟩
def tb_X5_renew : List (Nat × Instr × Nat) := [(0, .aload_n 0, 1), (1, .iconst 1, 1), (2, .putfield 9, 3), (5, .aload_n 0, 1), (6, .iload_n 1, 1), (7, .putfield 15, 3), (10, .aload_n 0, 1), (11, .iload_n 2, 1), (12, .putfield 19, 3), (15, .aload_n 0, 1), (16, .getfield 22, 3), (19, .iconst 0, 1), (20, .invokestatic 26, 3), (23, .return_, 1)]
def i_X5_renew : MI := (RX5, cX5_renew, 3, none, "renew", { frames := 1, cells := 0, slots := 0, locals := 23 })
theorem D_X5_renew : tbOK (i_X5_renew).2.1 tb_X5_renew := by show ∀ q ∈ tb_X5_renew, decode cX5_renew q.1 = .ok (q.2.1, q.2.2); decide +kernel
def po_X5_renew (S : Sk) (I : II) (r : II) : Option LV × Sk × II := (none, S, r)
def f_X5_renew (fu : Nat) (S : Sk) (I : II) (a0 : Nat) (x1 : Int32) (x2 : Int32) : Option (II) :=
  lt (upI I a0 0 (1 : Int32)) fun I1 => (lt (upI I1 a0 1 x1) fun I2 => (lt (upI I2 a0 2 x2) fun I3 => ((f_J7_fill_53178 fu S I3 (S.1 a0 3) (0 : Int32)).bind fun q5 => (some (q5)))))
set_option maxRecDepth 100000 in
set_option maxHeartbeats 4000000 in
theorem gg_X5_renew {E : EV} (fu : Nat) (S0 : Sk) (I0 : II) (a0 : Nat) (x1 : Int32) (x2 : Int32) (ht0 : tyO S0 5 a0) : GG E i_X5_renew (enM E i_X5_renew S0 (po_X5_renew S0 I0)) S0 I0 (0, 0) 0 [(0, vA (a0 + 1)), (1, vI x1), (2, vI x2)] [] (f_X5_renew fu S0 I0 a0 x1 x2) := by
  unfold f_X5_renew
  refine g_aload_n (dk D_X5_renew 0 rfl) rfl ?_
  refine g_iconst (v := (1 : Int32)) (dk D_X5_renew 1 rfl) rfl ?_
  refine g_putIt fl_RX5_9 fp_5_0 (fun h => (by cases h)) (by decide) (by decide +kernel) (by decide +kernel) ht0 (dk D_X5_renew 2 rfl) ?_
  refine g_ltI (fun I1 eI1 => ?_)
  refine g_aload_n (dk D_X5_renew 3 rfl) rfl ?_
  refine g_iload_n (dk D_X5_renew 4 rfl) rfl ?_
  refine g_putIt fl_RX5_15 fp_5_1 (fun h => (by cases h)) (by decide) rfl rfl ht0 (dk D_X5_renew 5 rfl) ?_
  refine g_ltI (fun I2 eI2 => ?_)
  refine g_aload_n (dk D_X5_renew 6 rfl) rfl ?_
  refine g_iload_n (dk D_X5_renew 7 rfl) rfl ?_
  refine g_putIt fl_RX5_19 fp_5_2 (fun h => (by cases h)) (by decide) rfl rfl ht0 (dk D_X5_renew 8 rfl) ?_
  refine g_ltI (fun I3 eI3 => ?_)
  refine g_aload_n (dk D_X5_renew 9 rfl) rfl ?_
  refine g_getAt (t := 100) fl_RX5_22 rfl ht0 (dk D_X5_renew 10 rfl) (fun ht4 => ?_)
  refine g_iconst (v := (0 : Int32)) (dk D_X5_renew 11 rfl) rfl ?_
  refine g_bind (fun q5 hq6 => ?_)
  refine h_callS (st := []) (c_J7_fill_53178 (E := E) fu S0 I3 (S0.1 a0 3) (0 : Int32) q5 hq6 ht4) cl_RX5_26 rfl rfl (by decide) (Nat.le_of_ble_eq_true rfl) (dk D_X5_renew 12 rfl) ?_
  exact g_return rfl rfl Sx.rf rfl (by decide) (by decide) (dk D_X5_renew 13 rfl)
theorem c_X5_renew {E : EV} (fu : Nat) (S0 : Sk) (I0 : II) (a0 : Nat) (x1 : Int32) (x2 : Int32) (r : II) (h : f_X5_renew fu S0 I0 a0 x1 x2 = some r) (ht0 : tyO S0 5 a0) : MX E yX5_renew i_X5_renew S0 I0 [vA (a0 + 1), vI x1, vI x2] (po_X5_renew S0 I0 r) :=
  MX.of h (by decide) rfl rfl (Nat.le_of_ble_eq_true rfl) (gg_X5_renew fu S0 I0 a0 x1 x2 ht0)
def tb_X5_holds : List (Nat × Instr × Nat) := [(0, .iload_n 1, 1), (1, .ifCond .lt 26, 3), (4, .lload_n 2, 1), (5, .lconst 0, 1), (6, .lcmp, 1), (7, .ifCond .lt 20, 3), (10, .iload_n 1, 1), (11, .i2l, 1), (12, .lload_n 2, 1), (13, .ladd, 1), (14, .aload_n 0, 1), (15, .getfield 19, 3), (18, .i2l, 1), (19, .lcmp, 1), (20, .ifCond .gt 7, 3), (23, .iconst 1, 1), (24, .goto 4, 3), (27, .iconst 0, 1), (28, .ireturn, 1)]
def i_X5_holds : MI := (RX5, cX5_holds, 4, (some .boolean), "holds", { frames := 0, cells := 0, slots := 0, locals := 0 })
theorem D_X5_holds : tbOK (i_X5_holds).2.1 tb_X5_holds := by show ∀ q ∈ tb_X5_holds, decode cX5_holds q.1 = .ok (q.2.1, q.2.2); decide +kernel
def po_X5_holds (S : Sk) (I : II) (r : Int32) : Option LV × Sk × II := (some (vI r), S, I)
def f_X5_holds (fu : Nat) (S : Sk) (I : II) (a0 : Nat) (x1 : Int32) (n2 : Int64) : Option (Int32) :=
  if x1 < 0 then some ((0 : Int32)) else if (lg_cmp n2 (0 : Int64)) < 0 then some ((0 : Int32)) else if 0 < (lg_cmp (x1.toInt64 + n2) (((I a0 2)).toInt64)) then some ((0 : Int32)) else some ((1 : Int32))
set_option maxRecDepth 100000 in
set_option maxHeartbeats 4000000 in
theorem gg_X5_holds {E : EV} (fu : Nat) (S0 : Sk) (I0 : II) (a0 : Nat) (x1 : Int32) (n2 : Int64) (ht0 : tyO S0 5 a0) : GG E i_X5_holds (enM E i_X5_holds S0 (po_X5_holds S0 I0)) S0 I0 (0, 0) 0 [(0, vA (a0 + 1)), (1, vI x1), (2, vL n2)] [] (f_X5_holds fu S0 I0 a0 x1 n2) := by
  unfold f_X5_holds
  refine g_iload_n (dk D_X5_holds 0 rfl) rfl ?_
  refine g_if_lt (tgt := 27) (dk D_X5_holds 1 rfl) rfl (fun hc1 => ?_) (fun hc1 => ?_)
  · refine g_iconst (v := (0 : Int32)) (dk D_X5_holds 17 rfl) rfl ?_
    exact g_zreturn rfl rfl (Or.inl rfl) Sx.rf rfl (by decide) (by decide) (dk D_X5_holds 18 rfl)
  · refine g_lload_n (dk D_X5_holds 2 rfl) rfl ?_
    refine g_lconst (v := (0 : Int64)) (dk D_X5_holds 3 rfl) rfl ?_
    refine g_lcmp (dk D_X5_holds 4 rfl) ?_
    refine g_if_lt (tgt := 27) (dk D_X5_holds 5 rfl) rfl (fun hc2 => ?_) (fun hc2 => ?_)
    · refine g_iconst (v := (0 : Int32)) (dk D_X5_holds 17 rfl) rfl ?_
      exact g_zreturn rfl rfl (Or.inl rfl) Sx.rf rfl (by decide) (by decide) (dk D_X5_holds 18 rfl)
    · refine g_iload_n (dk D_X5_holds 6 rfl) rfl ?_
      refine g_i2l (dk D_X5_holds 7 rfl) ?_
      refine g_lload_n (dk D_X5_holds 8 rfl) rfl ?_
      refine g_ladd (dk D_X5_holds 9 rfl) ?_
      refine g_aload_n (dk D_X5_holds 10 rfl) rfl ?_
      refine g_getIt fl_RX5_19 (by decide) ht0 (dk D_X5_holds 11 rfl) ?_
      refine g_i2l (dk D_X5_holds 12 rfl) ?_
      refine g_lcmp (dk D_X5_holds 13 rfl) ?_
      refine g_if_gt (tgt := 27) (dk D_X5_holds 14 rfl) rfl (fun hc3 => ?_) (fun hc3 => ?_)
      · refine g_iconst (v := (0 : Int32)) (dk D_X5_holds 17 rfl) rfl ?_
        exact g_zreturn rfl rfl (Or.inl rfl) Sx.rf rfl (by decide) (by decide) (dk D_X5_holds 18 rfl)
      · refine g_iconst (v := (1 : Int32)) (dk D_X5_holds 15 rfl) rfl ?_
        refine g_goto (tgt := 28) (dk D_X5_holds 16 rfl) rfl ?_
        exact g_zreturn rfl rfl (Or.inr rfl) Sx.rf rfl (by decide) (by decide) (dk D_X5_holds 18 rfl)
def t_X5_holds (I : II) (a0 : Nat) (x1 : Int32) (n2 : Int64) : Int32 :=
  if x1 < 0 then (0 : Int32) else if (lg_cmp n2 (0 : Int64)) < 0 then (0 : Int32) else if 0 < (lg_cmp (x1.toInt64 + n2) (((I a0 2)).toInt64)) then (0 : Int32) else (1 : Int32)
theorem ft_X5_holds (fu : Nat) (S : Sk) (I0 : II) (a0 : Nat) (x1 : Int32) (n2 : Int64) : f_X5_holds fu S I0 a0 x1 n2 = some (t_X5_holds I0 a0 x1 n2) := by
  simp only [f_X5_holds, t_X5_holds, lt, apply_ite some]
theorem z_X5_holds (I : II) (a0 : Nat) (x1 : Int32) (n2 : Int64) : t_X5_holds I a0 x1 n2 = 0 ∨ t_X5_holds I a0 x1 n2 = 1 := by
  unfold t_X5_holds
  (repeat' split) <;> first | exact Or.inl rfl | exact Or.inr rfl
theorem c_X5_holds {E : EV} (S0 : Sk) (I0 : II) (a0 : Nat) (x1 : Int32) (n2 : Int64) (ht0 : tyO S0 5 a0) : MX E yX5_holds i_X5_holds S0 I0 [vA (a0 + 1), vI x1, vL n2] (po_X5_holds S0 I0 (t_X5_holds I0 a0 x1 n2)) :=
  MX.of (ft_X5_holds 0 S0 I0 a0 x1 n2) (by decide) rfl rfl (Nat.le_of_ble_eq_true rfl) (gg_X5_holds 0 S0 I0 a0 x1 n2 ht0)
def tb_X5_cut : List (Nat × Instr × Nat) := [(0, .aload_n 0, 1), (1, .getfield 15, 3), (4, .lookupswitch 34 #[(0, 28), (1, 31)], 28), (32, .iload_n 1, 1), (33, .i2b, 1), (34, .ireturn, 1), (35, .iload_n 1, 1), (36, .i2s, 1), (37, .ireturn, 1), (38, .iload_n 1, 1), (39, .ireturn, 1)]
def i_X5_cut : MI := (RX5, cX5_cut, 2, (some .int), "cut", { frames := 0, cells := 0, slots := 0, locals := 0 })
theorem D_X5_cut : tbOK (i_X5_cut).2.1 tb_X5_cut := by show ∀ q ∈ tb_X5_cut, decode cX5_cut q.1 = .ok (q.2.1, q.2.2); decide +kernel
def po_X5_cut (S : Sk) (I : II) (r : Int32) : Option LV × Sk × II := (some (vI r), S, I)
def f_X5_cut (fu : Nat) (S : Sk) (I : II) (a0 : Nat) (x1 : Int32) : Option (Int32) :=
  if (I a0 1) = (0 : Int32) then some (((x1).toInt8.toInt32)) else (if (I a0 1) = (1 : Int32) then some (((x1).toInt16.toInt32)) else some (x1))
set_option maxRecDepth 100000 in
set_option maxHeartbeats 4000000 in
theorem gg_X5_cut {E : EV} (fu : Nat) (S0 : Sk) (I0 : II) (a0 : Nat) (x1 : Int32) (ht0 : tyO S0 5 a0) : GG E i_X5_cut (enM E i_X5_cut S0 (po_X5_cut S0 I0)) S0 I0 (0, 0) 0 [(0, vA (a0 + 1)), (1, vI x1)] [] (f_X5_cut fu S0 I0 a0 x1) := by
  unfold f_X5_cut
  refine g_aload_n (dk D_X5_cut 0 rfl) rfl ?_
  refine g_getIt fl_RX5_15 (by decide) ht0 (dk D_X5_cut 1 rfl) ?_
  refine g_ite (fun hc1 => ?_) (fun hc1 => ?_)
  · refine g_look (tgt := 32) (off := 28) (dk D_X5_cut 2 rfl) (by decide +kernel) (by rw [hc1] <;> decide +kernel) rfl ?_
    refine g_iload_n (dk D_X5_cut 3 rfl) rfl ?_
    refine g_i2b (dk D_X5_cut 4 rfl) ?_
    exact g_ireturn rfl rfl Sx.rf rfl (by decide) (by decide) (dk D_X5_cut 5 rfl)
  refine g_ite (fun hc2 => ?_) (fun hc2 => ?_)
  · refine g_look (tgt := 35) (off := 31) (dk D_X5_cut 2 rfl) (by decide +kernel) (by rw [hc2] <;> decide +kernel) rfl ?_
    refine g_iload_n (dk D_X5_cut 6 rfl) rfl ?_
    refine g_i2s (dk D_X5_cut 7 rfl) ?_
    exact g_ireturn rfl rfl Sx.rf rfl (by decide) (by decide) (dk D_X5_cut 8 rfl)
  refine g_look (tgt := 38) (dk D_X5_cut 2 rfl) (by decide +kernel) (look_out2 (a := (0 : Int32)) (b := (1 : Int32)) rfl rfl hc1 hc2) rfl ?_
  refine g_iload_n (dk D_X5_cut 9 rfl) rfl ?_
  exact g_ireturn rfl rfl Sx.rf rfl (by decide) (by decide) (dk D_X5_cut 10 rfl)
def t_X5_cut (I : II) (a0 : Nat) (x1 : Int32) : Int32 :=
  if (I a0 1) = (0 : Int32) then ((x1).toInt8.toInt32) else (if (I a0 1) = (1 : Int32) then ((x1).toInt16.toInt32) else x1)
theorem ft_X5_cut (fu : Nat) (S : Sk) (I0 : II) (a0 : Nat) (x1 : Int32) : f_X5_cut fu S I0 a0 x1 = some (t_X5_cut I0 a0 x1) := by
  simp only [f_X5_cut, t_X5_cut, lt, apply_ite some]
theorem c_X5_cut {E : EV} (S0 : Sk) (I0 : II) (a0 : Nat) (x1 : Int32) (ht0 : tyO S0 5 a0) : MX E yX5_cut i_X5_cut S0 I0 [vA (a0 + 1), vI x1] (po_X5_cut S0 I0 (t_X5_cut I0 a0 x1)) :=
  MX.of (ft_X5_cut 0 S0 I0 a0 x1) (by decide) rfl rfl (Nat.le_of_ble_eq_true rfl) (gg_X5_cut 0 S0 I0 a0 x1 ht0)
theorem cl_RX5_32 : CV0 RX5 32 yX5_holds i_X5_holds 2 5 := ⟨⟨(gm 362 (by decide +kernel) (by decide +kernel)), (gm 71 (by decide +kernel) (by decide +kernel)), ((gm 365 (by decide +kernel) (by decide +kernel))), by decide +kernel, by decide +kernel, by decide +kernel⟩, ⟨(gm 363 (by decide +kernel) (by decide +kernel)), (gm 364 (by decide +kernel) (by decide +kernel))⟩, rfl, by decide⟩
def tb_X5_rowFault : List (Nat × Instr × Nat) := [(0, .aload_n 0, 1), (1, .getfield 9, 3), (4, .ifCond .ne 5, 3), (7, .iconst 1, 1), (8, .ireturn, 1), (9, .aload_n 0, 1), (10, .getfield 15, 3), (13, .iload_n 1, 1), (14, .if_icmp .eq 5, 3), (17, .iconst 2, 1), (18, .ireturn, 1), (19, .iload_n 3, 1), (20, .ifCond .ge 5, 3), (23, .iconst 4, 1), (24, .ireturn, 1), (25, .aload_n 0, 1), (26, .iload_n 2, 1), (27, .iload_n 3, 1), (28, .i2l, 1), (29, .iload 4, 2), (31, .i2l, 1), (32, .lmul, 1), (33, .invokevirtual 32, 3), (36, .ifCond .eq 7, 3), (39, .iconst 0, 1), (40, .goto 4, 3), (43, .iconst 3, 1), (44, .ireturn, 1)]
def i_X5_rowFault : MI := (RX5, cX5_rowFault, 5, (some .int), "rowFault", { frames := 1, cells := 0, slots := 0, locals := 23 })
theorem D_X5_rowFault : tbOK (i_X5_rowFault).2.1 tb_X5_rowFault := by show ∀ q ∈ tb_X5_rowFault, decode cX5_rowFault q.1 = .ok (q.2.1, q.2.2); decide +kernel
def po_X5_rowFault (S : Sk) (I : II) (r : Int32) : Option LV × Sk × II := (some (vI r), S, I)
def f_X5_rowFault (fu : Nat) (S : Sk) (I : II) (a0 : Nat) (x1 : Int32) (x2 : Int32) (x3 : Int32) (x4 : Int32) : Option (Int32) :=
  if (I a0 0) = 0 then some ((1 : Int32)) else if (I a0 1) = x1 then if 0 ≤ x3 then if (t_X5_holds I a0 x2 (x3.toInt64 * x4.toInt64)) = 0 then some ((3 : Int32)) else some ((0 : Int32)) else some ((4 : Int32)) else some ((2 : Int32))
set_option maxRecDepth 100000 in
set_option maxHeartbeats 4000000 in
theorem gg_X5_rowFault {E : EV} (fu : Nat) (S0 : Sk) (I0 : II) (a0 : Nat) (x1 : Int32) (x2 : Int32) (x3 : Int32) (x4 : Int32) (ht0 : tyO S0 5 a0) : GG E i_X5_rowFault (enM E i_X5_rowFault S0 (po_X5_rowFault S0 I0)) S0 I0 (0, 0) 0 [(0, vA (a0 + 1)), (1, vI x1), (2, vI x2), (3, vI x3), (4, vI x4)] [] (f_X5_rowFault fu S0 I0 a0 x1 x2 x3 x4) := by
  unfold f_X5_rowFault
  refine g_aload_n (dk D_X5_rowFault 0 rfl) rfl ?_
  refine g_getIt fl_RX5_9 (by decide) ht0 (dk D_X5_rowFault 1 rfl) ?_
  refine g_if_ne (tgt := 9) (dk D_X5_rowFault 2 rfl) rfl (fun hc1 => ?_) (fun hc1 => ?_)
  · refine g_aload_n (dk D_X5_rowFault 5 rfl) rfl ?_
    refine g_getIt fl_RX5_15 (by decide) ht0 (dk D_X5_rowFault 6 rfl) ?_
    refine g_iload_n (dk D_X5_rowFault 7 rfl) rfl ?_
    refine g_icmp_eq (tgt := 19) (dk D_X5_rowFault 8 rfl) rfl (fun hc2 => ?_) (fun hc2 => ?_)
    · refine g_iload_n (dk D_X5_rowFault 11 rfl) rfl ?_
      refine g_if_ge (tgt := 25) (dk D_X5_rowFault 12 rfl) rfl (fun hc3 => ?_) (fun hc3 => ?_)
      · refine g_aload_n (dk D_X5_rowFault 15 rfl) rfl ?_
        refine g_iload_n (dk D_X5_rowFault 16 rfl) rfl ?_
        refine g_iload_n (dk D_X5_rowFault 17 rfl) rfl ?_
        refine g_i2l (dk D_X5_rowFault 18 rfl) ?_
        refine g_iload (dk D_X5_rowFault 19 rfl) rfl ?_
        refine g_i2l (dk D_X5_rowFault 20 rfl) ?_
        refine g_lmul (dk D_X5_rowFault 21 rfl) ?_
        refine h_callVt (st := []) (c_X5_holds (E := E) S0 I0 a0 x2 (x3.toInt64 * x4.toInt64) (ht0)) cl_RX5_32 ht0 rfl rfl (by decide) (Nat.le_of_ble_eq_true rfl) (dk D_X5_rowFault 22 rfl) ?_
        refine g_if_eq (tgt := 43) (dk D_X5_rowFault 23 rfl) rfl (fun hc5 => ?_) (fun hc5 => ?_)
        · refine g_iconst (v := (3 : Int32)) (dk D_X5_rowFault 26 rfl) rfl ?_
          exact g_ireturn rfl rfl Sx.rf rfl (by decide) (by decide) (dk D_X5_rowFault 27 rfl)
        · refine g_iconst (v := (0 : Int32)) (dk D_X5_rowFault 24 rfl) rfl ?_
          refine g_goto (tgt := 44) (dk D_X5_rowFault 25 rfl) rfl ?_
          exact g_ireturn rfl rfl Sx.rf rfl (by decide) (by decide) (dk D_X5_rowFault 27 rfl)
      · refine g_iconst (v := (4 : Int32)) (dk D_X5_rowFault 13 rfl) rfl ?_
        exact g_ireturn rfl rfl Sx.rf rfl (by decide) (by decide) (dk D_X5_rowFault 14 rfl)
    · refine g_iconst (v := (2 : Int32)) (dk D_X5_rowFault 9 rfl) rfl ?_
      exact g_ireturn rfl rfl Sx.rf rfl (by decide) (by decide) (dk D_X5_rowFault 10 rfl)
  · refine g_iconst (v := (1 : Int32)) (dk D_X5_rowFault 3 rfl) rfl ?_
    exact g_ireturn rfl rfl Sx.rf rfl (by decide) (by decide) (dk D_X5_rowFault 4 rfl)
def t_X5_rowFault (I : II) (a0 : Nat) (x1 : Int32) (x2 : Int32) (x3 : Int32) (x4 : Int32) : Int32 :=
  if (I a0 0) = 0 then (1 : Int32) else if (I a0 1) = x1 then if 0 ≤ x3 then if (t_X5_holds I a0 x2 (x3.toInt64 * x4.toInt64)) = 0 then (3 : Int32) else (0 : Int32) else (4 : Int32) else (2 : Int32)
theorem ft_X5_rowFault (fu : Nat) (S : Sk) (I0 : II) (a0 : Nat) (x1 : Int32) (x2 : Int32) (x3 : Int32) (x4 : Int32) : f_X5_rowFault fu S I0 a0 x1 x2 x3 x4 = some (t_X5_rowFault I0 a0 x1 x2 x3 x4) := by
  simp only [f_X5_rowFault, t_X5_rowFault, lt, apply_ite some]
theorem c_X5_rowFault {E : EV} (S0 : Sk) (I0 : II) (a0 : Nat) (x1 : Int32) (x2 : Int32) (x3 : Int32) (x4 : Int32) (ht0 : tyO S0 5 a0) : MX E yX5_rowFault i_X5_rowFault S0 I0 [vA (a0 + 1), vI x1, vI x2, vI x3, vI x4] (po_X5_rowFault S0 I0 (t_X5_rowFault I0 a0 x1 x2 x3 x4)) :=
  MX.of (ft_X5_rowFault 0 S0 I0 a0 x1 x2 x3 x4) (by decide) rfl rfl (Nat.le_of_ble_eq_true rfl) (gg_X5_rowFault 0 S0 I0 a0 x1 x2 x3 x4 ht0)
def tb_J7_checkLength_df160 : List (Nat × Instr × Nat) := [(0, .iload_n 1, 1), (1, .iload_n 0, 1), (2, .if_icmp .ge 35, 3), (5, .new 43, 3), (8, .dup, 1), (9, .new 45, 3), (12, .dup, 1), (13, .invokespecial 47, 3), (16, .iload_n 0, 1), (17, .invokevirtual 54, 3), (20, .ldc_w 337, 3), (23, .invokevirtual 50, 3), (26, .iload_n 1, 1), (27, .invokevirtual 54, 3), (30, .invokevirtual 61, 3), (33, .invokespecial 65, 3), (36, .athrow, 1), (37, .return_, 1)]
def i_J7_checkLength_df160 : MI := (RJ7, cJ7_checkLength_df160, 2, none, "checkLength", { frames := 0, cells := 0, slots := 0, locals := 0 })
theorem D_J7_checkLength_df160 : tbOK (i_J7_checkLength_df160).2.1 tb_J7_checkLength_df160 := by show ∀ q ∈ tb_J7_checkLength_df160, decode cJ7_checkLength_df160 q.1 = .ok (q.2.1, q.2.2); decide +kernel
def po_J7_checkLength_df160 (S : Sk) (I : II) (r : Unit) : Option LV × Sk × II := (none, S, I)
def f_J7_checkLength_df160 (fu : Nat) (S : Sk) (I : II) (x0 : Int32) (x1 : Int32) : Option (Unit) :=
  if x0 ≤ x1 then some (()) else none
set_option maxRecDepth 100000 in
set_option maxHeartbeats 4000000 in
theorem gg_J7_checkLength_df160 {E : EV} (fu : Nat) (S0 : Sk) (I0 : II) (x0 : Int32) (x1 : Int32) : GG E i_J7_checkLength_df160 (enM E i_J7_checkLength_df160 S0 (po_J7_checkLength_df160 S0 I0)) S0 I0 (0, 0) 0 [(0, vI x0), (1, vI x1)] [] (f_J7_checkLength_df160 fu S0 I0 x0 x1) := by
  unfold f_J7_checkLength_df160
  refine g_iload_n (dk D_J7_checkLength_df160 0 rfl) rfl ?_
  refine g_iload_n (dk D_J7_checkLength_df160 1 rfl) rfl ?_
  refine g_icmp_ge (tgt := 37) (dk D_J7_checkLength_df160 2 rfl) rfl (fun hc1 => ?_) (fun hc1 => ?_)
  · exact g_return rfl rfl Sx.rf rfl (by decide) (by decide) (dk D_J7_checkLength_df160 17 rfl)
  · exact g_none
theorem c_J7_checkLength_df160 {E : EV} (fu : Nat) (S0 : Sk) (I0 : II) (x0 : Int32) (x1 : Int32) (r : Unit) (h : f_J7_checkLength_df160 fu S0 I0 x0 x1 = some r) : MX E yJ7_checkLength_df160 i_J7_checkLength_df160 S0 I0 [vI x0, vI x1] (po_J7_checkLength_df160 S0 I0 r) :=
  MX.of h (by decide) rfl rfl (Nat.le_of_ble_eq_true rfl) (gg_J7_checkLength_df160 fu S0 I0 x0 x1)
theorem cl_RJ7_343 : CS0 RJ7 343 yJ7_checkLength_df160 i_J7_checkLength_df160 2 := ⟨⟨(gm 380 (by decide +kernel) (by decide +kernel)), (gm 74 (by decide +kernel) (by decide +kernel)), (gm 382 (by decide +kernel) (by decide +kernel)), by decide +kernel, by decide +kernel, by decide +kernel⟩, (gm 381 (by decide +kernel) (by decide +kernel))⟩
theorem lk_RJ7_304 : Cond.methodLink RJ7 304 Lib.Math.min.name ∈ lw_good := (gm 383 (by decide +kernel) (by decide +kernel))
theorem lk_RJ7_150 : Cond.methodLink RJ7 150 arraycopyName ∈ lw_good := (gm 386 (by decide +kernel) (by decide +kernel))
def tb_J7_copyOfRangeInt_feecc : List (Nat × Instr × Nat) := [(0, .iload_n 1, 1), (1, .iload_n 2, 1), (2, .invokestatic 343, 3), (5, .iload_n 2, 1), (6, .iload_n 1, 1), (7, .isub, 1), (8, .istore_n 3, 1), (9, .iload_n 3, 1), (10, .newarray .int, 2), (12, .astore 4, 2), (14, .aload_n 0, 1), (15, .iload_n 1, 1), (16, .aload 4, 2), (18, .iconst 0, 1), (19, .aload_n 0, 1), (20, .arraylength, 1), (21, .iload_n 1, 1), (22, .isub, 1), (23, .iload_n 3, 1), (24, .invokestatic 304, 3), (27, .invokestatic 150, 3), (30, .aload 4, 2), (32, .areturn, 1)]
def i_J7_copyOfRangeInt_feecc : MI := (RJ7, cJ7_copyOfRangeInt_feecc, 5, (some (.array .int)), "copyOfRangeInt", { frames := 1, cells := 1, slots := 60, locals := 80 })
theorem D_J7_copyOfRangeInt_feecc : tbOK (i_J7_copyOfRangeInt_feecc).2.1 tb_J7_copyOfRangeInt_feecc := by show ∀ q ∈ tb_J7_copyOfRangeInt_feecc, decode cJ7_copyOfRangeInt_feecc q.1 = .ok (q.2.1, q.2.2); decide +kernel
theorem rt_J7_copyOfRangeInt_feecc : rtag (i_J7_copyOfRangeInt_feecc).2.2.2.1 = 100 := by decide +kernel
def po_J7_copyOfRangeInt_feecc (S : Sk) (I : II) (r : Nat × Sk × II) : Option LV × Sk × II := (some (vA r.1), r.2.1, r.2.2)
def f_J7_copyOfRangeInt_feecc (fu : Nat) (S : Sk) (I : II) (r0 : Nat) (x1 : Int32) (x2 : Int32) : Option (Nat × Sk × II) :=
  (f_J7_checkLength_df160 fu S I x1 x2).bind fun q1 => (lt (x2 - x1) fun x3_4 => (gd (¬ x3_4 < 0 ∧ nx x3_4 ≤ 60) (lt (nwS S 100 (nx x3_4)) fun S6 => (lt (nwI S I) fun I7 => (gd (r0 ≠ 0) (gd (inC S6 r0 x1 (S.2.2.2 + 1) (0 : Int32) (jmin (((S6.2.2.1 (r0 - 1)).toInt32) - x1) x3_4)) (lt (cpI I7 r0 x1 (S.2.2.2 + 1) (0 : Int32) (jmin (((S6.2.2.1 (r0 - 1)).toInt32) - x1) x3_4)) fun I14 => (some (((S.2.2.2 + 1), S6, I14))))))))))
set_option maxRecDepth 100000 in
set_option maxHeartbeats 4000000 in
theorem gg_J7_copyOfRangeInt_feecc {E : EV} (fu : Nat) (S0 : Sk) (I0 : II) (r0 : Nat) (x1 : Int32) (x2 : Int32) (h_r0 : tyR S0 100 r0) : GG E i_J7_copyOfRangeInt_feecc (enM E i_J7_copyOfRangeInt_feecc S0 (po_J7_copyOfRangeInt_feecc S0 I0)) S0 I0 (0, 0) 0 [(0, vA r0), (1, vI x1), (2, vI x2)] [] (f_J7_copyOfRangeInt_feecc fu S0 I0 r0 x1 x2) := by
  unfold f_J7_copyOfRangeInt_feecc
  refine g_iload_n (dk D_J7_copyOfRangeInt_feecc 0 rfl) rfl ?_
  refine g_iload_n (dk D_J7_copyOfRangeInt_feecc 1 rfl) rfl ?_
  refine g_bind (fun q1 hq2 => ?_)
  refine h_callS (st := []) (c_J7_checkLength_df160 (E := E) fu S0 I0 x1 x2 q1 hq2) cl_RJ7_343 rfl rfl ⟨⟨by decide, by decide⟩, ⟨rfl, rfl⟩, by show 0 ≤ 1; omega, by show 0 ≤ 60; omega⟩ (Nat.le_of_ble_eq_true rfl) (dk D_J7_copyOfRangeInt_feecc 2 rfl) ?_
  refine g_iload_n (dk D_J7_copyOfRangeInt_feecc 3 rfl) rfl ?_
  refine g_iload_n (dk D_J7_copyOfRangeInt_feecc 4 rfl) rfl ?_
  refine g_isub (dk D_J7_copyOfRangeInt_feecc 5 rfl) ?_
  refine g_ltV (fun x3_4 ex3_4 => ?_)
  refine g_istore_n (L' := [(0, vA r0), (1, vI x1), (2, vI x2), (3, vI x3_4)]) (dk D_J7_copyOfRangeInt_feecc 6 rfl) (Nat.le_of_ble_eq_true rfl) rfl ?_
  refine g_iload_n (dk D_J7_copyOfRangeInt_feecc 7 rfl) rfl ?_
  refine g_gd (fun hg5 => ?_)
  refine g_newarray hg5.1 (Nat.le_trans hg5.2 (by decide)) (by show 0 + 1 ≤ 1; omega) (by have := hg5.2; show 0 + nx x3_4 ≤ 60; omega) lk_arr (dk D_J7_copyOfRangeInt_feecc 8 rfl) ?_
  refine g_wide (cs' := (1, 60)) (by show 0 + 1 ≤ 1; omega) (by have := hg5.2; show 0 + nx x3_4 ≤ 60; omega) ?_
  refine g_ltS (fun S6 eS6 => ?_)
  refine g_ltI (fun I7 eI7 => ?_)
  have hx8 : Sx S0 S6 := eS6 ▸ nwS_x
  have ht9 := h_r0.x hx8
  have hsx10 := Sx.tr Sx.rf hx8
  have ht11 : tyR S6 100 (S0.2.2.2 + 1) := eS6 ▸ nwS_ty.R
  refine g_astore (L' := [(0, vA r0), (1, vI x1), (2, vI x2), (3, vI x3_4), (4, vA (S0.2.2.2 + 1))]) (dk D_J7_copyOfRangeInt_feecc 9 rfl) (Nat.le_of_ble_eq_true rfl) rfl ?_
  refine g_aload_n (dk D_J7_copyOfRangeInt_feecc 10 rfl) rfl ?_
  refine g_iload_n (dk D_J7_copyOfRangeInt_feecc 11 rfl) rfl ?_
  refine g_aload (dk D_J7_copyOfRangeInt_feecc 12 rfl) rfl ?_
  refine g_iconst (v := (0 : Int32)) (dk D_J7_copyOfRangeInt_feecc 13 rfl) rfl ?_
  refine g_aload_n (dk D_J7_copyOfRangeInt_feecc 14 rfl) rfl ?_
  refine g_gd (fun hn12 => ?_)
  refine g_alen (t := 0) ht9 hn12 rfl (dk D_J7_copyOfRangeInt_feecc 15 rfl) ?_
  refine g_iload_n (dk D_J7_copyOfRangeInt_feecc 16 rfl) rfl ?_
  refine g_isub (dk D_J7_copyOfRangeInt_feecc 17 rfl) ?_
  refine g_iload_n (dk D_J7_copyOfRangeInt_feecc 18 rfl) rfl ?_
  refine g_mmin lk_RJ7_304 lk_mmin (by decide) (Nat.le_of_ble_eq_true rfl) (by show 1 ≤ 1; omega) (by show 60 ≤ 60; omega) (dk D_J7_copyOfRangeInt_feecc 19 rfl) ?_
  refine g_gd (fun hi13 => ?_)
  refine g_acopy lk_RJ7_150 lk_acp ht9 ht11 hi13 (by decide) (by decide +kernel) (dk D_J7_copyOfRangeInt_feecc 20 rfl) ?_
  refine g_ltI (fun I14 eI14 => ?_)
  refine g_aload (dk D_J7_copyOfRangeInt_feecc 21 rfl) rfl ?_
  exact g_areturn rfl rfl hsx10 rfl rt_J7_copyOfRangeInt_feecc ht11 (Or.inr ⟨_, rfl⟩) (by show 1 ≤ 1; omega) (by show 60 ≤ 60; omega) (dk D_J7_copyOfRangeInt_feecc 22 rfl)
theorem c_J7_copyOfRangeInt_feecc {E : EV} (fu : Nat) (S0 : Sk) (I0 : II) (r0 : Nat) (x1 : Int32) (x2 : Int32) (r : Nat × Sk × II) (h : f_J7_copyOfRangeInt_feecc fu S0 I0 r0 x1 x2 = some r) (h_r0 : tyR S0 100 r0) : MX E yJ7_copyOfRangeInt_feecc i_J7_copyOfRangeInt_feecc S0 I0 [vA r0, vI x1, vI x2] (po_J7_copyOfRangeInt_feecc S0 I0 r) :=
  MX.of h (by decide) rfl rfl (Nat.le_of_ble_eq_true rfl) (gg_J7_copyOfRangeInt_feecc fu S0 I0 r0 x1 x2 h_r0)
theorem cl_RJ7_351 : CS0 RJ7 351 yJ7_copyOfRangeInt_feecc i_J7_copyOfRangeInt_feecc 3 := ⟨⟨(gm 377 (by decide +kernel) (by decide +kernel)), (gm 74 (by decide +kernel) (by decide +kernel)), (gm 379 (by decide +kernel) (by decide +kernel)), by decide +kernel, by decide +kernel, by decide +kernel⟩, (gm 378 (by decide +kernel) (by decide +kernel))⟩
theorem lk_RJ7_316 : Cond.methodLink RJ7 316 ⟨"[I", "clone", "()Ljava/lang/Object;"⟩ ∈ lw_good ∧ Cond.sameMethod "[I" "java/lang/Object" "clone" "()Ljava/lang/Object;" ∈ lw_good ∧ Cond.native ⟨"java/lang/Object", "clone", "()Ljava/lang/Object;"⟩ ∈ lw_good ∧ Cond.instanceMethod ⟨"java/lang/Object", "clone", "()Ljava/lang/Object;"⟩ ∈ lw_good ∧ Cond.selects "[I" ⟨"[I", "clone", "()Ljava/lang/Object;"⟩ ⟨"java/lang/Object", "clone", "()Ljava/lang/Object;"⟩ ∈ lw_good := ⟨(gm 389 (by decide +kernel) (by decide +kernel)), (gm 390 (by decide +kernel) (by decide +kernel)), (gm 391 (by decide +kernel) (by decide +kernel)), (gm 392 (by decide +kernel) (by decide +kernel)), (gm 393 (by decide +kernel) (by decide +kernel))⟩
theorem lk_RJ7_317 : Cond.classLink RJ7 317 "[I" ∈ lw_good := (gm 395 (by decide +kernel) (by decide +kernel))
def tb_J7_copyOfRange_feecc : List (Nat × Instr × Nat) := [(0, .iload_n 1, 1), (1, .ifCond .ne 9, 3), (4, .iload_n 2, 1), (5, .aload_n 0, 1), (6, .arraylength, 1), (7, .if_icmp .eq 10, 3), (10, .aload_n 0, 1), (11, .iload_n 1, 1), (12, .iload_n 2, 1), (13, .invokestatic 351, 3), (16, .areturn, 1), (17, .aload_n 0, 1), (18, .invokevirtual 316, 3), (21, .checkcast 317, 3), (24, .areturn, 1)]
def i_J7_copyOfRange_feecc : MI := (RJ7, cJ7_copyOfRange_feecc, 3, (some (.array .int)), "copyOfRange", { frames := 2, cells := 1, slots := 60, locals := 104 })
theorem D_J7_copyOfRange_feecc : tbOK (i_J7_copyOfRange_feecc).2.1 tb_J7_copyOfRange_feecc := by show ∀ q ∈ tb_J7_copyOfRange_feecc, decode cJ7_copyOfRange_feecc q.1 = .ok (q.2.1, q.2.2); decide +kernel
theorem rt_J7_copyOfRange_feecc : rtag (i_J7_copyOfRange_feecc).2.2.2.1 = 100 := by decide +kernel
def po_J7_copyOfRange_feecc (S : Sk) (I : II) (r : Nat × Sk × II) : Option LV × Sk × II := (some (vA r.1), r.2.1, r.2.2)
def jn_J7_copyOfRange_feecc_10 (fu : Nat) (S : Sk) (I : II) (r0 : Nat) (x1 : Int32) (x2 : Int32) : Option (Nat × Sk × II) :=
  (f_J7_copyOfRangeInt_feecc fu S I r0 x1 x2).bind fun q1 => (some ((q1.1, q1.2.1, q1.2.2)))
def f_J7_copyOfRange_feecc (fu : Nat) (S : Sk) (I : II) (r0 : Nat) (x1 : Int32) (x2 : Int32) : Option (Nat × Sk × II) :=
  if x1 = 0 then gd (r0 ≠ 0) (if x2 = ((S.2.2.1 (r0 - 1)).toInt32) then gd (S.2.2.1 (r0 - 1) ≤ 60) (lt (nwS S 100 (S.2.2.1 (r0 - 1))) fun S11 => (lt (clI S I r0) fun I12 => (some (((S.2.2.2 + 1), S11, I12))))) else jn_J7_copyOfRange_feecc_10 fu S I r0 x1 x2) else jn_J7_copyOfRange_feecc_10 fu S I r0 x1 x2
set_option maxRecDepth 100000 in
set_option maxHeartbeats 4000000 in
theorem gg_J7_copyOfRange_feecc {E : EV} (fu : Nat) (S0 : Sk) (I0 : II) (r0 : Nat) (x1 : Int32) (x2 : Int32) (h_r0 : tyR S0 100 r0) : GG E i_J7_copyOfRange_feecc (enM E i_J7_copyOfRange_feecc S0 (po_J7_copyOfRange_feecc S0 I0)) S0 I0 (0, 0) 0 [(0, vA r0), (1, vI x1), (2, vI x2)] [] (f_J7_copyOfRange_feecc fu S0 I0 r0 x1 x2) := by
  have hj10 : ∀ (S : Sk) (I : II) (h_r0 : tyR S 100 r0) (hsx : Sx S0 S), GG E i_J7_copyOfRange_feecc (enM E i_J7_copyOfRange_feecc S0 (po_J7_copyOfRange_feecc S0 I0)) S I (0, 0) 10 [(0, vA r0), (1, vI x1), (2, vI x2)] [] (jn_J7_copyOfRange_feecc_10 fu S I r0 x1 x2) := by
    intro S I  h_r0 hsx
    unfold jn_J7_copyOfRange_feecc_10
    refine g_aload_n (dk D_J7_copyOfRange_feecc 6 rfl) rfl ?_
    refine g_iload_n (dk D_J7_copyOfRange_feecc 7 rfl) rfl ?_
    refine g_iload_n (dk D_J7_copyOfRange_feecc 8 rfl) rfl ?_
    refine g_bind (fun q1 hq2 => ?_)
    refine g_callS (st := []) (c_J7_copyOfRangeInt_feecc (E := E) fu S I r0 x1 x2 q1 hq2 h_r0) cl_RJ7_351.1 cl_RJ7_351.2 rfl rfl ⟨⟨by decide, by decide⟩, by show 0 + 1 ≤ 1; omega, by show 0 + 60 ≤ 60; omega⟩ (Nat.le_of_ble_eq_true rfl) (dk D_J7_copyOfRange_feecc 9 rfl) (fun hx4 ht3 => ?_)
    refine g_wide (cs' := (1, 60)) (by show 0 + 1 ≤ 1; omega) (by show 0 + 60 ≤ 60; omega) ?_
    have ht5 := h_r0.x hx4
    have hsx6 := Sx.tr hsx hx4
    have ht3 : tyR q1.2.1 100 q1.1 := rt_J7_copyOfRangeInt_feecc ▸ ht3
    exact g_areturn rfl rfl hsx6 rfl rt_J7_copyOfRange_feecc ht3 (Or.inr ⟨_, rfl⟩) (by show 1 ≤ 1; omega) (by show 60 ≤ 60; omega) (dk D_J7_copyOfRange_feecc 10 rfl)
  unfold f_J7_copyOfRange_feecc
  refine g_iload_n (dk D_J7_copyOfRange_feecc 0 rfl) rfl ?_
  refine g_if_ne (tgt := 10) (dk D_J7_copyOfRange_feecc 1 rfl) rfl (fun hc7 => ?_) (fun hc7 => ?_)
  · exact hj10 S0 I0 h_r0 Sx.rf
  · refine g_iload_n (dk D_J7_copyOfRange_feecc 2 rfl) rfl ?_
    refine g_aload_n (dk D_J7_copyOfRange_feecc 3 rfl) rfl ?_
    refine g_gd (fun hn8 => ?_)
    refine g_alen (t := 0) h_r0 hn8 rfl (dk D_J7_copyOfRange_feecc 4 rfl) ?_
    refine g_icmp_eq (tgt := 17) (dk D_J7_copyOfRange_feecc 5 rfl) rfl (fun hc9 => ?_) (fun hc9 => ?_)
    · refine g_aload_n (dk D_J7_copyOfRange_feecc 11 rfl) rfl ?_
      refine g_gd (fun hg10 => ?_)
      refine g_clone lk_RJ7_316 h_r0 hn8 (by decide) (by decide) (by show 0 + 1 ≤ 1; omega) (by show 0 + S0.2.2.1 (r0 - 1) ≤ 60; omega) (dk D_J7_copyOfRange_feecc 12 rfl) ?_
      refine g_wide (cs' := (1, 60)) (by show 0 + 1 ≤ 1; omega) (by show 0 + S0.2.2.1 (r0 - 1) ≤ 60; omega) ?_
      refine g_ltS (fun S11 eS11 => ?_)
      refine g_ltI (fun I12 eI12 => ?_)
      have hx13 : Sx S0 S11 := eS11 ▸ nwS_x
      have ht14 := h_r0.x hx13
      have hsx15 := Sx.tr Sx.rf hx13
      have ht16 : tyR S11 100 (S0.2.2.2 + 1) := eS11 ▸ nwS_ty.R
      refine g_castI lk_RJ7_317 ht16 (Nat.succ_ne_zero _) (dk D_J7_copyOfRange_feecc 13 rfl) ?_
      exact g_areturn rfl rfl hsx15 rfl rt_J7_copyOfRange_feecc ht16 (Or.inr ⟨_, rfl⟩) (by show 1 ≤ 1; omega) (by show 60 ≤ 60; omega) (dk D_J7_copyOfRange_feecc 14 rfl)
    · exact hj10 S0 I0 h_r0 Sx.rf
theorem c_J7_copyOfRange_feecc {E : EV} (fu : Nat) (S0 : Sk) (I0 : II) (r0 : Nat) (x1 : Int32) (x2 : Int32) (r : Nat × Sk × II) (h : f_J7_copyOfRange_feecc fu S0 I0 r0 x1 x2 = some r) (h_r0 : tyR S0 100 r0) : MX E yJ7_copyOfRange_feecc i_J7_copyOfRange_feecc S0 I0 [vA r0, vI x1, vI x2] (po_J7_copyOfRange_feecc S0 I0 r) :=
  MX.of h (by decide) rfl rfl (Nat.le_of_ble_eq_true rfl) (gg_J7_copyOfRange_feecc fu S0 I0 r0 x1 x2 h_r0)
theorem cl_RX5_36 : CS0 RX5 36 yJ7_copyOfRange_feecc i_J7_copyOfRange_feecc 3 := ⟨⟨(gm 374 (by decide +kernel) (by decide +kernel)), (gm 74 (by decide +kernel) (by decide +kernel)), (gm 376 (by decide +kernel) (by decide +kernel)), by decide +kernel, by decide +kernel, by decide +kernel⟩, (gm 375 (by decide +kernel) (by decide +kernel))⟩
def tb_X5_cellsFrom : List (Nat × Instr × Nat) := [(0, .aload_n 0, 1), (1, .getfield 22, 3), (4, .iload_n 1, 1), (5, .iload_n 1, 1), (6, .iload_n 2, 1), (7, .iadd, 1), (8, .invokestatic 36, 3), (11, .areturn, 1)]
def i_X5_cellsFrom : MI := (RX5, cX5_cellsFrom, 3, (some (.array .int)), "cellsFrom", { frames := 3, cells := 1, slots := 60, locals := 126 })
theorem D_X5_cellsFrom : tbOK (i_X5_cellsFrom).2.1 tb_X5_cellsFrom := by show ∀ q ∈ tb_X5_cellsFrom, decode cX5_cellsFrom q.1 = .ok (q.2.1, q.2.2); decide +kernel
theorem rt_X5_cellsFrom : rtag (i_X5_cellsFrom).2.2.2.1 = 100 := by decide +kernel
def po_X5_cellsFrom (S : Sk) (I : II) (r : Nat × Sk × II) : Option LV × Sk × II := (some (vA r.1), r.2.1, r.2.2)
def f_X5_cellsFrom (fu : Nat) (S : Sk) (I : II) (a0 : Nat) (x1 : Int32) (x2 : Int32) : Option (Nat × Sk × II) :=
  (f_J7_copyOfRange_feecc fu S I (S.1 a0 3) x1 (x1 + x2)).bind fun q2 => (some ((q2.1, q2.2.1, q2.2.2)))
set_option maxRecDepth 100000 in
set_option maxHeartbeats 4000000 in
theorem gg_X5_cellsFrom {E : EV} (fu : Nat) (S0 : Sk) (I0 : II) (a0 : Nat) (x1 : Int32) (x2 : Int32) (ht0 : tyO S0 5 a0) : GG E i_X5_cellsFrom (enM E i_X5_cellsFrom S0 (po_X5_cellsFrom S0 I0)) S0 I0 (0, 0) 0 [(0, vA (a0 + 1)), (1, vI x1), (2, vI x2)] [] (f_X5_cellsFrom fu S0 I0 a0 x1 x2) := by
  unfold f_X5_cellsFrom
  refine g_aload_n (dk D_X5_cellsFrom 0 rfl) rfl ?_
  refine g_getAt (t := 100) fl_RX5_22 rfl ht0 (dk D_X5_cellsFrom 1 rfl) (fun ht1 => ?_)
  refine g_iload_n (dk D_X5_cellsFrom 2 rfl) rfl ?_
  refine g_iload_n (dk D_X5_cellsFrom 3 rfl) rfl ?_
  refine g_iload_n (dk D_X5_cellsFrom 4 rfl) rfl ?_
  refine g_iadd (dk D_X5_cellsFrom 5 rfl) ?_
  refine g_bind (fun q2 hq3 => ?_)
  refine g_callS (st := []) (c_J7_copyOfRange_feecc (E := E) fu S0 I0 (S0.1 a0 3) x1 (x1 + x2) q2 hq3 ht1) cl_RX5_36.1 cl_RX5_36.2 rfl rfl ⟨⟨by decide, by decide⟩, by show 0 + 1 ≤ 1; omega, by show 0 + 60 ≤ 60; omega⟩ (Nat.le_of_ble_eq_true rfl) (dk D_X5_cellsFrom 6 rfl) (fun hx5 ht4 => ?_)
  refine g_wide (cs' := (1, 60)) (by show 0 + 1 ≤ 1; omega) (by show 0 + 60 ≤ 60; omega) ?_
  have ht6 := ht1.x hx5
  have ht7 := ht0.x hx5
  have hsx8 := Sx.tr Sx.rf hx5
  have ht4 : tyR q2.2.1 100 q2.1 := rt_J7_copyOfRange_feecc ▸ ht4
  exact g_areturn rfl rfl hsx8 rfl rt_X5_cellsFrom ht4 (Or.inr ⟨_, rfl⟩) (by show 1 ≤ 1; omega) (by show 60 ≤ 60; omega) (dk D_X5_cellsFrom 7 rfl)
theorem c_X5_cellsFrom {E : EV} (fu : Nat) (S0 : Sk) (I0 : II) (a0 : Nat) (x1 : Int32) (x2 : Int32) (r : Nat × Sk × II) (h : f_X5_cellsFrom fu S0 I0 a0 x1 x2 = some r) (ht0 : tyO S0 5 a0) : MX E yX5_cellsFrom i_X5_cellsFrom S0 I0 [vA (a0 + 1), vI x1, vI x2] (po_X5_cellsFrom S0 I0 r) :=
  MX.of h (by decide) rfl rfl (Nat.le_of_ble_eq_true rfl) (gg_X5_cellsFrom fu S0 I0 a0 x1 x2 ht0)
theorem lk_RX6_1 : Cond.methodLink RX6 1 Lib.objectInit ∈ lw_good := (gm 730 (by decide +kernel) (by decide +kernel))
theorem fl_RX6_7 : FL RX6 7 6 0 := ⟨RX6, TX6, 3, rfl, by decide, rfl, by decide, (gm 731 (by decide +kernel) (by decide +kernel)), inG6⟩
theorem fp_6_0 : FP 6 0 (tyX6 0) true := ⟨RX6, TX6, 3, tyX6, rfl, tyX6_ok, nmX6, rfl, rfl, rfl⟩
theorem ff_RX6 : FI RX6 "<init>" 6 true := fun _ => ⟨rfl, fun q h => by cases h; rfl⟩
theorem fl_RX6_13 : FL RX6 13 6 1 := ⟨RX6, TX6, 3, rfl, by decide, rfl, by decide, (gm 733 (by decide +kernel) (by decide +kernel)), inG6⟩
theorem fp_6_1 : FP 6 1 (tyX6 1) true := ⟨RX6, TX6, 3, tyX6, rfl, tyX6_ok, nmX6, rfl, rfl, rfl⟩
theorem fl_RX6_16 : FL RX6 16 6 2 := ⟨RX6, TX6, 3, rfl, by decide, rfl, by decide, (gm 735 (by decide +kernel) (by decide +kernel)), inG6⟩
theorem fp_6_2 : FP 6 2 (tyX6 2) true := ⟨RX6, TX6, 3, tyX6, rfl, tyX6_ok, nmX6, rfl, rfl, rfl⟩
def tb_X6_init : List (Nat × Instr × Nat) := [(0, .aload_n 0, 1), (1, .invokespecial 1, 3), (4, .aload_n 0, 1), (5, .iload_n 1, 1), (6, .putfield 7, 3), (9, .aload_n 0, 1), (10, .iload_n 2, 1), (11, .putfield 13, 3), (14, .aload_n 0, 1), (15, .iload_n 3, 1), (16, .putfield 16, 3), (19, .return_, 1)]
def i_X6_init : MI := (RX6, cX6_init, 4, none, "<init>", { frames := 1, cells := 0, slots := 0, locals := 80 })
theorem D_X6_init : tbOK (i_X6_init).2.1 tb_X6_init := by show ∀ q ∈ tb_X6_init, decode cX6_init q.1 = .ok (q.2.1, q.2.2); decide +kernel
def po_X6_init (S : Sk) (I : II) (r : II) : Option LV × Sk × II := (none, S, r)
def f_X6_init (fu : Nat) (S : Sk) (I : II) (a0 : Nat) (x1 : Int32) (x2 : Int32) (x3 : Int32) : Option (II) :=
  lt (upI I a0 0 x1) fun I1 => (lt (upI I1 a0 1 x2) fun I2 => (lt (upI I2 a0 2 x3) fun I3 => (some (I3))))
set_option maxRecDepth 100000 in
set_option maxHeartbeats 4000000 in
theorem gg_X6_init {E : EV} (fu : Nat) (S0 : Sk) (I0 : II) (a0 : Nat) (x1 : Int32) (x2 : Int32) (x3 : Int32) (ht0 : tyO S0 6 a0) : GG E i_X6_init (enM E i_X6_init S0 (po_X6_init S0 I0)) S0 I0 (0, 0) 0 [(0, vA (a0 + 1)), (1, vI x1), (2, vI x2), (3, vI x3)] [] (f_X6_init fu S0 I0 a0 x1 x2 x3) := by
  unfold f_X6_init
  refine g_aload_n (dk D_X6_init 0 rfl) rfl ?_
  refine g_objInit lk_RX6_1 lk_oi lk_oc (Nat.succ_ne_zero _) (by decide) (by rw [wid_sum]; exact Nat.le_of_ble_eq_true rfl) (dk D_X6_init 1 rfl) ?_
  refine g_aload_n (dk D_X6_init 2 rfl) rfl ?_
  refine g_iload_n (dk D_X6_init 3 rfl) rfl ?_
  refine g_putIt fl_RX6_7 fp_6_0 ff_RX6 (by decide) rfl rfl ht0 (dk D_X6_init 4 rfl) ?_
  refine g_ltI (fun I1 eI1 => ?_)
  refine g_aload_n (dk D_X6_init 5 rfl) rfl ?_
  refine g_iload_n (dk D_X6_init 6 rfl) rfl ?_
  refine g_putIt fl_RX6_13 fp_6_1 ff_RX6 (by decide) rfl rfl ht0 (dk D_X6_init 7 rfl) ?_
  refine g_ltI (fun I2 eI2 => ?_)
  refine g_aload_n (dk D_X6_init 8 rfl) rfl ?_
  refine g_iload_n (dk D_X6_init 9 rfl) rfl ?_
  refine g_putIt fl_RX6_16 fp_6_2 ff_RX6 (by decide) rfl rfl ht0 (dk D_X6_init 10 rfl) ?_
  refine g_ltI (fun I3 eI3 => ?_)
  exact g_return rfl rfl Sx.rf rfl (by decide) (by decide) (dk D_X6_init 11 rfl)
theorem c_X6_init {E : EV} (fu : Nat) (S0 : Sk) (I0 : II) (a0 : Nat) (x1 : Int32) (x2 : Int32) (x3 : Int32) (r : II) (h : f_X6_init fu S0 I0 a0 x1 x2 x3 = some r) (ht0 : tyO S0 6 a0) : MX E yX6_init i_X6_init S0 I0 [vA (a0 + 1), vI x1, vI x2, vI x3] (po_X6_init S0 I0 r) :=
  MX.of h (by decide) rfl rfl (Nat.le_of_ble_eq_true rfl) (gg_X6_init fu S0 I0 a0 x1 x2 x3 ht0)
def tb_X6_beats : List (Nat × Instr × Nat) := [(0, .aload_n 0, 1), (1, .getfield 13, 3), (4, .aload_n 1, 1), (5, .getfield 13, 3), (8, .if_icmp .gt 25, 3), (11, .aload_n 0, 1), (12, .getfield 13, 3), (15, .aload_n 1, 1), (16, .getfield 13, 3), (19, .if_icmp .ne 18, 3), (22, .aload_n 0, 1), (23, .getfield 16, 3), (26, .aload_n 1, 1), (27, .getfield 16, 3), (30, .if_icmp .ge 7, 3), (33, .iconst 1, 1), (34, .goto 4, 3), (37, .iconst 0, 1), (38, .ireturn, 1)]
def i_X6_beats : MI := (RX6, cX6_beats, 2, (some .boolean), "beats", { frames := 0, cells := 0, slots := 0, locals := 0 })
theorem D_X6_beats : tbOK (i_X6_beats).2.1 tb_X6_beats := by show ∀ q ∈ tb_X6_beats, decode cX6_beats q.1 = .ok (q.2.1, q.2.2); decide +kernel
def po_X6_beats (S : Sk) (I : II) (r : Int32) : Option LV × Sk × II := (some (vI r), S, I)
def f_X6_beats (fu : Nat) (S : Sk) (I : II) (a0 : Nat) (r1 : Nat) : Option (Int32) :=
  gd (r1 ≠ 0) (if (I (r1 - 1) 1) < (I a0 1) then some ((1 : Int32)) else if (I a0 1) = (I (r1 - 1) 1) then if (I (r1 - 1) 2) ≤ (I a0 2) then some ((0 : Int32)) else some ((1 : Int32)) else some ((0 : Int32)))
set_option maxRecDepth 100000 in
set_option maxHeartbeats 4000000 in
theorem gg_X6_beats {E : EV} (fu : Nat) (S0 : Sk) (I0 : II) (a0 : Nat) (r1 : Nat) (ht0 : tyO S0 6 a0) (h_r1 : tyR S0 6 r1) : GG E i_X6_beats (enM E i_X6_beats S0 (po_X6_beats S0 I0)) S0 I0 (0, 0) 0 [(0, vA (a0 + 1)), (1, vA r1)] [] (f_X6_beats fu S0 I0 a0 r1) := by
  unfold f_X6_beats
  refine g_aload_n (dk D_X6_beats 0 rfl) rfl ?_
  refine g_getIt fl_RX6_13 (by decide) ht0 (dk D_X6_beats 1 rfl) ?_
  refine g_aload_n (dk D_X6_beats 2 rfl) rfl ?_
  refine g_gd (fun hn1 => ?_)
  refine g_getI fl_RX6_13 (by decide) h_r1 hn1 (dk D_X6_beats 3 rfl) ?_
  refine g_icmp_gt (tgt := 33) (dk D_X6_beats 4 rfl) rfl (fun hc2 => ?_) (fun hc2 => ?_)
  · refine g_iconst (v := (1 : Int32)) (dk D_X6_beats 15 rfl) rfl ?_
    refine g_goto (tgt := 38) (dk D_X6_beats 16 rfl) rfl ?_
    exact g_zreturn rfl rfl (Or.inr rfl) Sx.rf rfl (by decide) (by decide) (dk D_X6_beats 18 rfl)
  · refine g_aload_n (dk D_X6_beats 5 rfl) rfl ?_
    refine g_getIt fl_RX6_13 (by decide) ht0 (dk D_X6_beats 6 rfl) ?_
    refine g_aload_n (dk D_X6_beats 7 rfl) rfl ?_
    refine g_getI fl_RX6_13 (by decide) h_r1 hn1 (dk D_X6_beats 8 rfl) ?_
    refine g_icmp_ne (tgt := 37) (dk D_X6_beats 9 rfl) rfl (fun hc3 => ?_) (fun hc3 => ?_)
    · refine g_iconst (v := (0 : Int32)) (dk D_X6_beats 17 rfl) rfl ?_
      exact g_zreturn rfl rfl (Or.inl rfl) Sx.rf rfl (by decide) (by decide) (dk D_X6_beats 18 rfl)
    · refine g_aload_n (dk D_X6_beats 10 rfl) rfl ?_
      refine g_getIt fl_RX6_16 (by decide) ht0 (dk D_X6_beats 11 rfl) ?_
      refine g_aload_n (dk D_X6_beats 12 rfl) rfl ?_
      refine g_getI fl_RX6_16 (by decide) h_r1 hn1 (dk D_X6_beats 13 rfl) ?_
      refine g_icmp_ge (tgt := 37) (dk D_X6_beats 14 rfl) rfl (fun hc4 => ?_) (fun hc4 => ?_)
      · refine g_iconst (v := (0 : Int32)) (dk D_X6_beats 17 rfl) rfl ?_
        exact g_zreturn rfl rfl (Or.inl rfl) Sx.rf rfl (by decide) (by decide) (dk D_X6_beats 18 rfl)
      · refine g_iconst (v := (1 : Int32)) (dk D_X6_beats 15 rfl) rfl ?_
        refine g_goto (tgt := 38) (dk D_X6_beats 16 rfl) rfl ?_
        exact g_zreturn rfl rfl (Or.inr rfl) Sx.rf rfl (by decide) (by decide) (dk D_X6_beats 18 rfl)
theorem c_X6_beats {E : EV} (fu : Nat) (S0 : Sk) (I0 : II) (a0 : Nat) (r1 : Nat) (r : Int32) (h : f_X6_beats fu S0 I0 a0 r1 = some r) (ht0 : tyO S0 6 a0) (h_r1 : tyR S0 6 r1) : MX E yX6_beats i_X6_beats S0 I0 [vA (a0 + 1), vA r1] (po_X6_beats S0 I0 r) :=
  MX.of h (by decide) rfl rfl (Nat.le_of_ble_eq_true rfl) (gg_X6_beats fu S0 I0 a0 r1 ht0 h_r1)
theorem lk_RX7_1 : Cond.methodLink RX7 1 Lib.objectInit ∈ lw_good := (gm 536 (by decide +kernel) (by decide +kernel))
theorem fl_RX7_7 : FL RX7 7 7 0 := ⟨RX7, TX7, 1, rfl, by decide, rfl, by decide, (gm 537 (by decide +kernel) (by decide +kernel)), inG7⟩
theorem fp_7_0 : FP 7 0 (tyX7 0) true := ⟨RX7, TX7, 1, tyX7, rfl, tyX7_ok, nmX7, rfl, rfl, rfl⟩
theorem ff_RX7 : FI RX7 "<init>" 7 true := fun _ => ⟨rfl, fun q h => by cases h; rfl⟩
def tb_X7_init : List (Nat × Instr × Nat) := [(0, .aload_n 0, 1), (1, .invokespecial 1, 3), (4, .aload_n 0, 1), (5, .iconst 4, 1), (6, .newarray .int, 2), (8, .putfield 7, 3), (11, .return_, 1)]
def i_X7_init : MI := (RX7, cX7_init, 1, none, "<init>", { frames := 1, cells := 1, slots := 4, locals := 80 })
theorem D_X7_init : tbOK (i_X7_init).2.1 tb_X7_init := by show ∀ q ∈ tb_X7_init, decode cX7_init q.1 = .ok (q.2.1, q.2.2); decide +kernel
def po_X7_init (S : Sk) (I : II) (r : Sk × II) : Option LV × Sk × II := (none, r.1, r.2)
def f_X7_init (fu : Nat) (S : Sk) (I : II) (a0 : Nat) : Option (Sk × II) :=
  lt (nwS S 100 (nx (4 : Int32))) fun S1 => (lt (nwI S I) fun I2 => (lt (upP S1 a0 0 (S.2.2.2 + 1)) fun S7 => (some ((S7, I2)))))
set_option maxRecDepth 100000 in
set_option maxHeartbeats 4000000 in
theorem gg_X7_init {E : EV} (fu : Nat) (S0 : Sk) (I0 : II) (a0 : Nat) (ht0 : tyO S0 7 a0) : GG E i_X7_init (enM E i_X7_init S0 (po_X7_init S0 I0)) S0 I0 (0, 0) 0 [(0, vA (a0 + 1))] [] (f_X7_init fu S0 I0 a0) := by
  unfold f_X7_init
  refine g_aload_n (dk D_X7_init 0 rfl) rfl ?_
  refine g_objInit lk_RX7_1 lk_oi lk_oc (Nat.succ_ne_zero _) (by decide) (by rw [wid_sum]; exact Nat.le_of_ble_eq_true rfl) (dk D_X7_init 1 rfl) ?_
  refine g_aload_n (dk D_X7_init 2 rfl) rfl ?_
  refine g_iconst (v := (4 : Int32)) (dk D_X7_init 3 rfl) rfl ?_
  refine g_newarray (by decide) (by decide) (by show 0 + 1 ≤ 1; omega) (by show 0 + 4 ≤ 4; omega) lk_arr (dk D_X7_init 4 rfl) ?_
  refine g_wide (cs' := (1, 4)) (by show 0 + 1 ≤ 1; omega) (by show 0 + 4 ≤ 4; omega) ?_
  refine g_ltS (fun S1 eS1 => ?_)
  refine g_ltI (fun I2 eI2 => ?_)
  have hx3 : Sx S0 S1 := eS1 ▸ nwS_x
  have ht4 := ht0.x hx3
  have hsx5 := Sx.tr Sx.rf hx3
  have ht6 : tyR S1 100 (S0.2.2.2 + 1) := eS1 ▸ nwS_ty.R
  refine g_putAt (t := 100) fl_RX7_7 fp_7_0 ff_RX7 rfl (Or.inr ⟨_, rfl⟩) ht6 ht4 (dk D_X7_init 5 rfl) ?_
  refine g_ltS (fun S7 eS7 => ?_)
  have hx8 : Sx S1 S7 := eS7 ▸ upP_x
  have ht9 := ht6.x hx8
  have ht10 := ht4.x hx8
  have hsx11 := Sx.tr hsx5 hx8
  exact g_return rfl rfl hsx11 rfl (by show 1 ≤ 1; omega) (by show 4 ≤ 4; omega) (dk D_X7_init 6 rfl)
theorem c_X7_init {E : EV} (fu : Nat) (S0 : Sk) (I0 : II) (a0 : Nat) (r : Sk × II) (h : f_X7_init fu S0 I0 a0 = some r) (ht0 : tyO S0 7 a0) : MX E yX7_init i_X7_init S0 I0 [vA (a0 + 1)] (po_X7_init S0 I0 r) :=
  MX.of h (by decide) rfl rfl (Nat.le_of_ble_eq_true rfl) (gg_X7_init fu S0 I0 a0 ht0)
def tb_X7_endOfNumber : List (Nat × Instr × Nat) := [(0, .iload_n 1, 1), (1, .istore_n 2, 1), (2, .iload_n 2, 1), (3, .aload_n 0, 1), (4, .arraylength, 1), (5, .if_icmp .ge 32, 3), (8, .iload_n 2, 1), (9, .iload_n 1, 1), (10, .iconst 3, 1), (11, .iadd, 1), (12, .if_icmp .ge 25, 3), (15, .aload_n 0, 1), (16, .iload_n 2, 1), (17, .iaload, 1), (18, .bipush 48, 2), (20, .if_icmp .lt 17, 3), (23, .aload_n 0, 1), (24, .iload_n 2, 1), (25, .iaload, 1), (26, .bipush 57, 2), (28, .if_icmp .gt 9, 3), (31, .iinc 2 1, 3), (34, .goto (-32), 3), (37, .iload_n 2, 1), (38, .ireturn, 1)]
def i_X7_endOfNumber : MI := (RX7, cX7_endOfNumber, 3, (some .int), "endOfNumber", { frames := 0, cells := 0, slots := 0, locals := 0 })
theorem D_X7_endOfNumber : tbOK (i_X7_endOfNumber).2.1 tb_X7_endOfNumber := by show ∀ q ∈ tb_X7_endOfNumber, decode cX7_endOfNumber q.1 = .ok (q.2.1, q.2.2); decide +kernel
def po_X7_endOfNumber (S : Sk) (I : II) (r : Int32) : Option LV × Sk × II := (some (vI r), S, I)
def lp_X7_endOfNumber_2 (fu : Nat) (S : Sk) (I : II) (r0 : Nat) (x1 : Int32) (self2 : Int32 → Option (Int32)) (x2 : Int32) : Option (Int32) :=
  gd (r0 ≠ 0) (if ((S.2.2.1 (r0 - 1)).toInt32) ≤ x2 then some (x2) else if (x1 + (3 : Int32)) ≤ x2 then some (x2) else gd (inb S r0 x2) (if (rd I r0 x2) < (48 : Int32) then some (x2) else if (57 : Int32) < (rd I r0 x2) then some (x2) else self2 (x2 + (1 : Int32))))
def f_X7_endOfNumber (fu : Nat) (S : Sk) (I : II) (r0 : Nat) (x1 : Int32) : Option (Int32) :=
  fix1 (lp_X7_endOfNumber_2 fu S I r0 x1) fu x1
set_option maxRecDepth 100000 in
set_option maxHeartbeats 4000000 in
theorem gg_X7_endOfNumber {E : EV} (fu : Nat) (S0 : Sk) (I0 : II) (r0 : Nat) (x1 : Int32) (h_r0 : tyR S0 100 r0) : GG E i_X7_endOfNumber (enM E i_X7_endOfNumber S0 (po_X7_endOfNumber S0 I0)) S0 I0 (0, 0) 0 [(0, vA r0), (1, vI x1)] [] (f_X7_endOfNumber fu S0 I0 r0 x1) := by
  have hl2 : ∀ (nn : Nat) (x2 : Int32), True → GG E i_X7_endOfNumber (enM E i_X7_endOfNumber S0 (po_X7_endOfNumber S0 I0)) S0 I0 (0, 0) 2 [(0, vA r0), (1, vI x1), (2, vI x2)] [] (fix1 (lp_X7_endOfNumber_2 fu S0 I0 r0 x1) nn x2) := by
    refine g_fix1 (fun _ => S0) (fun _ => I0) (fun x2 => [(0, vA r0), (1, vI x1), (2, vI x2)]) (fun x2 => True) ?_
    intro self2 hself2 x2 hinv
    unfold lp_X7_endOfNumber_2
    refine g_iload_n (dk D_X7_endOfNumber 2 rfl) rfl ?_
    refine g_aload_n (dk D_X7_endOfNumber 3 rfl) rfl ?_
    refine g_gd (fun hn1 => ?_)
    refine g_alen (t := 0) h_r0 hn1 rfl (dk D_X7_endOfNumber 4 rfl) ?_
    refine g_icmp_ge (tgt := 37) (dk D_X7_endOfNumber 5 rfl) rfl (fun hc2 => ?_) (fun hc2 => ?_)
    · refine g_iload_n (dk D_X7_endOfNumber 23 rfl) rfl ?_
      exact g_ireturn rfl rfl Sx.rf rfl (by decide) (by decide) (dk D_X7_endOfNumber 24 rfl)
    · refine g_iload_n (dk D_X7_endOfNumber 6 rfl) rfl ?_
      refine g_iload_n (dk D_X7_endOfNumber 7 rfl) rfl ?_
      refine g_iconst (v := (3 : Int32)) (dk D_X7_endOfNumber 8 rfl) rfl ?_
      refine g_iadd (dk D_X7_endOfNumber 9 rfl) ?_
      refine g_icmp_ge (tgt := 37) (dk D_X7_endOfNumber 10 rfl) rfl (fun hc3 => ?_) (fun hc3 => ?_)
      · refine g_iload_n (dk D_X7_endOfNumber 23 rfl) rfl ?_
        exact g_ireturn rfl rfl Sx.rf rfl (by decide) (by decide) (dk D_X7_endOfNumber 24 rfl)
      · refine g_aload_n (dk D_X7_endOfNumber 11 rfl) rfl ?_
        refine g_iload_n (dk D_X7_endOfNumber 12 rfl) rfl ?_
        refine g_gd (fun hi4 => ?_)
        refine g_iaload h_r0 hi4 (dk D_X7_endOfNumber 13 rfl) ?_
        refine g_bipush (v := (48 : Int32)) (dk D_X7_endOfNumber 14 rfl) rfl ?_
        refine g_icmp_lt (tgt := 37) (dk D_X7_endOfNumber 15 rfl) rfl (fun hc5 => ?_) (fun hc5 => ?_)
        · refine g_iload_n (dk D_X7_endOfNumber 23 rfl) rfl ?_
          exact g_ireturn rfl rfl Sx.rf rfl (by decide) (by decide) (dk D_X7_endOfNumber 24 rfl)
        · refine g_aload_n (dk D_X7_endOfNumber 16 rfl) rfl ?_
          refine g_iload_n (dk D_X7_endOfNumber 17 rfl) rfl ?_
          refine g_iaload h_r0 hi4 (dk D_X7_endOfNumber 18 rfl) ?_
          refine g_bipush (v := (57 : Int32)) (dk D_X7_endOfNumber 19 rfl) rfl ?_
          refine g_icmp_gt (tgt := 37) (dk D_X7_endOfNumber 20 rfl) rfl (fun hc6 => ?_) (fun hc6 => ?_)
          · refine g_iload_n (dk D_X7_endOfNumber 23 rfl) rfl ?_
            exact g_ireturn rfl rfl Sx.rf rfl (by decide) (by decide) (dk D_X7_endOfNumber 24 rfl)
          · refine g_iinc (v := (1 : Int32)) (L' := [(0, vA r0), (1, vI x1), (2, vI (x2 + (1 : Int32)))]) (dk D_X7_endOfNumber 21 rfl) rfl rfl (Nat.le_of_ble_eq_true rfl) rfl ?_
            refine g_goto (tgt := 2) (dk D_X7_endOfNumber 22 rfl) rfl ?_
            exact hself2 (x2 + (1 : Int32)) trivial
  unfold f_X7_endOfNumber
  refine g_iload_n (dk D_X7_endOfNumber 0 rfl) rfl ?_
  refine g_istore_n (L' := [(0, vA r0), (1, vI x1), (2, vI x1)]) (dk D_X7_endOfNumber 1 rfl) (Nat.le_of_ble_eq_true rfl) rfl ?_
  exact hl2 fu x1 trivial
theorem c_X7_endOfNumber {E : EV} (fu : Nat) (S0 : Sk) (I0 : II) (r0 : Nat) (x1 : Int32) (r : Int32) (h : f_X7_endOfNumber fu S0 I0 r0 x1 = some r) (h_r0 : tyR S0 100 r0) : MX E yX7_endOfNumber i_X7_endOfNumber S0 I0 [vA r0, vI x1] (po_X7_endOfNumber S0 I0 r) :=
  MX.of h (by decide) rfl rfl (Nat.le_of_ble_eq_true rfl) (gg_X7_endOfNumber fu S0 I0 r0 x1 h_r0)
def tb_X7_valueOf : List (Nat × Instr × Nat) := [(0, .iconst 0, 1), (1, .istore_n 3, 1), (2, .iload_n 1, 1), (3, .istore 4, 2), (5, .iload 4, 2), (7, .iload_n 2, 1), (8, .if_icmp .ge 22, 3), (11, .bipush 10, 2), (13, .iload_n 3, 1), (14, .imul, 1), (15, .aload_n 0, 1), (16, .iload 4, 2), (18, .iaload, 1), (19, .iadd, 1), (20, .bipush 48, 2), (22, .isub, 1), (23, .istore_n 3, 1), (24, .iinc 4 1, 3), (27, .goto (-22), 3), (30, .iload_n 3, 1), (31, .ireturn, 1)]
def i_X7_valueOf : MI := (RX7, cX7_valueOf, 5, (some .int), "valueOf", { frames := 0, cells := 0, slots := 0, locals := 0 })
theorem D_X7_valueOf : tbOK (i_X7_valueOf).2.1 tb_X7_valueOf := by show ∀ q ∈ tb_X7_valueOf, decode cX7_valueOf q.1 = .ok (q.2.1, q.2.2); decide +kernel
def po_X7_valueOf (S : Sk) (I : II) (r : Int32) : Option LV × Sk × II := (some (vI r), S, I)
def lp_X7_valueOf_5 (fu : Nat) (S : Sk) (I : II) (r0 : Nat) (x2 : Int32) (self5 : Int32 → Int32 → Option (Int32)) (x3 : Int32) (x4 : Int32) : Option (Int32) :=
  if x2 ≤ x4 then some (x3) else gd (inb S r0 x4) (lt ((((10 : Int32) * x3) + (rd I r0 x4)) - (48 : Int32)) fun x3_3 => (self5 x3_3 (x4 + (1 : Int32))))
def f_X7_valueOf (fu : Nat) (S : Sk) (I : II) (r0 : Nat) (x1 : Int32) (x2 : Int32) : Option (Int32) :=
  fix2 (lp_X7_valueOf_5 fu S I r0 x2) fu (0 : Int32) x1
set_option maxRecDepth 100000 in
set_option maxHeartbeats 4000000 in
theorem gg_X7_valueOf {E : EV} (fu : Nat) (S0 : Sk) (I0 : II) (r0 : Nat) (x1 : Int32) (x2 : Int32) (h_r0 : tyR S0 100 r0) : GG E i_X7_valueOf (enM E i_X7_valueOf S0 (po_X7_valueOf S0 I0)) S0 I0 (0, 0) 0 [(0, vA r0), (1, vI x1), (2, vI x2)] [] (f_X7_valueOf fu S0 I0 r0 x1 x2) := by
  have hl5 : ∀ (nn : Nat) (x3 : Int32) (x4 : Int32), True → GG E i_X7_valueOf (enM E i_X7_valueOf S0 (po_X7_valueOf S0 I0)) S0 I0 (0, 0) 5 [(0, vA r0), (2, vI x2), (3, vI x3), (4, vI x4)] [] (fix2 (lp_X7_valueOf_5 fu S0 I0 r0 x2) nn x3 x4) := by
    refine g_fix2 (fun _ _ => S0) (fun _ _ => I0) (fun x3 x4 => [(0, vA r0), (2, vI x2), (3, vI x3), (4, vI x4)]) (fun x3 x4 => True) ?_
    intro self5 hself5 x3 x4 hinv
    unfold lp_X7_valueOf_5
    refine g_iload (dk D_X7_valueOf 4 rfl) rfl ?_
    refine g_iload_n (dk D_X7_valueOf 5 rfl) rfl ?_
    refine g_icmp_ge (tgt := 30) (dk D_X7_valueOf 6 rfl) rfl (fun hc1 => ?_) (fun hc1 => ?_)
    · refine g_iload_n (dk D_X7_valueOf 19 rfl) rfl ?_
      exact g_ireturn rfl rfl Sx.rf rfl (by decide) (by decide) (dk D_X7_valueOf 20 rfl)
    · refine g_bipush (v := (10 : Int32)) (dk D_X7_valueOf 7 rfl) rfl ?_
      refine g_iload_n (dk D_X7_valueOf 8 rfl) rfl ?_
      refine g_imul (dk D_X7_valueOf 9 rfl) ?_
      refine g_aload_n (dk D_X7_valueOf 10 rfl) rfl ?_
      refine g_iload (dk D_X7_valueOf 11 rfl) rfl ?_
      refine g_gd (fun hi2 => ?_)
      refine g_iaload h_r0 hi2 (dk D_X7_valueOf 12 rfl) ?_
      refine g_iadd (dk D_X7_valueOf 13 rfl) ?_
      refine g_bipush (v := (48 : Int32)) (dk D_X7_valueOf 14 rfl) rfl ?_
      refine g_isub (dk D_X7_valueOf 15 rfl) ?_
      refine g_ltV (fun x3_3 ex3_3 => ?_)
      refine g_istore_n (L' := [(0, vA r0), (2, vI x2), (3, vI x3_3), (4, vI x4)]) (dk D_X7_valueOf 16 rfl) (Nat.le_of_ble_eq_true rfl) rfl ?_
      refine g_iinc (v := (1 : Int32)) (L' := [(0, vA r0), (2, vI x2), (3, vI x3_3), (4, vI (x4 + (1 : Int32)))]) (dk D_X7_valueOf 17 rfl) rfl rfl (Nat.le_of_ble_eq_true rfl) rfl ?_
      refine g_goto (tgt := 5) (dk D_X7_valueOf 18 rfl) rfl ?_
      exact hself5 x3_3 (x4 + (1 : Int32)) trivial
  unfold f_X7_valueOf
  refine g_iconst (v := (0 : Int32)) (dk D_X7_valueOf 0 rfl) rfl ?_
  refine g_istore_n (L' := [(0, vA r0), (1, vI x1), (2, vI x2), (3, vI (0 : Int32))]) (dk D_X7_valueOf 1 rfl) (Nat.le_of_ble_eq_true rfl) rfl ?_
  refine g_iload_n (dk D_X7_valueOf 2 rfl) rfl ?_
  refine g_istore (L' := [(0, vA r0), (1, vI x1), (2, vI x2), (3, vI (0 : Int32)), (4, vI x1)]) (dk D_X7_valueOf 3 rfl) (Nat.le_of_ble_eq_true rfl) rfl ?_
  refine g_Lp [0, 2, 3, 4] rfl ?_
  exact hl5 fu (0 : Int32) x1 trivial
theorem c_X7_valueOf {E : EV} (fu : Nat) (S0 : Sk) (I0 : II) (r0 : Nat) (x1 : Int32) (x2 : Int32) (r : Int32) (h : f_X7_valueOf fu S0 I0 r0 x1 x2 = some r) (h_r0 : tyR S0 100 r0) : MX E yX7_valueOf i_X7_valueOf S0 I0 [vA r0, vI x1, vI x2] (po_X7_valueOf S0 I0 r) :=
  MX.of h (by decide) rfl rfl (Nat.le_of_ble_eq_true rfl) (gg_X7_valueOf fu S0 I0 r0 x1 x2 h_r0)
theorem cl_RX10_226 : CS0 RX10 226 yX10_isWithin i_X10_isWithin 3 := ⟨⟨(gm 328 (by decide +kernel) (by decide +kernel)), (gm 66 (by decide +kernel) (by decide +kernel)), (gm 330 (by decide +kernel) (by decide +kernel)), by decide +kernel, by decide +kernel, by decide +kernel⟩, (gm 329 (by decide +kernel) (by decide +kernel))⟩
def tb_X10_isDay : List (Nat × Instr × Nat) := [(0, .iload_n 0, 1), (1, .iconst 0, 1), (2, .bipush 59, 2), (4, .invokestatic 226, 3), (7, .ireturn, 1)]
def i_X10_isDay : MI := (RX10, cX10_isDay, 1, (some .boolean), "isDay", { frames := 1, cells := 0, slots := 0, locals := 22 })
theorem D_X10_isDay : tbOK (i_X10_isDay).2.1 tb_X10_isDay := by show ∀ q ∈ tb_X10_isDay, decode cX10_isDay q.1 = .ok (q.2.1, q.2.2); decide +kernel
def po_X10_isDay (S : Sk) (I : II) (r : Int32) : Option LV × Sk × II := (some (vI r), S, I)
def f_X10_isDay (fu : Nat) (S : Sk) (I : II) (x0 : Int32) : Option (Int32) :=
  some ((t_X10_isWithin x0 (0 : Int32) (59 : Int32)))
set_option maxRecDepth 100000 in
set_option maxHeartbeats 4000000 in
theorem gg_X10_isDay {E : EV} (fu : Nat) (S0 : Sk) (I0 : II) (x0 : Int32) : GG E i_X10_isDay (enM E i_X10_isDay S0 (po_X10_isDay S0 I0)) S0 I0 (0, 0) 0 [(0, vI x0)] [] (f_X10_isDay fu S0 I0 x0) := by
  unfold f_X10_isDay
  refine g_iload_n (dk D_X10_isDay 0 rfl) rfl ?_
  refine g_iconst (v := (0 : Int32)) (dk D_X10_isDay 1 rfl) rfl ?_
  refine g_bipush (v := (59 : Int32)) (dk D_X10_isDay 2 rfl) rfl ?_
  refine h_callS (st := []) (c_X10_isWithin (E := E) S0 I0 x0 (0 : Int32) (59 : Int32)) cl_RX10_226 rfl rfl (by decide) (Nat.le_of_ble_eq_true rfl) (dk D_X10_isDay 3 rfl) ?_
  exact g_zreturn rfl rfl (z_X10_isWithin x0 (0 : Int32) (59 : Int32)) Sx.rf rfl (by decide) (by decide) (dk D_X10_isDay 4 rfl)
def t_X10_isDay (x0 : Int32) : Int32 :=
  (t_X10_isWithin x0 (0 : Int32) (59 : Int32))
theorem ft_X10_isDay (fu : Nat) (S : Sk) (I0 : II) (x0 : Int32) : f_X10_isDay fu S I0 x0 = some (t_X10_isDay x0) := by
  simp only [f_X10_isDay, t_X10_isDay, lt, apply_ite some]
theorem z_X10_isDay (x0 : Int32) : t_X10_isDay x0 = 0 ∨ t_X10_isDay x0 = 1 := z_X10_isWithin x0 (0 : Int32) (59 : Int32)
theorem c_X10_isDay {E : EV} (S0 : Sk) (I0 : II) (x0 : Int32) : MX E yX10_isDay i_X10_isDay S0 I0 [vI x0] (po_X10_isDay S0 I0 (t_X10_isDay x0)) :=
  MX.of (ft_X10_isDay 0 S0 I0 x0) (by decide) rfl rfl (Nat.le_of_ble_eq_true rfl) (gg_X10_isDay 0 S0 I0 x0)
theorem cl_RX7_28 : CN0 RX7 28 yX10_isDay "RedrawnLines" i_X10_isDay 1 := ⟨⟨(gmN 557 (by decide +kernel) (by decide +kernel)), (gm 66 (by decide +kernel) (by decide +kernel)), (gm 484 (by decide +kernel) (by decide +kernel)), by decide +kernel, by decide +kernel, by decide +kernel⟩, (gm 483 (by decide +kernel) (by decide +kernel))⟩
def tb_X7_isAsTold : List (Nat × Instr × Nat) := [(0, .iload_n 1, 1), (1, .tableswitch 90 0 3 #[31, 90, 47, 57], 31), (32, .aload_n 0, 1), (33, .getfield 7, 3), (36, .iconst 0, 1), (37, .iaload, 1), (38, .iload_n 2, 1), (39, .if_icmp .ge 7, 3), (42, .iconst 1, 1), (43, .goto 4, 3), (46, .iconst 0, 1), (47, .ireturn, 1), (48, .aload_n 0, 1), (49, .getfield 7, 3), (52, .iconst 2, 1), (53, .iaload, 1), (54, .invokestatic 28, 3), (57, .ireturn, 1), (58, .aload_n 0, 1), (59, .getfield 7, 3), (62, .iconst 3, 1), (63, .iaload, 1), (64, .invokestatic 28, 3), (67, .ifCond .eq 22, 3), (70, .aload_n 0, 1), (71, .getfield 7, 3), (74, .iconst 3, 1), (75, .iaload, 1), (76, .aload_n 0, 1), (77, .getfield 7, 3), (80, .iconst 2, 1), (81, .iaload, 1), (82, .if_icmp .lt 7, 3), (85, .iconst 1, 1), (86, .goto 4, 3), (89, .iconst 0, 1), (90, .ireturn, 1), (91, .iconst 1, 1), (92, .ireturn, 1)]
def i_X7_isAsTold : MI := (RX7, cX7_isAsTold, 3, (some .boolean), "isAsTold", { frames := 2, cells := 0, slots := 0, locals := 42 })
theorem D_X7_isAsTold : tbOK (i_X7_isAsTold).2.1 tb_X7_isAsTold := by show ∀ q ∈ tb_X7_isAsTold, decode cX7_isAsTold q.1 = .ok (q.2.1, q.2.2); decide +kernel
def po_X7_isAsTold (S : Sk) (I : II) (r : Int32) : Option LV × Sk × II := (some (vI r), S, I)
def f_X7_isAsTold (fu : Nat) (S : Sk) (I : II) (a0 : Nat) (x1 : Int32) (x2 : Int32) : Option (Int32) :=
  if x1 = (0 : Int32) then gd (inb S (S.1 a0 0) (0 : Int32)) (if x2 ≤ (rd I (S.1 a0 0) (0 : Int32)) then some ((0 : Int32)) else some ((1 : Int32))) else (if x1 = (1 : Int32) then some ((1 : Int32)) else (if x1 = (2 : Int32) then gd (inb S (S.1 a0 0) (2 : Int32)) (some ((t_X10_isDay (rd I (S.1 a0 0) (2 : Int32))))) else (if x1 = (3 : Int32) then gd (inb S (S.1 a0 0) (3 : Int32)) (if (t_X10_isDay (rd I (S.1 a0 0) (3 : Int32))) = 0 then some ((0 : Int32)) else gd (inb S (S.1 a0 0) (2 : Int32)) (if (rd I (S.1 a0 0) (3 : Int32)) < (rd I (S.1 a0 0) (2 : Int32)) then some ((0 : Int32)) else some ((1 : Int32)))) else some ((1 : Int32)))))
set_option maxRecDepth 100000 in
set_option maxHeartbeats 4000000 in
theorem gg_X7_isAsTold {E : EV} (fu : Nat) (S0 : Sk) (I0 : II) (a0 : Nat) (x1 : Int32) (x2 : Int32) (ht0 : tyO S0 7 a0) : GG E i_X7_isAsTold (enM E i_X7_isAsTold S0 (po_X7_isAsTold S0 I0)) S0 I0 (0, 0) 0 [(0, vA (a0 + 1)), (1, vI x1), (2, vI x2)] [] (f_X7_isAsTold fu S0 I0 a0 x1 x2) := by
  unfold f_X7_isAsTold
  refine g_iload_n (dk D_X7_isAsTold 0 rfl) rfl ?_
  refine g_ite (fun hc1 => ?_) (fun hc1 => ?_)
  · refine g_tabIn (tgt := 32) (off := 31) (dk D_X7_isAsTold 1 rfl) (by rw [hc1] <;> decide +kernel) (by rw [hc1] <;> decide +kernel) (by rw [hc1] <;> decide +kernel) rfl ?_
    refine g_aload_n (dk D_X7_isAsTold 2 rfl) rfl ?_
    refine g_getAt (t := 100) fl_RX7_7 rfl ht0 (dk D_X7_isAsTold 3 rfl) (fun ht2 => ?_)
    refine g_iconst (v := (0 : Int32)) (dk D_X7_isAsTold 4 rfl) rfl ?_
    refine g_gd (fun hi3 => ?_)
    refine g_iaload ht2 hi3 (dk D_X7_isAsTold 5 rfl) ?_
    refine g_iload_n (dk D_X7_isAsTold 6 rfl) rfl ?_
    refine g_icmp_ge (tgt := 46) (dk D_X7_isAsTold 7 rfl) rfl (fun hc4 => ?_) (fun hc4 => ?_)
    · refine g_iconst (v := (0 : Int32)) (dk D_X7_isAsTold 10 rfl) rfl ?_
      exact g_zreturn rfl rfl (Or.inl rfl) Sx.rf rfl (by decide) (by decide) (dk D_X7_isAsTold 11 rfl)
    · refine g_iconst (v := (1 : Int32)) (dk D_X7_isAsTold 8 rfl) rfl ?_
      refine g_goto (tgt := 47) (dk D_X7_isAsTold 9 rfl) rfl ?_
      exact g_zreturn rfl rfl (Or.inr rfl) Sx.rf rfl (by decide) (by decide) (dk D_X7_isAsTold 11 rfl)
  refine g_ite (fun hc5 => ?_) (fun hc5 => ?_)
  · refine g_tabIn (tgt := 91) (off := 90) (dk D_X7_isAsTold 1 rfl) (by rw [hc5] <;> decide +kernel) (by rw [hc5] <;> decide +kernel) (by rw [hc5] <;> decide +kernel) rfl ?_
    refine g_iconst (v := (1 : Int32)) (dk D_X7_isAsTold 37 rfl) rfl ?_
    exact g_zreturn rfl rfl (Or.inr rfl) Sx.rf rfl (by decide) (by decide) (dk D_X7_isAsTold 38 rfl)
  refine g_ite (fun hc6 => ?_) (fun hc6 => ?_)
  · refine g_tabIn (tgt := 48) (off := 47) (dk D_X7_isAsTold 1 rfl) (by rw [hc6] <;> decide +kernel) (by rw [hc6] <;> decide +kernel) (by rw [hc6] <;> decide +kernel) rfl ?_
    refine g_aload_n (dk D_X7_isAsTold 12 rfl) rfl ?_
    refine g_getAt (t := 100) fl_RX7_7 rfl ht0 (dk D_X7_isAsTold 13 rfl) (fun ht7 => ?_)
    refine g_iconst (v := (2 : Int32)) (dk D_X7_isAsTold 14 rfl) rfl ?_
    refine g_gd (fun hi8 => ?_)
    refine g_iaload ht7 hi8 (dk D_X7_isAsTold 15 rfl) ?_
    refine h_callSN (st := []) (c_X10_isDay (E := E) S0 I0 (rd I0 (S0.1 a0 0) (2 : Int32))) cl_RX7_28 rfl rfl (by decide) (Nat.le_of_ble_eq_true rfl) (dk D_X7_isAsTold 16 rfl) ?_
    exact g_zreturn rfl rfl (z_X10_isDay (rd I0 (S0.1 a0 0) (2 : Int32))) Sx.rf rfl (by decide) (by decide) (dk D_X7_isAsTold 17 rfl)
  refine g_ite (fun hc10 => ?_) (fun hc10 => ?_)
  · refine g_tabIn (tgt := 58) (off := 57) (dk D_X7_isAsTold 1 rfl) (by rw [hc10] <;> decide +kernel) (by rw [hc10] <;> decide +kernel) (by rw [hc10] <;> decide +kernel) rfl ?_
    refine g_aload_n (dk D_X7_isAsTold 18 rfl) rfl ?_
    refine g_getAt (t := 100) fl_RX7_7 rfl ht0 (dk D_X7_isAsTold 19 rfl) (fun ht11 => ?_)
    refine g_iconst (v := (3 : Int32)) (dk D_X7_isAsTold 20 rfl) rfl ?_
    refine g_gd (fun hi12 => ?_)
    refine g_iaload ht11 hi12 (dk D_X7_isAsTold 21 rfl) ?_
    refine h_callSN (st := []) (c_X10_isDay (E := E) S0 I0 (rd I0 (S0.1 a0 0) (3 : Int32))) cl_RX7_28 rfl rfl (by decide) (Nat.le_of_ble_eq_true rfl) (dk D_X7_isAsTold 22 rfl) ?_
    refine g_if_eq (tgt := 89) (dk D_X7_isAsTold 23 rfl) rfl (fun hc14 => ?_) (fun hc14 => ?_)
    · refine g_iconst (v := (0 : Int32)) (dk D_X7_isAsTold 35 rfl) rfl ?_
      exact g_zreturn rfl rfl (Or.inl rfl) Sx.rf rfl (by decide) (by decide) (dk D_X7_isAsTold 36 rfl)
    · refine g_aload_n (dk D_X7_isAsTold 24 rfl) rfl ?_
      refine g_getAt (t := 100) fl_RX7_7 rfl ht0 (dk D_X7_isAsTold 25 rfl) (fun ht15 => ?_)
      refine g_iconst (v := (3 : Int32)) (dk D_X7_isAsTold 26 rfl) rfl ?_
      refine g_iaload ht11 hi12 (dk D_X7_isAsTold 27 rfl) ?_
      refine g_aload_n (dk D_X7_isAsTold 28 rfl) rfl ?_
      refine g_getAt (t := 100) fl_RX7_7 rfl ht0 (dk D_X7_isAsTold 29 rfl) (fun ht16 => ?_)
      refine g_iconst (v := (2 : Int32)) (dk D_X7_isAsTold 30 rfl) rfl ?_
      refine g_gd (fun hi17 => ?_)
      refine g_iaload ht11 hi17 (dk D_X7_isAsTold 31 rfl) ?_
      refine g_icmp_lt (tgt := 89) (dk D_X7_isAsTold 32 rfl) rfl (fun hc18 => ?_) (fun hc18 => ?_)
      · refine g_iconst (v := (0 : Int32)) (dk D_X7_isAsTold 35 rfl) rfl ?_
        exact g_zreturn rfl rfl (Or.inl rfl) Sx.rf rfl (by decide) (by decide) (dk D_X7_isAsTold 36 rfl)
      · refine g_iconst (v := (1 : Int32)) (dk D_X7_isAsTold 33 rfl) rfl ?_
        refine g_goto (tgt := 90) (dk D_X7_isAsTold 34 rfl) rfl ?_
        exact g_zreturn rfl rfl (Or.inr rfl) Sx.rf rfl (by decide) (by decide) (dk D_X7_isAsTold 36 rfl)
  refine g_tabOut (tgt := 91) (dk D_X7_isAsTold 1 rfl) (tabOut (n := 4) (by decide) (fun k hk => (match k, hk with | 0, _ => hc1 | 1, _ => hc5 | 2, _ => hc6 | 3, _ => hc10 | k + 4, hk => absurd hk (by omega)))) rfl ?_
  refine g_iconst (v := (1 : Int32)) (dk D_X7_isAsTold 37 rfl) rfl ?_
  exact g_zreturn rfl rfl (Or.inr rfl) Sx.rf rfl (by decide) (by decide) (dk D_X7_isAsTold 38 rfl)
theorem c_X7_isAsTold {E : EV} (fu : Nat) (S0 : Sk) (I0 : II) (a0 : Nat) (x1 : Int32) (x2 : Int32) (r : Int32) (h : f_X7_isAsTold fu S0 I0 a0 x1 x2 = some r) (ht0 : tyO S0 7 a0) : MX E yX7_isAsTold i_X7_isAsTold S0 I0 [vA (a0 + 1), vI x1, vI x2] (po_X7_isAsTold S0 I0 r) :=
  MX.of h (by decide) rfl rfl (Nat.le_of_ble_eq_true rfl) (gg_X7_isAsTold fu S0 I0 a0 x1 x2 ht0)
theorem lk_RX7_13 : Cond.fieldLink RX7 13 "RedrawnLines$Text" "SIGNS" "[I" ∈ lw_good := (gm 545 (by decide +kernel) (by decide +kernel))
theorem cl_RX7_16 : CS0 RX7 16 yX7_endOfNumber i_X7_endOfNumber 2 := ⟨⟨(gm 547 (by decide +kernel) (by decide +kernel)), (gm 77 (by decide +kernel) (by decide +kernel)), (gm 549 (by decide +kernel) (by decide +kernel)), by decide +kernel, by decide +kernel, by decide +kernel⟩, (gm 548 (by decide +kernel) (by decide +kernel))⟩
theorem cl_RX7_20 : CS0 RX7 20 yX7_valueOf i_X7_valueOf 3 := ⟨⟨(gm 550 (by decide +kernel) (by decide +kernel)), (gm 77 (by decide +kernel) (by decide +kernel)), (gm 552 (by decide +kernel) (by decide +kernel)), by decide +kernel, by decide +kernel, by decide +kernel⟩, (gm 551 (by decide +kernel) (by decide +kernel))⟩
theorem cl_RX7_24 : CV0 RX7 24 yX7_isAsTold i_X7_isAsTold 2 7 := ⟨⟨(gm 553 (by decide +kernel) (by decide +kernel)), (gm 77 (by decide +kernel) (by decide +kernel)), ((gm 556 (by decide +kernel) (by decide +kernel))), by decide +kernel, by decide +kernel, by decide +kernel⟩, ⟨(gm 555 (by decide +kernel) (by decide +kernel)), (gm 1 (by decide +kernel) (by decide +kernel))⟩, rfl, by decide⟩
def tb_X7_firstFault : List (Nat × Instr × Nat) := [(0, .iconst 0, 1), (1, .istore_n 3, 1), (2, .iconst 0, 1), (3, .istore 4, 2), (5, .iload 4, 2), (7, .getstatic 13, 3), (10, .arraylength, 1), (11, .if_icmp .ge 77, 3), (14, .iload_n 3, 1), (15, .aload_n 1, 1), (16, .arraylength, 1), (17, .if_icmp .ge 15, 3), (20, .aload_n 1, 1), (21, .iload_n 3, 1), (22, .iaload, 1), (23, .getstatic 13, 3), (26, .iload 4, 2), (28, .iaload, 1), (29, .if_icmp .eq 5, 3), (32, .iload_n 3, 1), (33, .ireturn, 1), (34, .iload_n 3, 1), (35, .iconst 1, 1), (36, .iadd, 1), (37, .istore 5, 2), (39, .aload_n 1, 1), (40, .iload 5, 2), (42, .invokestatic 16, 3), (45, .istore_n 3, 1), (46, .iload_n 3, 1), (47, .iload 5, 2), (49, .if_icmp .ne 6, 3), (52, .iload 5, 2), (54, .ireturn, 1), (55, .aload_n 0, 1), (56, .getfield 7, 3), (59, .iload 4, 2), (61, .aload_n 1, 1), (62, .iload 5, 2), (64, .iload_n 3, 1), (65, .invokestatic 20, 3), (68, .iastore, 1), (69, .aload_n 0, 1), (70, .iload 4, 2), (72, .iload_n 2, 1), (73, .invokevirtual 24, 3), (76, .ifCond .ne 6, 3), (79, .iload 5, 2), (81, .ireturn, 1), (82, .iinc 4 1, 3), (85, .goto (-80), 3), (88, .iload_n 3, 1), (89, .aload_n 1, 1), (90, .arraylength, 1), (91, .if_icmp .ne 7, 3), (94, .iconst (-1), 1), (95, .goto 4, 3), (98, .iload_n 3, 1), (99, .ireturn, 1)]
def i_X7_firstFault : MI := (RX7, cX7_firstFault, 6, (some .int), "firstFault", { frames := 3, cells := 0, slots := 0, locals := 64 })
theorem D_X7_firstFault : tbOK (i_X7_firstFault).2.1 tb_X7_firstFault := by show ∀ q ∈ tb_X7_firstFault, decode cX7_firstFault q.1 = .ok (q.2.1, q.2.2); decide +kernel
def po_X7_firstFault (S : Sk) (I : II) (r : Int32 × II) : Option LV × Sk × II := (some (vI r.1), S, r.2)
def lp_X7_firstFault_5 (fu : Nat) (S : Sk) (a0 : Nat) (r1 : Nat) (x2 : Int32) (self5 : Int32 → Int32 → II → Option (Int32 × II)) (x3 : Int32) (x4 : Int32) (I : II) : Option (Int32 × II) :=
  if (4 : Int32) ≤ x4 then gd (r1 ≠ 0) (if x3 = ((S.2.2.1 (r1 - 1)).toInt32) then some ((((-1) : Int32), I)) else some ((x3, I))) else gd (r1 ≠ 0) (if ((S.2.2.1 (r1 - 1)).toInt32) ≤ x3 then some ((x3, I)) else gd (inb S r1 x3) (gd (¬ x4 < 0 ∧ nx x4 < 4) (if (rd I r1 x3) = (sgF (nx x4)) then lt (x3 + (1 : Int32)) fun x5_9 => ((f_X7_endOfNumber fu S I r1 x5_9).bind fun q10 => (if q10 = x5_9 then some ((x5_9, I)) else (f_X7_valueOf fu S I r1 x5_9 q10).bind fun q15 => (gd (inb S (S.1 a0 0) x4) (lt (wr I (S.1 a0 0) x4 q15) fun I19 => ((f_X7_isAsTold fu S I19 a0 x4 x2).bind fun q20 => (if q20 = 0 then some ((x5_9, I19)) else self5 q10 (x4 + (1 : Int32)) I19)))))) else some ((x3, I)))))
def f_X7_firstFault (fu : Nat) (S : Sk) (I : II) (a0 : Nat) (r1 : Nat) (x2 : Int32) : Option (Int32 × II) :=
  fix3 (lp_X7_firstFault_5 fu S a0 r1 x2) fu (0 : Int32) (0 : Int32) I
set_option maxRecDepth 100000 in
set_option maxHeartbeats 4000000 in
theorem gg_X7_firstFault {E : EV} (fu : Nat) (S0 : Sk) (I0 : II) (a0 : Nat) (r1 : Nat) (x2 : Int32) (ht0 : tyO S0 7 a0) (h_r1 : tyR S0 100 r1) : GG E i_X7_firstFault (enM E i_X7_firstFault S0 (po_X7_firstFault S0 I0)) S0 I0 (0, 0) 0 [(0, vA (a0 + 1)), (1, vA r1), (2, vI x2)] [] (f_X7_firstFault fu S0 I0 a0 r1 x2) := by
  have hl5 : ∀ (nn : Nat) (x3 : Int32) (x4 : Int32) (I : II), True → GG E i_X7_firstFault (enM E i_X7_firstFault S0 (po_X7_firstFault S0 I0)) S0 I (0, 0) 5 [(0, vA (a0 + 1)), (1, vA r1), (2, vI x2), (3, vI x3), (4, vI x4)] [] (fix3 (lp_X7_firstFault_5 fu S0 a0 r1 x2) nn x3 x4 I) := by
    refine g_fix3 (fun _ _ _ => S0) (fun x3 x4 I => I) (fun x3 x4 I => [(0, vA (a0 + 1)), (1, vA r1), (2, vI x2), (3, vI x3), (4, vI x4)]) (fun x3 x4 I => True) ?_
    intro self5 hself5 x3 x4 I hinv
    unfold lp_X7_firstFault_5
    refine g_iload (dk D_X7_firstFault 4 rfl) rfl ?_
    refine g_getsS lk_RX7_13 (dk D_X7_firstFault 5 rfl) ?_
    refine g_sglen (dk D_X7_firstFault 6 rfl) ?_
    refine g_icmp_ge (tgt := 88) (dk D_X7_firstFault 7 rfl) rfl (fun hc1 => ?_) (fun hc1 => ?_)
    · refine g_iload_n (dk D_X7_firstFault 51 rfl) rfl ?_
      refine g_aload_n (dk D_X7_firstFault 52 rfl) rfl ?_
      refine g_gd (fun hn2 => ?_)
      refine g_alen (t := 0) h_r1 hn2 rfl (dk D_X7_firstFault 53 rfl) ?_
      refine g_icmp_ne (tgt := 98) (dk D_X7_firstFault 54 rfl) rfl (fun hc3 => ?_) (fun hc3 => ?_)
      · refine g_iload_n (dk D_X7_firstFault 57 rfl) rfl ?_
        exact g_ireturn rfl rfl Sx.rf rfl (by decide) (by decide) (dk D_X7_firstFault 58 rfl)
      · refine g_iconst (v := ((-1) : Int32)) (dk D_X7_firstFault 55 rfl) rfl ?_
        refine g_goto (tgt := 99) (dk D_X7_firstFault 56 rfl) rfl ?_
        exact g_ireturn rfl rfl Sx.rf rfl (by decide) (by decide) (dk D_X7_firstFault 58 rfl)
    · refine g_iload_n (dk D_X7_firstFault 8 rfl) rfl ?_
      refine g_aload_n (dk D_X7_firstFault 9 rfl) rfl ?_
      refine g_gd (fun hn4 => ?_)
      refine g_alen (t := 0) h_r1 hn4 rfl (dk D_X7_firstFault 10 rfl) ?_
      refine g_icmp_ge (tgt := 32) (dk D_X7_firstFault 11 rfl) rfl (fun hc5 => ?_) (fun hc5 => ?_)
      · refine g_iload_n (dk D_X7_firstFault 19 rfl) rfl ?_
        exact g_ireturn rfl rfl Sx.rf rfl (by decide) (by decide) (dk D_X7_firstFault 20 rfl)
      · refine g_aload_n (dk D_X7_firstFault 12 rfl) rfl ?_
        refine g_iload_n (dk D_X7_firstFault 13 rfl) rfl ?_
        refine g_gd (fun hi6 => ?_)
        refine g_iaload h_r1 hi6 (dk D_X7_firstFault 14 rfl) ?_
        refine g_getsS lk_RX7_13 (dk D_X7_firstFault 15 rfl) ?_
        refine g_iload (dk D_X7_firstFault 16 rfl) rfl ?_
        refine g_gd (fun hi7 => ?_)
        refine g_sgld hi7 (dk D_X7_firstFault 17 rfl) ?_
        refine g_icmp_eq (tgt := 34) (dk D_X7_firstFault 18 rfl) rfl (fun hc8 => ?_) (fun hc8 => ?_)
        · refine g_iload_n (dk D_X7_firstFault 21 rfl) rfl ?_
          refine g_iconst (v := (1 : Int32)) (dk D_X7_firstFault 22 rfl) rfl ?_
          refine g_iadd (dk D_X7_firstFault 23 rfl) ?_
          refine g_ltV (fun x5_9 ex5_9 => ?_)
          refine g_istore (L' := [(0, vA (a0 + 1)), (1, vA r1), (2, vI x2), (3, vI x3), (4, vI x4), (5, vI x5_9)]) (dk D_X7_firstFault 24 rfl) (Nat.le_of_ble_eq_true rfl) rfl ?_
          refine g_aload_n (dk D_X7_firstFault 25 rfl) rfl ?_
          refine g_iload (dk D_X7_firstFault 26 rfl) rfl ?_
          refine g_bind (fun q10 hq11 => ?_)
          refine h_callS (st := []) (c_X7_endOfNumber (E := E) fu S0 I r1 x5_9 q10 hq11 h_r1) cl_RX7_16 rfl rfl (by decide) (Nat.le_of_ble_eq_true rfl) (dk D_X7_firstFault 27 rfl) ?_
          refine g_istore_n (L' := [(0, vA (a0 + 1)), (1, vA r1), (2, vI x2), (3, vI q10), (4, vI x4), (5, vI x5_9)]) (dk D_X7_firstFault 28 rfl) (Nat.le_of_ble_eq_true rfl) rfl ?_
          refine g_iload_n (dk D_X7_firstFault 29 rfl) rfl ?_
          refine g_iload (dk D_X7_firstFault 30 rfl) rfl ?_
          refine g_icmp_ne (tgt := 55) (dk D_X7_firstFault 31 rfl) rfl (fun hc13 => ?_) (fun hc13 => ?_)
          · refine g_aload_n (dk D_X7_firstFault 34 rfl) rfl ?_
            refine g_getAt (t := 100) fl_RX7_7 rfl ht0 (dk D_X7_firstFault 35 rfl) (fun ht14 => ?_)
            refine g_iload (dk D_X7_firstFault 36 rfl) rfl ?_
            refine g_aload_n (dk D_X7_firstFault 37 rfl) rfl ?_
            refine g_iload (dk D_X7_firstFault 38 rfl) rfl ?_
            refine g_iload_n (dk D_X7_firstFault 39 rfl) rfl ?_
            refine g_bind (fun q15 hq16 => ?_)
            refine h_callS (st := [vI x4, vA (S0.1 a0 0)]) (c_X7_valueOf (E := E) fu S0 I r1 x5_9 q10 q15 hq16 h_r1) cl_RX7_20 rfl rfl (by decide) (Nat.le_of_ble_eq_true rfl) (dk D_X7_firstFault 40 rfl) ?_
            refine g_gd (fun hi18 => ?_)
            refine g_iastore ht14 hi18 (dk D_X7_firstFault 41 rfl) ?_
            refine g_ltI (fun I19 eI19 => ?_)
            refine g_aload_n (dk D_X7_firstFault 42 rfl) rfl ?_
            refine g_iload (dk D_X7_firstFault 43 rfl) rfl ?_
            refine g_iload_n (dk D_X7_firstFault 44 rfl) rfl ?_
            refine g_bind (fun q20 hq21 => ?_)
            refine h_callVt (st := []) (c_X7_isAsTold (E := E) fu S0 I19 a0 x4 x2 q20 hq21 (ht0)) cl_RX7_24 ht0 rfl rfl (by decide) (Nat.le_of_ble_eq_true rfl) (dk D_X7_firstFault 45 rfl) ?_
            refine g_if_ne (tgt := 82) (dk D_X7_firstFault 46 rfl) rfl (fun hc23 => ?_) (fun hc23 => ?_)
            · refine g_iinc (v := (1 : Int32)) (L' := [(0, vA (a0 + 1)), (1, vA r1), (2, vI x2), (3, vI q10), (4, vI (x4 + (1 : Int32))), (5, vI x5_9)]) (dk D_X7_firstFault 49 rfl) rfl rfl (Nat.le_of_ble_eq_true rfl) rfl ?_
              refine g_goto (tgt := 5) (dk D_X7_firstFault 50 rfl) rfl ?_
              refine g_Lp [0, 1, 2, 3, 4] rfl ?_
              exact hself5 q10 (x4 + (1 : Int32)) I19 trivial
            · refine g_iload (dk D_X7_firstFault 47 rfl) rfl ?_
              exact g_ireturn rfl rfl Sx.rf rfl (by decide) (by decide) (dk D_X7_firstFault 48 rfl)
          · refine g_iload (dk D_X7_firstFault 32 rfl) rfl ?_
            exact g_ireturn rfl rfl Sx.rf rfl (by decide) (by decide) (dk D_X7_firstFault 33 rfl)
        · refine g_iload_n (dk D_X7_firstFault 19 rfl) rfl ?_
          exact g_ireturn rfl rfl Sx.rf rfl (by decide) (by decide) (dk D_X7_firstFault 20 rfl)
  unfold f_X7_firstFault
  refine g_iconst (v := (0 : Int32)) (dk D_X7_firstFault 0 rfl) rfl ?_
  refine g_istore_n (L' := [(0, vA (a0 + 1)), (1, vA r1), (2, vI x2), (3, vI (0 : Int32))]) (dk D_X7_firstFault 1 rfl) (Nat.le_of_ble_eq_true rfl) rfl ?_
  refine g_iconst (v := (0 : Int32)) (dk D_X7_firstFault 2 rfl) rfl ?_
  refine g_istore (L' := [(0, vA (a0 + 1)), (1, vA r1), (2, vI x2), (3, vI (0 : Int32)), (4, vI (0 : Int32))]) (dk D_X7_firstFault 3 rfl) (Nat.le_of_ble_eq_true rfl) rfl ?_
  exact hl5 fu (0 : Int32) (0 : Int32) I0 trivial
theorem c_X7_firstFault {E : EV} (fu : Nat) (S0 : Sk) (I0 : II) (a0 : Nat) (r1 : Nat) (x2 : Int32) (r : Int32 × II) (h : f_X7_firstFault fu S0 I0 a0 r1 x2 = some r) (ht0 : tyO S0 7 a0) (h_r1 : tyR S0 100 r1) : MX E yX7_firstFault i_X7_firstFault S0 I0 [vA (a0 + 1), vA r1, vI x2] (po_X7_firstFault S0 I0 r) :=
  MX.of h (by decide) rfl rfl (Nat.le_of_ble_eq_true rfl) (gg_X7_firstFault fu S0 I0 a0 r1 x2 ht0 h_r1)
