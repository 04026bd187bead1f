theorem cl_RX7_34 : CN0 RX7 34 yX10_isWithin "RedrawnLines" i_X10_isWithin 3 := ⟨⟨(gmN 574 (by decide +kernel) (by decide +kernel)), (gm 66 (by decide +kernel) (by decide +kernel)), (gm 330 (by decide +kernel) (by decide +kernel)), by decide +kernel, by decide +kernel, by decide +kernel⟩, (gm 329 (by decide +kernel) (by decide +kernel))⟩
def tb_X7_isInForce : List (Nat × Instr × Nat) := [(0, .aload_n 0, 1), (1, .getfield 7, 3), (4, .iconst 0, 1), (5, .iaload, 1), (6, .iload_n 1, 1), (7, .if_icmp .ne 26, 3), (10, .iload_n 2, 1), (11, .aload_n 0, 1), (12, .getfield 7, 3), (15, .iconst 2, 1), (16, .iaload, 1), (17, .aload_n 0, 1), (18, .getfield 7, 3), (21, .iconst 3, 1), (22, .iaload, 1), (23, .invokestatic 34, 3), (26, .ifCond .eq 7, 3), (29, .iconst 1, 1), (30, .goto 4, 3), (33, .iconst 0, 1), (34, .ireturn, 1)]
def i_X7_isInForce : MI := (RX7, cX7_isInForce, 3, (some .boolean), "isInForce", { frames := 1, cells := 0, slots := 0, locals := 22 })
theorem D_X7_isInForce : tbOK (i_X7_isInForce).2.1 tb_X7_isInForce := by show ∀ q ∈ tb_X7_isInForce, decode cX7_isInForce q.1 = .ok (q.2.1, q.2.2); decide +kernel
def po_X7_isInForce (S : Sk) (I : II) (r : Int32) : Option LV × Sk × II := (some (vI r), S, I)
def f_X7_isInForce (fu : Nat) (S : Sk) (I : II) (a0 : Nat) (x1 : Int32) (x2 : Int32) : Option (Int32) :=
  gd (inb S (S.1 a0 0) (0 : Int32)) (if (rd I (S.1 a0 0) (0 : Int32)) = x1 then gd (inb S (S.1 a0 0) (2 : Int32)) (gd (inb S (S.1 a0 0) (3 : Int32)) (if (t_X10_isWithin x2 (rd I (S.1 a0 0) (2 : Int32)) (rd I (S.1 a0 0) (3 : Int32))) = 0 then some ((0 : Int32)) else some ((1 : Int32)))) else some ((0 : Int32)))
set_option maxRecDepth 100000 in
set_option maxHeartbeats 4000000 in
theorem gg_X7_isInForce {E : EV} (fu : Nat) (S0 : Sk) (I0 : II) (a0 : Nat) (x1 : Int32) (x2 : Int32) (ht0 : tyO S0 7 a0) : GG E i_X7_isInForce (enM E i_X7_isInForce S0 (po_X7_isInForce S0 I0)) S0 I0 (0, 0) 0 [(0, vA (a0 + 1)), (1, vI x1), (2, vI x2)] [] (f_X7_isInForce fu S0 I0 a0 x1 x2) := by
  unfold f_X7_isInForce
  refine g_aload_n (dk D_X7_isInForce 0 rfl) rfl ?_
  refine g_getAt (t := 100) fl_RX7_7 rfl ht0 (dk D_X7_isInForce 1 rfl) (fun ht1 => ?_)
  refine g_iconst (v := (0 : Int32)) (dk D_X7_isInForce 2 rfl) rfl ?_
  refine g_gd (fun hi2 => ?_)
  refine g_iaload ht1 hi2 (dk D_X7_isInForce 3 rfl) ?_
  refine g_iload_n (dk D_X7_isInForce 4 rfl) rfl ?_
  refine g_icmp_ne (tgt := 33) (dk D_X7_isInForce 5 rfl) rfl (fun hc3 => ?_) (fun hc3 => ?_)
  · refine g_iconst (v := (0 : Int32)) (dk D_X7_isInForce 19 rfl) rfl ?_
    exact g_zreturn rfl rfl (Or.inl rfl) Sx.rf rfl (by decide) (by decide) (dk D_X7_isInForce 20 rfl)
  · refine g_iload_n (dk D_X7_isInForce 6 rfl) rfl ?_
    refine g_aload_n (dk D_X7_isInForce 7 rfl) rfl ?_
    refine g_getAt (t := 100) fl_RX7_7 rfl ht0 (dk D_X7_isInForce 8 rfl) (fun ht4 => ?_)
    refine g_iconst (v := (2 : Int32)) (dk D_X7_isInForce 9 rfl) rfl ?_
    refine g_gd (fun hi5 => ?_)
    refine g_iaload ht1 hi5 (dk D_X7_isInForce 10 rfl) ?_
    refine g_aload_n (dk D_X7_isInForce 11 rfl) rfl ?_
    refine g_getAt (t := 100) fl_RX7_7 rfl ht0 (dk D_X7_isInForce 12 rfl) (fun ht6 => ?_)
    refine g_iconst (v := (3 : Int32)) (dk D_X7_isInForce 13 rfl) rfl ?_
    refine g_gd (fun hi7 => ?_)
    refine g_iaload ht1 hi7 (dk D_X7_isInForce 14 rfl) ?_
    refine h_callSN (st := []) (c_X10_isWithin (E := E) S0 I0 x2 (rd I0 (S0.1 a0 0) (2 : Int32)) (rd I0 (S0.1 a0 0) (3 : Int32))) cl_RX7_34 rfl rfl (by decide) (Nat.le_of_ble_eq_true rfl) (dk D_X7_isInForce 15 rfl) ?_
    refine g_if_eq (tgt := 33) (dk D_X7_isInForce 16 rfl) rfl (fun hc9 => ?_) (fun hc9 => ?_)
    · refine g_iconst (v := (0 : Int32)) (dk D_X7_isInForce 19 rfl) rfl ?_
      exact g_zreturn rfl rfl (Or.inl rfl) Sx.rf rfl (by decide) (by decide) (dk D_X7_isInForce 20 rfl)
    · refine g_iconst (v := (1 : Int32)) (dk D_X7_isInForce 17 rfl) rfl ?_
      refine g_goto (tgt := 34) (dk D_X7_isInForce 18 rfl) rfl ?_
      exact g_zreturn rfl rfl (Or.inr rfl) Sx.rf rfl (by decide) (by decide) (dk D_X7_isInForce 20 rfl)
theorem c_X7_isInForce {E : EV} (fu : Nat) (S0 : Sk) (I0 : II) (a0 : Nat) (x1 : Int32) (x2 : Int32) (r : Int32) (h : f_X7_isInForce fu S0 I0 a0 x1 x2 = some r) (ht0 : tyO S0 7 a0) : MX E yX7_isInForce i_X7_isInForce S0 I0 [vA (a0 + 1), vI x1, vI x2] (po_X7_isInForce S0 I0 r) :=
  MX.of h (by decide) rfl rfl (Nat.le_of_ble_eq_true rfl) (gg_X7_isInForce fu S0 I0 a0 x1 x2 ht0)
def tb_X7_least : List (Nat × Instr × Nat) := [(0, .aload_n 0, 1), (1, .getfield 7, 3), (4, .iconst 1, 1), (5, .iaload, 1), (6, .ireturn, 1)]
def i_X7_least : MI := (RX7, cX7_least, 1, (some .int), "least", { frames := 0, cells := 0, slots := 0, locals := 0 })
theorem D_X7_least : tbOK (i_X7_least).2.1 tb_X7_least := by show ∀ q ∈ tb_X7_least, decode cX7_least q.1 = .ok (q.2.1, q.2.2); decide +kernel
def po_X7_least (S : Sk) (I : II) (r : Int32) : Option LV × Sk × II := (some (vI r), S, I)
def f_X7_least (fu : Nat) (S : Sk) (I : II) (a0 : Nat) : Option (Int32) :=
  gd (inb S (S.1 a0 0) (1 : Int32)) (some ((rd I (S.1 a0 0) (1 : Int32))))
set_option maxRecDepth 100000 in
set_option maxHeartbeats 4000000 in
theorem gg_X7_least {E : EV} (fu : Nat) (S0 : Sk) (I0 : II) (a0 : Nat) (ht0 : tyO S0 7 a0) : GG E i_X7_least (enM E i_X7_least S0 (po_X7_least S0 I0)) S0 I0 (0, 0) 0 [(0, vA (a0 + 1))] [] (f_X7_least fu S0 I0 a0) := by
  unfold f_X7_least
  refine g_aload_n (dk D_X7_least 0 rfl) rfl ?_
  refine g_getAt (t := 100) fl_RX7_7 rfl ht0 (dk D_X7_least 1 rfl) (fun ht1 => ?_)
  refine g_iconst (v := (1 : Int32)) (dk D_X7_least 2 rfl) rfl ?_
  refine g_gd (fun hi2 => ?_)
  refine g_iaload ht1 hi2 (dk D_X7_least 3 rfl) ?_
  exact g_ireturn rfl rfl Sx.rf rfl (by decide) (by decide) (dk D_X7_least 4 rfl)
theorem c_X7_least {E : EV} (fu : Nat) (S0 : Sk) (I0 : II) (a0 : Nat) (r : Int32) (h : f_X7_least fu S0 I0 a0 = some r) (ht0 : tyO S0 7 a0) : MX E yX7_least i_X7_least S0 I0 [vA (a0 + 1)] (po_X7_least S0 I0 r) :=
  MX.of h (by decide) rfl rfl (Nat.le_of_ble_eq_true rfl) (gg_X7_least fu S0 I0 a0 ht0)
theorem lk_RX8_1 : Cond.methodLink RX8 1 Lib.objectInit ∈ lw_good := (gm 613 (by decide +kernel) (by decide +kernel))
theorem fl_RX8_7 : FL RX8 7 8 0 := ⟨RX8, TX8, 5, rfl, by decide, rfl, by decide, (gm 614 (by decide +kernel) (by decide +kernel)), inG8⟩
theorem fp_8_0 : FP 8 0 (tyX8 0) true := ⟨RX8, TX8, 5, tyX8, rfl, tyX8_ok, nmX8, rfl, rfl, rfl⟩
theorem ff_RX8 : FI RX8 "<init>" 8 true := fun _ => ⟨rfl, fun q h => by cases h; rfl⟩
theorem fl_RX8_13 : FL RX8 13 8 1 := ⟨RX8, TX8, 5, rfl, by decide, rfl, by decide, (gm 616 (by decide +kernel) (by decide +kernel)), inG8⟩
theorem fp_8_1 : FP 8 1 (tyX8 1) true := ⟨RX8, TX8, 5, tyX8, rfl, tyX8_ok, nmX8, rfl, rfl, rfl⟩
theorem fl_RX8_16 : FL RX8 16 8 2 := ⟨RX8, TX8, 5, rfl, by decide, rfl, by decide, (gm 618 (by decide +kernel) (by decide +kernel)), inG8⟩
theorem fp_8_2 : FP 8 2 (tyX8 2) true := ⟨RX8, TX8, 5, tyX8, rfl, tyX8_ok, nmX8, rfl, rfl, rfl⟩
theorem fl_RX8_19 : FL RX8 19 8 3 := ⟨RX8, TX8, 5, rfl, by decide, rfl, by decide, (gm 620 (by decide +kernel) (by decide +kernel)), inG8⟩
theorem fp_8_3 : FP 8 3 (tyX8 3) true := ⟨RX8, TX8, 5, tyX8, rfl, tyX8_ok, nmX8, rfl, rfl, rfl⟩
theorem fl_RX8_22 : FL RX8 22 8 4 := ⟨RX8, TX8, 5, rfl, by decide, rfl, by decide, (gm 622 (by decide +kernel) (by decide +kernel)), inG8⟩
theorem fp_8_4 : FP 8 4 (tyX8 4) true := ⟨RX8, TX8, 5, tyX8, rfl, tyX8_ok, nmX8, rfl, rfl, rfl⟩
def tb_X8_init : List (Nat × Instr × Nat) := [(0, .aload_n 0, 1), (1, .invokespecial 1, 3), (4, .aload_n 0, 1), (5, .iload_n 1, 1), (6, .putfield 7, 3), (9, .aload_n 0, 1), (10, .iload_n 2, 1), (11, .putfield 13, 3), (14, .aload_n 0, 1), (15, .iload_n 3, 1), (16, .putfield 16, 3), (19, .aload_n 0, 1), (20, .iload 4, 2), (22, .putfield 19, 3), (25, .aload_n 0, 1), (26, .iload 5, 2), (28, .putfield 22, 3), (31, .return_, 1)]
def i_X8_init : MI := (RX8, cX8_init, 6, none, "<init>", { frames := 1, cells := 0, slots := 0, locals := 80 })
theorem D_X8_init : tbOK (i_X8_init).2.1 tb_X8_init := by show ∀ q ∈ tb_X8_init, decode cX8_init q.1 = .ok (q.2.1, q.2.2); decide +kernel
def po_X8_init (S : Sk) (I : II) (r : II) : Option LV × Sk × II := (none, S, r)
def f_X8_init (fu : Nat) (S : Sk) (I : II) (a0 : Nat) (x1 : Int32) (x2 : Int32) (x3 : Int32) (x4 : Int32) (x5 : Int32) : Option (II) :=
  lt (upI I a0 0 x1) fun I1 => (lt (upI I1 a0 1 x2) fun I2 => (lt (upI I2 a0 2 x3) fun I3 => (lt (upI I3 a0 3 x4) fun I4 => (lt (upI I4 a0 4 x5) fun I5 => (some (I5))))))
set_option maxRecDepth 100000 in
set_option maxHeartbeats 4000000 in
theorem gg_X8_init {E : EV} (fu : Nat) (S0 : Sk) (I0 : II) (a0 : Nat) (x1 : Int32) (x2 : Int32) (x3 : Int32) (x4 : Int32) (x5 : Int32) (ht0 : tyO S0 8 a0) : GG E i_X8_init (enM E i_X8_init S0 (po_X8_init S0 I0)) S0 I0 (0, 0) 0 [(0, vA (a0 + 1)), (1, vI x1), (2, vI x2), (3, vI x3), (4, vI x4), (5, vI x5)] [] (f_X8_init fu S0 I0 a0 x1 x2 x3 x4 x5) := by
  unfold f_X8_init
  refine g_aload_n (dk D_X8_init 0 rfl) rfl ?_
  refine g_objInit lk_RX8_1 lk_oi lk_oc (Nat.succ_ne_zero _) (by decide) (by rw [wid_sum]; exact Nat.le_of_ble_eq_true rfl) (dk D_X8_init 1 rfl) ?_
  refine g_aload_n (dk D_X8_init 2 rfl) rfl ?_
  refine g_iload_n (dk D_X8_init 3 rfl) rfl ?_
  refine g_putIt fl_RX8_7 fp_8_0 ff_RX8 (by decide) rfl rfl ht0 (dk D_X8_init 4 rfl) ?_
  refine g_ltI (fun I1 eI1 => ?_)
  refine g_aload_n (dk D_X8_init 5 rfl) rfl ?_
  refine g_iload_n (dk D_X8_init 6 rfl) rfl ?_
  refine g_putIt fl_RX8_13 fp_8_1 ff_RX8 (by decide) rfl rfl ht0 (dk D_X8_init 7 rfl) ?_
  refine g_ltI (fun I2 eI2 => ?_)
  refine g_aload_n (dk D_X8_init 8 rfl) rfl ?_
  refine g_iload_n (dk D_X8_init 9 rfl) rfl ?_
  refine g_putIt fl_RX8_16 fp_8_2 ff_RX8 (by decide) rfl rfl ht0 (dk D_X8_init 10 rfl) ?_
  refine g_ltI (fun I3 eI3 => ?_)
  refine g_aload_n (dk D_X8_init 11 rfl) rfl ?_
  refine g_iload (dk D_X8_init 12 rfl) rfl ?_
  refine g_putIt fl_RX8_19 fp_8_3 ff_RX8 (by decide) rfl rfl ht0 (dk D_X8_init 13 rfl) ?_
  refine g_ltI (fun I4 eI4 => ?_)
  refine g_aload_n (dk D_X8_init 14 rfl) rfl ?_
  refine g_iload (dk D_X8_init 15 rfl) rfl ?_
  refine g_putIt fl_RX8_22 fp_8_4 ff_RX8 (by decide) rfl rfl ht0 (dk D_X8_init 16 rfl) ?_
  refine g_ltI (fun I5 eI5 => ?_)
  exact g_return rfl rfl Sx.rf rfl (by decide) (by decide) (dk D_X8_init 17 rfl)
theorem c_X8_init {E : EV} (fu : Nat) (S0 : Sk) (I0 : II) (a0 : Nat) (x1 : Int32) (x2 : Int32) (x3 : Int32) (x4 : Int32) (x5 : Int32) (r : II) (h : f_X8_init fu S0 I0 a0 x1 x2 x3 x4 x5 = some r) (ht0 : tyO S0 8 a0) : MX E yX8_init i_X8_init S0 I0 [vA (a0 + 1), vI x1, vI x2, vI x3, vI x4, vI x5] (po_X8_init S0 I0 r) :=
  MX.of h (by decide) rfl rfl (Nat.le_of_ble_eq_true rfl) (gg_X8_init fu S0 I0 a0 x1 x2 x3 x4 x5 ht0)
theorem lk_RX9_3 : Cond.methodLink RX9 3 Lib.objectInit ∈ lw_good := (gm 134 (by decide +kernel) (by decide +kernel))
theorem fl_RX9_11 : FL RX9 11 9 1 := ⟨RX9, TX9, 7, rfl, by decide, rfl, by decide, (gm 137 (by decide +kernel) (by decide +kernel)), inG9⟩
theorem fp_9_1 : FP 9 1 (tyX9 1) true := ⟨RX9, TX9, 7, tyX9, rfl, tyX9_ok, nmX9, rfl, rfl, rfl⟩
theorem ff_RX9 : FI RX9 "<init>" 9 true := fun _ => ⟨rfl, fun q h => by cases h; rfl⟩
theorem fl_RX9_15 : FL RX9 15 9 2 := ⟨RX9, TX9, 7, rfl, by decide, rfl, by decide, (gm 138 (by decide +kernel) (by decide +kernel)), inG9⟩
theorem fp_9_2 : FP 9 2 (tyX9 2) true := ⟨RX9, TX9, 7, tyX9, rfl, tyX9_ok, nmX9, rfl, rfl, rfl⟩
theorem fl_RX9_18 : FL RX9 18 9 3 := ⟨RX9, TX9, 7, rfl, by decide, rfl, by decide, (gm 139 (by decide +kernel) (by decide +kernel)), inG9⟩
theorem fp_9_3 : FP 9 3 (tyX9 3) true := ⟨RX9, TX9, 7, tyX9, rfl, tyX9_ok, nmX9, rfl, rfl, rfl⟩
theorem lk_RX9_21 : Cond.constant RX9 21 (1073741824 : Int32) ∈ lw_good := (gm 135 (by decide +kernel) (by decide +kernel))
theorem fl_RX9_22 : FL RX9 22 9 4 := ⟨RX9, TX9, 7, rfl, by decide, rfl, by decide, (gm 140 (by decide +kernel) (by decide +kernel)), inG9⟩
theorem fp_9_4 : FP 9 4 (tyX9 4) false := ⟨RX9, TX9, 7, tyX9, rfl, tyX9_ok, nmX9, rfl, rfl, rfl⟩
theorem fl_RX9_26 : FL RX9 26 9 5 := ⟨RX9, TX9, 7, rfl, by decide, rfl, by decide, (gm 142 (by decide +kernel) (by decide +kernel)), inG9⟩
theorem fp_9_5 : FP 9 5 (tyX9 5) false := ⟨RX9, TX9, 7, tyX9, rfl, tyX9_ok, nmX9, rfl, rfl, rfl⟩
theorem fl_RX9_29 : FL RX9 29 9 6 := ⟨RX9, TX9, 7, rfl, by decide, rfl, by decide, (gm 144 (by decide +kernel) (by decide +kernel)), inG9⟩
theorem fp_9_6 : FP 9 6 (tyX9 6) false := ⟨RX9, TX9, 7, tyX9, rfl, tyX9_ok, nmX9, rfl, rfl, rfl⟩
theorem fl_RX9_32 : FL RX9 32 9 0 := ⟨RX9, TX9, 7, rfl, by decide, rfl, by decide, (gm 136 (by decide +kernel) (by decide +kernel)), inG9⟩
theorem fp_9_0 : FP 9 0 (tyX9 0) true := ⟨RX9, TX9, 7, tyX9, rfl, tyX9_ok, nmX9, rfl, rfl, rfl⟩
def tb_X9_init : List (Nat × Instr × Nat) := [(0, .aload_n 0, 1), (1, .invokespecial 3, 3), (4, .aload_n 0, 1), (5, .sipush 496, 3), (8, .newarray .int, 2), (10, .putfield 11, 3), (13, .aload_n 0, 1), (14, .sipush 496, 3), (17, .newarray .int, 2), (19, .putfield 15, 3), (22, .aload_n 0, 1), (23, .sipush 496, 3), (26, .newarray .int, 2), (28, .putfield 18, 3), (31, .aload_n 0, 1), (32, .ldc 21, 2), (34, .putfield 22, 3), (37, .aload_n 0, 1), (38, .iconst 0, 1), (39, .putfield 26, 3), (42, .aload_n 0, 1), (43, .iconst 0, 1), (44, .putfield 29, 3), (47, .aload_n 0, 1), (48, .aload_n 1, 1), (49, .putfield 32, 3), (52, .return_, 1)]
def i_X9_init : MI := (RX9, cX9_init, 2, none, "<init>", { frames := 1, cells := 3, slots := 1488, locals := 80 })
theorem D_X9_init : tbOK (i_X9_init).2.1 tb_X9_init := by show ∀ q ∈ tb_X9_init, decode cX9_init q.1 = .ok (q.2.1, q.2.2); decide +kernel
def po_X9_init (S : Sk) (I : II) (r : Sk × II) : Option LV × Sk × II := (none, r.1, r.2)
def f_X9_init (fu : Nat) (S : Sk) (I : II) (a0 : Nat) (r1 : Nat) : Option (Sk × II) :=
  lt (nwS S 100 (nx (496 : Int32))) fun S1 => (lt (nwI S I) fun I2 => (lt (upP S1 a0 1 (S.2.2.2 + 1)) fun S8 => (lt (nwS S8 100 (nx (496 : Int32))) fun S14 => (lt (nwI S8 I2) fun I15 => (lt (upP S14 a0 2 (S8.2.2.2 + 1)) fun S22 => (lt (nwS S22 100 (nx (496 : Int32))) fun S29 => (lt (nwI S22 I15) fun I30 => (lt (upP S29 a0 3 (S22.2.2.2 + 1)) fun S38 => (lt (upI I30 a0 4 (1073741824 : Int32)) fun I46 => (lt (upI I46 a0 5 (0 : Int32)) fun I47 => (lt (upI I47 a0 6 (0 : Int32)) fun I48 => (lt (upP S38 a0 0 r1) fun S49 => (some ((S49, I48)))))))))))))))
set_option maxRecDepth 100000 in
set_option maxHeartbeats 4000000 in
theorem gg_X9_init {E : EV} (fu : Nat) (S0 : Sk) (I0 : II) (a0 : Nat) (r1 : Nat) (ht0 : tyO S0 9 a0) (h_r1 : tyR S0 2 r1) : GG E i_X9_init (enM E i_X9_init S0 (po_X9_init S0 I0)) S0 I0 (0, 0) 0 [(0, vA (a0 + 1)), (1, vA r1)] [] (f_X9_init fu S0 I0 a0 r1) := by
  unfold f_X9_init
  refine g_aload_n (dk D_X9_init 0 rfl) rfl ?_
  refine g_objInit lk_RX9_3 lk_oi lk_oc (Nat.succ_ne_zero _) (by decide) (by rw [wid_sum]; exact Nat.le_of_ble_eq_true rfl) (dk D_X9_init 1 rfl) ?_
  refine g_aload_n (dk D_X9_init 2 rfl) rfl ?_
  refine g_sipush (v := (496 : Int32)) (dk D_X9_init 3 rfl) rfl ?_
  refine g_newarray (by decide) (by decide) (by show 0 + 1 ≤ 3; omega) (by show 0 + 496 ≤ 1488; omega) lk_arr (dk D_X9_init 4 rfl) ?_
  refine g_wide (cs' := (1, 496)) (by show 0 + 1 ≤ 1; omega) (by show 0 + 496 ≤ 496; omega) ?_
  refine g_ltS (fun S1 eS1 => ?_)
  refine g_ltI (fun I2 eI2 => ?_)
  have hx3 : Sx S0 S1 := eS1 ▸ nwS_x
  have ht4 := h_r1.x hx3
  have ht5 := ht0.x hx3
  have hsx6 := Sx.tr Sx.rf hx3
  have ht7 : tyR S1 100 (S0.2.2.2 + 1) := eS1 ▸ nwS_ty.R
  refine g_putAt (t := 100) fl_RX9_11 fp_9_1 ff_RX9 rfl (Or.inr ⟨_, rfl⟩) ht7 ht5 (dk D_X9_init 5 rfl) ?_
  refine g_ltS (fun S8 eS8 => ?_)
  have hx9 : Sx S1 S8 := eS8 ▸ upP_x
  have ht10 := ht4.x hx9
  have ht11 := ht7.x hx9
  have ht12 := ht5.x hx9
  have hsx13 := Sx.tr hsx6 hx9
  refine g_aload_n (dk D_X9_init 6 rfl) rfl ?_
  refine g_sipush (v := (496 : Int32)) (dk D_X9_init 7 rfl) rfl ?_
  refine g_newarray (by decide) (by decide) (by show 1 + 1 ≤ 3; omega) (by show 496 + 496 ≤ 1488; omega) lk_arr (dk D_X9_init 8 rfl) ?_
  refine g_wide (cs' := (2, 992)) (by show 1 + 1 ≤ 2; omega) (by show 496 + 496 ≤ 992; omega) ?_
  refine g_ltS (fun S14 eS14 => ?_)
  refine g_ltI (fun I15 eI15 => ?_)
  have hx16 : Sx S8 S14 := eS14 ▸ nwS_x
  have ht17 := ht10.x hx16
  have ht18 := ht11.x hx16
  have ht19 := ht12.x hx16
  have hsx20 := Sx.tr hsx13 hx16
  have ht21 : tyR S14 100 (S8.2.2.2 + 1) := eS14 ▸ nwS_ty.R
  refine g_putAt (t := 100) fl_RX9_15 fp_9_2 ff_RX9 rfl (Or.inr ⟨_, rfl⟩) ht21 ht19 (dk D_X9_init 9 rfl) ?_
  refine g_ltS (fun S22 eS22 => ?_)
  have hx23 : Sx S14 S22 := eS22 ▸ upP_x
  have ht24 := ht17.x hx23
  have ht25 := ht18.x hx23
  have ht26 := ht21.x hx23
  have ht27 := ht19.x hx23
  have hsx28 := Sx.tr hsx20 hx23
  refine g_aload_n (dk D_X9_init 10 rfl) rfl ?_
  refine g_sipush (v := (496 : Int32)) (dk D_X9_init 11 rfl) rfl ?_
  refine g_newarray (by decide) (by decide) (by show 2 + 1 ≤ 3; omega) (by show 992 + 496 ≤ 1488; omega) lk_arr (dk D_X9_init 12 rfl) ?_
  refine g_wide (cs' := (3, 1488)) (by show 2 + 1 ≤ 3; omega) (by show 992 + 496 ≤ 1488; omega) ?_
  refine g_ltS (fun S29 eS29 => ?_)
  refine g_ltI (fun I30 eI30 => ?_)
  have hx31 : Sx S22 S29 := eS29 ▸ nwS_x
  have ht32 := ht24.x hx31
  have ht33 := ht25.x hx31
  have ht34 := ht26.x hx31
  have ht35 := ht27.x hx31
  have hsx36 := Sx.tr hsx28 hx31
  have ht37 : tyR S29 100 (S22.2.2.2 + 1) := eS29 ▸ nwS_ty.R
  refine g_putAt (t := 100) fl_RX9_18 fp_9_3 ff_RX9 rfl (Or.inr ⟨_, rfl⟩) ht37 ht35 (dk D_X9_init 13 rfl) ?_
  refine g_ltS (fun S38 eS38 => ?_)
  have hx39 : Sx S29 S38 := eS38 ▸ upP_x
  have ht40 := ht32.x hx39
  have ht41 := ht33.x hx39
  have ht42 := ht34.x hx39
  have ht43 := ht37.x hx39
  have ht44 := ht35.x hx39
  have hsx45 := Sx.tr hsx36 hx39
  refine g_aload_n (dk D_X9_init 14 rfl) rfl ?_
  refine g_ldc (dk D_X9_init 15 rfl) lk_RX9_21 ?_
  refine g_putIt fl_RX9_22 fp_9_4 (fun h => (by cases h)) (by decide) rfl rfl ht44 (dk D_X9_init 16 rfl) ?_
  refine g_ltI (fun I46 eI46 => ?_)
  refine g_aload_n (dk D_X9_init 17 rfl) rfl ?_
  refine g_iconst (v := (0 : Int32)) (dk D_X9_init 18 rfl) rfl ?_
  refine g_putIt fl_RX9_26 fp_9_5 (fun h => (by cases h)) (by decide) rfl rfl ht44 (dk D_X9_init 19 rfl) ?_
  refine g_ltI (fun I47 eI47 => ?_)
  refine g_aload_n (dk D_X9_init 20 rfl) rfl ?_
  refine g_iconst (v := (0 : Int32)) (dk D_X9_init 21 rfl) rfl ?_
  refine g_putIt fl_RX9_29 fp_9_6 (fun h => (by cases h)) (by decide) rfl rfl ht44 (dk D_X9_init 22 rfl) ?_
  refine g_ltI (fun I48 eI48 => ?_)
  refine g_aload_n (dk D_X9_init 23 rfl) rfl ?_
  refine g_aload_n (dk D_X9_init 24 rfl) rfl ?_
  refine g_putAt (t := 2) fl_RX9_32 fp_9_0 ff_RX9 rfl (Or.inl ⟨_, rfl⟩) ht40 ht44 (dk D_X9_init 25 rfl) ?_
  refine g_ltS (fun S49 eS49 => ?_)
  have hx50 : Sx S38 S49 := eS49 ▸ upP_x
  have ht51 := ht40.x hx50
  have ht52 := ht41.x hx50
  have ht53 := ht42.x hx50
  have ht54 := ht43.x hx50
  have ht55 := ht44.x hx50
  have hsx56 := Sx.tr hsx45 hx50
  exact g_return rfl rfl hsx56 rfl (by show 3 ≤ 3; omega) (by show 1488 ≤ 1488; omega) (dk D_X9_init 26 rfl)
theorem c_X9_init {E : EV} (fu : Nat) (S0 : Sk) (I0 : II) (a0 : Nat) (r1 : Nat) (r : Sk × II) (h : f_X9_init fu S0 I0 a0 r1 = some r) (ht0 : tyO S0 9 a0) (h_r1 : tyR S0 2 r1) : MX E yX9_init i_X9_init S0 I0 [vA (a0 + 1), vA r1] (po_X9_init S0 I0 r) :=
  MX.of h (by decide) rfl rfl (Nat.le_of_ble_eq_true rfl) (gg_X9_init fu S0 I0 a0 r1 ht0 h_r1)
theorem lk_RX9_80 : Cond.methodLink RX9 80 Lib.Math.min.name ∈ lw_good := (gm 665 (by decide +kernel) (by decide +kernel))
theorem fl_RX9_75 : FL RX9 75 2 3 := ⟨RX2, TX2, 6, rfl, by decide, rfl, by decide, (gm 104 (by decide +kernel) (by decide +kernel)), inG2⟩
def tb_X9_thin : List (Nat × Instr × Nat) := [(0, .iconst 0, 1), (1, .istore_n 3, 1), (2, .iload_n 3, 1), (3, .aload_n 0, 1), (4, .getfield 32, 3), (7, .getfield 75, 3), (10, .if_icmp .ge 76, 3), (13, .aload_n 0, 1), (14, .getfield 22, 3), (17, .istore 4, 2), (19, .iload_n 3, 1), (20, .bipush 31, 2), (22, .imul, 1), (23, .istore 5, 2), (25, .iload 5, 2), (27, .iload_n 3, 1), (28, .bipush 31, 2), (30, .imul, 1), (31, .iload_n 2, 1), (32, .iadd, 1), (33, .if_icmp .gt 47, 3), (36, .iload 4, 2), (38, .aload_n 0, 1), (39, .getfield 18, 3), (42, .iload 5, 2), (44, .iaload, 1), (45, .invokestatic 80, 3), (48, .istore 4, 2), (50, .aload_n 1, 1), (51, .iload 5, 2), (53, .iaload, 1), (54, .iload 4, 2), (56, .if_icmp .ge 12, 3), (59, .aload_n 1, 1), (60, .iload 5, 2), (62, .iaload, 1), (63, .istore 4, 2), (65, .goto 9, 3), (68, .aload_n 1, 1), (69, .iload 5, 2), (71, .ldc 21, 2), (73, .iastore, 1), (74, .iinc 5 1, 3), (77, .goto (-52), 3), (80, .iinc 3 1, 3), (83, .goto (-81), 3), (86, .return_, 1)]
def i_X9_thin : MI := (RX9, cX9_thin, 6, none, "thin", { frames := 1, cells := 0, slots := 0, locals := 80 })
theorem D_X9_thin : tbOK (i_X9_thin).2.1 tb_X9_thin := by show ∀ q ∈ tb_X9_thin, decode cX9_thin q.1 = .ok (q.2.1, q.2.2); decide +kernel
def po_X9_thin (S : Sk) (I : II) (r : II) : Option LV × Sk × II := (none, S, r)
def jn_X9_thin_74 (fu : Nat) (S : Sk) (I : II) (self2 : Int32 → II → Option (II)) (self25 : Int32 → Int32 → II → Option (II)) (a0 : Nat) (r1 : Nat) (x2 : Int32) (x3 : Int32) (x4 : Int32) (x5 : Int32) : Option (II) :=
  self25 x4 (x5 + (1 : Int32)) I
def lp_X9_thin_25 (fu : Nat) (S : Sk) (self2 : Int32 → II → Option (II)) (a0 : Nat) (r1 : Nat) (x2 : Int32) (x3 : Int32) (self25 : Int32 → Int32 → II → Option (II)) (x4 : Int32) (x5 : Int32) (I : II) : Option (II) :=
  if ((x3 * (31 : Int32)) + x2) < x5 then self2 (x3 + (1 : Int32)) I else gd (inb S (S.1 a0 3) x5) (lt (jmin x4 (rd I (S.1 a0 3) x5)) fun x4_4 => (gd (inb S r1 x5) (if x4_4 ≤ (rd I r1 x5) then lt (wr I r1 x5 (1073741824 : Int32)) fun I7 => (jn_X9_thin_74 fu S I7 self2 self25 a0 r1 x2 x3 x4_4 x5) else lt (rd I r1 x5) fun x4_8 => (jn_X9_thin_74 fu S I self2 self25 a0 r1 x2 x3 x4_8 x5))))
def lp_X9_thin_2 (fu : Nat) (S : Sk) (a0 : Nat) (r1 : Nat) (x2 : Int32) (self2 : Int32 → II → Option (II)) (x3 : Int32) (I : II) : Option (II) :=
  gd ((S.1 a0 0) ≠ 0) (if (I ((S.1 a0 0) - 1) 3) ≤ x3 then some (I) else lt (I a0 4) fun x4_12 => (lt (x3 * (31 : Int32)) fun x5_13 => (fix3 (lp_X9_thin_25 fu S self2 a0 r1 x2 x3) fu x4_12 x5_13 I)))
def f_X9_thin (fu : Nat) (S : Sk) (I : II) (a0 : Nat) (r1 : Nat) (x2 : Int32) : Option (II) :=
  fix2 (lp_X9_thin_2 fu S a0 r1 x2) fu (0 : Int32) I
set_option maxRecDepth 100000 in
set_option maxHeartbeats 4000000 in
theorem gg_X9_thin {E : EV} (fu : Nat) (S0 : Sk) (I0 : II) (a0 : Nat) (r1 : Nat) (x2 : Int32) (ht0 : tyO S0 9 a0) (h_r1 : tyR S0 100 r1) : GG E i_X9_thin (enM E i_X9_thin S0 (po_X9_thin S0 I0)) S0 I0 (0, 0) 0 [(0, vA (a0 + 1)), (1, vA r1), (2, vI x2)] [] (f_X9_thin fu S0 I0 a0 r1 x2) := by
  have hl2 : ∀ (nn : Nat) (x3 : Int32) (I : II), True → GG E i_X9_thin (enM E i_X9_thin S0 (po_X9_thin S0 I0)) S0 I (0, 0) 2 [(0, vA (a0 + 1)), (1, vA r1), (2, vI x2), (3, vI x3)] [] (fix2 (lp_X9_thin_2 fu S0 a0 r1 x2) nn x3 I) := by
    refine g_fix2 (fun _ _ => S0) (fun x3 I => I) (fun x3 I => [(0, vA (a0 + 1)), (1, vA r1), (2, vI x2), (3, vI x3)]) (fun x3 I => True) ?_
    intro self2 hself2 x3 I hinv
    have hl25 : ∀ (x3 : Int32) (nn : Nat) (x4 : Int32) (x5 : Int32) (I : II), True → GG E i_X9_thin (enM E i_X9_thin S0 (po_X9_thin S0 I0)) S0 I (0, 0) 25 [(0, vA (a0 + 1)), (1, vA r1), (2, vI x2), (3, vI x3), (4, vI x4), (5, vI x5)] [] (fix3 (lp_X9_thin_25 fu S0 self2 a0 r1 x2 x3) nn x4 x5 I) := by
      intro x3 
      refine g_fix3 (fun _ _ _ => S0) (fun x4 x5 I => I) (fun x4 x5 I => [(0, vA (a0 + 1)), (1, vA r1), (2, vI x2), (3, vI x3), (4, vI x4), (5, vI x5)]) (fun x4 x5 I => True) ?_
      intro self25 hself25 x4 x5 I hinv
      have hj74 : ∀ (I : II) (x4 : Int32) (x5 : Int32), GG E i_X9_thin (enM E i_X9_thin S0 (po_X9_thin S0 I0)) S0 I (0, 0) 74 [(0, vA (a0 + 1)), (1, vA r1), (2, vI x2), (3, vI x3), (4, vI x4), (5, vI x5)] [] (jn_X9_thin_74 fu S0 I self2 self25 a0 r1 x2 x3 x4 x5) := by
        intro I x4 x5 
        unfold jn_X9_thin_74
        refine g_iinc (v := (1 : Int32)) (L' := [(0, vA (a0 + 1)), (1, vA r1), (2, vI x2), (3, vI x3), (4, vI x4), (5, vI (x5 + (1 : Int32)))]) (dk D_X9_thin 42 rfl) rfl rfl (Nat.le_of_ble_eq_true rfl) rfl ?_
        refine g_goto (tgt := 25) (dk D_X9_thin 43 rfl) rfl ?_
        exact hself25 x4 (x5 + (1 : Int32)) I trivial
      unfold lp_X9_thin_25
      refine g_iload (dk D_X9_thin 14 rfl) rfl ?_
      refine g_iload_n (dk D_X9_thin 15 rfl) rfl ?_
      refine g_bipush (v := (31 : Int32)) (dk D_X9_thin 16 rfl) rfl ?_
      refine g_imul (dk D_X9_thin 17 rfl) ?_
      refine g_iload_n (dk D_X9_thin 18 rfl) rfl ?_
      refine g_iadd (dk D_X9_thin 19 rfl) ?_
      refine g_icmp_gt (tgt := 80) (dk D_X9_thin 20 rfl) rfl (fun hc1 => ?_) (fun hc1 => ?_)
      · refine g_iinc (v := (1 : Int32)) (L' := [(0, vA (a0 + 1)), (1, vA r1), (2, vI x2), (3, vI (x3 + (1 : Int32))), (4, vI x4), (5, vI x5)]) (dk D_X9_thin 44 rfl) rfl rfl (Nat.le_of_ble_eq_true rfl) rfl ?_
        refine g_goto (tgt := 2) (dk D_X9_thin 45 rfl) rfl ?_
        refine g_Lp [0, 1, 2, 3] rfl ?_
        exact hself2 (x3 + (1 : Int32)) I trivial
      · refine g_iload (dk D_X9_thin 21 rfl) rfl ?_
        refine g_aload_n (dk D_X9_thin 22 rfl) rfl ?_
        refine g_getAt (t := 100) fl_RX9_18 rfl ht0 (dk D_X9_thin 23 rfl) (fun ht2 => ?_)
        refine g_iload (dk D_X9_thin 24 rfl) rfl ?_
        refine g_gd (fun hi3 => ?_)
        refine g_iaload ht2 hi3 (dk D_X9_thin 25 rfl) ?_
        refine g_mmin lk_RX9_80 lk_mmin (by decide) (Nat.le_of_ble_eq_true rfl) (by decide) (by decide) (dk D_X9_thin 26 rfl) ?_
        refine g_ltV (fun x4_4 ex4_4 => ?_)
        refine g_istore (L' := [(0, vA (a0 + 1)), (1, vA r1), (2, vI x2), (3, vI x3), (4, vI x4_4), (5, vI x5)]) (dk D_X9_thin 27 rfl) (Nat.le_of_ble_eq_true rfl) rfl ?_
        refine g_aload_n (dk D_X9_thin 28 rfl) rfl ?_
        refine g_iload (dk D_X9_thin 29 rfl) rfl ?_
        refine g_gd (fun hi5 => ?_)
        refine g_iaload h_r1 hi5 (dk D_X9_thin 30 rfl) ?_
        refine g_iload (dk D_X9_thin 31 rfl) rfl ?_
        refine g_icmp_ge (tgt := 68) (dk D_X9_thin 32 rfl) rfl (fun hc6 => ?_) (fun hc6 => ?_)
        · refine g_aload_n (dk D_X9_thin 38 rfl) rfl ?_
          refine g_iload (dk D_X9_thin 39 rfl) rfl ?_
          refine g_ldc (dk D_X9_thin 40 rfl) lk_RX9_21 ?_
          refine g_iastore h_r1 hi5 (dk D_X9_thin 41 rfl) ?_
          refine g_ltI (fun I7 eI7 => ?_)
          exact hj74 I7 x4_4 x5
        · refine g_aload_n (dk D_X9_thin 33 rfl) rfl ?_
          refine g_iload (dk D_X9_thin 34 rfl) rfl ?_
          refine g_iaload h_r1 hi5 (dk D_X9_thin 35 rfl) ?_
          refine g_ltV (fun x4_8 ex4_8 => ?_)
          refine g_istore (L' := [(0, vA (a0 + 1)), (1, vA r1), (2, vI x2), (3, vI x3), (4, vI x4_8), (5, vI x5)]) (dk D_X9_thin 36 rfl) (Nat.le_of_ble_eq_true rfl) rfl ?_
          refine g_goto (tgt := 74) (dk D_X9_thin 37 rfl) rfl ?_
          exact hj74 I x4_8 x5
    unfold lp_X9_thin_2
    refine g_iload_n (dk D_X9_thin 2 rfl) rfl ?_
    refine g_aload_n (dk D_X9_thin 3 rfl) rfl ?_
    refine g_getAt (t := 2) fl_RX9_32 rfl ht0 (dk D_X9_thin 4 rfl) (fun ht9 => ?_)
    refine g_gd (fun hn10 => ?_)
    refine g_getI fl_RX9_75 (by decide) ht9 hn10 (dk D_X9_thin 5 rfl) ?_
    refine g_icmp_ge (tgt := 86) (dk D_X9_thin 6 rfl) rfl (fun hc11 => ?_) (fun hc11 => ?_)
    · exact g_return rfl rfl Sx.rf rfl (by decide) (by decide) (dk D_X9_thin 46 rfl)
    · refine g_aload_n (dk D_X9_thin 7 rfl) rfl ?_
      refine g_getIt fl_RX9_22 (by decide) ht0 (dk D_X9_thin 8 rfl) ?_
      refine g_ltV (fun x4_12 ex4_12 => ?_)
      refine g_istore (L' := [(0, vA (a0 + 1)), (1, vA r1), (2, vI x2), (3, vI x3), (4, vI x4_12)]) (dk D_X9_thin 9 rfl) (Nat.le_of_ble_eq_true rfl) rfl ?_
      refine g_iload_n (dk D_X9_thin 10 rfl) rfl ?_
      refine g_bipush (v := (31 : Int32)) (dk D_X9_thin 11 rfl) rfl ?_
      refine g_imul (dk D_X9_thin 12 rfl) ?_
      refine g_ltV (fun x5_13 ex5_13 => ?_)
      refine g_istore (L' := [(0, vA (a0 + 1)), (1, vA r1), (2, vI x2), (3, vI x3), (4, vI x4_12), (5, vI x5_13)]) (dk D_X9_thin 13 rfl) (Nat.le_of_ble_eq_true rfl) rfl ?_
      exact hl25 x3 fu x4_12 x5_13 I trivial
  unfold f_X9_thin
  refine g_iconst (v := (0 : Int32)) (dk D_X9_thin 0 rfl) rfl ?_
  refine g_istore_n (L' := [(0, vA (a0 + 1)), (1, vA r1), (2, vI x2), (3, vI (0 : Int32))]) (dk D_X9_thin 1 rfl) (Nat.le_of_ble_eq_true rfl) rfl ?_
  exact hl2 fu (0 : Int32) I0 trivial
theorem c_X9_thin {E : EV} (fu : Nat) (S0 : Sk) (I0 : II) (a0 : Nat) (r1 : Nat) (x2 : Int32) (r : II) (h : f_X9_thin fu S0 I0 a0 r1 x2 = some r) (ht0 : tyO S0 9 a0) (h_r1 : tyR S0 100 r1) : MX E yX9_thin i_X9_thin S0 I0 [vA (a0 + 1), vA r1, vI x2] (po_X9_thin S0 I0 r) :=
  MX.of h (by decide) rfl rfl (Nat.le_of_ble_eq_true rfl) (gg_X9_thin fu S0 I0 a0 r1 x2 ht0 h_r1)
theorem cl_RX9_96 : CV0 RX9 96 yX2_walk i_X2_walk 2 2 := ⟨⟨(gm 675 (by decide +kernel) (by decide +kernel)), (gm 67 (by decide +kernel) (by decide +kernel)), ((gm 527 (by decide +kernel) (by decide +kernel))), by decide +kernel, by decide +kernel, by decide +kernel⟩, ⟨(gm 525 (by decide +kernel) (by decide +kernel)), (gm 526 (by decide +kernel) (by decide +kernel))⟩, rfl, by decide⟩
def tb_X9_walkFrom : List (Nat × Instr × Nat) := [(0, .aload_n 0, 1), (1, .getfield 11, 3), (4, .iload_n 1, 1), (5, .bipush 31, 2), (7, .imul, 1), (8, .iload_n 2, 1), (9, .iadd, 1), (10, .iaload, 1), (11, .istore 4, 2), (13, .iconst 0, 1), (14, .istore 5, 2), (16, .iload 5, 2), (18, .aload_n 0, 1), (19, .getfield 32, 3), (22, .getfield 75, 3), (25, .if_icmp .ge 63, 3), (28, .aload_n 0, 1), (29, .getfield 32, 3), (32, .iload_n 1, 1), (33, .iload 5, 2), (35, .invokevirtual 96, 3), (38, .istore 6, 2), (40, .iload_n 2, 1), (41, .iload 6, 2), (43, .iadd, 1), (44, .iload_n 3, 1), (45, .if_icmp .gt 37, 3), (48, .iload 5, 2), (50, .bipush 31, 2), (52, .imul, 1), (53, .iload_n 2, 1), (54, .iadd, 1), (55, .iload 6, 2), (57, .iadd, 1), (58, .istore 7, 2), (60, .aload_n 0, 1), (61, .getfield 15, 3), (64, .iload 7, 2), (66, .aload_n 0, 1), (67, .getfield 15, 3), (70, .iload 7, 2), (72, .iaload, 1), (73, .iload 4, 2), (75, .iload 6, 2), (77, .iadd, 1), (78, .invokestatic 80, 3), (81, .iastore, 1), (82, .iinc 5 1, 3), (85, .goto (-69), 3), (88, .return_, 1)]
def i_X9_walkFrom : MI := (RX9, cX9_walkFrom, 8, none, "walkFrom", { frames := 1, cells := 0, slots := 0, locals := 80 })
theorem D_X9_walkFrom : tbOK (i_X9_walkFrom).2.1 tb_X9_walkFrom := by show ∀ q ∈ tb_X9_walkFrom, decode cX9_walkFrom q.1 = .ok (q.2.1, q.2.2); decide +kernel
def po_X9_walkFrom (S : Sk) (I : II) (r : II) : Option LV × Sk × II := (none, S, r)
def jn_X9_walkFrom_82 (fu : Nat) (S : Sk) (I : II) (self16 : Int32 → II → Option (II)) (a0 : Nat) (x1 : Int32) (x2 : Int32) (x3 : Int32) (x4 : Int32) (x5 : Int32) : Option (II) :=
  self16 (x5 + (1 : Int32)) I
def lp_X9_walkFrom_16 (fu : Nat) (S : Sk) (a0 : Nat) (x1 : Int32) (x2 : Int32) (x3 : Int32) (x4 : Int32) (self16 : Int32 → II → Option (II)) (x5 : Int32) (I : II) : Option (II) :=
  gd ((S.1 a0 0) ≠ 0) (if (I ((S.1 a0 0) - 1) 3) ≤ x5 then some (I) else (f_X2_walk fu S I ((S.1 a0 0) - 1) x1 x5).bind fun q5 => (if x3 < (x2 + q5) then jn_X9_walkFrom_82 fu S I self16 a0 x1 x2 x3 x4 x5 else lt (((x5 * (31 : Int32)) + x2) + q5) fun x7_9 => (gd (inb S (S.1 a0 2) x7_9) (lt (wr I (S.1 a0 2) x7_9 (jmin (rd I (S.1 a0 2) x7_9) (x4 + q5))) fun I13 => (jn_X9_walkFrom_82 fu S I13 self16 a0 x1 x2 x3 x4 x5)))))
def f_X9_walkFrom (fu : Nat) (S : Sk) (I : II) (a0 : Nat) (x1 : Int32) (x2 : Int32) (x3 : Int32) : Option (II) :=
  gd (inb S (S.1 a0 1) ((x1 * (31 : Int32)) + x2)) (lt (rd I (S.1 a0 1) ((x1 * (31 : Int32)) + x2)) fun x4_16 => (fix2 (lp_X9_walkFrom_16 fu S a0 x1 x2 x3 x4_16) fu (0 : Int32) I))
set_option maxRecDepth 100000 in
set_option maxHeartbeats 4000000 in
theorem gg_X9_walkFrom {E : EV} (fu : Nat) (S0 : Sk) (I0 : II) (a0 : Nat) (x1 : Int32) (x2 : Int32) (x3 : Int32) (ht0 : tyO S0 9 a0) : GG E i_X9_walkFrom (enM E i_X9_walkFrom S0 (po_X9_walkFrom S0 I0)) S0 I0 (0, 0) 0 [(0, vA (a0 + 1)), (1, vI x1), (2, vI x2), (3, vI x3)] [] (f_X9_walkFrom fu S0 I0 a0 x1 x2 x3) := by
  have hl16 : ∀ (x4 : Int32) (nn : Nat) (x5 : Int32) (I : II), True → GG E i_X9_walkFrom (enM E i_X9_walkFrom S0 (po_X9_walkFrom S0 I0)) S0 I (0, 0) 16 [(0, vA (a0 + 1)), (1, vI x1), (2, vI x2), (3, vI x3), (4, vI x4), (5, vI x5)] [] (fix2 (lp_X9_walkFrom_16 fu S0 a0 x1 x2 x3 x4) nn x5 I) := by
    intro x4 
    refine g_fix2 (fun _ _ => S0) (fun x5 I => I) (fun x5 I => [(0, vA (a0 + 1)), (1, vI x1), (2, vI x2), (3, vI x3), (4, vI x4), (5, vI x5)]) (fun x5 I => True) ?_
    intro self16 hself16 x5 I hinv
    have hj82 : ∀ (I : II) (x5 : Int32), GG E i_X9_walkFrom (enM E i_X9_walkFrom S0 (po_X9_walkFrom S0 I0)) S0 I (0, 0) 82 [(0, vA (a0 + 1)), (1, vI x1), (2, vI x2), (3, vI x3), (4, vI x4), (5, vI x5)] [] (jn_X9_walkFrom_82 fu S0 I self16 a0 x1 x2 x3 x4 x5) := by
      intro I x5 
      unfold jn_X9_walkFrom_82
      refine g_iinc (v := (1 : Int32)) (L' := [(0, vA (a0 + 1)), (1, vI x1), (2, vI x2), (3, vI x3), (4, vI x4), (5, vI (x5 + (1 : Int32)))]) (dk D_X9_walkFrom 47 rfl) rfl rfl (Nat.le_of_ble_eq_true rfl) rfl ?_
      refine g_goto (tgt := 16) (dk D_X9_walkFrom 48 rfl) rfl ?_
      exact hself16 (x5 + (1 : Int32)) I trivial
    unfold lp_X9_walkFrom_16
    refine g_iload (dk D_X9_walkFrom 11 rfl) rfl ?_
    refine g_aload_n (dk D_X9_walkFrom 12 rfl) rfl ?_
    refine g_getAt (t := 2) fl_RX9_32 rfl ht0 (dk D_X9_walkFrom 13 rfl) (fun ht1 => ?_)
    refine g_gd (fun hn2 => ?_)
    refine g_getI fl_RX9_75 (by decide) ht1 hn2 (dk D_X9_walkFrom 14 rfl) ?_
    refine g_icmp_ge (tgt := 88) (dk D_X9_walkFrom 15 rfl) rfl (fun hc3 => ?_) (fun hc3 => ?_)
    · exact g_return rfl rfl Sx.rf rfl (by decide) (by decide) (dk D_X9_walkFrom 49 rfl)
    · refine g_aload_n (dk D_X9_walkFrom 16 rfl) rfl ?_
      refine g_getAt (t := 2) fl_RX9_32 rfl ht0 (dk D_X9_walkFrom 17 rfl) (fun ht4 => ?_)
      refine g_iload_n (dk D_X9_walkFrom 18 rfl) rfl ?_
      refine g_iload (dk D_X9_walkFrom 19 rfl) rfl ?_
      refine g_bind (fun q5 hq6 => ?_)
      refine h_callV (st := []) (c_X2_walk (E := E) fu S0 I ((S0.1 a0 0) - 1) x1 x5 q5 hq6 (ht1.nz hn2)) cl_RX9_96 ht1 hn2 rfl rfl (by decide) (Nat.le_of_ble_eq_true rfl) (dk D_X9_walkFrom 20 rfl) ?_
      refine g_istore (L' := [(0, vA (a0 + 1)), (1, vI x1), (2, vI x2), (3, vI x3), (4, vI x4), (5, vI x5), (6, vI q5)]) (dk D_X9_walkFrom 21 rfl) (Nat.le_of_ble_eq_true rfl) rfl ?_
      refine g_iload_n (dk D_X9_walkFrom 22 rfl) rfl ?_
      refine g_iload (dk D_X9_walkFrom 23 rfl) rfl ?_
      refine g_iadd (dk D_X9_walkFrom 24 rfl) ?_
      refine g_iload_n (dk D_X9_walkFrom 25 rfl) rfl ?_
      refine g_icmp_gt (tgt := 82) (dk D_X9_walkFrom 26 rfl) rfl (fun hc8 => ?_) (fun hc8 => ?_)
      · refine g_Lp [0, 1, 2, 3, 4, 5] rfl ?_
        exact hj82 I x5
      · refine g_iload (dk D_X9_walkFrom 27 rfl) rfl ?_
        refine g_bipush (v := (31 : Int32)) (dk D_X9_walkFrom 28 rfl) rfl ?_
        refine g_imul (dk D_X9_walkFrom 29 rfl) ?_
        refine g_iload_n (dk D_X9_walkFrom 30 rfl) rfl ?_
        refine g_iadd (dk D_X9_walkFrom 31 rfl) ?_
        refine g_iload (dk D_X9_walkFrom 32 rfl) rfl ?_
        refine g_iadd (dk D_X9_walkFrom 33 rfl) ?_
        refine g_ltV (fun x7_9 ex7_9 => ?_)
        refine g_istore (L' := [(0, vA (a0 + 1)), (1, vI x1), (2, vI x2), (3, vI x3), (4, vI x4), (5, vI x5), (6, vI q5), (7, vI x7_9)]) (dk D_X9_walkFrom 34 rfl) (Nat.le_of_ble_eq_true rfl) rfl ?_
        refine g_aload_n (dk D_X9_walkFrom 35 rfl) rfl ?_
        refine g_getAt (t := 100) fl_RX9_15 rfl ht0 (dk D_X9_walkFrom 36 rfl) (fun ht10 => ?_)
        refine g_iload (dk D_X9_walkFrom 37 rfl) rfl ?_
        refine g_aload_n (dk D_X9_walkFrom 38 rfl) rfl ?_
        refine g_getAt (t := 100) fl_RX9_15 rfl ht0 (dk D_X9_walkFrom 39 rfl) (fun ht11 => ?_)
        refine g_iload (dk D_X9_walkFrom 40 rfl) rfl ?_
        refine g_gd (fun hi12 => ?_)
        refine g_iaload ht10 hi12 (dk D_X9_walkFrom 41 rfl) ?_
        refine g_iload (dk D_X9_walkFrom 42 rfl) rfl ?_
        refine g_iload (dk D_X9_walkFrom 43 rfl) rfl ?_
        refine g_iadd (dk D_X9_walkFrom 44 rfl) ?_
        refine g_mmin lk_RX9_80 lk_mmin (by decide) (Nat.le_of_ble_eq_true rfl) (by decide) (by decide) (dk D_X9_walkFrom 45 rfl) ?_
        refine g_iastore ht10 hi12 (dk D_X9_walkFrom 46 rfl) ?_
        refine g_ltI (fun I13 eI13 => ?_)
        refine g_Lp [0, 1, 2, 3, 4, 5] rfl ?_
        exact hj82 I13 x5
  unfold f_X9_walkFrom
  refine g_aload_n (dk D_X9_walkFrom 0 rfl) rfl ?_
  refine g_getAt (t := 100) fl_RX9_11 rfl ht0 (dk D_X9_walkFrom 1 rfl) (fun ht14 => ?_)
  refine g_iload_n (dk D_X9_walkFrom 2 rfl) rfl ?_
  refine g_bipush (v := (31 : Int32)) (dk D_X9_walkFrom 3 rfl) rfl ?_
  refine g_imul (dk D_X9_walkFrom 4 rfl) ?_
  refine g_iload_n (dk D_X9_walkFrom 5 rfl) rfl ?_
  refine g_iadd (dk D_X9_walkFrom 6 rfl) ?_
  refine g_gd (fun hi15 => ?_)
  refine g_iaload ht14 hi15 (dk D_X9_walkFrom 7 rfl) ?_
  refine g_ltV (fun x4_16 ex4_16 => ?_)
  refine g_istore (L' := [(0, vA (a0 + 1)), (1, vI x1), (2, vI x2), (3, vI x3), (4, vI x4_16)]) (dk D_X9_walkFrom 8 rfl) (Nat.le_of_ble_eq_true rfl) rfl ?_
  refine g_iconst (v := (0 : Int32)) (dk D_X9_walkFrom 9 rfl) rfl ?_
  refine g_istore (L' := [(0, vA (a0 + 1)), (1, vI x1), (2, vI x2), (3, vI x3), (4, vI x4_16), (5, vI (0 : Int32))]) (dk D_X9_walkFrom 10 rfl) (Nat.le_of_ble_eq_true rfl) rfl ?_
  exact hl16 x4_16 fu (0 : Int32) I0 trivial
theorem c_X9_walkFrom {E : EV} (fu : Nat) (S0 : Sk) (I0 : II) (a0 : Nat) (x1 : Int32) (x2 : Int32) (x3 : Int32) (r : II) (h : f_X9_walkFrom fu S0 I0 a0 x1 x2 x3 = some r) (ht0 : tyO S0 9 a0) : MX E yX9_walkFrom i_X9_walkFrom S0 I0 [vA (a0 + 1), vI x1, vI x2, vI x3] (po_X9_walkFrom S0 I0 r) :=
  MX.of h (by decide) rfl rfl (Nat.le_of_ble_eq_true rfl) (gg_X9_walkFrom fu S0 I0 a0 x1 x2 x3 ht0)
theorem cl_RX9_92 : CV0 RX9 92 yX9_walkFrom i_X9_walkFrom 3 9 := ⟨⟨(gm 671 (by decide +kernel) (by decide +kernel)), (gm 68 (by decide +kernel) (by decide +kernel)), ((gm 674 (by decide +kernel) (by decide +kernel))), by decide +kernel, by decide +kernel, by decide +kernel⟩, ⟨(gm 673 (by decide +kernel) (by decide +kernel)), (gm 8 (by decide +kernel) (by decide +kernel))⟩, rfl, by decide⟩
theorem lk_RX9_86 : Cond.methodLink RX9 86 arraycopyName ∈ lw_good := (gm 670 (by decide +kernel) (by decide +kernel))
def tb_X9_walkOn : List (Nat × Instr × Nat) := [(0, .aload_n 0, 1), (1, .getfield 11, 3), (4, .iconst 0, 1), (5, .aload_n 0, 1), (6, .getfield 15, 3), (9, .iconst 0, 1), (10, .aload_n 0, 1), (11, .getfield 11, 3), (14, .arraylength, 1), (15, .invokestatic 86, 3), (18, .iconst 0, 1), (19, .istore_n 2, 1), (20, .iload_n 2, 1), (21, .aload_n 0, 1), (22, .getfield 32, 3), (25, .getfield 75, 3), (28, .if_icmp .ge 45, 3), (31, .iconst 0, 1), (32, .istore_n 3, 1), (33, .iload_n 3, 1), (34, .iload_n 1, 1), (35, .if_icmp .gt 32, 3), (38, .aload_n 0, 1), (39, .getfield 11, 3), (42, .iload_n 2, 1), (43, .bipush 31, 2), (45, .imul, 1), (46, .iload_n 3, 1), (47, .iadd, 1), (48, .iaload, 1), (49, .ldc 21, 2), (51, .if_icmp .eq 10, 3), (54, .aload_n 0, 1), (55, .iload_n 2, 1), (56, .iload_n 3, 1), (57, .iload_n 1, 1), (58, .invokevirtual 92, 3), (61, .iinc 3 1, 3), (64, .goto (-31), 3), (67, .iinc 2 1, 3), (70, .goto (-50), 3), (73, .return_, 1)]
def i_X9_walkOn : MI := (RX9, cX9_walkOn, 4, none, "walkOn", { frames := 2, cells := 0, slots := 0, locals := 107 })
theorem D_X9_walkOn : tbOK (i_X9_walkOn).2.1 tb_X9_walkOn := by show ∀ q ∈ tb_X9_walkOn, decode cX9_walkOn q.1 = .ok (q.2.1, q.2.2); decide +kernel
def po_X9_walkOn (S : Sk) (I : II) (r : II) : Option LV × Sk × II := (none, S, r)
def jn_X9_walkOn_61 (fu : Nat) (S : Sk) (I : II) (self20 : Int32 → II → Option (II)) (self33 : Int32 → II → Option (II)) (a0 : Nat) (x1 : Int32) (x2 : Int32) (x3 : Int32) : Option (II) :=
  self33 (x3 + (1 : Int32)) I
def lp_X9_walkOn_33 (fu : Nat) (S : Sk) (self20 : Int32 → II → Option (II)) (a0 : Nat) (x1 : Int32) (x2 : Int32) (self33 : Int32 → II → Option (II)) (x3 : Int32) (I : II) : Option (II) :=
  if x1 < x3 then self20 (x2 + (1 : Int32)) I else gd (inb S (S.1 a0 1) ((x2 * (31 : Int32)) + x3)) (if (rd I (S.1 a0 1) ((x2 * (31 : Int32)) + x3)) = (1073741824 : Int32) then jn_X9_walkOn_61 fu S I self20 self33 a0 x1 x2 x3 else (f_X9_walkFrom fu S I a0 x2 x3 x1).bind fun q5 => (jn_X9_walkOn_61 fu S q5 self20 self33 a0 x1 x2 x3))
def lp_X9_walkOn_20 (fu : Nat) (S : Sk) (a0 : Nat) (x1 : Int32) (self20 : Int32 → II → Option (II)) (x2 : Int32) (I : II) : Option (II) :=
  gd ((S.1 a0 0) ≠ 0) (if (I ((S.1 a0 0) - 1) 3) ≤ x2 then some (I) else fix2 (lp_X9_walkOn_33 fu S self20 a0 x1 x2) fu (0 : Int32) I)
def f_X9_walkOn (fu : Nat) (S : Sk) (I : II) (a0 : Nat) (x1 : Int32) : Option (II) :=
  gd ((S.1 a0 1) ≠ 0) (gd (inC S (S.1 a0 1) (0 : Int32) (S.1 a0 2) (0 : Int32) ((S.2.2.1 ((S.1 a0 1) - 1)).toInt32)) (lt (cpI I (S.1 a0 1) (0 : Int32) (S.1 a0 2) (0 : Int32) ((S.2.2.1 ((S.1 a0 1) - 1)).toInt32)) fun I16 => (fix2 (lp_X9_walkOn_20 fu S a0 x1) fu (0 : Int32) I16)))
set_option maxRecDepth 100000 in
set_option maxHeartbeats 4000000 in
theorem gg_X9_walkOn {E : EV} (fu : Nat) (S0 : Sk) (I0 : II) (a0 : Nat) (x1 : Int32) (ht0 : tyO S0 9 a0) : GG E i_X9_walkOn (enM E i_X9_walkOn S0 (po_X9_walkOn S0 I0)) S0 I0 (0, 0) 0 [(0, vA (a0 + 1)), (1, vI x1)] [] (f_X9_walkOn fu S0 I0 a0 x1) := by
  have hl20 : ∀ (nn : Nat) (x2 : Int32) (I : II), True → GG E i_X9_walkOn (enM E i_X9_walkOn S0 (po_X9_walkOn S0 I0)) S0 I (0, 0) 20 [(0, vA (a0 + 1)), (1, vI x1), (2, vI x2)] [] (fix2 (lp_X9_walkOn_20 fu S0 a0 x1) nn x2 I) := by
    refine g_fix2 (fun _ _ => S0) (fun x2 I => I) (fun x2 I => [(0, vA (a0 + 1)), (1, vI x1), (2, vI x2)]) (fun x2 I => True) ?_
    intro self20 hself20 x2 I hinv
    have hl33 : ∀ (x2 : Int32) (nn : Nat) (x3 : Int32) (I : II), True → GG E i_X9_walkOn (enM E i_X9_walkOn S0 (po_X9_walkOn S0 I0)) S0 I (0, 0) 33 [(0, vA (a0 + 1)), (1, vI x1), (2, vI x2), (3, vI x3)] [] (fix2 (lp_X9_walkOn_33 fu S0 self20 a0 x1 x2) nn x3 I) := by
      intro x2 
      refine g_fix2 (fun _ _ => S0) (fun x3 I => I) (fun x3 I => [(0, vA (a0 + 1)), (1, vI x1), (2, vI x2), (3, vI x3)]) (fun x3 I => True) ?_
      intro self33 hself33 x3 I hinv
      have hj61 : ∀ (I : II) (x3 : Int32), GG E i_X9_walkOn (enM E i_X9_walkOn S0 (po_X9_walkOn S0 I0)) S0 I (0, 0) 61 [(0, vA (a0 + 1)), (1, vI x1), (2, vI x2), (3, vI x3)] [] (jn_X9_walkOn_61 fu S0 I self20 self33 a0 x1 x2 x3) := by
        intro I x3 
        unfold jn_X9_walkOn_61
        refine g_iinc (v := (1 : Int32)) (L' := [(0, vA (a0 + 1)), (1, vI x1), (2, vI x2), (3, vI (x3 + (1 : Int32)))]) (dk D_X9_walkOn 37 rfl) rfl rfl (Nat.le_of_ble_eq_true rfl) rfl ?_
        refine g_goto (tgt := 33) (dk D_X9_walkOn 38 rfl) rfl ?_
        exact hself33 (x3 + (1 : Int32)) I trivial
      unfold lp_X9_walkOn_33
      refine g_iload_n (dk D_X9_walkOn 19 rfl) rfl ?_
      refine g_iload_n (dk D_X9_walkOn 20 rfl) rfl ?_
      refine g_icmp_gt (tgt := 67) (dk D_X9_walkOn 21 rfl) rfl (fun hc1 => ?_) (fun hc1 => ?_)
      · refine g_iinc (v := (1 : Int32)) (L' := [(0, vA (a0 + 1)), (1, vI x1), (2, vI (x2 + (1 : Int32))), (3, vI x3)]) (dk D_X9_walkOn 39 rfl) rfl rfl (Nat.le_of_ble_eq_true rfl) rfl ?_
        refine g_goto (tgt := 20) (dk D_X9_walkOn 40 rfl) rfl ?_
        refine g_Lp [0, 1, 2] rfl ?_
        exact hself20 (x2 + (1 : Int32)) I trivial
      · refine g_aload_n (dk D_X9_walkOn 22 rfl) rfl ?_
        refine g_getAt (t := 100) fl_RX9_11 rfl ht0 (dk D_X9_walkOn 23 rfl) (fun ht2 => ?_)
        refine g_iload_n (dk D_X9_walkOn 24 rfl) rfl ?_
        refine g_bipush (v := (31 : Int32)) (dk D_X9_walkOn 25 rfl) rfl ?_
        refine g_imul (dk D_X9_walkOn 26 rfl) ?_
        refine g_iload_n (dk D_X9_walkOn 27 rfl) rfl ?_
        refine g_iadd (dk D_X9_walkOn 28 rfl) ?_
        refine g_gd (fun hi3 => ?_)
        refine g_iaload ht2 hi3 (dk D_X9_walkOn 29 rfl) ?_
        refine g_ldc (dk D_X9_walkOn 30 rfl) lk_RX9_21 ?_
        refine g_icmp_eq (tgt := 61) (dk D_X9_walkOn 31 rfl) rfl (fun hc4 => ?_) (fun hc4 => ?_)
        · exact hj61 I x3
        · refine g_aload_n (dk D_X9_walkOn 32 rfl) rfl ?_
          refine g_iload_n (dk D_X9_walkOn 33 rfl) rfl ?_
          refine g_iload_n (dk D_X9_walkOn 34 rfl) rfl ?_
          refine g_iload_n (dk D_X9_walkOn 35 rfl) rfl ?_
          refine g_bind (fun q5 hq6 => ?_)
          refine h_callVt (st := []) (c_X9_walkFrom (E := E) fu S0 I a0 x2 x3 x1 q5 hq6 (ht0)) cl_RX9_92 ht0 rfl rfl (by decide) (Nat.le_of_ble_eq_true rfl) (dk D_X9_walkOn 36 rfl) ?_
          exact hj61 q5 x3
    unfold lp_X9_walkOn_20
    refine g_iload_n (dk D_X9_walkOn 12 rfl) rfl ?_
    refine g_aload_n (dk D_X9_walkOn 13 rfl) rfl ?_
    refine g_getAt (t := 2) fl_RX9_32 rfl ht0 (dk D_X9_walkOn 14 rfl) (fun ht8 => ?_)
    refine g_gd (fun hn9 => ?_)
    refine g_getI fl_RX9_75 (by decide) ht8 hn9 (dk D_X9_walkOn 15 rfl) ?_
    refine g_icmp_ge (tgt := 73) (dk D_X9_walkOn 16 rfl) rfl (fun hc10 => ?_) (fun hc10 => ?_)
    · exact g_return rfl rfl Sx.rf rfl (by decide) (by decide) (dk D_X9_walkOn 41 rfl)
    · refine g_iconst (v := (0 : Int32)) (dk D_X9_walkOn 17 rfl) rfl ?_
      refine g_istore_n (L' := [(0, vA (a0 + 1)), (1, vI x1), (2, vI x2), (3, vI (0 : Int32))]) (dk D_X9_walkOn 18 rfl) (Nat.le_of_ble_eq_true rfl) rfl ?_
      exact hl33 x2 fu (0 : Int32) I trivial
  unfold f_X9_walkOn
  refine g_aload_n (dk D_X9_walkOn 0 rfl) rfl ?_
  refine g_getAt (t := 100) fl_RX9_11 rfl ht0 (dk D_X9_walkOn 1 rfl) (fun ht11 => ?_)
  refine g_iconst (v := (0 : Int32)) (dk D_X9_walkOn 2 rfl) rfl ?_
  refine g_aload_n (dk D_X9_walkOn 3 rfl) rfl ?_
  refine g_getAt (t := 100) fl_RX9_15 rfl ht0 (dk D_X9_walkOn 4 rfl) (fun ht12 => ?_)
  refine g_iconst (v := (0 : Int32)) (dk D_X9_walkOn 5 rfl) rfl ?_
  refine g_aload_n (dk D_X9_walkOn 6 rfl) rfl ?_
  refine g_getAt (t := 100) fl_RX9_11 rfl ht0 (dk D_X9_walkOn 7 rfl) (fun ht13 => ?_)
  refine g_gd (fun hn14 => ?_)
  refine g_alen (t := 0) ht11 hn14 rfl (dk D_X9_walkOn 8 rfl) ?_
  refine g_gd (fun hi15 => ?_)
  refine g_acopy lk_RX9_86 lk_acp ht11 ht12 hi15 (by decide) (by decide +kernel) (dk D_X9_walkOn 9 rfl) ?_
  refine g_ltI (fun I16 eI16 => ?_)
  refine g_iconst (v := (0 : Int32)) (dk D_X9_walkOn 10 rfl) rfl ?_
  refine g_istore_n (L' := [(0, vA (a0 + 1)), (1, vI x1), (2, vI (0 : Int32))]) (dk D_X9_walkOn 11 rfl) (Nat.le_of_ble_eq_true rfl) rfl ?_
  exact hl20 fu (0 : Int32) I16 trivial
theorem c_X9_walkOn {E : EV} (fu : Nat) (S0 : Sk) (I0 : II) (a0 : Nat) (x1 : Int32) (r : II) (h : f_X9_walkOn fu S0 I0 a0 x1 = some r) (ht0 : tyO S0 9 a0) : MX E yX9_walkOn i_X9_walkOn S0 I0 [vA (a0 + 1), vI x1] (po_X9_walkOn S0 I0 r) :=
  MX.of h (by decide) rfl rfl (Nat.le_of_ble_eq_true rfl) (gg_X9_walkOn fu S0 I0 a0 x1 ht0)
theorem fl_RX9_53 : FL RX9 53 8 3 := ⟨RX8, TX8, 5, rfl, by decide, rfl, by decide, (gm 621 (by decide +kernel) (by decide +kernel)), inG8⟩
theorem fl_RX9_99 : FL RX9 99 8 1 := ⟨RX8, TX8, 5, rfl, by decide, rfl, by decide, (gm 617 (by decide +kernel) (by decide +kernel)), inG8⟩
def tb_X9_noteArrival : List (Nat × Instr × Nat) := [(0, .iconst 0, 1), (1, .istore_n 3, 1), (2, .iload_n 3, 1), (3, .aload_n 1, 1), (4, .getfield 53, 3), (7, .if_icmp .gt 50, 3), (10, .aload_n 0, 1), (11, .getfield 15, 3), (14, .aload_n 1, 1), (15, .getfield 99, 3), (18, .bipush 31, 2), (20, .imul, 1), (21, .iload_n 3, 1), (22, .iadd, 1), (23, .iaload, 1), (24, .istore 4, 2), (26, .iload 4, 2), (28, .aload_n 0, 1), (29, .getfield 22, 3), (32, .if_icmp .ge 19, 3), (35, .aload_n 0, 1), (36, .iload 4, 2), (38, .putfield 22, 3), (41, .aload_n 0, 1), (42, .iload_n 2, 1), (43, .putfield 26, 3), (46, .aload_n 0, 1), (47, .iload_n 3, 1), (48, .putfield 29, 3), (51, .iinc 3 1, 3), (54, .goto (-52), 3), (57, .return_, 1)]
def i_X9_noteArrival : MI := (RX9, cX9_noteArrival, 5, none, "noteArrival", { frames := 0, cells := 0, slots := 0, locals := 0 })
theorem D_X9_noteArrival : tbOK (i_X9_noteArrival).2.1 tb_X9_noteArrival := by show ∀ q ∈ tb_X9_noteArrival, decode cX9_noteArrival q.1 = .ok (q.2.1, q.2.2); decide +kernel
def po_X9_noteArrival (S : Sk) (I : II) (r : II) : Option LV × Sk × II := (none, S, r)
def jn_X9_noteArrival_51 (fu : Nat) (S : Sk) (I : II) (self2 : Int32 → II → Option (II)) (a0 : Nat) (r1 : Nat) (x2 : Int32) (x3 : Int32) : Option (II) :=
  self2 (x3 + (1 : Int32)) I
def lp_X9_noteArrival_2 (fu : Nat) (S : Sk) (a0 : Nat) (r1 : Nat) (x2 : Int32) (self2 : Int32 → II → Option (II)) (x3 : Int32) (I : II) : Option (II) :=
  gd (r1 ≠ 0) (if (I (r1 - 1) 3) < x3 then some (I) else gd (inb S (S.1 a0 2) (((I (r1 - 1) 1) * (31 : Int32)) + x3)) (lt (rd I (S.1 a0 2) (((I (r1 - 1) 1) * (31 : Int32)) + x3)) fun x4_5 => (if (I a0 4) ≤ x4_5 then jn_X9_noteArrival_51 fu S I self2 a0 r1 x2 x3 else lt (upI I a0 4 x4_5) fun I7 => (lt (upI I7 a0 5 x2) fun I8 => (lt (upI I8 a0 6 x3) fun I9 => (jn_X9_noteArrival_51 fu S I9 self2 a0 r1 x2 x3))))))
def f_X9_noteArrival (fu : Nat) (S : Sk) (I : II) (a0 : Nat) (r1 : Nat) (x2 : Int32) : Option (II) :=
  fix2 (lp_X9_noteArrival_2 fu S a0 r1 x2) fu (0 : Int32) I
set_option maxRecDepth 100000 in
set_option maxHeartbeats 4000000 in
theorem gg_X9_noteArrival {E : EV} (fu : Nat) (S0 : Sk) (I0 : II) (a0 : Nat) (r1 : Nat) (x2 : Int32) (ht0 : tyO S0 9 a0) (h_r1 : tyR S0 8 r1) : GG E i_X9_noteArrival (enM E i_X9_noteArrival S0 (po_X9_noteArrival S0 I0)) S0 I0 (0, 0) 0 [(0, vA (a0 + 1)), (1, vA r1), (2, vI x2)] [] (f_X9_noteArrival fu S0 I0 a0 r1 x2) := by
  have hl2 : ∀ (nn : Nat) (x3 : Int32) (I : II), True → GG E i_X9_noteArrival (enM E i_X9_noteArrival S0 (po_X9_noteArrival S0 I0)) S0 I (0, 0) 2 [(0, vA (a0 + 1)), (1, vA r1), (2, vI x2), (3, vI x3)] [] (fix2 (lp_X9_noteArrival_2 fu S0 a0 r1 x2) nn x3 I) := by
    refine g_fix2 (fun _ _ => S0) (fun x3 I => I) (fun x3 I => [(0, vA (a0 + 1)), (1, vA r1), (2, vI x2), (3, vI x3)]) (fun x3 I => True) ?_
    intro self2 hself2 x3 I hinv
    have hj51 : ∀ (I : II) (x3 : Int32), GG E i_X9_noteArrival (enM E i_X9_noteArrival S0 (po_X9_noteArrival S0 I0)) S0 I (0, 0) 51 [(0, vA (a0 + 1)), (1, vA r1), (2, vI x2), (3, vI x3)] [] (jn_X9_noteArrival_51 fu S0 I self2 a0 r1 x2 x3) := by
      intro I x3 
      unfold jn_X9_noteArrival_51
      refine g_iinc (v := (1 : Int32)) (L' := [(0, vA (a0 + 1)), (1, vA r1), (2, vI x2), (3, vI (x3 + (1 : Int32)))]) (dk D_X9_noteArrival 29 rfl) rfl rfl (Nat.le_of_ble_eq_true rfl) rfl ?_
      refine g_goto (tgt := 2) (dk D_X9_noteArrival 30 rfl) rfl ?_
      exact hself2 (x3 + (1 : Int32)) I trivial
    unfold lp_X9_noteArrival_2
    refine g_iload_n (dk D_X9_noteArrival 2 rfl) rfl ?_
    refine g_aload_n (dk D_X9_noteArrival 3 rfl) rfl ?_
    refine g_gd (fun hn1 => ?_)
    refine g_getI fl_RX9_53 (by decide) h_r1 hn1 (dk D_X9_noteArrival 4 rfl) ?_
    refine g_icmp_gt (tgt := 57) (dk D_X9_noteArrival 5 rfl) rfl (fun hc2 => ?_) (fun hc2 => ?_)
    · exact g_return rfl rfl Sx.rf rfl (by decide) (by decide) (dk D_X9_noteArrival 31 rfl)
    · refine g_aload_n (dk D_X9_noteArrival 6 rfl) rfl ?_
      refine g_getAt (t := 100) fl_RX9_15 rfl ht0 (dk D_X9_noteArrival 7 rfl) (fun ht3 => ?_)
      refine g_aload_n (dk D_X9_noteArrival 8 rfl) rfl ?_
      refine g_getI fl_RX9_99 (by decide) h_r1 hn1 (dk D_X9_noteArrival 9 rfl) ?_
      refine g_bipush (v := (31 : Int32)) (dk D_X9_noteArrival 10 rfl) rfl ?_
      refine g_imul (dk D_X9_noteArrival 11 rfl) ?_
      refine g_iload_n (dk D_X9_noteArrival 12 rfl) rfl ?_
      refine g_iadd (dk D_X9_noteArrival 13 rfl) ?_
      refine g_gd (fun hi4 => ?_)
      refine g_iaload ht3 hi4 (dk D_X9_noteArrival 14 rfl) ?_
      refine g_ltV (fun x4_5 ex4_5 => ?_)
      refine g_istore (L' := [(0, vA (a0 + 1)), (1, vA r1), (2, vI x2), (3, vI x3), (4, vI x4_5)]) (dk D_X9_noteArrival 15 rfl) (Nat.le_of_ble_eq_true rfl) rfl ?_
      refine g_iload (dk D_X9_noteArrival 16 rfl) rfl ?_
      refine g_aload_n (dk D_X9_noteArrival 17 rfl) rfl ?_
      refine g_getIt fl_RX9_22 (by decide) ht0 (dk D_X9_noteArrival 18 rfl) ?_
      refine g_icmp_ge (tgt := 51) (dk D_X9_noteArrival 19 rfl) rfl (fun hc6 => ?_) (fun hc6 => ?_)
      · refine g_Lp [0, 1, 2, 3] rfl ?_
        exact hj51 I x3
      · refine g_aload_n (dk D_X9_noteArrival 20 rfl) rfl ?_
        refine g_iload (dk D_X9_noteArrival 21 rfl) rfl ?_
        refine g_putIt fl_RX9_22 fp_9_4 (fun h => (by cases h)) (by decide) rfl rfl ht0 (dk D_X9_noteArrival 22 rfl) ?_
        refine g_ltI (fun I7 eI7 => ?_)
        refine g_aload_n (dk D_X9_noteArrival 23 rfl) rfl ?_
        refine g_iload_n (dk D_X9_noteArrival 24 rfl) rfl ?_
        refine g_putIt fl_RX9_26 fp_9_5 (fun h => (by cases h)) (by decide) rfl rfl ht0 (dk D_X9_noteArrival 25 rfl) ?_
        refine g_ltI (fun I8 eI8 => ?_)
        refine g_aload_n (dk D_X9_noteArrival 26 rfl) rfl ?_
        refine g_iload_n (dk D_X9_noteArrival 27 rfl) rfl ?_
        refine g_putIt fl_RX9_29 fp_9_6 (fun h => (by cases h)) (by decide) rfl rfl ht0 (dk D_X9_noteArrival 28 rfl) ?_
        refine g_ltI (fun I9 eI9 => ?_)
        refine g_Lp [0, 1, 2, 3] rfl ?_
        exact hj51 I9 x3
  unfold f_X9_noteArrival
  refine g_iconst (v := (0 : Int32)) (dk D_X9_noteArrival 0 rfl) rfl ?_
  refine g_istore_n (L' := [(0, vA (a0 + 1)), (1, vA r1), (2, vI x2), (3, vI (0 : Int32))]) (dk D_X9_noteArrival 1 rfl) (Nat.le_of_ble_eq_true rfl) rfl ?_
  exact hl2 fu (0 : Int32) I0 trivial
theorem c_X9_noteArrival {E : EV} (fu : Nat) (S0 : Sk) (I0 : II) (a0 : Nat) (r1 : Nat) (x2 : Int32) (r : II) (h : f_X9_noteArrival fu S0 I0 a0 r1 x2 = some r) (ht0 : tyO S0 9 a0) (h_r1 : tyR S0 8 r1) : MX E yX9_noteArrival i_X9_noteArrival S0 I0 [vA (a0 + 1), vA r1, vI x2] (po_X9_noteArrival S0 I0 r) :=
  MX.of h (by decide) rfl rfl (Nat.le_of_ble_eq_true rfl) (gg_X9_noteArrival fu S0 I0 a0 r1 x2 ht0 h_r1)
def tb_X9_remember : List (Nat × Instr × Nat) := [(0, .iconst 0, 1), (1, .istore_n 2, 1), (2, .iconst 0, 1), (3, .istore_n 3, 1), (4, .iload_n 3, 1), (5, .aload_n 0, 1), (6, .getfield 32, 3), (9, .getfield 75, 3), (12, .if_icmp .ge 66, 3), (15, .iconst 0, 1), (16, .istore 4, 2), (18, .iload 4, 2), (20, .iload_n 1, 1), (21, .if_icmp .gt 51, 3), (24, .iload_n 3, 1), (25, .bipush 31, 2), (27, .imul, 1), (28, .iload 4, 2), (30, .iadd, 1), (31, .istore 5, 2), (33, .aload_n 0, 1), (34, .getfield 15, 3), (37, .iload 5, 2), (39, .iaload, 1), (40, .ldc 21, 2), (42, .if_icmp .eq 24, 3), (45, .aload_n 0, 1), (46, .getfield 18, 3), (49, .iload 5, 2), (51, .aload_n 0, 1), (52, .getfield 15, 3), (55, .iload 5, 2), (57, .iaload, 1), (58, .iastore, 1), (59, .iload_n 2, 1), (60, .iconst 1, 1), (61, .iload 4, 2), (63, .ishl, 1), (64, .ior, 1), (65, .istore_n 2, 1), (66, .iinc 4 1, 3), (69, .goto (-51), 3), (72, .iinc 3 1, 3), (75, .goto (-71), 3), (78, .iload_n 2, 1), (79, .ireturn, 1)]
def i_X9_remember : MI := (RX9, cX9_remember, 6, (some .int), "remember", { frames := 0, cells := 0, slots := 0, locals := 0 })
theorem D_X9_remember : tbOK (i_X9_remember).2.1 tb_X9_remember := by show ∀ q ∈ tb_X9_remember, decode cX9_remember q.1 = .ok (q.2.1, q.2.2); decide +kernel
def po_X9_remember (S : Sk) (I : II) (r : Int32 × II) : Option LV × Sk × II := (some (vI r.1), S, r.2)
def jn_X9_remember_66 (fu : Nat) (S : Sk) (I : II) (self4 : Int32 → Int32 → II → Option (Int32 × II)) (self18 : Int32 → Int32 → II → Option (Int32 × II)) (a0 : Nat) (x1 : Int32) (x2 : Int32) (x3 : Int32) (x4 : Int32) : Option (Int32 × II) :=
  self18 x2 (x4 + (1 : Int32)) I
def lp_X9_remember_18 (fu : Nat) (S : Sk) (self4 : Int32 → Int32 → II → Option (Int32 × II)) (a0 : Nat) (x1 : Int32) (x3 : Int32) (self18 : Int32 → Int32 → II → Option (Int32 × II)) (x2 : Int32) (x4 : Int32) (I : II) : Option (Int32 × II) :=
  if x1 < x4 then self4 x2 (x3 + (1 : Int32)) I else lt ((x3 * (31 : Int32)) + x4) fun x5_2 => (gd (inb S (S.1 a0 2) x5_2) (if (rd I (S.1 a0 2) x5_2) = (1073741824 : Int32) then jn_X9_remember_66 fu S I self4 self18 a0 x1 x2 x3 x4 else gd (inb S (S.1 a0 3) x5_2) (lt (wr I (S.1 a0 3) x5_2 (rd I (S.1 a0 2) x5_2)) fun I9 => (lt (x2 ||| ((1 : Int32) <<< (x4 &&& 31))) fun x2_10 => (jn_X9_remember_66 fu S I9 self4 self18 a0 x1 x2_10 x3 x4)))))
def lp_X9_remember_4 (fu : Nat) (S : Sk) (a0 : Nat) (x1 : Int32) (self4 : Int32 → Int32 → II → Option (Int32 × II)) (x2 : Int32) (x3 : Int32) (I : II) : Option (Int32 × II) :=
  gd ((S.1 a0 0) ≠ 0) (if (I ((S.1 a0 0) - 1) 3) ≤ x3 then some ((x2, I)) else fix3 (lp_X9_remember_18 fu S self4 a0 x1 x3) fu x2 (0 : Int32) I)
def f_X9_remember (fu : Nat) (S : Sk) (I : II) (a0 : Nat) (x1 : Int32) : Option (Int32 × II) :=
  fix3 (lp_X9_remember_4 fu S a0 x1) fu (0 : Int32) (0 : Int32) I
set_option maxRecDepth 100000 in
set_option maxHeartbeats 4000000 in
theorem gg_X9_remember {E : EV} (fu : Nat) (S0 : Sk) (I0 : II) (a0 : Nat) (x1 : Int32) (ht0 : tyO S0 9 a0) : GG E i_X9_remember (enM E i_X9_remember S0 (po_X9_remember S0 I0)) S0 I0 (0, 0) 0 [(0, vA (a0 + 1)), (1, vI x1)] [] (f_X9_remember fu S0 I0 a0 x1) := by
  have hl4 : ∀ (nn : Nat) (x2 : Int32) (x3 : Int32) (I : II), True → GG E i_X9_remember (enM E i_X9_remember S0 (po_X9_remember S0 I0)) S0 I (0, 0) 4 [(0, vA (a0 + 1)), (1, vI x1), (2, vI x2), (3, vI x3)] [] (fix3 (lp_X9_remember_4 fu S0 a0 x1) nn x2 x3 I) := by
    refine g_fix3 (fun _ _ _ => S0) (fun x2 x3 I => I) (fun x2 x3 I => [(0, vA (a0 + 1)), (1, vI x1), (2, vI x2), (3, vI x3)]) (fun x2 x3 I => True) ?_
    intro self4 hself4 x2 x3 I hinv
    have hl18 : ∀ (x3 : Int32) (nn : Nat) (x2 : Int32) (x4 : Int32) (I : II), True → GG E i_X9_remember (enM E i_X9_remember S0 (po_X9_remember S0 I0)) S0 I (0, 0) 18 [(0, vA (a0 + 1)), (1, vI x1), (2, vI x2), (3, vI x3), (4, vI x4)] [] (fix3 (lp_X9_remember_18 fu S0 self4 a0 x1 x3) nn x2 x4 I) := by
      intro x3 
      refine g_fix3 (fun _ _ _ => S0) (fun x2 x4 I => I) (fun x2 x4 I => [(0, vA (a0 + 1)), (1, vI x1), (2, vI x2), (3, vI x3), (4, vI x4)]) (fun x2 x4 I => True) ?_
      intro self18 hself18 x2 x4 I hinv
      have hj66 : ∀ (I : II) (x2 : Int32) (x4 : Int32), GG E i_X9_remember (enM E i_X9_remember S0 (po_X9_remember S0 I0)) S0 I (0, 0) 66 [(0, vA (a0 + 1)), (1, vI x1), (2, vI x2), (3, vI x3), (4, vI x4)] [] (jn_X9_remember_66 fu S0 I self4 self18 a0 x1 x2 x3 x4) := by
        intro I x2 x4 
        unfold jn_X9_remember_66
        refine g_iinc (v := (1 : Int32)) (L' := [(0, vA (a0 + 1)), (1, vI x1), (2, vI x2), (3, vI x3), (4, vI (x4 + (1 : Int32)))]) (dk D_X9_remember 40 rfl) rfl rfl (Nat.le_of_ble_eq_true rfl) rfl ?_
        refine g_goto (tgt := 18) (dk D_X9_remember 41 rfl) rfl ?_
        exact hself18 x2 (x4 + (1 : Int32)) I trivial
      unfold lp_X9_remember_18
      refine g_iload (dk D_X9_remember 11 rfl) rfl ?_
      refine g_iload_n (dk D_X9_remember 12 rfl) rfl ?_
      refine g_icmp_gt (tgt := 72) (dk D_X9_remember 13 rfl) rfl (fun hc1 => ?_) (fun hc1 => ?_)
      · refine g_iinc (v := (1 : Int32)) (L' := [(0, vA (a0 + 1)), (1, vI x1), (2, vI x2), (3, vI (x3 + (1 : Int32))), (4, vI x4)]) (dk D_X9_remember 42 rfl) rfl rfl (Nat.le_of_ble_eq_true rfl) rfl ?_
        refine g_goto (tgt := 4) (dk D_X9_remember 43 rfl) rfl ?_
        refine g_Lp [0, 1, 2, 3] rfl ?_
        exact hself4 x2 (x3 + (1 : Int32)) I trivial
      · refine g_iload_n (dk D_X9_remember 14 rfl) rfl ?_
        refine g_bipush (v := (31 : Int32)) (dk D_X9_remember 15 rfl) rfl ?_
        refine g_imul (dk D_X9_remember 16 rfl) ?_
        refine g_iload (dk D_X9_remember 17 rfl) rfl ?_
        refine g_iadd (dk D_X9_remember 18 rfl) ?_
        refine g_ltV (fun x5_2 ex5_2 => ?_)
        refine g_istore (L' := [(0, vA (a0 + 1)), (1, vI x1), (2, vI x2), (3, vI x3), (4, vI x4), (5, vI x5_2)]) (dk D_X9_remember 19 rfl) (Nat.le_of_ble_eq_true rfl) rfl ?_
        refine g_aload_n (dk D_X9_remember 20 rfl) rfl ?_
        refine g_getAt (t := 100) fl_RX9_15 rfl ht0 (dk D_X9_remember 21 rfl) (fun ht3 => ?_)
        refine g_iload (dk D_X9_remember 22 rfl) rfl ?_
        refine g_gd (fun hi4 => ?_)
        refine g_iaload ht3 hi4 (dk D_X9_remember 23 rfl) ?_
        refine g_ldc (dk D_X9_remember 24 rfl) lk_RX9_21 ?_
        refine g_icmp_eq (tgt := 66) (dk D_X9_remember 25 rfl) rfl (fun hc5 => ?_) (fun hc5 => ?_)
        · refine g_Lp [0, 1, 2, 3, 4] rfl ?_
          exact hj66 I x2 x4
        · refine g_aload_n (dk D_X9_remember 26 rfl) rfl ?_
          refine g_getAt (t := 100) fl_RX9_18 rfl ht0 (dk D_X9_remember 27 rfl) (fun ht6 => ?_)
          refine g_iload (dk D_X9_remember 28 rfl) rfl ?_
          refine g_aload_n (dk D_X9_remember 29 rfl) rfl ?_
          refine g_getAt (t := 100) fl_RX9_15 rfl ht0 (dk D_X9_remember 30 rfl) (fun ht7 => ?_)
          refine g_iload (dk D_X9_remember 31 rfl) rfl ?_
          refine g_iaload ht3 hi4 (dk D_X9_remember 32 rfl) ?_
          refine g_gd (fun hi8 => ?_)
          refine g_iastore ht6 hi8 (dk D_X9_remember 33 rfl) ?_
          refine g_ltI (fun I9 eI9 => ?_)
          refine g_iload_n (dk D_X9_remember 34 rfl) rfl ?_
          refine g_iconst (v := (1 : Int32)) (dk D_X9_remember 35 rfl) rfl ?_
          refine g_iload (dk D_X9_remember 36 rfl) rfl ?_
          refine g_ishl (dk D_X9_remember 37 rfl) ?_
          refine g_ior (dk D_X9_remember 38 rfl) ?_
          refine g_ltV (fun x2_10 ex2_10 => ?_)
          refine g_istore_n (L' := [(0, vA (a0 + 1)), (1, vI x1), (2, vI x2_10), (3, vI x3), (4, vI x4), (5, vI x5_2)]) (dk D_X9_remember 39 rfl) (Nat.le_of_ble_eq_true rfl) rfl ?_
          refine g_Lp [0, 1, 2, 3, 4] rfl ?_
          exact hj66 I9 x2_10 x4
    unfold lp_X9_remember_4
    refine g_iload_n (dk D_X9_remember 4 rfl) rfl ?_
    refine g_aload_n (dk D_X9_remember 5 rfl) rfl ?_
    refine g_getAt (t := 2) fl_RX9_32 rfl ht0 (dk D_X9_remember 6 rfl) (fun ht11 => ?_)
    refine g_gd (fun hn12 => ?_)
    refine g_getI fl_RX9_75 (by decide) ht11 hn12 (dk D_X9_remember 7 rfl) ?_
    refine g_icmp_ge (tgt := 78) (dk D_X9_remember 8 rfl) rfl (fun hc13 => ?_) (fun hc13 => ?_)
    · refine g_iload_n (dk D_X9_remember 44 rfl) rfl ?_
      exact g_ireturn rfl rfl Sx.rf rfl (by decide) (by decide) (dk D_X9_remember 45 rfl)
    · refine g_iconst (v := (0 : Int32)) (dk D_X9_remember 9 rfl) rfl ?_
      refine g_istore (L' := [(0, vA (a0 + 1)), (1, vI x1), (2, vI x2), (3, vI x3), (4, vI (0 : Int32))]) (dk D_X9_remember 10 rfl) (Nat.le_of_ble_eq_true rfl) rfl ?_
      exact hl18 x3 fu x2 (0 : Int32) I trivial
  unfold f_X9_remember
  refine g_iconst (v := (0 : Int32)) (dk D_X9_remember 0 rfl) rfl ?_
  refine g_istore_n (L' := [(0, vA (a0 + 1)), (1, vI x1), (2, vI (0 : Int32))]) (dk D_X9_remember 1 rfl) (Nat.le_of_ble_eq_true rfl) rfl ?_
  refine g_iconst (v := (0 : Int32)) (dk D_X9_remember 2 rfl) rfl ?_
  refine g_istore_n (L' := [(0, vA (a0 + 1)), (1, vI x1), (2, vI (0 : Int32)), (3, vI (0 : Int32))]) (dk D_X9_remember 3 rfl) (Nat.le_of_ble_eq_true rfl) rfl ?_
  exact hl4 fu (0 : Int32) (0 : Int32) I0 trivial
theorem c_X9_remember {E : EV} (fu : Nat) (S0 : Sk) (I0 : II) (a0 : Nat) (x1 : Int32) (r : Int32 × II) (h : f_X9_remember fu S0 I0 a0 x1 = some r) (ht0 : tyO S0 9 a0) : MX E yX9_remember i_X9_remember S0 I0 [vA (a0 + 1), vI x1] (po_X9_remember S0 I0 r) :=
  MX.of h (by decide) rfl rfl (Nat.le_of_ble_eq_true rfl) (gg_X9_remember fu S0 I0 a0 x1 ht0)
theorem cl_RX9_128 : CV0 RX9 128 yX1_startOfBus i_X1_startOfBus 2 1 := ⟨⟨(gm 693 (by decide +kernel) (by decide +kernel)), (gm 76 (by decide +kernel) (by decide +kernel)), ((gm 516 (by decide +kernel) (by decide +kernel))), by decide +kernel, by decide +kernel, by decide +kernel⟩, ⟨(gm 514 (by decide +kernel) (by decide +kernel)), (gm 515 (by decide +kernel) (by decide +kernel))⟩, rfl, by decide⟩
theorem fl_RX9_117 : FL RX9 117 1 5 := ⟨RX1, TX1, 11, rfl, by decide, rfl, by decide, (gm 433 (by decide +kernel) (by decide +kernel)), inG1⟩
theorem fl_RX9_122 : FL RX9 122 1 6 := ⟨RX1, TX1, 11, rfl, by decide, rfl, by decide, (gm 436 (by decide +kernel) (by decide +kernel)), inG1⟩
theorem fl_RX9_125 : FL RX9 125 1 7 := ⟨RX1, TX1, 11, rfl, by decide, rfl, by decide, (gm 439 (by decide +kernel) (by decide +kernel)), inG1⟩
def tb_X9_rideAlong : List (Nat × Instr × Nat) := [(0, .ldc 21, 2), (2, .istore_n 3, 1), (3, .iconst 0, 1), (4, .istore 4, 2), (6, .iload 4, 2), (8, .aload_n 1, 1), (9, .getfield 117, 3), (12, .if_icmp .ge 85, 3), (15, .aload_n 1, 1), (16, .getfield 122, 3), (19, .iload 4, 2), (21, .iaload, 1), (22, .bipush 31, 2), (24, .imul, 1), (25, .iload_n 2, 1), (26, .iadd, 1), (27, .istore 5, 2), (29, .iload_n 3, 1), (30, .ldc 21, 2), (32, .if_icmp .eq 29, 3), (35, .aload_n 0, 1), (36, .getfield 11, 3), (39, .iload 5, 2), (41, .aload_n 0, 1), (42, .getfield 11, 3), (45, .iload 5, 2), (47, .iaload, 1), (48, .iload_n 3, 1), (49, .aload_n 1, 1), (50, .getfield 125, 3), (53, .iload 4, 2), (55, .iaload, 1), (56, .iadd, 1), (57, .invokestatic 80, 3), (60, .iastore, 1), (61, .aload_n 0, 1), (62, .getfield 15, 3), (65, .iload 5, 2), (67, .iaload, 1), (68, .ldc 21, 2), (70, .if_icmp .eq 21, 3), (73, .iload_n 3, 1), (74, .aload_n 1, 1), (75, .iload 4, 2), (77, .aload_n 0, 1), (78, .getfield 15, 3), (81, .iload 5, 2), (83, .iaload, 1), (84, .invokevirtual 128, 3), (87, .invokestatic 80, 3), (90, .istore_n 3, 1), (91, .iinc 4 1, 3), (94, .goto (-88), 3), (97, .return_, 1)]
def i_X9_rideAlong : MI := (RX9, cX9_rideAlong, 6, none, "rideAlong", { frames := 1, cells := 0, slots := 0, locals := 80 })
theorem D_X9_rideAlong : tbOK (i_X9_rideAlong).2.1 tb_X9_rideAlong := by show ∀ q ∈ tb_X9_rideAlong, decode cX9_rideAlong q.1 = .ok (q.2.1, q.2.2); decide +kernel
def po_X9_rideAlong (S : Sk) (I : II) (r : II) : Option LV × Sk × II := (none, S, r)
def jn_X9_rideAlong_91 (fu : Nat) (S : Sk) (I : II) (self6 : Int32 → Int32 → II → Option (II)) (a0 : Nat) (r1 : Nat) (x2 : Int32) (x3 : Int32) (x4 : Int32) : Option (II) :=
  self6 x3 (x4 + (1 : Int32)) I
def jn_X9_rideAlong_61 (fu : Nat) (S : Sk) (I : II) (self6 : Int32 → Int32 → II → Option (II)) (a0 : Nat) (r1 : Nat) (x2 : Int32) (x3 : Int32) (x4 : Int32) (x5 : Int32) : Option (II) :=
  gd (inb S (S.1 a0 2) x5) (if (rd I (S.1 a0 2) x5) = (1073741824 : Int32) then jn_X9_rideAlong_91 fu S I self6 a0 r1 x2 x3 x4 else gd (r1 ≠ 0) ((f_X1_startOfBus fu S I (r1 - 1) x4 (rd I (S.1 a0 2) x5)).bind fun q6 => (lt (jmin x3 q6) fun x3_9 => (jn_X9_rideAlong_91 fu S I self6 a0 r1 x2 x3_9 x4))))
def lp_X9_rideAlong_6 (fu : Nat) (S : Sk) (a0 : Nat) (r1 : Nat) (x2 : Int32) (self6 : Int32 → Int32 → II → Option (II)) (x3 : Int32) (x4 : Int32) (I : II) : Option (II) :=
  gd (r1 ≠ 0) (if (I (r1 - 1) 5) ≤ x4 then some (I) else gd (inb S (S.1 (r1 - 1) 6) x4) (lt (((rd I (S.1 (r1 - 1) 6) x4) * (31 : Int32)) + x2) fun x5_14 => (if x3 = (1073741824 : Int32) then jn_X9_rideAlong_61 fu S I self6 a0 r1 x2 x3 x4 x5_14 else gd (inb S (S.1 a0 1) x5_14) (gd (inb S (S.1 (r1 - 1) 7) x4) (lt (wr I (S.1 a0 1) x5_14 (jmin (rd I (S.1 a0 1) x5_14) (x3 + (rd I (S.1 (r1 - 1) 7) x4)))) fun I21 => (jn_X9_rideAlong_61 fu S I21 self6 a0 r1 x2 x3 x4 x5_14))))))
def f_X9_rideAlong (fu : Nat) (S : Sk) (I : II) (a0 : Nat) (r1 : Nat) (x2 : Int32) : Option (II) :=
  fix3 (lp_X9_rideAlong_6 fu S a0 r1 x2) fu (1073741824 : Int32) (0 : Int32) I
set_option maxRecDepth 100000 in
set_option maxHeartbeats 4000000 in
theorem gg_X9_rideAlong {E : EV} (fu : Nat) (S0 : Sk) (I0 : II) (a0 : Nat) (r1 : Nat) (x2 : Int32) (ht0 : tyO S0 9 a0) (h_r1 : tyR S0 1 r1) : GG E i_X9_rideAlong (enM E i_X9_rideAlong S0 (po_X9_rideAlong S0 I0)) S0 I0 (0, 0) 0 [(0, vA (a0 + 1)), (1, vA r1), (2, vI x2)] [] (f_X9_rideAlong fu S0 I0 a0 r1 x2) := by
  have hl6 : ∀ (nn : Nat) (x3 : Int32) (x4 : Int32) (I : II), True → GG E i_X9_rideAlong (enM E i_X9_rideAlong S0 (po_X9_rideAlong S0 I0)) S0 I (0, 0) 6 [(0, vA (a0 + 1)), (1, vA r1), (2, vI x2), (3, vI x3), (4, vI x4)] [] (fix3 (lp_X9_rideAlong_6 fu S0 a0 r1 x2) nn x3 x4 I) := by
    refine g_fix3 (fun _ _ _ => S0) (fun x3 x4 I => I) (fun x3 x4 I => [(0, vA (a0 + 1)), (1, vA r1), (2, vI x2), (3, vI x3), (4, vI x4)]) (fun x3 x4 I => True) ?_
    intro self6 hself6 x3 x4 I hinv
    have hj91 : ∀ (I : II) (x3 : Int32) (x4 : Int32), GG E i_X9_rideAlong (enM E i_X9_rideAlong S0 (po_X9_rideAlong S0 I0)) S0 I (0, 0) 91 [(0, vA (a0 + 1)), (1, vA r1), (2, vI x2), (3, vI x3), (4, vI x4)] [] (jn_X9_rideAlong_91 fu S0 I self6 a0 r1 x2 x3 x4) := by
      intro I x3 x4 
      unfold jn_X9_rideAlong_91
      refine g_iinc (v := (1 : Int32)) (L' := [(0, vA (a0 + 1)), (1, vA r1), (2, vI x2), (3, vI x3), (4, vI (x4 + (1 : Int32)))]) (dk D_X9_rideAlong 51 rfl) rfl rfl (Nat.le_of_ble_eq_true rfl) rfl ?_
      refine g_goto (tgt := 6) (dk D_X9_rideAlong 52 rfl) rfl ?_
      exact hself6 x3 (x4 + (1 : Int32)) I trivial
    have hj61 : ∀ (I : II) (x3 : Int32) (x4 : Int32) (x5 : Int32), GG E i_X9_rideAlong (enM E i_X9_rideAlong S0 (po_X9_rideAlong S0 I0)) S0 I (0, 0) 61 [(0, vA (a0 + 1)), (1, vA r1), (2, vI x2), (3, vI x3), (4, vI x4), (5, vI x5)] [] (jn_X9_rideAlong_61 fu S0 I self6 a0 r1 x2 x3 x4 x5) := by
      intro I x3 x4 x5 
      unfold jn_X9_rideAlong_61
      refine g_aload_n (dk D_X9_rideAlong 35 rfl) rfl ?_
      refine g_getAt (t := 100) fl_RX9_15 rfl ht0 (dk D_X9_rideAlong 36 rfl) (fun ht1 => ?_)
      refine g_iload (dk D_X9_rideAlong 37 rfl) rfl ?_
      refine g_gd (fun hi2 => ?_)
      refine g_iaload ht1 hi2 (dk D_X9_rideAlong 38 rfl) ?_
      refine g_ldc (dk D_X9_rideAlong 39 rfl) lk_RX9_21 ?_
      refine g_icmp_eq (tgt := 91) (dk D_X9_rideAlong 40 rfl) rfl (fun hc3 => ?_) (fun hc3 => ?_)
      · refine g_Lp [0, 1, 2, 3, 4] rfl ?_
        exact hj91 I x3 x4
      · refine g_iload_n (dk D_X9_rideAlong 41 rfl) rfl ?_
        refine g_aload_n (dk D_X9_rideAlong 42 rfl) rfl ?_
        refine g_iload (dk D_X9_rideAlong 43 rfl) rfl ?_
        refine g_aload_n (dk D_X9_rideAlong 44 rfl) rfl ?_
        refine g_getAt (t := 100) fl_RX9_15 rfl ht0 (dk D_X9_rideAlong 45 rfl) (fun ht4 => ?_)
        refine g_iload (dk D_X9_rideAlong 46 rfl) rfl ?_
        refine g_iaload ht1 hi2 (dk D_X9_rideAlong 47 rfl) ?_
        refine g_gd (fun hn5 => ?_)
        refine g_bind (fun q6 hq7 => ?_)
        refine h_callV (st := [vI x3]) (c_X1_startOfBus (E := E) fu S0 I (r1 - 1) x4 (rd I (S0.1 a0 2) x5) q6 hq7 (h_r1.nz hn5)) cl_RX9_128 h_r1 hn5 rfl rfl (by decide) (Nat.le_of_ble_eq_true rfl) (dk D_X9_rideAlong 48 rfl) ?_
        refine g_mmin lk_RX9_80 lk_mmin (by decide) (Nat.le_of_ble_eq_true rfl) (by decide) (by decide) (dk D_X9_rideAlong 49 rfl) ?_
        refine g_ltV (fun x3_9 ex3_9 => ?_)
        refine g_istore_n (L' := [(0, vA (a0 + 1)), (1, vA r1), (2, vI x2), (3, vI x3_9), (4, vI x4), (5, vI x5)]) (dk D_X9_rideAlong 50 rfl) (Nat.le_of_ble_eq_true rfl) rfl ?_
        refine g_Lp [0, 1, 2, 3, 4] rfl ?_
        exact hj91 I x3_9 x4
    unfold lp_X9_rideAlong_6
    refine g_iload (dk D_X9_rideAlong 4 rfl) rfl ?_
    refine g_aload_n (dk D_X9_rideAlong 5 rfl) rfl ?_
    refine g_gd (fun hn10 => ?_)
    refine g_getI fl_RX9_117 (by decide) h_r1 hn10 (dk D_X9_rideAlong 6 rfl) ?_
    refine g_icmp_ge (tgt := 97) (dk D_X9_rideAlong 7 rfl) rfl (fun hc11 => ?_) (fun hc11 => ?_)
    · exact g_return rfl rfl Sx.rf rfl (by decide) (by decide) (dk D_X9_rideAlong 53 rfl)
    · refine g_aload_n (dk D_X9_rideAlong 8 rfl) rfl ?_
      refine g_getA (t := 100) fl_RX9_122 rfl h_r1 hn10 (dk D_X9_rideAlong 9 rfl) (fun ht12 => ?_)
      refine g_iload (dk D_X9_rideAlong 10 rfl) rfl ?_
      refine g_gd (fun hi13 => ?_)
      refine g_iaload ht12 hi13 (dk D_X9_rideAlong 11 rfl) ?_
      refine g_bipush (v := (31 : Int32)) (dk D_X9_rideAlong 12 rfl) rfl ?_
      refine g_imul (dk D_X9_rideAlong 13 rfl) ?_
      refine g_iload_n (dk D_X9_rideAlong 14 rfl) rfl ?_
      refine g_iadd (dk D_X9_rideAlong 15 rfl) ?_
      refine g_ltV (fun x5_14 ex5_14 => ?_)
      refine g_istore (L' := [(0, vA (a0 + 1)), (1, vA r1), (2, vI x2), (3, vI x3), (4, vI x4), (5, vI x5_14)]) (dk D_X9_rideAlong 16 rfl) (Nat.le_of_ble_eq_true rfl) rfl ?_
      refine g_iload_n (dk D_X9_rideAlong 17 rfl) rfl ?_
      refine g_ldc (dk D_X9_rideAlong 18 rfl) lk_RX9_21 ?_
      refine g_icmp_eq (tgt := 61) (dk D_X9_rideAlong 19 rfl) rfl (fun hc15 => ?_) (fun hc15 => ?_)
      · exact hj61 I x3 x4 x5_14
      · refine g_aload_n (dk D_X9_rideAlong 20 rfl) rfl ?_
        refine g_getAt (t := 100) fl_RX9_11 rfl ht0 (dk D_X9_rideAlong 21 rfl) (fun ht16 => ?_)
        refine g_iload (dk D_X9_rideAlong 22 rfl) rfl ?_
        refine g_aload_n (dk D_X9_rideAlong 23 rfl) rfl ?_
        refine g_getAt (t := 100) fl_RX9_11 rfl ht0 (dk D_X9_rideAlong 24 rfl) (fun ht17 => ?_)
        refine g_iload (dk D_X9_rideAlong 25 rfl) rfl ?_
        refine g_gd (fun hi18 => ?_)
        refine g_iaload ht16 hi18 (dk D_X9_rideAlong 26 rfl) ?_
        refine g_iload_n (dk D_X9_rideAlong 27 rfl) rfl ?_
        refine g_aload_n (dk D_X9_rideAlong 28 rfl) rfl ?_
        refine g_getA (t := 100) fl_RX9_125 rfl h_r1 hn10 (dk D_X9_rideAlong 29 rfl) (fun ht19 => ?_)
        refine g_iload (dk D_X9_rideAlong 30 rfl) rfl ?_
        refine g_gd (fun hi20 => ?_)
        refine g_iaload ht19 hi20 (dk D_X9_rideAlong 31 rfl) ?_
        refine g_iadd (dk D_X9_rideAlong 32 rfl) ?_
        refine g_mmin lk_RX9_80 lk_mmin (by decide) (Nat.le_of_ble_eq_true rfl) (by decide) (by decide) (dk D_X9_rideAlong 33 rfl) ?_
        refine g_iastore ht16 hi18 (dk D_X9_rideAlong 34 rfl) ?_
        refine g_ltI (fun I21 eI21 => ?_)
        exact hj61 I21 x3 x4 x5_14
  unfold f_X9_rideAlong
  refine g_ldc (dk D_X9_rideAlong 0 rfl) lk_RX9_21 ?_
  refine g_istore_n (L' := [(0, vA (a0 + 1)), (1, vA r1), (2, vI x2), (3, vI (1073741824 : Int32))]) (dk D_X9_rideAlong 1 rfl) (Nat.le_of_ble_eq_true rfl) rfl ?_
  refine g_iconst (v := (0 : Int32)) (dk D_X9_rideAlong 2 rfl) rfl ?_
  refine g_istore (L' := [(0, vA (a0 + 1)), (1, vA r1), (2, vI x2), (3, vI (1073741824 : Int32)), (4, vI (0 : Int32))]) (dk D_X9_rideAlong 3 rfl) (Nat.le_of_ble_eq_true rfl) rfl ?_
  exact hl6 fu (1073741824 : Int32) (0 : Int32) I0 trivial
theorem c_X9_rideAlong {E : EV} (fu : Nat) (S0 : Sk) (I0 : II) (a0 : Nat) (r1 : Nat) (x2 : Int32) (r : II) (h : f_X9_rideAlong fu S0 I0 a0 r1 x2 = some r) (ht0 : tyO S0 9 a0) (h_r1 : tyR S0 1 r1) : MX E yX9_rideAlong i_X9_rideAlong S0 I0 [vA (a0 + 1), vA r1, vI x2] (po_X9_rideAlong S0 I0 r) :=
  MX.of h (by decide) rfl rfl (Nat.le_of_ble_eq_true rfl) (gg_X9_rideAlong fu S0 I0 a0 r1 x2 ht0 h_r1)
theorem cl_RX9_105 : CN0 RX9 105 yX10_has "RedrawnLines" i_X10_has 2 := ⟨⟨(gmN 688 (by decide +kernel) (by decide +kernel)), (gm 66 (by decide +kernel) (by decide +kernel)), (gm 407 (by decide +kernel) (by decide +kernel)), by decide +kernel, by decide +kernel, by decide +kernel⟩, (gm 406 (by decide +kernel) (by decide +kernel))⟩
theorem fl_RX9_109 : FL RX9 109 2 4 := ⟨RX2, TX2, 6, rfl, by decide, rfl, by decide, (gm 106 (by decide +kernel) (by decide +kernel)), inG2⟩
theorem cl_RX9_113 : CV0 RX9 113 yX9_rideAlong i_X9_rideAlong 2 9 := ⟨⟨(gm 689 (by decide +kernel) (by decide +kernel)), (gm 68 (by decide +kernel) (by decide +kernel)), ((gm 692 (by decide +kernel) (by decide +kernel))), by decide +kernel, by decide +kernel, by decide +kernel⟩, ⟨(gm 691 (by decide +kernel) (by decide +kernel)), (gm 12 (by decide +kernel) (by decide +kernel))⟩, rfl, by decide⟩
theorem fl_RX9_102 : FL RX9 102 2 5 := ⟨RX2, TX2, 6, rfl, by decide, rfl, by decide, (gm 110 (by decide +kernel) (by decide +kernel)), inG2⟩
theorem cl_RX9_36 : CS0 RX9 36 yJ7_fill_53178 i_J7_fill_53178 2 := ⟨⟨(gm 658 (by decide +kernel) (by decide +kernel)), (gm 74 (by decide +kernel) (by decide +kernel)), (gm 660 (by decide +kernel) (by decide +kernel)), by decide +kernel, by decide +kernel, by decide +kernel⟩, (gm 659 (by decide +kernel) (by decide +kernel))⟩
def tb_X9_rideOn : List (Nat × Instr × Nat) := [(0, .aload_n 0, 1), (1, .getfield 11, 3), (4, .ldc 21, 2), (6, .invokestatic 36, 3), (9, .iconst 0, 1), (10, .istore_n 3, 1), (11, .iload_n 3, 1), (12, .aload_n 0, 1), (13, .getfield 32, 3), (16, .getfield 102, 3), (19, .if_icmp .ge 57, 3), (22, .iload_n 1, 1), (23, .iload_n 3, 1), (24, .invokestatic 105, 3), (27, .ifCond .eq 43, 3), (30, .iconst 0, 1), (31, .istore 4, 2), (33, .iload 4, 2), (35, .bipush 31, 2), (37, .if_icmp .ge 33, 3), (40, .iload_n 2, 1), (41, .iload 4, 2), (43, .invokestatic 105, 3), (46, .ifCond .eq 18, 3), (49, .aload_n 0, 1), (50, .aload_n 0, 1), (51, .getfield 32, 3), (54, .getfield 109, 3), (57, .iload_n 3, 1), (58, .aaload, 1), (59, .iload 4, 2), (61, .invokevirtual 113, 3), (64, .iinc 4 1, 3), (67, .goto (-34), 3), (70, .iinc 3 1, 3), (73, .goto (-62), 3), (76, .return_, 1)]
def i_X9_rideOn : MI := (RX9, cX9_rideOn, 5, none, "rideOn", { frames := 2, cells := 0, slots := 0, locals := 105 })
theorem D_X9_rideOn : tbOK (i_X9_rideOn).2.1 tb_X9_rideOn := by show ∀ q ∈ tb_X9_rideOn, decode cX9_rideOn q.1 = .ok (q.2.1, q.2.2); decide +kernel
def po_X9_rideOn (S : Sk) (I : II) (r : II) : Option LV × Sk × II := (none, S, r)
def jn_X9_rideOn_70 (fu : Nat) (S : Sk) (I : II) (self11 : Int32 → II → Option (II)) (a0 : Nat) (x1 : Int32) (x2 : Int32) (x3 : Int32) : Option (II) :=
  self11 (x3 + (1 : Int32)) I
def jn_X9_rideOn_64 (fu : Nat) (S : Sk) (I : II) (self11 : Int32 → II → Option (II)) (self33 : Int32 → II → Option (II)) (a0 : Nat) (x1 : Int32) (x2 : Int32) (x3 : Int32) (x4 : Int32) : Option (II) :=
  self33 (x4 + (1 : Int32)) I
def lp_X9_rideOn_33 (fu : Nat) (S : Sk) (self11 : Int32 → II → Option (II)) (a0 : Nat) (x1 : Int32) (x2 : Int32) (x3 : Int32) (self33 : Int32 → II → Option (II)) (x4 : Int32) (I : II) : Option (II) :=
  if (31 : Int32) ≤ x4 then jn_X9_rideOn_70 fu S I self11 a0 x1 x2 x3 else if (t_X10_has x2 x4) = 0 then jn_X9_rideOn_64 fu S I self11 self33 a0 x1 x2 x3 x4 else gd ((S.1 a0 0) ≠ 0) (gd (inb S (S.1 ((S.1 a0 0) - 1) 4) x3) ((f_X9_rideAlong fu S I a0 (S.1 ((S.1 ((S.1 a0 0) - 1) 4) - 1) (nx x3)) x4).bind fun q9 => (jn_X9_rideOn_64 fu S q9 self11 self33 a0 x1 x2 x3 x4)))
def lp_X9_rideOn_11 (fu : Nat) (S : Sk) (a0 : Nat) (x1 : Int32) (x2 : Int32) (self11 : Int32 → II → Option (II)) (x3 : Int32) (I : II) : Option (II) :=
  gd ((S.1 a0 0) ≠ 0) (if (I ((S.1 a0 0) - 1) 5) ≤ x3 then some (I) else if (t_X10_has x1 x3) = 0 then jn_X9_rideOn_70 fu S I self11 a0 x1 x2 x3 else fix2 (lp_X9_rideOn_33 fu S self11 a0 x1 x2 x3) fu (0 : Int32) I)
def f_X9_rideOn (fu : Nat) (S : Sk) (I : II) (a0 : Nat) (x1 : Int32) (x2 : Int32) : Option (II) :=
  (f_J7_fill_53178 fu S I (S.1 a0 1) (1073741824 : Int32)).bind fun q18 => (fix2 (lp_X9_rideOn_11 fu S a0 x1 x2) fu (0 : Int32) q18)
set_option maxRecDepth 100000 in
set_option maxHeartbeats 4000000 in
theorem gg_X9_rideOn {E : EV} (fu : Nat) (S0 : Sk) (I0 : II) (a0 : Nat) (x1 : Int32) (x2 : Int32) (ht0 : tyO S0 9 a0) : GG E i_X9_rideOn (enM E i_X9_rideOn S0 (po_X9_rideOn S0 I0)) S0 I0 (0, 0) 0 [(0, vA (a0 + 1)), (1, vI x1), (2, vI x2)] [] (f_X9_rideOn fu S0 I0 a0 x1 x2) := by
  have hl11 : ∀ (nn : Nat) (x3 : Int32) (I : II), True → GG E i_X9_rideOn (enM E i_X9_rideOn S0 (po_X9_rideOn S0 I0)) S0 I (0, 0) 11 [(0, vA (a0 + 1)), (1, vI x1), (2, vI x2), (3, vI x3)] [] (fix2 (lp_X9_rideOn_11 fu S0 a0 x1 x2) nn x3 I) := by
    refine g_fix2 (fun _ _ => S0) (fun x3 I => I) (fun x3 I => [(0, vA (a0 + 1)), (1, vI x1), (2, vI x2), (3, vI x3)]) (fun x3 I => True) ?_
    intro self11 hself11 x3 I hinv
    have hj70 : ∀ (I : II) (x3 : Int32), GG E i_X9_rideOn (enM E i_X9_rideOn S0 (po_X9_rideOn S0 I0)) S0 I (0, 0) 70 [(0, vA (a0 + 1)), (1, vI x1), (2, vI x2), (3, vI x3)] [] (jn_X9_rideOn_70 fu S0 I self11 a0 x1 x2 x3) := by
      intro I x3 
      unfold jn_X9_rideOn_70
      refine g_iinc (v := (1 : Int32)) (L' := [(0, vA (a0 + 1)), (1, vI x1), (2, vI x2), (3, vI (x3 + (1 : Int32)))]) (dk D_X9_rideOn 34 rfl) rfl rfl (Nat.le_of_ble_eq_true rfl) rfl ?_
      refine g_goto (tgt := 11) (dk D_X9_rideOn 35 rfl) rfl ?_
      exact hself11 (x3 + (1 : Int32)) I trivial
    have hl33 : ∀ (x3 : Int32) (nn : Nat) (x4 : Int32) (I : II), True → GG E i_X9_rideOn (enM E i_X9_rideOn S0 (po_X9_rideOn S0 I0)) S0 I (0, 0) 33 [(0, vA (a0 + 1)), (1, vI x1), (2, vI x2), (3, vI x3), (4, vI x4)] [] (fix2 (lp_X9_rideOn_33 fu S0 self11 a0 x1 x2 x3) nn x4 I) := by
      intro x3 
      refine g_fix2 (fun _ _ => S0) (fun x4 I => I) (fun x4 I => [(0, vA (a0 + 1)), (1, vI x1), (2, vI x2), (3, vI x3), (4, vI x4)]) (fun x4 I => True) ?_
      intro self33 hself33 x4 I hinv
      have hj64 : ∀ (I : II) (x4 : Int32), GG E i_X9_rideOn (enM E i_X9_rideOn S0 (po_X9_rideOn S0 I0)) S0 I (0, 0) 64 [(0, vA (a0 + 1)), (1, vI x1), (2, vI x2), (3, vI x3), (4, vI x4)] [] (jn_X9_rideOn_64 fu S0 I self11 self33 a0 x1 x2 x3 x4) := by
        intro I x4 
        unfold jn_X9_rideOn_64
        refine g_iinc (v := (1 : Int32)) (L' := [(0, vA (a0 + 1)), (1, vI x1), (2, vI x2), (3, vI x3), (4, vI (x4 + (1 : Int32)))]) (dk D_X9_rideOn 32 rfl) rfl rfl (Nat.le_of_ble_eq_true rfl) rfl ?_
        refine g_goto (tgt := 33) (dk D_X9_rideOn 33 rfl) rfl ?_
        exact hself33 (x4 + (1 : Int32)) I trivial
      unfold lp_X9_rideOn_33
      refine g_iload (dk D_X9_rideOn 17 rfl) rfl ?_
      refine g_bipush (v := (31 : Int32)) (dk D_X9_rideOn 18 rfl) rfl ?_
      refine g_icmp_ge (tgt := 70) (dk D_X9_rideOn 19 rfl) rfl (fun hc1 => ?_) (fun hc1 => ?_)
      · refine g_Lp [0, 1, 2, 3] rfl ?_
        exact hj70 I x3
      · refine g_iload_n (dk D_X9_rideOn 20 rfl) rfl ?_
        refine g_iload (dk D_X9_rideOn 21 rfl) rfl ?_
        refine h_callSN (st := []) (c_X10_has (E := E) S0 I x2 x4) cl_RX9_105 rfl rfl (by decide) (Nat.le_of_ble_eq_true rfl) (dk D_X9_rideOn 22 rfl) ?_
        refine g_if_eq (tgt := 64) (dk D_X9_rideOn 23 rfl) rfl (fun hc3 => ?_) (fun hc3 => ?_)
        · exact hj64 I x4
        · refine g_aload_n (dk D_X9_rideOn 24 rfl) rfl ?_
          refine g_aload_n (dk D_X9_rideOn 25 rfl) rfl ?_
          refine g_getAt (t := 2) fl_RX9_32 rfl ht0 (dk D_X9_rideOn 26 rfl) (fun ht4 => ?_)
          refine g_gd (fun hn6 => ?_)
          refine g_getA (t := 111) fl_RX9_109 rfl ht4 hn6 (dk D_X9_rideOn 27 rfl) (fun ht5 => ?_)
          refine g_iload_n (dk D_X9_rideOn 28 rfl) rfl ?_
          refine g_gd (fun hi7 => ?_)
          refine g_aaload (c0 := 1) (by unfold aoC; decide) ht5 hi7 (dk D_X9_rideOn 29 rfl) (fun ht8 => ?_)
          refine g_iload (dk D_X9_rideOn 30 rfl) rfl ?_
          refine g_bind (fun q9 hq10 => ?_)
          refine h_callVt (st := []) (c_X9_rideAlong (E := E) fu S0 I a0 (S0.1 ((S0.1 ((S0.1 a0 0) - 1) 4) - 1) (nx x3)) x4 q9 hq10 (ht0) ht8) cl_RX9_113 ht0 rfl rfl (by decide) (Nat.le_of_ble_eq_true rfl) (dk D_X9_rideOn 31 rfl) ?_
          exact hj64 q9 x4
    unfold lp_X9_rideOn_11
    refine g_iload_n (dk D_X9_rideOn 6 rfl) rfl ?_
    refine g_aload_n (dk D_X9_rideOn 7 rfl) rfl ?_
    refine g_getAt (t := 2) fl_RX9_32 rfl ht0 (dk D_X9_rideOn 8 rfl) (fun ht12 => ?_)
    refine g_gd (fun hn13 => ?_)
    refine g_getI fl_RX9_102 (by decide) ht12 hn13 (dk D_X9_rideOn 9 rfl) ?_
    refine g_icmp_ge (tgt := 76) (dk D_X9_rideOn 10 rfl) rfl (fun hc14 => ?_) (fun hc14 => ?_)
    · exact g_return rfl rfl Sx.rf rfl (by decide) (by decide) (dk D_X9_rideOn 36 rfl)
    · refine g_iload_n (dk D_X9_rideOn 11 rfl) rfl ?_
      refine g_iload_n (dk D_X9_rideOn 12 rfl) rfl ?_
      refine h_callSN (st := []) (c_X10_has (E := E) S0 I x1 x3) cl_RX9_105 rfl rfl (by decide) (Nat.le_of_ble_eq_true rfl) (dk D_X9_rideOn 13 rfl) ?_
      refine g_if_eq (tgt := 70) (dk D_X9_rideOn 14 rfl) rfl (fun hc16 => ?_) (fun hc16 => ?_)
      · exact hj70 I x3
      · refine g_iconst (v := (0 : Int32)) (dk D_X9_rideOn 15 rfl) rfl ?_
        refine g_istore (L' := [(0, vA (a0 + 1)), (1, vI x1), (2, vI x2), (3, vI x3), (4, vI (0 : Int32))]) (dk D_X9_rideOn 16 rfl) (Nat.le_of_ble_eq_true rfl) rfl ?_
        exact hl33 x3 fu (0 : Int32) I trivial
  unfold f_X9_rideOn
  refine g_aload_n (dk D_X9_rideOn 0 rfl) rfl ?_
  refine g_getAt (t := 100) fl_RX9_11 rfl ht0 (dk D_X9_rideOn 1 rfl) (fun ht17 => ?_)
  refine g_ldc (dk D_X9_rideOn 2 rfl) lk_RX9_21 ?_
  refine g_bind (fun q18 hq19 => ?_)
  refine h_callS (st := []) (c_J7_fill_53178 (E := E) fu S0 I0 (S0.1 a0 1) (1073741824 : Int32) q18 hq19 ht17) cl_RX9_36 rfl rfl (by decide) (Nat.le_of_ble_eq_true rfl) (dk D_X9_rideOn 3 rfl) ?_
  refine g_iconst (v := (0 : Int32)) (dk D_X9_rideOn 4 rfl) rfl ?_
  refine g_istore_n (L' := [(0, vA (a0 + 1)), (1, vI x1), (2, vI x2), (3, vI (0 : Int32))]) (dk D_X9_rideOn 5 rfl) (Nat.le_of_ble_eq_true rfl) rfl ?_
  exact hl11 fu (0 : Int32) q18 trivial
theorem c_X9_rideOn {E : EV} (fu : Nat) (S0 : Sk) (I0 : II) (a0 : Nat) (x1 : Int32) (x2 : Int32) (r : II) (h : f_X9_rideOn fu S0 I0 a0 x1 x2 = some r) (ht0 : tyO S0 9 a0) : MX E yX9_rideOn i_X9_rideOn S0 I0 [vA (a0 + 1), vI x1, vI x2] (po_X9_rideOn S0 I0 r) :=
  MX.of h (by decide) rfl rfl (Nat.le_of_ble_eq_true rfl) (gg_X9_rideOn fu S0 I0 a0 x1 x2 ht0)
theorem fl_RX9_50 : FL RX9 50 8 4 := ⟨RX8, TX8, 5, rfl, by decide, rfl, by decide, (gm 623 (by decide +kernel) (by decide +kernel)), inG8⟩
theorem cl_RX9_56 : CV0 RX9 56 yX9_thin i_X9_thin 2 9 := ⟨⟨(gm 661 (by decide +kernel) (by decide +kernel)), (gm 68 (by decide +kernel) (by decide +kernel)), ((gm 664 (by decide +kernel) (by decide +kernel))), by decide +kernel, by decide +kernel, by decide +kernel⟩, ⟨(gm 663 (by decide +kernel) (by decide +kernel)), (gm 6 (by decide +kernel) (by decide +kernel))⟩, rfl, by decide⟩
theorem cl_RX9_59 : CV0 RX9 59 yX9_walkOn i_X9_walkOn 1 9 := ⟨⟨(gm 666 (by decide +kernel) (by decide +kernel)), (gm 68 (by decide +kernel) (by decide +kernel)), ((gm 669 (by decide +kernel) (by decide +kernel))), by decide +kernel, by decide +kernel, by decide +kernel⟩, ⟨(gm 668 (by decide +kernel) (by decide +kernel)), (gm 7 (by decide +kernel) (by decide +kernel))⟩, rfl, by decide⟩
theorem cl_RX9_63 : CV0 RX9 63 yX9_noteArrival i_X9_noteArrival 2 9 := ⟨⟨(gm 676 (by decide +kernel) (by decide +kernel)), (gm 68 (by decide +kernel) (by decide +kernel)), ((gm 679 (by decide +kernel) (by decide +kernel))), by decide +kernel, by decide +kernel, by decide +kernel⟩, ⟨(gm 678 (by decide +kernel) (by decide +kernel)), (gm 9 (by decide +kernel) (by decide +kernel))⟩, rfl, by decide⟩
theorem cl_RX9_67 : CV0 RX9 67 yX9_remember i_X9_remember 1 9 := ⟨⟨(gm 680 (by decide +kernel) (by decide +kernel)), (gm 68 (by decide +kernel) (by decide +kernel)), ((gm 683 (by decide +kernel) (by decide +kernel))), by decide +kernel, by decide +kernel, by decide +kernel⟩, ⟨(gm 682 (by decide +kernel) (by decide +kernel)), (gm 10 (by decide +kernel) (by decide +kernel))⟩, rfl, by decide⟩
theorem cl_RX9_71 : CV0 RX9 71 yX9_rideOn i_X9_rideOn 2 9 := ⟨⟨(gm 684 (by decide +kernel) (by decide +kernel)), (gm 68 (by decide +kernel) (by decide +kernel)), ((gm 687 (by decide +kernel) (by decide +kernel))), by decide +kernel, by decide +kernel, by decide +kernel⟩, ⟨(gm 686 (by decide +kernel) (by decide +kernel)), (gm 11 (by decide +kernel) (by decide +kernel))⟩, rfl, by decide⟩
theorem fl_RX9_42 : FL RX9 42 8 0 := ⟨RX8, TX8, 5, rfl, by decide, rfl, by decide, (gm 615 (by decide +kernel) (by decide +kernel)), inG8⟩
theorem fl_RX9_47 : FL RX9 47 8 2 := ⟨RX8, TX8, 5, rfl, by decide, rfl, by decide, (gm 619 (by decide +kernel) (by decide +kernel)), inG8⟩
def tb_X9_search : List (Nat × Instr × Nat) := [(0, .aload_n 0, 1), (1, .ldc 21, 2), (3, .putfield 22, 3), (6, .aload_n 0, 1), (7, .getfield 18, 3), (10, .ldc 21, 2), (12, .invokestatic 36, 3), (15, .aload_n 0, 1), (16, .getfield 11, 3), (19, .ldc 21, 2), (21, .invokestatic 36, 3), (24, .aload_n 0, 1), (25, .getfield 11, 3), (28, .aload_n 1, 1), (29, .getfield 42, 3), (32, .bipush 31, 2), (34, .imul, 1), (35, .aload_n 1, 1), (36, .getfield 47, 3), (39, .iastore, 1), (40, .iconst 0, 1), (41, .istore_n 3, 1), (42, .iload_n 3, 1), (43, .aload_n 1, 1), (44, .getfield 50, 3), (47, .if_icmp .gt 68, 3), (50, .aload_n 0, 1), (51, .aload_n 0, 1), (52, .getfield 11, 3), (55, .aload_n 1, 1), (56, .getfield 53, 3), (59, .invokevirtual 56, 3), (62, .aload_n 0, 1), (63, .aload_n 1, 1), (64, .getfield 53, 3), (67, .invokevirtual 59, 3), (70, .aload_n 0, 1), (71, .aload_n 0, 1), (72, .getfield 15, 3), (75, .aload_n 1, 1), (76, .getfield 53, 3), (79, .invokevirtual 56, 3), (82, .aload_n 0, 1), (83, .aload_n 1, 1), (84, .iload_n 3, 1), (85, .invokevirtual 63, 3), (88, .iload_n 3, 1), (89, .aload_n 1, 1), (90, .getfield 50, 3), (93, .if_icmp .ge 16, 3), (96, .aload_n 0, 1), (97, .iload_n 2, 1), (98, .aload_n 0, 1), (99, .aload_n 1, 1), (100, .getfield 53, 3), (103, .invokevirtual 67, 3), (106, .invokevirtual 71, 3), (109, .iinc 3 1, 3), (112, .goto (-70), 3), (115, .return_, 1)]
def i_X9_search : MI := (RX9, cX9_search, 4, none, "search", { frames := 3, cells := 0, slots := 0, locals := 130 })
theorem D_X9_search : tbOK (i_X9_search).2.1 tb_X9_search := by show ∀ q ∈ tb_X9_search, decode cX9_search q.1 = .ok (q.2.1, q.2.2); decide +kernel
def po_X9_search (S : Sk) (I : II) (r : II) : Option LV × Sk × II := (none, S, r)
def jn_X9_search_109 (fu : Nat) (S : Sk) (I : II) (self42 : Int32 → II → Option (II)) (a0 : Nat) (r1 : Nat) (x2 : Int32) (x3 : Int32) : Option (II) :=
  self42 (x3 + (1 : Int32)) I
def lp_X9_search_42 (fu : Nat) (S : Sk) (a0 : Nat) (r1 : Nat) (x2 : Int32) (self42 : Int32 → II → Option (II)) (x3 : Int32) (I : II) : Option (II) :=
  gd (r1 ≠ 0) (if (I (r1 - 1) 4) < x3 then some (I) else (f_X9_thin fu S I a0 (S.1 a0 1) (I (r1 - 1) 3)).bind fun q4 => ((f_X9_walkOn fu S q4 a0 (q4 (r1 - 1) 3)).bind fun q7 => ((f_X9_thin fu S q7 a0 (S.1 a0 2) (q7 (r1 - 1) 3)).bind fun q11 => ((f_X9_noteArrival fu S q11 a0 r1 x3).bind fun q14 => (if (q14 (r1 - 1) 4) ≤ x3 then jn_X9_search_109 fu S q14 self42 a0 r1 x2 x3 else (f_X9_remember fu S q14 a0 (q14 (r1 - 1) 3)).bind fun q18 => ((f_X9_rideOn fu S q18.2 a0 x2 q18.1).bind fun q21 => (jn_X9_search_109 fu S q21 self42 a0 r1 x2 x3)))))))
def f_X9_search (fu : Nat) (S : Sk) (I : II) (a0 : Nat) (r1 : Nat) (x2 : Int32) : Option (II) :=
  lt (upI I a0 4 (1073741824 : Int32)) fun I24 => ((f_J7_fill_53178 fu S I24 (S.1 a0 3) (1073741824 : Int32)).bind fun q26 => ((f_J7_fill_53178 fu S q26 (S.1 a0 1) (1073741824 : Int32)).bind fun q30 => (gd (r1 ≠ 0) (gd (inb S (S.1 a0 1) ((q30 (r1 - 1) 0) * (31 : Int32))) (lt (wr q30 (S.1 a0 1) ((q30 (r1 - 1) 0) * (31 : Int32)) (q30 (r1 - 1) 2)) fun I36 => (fix2 (lp_X9_search_42 fu S a0 r1 x2) fu (0 : Int32) I36))))))
set_option maxRecDepth 100000 in
set_option maxHeartbeats 4000000 in
theorem gg_X9_search {E : EV} (fu : Nat) (S0 : Sk) (I0 : II) (a0 : Nat) (r1 : Nat) (x2 : Int32) (ht0 : tyO S0 9 a0) (h_r1 : tyR S0 8 r1) : GG E i_X9_search (enM E i_X9_search S0 (po_X9_search S0 I0)) S0 I0 (0, 0) 0 [(0, vA (a0 + 1)), (1, vA r1), (2, vI x2)] [] (f_X9_search fu S0 I0 a0 r1 x2) := by
  have hl42 : ∀ (nn : Nat) (x3 : Int32) (I : II), True → GG E i_X9_search (enM E i_X9_search S0 (po_X9_search S0 I0)) S0 I (0, 0) 42 [(0, vA (a0 + 1)), (1, vA r1), (2, vI x2), (3, vI x3)] [] (fix2 (lp_X9_search_42 fu S0 a0 r1 x2) nn x3 I) := by
    refine g_fix2 (fun _ _ => S0) (fun x3 I => I) (fun x3 I => [(0, vA (a0 + 1)), (1, vA r1), (2, vI x2), (3, vI x3)]) (fun x3 I => True) ?_
    intro self42 hself42 x3 I hinv
    have hj109 : ∀ (I : II) (x3 : Int32), GG E i_X9_search (enM E i_X9_search S0 (po_X9_search S0 I0)) S0 I (0, 0) 109 [(0, vA (a0 + 1)), (1, vA r1), (2, vI x2), (3, vI x3)] [] (jn_X9_search_109 fu S0 I self42 a0 r1 x2 x3) := by
      intro I x3 
      unfold jn_X9_search_109
      refine g_iinc (v := (1 : Int32)) (L' := [(0, vA (a0 + 1)), (1, vA r1), (2, vI x2), (3, vI (x3 + (1 : Int32)))]) (dk D_X9_search 57 rfl) rfl rfl (Nat.le_of_ble_eq_true rfl) rfl ?_
      refine g_goto (tgt := 42) (dk D_X9_search 58 rfl) rfl ?_
      exact hself42 (x3 + (1 : Int32)) I trivial
    unfold lp_X9_search_42
    refine g_iload_n (dk D_X9_search 22 rfl) rfl ?_
    refine g_aload_n (dk D_X9_search 23 rfl) rfl ?_
    refine g_gd (fun hn1 => ?_)
    refine g_getI fl_RX9_50 (by decide) h_r1 hn1 (dk D_X9_search 24 rfl) ?_
    refine g_icmp_gt (tgt := 115) (dk D_X9_search 25 rfl) rfl (fun hc2 => ?_) (fun hc2 => ?_)
    · exact g_return rfl rfl Sx.rf rfl (by decide) (by decide) (dk D_X9_search 59 rfl)
    · refine g_aload_n (dk D_X9_search 26 rfl) rfl ?_
      refine g_aload_n (dk D_X9_search 27 rfl) rfl ?_
      refine g_getAt (t := 100) fl_RX9_11 rfl ht0 (dk D_X9_search 28 rfl) (fun ht3 => ?_)
      refine g_aload_n (dk D_X9_search 29 rfl) rfl ?_
      refine g_getI fl_RX9_53 (by decide) h_r1 hn1 (dk D_X9_search 30 rfl) ?_
      refine g_bind (fun q4 hq5 => ?_)
      refine h_callVt (st := []) (c_X9_thin (E := E) fu S0 I a0 (S0.1 a0 1) (I (r1 - 1) 3) q4 hq5 (ht0) ht3) cl_RX9_56 ht0 rfl rfl (by decide) (Nat.le_of_ble_eq_true rfl) (dk D_X9_search 31 rfl) ?_
      refine g_aload_n (dk D_X9_search 32 rfl) rfl ?_
      refine g_aload_n (dk D_X9_search 33 rfl) rfl ?_
      refine g_getI fl_RX9_53 (by decide) h_r1 hn1 (dk D_X9_search 34 rfl) ?_
      refine g_bind (fun q7 hq8 => ?_)
      refine h_callVt (st := []) (c_X9_walkOn (E := E) fu S0 q4 a0 (q4 (r1 - 1) 3) q7 hq8 (ht0)) cl_RX9_59 ht0 rfl rfl (by decide) (Nat.le_of_ble_eq_true rfl) (dk D_X9_search 35 rfl) ?_
      refine g_aload_n (dk D_X9_search 36 rfl) rfl ?_
      refine g_aload_n (dk D_X9_search 37 rfl) rfl ?_
      refine g_getAt (t := 100) fl_RX9_15 rfl ht0 (dk D_X9_search 38 rfl) (fun ht10 => ?_)
      refine g_aload_n (dk D_X9_search 39 rfl) rfl ?_
      refine g_getI fl_RX9_53 (by decide) h_r1 hn1 (dk D_X9_search 40 rfl) ?_
      refine g_bind (fun q11 hq12 => ?_)
      refine h_callVt (st := []) (c_X9_thin (E := E) fu S0 q7 a0 (S0.1 a0 2) (q7 (r1 - 1) 3) q11 hq12 (ht0) ht10) cl_RX9_56 ht0 rfl rfl (by decide) (Nat.le_of_ble_eq_true rfl) (dk D_X9_search 41 rfl) ?_
      refine g_aload_n (dk D_X9_search 42 rfl) rfl ?_
      refine g_aload_n (dk D_X9_search 43 rfl) rfl ?_
      refine g_iload_n (dk D_X9_search 44 rfl) rfl ?_
      refine g_bind (fun q14 hq15 => ?_)
      refine h_callVt (st := []) (c_X9_noteArrival (E := E) fu S0 q11 a0 r1 x3 q14 hq15 (ht0) h_r1) cl_RX9_63 ht0 rfl rfl (by decide) (Nat.le_of_ble_eq_true rfl) (dk D_X9_search 45 rfl) ?_
      refine g_iload_n (dk D_X9_search 46 rfl) rfl ?_
      refine g_aload_n (dk D_X9_search 47 rfl) rfl ?_
      refine g_getI fl_RX9_50 (by decide) h_r1 hn1 (dk D_X9_search 48 rfl) ?_
      refine g_icmp_ge (tgt := 109) (dk D_X9_search 49 rfl) rfl (fun hc17 => ?_) (fun hc17 => ?_)
      · exact hj109 q14 x3
      · refine g_aload_n (dk D_X9_search 50 rfl) rfl ?_
        refine g_iload_n (dk D_X9_search 51 rfl) rfl ?_
        refine g_aload_n (dk D_X9_search 52 rfl) rfl ?_
        refine g_aload_n (dk D_X9_search 53 rfl) rfl ?_
        refine g_getI fl_RX9_53 (by decide) h_r1 hn1 (dk D_X9_search 54 rfl) ?_
        refine g_bind (fun q18 hq19 => ?_)
        refine h_callVt (st := [vI x2, vA (a0 + 1)]) (c_X9_remember (E := E) fu S0 q14 a0 (q14 (r1 - 1) 3) q18 hq19 (ht0)) cl_RX9_67 ht0 rfl rfl (by decide) (Nat.le_of_ble_eq_true rfl) (dk D_X9_search 55 rfl) ?_
        refine g_bind (fun q21 hq22 => ?_)
        refine h_callVt (st := []) (c_X9_rideOn (E := E) fu S0 q18.2 a0 x2 q18.1 q21 hq22 (ht0)) cl_RX9_71 ht0 rfl rfl (by decide) (Nat.le_of_ble_eq_true rfl) (dk D_X9_search 56 rfl) ?_
        exact hj109 q21 x3
  unfold f_X9_search
  refine g_aload_n (dk D_X9_search 0 rfl) rfl ?_
  refine g_ldc (dk D_X9_search 1 rfl) lk_RX9_21 ?_
  refine g_putIt fl_RX9_22 fp_9_4 (fun h => (by cases h)) (by decide) rfl rfl ht0 (dk D_X9_search 2 rfl) ?_
  refine g_ltI (fun I24 eI24 => ?_)
  refine g_aload_n (dk D_X9_search 3 rfl) rfl ?_
  refine g_getAt (t := 100) fl_RX9_18 rfl ht0 (dk D_X9_search 4 rfl) (fun ht25 => ?_)
  refine g_ldc (dk D_X9_search 5 rfl) lk_RX9_21 ?_
  refine g_bind (fun q26 hq27 => ?_)
  refine h_callS (st := []) (c_J7_fill_53178 (E := E) fu S0 I24 (S0.1 a0 3) (1073741824 : Int32) q26 hq27 ht25) cl_RX9_36 rfl rfl (by decide) (Nat.le_of_ble_eq_true rfl) (dk D_X9_search 6 rfl) ?_
  refine g_aload_n (dk D_X9_search 7 rfl) rfl ?_
  refine g_getAt (t := 100) fl_RX9_11 rfl ht0 (dk D_X9_search 8 rfl) (fun ht29 => ?_)
  refine g_ldc (dk D_X9_search 9 rfl) lk_RX9_21 ?_
  refine g_bind (fun q30 hq31 => ?_)
  refine h_callS (st := []) (c_J7_fill_53178 (E := E) fu S0 q26 (S0.1 a0 1) (1073741824 : Int32) q30 hq31 ht29) cl_RX9_36 rfl rfl (by decide) (Nat.le_of_ble_eq_true rfl) (dk D_X9_search 10 rfl) ?_
  refine g_aload_n (dk D_X9_search 11 rfl) rfl ?_
  refine g_getAt (t := 100) fl_RX9_11 rfl ht0 (dk D_X9_search 12 rfl) (fun ht33 => ?_)
  refine g_aload_n (dk D_X9_search 13 rfl) rfl ?_
  refine g_gd (fun hn34 => ?_)
  refine g_getI fl_RX9_42 (by decide) h_r1 hn34 (dk D_X9_search 14 rfl) ?_
  refine g_bipush (v := (31 : Int32)) (dk D_X9_search 15 rfl) rfl ?_
  refine g_imul (dk D_X9_search 16 rfl) ?_
  refine g_aload_n (dk D_X9_search 17 rfl) rfl ?_
  refine g_getI fl_RX9_47 (by decide) h_r1 hn34 (dk D_X9_search 18 rfl) ?_
  refine g_gd (fun hi35 => ?_)
  refine g_iastore ht29 hi35 (dk D_X9_search 19 rfl) ?_
  refine g_ltI (fun I36 eI36 => ?_)
  refine g_iconst (v := (0 : Int32)) (dk D_X9_search 20 rfl) rfl ?_
  refine g_istore_n (L' := [(0, vA (a0 + 1)), (1, vA r1), (2, vI x2), (3, vI (0 : Int32))]) (dk D_X9_search 21 rfl) (Nat.le_of_ble_eq_true rfl) rfl ?_
  exact hl42 fu (0 : Int32) I36 trivial
theorem c_X9_search {E : EV} (fu : Nat) (S0 : Sk) (I0 : II) (a0 : Nat) (r1 : Nat) (x2 : Int32) (r : II) (h : f_X9_search fu S0 I0 a0 r1 x2 = some r) (ht0 : tyO S0 9 a0) (h_r1 : tyR S0 8 r1) : MX E yX9_search i_X9_search S0 I0 [vA (a0 + 1), vA r1, vI x2] (po_X9_search S0 I0 r) :=
  MX.of h (by decide) rfl rfl (Nat.le_of_ble_eq_true rfl) (gg_X9_search fu S0 I0 a0 r1 x2 ht0 h_r1)
theorem fl_RX10_93 : FL RX10 93 10 16 := ⟨RX10, TX10, 19, rfl, by decide, rfl, by decide, (gm 279 (by decide +kernel) (by decide +kernel)), inG10⟩
theorem nw_RX10_91 : NW RX10 91 5 := ⟨RX5, TX5, 4, tyX5, rfl, rfl, by decide, tyX5_ok, by decide +kernel, (gm 240 (by decide +kernel) (by decide +kernel)), (gm 242 (by decide +kernel) (by decide +kernel)), (gm 71 (by decide +kernel) (by decide +kernel)), inG5⟩
theorem cl_RX10_103 : LkN RX10 103 yX5_init "RedrawnLines" i_X5_init 0 := ⟨(gmN 243 (by decide +kernel) (by decide +kernel)), (gm 71 (by decide +kernel) (by decide +kernel)), (gm 245 (by decide +kernel) (by decide +kernel)), by decide +kernel, by decide +kernel, by decide +kernel⟩
theorem si_X5_init : Cond.instanceMethod yX5_init ∈ lw_good := (gm 244 (by decide +kernel) (by decide +kernel))
theorem lk_RX10_3 : Cond.methodLink RX10 3 Lib.objectInit ∈ lw_good := (gm 87 (by decide +kernel) (by decide +kernel))
theorem nw_RX10_9 : NW RX10 9 2 := ⟨RX2, TX2, 6, tyX2, rfl, rfl, by decide, tyX2_ok, by decide +kernel, (gm 90 (by decide +kernel) (by decide +kernel)), (gm 91 (by decide +kernel) (by decide +kernel)), (gm 67 (by decide +kernel) (by decide +kernel)), inG2⟩
theorem cl_RX10_11 : LkN RX10 11 yX2_init "RedrawnLines" i_X2_init 0 := ⟨(gmN 92 (by decide +kernel) (by decide +kernel)), (gm 67 (by decide +kernel) (by decide +kernel)), (gm 94 (by decide +kernel) (by decide +kernel)), by decide +kernel, by decide +kernel, by decide +kernel⟩
theorem si_X2_init : Cond.instanceMethod yX2_init ∈ lw_good := (gm 93 (by decide +kernel) (by decide +kernel))
theorem fl_RX10_12 : FL RX10 12 10 0 := ⟨RX10, TX10, 19, rfl, by decide, rfl, by decide, (gm 263 (by decide +kernel) (by decide +kernel)), inG10⟩
theorem fp_10_0 : FP 10 0 (tyX10 0) true := ⟨RX10, TX10, 19, tyX10, rfl, tyX10_ok, nmX10, rfl, rfl, rfl⟩
theorem ff_RX10 : FI RX10 "<init>" 10 true := fun _ => ⟨rfl, fun q h => by cases h; rfl⟩
theorem lk_RX10_18 : Cond.classLink RX10 18 RX7 ∈ lw_good := (gm 125 (by decide +kernel) (by decide +kernel))
theorem fl_RX10_20 : FL RX10 20 10 1 := ⟨RX10, TX10, 19, rfl, by decide, rfl, by decide, (gm 264 (by decide +kernel) (by decide +kernel)), inG10⟩
theorem fp_10_1 : FP 10 1 (tyX10 1) true := ⟨RX10, TX10, 19, tyX10, rfl, tyX10_ok, nmX10, rfl, rfl, rfl⟩
theorem fl_RX10_24 : FL RX10 24 10 2 := ⟨RX10, TX10, 19, rfl, by decide, rfl, by decide, (gm 265 (by decide +kernel) (by decide +kernel)), inG10⟩
theorem fp_10_2 : FP 10 2 (tyX10 2) false := ⟨RX10, TX10, 19, tyX10, rfl, tyX10_ok, nmX10, rfl, rfl, rfl⟩
theorem lk_RX10_28 : Cond.classLink RX10 28 RX8 ∈ lw_good := (gm 127 (by decide +kernel) (by decide +kernel))
theorem fl_RX10_30 : FL RX10 30 10 3 := ⟨RX10, TX10, 19, rfl, by decide, rfl, by decide, (gm 266 (by decide +kernel) (by decide +kernel)), inG10⟩
theorem fp_10_3 : FP 10 3 (tyX10 3) true := ⟨RX10, TX10, 19, tyX10, rfl, tyX10_ok, nmX10, rfl, rfl, rfl⟩
theorem fl_RX10_34 : FL RX10 34 10 4 := ⟨RX10, TX10, 19, rfl, by decide, rfl, by decide, (gm 267 (by decide +kernel) (by decide +kernel)), inG10⟩
theorem fp_10_4 : FP 10 4 (tyX10 4) false := ⟨RX10, TX10, 19, tyX10, rfl, tyX10_ok, nmX10, rfl, rfl, rfl⟩
theorem nw_RX10_37 : NW RX10 37 9 := ⟨RX9, TX9, 7, tyX9, rfl, rfl, by decide, tyX9_ok, by decide +kernel, (gm 129 (by decide +kernel) (by decide +kernel)), (gm 130 (by decide +kernel) (by decide +kernel)), (gm 68 (by decide +kernel) (by decide +kernel)), inG9⟩
theorem cl_RX10_39 : LkB RX10 39 yX9_init i_X9_init 1 := ⟨(gm 131 (by decide +kernel) (by decide +kernel)), (gm 68 (by decide +kernel) (by decide +kernel)), (gm 133 (by decide +kernel) (by decide +kernel)), by decide +kernel, by decide +kernel, by decide +kernel⟩
theorem si_X9_init : Cond.instanceMethod yX9_init ∈ lw_good := (gm 132 (by decide +kernel) (by decide +kernel))
theorem fl_RX10_42 : FL RX10 42 10 5 := ⟨RX10, TX10, 19, rfl, by decide, rfl, by decide, (gm 268 (by decide +kernel) (by decide +kernel)), inG10⟩
theorem fp_10_5 : FP 10 5 (tyX10 5) true := ⟨RX10, TX10, 19, tyX10, rfl, tyX10_ok, nmX10, rfl, rfl, rfl⟩
theorem lk_RX10_46 : Cond.classLink RX10 46 RX1 ∈ lw_good := (gm 161 (by decide +kernel) (by decide +kernel))
theorem fl_RX10_48 : FL RX10 48 10 6 := ⟨RX10, TX10, 19, rfl, by decide, rfl, by decide, (gm 269 (by decide +kernel) (by decide +kernel)), inG10⟩
theorem fp_10_6 : FP 10 6 (tyX10 6) true := ⟨RX10, TX10, 19, tyX10, rfl, tyX10_ok, nmX10, rfl, rfl, rfl⟩
theorem fl_RX10_52 : FL RX10 52 10 7 := ⟨RX10, TX10, 19, rfl, by decide, rfl, by decide, (gm 270 (by decide +kernel) (by decide +kernel)), inG10⟩
theorem fp_10_7 : FP 10 7 (tyX10 7) false := ⟨RX10, TX10, 19, tyX10, rfl, tyX10_ok, nmX10, rfl, rfl, rfl⟩
theorem lk_RX10_55 : Cond.classLink RX10 55 RX0 ∈ lw_good := (gm 162 (by decide +kernel) (by decide +kernel))
theorem fl_RX10_57 : FL RX10 57 10 8 := ⟨RX10, TX10, 19, rfl, by decide, rfl, by decide, (gm 271 (by decide +kernel) (by decide +kernel)), inG10⟩
theorem fp_10_8 : FP 10 8 (tyX10 8) true := ⟨RX10, TX10, 19, tyX10, rfl, tyX10_ok, nmX10, rfl, rfl, rfl⟩
theorem fl_RX10_61 : FL RX10 61 10 9 := ⟨RX10, TX10, 19, rfl, by decide, rfl, by decide, (gm 272 (by decide +kernel) (by decide +kernel)), inG10⟩
theorem fp_10_9 : FP 10 9 (tyX10 9) false := ⟨RX10, TX10, 19, tyX10, rfl, tyX10_ok, nmX10, rfl, rfl, rfl⟩
theorem fl_RX10_64 : FL RX10 64 10 10 := ⟨RX10, TX10, 19, rfl, by decide, rfl, by decide, (gm 273 (by decide +kernel) (by decide +kernel)), inG10⟩
theorem fp_10_10 : FP 10 10 (tyX10 10) true := ⟨RX10, TX10, 19, tyX10, rfl, tyX10_ok, nmX10, rfl, rfl, rfl⟩
theorem fl_RX10_68 : FL RX10 68 10 11 := ⟨RX10, TX10, 19, rfl, by decide, rfl, by decide, (gm 274 (by decide +kernel) (by decide +kernel)), inG10⟩
theorem fp_10_11 : FP 10 11 (tyX10 11) false := ⟨RX10, TX10, 19, tyX10, rfl, tyX10_ok, nmX10, rfl, rfl, rfl⟩
theorem nw_RX10_71 : NW RX10 71 4 := ⟨RX4, TX4, 11, tyX4, rfl, rfl, by decide, tyX4_ok, by decide +kernel, (gm 164 (by decide +kernel) (by decide +kernel)), (gm 165 (by decide +kernel) (by decide +kernel)), (gm 69 (by decide +kernel) (by decide +kernel)), inG4⟩
theorem cl_RX10_73 : LkN RX10 73 yX4_init "RedrawnLines" i_X4_init 0 := ⟨(gmN 166 (by decide +kernel) (by decide +kernel)), (gm 69 (by decide +kernel) (by decide +kernel)), (gm 168 (by decide +kernel) (by decide +kernel)), by decide +kernel, by decide +kernel, by decide +kernel⟩
theorem si_X4_init : Cond.instanceMethod yX4_init ∈ lw_good := (gm 167 (by decide +kernel) (by decide +kernel))
theorem fl_RX10_74 : FL RX10 74 10 12 := ⟨RX10, TX10, 19, rfl, by decide, rfl, by decide, (gm 275 (by decide +kernel) (by decide +kernel)), inG10⟩
theorem fp_10_12 : FP 10 12 (tyX10 12) true := ⟨RX10, TX10, 19, tyX10, rfl, tyX10_ok, nmX10, rfl, rfl, rfl⟩
theorem fl_RX10_78 : FL RX10 78 10 13 := ⟨RX10, TX10, 19, rfl, by decide, rfl, by decide, (gm 276 (by decide +kernel) (by decide +kernel)), inG10⟩
theorem fp_10_13 : FP 10 13 (tyX10 13) false := ⟨RX10, TX10, 19, tyX10, rfl, tyX10_ok, nmX10, rfl, rfl, rfl⟩
theorem nw_RX10_81 : NW RX10 81 3 := ⟨RX3, TX3, 8, tyX3, rfl, rfl, by decide, tyX3_ok, by decide +kernel, (gm 206 (by decide +kernel) (by decide +kernel)), (gm 207 (by decide +kernel) (by decide +kernel)), (gm 70 (by decide +kernel) (by decide +kernel)), inG3⟩
theorem cl_RX10_83 : LkB RX10 83 yX3_init i_X3_init 1 := ⟨(gm 208 (by decide +kernel) (by decide +kernel)), (gm 70 (by decide +kernel) (by decide +kernel)), (gm 210 (by decide +kernel) (by decide +kernel)), by decide +kernel, by decide +kernel, by decide +kernel⟩
theorem si_X3_init : Cond.instanceMethod yX3_init ∈ lw_good := (gm 209 (by decide +kernel) (by decide +kernel))
theorem fl_RX10_84 : FL RX10 84 10 14 := ⟨RX10, TX10, 19, rfl, by decide, rfl, by decide, (gm 277 (by decide +kernel) (by decide +kernel)), inG10⟩
theorem fp_10_14 : FP 10 14 (tyX10 14) true := ⟨RX10, TX10, 19, tyX10, rfl, tyX10_ok, nmX10, rfl, rfl, rfl⟩
theorem fl_RX10_88 : FL RX10 88 10 15 := ⟨RX10, TX10, 19, rfl, by decide, rfl, by decide, (gm 278 (by decide +kernel) (by decide +kernel)), inG10⟩
theorem fp_10_15 : FP 10 15 (tyX10 15) false := ⟨RX10, TX10, 19, tyX10, rfl, tyX10_ok, nmX10, rfl, rfl, rfl⟩
theorem lk_RX10_91 : Cond.classLink RX10 91 RX5 ∈ lw_good := (gm 240 (by decide +kernel) (by decide +kernel))
theorem fp_10_16 : FP 10 16 (tyX10 16) true := ⟨RX10, TX10, 19, tyX10, rfl, tyX10_ok, nmX10, rfl, rfl, rfl⟩
theorem fl_RX10_97 : FL RX10 97 10 17 := ⟨RX10, TX10, 19, rfl, by decide, rfl, by decide, (gm 280 (by decide +kernel) (by decide +kernel)), inG10⟩
theorem fp_10_17 : FP 10 17 (tyX10 17) false := ⟨RX10, TX10, 19, tyX10, rfl, tyX10_ok, nmX10, rfl, rfl, rfl⟩
theorem fl_RX10_100 : FL RX10 100 10 18 := ⟨RX10, TX10, 19, rfl, by decide, rfl, by decide, (gm 281 (by decide +kernel) (by decide +kernel)), inG10⟩
theorem fp_10_18 : FP 10 18 (tyX10 18) false := ⟨RX10, TX10, 19, tyX10, rfl, tyX10_ok, nmX10, rfl, rfl, rfl⟩
def tb_X10_init : List (Nat × Instr × Nat) := [(0, .aload_n 0, 1), (1, .invokespecial 3, 3), (4, .aload_n 0, 1), (5, .new 9, 3), (8, .dup, 1), (9, .invokespecial 11, 3), (12, .putfield 12, 3), (15, .aload_n 0, 1), (16, .bipush 12, 2), (18, .anewarray 18, 3), (21, .putfield 20, 3), (24, .aload_n 0, 1), (25, .iconst 0, 1), (26, .putfield 24, 3), (29, .aload_n 0, 1), (30, .bipush 6, 2), (32, .anewarray 28, 3), (35, .putfield 30, 3), (38, .aload_n 0, 1), (39, .iconst 0, 1), (40, .putfield 34, 3), (43, .aload_n 0, 1), (44, .new 37, 3), (47, .dup, 1), (48, .aload_n 0, 1), (49, .getfield 12, 3), (52, .invokespecial 39, 3), (55, .putfield 42, 3), (58, .aload_n 0, 1), (59, .iconst 4, 1), (60, .anewarray 46, 3), (63, .putfield 48, 3), (66, .aload_n 0, 1), (67, .iconst 0, 1), (68, .putfield 52, 3), (71, .aload_n 0, 1), (72, .iconst 4, 1), (73, .anewarray 55, 3), (76, .putfield 57, 3), (79, .aload_n 0, 1), (80, .iconst 0, 1), (81, .putfield 61, 3), (84, .aload_n 0, 1), (85, .bipush 6, 2), (87, .newarray .int, 2), (89, .putfield 64, 3), (92, .aload_n 0, 1), (93, .iconst 0, 1), (94, .putfield 68, 3), (97, .aload_n 0, 1), (98, .new 71, 3), (101, .dup, 1), (102, .invokespecial 73, 3), (105, .putfield 74, 3), (108, .aload_n 0, 1), (109, .iconst 0, 1), (110, .putfield 78, 3), (113, .aload_n 0, 1), (114, .new 81, 3), (117, .dup, 1), (118, .aload_n 0, 1), (119, .getfield 12, 3), (122, .invokespecial 83, 3), (125, .putfield 84, 3), (128, .aload_n 0, 1), (129, .bipush 40, 2), (131, .putfield 88, 3), (134, .aload_n 0, 1), (135, .iconst 4, 1), (136, .anewarray 91, 3), (139, .putfield 93, 3), (142, .aload_n 0, 1), (143, .iconst 0, 1), (144, .putfield 97, 3), (147, .aload_n 0, 1), (148, .iconst 0, 1), (149, .putfield 100, 3), (152, .iconst 0, 1), (153, .istore_n 1, 1), (154, .iload_n 1, 1), (155, .iconst 4, 1), (156, .if_icmp .ge 22, 3), (159, .aload_n 0, 1), (160, .getfield 93, 3), (163, .iload_n 1, 1), (164, .new 91, 3), (167, .dup, 1), (168, .invokespecial 103, 3), (171, .aastore, 1), (172, .iinc 1 1, 3), (175, .goto (-21), 3), (178, .return_, 1)]
def i_X10_init : MI := (RX10, cX10_init, 2, none, "<init>", { frames := 2, cells := 41, slots := 8921, locals := 101 })
theorem D_X10_init : tbOK (i_X10_init).2.1 tb_X10_init := by show ∀ q ∈ tb_X10_init, decode cX10_init q.1 = .ok (q.2.1, q.2.2); decide +kernel
def po_X10_init (S : Sk) (I : II) (r : Sk × II) : Option LV × Sk × II := (none, r.1, r.2)
def lp_X10_init_154 (fu : Nat) (a0 : Nat) (self154 : Int32 → Sk → II → Option (Sk × II)) (x1 : Int32) (S : Sk) (I : II) : Option (Sk × II) :=
  if (4 : Int32) ≤ x1 then some ((S, I)) else lt (nwS S 5 0) fun S3 => (lt (nwI S I) fun I4 => ((f_X5_init fu S3 I4 S.2.2.2).bind fun q10 => (gd (inb q10.1 (S.1 a0 16) x1) (lt (upP q10.1 ((S.1 a0 16) - 1) (nx x1) (S.2.2.2 + 1)) fun S19 => (self154 (x1 + (1 : Int32)) S19 q10.2)))))
def f_X10_init (fu : Nat) (S : Sk) (I : II) (a0 : Nat) : Option (Sk × II) :=
  lt (nwS S 2 0) fun S25 => (lt (nwI S I) fun I26 => ((f_X2_init fu S25 I26 S.2.2.2).bind fun q31 => (lt (upP q31.1 a0 0 (S.2.2.2 + 1)) fun S38 => (lt (nwS S38 (110 + 7) (nx (12 : Int32))) fun S43 => (lt (nwI S38 q31.2) fun I44 => (lt (upP S43 a0 1 (S38.2.2.2 + 1)) fun S50 => (lt (upI I44 a0 2 (0 : Int32)) fun I56 => (lt (nwS S50 (110 + 8) (nx (6 : Int32))) fun S57 => (lt (nwI S50 I56) fun I58 => (lt (upP S57 a0 3 (S50.2.2.2 + 1)) fun S65 => (lt (upI I58 a0 4 (0 : Int32)) fun I72 => (lt (nwS S65 9 0) fun S73 => (lt (nwI S65 I72) fun I74 => ((f_X9_init fu S73 I74 S65.2.2.2 (S73.1 a0 0)).bind fun q83 => (lt (upP q83.1 a0 5 (S65.2.2.2 + 1)) fun S94 => (lt (nwS S94 (110 + 1) (nx (4 : Int32))) fun S103 => (lt (nwI S94 q83.2) fun I104 => (lt (upP S103 a0 6 (S94.2.2.2 + 1)) fun S114 => (lt (upI I104 a0 7 (0 : Int32)) fun I124 => (lt (nwS S114 (110 + 0) (nx (4 : Int32))) fun S125 => (lt (nwI S114 I124) fun I126 => (lt (upP S125 a0 8 (S114.2.2.2 + 1)) fun S137 => (lt (upI I126 a0 9 (0 : Int32)) fun I148 => (lt (nwS S137 100 (nx (6 : Int32))) fun S149 => (lt (nwI S137 I148) fun I150 => (lt (upP S149 a0 10 (S137.2.2.2 + 1)) fun S162 => (lt (upI I150 a0 11 (0 : Int32)) fun I174 => (lt (nwS S162 4 0) fun S175 => (lt (nwI S162 I174) fun I176 => ((f_X4_init fu S175 I176 S162.2.2.2).bind fun q189 => (lt (upP q189.1 a0 12 (S162.2.2.2 + 1)) fun S204 => (lt (upI q189.2 a0 13 (0 : Int32)) fun I217 => (lt (nwS S204 3 0) fun S218 => (lt (nwI S204 I217) fun I219 => ((f_X3_init fu S218 I219 S204.2.2.2 (S218.1 a0 0)).bind fun q234 => (lt (upP q234.1 a0 14 (S204.2.2.2 + 1)) fun S251 => (lt (upI q234.2 a0 15 (40 : Int32)) fun I266 => (lt (nwS S251 (110 + 5) (nx (4 : Int32))) fun S267 => (lt (nwI S251 I266) fun I268 => (lt (upP S267 a0 16 (S251.2.2.2 + 1)) fun S284 => (lt (upI I268 a0 17 (0 : Int32)) fun I300 => (lt (upI I300 a0 18 (0 : Int32)) fun I301 => (fix3 (lp_X10_init_154 fu a0) 5 (0 : Int32) S284 I301)))))))))))))))))))))))))))))))))))))))))))
set_option maxRecDepth 100000 in
set_option maxHeartbeats 4000000 in
theorem gg_X10_init {E : EV} (fu : Nat) (S0 : Sk) (I0 : II) (a0 : Nat) (ht0 : tyO S0 10 a0) : GG E i_X10_init (enM E i_X10_init S0 (po_X10_init S0 I0)) S0 I0 (0, 0) 0 [(0, vA (a0 + 1))] [] (f_X10_init fu S0 I0 a0) := by
  have hl154 : ∀ (nn : Nat) (c s : Nat) (hc : c + nn * 2 ≤ 41) (hs : s + nn * 64 ≤ 8921) (x1 : Int32) (S : Sk) (I : II), tyO S 10 a0 ∧ Sx S0 S → GG E i_X10_init (enM E i_X10_init S0 (po_X10_init S0 I0)) S I (c, s) 154 [(0, vA (a0 + 1)), (1, vI x1)] [] (fix3 (lp_X10_init_154 fu a0) nn x1 S I) := by
    refine g_fix3A (qc := 2) (qs := 64) (CT := 41) (CS := 8921) (fun x1 S I => S) (fun x1 S I => I) (fun x1 S I => [(0, vA (a0 + 1)), (1, vI x1)]) (fun x1 S I => tyO S 10 a0 ∧ Sx S0 S) ?_
    intro nn self154 hself154 c s hc hs x1 S I hinv
    obtain ⟨ht0, hsx⟩ := hinv
    unfold lp_X10_init_154
    refine g_iload_n (dk D_X10_init 79 rfl) rfl ?_
    refine g_iconst (v := (4 : Int32)) (dk D_X10_init 80 rfl) rfl ?_
    refine g_icmp_ge (tgt := 178) (dk D_X10_init 81 rfl) rfl (fun hc1 => ?_) (fun hc1 => ?_)
    · exact g_return rfl rfl hsx rfl (by show c ≤ 41; omega) (by show s ≤ 8921; omega) (dk D_X10_init 91 rfl)
    · refine g_aload_n (dk D_X10_init 82 rfl) rfl ?_
      refine g_getAt (t := 115) fl_RX10_93 rfl ht0 (dk D_X10_init 83 rfl) (fun ht2 => ?_)
      refine g_iload_n (dk D_X10_init 84 rfl) rfl ?_
      refine g_new nw_RX10_91 (by show c + 1 ≤ 41; omega) (by show s + 4 ≤ 8921; omega) (dk D_X10_init 85 rfl) ?_
      refine g_wide (cs' := (c + 1, s + 4)) (by show c + 1 ≤ c + 1; omega) (by show s + 4 ≤ s + 4; omega) ?_
      refine g_ltS (fun S3 eS3 => ?_)
      refine g_ltI (fun I4 eI4 => ?_)
      have hx5 : Sx S S3 := eS3 ▸ nwS_x
      have ht6 := ht2.x hx5
      have ht7 := ht0.x hx5
      have hsx8 := Sx.tr hsx hx5
      have ht9 : tyR S3 5 (S.2.2.2 + 1) := eS3 ▸ nwS_ty.R
      refine g_dup (dk D_X10_init 86 rfl) rfl ?_
      refine g_bind (fun q10 hq11 => ?_)
      refine g_callIN (st := [vA (S.2.2.2 + 1), vI x1, vA (S.1 a0 16)]) (c_X5_init (E := E) fu S3 I4 S.2.2.2 q10 hq11 (ht9.nz (Nat.succ_ne_zero _))) cl_RX10_103 rfl si_X5_init rfl rfl rfl ⟨⟨by decide, by decide⟩, by show c + 1 + 1 ≤ 41; omega, by show s + 4 + 60 ≤ 8921; omega⟩ (Nat.le_of_ble_eq_true rfl) (dk D_X10_init 87 rfl) (fun hx13 => ?_)
      refine g_wide (cs' := (c + 2, s + 64)) (by show c + 1 + 1 ≤ c + 2; omega) (by show s + 4 + 60 ≤ s + 64; omega) ?_
      have ht14 := ht6.x hx13
      have ht15 := ht9.x hx13
      have ht16 := ht7.x hx13
      have hsx17 := Sx.tr hsx8 hx13
      refine g_gd (fun hi18 => ?_)
      refine g_aastore (c0 := 5) (by unfold aoC; decide) ht14 hi18 ht15 (Nat.succ_ne_zero _) (dk D_X10_init 88 rfl) ?_
      refine g_ltS (fun S19 eS19 => ?_)
      have hx20 : Sx q10.1 S19 := eS19 ▸ upP_x
      have ht21 := ht14.x hx20
      have ht22 := ht15.x hx20
      have ht23 := ht16.x hx20
      have hsx24 := Sx.tr hsx17 hx20
      refine g_iinc (v := (1 : Int32)) (L' := [(0, vA (a0 + 1)), (1, vI (x1 + (1 : Int32)))]) (dk D_X10_init 89 rfl) rfl rfl (Nat.le_of_ble_eq_true rfl) rfl ?_
      refine g_goto (tgt := 154) (dk D_X10_init 90 rfl) rfl ?_
      exact hself154 (c + 2) (s + 64) (by omega) (by omega) (x1 + (1 : Int32)) S19 q10.2 ⟨ht23, hsx24⟩
  unfold f_X10_init
  refine g_aload_n (dk D_X10_init 0 rfl) rfl ?_
  refine g_objInit lk_RX10_3 lk_oi lk_oc (Nat.succ_ne_zero _) (by decide) (by rw [wid_sum]; exact Nat.le_of_ble_eq_true rfl) (dk D_X10_init 1 rfl) ?_
  refine g_aload_n (dk D_X10_init 2 rfl) rfl ?_
  refine g_new nw_RX10_9 (by show 0 + 1 ≤ 41; omega) (by show 0 + 6 ≤ 8921; omega) (dk D_X10_init 3 rfl) ?_
  refine g_wide (cs' := (1, 6)) (by show 0 + 1 ≤ 1; omega) (by show 0 + 6 ≤ 6; omega) ?_
  refine g_ltS (fun S25 eS25 => ?_)
  refine g_ltI (fun I26 eI26 => ?_)
  have hx27 : Sx S0 S25 := eS25 ▸ nwS_x
  have ht28 := ht0.x hx27
  have hsx29 := Sx.tr Sx.rf hx27
  have ht30 : tyR S25 2 (S0.2.2.2 + 1) := eS25 ▸ nwS_ty.R
  refine g_dup (dk D_X10_init 4 rfl) rfl ?_
  refine g_bind (fun q31 hq32 => ?_)
  refine g_callIN (st := [vA (S0.2.2.2 + 1), vA (a0 + 1)]) (c_X2_init (E := E) fu S25 I26 S0.2.2.2 q31 hq32 (ht30.nz (Nat.succ_ne_zero _))) cl_RX10_11 rfl si_X2_init rfl rfl rfl ⟨⟨by decide, by decide⟩, by show 1 + 4 ≤ 41; omega, by show 6 + 302 ≤ 8921; omega⟩ (Nat.le_of_ble_eq_true rfl) (dk D_X10_init 5 rfl) (fun hx34 => ?_)
  refine g_wide (cs' := (5, 308)) (by show 1 + 4 ≤ 5; omega) (by show 6 + 302 ≤ 308; omega) ?_
  have ht35 := ht30.x hx34
  have ht36 := ht28.x hx34
  have hsx37 := Sx.tr hsx29 hx34
  refine g_putAt (t := 2) fl_RX10_12 fp_10_0 ff_RX10 rfl (Or.inl ⟨_, rfl⟩) ht35 ht36 (dk D_X10_init 6 rfl) ?_
  refine g_ltS (fun S38 eS38 => ?_)
  have hx39 : Sx q31.1 S38 := eS38 ▸ upP_x
  have ht40 := ht35.x hx39
  have ht41 := ht36.x hx39
  have hsx42 := Sx.tr hsx37 hx39
  refine g_aload_n (dk D_X10_init 7 rfl) rfl ?_
  refine g_bipush (v := (12 : Int32)) (dk D_X10_init 8 rfl) rfl ?_
  refine g_anewarray (c0 := 7) (by unfold aoC; decide) rfl (by decide) (by decide) (by show 5 + 1 ≤ 41; omega) (by show 308 + 12 ≤ 8921; omega) lk_RX10_18 (dk D_X10_init 9 rfl) ?_
  refine g_wide (cs' := (6, 320)) (by show 5 + 1 ≤ 6; omega) (by show 308 + 12 ≤ 320; omega) ?_
  refine g_ltS (fun S43 eS43 => ?_)
  refine g_ltI (fun I44 eI44 => ?_)
  have hx45 : Sx S38 S43 := eS43 ▸ nwS_x
  have ht46 := ht40.x hx45
  have ht47 := ht41.x hx45
  have hsx48 := Sx.tr hsx42 hx45
  have ht49 : tyR S43 117 (S38.2.2.2 + 1) := eS43 ▸ nwS_ty.R
  refine g_putAt (t := 117) fl_RX10_20 fp_10_1 ff_RX10 rfl (Or.inr ⟨_, rfl⟩) ht49 ht47 (dk D_X10_init 10 rfl) ?_
  refine g_ltS (fun S50 eS50 => ?_)
  have hx51 : Sx S43 S50 := eS50 ▸ upP_x
  have ht52 := ht46.x hx51
  have ht53 := ht49.x hx51
  have ht54 := ht47.x hx51
  have hsx55 := Sx.tr hsx48 hx51
  refine g_aload_n (dk D_X10_init 11 rfl) rfl ?_
  refine g_iconst (v := (0 : Int32)) (dk D_X10_init 12 rfl) rfl ?_
  refine g_putIt fl_RX10_24 fp_10_2 (fun h => (by cases h)) (by decide) rfl rfl ht54 (dk D_X10_init 13 rfl) ?_
  refine g_ltI (fun I56 eI56 => ?_)
  refine g_aload_n (dk D_X10_init 14 rfl) rfl ?_
  refine g_bipush (v := (6 : Int32)) (dk D_X10_init 15 rfl) rfl ?_
  refine g_anewarray (c0 := 8) (by unfold aoC; decide) rfl (by decide) (by decide) (by show 6 + 1 ≤ 41; omega) (by show 320 + 6 ≤ 8921; omega) lk_RX10_28 (dk D_X10_init 16 rfl) ?_
  refine g_wide (cs' := (7, 326)) (by show 6 + 1 ≤ 7; omega) (by show 320 + 6 ≤ 326; omega) ?_
  refine g_ltS (fun S57 eS57 => ?_)
  refine g_ltI (fun I58 eI58 => ?_)
  have hx59 : Sx S50 S57 := eS57 ▸ nwS_x
  have ht60 := ht52.x hx59
  have ht61 := ht53.x hx59
  have ht62 := ht54.x hx59
  have hsx63 := Sx.tr hsx55 hx59
  have ht64 : tyR S57 118 (S50.2.2.2 + 1) := eS57 ▸ nwS_ty.R
  refine g_putAt (t := 118) fl_RX10_30 fp_10_3 ff_RX10 rfl (Or.inr ⟨_, rfl⟩) ht64 ht62 (dk D_X10_init 17 rfl) ?_
  refine g_ltS (fun S65 eS65 => ?_)
  have hx66 : Sx S57 S65 := eS65 ▸ upP_x
  have ht67 := ht60.x hx66
  have ht68 := ht61.x hx66
  have ht69 := ht64.x hx66
  have ht70 := ht62.x hx66
  have hsx71 := Sx.tr hsx63 hx66
  refine g_aload_n (dk D_X10_init 18 rfl) rfl ?_
  refine g_iconst (v := (0 : Int32)) (dk D_X10_init 19 rfl) rfl ?_
  refine g_putIt fl_RX10_34 fp_10_4 (fun h => (by cases h)) (by decide) rfl rfl ht70 (dk D_X10_init 20 rfl) ?_
  refine g_ltI (fun I72 eI72 => ?_)
  refine g_aload_n (dk D_X10_init 21 rfl) rfl ?_
  refine g_new nw_RX10_37 (by show 7 + 1 ≤ 41; omega) (by show 326 + 7 ≤ 8921; omega) (dk D_X10_init 22 rfl) ?_
  refine g_wide (cs' := (8, 333)) (by show 7 + 1 ≤ 8; omega) (by show 326 + 7 ≤ 333; omega) ?_
  refine g_ltS (fun S73 eS73 => ?_)
  refine g_ltI (fun I74 eI74 => ?_)
  have hx75 : Sx S65 S73 := eS73 ▸ nwS_x
  have ht76 := ht67.x hx75
  have ht77 := ht68.x hx75
  have ht78 := ht69.x hx75
  have ht79 := ht70.x hx75
  have hsx80 := Sx.tr hsx71 hx75
  have ht81 : tyR S73 9 (S65.2.2.2 + 1) := eS73 ▸ nwS_ty.R
  refine g_dup (dk D_X10_init 23 rfl) rfl ?_
  refine g_aload_n (dk D_X10_init 24 rfl) rfl ?_
  refine g_getAt (t := 2) fl_RX10_12 rfl ht79 (dk D_X10_init 25 rfl) (fun ht82 => ?_)
  refine g_bind (fun q83 hq84 => ?_)
  refine g_callI (st := [vA (S65.2.2.2 + 1), vA (a0 + 1)]) (c_X9_init (E := E) fu S73 I74 S65.2.2.2 (S73.1 a0 0) q83 hq84 (ht81.nz (Nat.succ_ne_zero _)) ht82) cl_RX10_39 rfl si_X9_init rfl rfl rfl ⟨⟨by decide, by decide⟩, by show 8 + 3 ≤ 41; omega, by show 333 + 1488 ≤ 8921; omega⟩ (Nat.le_of_ble_eq_true rfl) (dk D_X10_init 26 rfl) (fun hx86 => ?_)
  refine g_wide (cs' := (11, 1821)) (by show 8 + 3 ≤ 11; omega) (by show 333 + 1488 ≤ 1821; omega) ?_
  have ht87 := ht76.x hx86
  have ht88 := ht77.x hx86
  have ht89 := ht78.x hx86
  have ht90 := ht81.x hx86
  have ht91 := ht82.x hx86
  have ht92 := ht79.x hx86
  have hsx93 := Sx.tr hsx80 hx86
  refine g_putAt (t := 9) fl_RX10_42 fp_10_5 ff_RX10 rfl (Or.inl ⟨_, rfl⟩) ht90 ht92 (dk D_X10_init 27 rfl) ?_
  refine g_ltS (fun S94 eS94 => ?_)
  have hx95 : Sx q83.1 S94 := eS94 ▸ upP_x
  have ht96 := ht87.x hx95
  have ht97 := ht88.x hx95
  have ht98 := ht89.x hx95
  have ht99 := ht90.x hx95
  have ht100 := ht91.x hx95
  have ht101 := ht92.x hx95
  have hsx102 := Sx.tr hsx93 hx95
  refine g_aload_n (dk D_X10_init 28 rfl) rfl ?_
  refine g_iconst (v := (4 : Int32)) (dk D_X10_init 29 rfl) rfl ?_
  refine g_anewarray (c0 := 1) (by unfold aoC; decide) rfl (by decide) (by decide) (by show 11 + 1 ≤ 41; omega) (by show 1821 + 4 ≤ 8921; omega) lk_RX10_46 (dk D_X10_init 30 rfl) ?_
  refine g_wide (cs' := (12, 1825)) (by show 11 + 1 ≤ 12; omega) (by show 1821 + 4 ≤ 1825; omega) ?_
  refine g_ltS (fun S103 eS103 => ?_)
  refine g_ltI (fun I104 eI104 => ?_)
  have hx105 : Sx S94 S103 := eS103 ▸ nwS_x
  have ht106 := ht96.x hx105
  have ht107 := ht97.x hx105
  have ht108 := ht98.x hx105
  have ht109 := ht99.x hx105
  have ht110 := ht100.x hx105
  have ht111 := ht101.x hx105
  have hsx112 := Sx.tr hsx102 hx105
  have ht113 : tyR S103 111 (S94.2.2.2 + 1) := eS103 ▸ nwS_ty.R
  refine g_putAt (t := 111) fl_RX10_48 fp_10_6 ff_RX10 rfl (Or.inr ⟨_, rfl⟩) ht113 ht111 (dk D_X10_init 31 rfl) ?_
  refine g_ltS (fun S114 eS114 => ?_)
  have hx115 : Sx S103 S114 := eS114 ▸ upP_x
  have ht116 := ht106.x hx115
  have ht117 := ht107.x hx115
  have ht118 := ht108.x hx115
  have ht119 := ht109.x hx115
  have ht120 := ht110.x hx115
  have ht121 := ht113.x hx115
  have ht122 := ht111.x hx115
  have hsx123 := Sx.tr hsx112 hx115
  refine g_aload_n (dk D_X10_init 32 rfl) rfl ?_
  refine g_iconst (v := (0 : Int32)) (dk D_X10_init 33 rfl) rfl ?_
  refine g_putIt fl_RX10_52 fp_10_7 (fun h => (by cases h)) (by decide) rfl rfl ht122 (dk D_X10_init 34 rfl) ?_
  refine g_ltI (fun I124 eI124 => ?_)
  refine g_aload_n (dk D_X10_init 35 rfl) rfl ?_
  refine g_iconst (v := (4 : Int32)) (dk D_X10_init 36 rfl) rfl ?_
  refine g_anewarray (c0 := 0) (by unfold aoC; decide) rfl (by decide) (by decide) (by show 12 + 1 ≤ 41; omega) (by show 1825 + 4 ≤ 8921; omega) lk_RX10_55 (dk D_X10_init 37 rfl) ?_
  refine g_wide (cs' := (13, 1829)) (by show 12 + 1 ≤ 13; omega) (by show 1825 + 4 ≤ 1829; omega) ?_
  refine g_ltS (fun S125 eS125 => ?_)
  refine g_ltI (fun I126 eI126 => ?_)
  have hx127 : Sx S114 S125 := eS125 ▸ nwS_x
  have ht128 := ht116.x hx127
  have ht129 := ht117.x hx127
  have ht130 := ht118.x hx127
  have ht131 := ht119.x hx127
  have ht132 := ht120.x hx127
  have ht133 := ht121.x hx127
  have ht134 := ht122.x hx127
  have hsx135 := Sx.tr hsx123 hx127
  have ht136 : tyR S125 110 (S114.2.2.2 + 1) := eS125 ▸ nwS_ty.R
  refine g_putAt (t := 110) fl_RX10_57 fp_10_8 ff_RX10 rfl (Or.inr ⟨_, rfl⟩) ht136 ht134 (dk D_X10_init 38 rfl) ?_
  refine g_ltS (fun S137 eS137 => ?_)
  have hx138 : Sx S125 S137 := eS137 ▸ upP_x
  have ht139 := ht128.x hx138
  have ht140 := ht129.x hx138
  have ht141 := ht130.x hx138
  have ht142 := ht131.x hx138
  have ht143 := ht132.x hx138
  have ht144 := ht133.x hx138
  have ht145 := ht136.x hx138
  have ht146 := ht134.x hx138
  have hsx147 := Sx.tr hsx135 hx138
  refine g_aload_n (dk D_X10_init 39 rfl) rfl ?_
  refine g_iconst (v := (0 : Int32)) (dk D_X10_init 40 rfl) rfl ?_
  refine g_putIt fl_RX10_61 fp_10_9 (fun h => (by cases h)) (by decide) rfl rfl ht146 (dk D_X10_init 41 rfl) ?_
  refine g_ltI (fun I148 eI148 => ?_)
  refine g_aload_n (dk D_X10_init 42 rfl) rfl ?_
  refine g_bipush (v := (6 : Int32)) (dk D_X10_init 43 rfl) rfl ?_
  refine g_newarray (by decide) (by decide) (by show 13 + 1 ≤ 41; omega) (by show 1829 + 6 ≤ 8921; omega) lk_arr (dk D_X10_init 44 rfl) ?_
  refine g_wide (cs' := (14, 1835)) (by show 13 + 1 ≤ 14; omega) (by show 1829 + 6 ≤ 1835; omega) ?_
  refine g_ltS (fun S149 eS149 => ?_)
  refine g_ltI (fun I150 eI150 => ?_)
  have hx151 : Sx S137 S149 := eS149 ▸ nwS_x
  have ht152 := ht139.x hx151
  have ht153 := ht140.x hx151
  have ht154 := ht141.x hx151
  have ht155 := ht142.x hx151
  have ht156 := ht143.x hx151
  have ht157 := ht144.x hx151
  have ht158 := ht145.x hx151
  have ht159 := ht146.x hx151
  have hsx160 := Sx.tr hsx147 hx151
  have ht161 : tyR S149 100 (S137.2.2.2 + 1) := eS149 ▸ nwS_ty.R
  refine g_putAt (t := 100) fl_RX10_64 fp_10_10 ff_RX10 rfl (Or.inr ⟨_, rfl⟩) ht161 ht159 (dk D_X10_init 45 rfl) ?_
  refine g_ltS (fun S162 eS162 => ?_)
  have hx163 : Sx S149 S162 := eS162 ▸ upP_x
  have ht164 := ht152.x hx163
  have ht165 := ht153.x hx163
  have ht166 := ht154.x hx163
  have ht167 := ht155.x hx163
  have ht168 := ht156.x hx163
  have ht169 := ht157.x hx163
  have ht170 := ht158.x hx163
  have ht171 := ht161.x hx163
  have ht172 := ht159.x hx163
  have hsx173 := Sx.tr hsx160 hx163
  refine g_aload_n (dk D_X10_init 46 rfl) rfl ?_
  refine g_iconst (v := (0 : Int32)) (dk D_X10_init 47 rfl) rfl ?_
  refine g_putIt fl_RX10_68 fp_10_11 (fun h => (by cases h)) (by decide) rfl rfl ht172 (dk D_X10_init 48 rfl) ?_
  refine g_ltI (fun I174 eI174 => ?_)
  refine g_aload_n (dk D_X10_init 49 rfl) rfl ?_
  refine g_new nw_RX10_71 (by show 14 + 1 ≤ 41; omega) (by show 1835 + 11 ≤ 8921; omega) (dk D_X10_init 50 rfl) ?_
  refine g_wide (cs' := (15, 1846)) (by show 14 + 1 ≤ 15; omega) (by show 1835 + 11 ≤ 1846; omega) ?_
  refine g_ltS (fun S175 eS175 => ?_)
  refine g_ltI (fun I176 eI176 => ?_)
  have hx177 : Sx S162 S175 := eS175 ▸ nwS_x
  have ht178 := ht164.x hx177
  have ht179 := ht165.x hx177
  have ht180 := ht166.x hx177
  have ht181 := ht167.x hx177
  have ht182 := ht168.x hx177
  have ht183 := ht169.x hx177
  have ht184 := ht170.x hx177
  have ht185 := ht171.x hx177
  have ht186 := ht172.x hx177
  have hsx187 := Sx.tr hsx173 hx177
  have ht188 : tyR S175 4 (S162.2.2.2 + 1) := eS175 ▸ nwS_ty.R
  refine g_dup (dk D_X10_init 51 rfl) rfl ?_
  refine g_bind (fun q189 hq190 => ?_)
  refine g_callIN (st := [vA (S162.2.2.2 + 1), vA (a0 + 1)]) (c_X4_init (E := E) fu S175 I176 S162.2.2.2 q189 hq190 (ht188.nz (Nat.succ_ne_zero _))) cl_RX10_73 rfl si_X4_init rfl rfl rfl ⟨⟨by decide, by decide⟩, by show 15 + 7 ≤ 41; omega, by show 1846 + 6649 ≤ 8921; omega⟩ (Nat.le_of_ble_eq_true rfl) (dk D_X10_init 52 rfl) (fun hx192 => ?_)
  refine g_wide (cs' := (22, 8495)) (by show 15 + 7 ≤ 22; omega) (by show 1846 + 6649 ≤ 8495; omega) ?_
  have ht193 := ht178.x hx192
  have ht194 := ht179.x hx192
  have ht195 := ht180.x hx192
  have ht196 := ht181.x hx192
  have ht197 := ht182.x hx192
  have ht198 := ht183.x hx192
  have ht199 := ht184.x hx192
  have ht200 := ht185.x hx192
  have ht201 := ht188.x hx192
  have ht202 := ht186.x hx192
  have hsx203 := Sx.tr hsx187 hx192
  refine g_putAt (t := 4) fl_RX10_74 fp_10_12 ff_RX10 rfl (Or.inl ⟨_, rfl⟩) ht201 ht202 (dk D_X10_init 53 rfl) ?_
  refine g_ltS (fun S204 eS204 => ?_)
  have hx205 : Sx q189.1 S204 := eS204 ▸ upP_x
  have ht206 := ht193.x hx205
  have ht207 := ht194.x hx205
  have ht208 := ht195.x hx205
  have ht209 := ht196.x hx205
  have ht210 := ht197.x hx205
  have ht211 := ht198.x hx205
  have ht212 := ht199.x hx205
  have ht213 := ht200.x hx205
  have ht214 := ht201.x hx205
  have ht215 := ht202.x hx205
  have hsx216 := Sx.tr hsx203 hx205
  refine g_aload_n (dk D_X10_init 54 rfl) rfl ?_
  refine g_iconst (v := (0 : Int32)) (dk D_X10_init 55 rfl) rfl ?_
  refine g_putIt fl_RX10_78 fp_10_13 (fun h => (by cases h)) (by decide) rfl rfl ht215 (dk D_X10_init 56 rfl) ?_
  refine g_ltI (fun I217 eI217 => ?_)
  refine g_aload_n (dk D_X10_init 57 rfl) rfl ?_
  refine g_new nw_RX10_81 (by show 22 + 1 ≤ 41; omega) (by show 8495 + 8 ≤ 8921; omega) (dk D_X10_init 58 rfl) ?_
  refine g_wide (cs' := (23, 8503)) (by show 22 + 1 ≤ 23; omega) (by show 8495 + 8 ≤ 8503; omega) ?_
  refine g_ltS (fun S218 eS218 => ?_)
  refine g_ltI (fun I219 eI219 => ?_)
  have hx220 : Sx S204 S218 := eS218 ▸ nwS_x
  have ht221 := ht206.x hx220
  have ht222 := ht207.x hx220
  have ht223 := ht208.x hx220
  have ht224 := ht209.x hx220
  have ht225 := ht210.x hx220
  have ht226 := ht211.x hx220
  have ht227 := ht212.x hx220
  have ht228 := ht213.x hx220
  have ht229 := ht214.x hx220
  have ht230 := ht215.x hx220
  have hsx231 := Sx.tr hsx216 hx220
  have ht232 : tyR S218 3 (S204.2.2.2 + 1) := eS218 ▸ nwS_ty.R
  refine g_dup (dk D_X10_init 59 rfl) rfl ?_
  refine g_aload_n (dk D_X10_init 60 rfl) rfl ?_
  refine g_getAt (t := 2) fl_RX10_12 rfl ht230 (dk D_X10_init 61 rfl) (fun ht233 => ?_)
  refine g_bind (fun q234 hq235 => ?_)
  refine g_callI (st := [vA (S204.2.2.2 + 1), vA (a0 + 1)]) (c_X3_init (E := E) fu S218 I219 S204.2.2.2 (S218.1 a0 0) q234 hq235 (ht232.nz (Nat.succ_ne_zero _)) ht233) cl_RX10_83 rfl si_X3_init rfl rfl rfl ⟨⟨by decide, by decide⟩, by show 23 + 5 ≤ 41; omega, by show 8503 + 30 ≤ 8921; omega⟩ (Nat.le_of_ble_eq_true rfl) (dk D_X10_init 62 rfl) (fun hx237 => ?_)
  refine g_wide (cs' := (28, 8533)) (by show 23 + 5 ≤ 28; omega) (by show 8503 + 30 ≤ 8533; omega) ?_
  have ht238 := ht221.x hx237
  have ht239 := ht222.x hx237
  have ht240 := ht223.x hx237
  have ht241 := ht224.x hx237
  have ht242 := ht225.x hx237
  have ht243 := ht226.x hx237
  have ht244 := ht227.x hx237
  have ht245 := ht228.x hx237
  have ht246 := ht229.x hx237
  have ht247 := ht232.x hx237
  have ht248 := ht233.x hx237
  have ht249 := ht230.x hx237
  have hsx250 := Sx.tr hsx231 hx237
  refine g_putAt (t := 3) fl_RX10_84 fp_10_14 ff_RX10 rfl (Or.inl ⟨_, rfl⟩) ht247 ht249 (dk D_X10_init 63 rfl) ?_
  refine g_ltS (fun S251 eS251 => ?_)
  have hx252 : Sx q234.1 S251 := eS251 ▸ upP_x
  have ht253 := ht238.x hx252
  have ht254 := ht239.x hx252
  have ht255 := ht240.x hx252
  have ht256 := ht241.x hx252
  have ht257 := ht242.x hx252
  have ht258 := ht243.x hx252
  have ht259 := ht244.x hx252
  have ht260 := ht245.x hx252
  have ht261 := ht246.x hx252
  have ht262 := ht247.x hx252
  have ht263 := ht248.x hx252
  have ht264 := ht249.x hx252
  have hsx265 := Sx.tr hsx250 hx252
  refine g_aload_n (dk D_X10_init 64 rfl) rfl ?_
  refine g_bipush (v := (40 : Int32)) (dk D_X10_init 65 rfl) rfl ?_
  refine g_putIt fl_RX10_88 fp_10_15 (fun h => (by cases h)) (by decide) rfl rfl ht264 (dk D_X10_init 66 rfl) ?_
  refine g_ltI (fun I266 eI266 => ?_)
  refine g_aload_n (dk D_X10_init 67 rfl) rfl ?_
  refine g_iconst (v := (4 : Int32)) (dk D_X10_init 68 rfl) rfl ?_
  refine g_anewarray (c0 := 5) (by unfold aoC; decide) rfl (by decide) (by decide) (by show 28 + 1 ≤ 41; omega) (by show 8533 + 4 ≤ 8921; omega) lk_RX10_91 (dk D_X10_init 69 rfl) ?_
  refine g_wide (cs' := (29, 8537)) (by show 28 + 1 ≤ 29; omega) (by show 8533 + 4 ≤ 8537; omega) ?_
  refine g_ltS (fun S267 eS267 => ?_)
  refine g_ltI (fun I268 eI268 => ?_)
  have hx269 : Sx S251 S267 := eS267 ▸ nwS_x
  have ht270 := ht253.x hx269
  have ht271 := ht254.x hx269
  have ht272 := ht255.x hx269
  have ht273 := ht256.x hx269
  have ht274 := ht257.x hx269
  have ht275 := ht258.x hx269
  have ht276 := ht259.x hx269
  have ht277 := ht260.x hx269
  have ht278 := ht261.x hx269
  have ht279 := ht262.x hx269
  have ht280 := ht263.x hx269
  have ht281 := ht264.x hx269
  have hsx282 := Sx.tr hsx265 hx269
  have ht283 : tyR S267 115 (S251.2.2.2 + 1) := eS267 ▸ nwS_ty.R
  refine g_putAt (t := 115) fl_RX10_93 fp_10_16 ff_RX10 rfl (Or.inr ⟨_, rfl⟩) ht283 ht281 (dk D_X10_init 70 rfl) ?_
  refine g_ltS (fun S284 eS284 => ?_)
  have hx285 : Sx S267 S284 := eS284 ▸ upP_x
  have ht286 := ht270.x hx285
  have ht287 := ht271.x hx285
  have ht288 := ht272.x hx285
  have ht289 := ht273.x hx285
  have ht290 := ht274.x hx285
  have ht291 := ht275.x hx285
  have ht292 := ht276.x hx285
  have ht293 := ht277.x hx285
  have ht294 := ht278.x hx285
  have ht295 := ht279.x hx285
  have ht296 := ht280.x hx285
  have ht297 := ht283.x hx285
  have ht298 := ht281.x hx285
  have hsx299 := Sx.tr hsx282 hx285
  refine g_aload_n (dk D_X10_init 71 rfl) rfl ?_
  refine g_iconst (v := (0 : Int32)) (dk D_X10_init 72 rfl) rfl ?_
  refine g_putIt fl_RX10_97 fp_10_17 (fun h => (by cases h)) (by decide) rfl rfl ht298 (dk D_X10_init 73 rfl) ?_
  refine g_ltI (fun I300 eI300 => ?_)
  refine g_aload_n (dk D_X10_init 74 rfl) rfl ?_
  refine g_iconst (v := (0 : Int32)) (dk D_X10_init 75 rfl) rfl ?_
  refine g_putIt fl_RX10_100 fp_10_18 (fun h => (by cases h)) (by decide) rfl rfl ht298 (dk D_X10_init 76 rfl) ?_
  refine g_ltI (fun I301 eI301 => ?_)
  refine g_iconst (v := (0 : Int32)) (dk D_X10_init 77 rfl) rfl ?_
  refine g_istore_n (L' := [(0, vA (a0 + 1)), (1, vI (0 : Int32))]) (dk D_X10_init 78 rfl) (Nat.le_of_ble_eq_true rfl) rfl ?_
  exact hl154 5 (29) (8537) (by omega) (by omega) (0 : Int32) S284 I301 ⟨ht298, hsx299⟩
theorem c_X10_init {E : EV} (fu : Nat) (S0 : Sk) (I0 : II) (a0 : Nat) (r : Sk × II) (h : f_X10_init fu S0 I0 a0 = some r) (ht0 : tyO S0 10 a0) : MX E yX10_init i_X10_init S0 I0 [vA (a0 + 1)] (po_X10_init S0 I0 r) :=
  MX.of h (by decide) rfl rfl (Nat.le_of_ble_eq_true rfl) (gg_X10_init fu S0 I0 a0 ht0)
def tb_X10_isPlace : List (Nat × Instr × Nat) := [(0, .iload_n 0, 1), (1, .iconst 0, 1), (2, .bipush 40, 2), (4, .invokestatic 226, 3), (7, .ifCond .eq 17, 3), (10, .iload_n 1, 1), (11, .iconst 0, 1), (12, .bipush 40, 2), (14, .invokestatic 226, 3), (17, .ifCond .eq 7, 3), (20, .iconst 1, 1), (21, .goto 4, 3), (24, .iconst 0, 1), (25, .ireturn, 1)]
def i_X10_isPlace : MI := (RX10, cX10_isPlace, 2, (some .boolean), "isPlace", { frames := 1, cells := 0, slots := 0, locals := 22 })
theorem D_X10_isPlace : tbOK (i_X10_isPlace).2.1 tb_X10_isPlace := by show ∀ q ∈ tb_X10_isPlace, decode cX10_isPlace q.1 = .ok (q.2.1, q.2.2); decide +kernel
def po_X10_isPlace (S : Sk) (I : II) (r : Int32) : Option LV × Sk × II := (some (vI r), S, I)
def f_X10_isPlace (fu : Nat) (S : Sk) (I : II) (x0 : Int32) (x1 : Int32) : Option (Int32) :=
  if (t_X10_isWithin x0 (0 : Int32) (40 : Int32)) = 0 then some ((0 : Int32)) else if (t_X10_isWithin x1 (0 : Int32) (40 : Int32)) = 0 then some ((0 : Int32)) else some ((1 : Int32))
set_option maxRecDepth 100000 in
set_option maxHeartbeats 4000000 in
theorem gg_X10_isPlace {E : EV} (fu : Nat) (S0 : Sk) (I0 : II) (x0 : Int32) (x1 : Int32) : GG E i_X10_isPlace (enM E i_X10_isPlace S0 (po_X10_isPlace S0 I0)) S0 I0 (0, 0) 0 [(0, vI x0), (1, vI x1)] [] (f_X10_isPlace fu S0 I0 x0 x1) := by
  unfold f_X10_isPlace
  refine g_iload_n (dk D_X10_isPlace 0 rfl) rfl ?_
  refine g_iconst (v := (0 : Int32)) (dk D_X10_isPlace 1 rfl) rfl ?_
  refine g_bipush (v := (40 : Int32)) (dk D_X10_isPlace 2 rfl) rfl ?_
  refine h_callS (st := []) (c_X10_isWithin (E := E) S0 I0 x0 (0 : Int32) (40 : Int32)) cl_RX10_226 rfl rfl (by decide) (Nat.le_of_ble_eq_true rfl) (dk D_X10_isPlace 3 rfl) ?_
  refine g_if_eq (tgt := 24) (dk D_X10_isPlace 4 rfl) rfl (fun hc2 => ?_) (fun hc2 => ?_)
  · refine g_iconst (v := (0 : Int32)) (dk D_X10_isPlace 12 rfl) rfl ?_
    exact g_zreturn rfl rfl (Or.inl rfl) Sx.rf rfl (by decide) (by decide) (dk D_X10_isPlace 13 rfl)
  · refine g_iload_n (dk D_X10_isPlace 5 rfl) rfl ?_
    refine g_iconst (v := (0 : Int32)) (dk D_X10_isPlace 6 rfl) rfl ?_
    refine g_bipush (v := (40 : Int32)) (dk D_X10_isPlace 7 rfl) rfl ?_
    refine h_callS (st := []) (c_X10_isWithin (E := E) S0 I0 x1 (0 : Int32) (40 : Int32)) cl_RX10_226 rfl rfl (by decide) (Nat.le_of_ble_eq_true rfl) (dk D_X10_isPlace 8 rfl) ?_
    refine g_if_eq (tgt := 24) (dk D_X10_isPlace 9 rfl) rfl (fun hc4 => ?_) (fun hc4 => ?_)
    · refine g_iconst (v := (0 : Int32)) (dk D_X10_isPlace 12 rfl) rfl ?_
      exact g_zreturn rfl rfl (Or.inl rfl) Sx.rf rfl (by decide) (by decide) (dk D_X10_isPlace 13 rfl)
    · refine g_iconst (v := (1 : Int32)) (dk D_X10_isPlace 10 rfl) rfl ?_
      refine g_goto (tgt := 25) (dk D_X10_isPlace 11 rfl) rfl ?_
      exact g_zreturn rfl rfl (Or.inr rfl) Sx.rf rfl (by decide) (by decide) (dk D_X10_isPlace 13 rfl)
def t_X10_isPlace (x0 : Int32) (x1 : Int32) : Int32 :=
  if (t_X10_isWithin x0 (0 : Int32) (40 : Int32)) = 0 then (0 : Int32) else if (t_X10_isWithin x1 (0 : Int32) (40 : Int32)) = 0 then (0 : Int32) else (1 : Int32)
theorem ft_X10_isPlace (fu : Nat) (S : Sk) (I0 : II) (x0 : Int32) (x1 : Int32) : f_X10_isPlace fu S I0 x0 x1 = some (t_X10_isPlace x0 x1) := by
  simp only [f_X10_isPlace, t_X10_isPlace, lt, apply_ite some]
theorem z_X10_isPlace (x0 : Int32) (x1 : Int32) : t_X10_isPlace x0 x1 = 0 ∨ t_X10_isPlace x0 x1 = 1 := by
  unfold t_X10_isPlace
  (repeat' split) <;> first | exact Or.inl rfl | exact Or.inr rfl
theorem c_X10_isPlace {E : EV} (S0 : Sk) (I0 : II) (x0 : Int32) (x1 : Int32) : MX E yX10_isPlace i_X10_isPlace S0 I0 [vI x0, vI x1] (po_X10_isPlace S0 I0 (t_X10_isPlace x0 x1)) :=
  MX.of (ft_X10_isPlace 0 S0 I0 x0 x1) (by decide) rfl rfl (Nat.le_of_ble_eq_true rfl) (gg_X10_isPlace 0 S0 I0 x0 x1)
theorem cl_RX10_104 : CS0 RX10 104 yX10_isPlace i_X10_isPlace 2 := ⟨⟨(gm 325 (by decide +kernel) (by decide +kernel)), (gm 66 (by decide +kernel) (by decide +kernel)), (gm 327 (by decide +kernel) (by decide +kernel)), by decide +kernel, by decide +kernel, by decide +kernel⟩, (gm 326 (by decide +kernel) (by decide +kernel))⟩
theorem fl_RX10_108 : FL RX10 108 2 3 := ⟨RX2, TX2, 6, rfl, by decide, rfl, by decide, (gm 103 (by decide +kernel) (by decide +kernel)), inG2⟩
theorem cl_RX10_111 : CV0 RX10 111 yX2_addStop i_X2_addStop 2 2 := ⟨⟨(gm 331 (by decide +kernel) (by decide +kernel)), (gm 67 (by decide +kernel) (by decide +kernel)), ((gm 334 (by decide +kernel) (by decide +kernel))), by decide +kernel, by decide +kernel, by decide +kernel⟩, ⟨(gm 332 (by decide +kernel) (by decide +kernel)), (gm 333 (by decide +kernel) (by decide +kernel))⟩, rfl, by decide⟩
def tb_X10_stop : List (Nat × Instr × Nat) := [(0, .iload_n 1, 1), (1, .iload_n 2, 1), (2, .invokestatic 104, 3), (5, .ifCond .ne 6, 3), (8, .bipush (-2), 2), (10, .ireturn, 1), (11, .aload_n 0, 1), (12, .getfield 12, 3), (15, .getfield 108, 3), (18, .bipush 16, 2), (20, .if_icmp .lt 6, 3), (23, .bipush (-4), 2), (25, .ireturn, 1), (26, .aload_n 0, 1), (27, .getfield 12, 3), (30, .iload_n 1, 1), (31, .iload_n 2, 1), (32, .invokevirtual 111, 3), (35, .ireturn, 1)]
def i_X10_stop : MI := (RX10, cX10_stop, 3, (some .int), "stop", { frames := 3, cells := 0, slots := 0, locals := 127 })
theorem D_X10_stop : tbOK (i_X10_stop).2.1 tb_X10_stop := by show ∀ q ∈ tb_X10_stop, decode cX10_stop q.1 = .ok (q.2.1, q.2.2); decide +kernel
def po_X10_stop (S : Sk) (I : II) (r : Int32 × II) : Option LV × Sk × II := (some (vI r.1), S, r.2)
def f_X10_stop (fu : Nat) (S : Sk) (I : II) (a0 : Nat) (x1 : Int32) (x2 : Int32) : Option (Int32 × II) :=
  if (t_X10_isPlace x1 x2) = 0 then some ((((-2) : Int32), I)) else gd ((S.1 a0 0) ≠ 0) (if (I ((S.1 a0 0) - 1) 3) < (16 : Int32) then (f_X2_addStop fu S I ((S.1 a0 0) - 1) x1 x2).bind fun q7 => (some ((q7.1, q7.2))) else some ((((-4) : Int32), I)))
set_option maxRecDepth 100000 in
set_option maxHeartbeats 4000000 in
theorem gg_X10_stop {E : EV} (fu : Nat) (S0 : Sk) (I0 : II) (a0 : Nat) (x1 : Int32) (x2 : Int32) (ht0 : tyO S0 10 a0) : GG E i_X10_stop (enM E i_X10_stop S0 (po_X10_stop S0 I0)) S0 I0 (0, 0) 0 [(0, vA (a0 + 1)), (1, vI x1), (2, vI x2)] [] (f_X10_stop fu S0 I0 a0 x1 x2) := by
  unfold f_X10_stop
  refine g_iload_n (dk D_X10_stop 0 rfl) rfl ?_
  refine g_iload_n (dk D_X10_stop 1 rfl) rfl ?_
  refine h_callS (st := []) (c_X10_isPlace (E := E) S0 I0 x1 x2) cl_RX10_104 rfl rfl (by decide) (Nat.le_of_ble_eq_true rfl) (dk D_X10_stop 2 rfl) ?_
  refine g_if_ne (tgt := 11) (dk D_X10_stop 3 rfl) rfl (fun hc2 => ?_) (fun hc2 => ?_)
  · refine g_aload_n (dk D_X10_stop 6 rfl) rfl ?_
    refine g_getAt (t := 2) fl_RX10_12 rfl ht0 (dk D_X10_stop 7 rfl) (fun ht3 => ?_)
    refine g_gd (fun hn4 => ?_)
    refine g_getI fl_RX10_108 (by decide) ht3 hn4 (dk D_X10_stop 8 rfl) ?_
    refine g_bipush (v := (16 : Int32)) (dk D_X10_stop 9 rfl) rfl ?_
    refine g_icmp_lt (tgt := 26) (dk D_X10_stop 10 rfl) rfl (fun hc5 => ?_) (fun hc5 => ?_)
    · refine g_aload_n (dk D_X10_stop 13 rfl) rfl ?_
      refine g_getAt (t := 2) fl_RX10_12 rfl ht0 (dk D_X10_stop 14 rfl) (fun ht6 => ?_)
      refine g_iload_n (dk D_X10_stop 15 rfl) rfl ?_
      refine g_iload_n (dk D_X10_stop 16 rfl) rfl ?_
      refine g_bind (fun q7 hq8 => ?_)
      refine h_callV (st := []) (c_X2_addStop (E := E) fu S0 I0 ((S0.1 a0 0) - 1) x1 x2 q7 hq8 (ht3.nz hn4)) cl_RX10_111 ht3 hn4 rfl rfl (by decide) (Nat.le_of_ble_eq_true rfl) (dk D_X10_stop 17 rfl) ?_
      exact g_ireturn rfl rfl Sx.rf rfl (by decide) (by decide) (dk D_X10_stop 18 rfl)
    · refine g_bipush (v := ((-4) : Int32)) (dk D_X10_stop 11 rfl) rfl ?_
      exact g_ireturn rfl rfl Sx.rf rfl (by decide) (by decide) (dk D_X10_stop 12 rfl)
  · refine g_bipush (v := ((-2) : Int32)) (dk D_X10_stop 4 rfl) rfl ?_
    exact g_ireturn rfl rfl Sx.rf rfl (by decide) (by decide) (dk D_X10_stop 5 rfl)
theorem c_X10_stop {E : EV} (fu : Nat) (S0 : Sk) (I0 : II) (a0 : Nat) (x1 : Int32) (x2 : Int32) (r : Int32 × II) (h : f_X10_stop fu S0 I0 a0 x1 x2 = some r) (ht0 : tyO S0 10 a0) : MX E yX10_stop i_X10_stop S0 I0 [vA (a0 + 1), vI x1, vI x2] (po_X10_stop S0 I0 r) :=
  MX.of h (by decide) rfl rfl (Nat.le_of_ble_eq_true rfl) (gg_X10_stop fu S0 I0 a0 x1 x2 ht0)
def tb_X10_isSheet : List (Nat × Instr × Nat) := [(0, .iload_n 0, 1), (1, .iconst 0, 1), (2, .iconst 3, 1), (3, .invokestatic 226, 3), (6, .ireturn, 1)]
def i_X10_isSheet : MI := (RX10, cX10_isSheet, 1, (some .boolean), "isSheet", { frames := 1, cells := 0, slots := 0, locals := 22 })
theorem D_X10_isSheet : tbOK (i_X10_isSheet).2.1 tb_X10_isSheet := by show ∀ q ∈ tb_X10_isSheet, decode cX10_isSheet q.1 = .ok (q.2.1, q.2.2); decide +kernel
def po_X10_isSheet (S : Sk) (I : II) (r : Int32) : Option LV × Sk × II := (some (vI r), S, I)
def f_X10_isSheet (fu : Nat) (S : Sk) (I : II) (x0 : Int32) : Option (Int32) :=
  some ((t_X10_isWithin x0 (0 : Int32) (3 : Int32)))
set_option maxRecDepth 100000 in
set_option maxHeartbeats 4000000 in
theorem gg_X10_isSheet {E : EV} (fu : Nat) (S0 : Sk) (I0 : II) (x0 : Int32) : GG E i_X10_isSheet (enM E i_X10_isSheet S0 (po_X10_isSheet S0 I0)) S0 I0 (0, 0) 0 [(0, vI x0)] [] (f_X10_isSheet fu S0 I0 x0) := by
  unfold f_X10_isSheet
  refine g_iload_n (dk D_X10_isSheet 0 rfl) rfl ?_
  refine g_iconst (v := (0 : Int32)) (dk D_X10_isSheet 1 rfl) rfl ?_
  refine g_iconst (v := (3 : Int32)) (dk D_X10_isSheet 2 rfl) rfl ?_
  refine h_callS (st := []) (c_X10_isWithin (E := E) S0 I0 x0 (0 : Int32) (3 : Int32)) cl_RX10_226 rfl rfl (by decide) (Nat.le_of_ble_eq_true rfl) (dk D_X10_isSheet 3 rfl) ?_
  exact g_zreturn rfl rfl (z_X10_isWithin x0 (0 : Int32) (3 : Int32)) Sx.rf rfl (by decide) (by decide) (dk D_X10_isSheet 4 rfl)
def t_X10_isSheet (x0 : Int32) : Int32 :=
  (t_X10_isWithin x0 (0 : Int32) (3 : Int32))
theorem ft_X10_isSheet (fu : Nat) (S : Sk) (I0 : II) (x0 : Int32) : f_X10_isSheet fu S I0 x0 = some (t_X10_isSheet x0) := by
  simp only [f_X10_isSheet, t_X10_isSheet, lt, apply_ite some]
theorem z_X10_isSheet (x0 : Int32) : t_X10_isSheet x0 = 0 ∨ t_X10_isSheet x0 = 1 := z_X10_isWithin x0 (0 : Int32) (3 : Int32)
theorem c_X10_isSheet {E : EV} (S0 : Sk) (I0 : II) (x0 : Int32) : MX E yX10_isSheet i_X10_isSheet S0 I0 [vI x0] (po_X10_isSheet S0 I0 (t_X10_isSheet x0)) :=
  MX.of (ft_X10_isSheet 0 S0 I0 x0) (by decide) rfl rfl (Nat.le_of_ble_eq_true rfl) (gg_X10_isSheet 0 S0 I0 x0)
def tb_X10_isKind : List (Nat × Instr × Nat) := [(0, .iload_n 0, 1), (1, .iconst 0, 1), (2, .iconst 2, 1), (3, .invokestatic 226, 3), (6, .ireturn, 1)]
def i_X10_isKind : MI := (RX10, cX10_isKind, 1, (some .boolean), "isKind", { frames := 1, cells := 0, slots := 0, locals := 22 })
theorem D_X10_isKind : tbOK (i_X10_isKind).2.1 tb_X10_isKind := by show ∀ q ∈ tb_X10_isKind, decode cX10_isKind q.1 = .ok (q.2.1, q.2.2); decide +kernel
def po_X10_isKind (S : Sk) (I : II) (r : Int32) : Option LV × Sk × II := (some (vI r), S, I)
def f_X10_isKind (fu : Nat) (S : Sk) (I : II) (x0 : Int32) : Option (Int32) :=
  some ((t_X10_isWithin x0 (0 : Int32) (2 : Int32)))
set_option maxRecDepth 100000 in
set_option maxHeartbeats 4000000 in
theorem gg_X10_isKind {E : EV} (fu : Nat) (S0 : Sk) (I0 : II) (x0 : Int32) : GG E i_X10_isKind (enM E i_X10_isKind S0 (po_X10_isKind S0 I0)) S0 I0 (0, 0) 0 [(0, vI x0)] [] (f_X10_isKind fu S0 I0 x0) := by
  unfold f_X10_isKind
  refine g_iload_n (dk D_X10_isKind 0 rfl) rfl ?_
  refine g_iconst (v := (0 : Int32)) (dk D_X10_isKind 1 rfl) rfl ?_
  refine g_iconst (v := (2 : Int32)) (dk D_X10_isKind 2 rfl) rfl ?_
  refine h_callS (st := []) (c_X10_isWithin (E := E) S0 I0 x0 (0 : Int32) (2 : Int32)) cl_RX10_226 rfl rfl (by decide) (Nat.le_of_ble_eq_true rfl) (dk D_X10_isKind 3 rfl) ?_
  exact g_zreturn rfl rfl (z_X10_isWithin x0 (0 : Int32) (2 : Int32)) Sx.rf rfl (by decide) (by decide) (dk D_X10_isKind 4 rfl)
def t_X10_isKind (x0 : Int32) : Int32 :=
  (t_X10_isWithin x0 (0 : Int32) (2 : Int32))
theorem ft_X10_isKind (fu : Nat) (S : Sk) (I0 : II) (x0 : Int32) : f_X10_isKind fu S I0 x0 = some (t_X10_isKind x0) := by
  simp only [f_X10_isKind, t_X10_isKind, lt, apply_ite some]
theorem z_X10_isKind (x0 : Int32) : t_X10_isKind x0 = 0 ∨ t_X10_isKind x0 = 1 := z_X10_isWithin x0 (0 : Int32) (2 : Int32)
theorem c_X10_isKind {E : EV} (S0 : Sk) (I0 : II) (x0 : Int32) : MX E yX10_isKind i_X10_isKind S0 I0 [vI x0] (po_X10_isKind S0 I0 (t_X10_isKind x0)) :=
  MX.of (ft_X10_isKind 0 S0 I0 x0) (by decide) rfl rfl (Nat.le_of_ble_eq_true rfl) (gg_X10_isKind 0 S0 I0 x0)
def tb_X10_isTimetable : List (Nat × Instr × Nat) := [(0, .iload_n 0, 1), (1, .iconst 0, 1), (2, .sipush 1439, 3), (5, .invokestatic 226, 3), (8, .ifCond .eq 29, 3), (11, .iload_n 1, 1), (12, .iconst 1, 1), (13, .sipush 240, 3), (16, .invokestatic 226, 3), (19, .ifCond .eq 18, 3), (22, .iload_n 2, 1), (23, .iload_n 0, 1), (24, .sipush 1439, 3), (27, .invokestatic 226, 3), (30, .ifCond .eq 7, 3), (33, .iconst 1, 1), (34, .goto 4, 3), (37, .iconst 0, 1), (38, .ireturn, 1)]
def i_X10_isTimetable : MI := (RX10, cX10_isTimetable, 3, (some .boolean), "isTimetable", { frames := 1, cells := 0, slots := 0, locals := 22 })
theorem D_X10_isTimetable : tbOK (i_X10_isTimetable).2.1 tb_X10_isTimetable := by show ∀ q ∈ tb_X10_isTimetable, decode cX10_isTimetable q.1 = .ok (q.2.1, q.2.2); decide +kernel
def po_X10_isTimetable (S : Sk) (I : II) (r : Int32) : Option LV × Sk × II := (some (vI r), S, I)
def f_X10_isTimetable (fu : Nat) (S : Sk) (I : II) (x0 : Int32) (x1 : Int32) (x2 : Int32) : Option (Int32) :=
  if (t_X10_isWithin x0 (0 : Int32) (1439 : Int32)) = 0 then some ((0 : Int32)) else if (t_X10_isWithin x1 (1 : Int32) (240 : Int32)) = 0 then some ((0 : Int32)) else if (t_X10_isWithin x2 x0 (1439 : Int32)) = 0 then some ((0 : Int32)) else some ((1 : Int32))
set_option maxRecDepth 100000 in
set_option maxHeartbeats 4000000 in
theorem gg_X10_isTimetable {E : EV} (fu : Nat) (S0 : Sk) (I0 : II) (x0 : Int32) (x1 : Int32) (x2 : Int32) : GG E i_X10_isTimetable (enM E i_X10_isTimetable S0 (po_X10_isTimetable S0 I0)) S0 I0 (0, 0) 0 [(0, vI x0), (1, vI x1), (2, vI x2)] [] (f_X10_isTimetable fu S0 I0 x0 x1 x2) := by
  unfold f_X10_isTimetable
  refine g_iload_n (dk D_X10_isTimetable 0 rfl) rfl ?_
  refine g_iconst (v := (0 : Int32)) (dk D_X10_isTimetable 1 rfl) rfl ?_
  refine g_sipush (v := (1439 : Int32)) (dk D_X10_isTimetable 2 rfl) rfl ?_
  refine h_callS (st := []) (c_X10_isWithin (E := E) S0 I0 x0 (0 : Int32) (1439 : Int32)) cl_RX10_226 rfl rfl (by decide) (Nat.le_of_ble_eq_true rfl) (dk D_X10_isTimetable 3 rfl) ?_
  refine g_if_eq (tgt := 37) (dk D_X10_isTimetable 4 rfl) rfl (fun hc2 => ?_) (fun hc2 => ?_)
  · refine g_iconst (v := (0 : Int32)) (dk D_X10_isTimetable 17 rfl) rfl ?_
    exact g_zreturn rfl rfl (Or.inl rfl) Sx.rf rfl (by decide) (by decide) (dk D_X10_isTimetable 18 rfl)
  · refine g_iload_n (dk D_X10_isTimetable 5 rfl) rfl ?_
    refine g_iconst (v := (1 : Int32)) (dk D_X10_isTimetable 6 rfl) rfl ?_
    refine g_sipush (v := (240 : Int32)) (dk D_X10_isTimetable 7 rfl) rfl ?_
    refine h_callS (st := []) (c_X10_isWithin (E := E) S0 I0 x1 (1 : Int32) (240 : Int32)) cl_RX10_226 rfl rfl (by decide) (Nat.le_of_ble_eq_true rfl) (dk D_X10_isTimetable 8 rfl) ?_
    refine g_if_eq (tgt := 37) (dk D_X10_isTimetable 9 rfl) rfl (fun hc4 => ?_) (fun hc4 => ?_)
    · refine g_iconst (v := (0 : Int32)) (dk D_X10_isTimetable 17 rfl) rfl ?_
      exact g_zreturn rfl rfl (Or.inl rfl) Sx.rf rfl (by decide) (by decide) (dk D_X10_isTimetable 18 rfl)
    · refine g_iload_n (dk D_X10_isTimetable 10 rfl) rfl ?_
      refine g_iload_n (dk D_X10_isTimetable 11 rfl) rfl ?_
      refine g_sipush (v := (1439 : Int32)) (dk D_X10_isTimetable 12 rfl) rfl ?_
      refine h_callS (st := []) (c_X10_isWithin (E := E) S0 I0 x2 x0 (1439 : Int32)) cl_RX10_226 rfl rfl (by decide) (Nat.le_of_ble_eq_true rfl) (dk D_X10_isTimetable 13 rfl) ?_
      refine g_if_eq (tgt := 37) (dk D_X10_isTimetable 14 rfl) rfl (fun hc6 => ?_) (fun hc6 => ?_)
      · refine g_iconst (v := (0 : Int32)) (dk D_X10_isTimetable 17 rfl) rfl ?_
        exact g_zreturn rfl rfl (Or.inl rfl) Sx.rf rfl (by decide) (by decide) (dk D_X10_isTimetable 18 rfl)
      · refine g_iconst (v := (1 : Int32)) (dk D_X10_isTimetable 15 rfl) rfl ?_
        refine g_goto (tgt := 38) (dk D_X10_isTimetable 16 rfl) rfl ?_
        exact g_zreturn rfl rfl (Or.inr rfl) Sx.rf rfl (by decide) (by decide) (dk D_X10_isTimetable 18 rfl)
def t_X10_isTimetable (x0 : Int32) (x1 : Int32) (x2 : Int32) : Int32 :=
  if (t_X10_isWithin x0 (0 : Int32) (1439 : Int32)) = 0 then (0 : Int32) else if (t_X10_isWithin x1 (1 : Int32) (240 : Int32)) = 0 then (0 : Int32) else if (t_X10_isWithin x2 x0 (1439 : Int32)) = 0 then (0 : Int32) else (1 : Int32)
theorem ft_X10_isTimetable (fu : Nat) (S : Sk) (I0 : II) (x0 : Int32) (x1 : Int32) (x2 : Int32) : f_X10_isTimetable fu S I0 x0 x1 x2 = some (t_X10_isTimetable x0 x1 x2) := by
  simp only [f_X10_isTimetable, t_X10_isTimetable, lt, apply_ite some]
theorem z_X10_isTimetable (x0 : Int32) (x1 : Int32) (x2 : Int32) : t_X10_isTimetable x0 x1 x2 = 0 ∨ t_X10_isTimetable x0 x1 x2 = 1 := by
  unfold t_X10_isTimetable
  (repeat' split) <;> first | exact Or.inl rfl | exact Or.inr rfl
theorem c_X10_isTimetable {E : EV} (S0 : Sk) (I0 : II) (x0 : Int32) (x1 : Int32) (x2 : Int32) : MX E yX10_isTimetable i_X10_isTimetable S0 I0 [vI x0, vI x1, vI x2] (po_X10_isTimetable S0 I0 (t_X10_isTimetable x0 x1 x2)) :=
  MX.of (ft_X10_isTimetable 0 S0 I0 x0 x1 x2) (by decide) rfl rfl (Nat.le_of_ble_eq_true rfl) (gg_X10_isTimetable 0 S0 I0 x0 x1 x2)
def tb_X10_isLane : List (Nat × Instr × Nat) := [(0, .iload_n 0, 1), (1, .iconst 0, 1), (2, .iconst 2, 1), (3, .invokestatic 226, 3), (6, .ireturn, 1)]
def i_X10_isLane : MI := (RX10, cX10_isLane, 1, (some .boolean), "isLane", { frames := 1, cells := 0, slots := 0, locals := 22 })
theorem D_X10_isLane : tbOK (i_X10_isLane).2.1 tb_X10_isLane := by show ∀ q ∈ tb_X10_isLane, decode cX10_isLane q.1 = .ok (q.2.1, q.2.2); decide +kernel
def po_X10_isLane (S : Sk) (I : II) (r : Int32) : Option LV × Sk × II := (some (vI r), S, I)
def f_X10_isLane (fu : Nat) (S : Sk) (I : II) (x0 : Int32) : Option (Int32) :=
  some ((t_X10_isWithin x0 (0 : Int32) (2 : Int32)))
set_option maxRecDepth 100000 in
set_option maxHeartbeats 4000000 in
theorem gg_X10_isLane {E : EV} (fu : Nat) (S0 : Sk) (I0 : II) (x0 : Int32) : GG E i_X10_isLane (enM E i_X10_isLane S0 (po_X10_isLane S0 I0)) S0 I0 (0, 0) 0 [(0, vI x0)] [] (f_X10_isLane fu S0 I0 x0) := by
  unfold f_X10_isLane
  refine g_iload_n (dk D_X10_isLane 0 rfl) rfl ?_
  refine g_iconst (v := (0 : Int32)) (dk D_X10_isLane 1 rfl) rfl ?_
  refine g_iconst (v := (2 : Int32)) (dk D_X10_isLane 2 rfl) rfl ?_
  refine h_callS (st := []) (c_X10_isWithin (E := E) S0 I0 x0 (0 : Int32) (2 : Int32)) cl_RX10_226 rfl rfl (by decide) (Nat.le_of_ble_eq_true rfl) (dk D_X10_isLane 3 rfl) ?_
  exact g_zreturn rfl rfl (z_X10_isWithin x0 (0 : Int32) (2 : Int32)) Sx.rf rfl (by decide) (by decide) (dk D_X10_isLane 4 rfl)
def t_X10_isLane (x0 : Int32) : Int32 :=
  (t_X10_isWithin x0 (0 : Int32) (2 : Int32))
theorem ft_X10_isLane (fu : Nat) (S : Sk) (I0 : II) (x0 : Int32) : f_X10_isLane fu S I0 x0 = some (t_X10_isLane x0) := by
  simp only [f_X10_isLane, t_X10_isLane, lt, apply_ite some]
theorem z_X10_isLane (x0 : Int32) : t_X10_isLane x0 = 0 ∨ t_X10_isLane x0 = 1 := z_X10_isWithin x0 (0 : Int32) (2 : Int32)
theorem c_X10_isLane {E : EV} (S0 : Sk) (I0 : II) (x0 : Int32) : MX E yX10_isLane i_X10_isLane S0 I0 [vI x0] (po_X10_isLane S0 I0 (t_X10_isLane x0)) :=
  MX.of (ft_X10_isLane 0 S0 I0 x0) (by decide) rfl rfl (Nat.le_of_ble_eq_true rfl) (gg_X10_isLane 0 S0 I0 x0)
def tb_X10_fail : List (Nat × Instr × Nat) := [(0, .aload_n 0, 1), (1, .iload_n 1, 1), (2, .putfield 100, 3), (5, .bipush (-10), 2), (7, .iload_n 1, 1), (8, .isub, 1), (9, .ireturn, 1)]
def i_X10_fail : MI := (RX10, cX10_fail, 2, (some .int), "fail", { frames := 0, cells := 0, slots := 0, locals := 0 })
theorem D_X10_fail : tbOK (i_X10_fail).2.1 tb_X10_fail := by show ∀ q ∈ tb_X10_fail, decode cX10_fail q.1 = .ok (q.2.1, q.2.2); decide +kernel
def po_X10_fail (S : Sk) (I : II) (r : Int32 × II) : Option LV × Sk × II := (some (vI r.1), S, r.2)
def f_X10_fail (fu : Nat) (S : Sk) (I : II) (a0 : Nat) (x1 : Int32) : Option (Int32 × II) :=
  lt (upI I a0 18 x1) fun I1 => (some (((((-10) : Int32) - x1), I1)))
set_option maxRecDepth 100000 in
set_option maxHeartbeats 4000000 in
theorem gg_X10_fail {E : EV} (fu : Nat) (S0 : Sk) (I0 : II) (a0 : Nat) (x1 : Int32) (ht0 : tyO S0 10 a0) : GG E i_X10_fail (enM E i_X10_fail S0 (po_X10_fail S0 I0)) S0 I0 (0, 0) 0 [(0, vA (a0 + 1)), (1, vI x1)] [] (f_X10_fail fu S0 I0 a0 x1) := by
  unfold f_X10_fail
  refine g_aload_n (dk D_X10_fail 0 rfl) rfl ?_
  refine g_iload_n (dk D_X10_fail 1 rfl) rfl ?_
  refine g_putIt fl_RX10_100 fp_10_18 (fun h => (by cases h)) (by decide) rfl rfl ht0 (dk D_X10_fail 2 rfl) ?_
  refine g_ltI (fun I1 eI1 => ?_)
  refine g_bipush (v := ((-10) : Int32)) (dk D_X10_fail 3 rfl) rfl ?_
  refine g_iload_n (dk D_X10_fail 4 rfl) rfl ?_
  refine g_isub (dk D_X10_fail 5 rfl) ?_
  exact g_ireturn rfl rfl Sx.rf rfl (by decide) (by decide) (dk D_X10_fail 6 rfl)
theorem c_X10_fail {E : EV} (fu : Nat) (S0 : Sk) (I0 : II) (a0 : Nat) (x1 : Int32) (r : Int32 × II) (h : f_X10_fail fu S0 I0 a0 x1 = some r) (ht0 : tyO S0 10 a0) : MX E yX10_fail i_X10_fail S0 I0 [vA (a0 + 1), vI x1] (po_X10_fail S0 I0 r) :=
  MX.of h (by decide) rfl rfl (Nat.le_of_ble_eq_true rfl) (gg_X10_fail fu S0 I0 a0 x1 ht0)
theorem cl_RX10_115 : CS0 RX10 115 yX10_isSheet i_X10_isSheet 1 := ⟨⟨(gm 346 (by decide +kernel) (by decide +kernel)), (gm 66 (by decide +kernel) (by decide +kernel)), (gm 348 (by decide +kernel) (by decide +kernel)), by decide +kernel, by decide +kernel, by decide +kernel⟩, (gm 347 (by decide +kernel) (by decide +kernel))⟩
theorem cl_RX10_119 : CS0 RX10 119 yX10_isKind i_X10_isKind 1 := ⟨⟨(gm 349 (by decide +kernel) (by decide +kernel)), (gm 66 (by decide +kernel) (by decide +kernel)), (gm 351 (by decide +kernel) (by decide +kernel)), by decide +kernel, by decide +kernel, by decide +kernel⟩, (gm 350 (by decide +kernel) (by decide +kernel))⟩
theorem cl_RX10_122 : CS0 RX10 122 yX10_isTimetable i_X10_isTimetable 3 := ⟨⟨(gm 352 (by decide +kernel) (by decide +kernel)), (gm 66 (by decide +kernel) (by decide +kernel)), (gm 354 (by decide +kernel) (by decide +kernel)), by decide +kernel, by decide +kernel, by decide +kernel⟩, (gm 353 (by decide +kernel) (by decide +kernel))⟩
theorem cl_RX10_126 : CS0 RX10 126 yX10_isLane i_X10_isLane 1 := ⟨⟨(gm 355 (by decide +kernel) (by decide +kernel)), (gm 66 (by decide +kernel) (by decide +kernel)), (gm 357 (by decide +kernel) (by decide +kernel)), by decide +kernel, by decide +kernel, by decide +kernel⟩, (gm 356 (by decide +kernel) (by decide +kernel))⟩
theorem cl_RX10_129 : CV0 RX10 129 yX5_rowFault i_X5_rowFault 4 5 := ⟨⟨(gm 358 (by decide +kernel) (by decide +kernel)), (gm 71 (by decide +kernel) (by decide +kernel)), ((gm 361 (by decide +kernel) (by decide +kernel))), by decide +kernel, by decide +kernel, by decide +kernel⟩, ⟨(gm 359 (by decide +kernel) (by decide +kernel)), (gm 360 (by decide +kernel) (by decide +kernel))⟩, rfl, by decide⟩
theorem cl_RX10_137 : CV0 RX10 137 yX5_cellsFrom i_X5_cellsFrom 2 5 := ⟨⟨(gm 370 (by decide +kernel) (by decide +kernel)), (gm 71 (by decide +kernel) (by decide +kernel)), ((gm 373 (by decide +kernel) (by decide +kernel))), by decide +kernel, by decide +kernel, by decide +kernel⟩, ⟨(gm 371 (by decide +kernel) (by decide +kernel)), (gm 372 (by decide +kernel) (by decide +kernel))⟩, rfl, by decide⟩
theorem cl_RX10_141 : CV0 RX10 141 yX2_refusalOf i_X2_refusalOf 1 2 := ⟨⟨(gm 396 (by decide +kernel) (by decide +kernel)), (gm 67 (by decide +kernel) (by decide +kernel)), ((gm 399 (by decide +kernel) (by decide +kernel))), by decide +kernel, by decide +kernel, by decide +kernel⟩, ⟨(gm 397 (by decide +kernel) (by decide +kernel)), (gm 398 (by decide +kernel) (by decide +kernel))⟩, rfl, by decide⟩
theorem fl_RX10_145 : FL RX10 145 2 5 := ⟨RX2, TX2, 6, rfl, by decide, rfl, by decide, (gm 109 (by decide +kernel) (by decide +kernel)), inG2⟩
theorem nw_RX10_46 : NW RX10 46 1 := ⟨RX1, TX1, 11, tyX1, rfl, rfl, by decide, tyX1_ok, by decide +kernel, (gm 161 (by decide +kernel) (by decide +kernel)), (gm 408 (by decide +kernel) (by decide +kernel)), (gm 76 (by decide +kernel) (by decide +kernel)), inG1⟩
theorem cl_RX10_148 : LkB RX10 148 yX1_init i_X1_init 6 := ⟨(gm 409 (by decide +kernel) (by decide +kernel)), (gm 76 (by decide +kernel) (by decide +kernel)), (gm 411 (by decide +kernel) (by decide +kernel)), by decide +kernel, by decide +kernel, by decide +kernel⟩
theorem si_X1_init : Cond.instanceMethod yX1_init ∈ lw_good := (gm 410 (by decide +kernel) (by decide +kernel))
theorem cl_RX10_151 : CV0 RX10 151 yX2_addLine i_X2_addLine 1 2 := ⟨⟨(gm 470 (by decide +kernel) (by decide +kernel)), (gm 67 (by decide +kernel) (by decide +kernel)), ((gm 473 (by decide +kernel) (by decide +kernel))), by decide +kernel, by decide +kernel, by decide +kernel⟩, ⟨(gm 471 (by decide +kernel) (by decide +kernel)), (gm 472 (by decide +kernel) (by decide +kernel))⟩, rfl, by decide⟩
theorem cl_RX10_133 : CV0 RX10 133 yX10_fail i_X10_fail 1 10 := ⟨⟨(gm 366 (by decide +kernel) (by decide +kernel)), (gm 66 (by decide +kernel) (by decide +kernel)), ((gm 369 (by decide +kernel) (by decide +kernel))), by decide +kernel, by decide +kernel, by decide +kernel⟩, ⟨(gm 368 (by decide +kernel) (by decide +kernel)), (gm 0 (by decide +kernel) (by decide +kernel))⟩, rfl, by decide⟩
def tb_X10_line : List (Nat × Instr × Nat) := [(0, .aload_n 0, 1), (1, .iconst 0, 1), (2, .putfield 100, 3), (5, .iload 5, 2), (7, .invokestatic 115, 3), (10, .ifCond .ne 5, 3), (13, .iconst (-1), 1), (14, .ireturn, 1), (15, .iload_n 1, 1), (16, .invokestatic 119, 3), (19, .ifCond .eq 21, 3), (22, .iload_n 2, 1), (23, .iload_n 3, 1), (24, .iload 4, 2), (26, .invokestatic 122, 3), (29, .ifCond .eq 11, 3), (32, .iload 6, 2), (34, .invokestatic 126, 3), (37, .ifCond .ne 6, 3), (40, .bipush (-2), 2), (42, .ireturn, 1), (43, .aload_n 0, 1), (44, .getfield 93, 3), (47, .iload 5, 2), (49, .aaload, 1), (50, .iload 6, 2), (52, .iload 7, 2), (54, .iload 8, 2), (56, .iconst 2, 1), (57, .invokevirtual 129, 3), (60, .istore 9, 2), (62, .iload 9, 2), (64, .ifCond .eq 10, 3), (67, .aload_n 0, 1), (68, .iload 9, 2), (70, .invokevirtual 133, 3), (73, .ireturn, 1), (74, .iload 8, 2), (76, .iconst 2, 1), (77, .if_icmp .lt 10, 3), (80, .iload 8, 2), (82, .bipush 8, 2), (84, .if_icmp .le 6, 3), (87, .bipush (-2), 2), (89, .ireturn, 1), (90, .aload_n 0, 1), (91, .getfield 93, 3), (94, .iload 5, 2), (96, .aaload, 1), (97, .iload 7, 2), (99, .iconst 2, 1), (100, .iload 8, 2), (102, .imul, 1), (103, .invokevirtual 137, 3), (106, .astore 10, 2), (108, .aload_n 0, 1), (109, .getfield 12, 3), (112, .aload 10, 2), (114, .invokevirtual 141, 3), (117, .istore 11, 2), (119, .iload 11, 2), (121, .ifCond .eq 6, 3), (124, .iload 11, 2), (126, .ireturn, 1), (127, .aload_n 0, 1), (128, .getfield 12, 3), (131, .getfield 145, 3), (134, .bipush 14, 2), (136, .if_icmp .lt 6, 3), (139, .bipush (-4), 2), (141, .ireturn, 1), (142, .aload_n 0, 1), (143, .getfield 12, 3), (146, .new 46, 3), (149, .dup, 1), (150, .aload_n 0, 1), (151, .getfield 12, 3), (154, .getfield 145, 3), (157, .iload_n 1, 1), (158, .iload_n 2, 1), (159, .iload_n 3, 1), (160, .iload 4, 2), (162, .aload 10, 2), (164, .invokespecial 148, 3), (167, .invokevirtual 151, 3), (170, .ireturn, 1)]
def i_X10_line : MI := (RX10, cX10_line, 12, (some .int), "line", { frames := 4, cells := 5, slots := 95, locals := 148 })
theorem D_X10_line : tbOK (i_X10_line).2.1 tb_X10_line := by show ∀ q ∈ tb_X10_line, decode cX10_line q.1 = .ok (q.2.1, q.2.2); decide +kernel
def po_X10_line (S : Sk) (I : II) (r : Int32 × Sk × II) : Option LV × Sk × II := (some (vI r.1), r.2.1, r.2.2)
def f_X10_line (fu : Nat) (S : Sk) (I : II) (a0 : Nat) (x1 : Int32) (x2 : Int32) (x3 : Int32) (x4 : Int32) (x5 : Int32) (x6 : Int32) (x7 : Int32) (x8 : Int32) : Option (Int32 × Sk × II) :=
  lt (upI I a0 18 (0 : Int32)) fun I1 => (if (t_X10_isSheet x5) = 0 then some ((((-1) : Int32), S, I1)) else if (t_X10_isKind x1) = 0 then some ((((-2) : Int32), S, I1)) else if (t_X10_isTimetable x2 x3 x4) = 0 then some ((((-2) : Int32), S, I1)) else if (t_X10_isLane x6) = 0 then some ((((-2) : Int32), S, I1)) else gd (inb S (S.1 a0 16) x5) (gd ((S.1 ((S.1 a0 16) - 1) (nx x5)) ≠ 0) (lt (t_X5_rowFault I1 ((S.1 ((S.1 a0 16) - 1) (nx x5)) - 1) x6 x7 x8 (2 : Int32)) fun x9_15 => (if x9_15 = 0 then if x8 < (2 : Int32) then some ((((-2) : Int32), S, I1)) else if x8 ≤ (8 : Int32) then (f_X5_cellsFrom fu S I1 ((S.1 ((S.1 a0 16) - 1) (nx x5)) - 1) x7 ((2 : Int32) * x8)).bind fun q21 => (gd ((q21.2.1.1 a0 0) ≠ 0) ((f_X2_refusalOf fu q21.2.1 q21.2.2 ((q21.2.1.1 a0 0) - 1) q21.1).bind fun q31 => (if q31 = 0 then if (q21.2.2 ((q21.2.1.1 a0 0) - 1) 5) < (14 : Int32) then lt (nwS q21.2.1 1 0) fun S38 => (lt (nwI q21.2.1 q21.2.2) fun I39 => (gd ((S38.1 a0 0) ≠ 0) ((f_X1_init fu S38 I39 q21.2.1.2.2.2 (I39 ((S38.1 a0 0) - 1) 5) x1 x2 x3 x4 q21.1).bind fun q50 => ((f_X2_addLine fu q50.1 q50.2 ((q21.2.1.1 a0 0) - 1) (q21.2.1.2.2.2 + 1)).bind fun q62 => (some ((q62.1, q62.2.1, q62.2.2))))))) else some ((((-4) : Int32), q21.2.1, q21.2.2)) else some ((q31, q21.2.1, q21.2.2))))) else some ((((-2) : Int32), S, I1)) else (f_X10_fail fu S I1 a0 x9_15).bind fun q74 => (some ((q74.1, S, q74.2)))))))
set_option maxRecDepth 100000 in
set_option maxHeartbeats 4000000 in
theorem gg_X10_line {E : EV} (fu : Nat) (S0 : Sk) (I0 : II) (a0 : Nat) (x1 : Int32) (x2 : Int32) (x3 : Int32) (x4 : Int32) (x5 : Int32) (x6 : Int32) (x7 : Int32) (x8 : Int32) (ht0 : tyO S0 10 a0) : GG E i_X10_line (enM E i_X10_line S0 (po_X10_line S0 I0)) S0 I0 (0, 0) 0 [(0, vA (a0 + 1)), (1, vI x1), (2, vI x2), (3, vI x3), (4, vI x4), (5, vI x5), (6, vI x6), (7, vI x7), (8, vI x8)] [] (f_X10_line fu S0 I0 a0 x1 x2 x3 x4 x5 x6 x7 x8) := by
  unfold f_X10_line
  refine g_aload_n (dk D_X10_line 0 rfl) rfl ?_
  refine g_iconst (v := (0 : Int32)) (dk D_X10_line 1 rfl) rfl ?_
  refine g_putIt fl_RX10_100 fp_10_18 (fun h => (by cases h)) (by decide) rfl rfl ht0 (dk D_X10_line 2 rfl) ?_
  refine g_ltI (fun I1 eI1 => ?_)
  refine g_iload (dk D_X10_line 3 rfl) rfl ?_
  refine h_callS (st := []) (c_X10_isSheet (E := E) S0 I1 x5) cl_RX10_115 rfl rfl ⟨⟨by decide, by decide⟩, ⟨rfl, rfl⟩, by show 0 ≤ 5; omega, by show 0 ≤ 95; omega⟩ (Nat.le_of_ble_eq_true rfl) (dk D_X10_line 4 rfl) ?_
  refine g_if_ne (tgt := 15) (dk D_X10_line 5 rfl) rfl (fun hc3 => ?_) (fun hc3 => ?_)
  · refine g_iload_n (dk D_X10_line 8 rfl) rfl ?_
    refine h_callS (st := []) (c_X10_isKind (E := E) S0 I1 x1) cl_RX10_119 rfl rfl ⟨⟨by decide, by decide⟩, ⟨rfl, rfl⟩, by show 0 ≤ 5; omega, by show 0 ≤ 95; omega⟩ (Nat.le_of_ble_eq_true rfl) (dk D_X10_line 9 rfl) ?_
    refine g_if_eq (tgt := 40) (dk D_X10_line 10 rfl) rfl (fun hc5 => ?_) (fun hc5 => ?_)
    · refine g_bipush (v := ((-2) : Int32)) (dk D_X10_line 19 rfl) rfl ?_
      exact g_ireturn rfl rfl Sx.rf rfl (by show 0 ≤ 5; omega) (by show 0 ≤ 95; omega) (dk D_X10_line 20 rfl)
    · refine g_iload_n (dk D_X10_line 11 rfl) rfl ?_
      refine g_iload_n (dk D_X10_line 12 rfl) rfl ?_
      refine g_iload (dk D_X10_line 13 rfl) rfl ?_
      refine h_callS (st := []) (c_X10_isTimetable (E := E) S0 I1 x2 x3 x4) cl_RX10_122 rfl rfl ⟨⟨by decide, by decide⟩, ⟨rfl, rfl⟩, by show 0 ≤ 5; omega, by show 0 ≤ 95; omega⟩ (Nat.le_of_ble_eq_true rfl) (dk D_X10_line 14 rfl) ?_
      refine g_if_eq (tgt := 40) (dk D_X10_line 15 rfl) rfl (fun hc7 => ?_) (fun hc7 => ?_)
      · refine g_bipush (v := ((-2) : Int32)) (dk D_X10_line 19 rfl) rfl ?_
        exact g_ireturn rfl rfl Sx.rf rfl (by show 0 ≤ 5; omega) (by show 0 ≤ 95; omega) (dk D_X10_line 20 rfl)
      · refine g_iload (dk D_X10_line 16 rfl) rfl ?_
        refine h_callS (st := []) (c_X10_isLane (E := E) S0 I1 x6) cl_RX10_126 rfl rfl ⟨⟨by decide, by decide⟩, ⟨rfl, rfl⟩, by show 0 ≤ 5; omega, by show 0 ≤ 95; omega⟩ (Nat.le_of_ble_eq_true rfl) (dk D_X10_line 17 rfl) ?_
        refine g_if_ne (tgt := 43) (dk D_X10_line 18 rfl) rfl (fun hc9 => ?_) (fun hc9 => ?_)
        · refine g_aload_n (dk D_X10_line 21 rfl) rfl ?_
          refine g_getAt (t := 115) fl_RX10_93 rfl ht0 (dk D_X10_line 22 rfl) (fun ht10 => ?_)
          refine g_iload (dk D_X10_line 23 rfl) rfl ?_
          refine g_gd (fun hi11 => ?_)
          refine g_aaload (c0 := 5) (by unfold aoC; decide) ht10 hi11 (dk D_X10_line 24 rfl) (fun ht12 => ?_)
          refine g_iload (dk D_X10_line 25 rfl) rfl ?_
          refine g_iload (dk D_X10_line 26 rfl) rfl ?_
          refine g_iload (dk D_X10_line 27 rfl) rfl ?_
          refine g_iconst (v := (2 : Int32)) (dk D_X10_line 28 rfl) rfl ?_
          refine g_gd (fun hn13 => ?_)
          refine h_callV (st := []) (c_X5_rowFault (E := E) S0 I1 ((S0.1 ((S0.1 a0 16) - 1) (nx x5)) - 1) x6 x7 x8 (2 : Int32) (ht12.nz hn13)) cl_RX10_129 ht12 hn13 rfl rfl ⟨⟨by decide, by decide⟩, ⟨rfl, rfl⟩, by show 0 ≤ 5; omega, by show 0 ≤ 95; omega⟩ (Nat.le_of_ble_eq_true rfl) (dk D_X10_line 29 rfl) ?_
          refine g_ltV (fun x9_15 ex9_15 => ?_)
          refine g_istore (L' := [(0, vA (a0 + 1)), (1, vI x1), (2, vI x2), (3, vI x3), (4, vI x4), (5, vI x5), (6, vI x6), (7, vI x7), (8, vI x8), (9, vI x9_15)]) (dk D_X10_line 30 rfl) (Nat.le_of_ble_eq_true rfl) rfl ?_
          refine g_iload (dk D_X10_line 31 rfl) rfl ?_
          refine g_if_eq (tgt := 74) (dk D_X10_line 32 rfl) rfl (fun hc16 => ?_) (fun hc16 => ?_)
          · refine g_iload (dk D_X10_line 37 rfl) rfl ?_
            refine g_iconst (v := (2 : Int32)) (dk D_X10_line 38 rfl) rfl ?_
            refine g_icmp_lt (tgt := 87) (dk D_X10_line 39 rfl) rfl (fun hc17 => ?_) (fun hc17 => ?_)
            · refine g_bipush (v := ((-2) : Int32)) (dk D_X10_line 43 rfl) rfl ?_
              exact g_ireturn rfl rfl Sx.rf rfl (by show 0 ≤ 5; omega) (by show 0 ≤ 95; omega) (dk D_X10_line 44 rfl)
            · refine g_iload (dk D_X10_line 40 rfl) rfl ?_
              refine g_bipush (v := (8 : Int32)) (dk D_X10_line 41 rfl) rfl ?_
              refine g_icmp_le (tgt := 90) (dk D_X10_line 42 rfl) rfl (fun hc18 => ?_) (fun hc18 => ?_)
              · refine g_aload_n (dk D_X10_line 45 rfl) rfl ?_
                refine g_getAt (t := 115) fl_RX10_93 rfl ht0 (dk D_X10_line 46 rfl) (fun ht19 => ?_)
                refine g_iload (dk D_X10_line 47 rfl) rfl ?_
                refine g_aaload (c0 := 5) (by unfold aoC; decide) ht10 hi11 (dk D_X10_line 48 rfl) (fun ht20 => ?_)
                refine g_iload (dk D_X10_line 49 rfl) rfl ?_
                refine g_iconst (v := (2 : Int32)) (dk D_X10_line 50 rfl) rfl ?_
                refine g_iload (dk D_X10_line 51 rfl) rfl ?_
                refine g_imul (dk D_X10_line 52 rfl) ?_
                refine g_bind (fun q21 hq22 => ?_)
                refine g_callV' (st := []) (c_X5_cellsFrom (E := E) fu S0 I1 ((S0.1 ((S0.1 a0 16) - 1) (nx x5)) - 1) x7 ((2 : Int32) * x8) q21 hq22 (ht12.nz hn13)) cl_RX10_137.1 cl_RX10_137.2.1 cl_RX10_137.2.2.1 cl_RX10_137.2.2.2 ht12 hn13 rfl rfl ⟨⟨by decide, by decide⟩, by show 0 + 1 ≤ 5; omega, by show 0 + 60 ≤ 95; omega⟩ (Nat.le_of_ble_eq_true rfl) (dk D_X10_line 53 rfl) (fun hx24 ht23 => ?_)
                refine g_wide (cs' := (1, 60)) (by show 0 + 1 ≤ 1; omega) (by show 0 + 60 ≤ 60; omega) ?_
                have ht25 := ht10.x hx24
                have ht26 := ht12.x hx24
                have ht27 := ht0.x hx24
                have hsx28 := Sx.tr Sx.rf hx24
                have ht23 : tyR q21.2.1 100 q21.1 := rt_X5_cellsFrom ▸ ht23
                refine g_astore (L' := [(0, vA (a0 + 1)), (1, vI x1), (2, vI x2), (3, vI x3), (4, vI x4), (5, vI x5), (6, vI x6), (7, vI x7), (8, vI x8), (9, vI x9_15), (10, vA q21.1)]) (dk D_X10_line 54 rfl) (Nat.le_of_ble_eq_true rfl) rfl ?_
                refine g_aload_n (dk D_X10_line 55 rfl) rfl ?_
                refine g_getAt (t := 2) fl_RX10_12 rfl ht27 (dk D_X10_line 56 rfl) (fun ht29 => ?_)
                refine g_aload (dk D_X10_line 57 rfl) rfl ?_
                refine g_gd (fun hn30 => ?_)
                refine g_bind (fun q31 hq32 => ?_)
                refine h_callV (st := []) (c_X2_refusalOf (E := E) fu q21.2.1 q21.2.2 ((q21.2.1.1 a0 0) - 1) q21.1 q31 hq32 (ht29.nz hn30) ht23) cl_RX10_141 ht29 hn30 rfl rfl ⟨⟨by decide, by decide⟩, ⟨rfl, rfl⟩, by show 1 ≤ 5; omega, by show 60 ≤ 95; omega⟩ (Nat.le_of_ble_eq_true rfl) (dk D_X10_line 58 rfl) ?_
                refine g_istore (L' := [(0, vA (a0 + 1)), (1, vI x1), (2, vI x2), (3, vI x3), (4, vI x4), (5, vI x5), (6, vI x6), (7, vI x7), (8, vI x8), (9, vI x9_15), (10, vA q21.1), (11, vI q31)]) (dk D_X10_line 59 rfl) (Nat.le_of_ble_eq_true rfl) rfl ?_
                refine g_iload (dk D_X10_line 60 rfl) rfl ?_
                refine g_if_eq (tgt := 127) (dk D_X10_line 61 rfl) rfl (fun hc34 => ?_) (fun hc34 => ?_)
                · refine g_aload_n (dk D_X10_line 64 rfl) rfl ?_
                  refine g_getAt (t := 2) fl_RX10_12 rfl ht27 (dk D_X10_line 65 rfl) (fun ht35 => ?_)
                  refine g_getI fl_RX10_145 (by decide) ht29 hn30 (dk D_X10_line 66 rfl) ?_
                  refine g_bipush (v := (14 : Int32)) (dk D_X10_line 67 rfl) rfl ?_
                  refine g_icmp_lt (tgt := 142) (dk D_X10_line 68 rfl) rfl (fun hc36 => ?_) (fun hc36 => ?_)
                  · refine g_aload_n (dk D_X10_line 71 rfl) rfl ?_
                    refine g_getAt (t := 2) fl_RX10_12 rfl ht27 (dk D_X10_line 72 rfl) (fun ht37 => ?_)
                    refine g_new nw_RX10_46 (by show 1 + 1 ≤ 5; omega) (by show 60 + 11 ≤ 95; omega) (dk D_X10_line 73 rfl) ?_
                    refine g_wide (cs' := (2, 71)) (by show 1 + 1 ≤ 2; omega) (by show 60 + 11 ≤ 71; omega) ?_
                    refine g_ltS (fun S38 eS38 => ?_)
                    refine g_ltI (fun I39 eI39 => ?_)
                    have hx40 : Sx q21.2.1 S38 := eS38 ▸ nwS_x
                    have ht41 := ht25.x hx40
                    have ht42 := ht26.x hx40
                    have ht43 := ht23.x hx40
                    have ht44 := ht29.x hx40
                    have ht45 := ht27.x hx40
                    have hsx46 := Sx.tr hsx28 hx40
                    have ht47 : tyR S38 1 (q21.2.1.2.2.2 + 1) := eS38 ▸ nwS_ty.R
                    refine g_dup (dk D_X10_line 74 rfl) rfl ?_
                    refine g_aload_n (dk D_X10_line 75 rfl) rfl ?_
                    refine g_getAt (t := 2) fl_RX10_12 rfl ht45 (dk D_X10_line 76 rfl) (fun ht48 => ?_)
                    refine g_gd (fun hn49 => ?_)
                    refine g_getI fl_RX10_145 (by decide) ht48 hn49 (dk D_X10_line 77 rfl) ?_
                    refine g_iload_n (dk D_X10_line 78 rfl) rfl ?_
                    refine g_iload_n (dk D_X10_line 79 rfl) rfl ?_
                    refine g_iload_n (dk D_X10_line 80 rfl) rfl ?_
                    refine g_iload (dk D_X10_line 81 rfl) rfl ?_
                    refine g_aload (dk D_X10_line 82 rfl) rfl ?_
                    refine g_bind (fun q50 hq51 => ?_)
                    refine g_callI (st := [vA (q21.2.1.2.2.2 + 1), vA (q21.2.1.1 a0 0)]) (c_X1_init (E := E) fu S38 I39 q21.2.1.2.2.2 (I39 ((S38.1 a0 0) - 1) 5) x1 x2 x3 x4 q21.1 q50 hq51 (ht47.nz (Nat.succ_ne_zero _)) ht43) cl_RX10_148 rfl si_X1_init rfl rfl rfl ⟨⟨by decide, by decide⟩, by show 2 + 3 ≤ 5; omega, by show 71 + 24 ≤ 95; omega⟩ (Nat.le_of_ble_eq_true rfl) (dk D_X10_line 83 rfl) (fun hx53 => ?_)
                    refine g_wide (cs' := (5, 95)) (by show 2 + 3 ≤ 5; omega) (by show 71 + 24 ≤ 95; omega) ?_
                    have ht54 := ht41.x hx53
                    have ht55 := ht42.x hx53
                    have ht56 := ht43.x hx53
                    have ht57 := ht44.x hx53
                    have ht58 := ht47.x hx53
                    have ht59 := ht48.x hx53
                    have ht60 := ht45.x hx53
                    have hsx61 := Sx.tr hsx46 hx53
                    refine g_bind (fun q62 hq63 => ?_)
                    refine g_callV' (st := []) (c_X2_addLine (E := E) fu q50.1 q50.2 ((q21.2.1.1 a0 0) - 1) (q21.2.1.2.2.2 + 1) q62 hq63 (ht57.nz hn30) ht58) cl_RX10_151.1 cl_RX10_151.2.1 cl_RX10_151.2.2.1 cl_RX10_151.2.2.2 ht57 hn30 rfl rfl ⟨⟨by decide, by decide⟩, by show 5 + 0 ≤ 5; omega, by show 95 + 0 ≤ 95; omega⟩ (Nat.le_of_ble_eq_true rfl) (dk D_X10_line 84 rfl) (fun hx65 ht64 => ?_)
                    refine g_wide (cs' := (5, 95)) (by show 5 + 0 ≤ 5; omega) (by show 95 + 0 ≤ 95; omega) ?_
                    have ht66 := ht54.x hx65
                    have ht67 := ht55.x hx65
                    have ht68 := ht56.x hx65
                    have ht69 := ht57.x hx65
                    have ht70 := ht58.x hx65
                    have ht71 := ht59.x hx65
                    have ht72 := ht60.x hx65
                    have hsx73 := Sx.tr hsx61 hx65
                    exact g_ireturn rfl rfl hsx73 rfl (by show 5 ≤ 5; omega) (by show 95 ≤ 95; omega) (dk D_X10_line 85 rfl)
                  · refine g_bipush (v := ((-4) : Int32)) (dk D_X10_line 69 rfl) rfl ?_
                    exact g_ireturn rfl rfl hsx28 rfl (by show 1 ≤ 5; omega) (by show 60 ≤ 95; omega) (dk D_X10_line 70 rfl)
                · refine g_iload (dk D_X10_line 62 rfl) rfl ?_
                  exact g_ireturn rfl rfl hsx28 rfl (by show 1 ≤ 5; omega) (by show 60 ≤ 95; omega) (dk D_X10_line 63 rfl)
              · refine g_bipush (v := ((-2) : Int32)) (dk D_X10_line 43 rfl) rfl ?_
                exact g_ireturn rfl rfl Sx.rf rfl (by show 0 ≤ 5; omega) (by show 0 ≤ 95; omega) (dk D_X10_line 44 rfl)
          · refine g_aload_n (dk D_X10_line 33 rfl) rfl ?_
            refine g_iload (dk D_X10_line 34 rfl) rfl ?_
            refine g_bind (fun q74 hq75 => ?_)
            refine h_callVt (st := []) (c_X10_fail (E := E) fu S0 I1 a0 x9_15 q74 hq75 (ht0)) cl_RX10_133 ht0 rfl rfl ⟨⟨by decide, by decide⟩, ⟨rfl, rfl⟩, by show 0 ≤ 5; omega, by show 0 ≤ 95; omega⟩ (Nat.le_of_ble_eq_true rfl) (dk D_X10_line 35 rfl) ?_
            exact g_ireturn rfl rfl Sx.rf rfl (by show 0 ≤ 5; omega) (by show 0 ≤ 95; omega) (dk D_X10_line 36 rfl)
        · refine g_bipush (v := ((-2) : Int32)) (dk D_X10_line 19 rfl) rfl ?_
          exact g_ireturn rfl rfl Sx.rf rfl (by show 0 ≤ 5; omega) (by show 0 ≤ 95; omega) (dk D_X10_line 20 rfl)
  · refine g_iconst (v := ((-1) : Int32)) (dk D_X10_line 6 rfl) rfl ?_
    exact g_ireturn rfl rfl Sx.rf rfl (by show 0 ≤ 5; omega) (by show 0 ≤ 95; omega) (dk D_X10_line 7 rfl)
theorem c_X10_line {E : EV} (fu : Nat) (S0 : Sk) (I0 : II) (a0 : Nat) (x1 : Int32) (x2 : Int32) (x3 : Int32) (x4 : Int32) (x5 : Int32) (x6 : Int32) (x7 : Int32) (x8 : Int32) (r : Int32 × Sk × II) (h : f_X10_line fu S0 I0 a0 x1 x2 x3 x4 x5 x6 x7 x8 = some r) (ht0 : tyO S0 10 a0) : MX E yX10_line i_X10_line S0 I0 [vA (a0 + 1), vI x1, vI x2, vI x3, vI x4, vI x5, vI x6, vI x7, vI x8] (po_X10_line S0 I0 r) :=
  MX.of h (by decide) rfl rfl (Nat.le_of_ble_eq_true rfl) (gg_X10_line fu S0 I0 a0 x1 x2 x3 x4 x5 x6 x7 x8 ht0)
