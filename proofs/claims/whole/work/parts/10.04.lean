theorem nw_RX10_55 : NW RX10 55 0 := ⟨RX0, TX0, 3, tyX0, rfl, rfl, by decide, tyX0_ok, by decide +kernel, (gm 162 (by decide +kernel) (by decide +kernel)), (gm 757 (by decide +kernel) (by decide +kernel)), (gm 80 (by decide +kernel) (by decide +kernel)), inG0⟩
theorem cl_RX10_283 : LkB RX10 283 yX0_init i_X0_init 3 := ⟨(gm 758 (by decide +kernel) (by decide +kernel)), (gm 80 (by decide +kernel) (by decide +kernel)), (gm 760 (by decide +kernel) (by decide +kernel)), by decide +kernel, by decide +kernel, by decide +kernel⟩
theorem si_X0_init : Cond.instanceMethod yX0_init ∈ lw_good := (gm 759 (by decide +kernel) (by decide +kernel))
def tb_X10_depot : List (Nat × Instr × Nat) := [(0, .iload_n 1, 1), (1, .iload_n 2, 1), (2, .invokestatic 104, 3), (5, .ifCond .eq 13, 3), (8, .iload_n 3, 1), (9, .iconst 0, 1), (10, .bipush 9, 2), (12, .invokestatic 226, 3), (15, .ifCond .ne 6, 3), (18, .bipush (-2), 2), (20, .ireturn, 1), (21, .aload_n 0, 1), (22, .getfield 61, 3), (25, .iconst 4, 1), (26, .if_icmp .lt 6, 3), (29, .bipush (-4), 2), (31, .ireturn, 1), (32, .aload_n 0, 1), (33, .getfield 57, 3), (36, .aload_n 0, 1), (37, .getfield 61, 3), (40, .new 55, 3), (43, .dup, 1), (44, .iload_n 1, 1), (45, .iload_n 2, 1), (46, .iload_n 3, 1), (47, .invokespecial 283, 3), (50, .aastore, 1), (51, .aload_n 0, 1), (52, .dup, 1), (53, .getfield 61, 3), (56, .iconst 1, 1), (57, .iadd, 1), (58, .putfield 61, 3), (61, .aload_n 0, 1), (62, .getfield 61, 3), (65, .iconst 1, 1), (66, .isub, 1), (67, .ireturn, 1)]
def i_X10_depot : MI := (RX10, cX10_depot, 4, (some .int), "depot", { frames := 2, cells := 1, slots := 3, locals := 103 })
theorem D_X10_depot : tbOK (i_X10_depot).2.1 tb_X10_depot := by show ∀ q ∈ tb_X10_depot, decode cX10_depot q.1 = .ok (q.2.1, q.2.2); decide +kernel
def po_X10_depot (S : Sk) (I : II) (r : Int32 × Sk × II) : Option LV × Sk × II := (some (vI r.1), r.2.1, r.2.2)
def f_X10_depot (fu : Nat) (S : Sk) (I : II) (a0 : Nat) (x1 : Int32) (x2 : Int32) (x3 : Int32) : Option (Int32 × Sk × II) :=
  if (t_X10_isPlace x1 x2) = 0 then some ((((-2) : Int32), S, I)) else if (t_X10_isWithin x3 (0 : Int32) (9 : Int32)) = 0 then some ((((-2) : Int32), S, I)) else if (I a0 9) < (4 : Int32) then lt (nwS S 0 0) fun S7 => (lt (nwI S I) fun I8 => ((f_X0_init fu S7 I8 S.2.2.2 x1 x2 x3).bind fun q14 => (gd (inb S7 (S.1 a0 8) (I a0 9)) (lt (upP S7 ((S.1 a0 8) - 1) (nx (I a0 9)) (S.2.2.2 + 1)) fun S19 => (lt (upI q14 a0 9 ((q14 a0 9) + (1 : Int32))) fun I25 => (some ((((I25 a0 9) - (1 : Int32)), S19, I25)))))))) else some ((((-4) : Int32), S, I))
set_option maxRecDepth 100000 in
set_option maxHeartbeats 4000000 in
theorem gg_X10_depot {E : EV} (fu : Nat) (S0 : Sk) (I0 : II) (a0 : Nat) (x1 : Int32) (x2 : Int32) (x3 : Int32) (ht0 : tyO S0 10 a0) : GG E i_X10_depot (enM E i_X10_depot S0 (po_X10_depot S0 I0)) S0 I0 (0, 0) 0 [(0, vA (a0 + 1)), (1, vI x1), (2, vI x2), (3, vI x3)] [] (f_X10_depot fu S0 I0 a0 x1 x2 x3) := by
  unfold f_X10_depot
  refine g_iload_n (dk D_X10_depot 0 rfl) rfl ?_
  refine g_iload_n (dk D_X10_depot 1 rfl) rfl ?_
  refine h_callS (st := []) (c_X10_isPlace (E := E) S0 I0 x1 x2) cl_RX10_104 rfl rfl ⟨⟨by decide, by decide⟩, ⟨rfl, rfl⟩, by show 0 ≤ 1; omega, by show 0 ≤ 3; omega⟩ (Nat.le_of_ble_eq_true rfl) (dk D_X10_depot 2 rfl) ?_
  refine g_if_eq (tgt := 18) (dk D_X10_depot 3 rfl) rfl (fun hc2 => ?_) (fun hc2 => ?_)
  · refine g_bipush (v := ((-2) : Int32)) (dk D_X10_depot 9 rfl) rfl ?_
    exact g_ireturn rfl rfl Sx.rf rfl (by show 0 ≤ 1; omega) (by show 0 ≤ 3; omega) (dk D_X10_depot 10 rfl)
  · refine g_iload_n (dk D_X10_depot 4 rfl) rfl ?_
    refine g_iconst (v := (0 : Int32)) (dk D_X10_depot 5 rfl) rfl ?_
    refine g_bipush (v := (9 : Int32)) (dk D_X10_depot 6 rfl) rfl ?_
    refine h_callS (st := []) (c_X10_isWithin (E := E) S0 I0 x3 (0 : Int32) (9 : Int32)) cl_RX10_226 rfl rfl ⟨⟨by decide, by decide⟩, ⟨rfl, rfl⟩, by show 0 ≤ 1; omega, by show 0 ≤ 3; omega⟩ (Nat.le_of_ble_eq_true rfl) (dk D_X10_depot 7 rfl) ?_
    refine g_if_ne (tgt := 21) (dk D_X10_depot 8 rfl) rfl (fun hc4 => ?_) (fun hc4 => ?_)
    · refine g_aload_n (dk D_X10_depot 11 rfl) rfl ?_
      refine g_getIt fl_RX10_61 (by decide) ht0 (dk D_X10_depot 12 rfl) ?_
      refine g_iconst (v := (4 : Int32)) (dk D_X10_depot 13 rfl) rfl ?_
      refine g_icmp_lt (tgt := 32) (dk D_X10_depot 14 rfl) rfl (fun hc5 => ?_) (fun hc5 => ?_)
      · refine g_aload_n (dk D_X10_depot 17 rfl) rfl ?_
        refine g_getAt (t := 110) fl_RX10_57 rfl ht0 (dk D_X10_depot 18 rfl) (fun ht6 => ?_)
        refine g_aload_n (dk D_X10_depot 19 rfl) rfl ?_
        refine g_getIt fl_RX10_61 (by decide) ht0 (dk D_X10_depot 20 rfl) ?_
        refine g_new nw_RX10_55 (by show 0 + 1 ≤ 1; omega) (by show 0 + 3 ≤ 3; omega) (dk D_X10_depot 21 rfl) ?_
        refine g_wide (cs' := (1, 3)) (by show 0 + 1 ≤ 1; omega) (by show 0 + 3 ≤ 3; omega) ?_
        refine g_ltS (fun S7 eS7 => ?_)
        refine g_ltI (fun I8 eI8 => ?_)
        have hx9 : Sx S0 S7 := eS7 ▸ nwS_x
        have ht10 := ht6.x hx9
        have ht11 := ht0.x hx9
        have hsx12 := Sx.tr Sx.rf hx9
        have ht13 : tyR S7 0 (S0.2.2.2 + 1) := eS7 ▸ nwS_ty.R
        refine g_dup (dk D_X10_depot 22 rfl) rfl ?_
        refine g_iload_n (dk D_X10_depot 23 rfl) rfl ?_
        refine g_iload_n (dk D_X10_depot 24 rfl) rfl ?_
        refine g_iload_n (dk D_X10_depot 25 rfl) rfl ?_
        refine g_bind (fun q14 hq15 => ?_)
        refine g_callI (st := [vA (S0.2.2.2 + 1), vI (I0 a0 9), vA (S0.1 a0 8)]) (c_X0_init (E := E) fu S7 I8 S0.2.2.2 x1 x2 x3 q14 hq15 (ht13.nz (Nat.succ_ne_zero _))) cl_RX10_283 rfl si_X0_init rfl rfl rfl ⟨⟨by decide, by decide⟩, by show 1 + 0 ≤ 1; omega, by show 3 + 0 ≤ 3; omega⟩ (Nat.le_of_ble_eq_true rfl) (dk D_X10_depot 26 rfl) (fun hx17 => ?_)
        refine g_wide (cs' := (1, 3)) (by show 1 + 0 ≤ 1; omega) (by show 3 + 0 ≤ 3; omega) ?_
        refine g_gd (fun hi18 => ?_)
        refine g_aastore (c0 := 0) (by unfold aoC; decide) ht10 hi18 ht13 (Nat.succ_ne_zero _) (dk D_X10_depot 27 rfl) ?_
        refine g_ltS (fun S19 eS19 => ?_)
        have hx20 : Sx S7 S19 := eS19 ▸ upP_x
        have ht21 := ht10.x hx20
        have ht22 := ht13.x hx20
        have ht23 := ht11.x hx20
        have hsx24 := Sx.tr hsx12 hx20
        refine g_aload_n (dk D_X10_depot 28 rfl) rfl ?_
        refine g_dup (dk D_X10_depot 29 rfl) rfl ?_
        refine g_getIt fl_RX10_61 (by decide) ht23 (dk D_X10_depot 30 rfl) ?_
        refine g_iconst (v := (1 : Int32)) (dk D_X10_depot 31 rfl) rfl ?_
        refine g_iadd (dk D_X10_depot 32 rfl) ?_
        refine g_putIt fl_RX10_61 fp_10_9 (fun h => (by cases h)) (by decide) rfl rfl ht23 (dk D_X10_depot 33 rfl) ?_
        refine g_ltI (fun I25 eI25 => ?_)
        refine g_aload_n (dk D_X10_depot 34 rfl) rfl ?_
        refine g_getIt fl_RX10_61 (by decide) ht23 (dk D_X10_depot 35 rfl) ?_
        refine g_iconst (v := (1 : Int32)) (dk D_X10_depot 36 rfl) rfl ?_
        refine g_isub (dk D_X10_depot 37 rfl) ?_
        exact g_ireturn rfl rfl hsx24 rfl (by show 1 ≤ 1; omega) (by show 3 ≤ 3; omega) (dk D_X10_depot 38 rfl)
      · refine g_bipush (v := ((-4) : Int32)) (dk D_X10_depot 15 rfl) rfl ?_
        exact g_ireturn rfl rfl Sx.rf rfl (by show 0 ≤ 1; omega) (by show 0 ≤ 3; omega) (dk D_X10_depot 16 rfl)
    · refine g_bipush (v := ((-2) : Int32)) (dk D_X10_depot 9 rfl) rfl ?_
      exact g_ireturn rfl rfl Sx.rf rfl (by show 0 ≤ 1; omega) (by show 0 ≤ 3; omega) (dk D_X10_depot 10 rfl)
theorem c_X10_depot {E : EV} (fu : Nat) (S0 : Sk) (I0 : II) (a0 : Nat) (x1 : Int32) (x2 : Int32) (x3 : Int32) (r : Int32 × Sk × II) (h : f_X10_depot fu S0 I0 a0 x1 x2 x3 = some r) (ht0 : tyO S0 10 a0) : MX E yX10_depot i_X10_depot S0 I0 [vA (a0 + 1), vI x1, vI x2, vI x3] (po_X10_depot S0 I0 r) :=
  MX.of h (by decide) rfl rfl (Nat.le_of_ble_eq_true rfl) (gg_X10_depot fu S0 I0 a0 x1 x2 x3 ht0)
theorem fl_RX10_401 : FL RX10 401 0 0 := ⟨RX0, TX0, 3, rfl, by decide, rfl, by decide, (gm 763 (by decide +kernel) (by decide +kernel)), inG0⟩
theorem fl_RX10_404 : FL RX10 404 0 1 := ⟨RX0, TX0, 3, rfl, by decide, rfl, by decide, (gm 765 (by decide +kernel) (by decide +kernel)), inG0⟩
theorem cl_RX10_407 : CV0 RX10 407 yX2_walkFrom i_X2_walkFrom 3 2 := ⟨⟨(gm 783 (by decide +kernel) (by decide +kernel)), (gm 67 (by decide +kernel) (by decide +kernel)), ((gm 338 (by decide +kernel) (by decide +kernel))), by decide +kernel, by decide +kernel, by decide +kernel⟩, ⟨(gm 336 (by decide +kernel) (by decide +kernel)), (gm 337 (by decide +kernel) (by decide +kernel))⟩, rfl, by decide⟩
def tb_X10_emptyMinutes : List (Nat × Instr × Nat) := [(0, .aload_n 0, 1), (1, .getfield 12, 3), (4, .aload_n 1, 1), (5, .getfield 193, 3), (8, .iconst 0, 1), (9, .iaload, 1), (10, .aload_n 2, 1), (11, .getfield 401, 3), (14, .aload_n 2, 1), (15, .getfield 404, 3), (18, .invokevirtual 407, 3), (21, .aload_n 0, 1), (22, .getfield 12, 3), (25, .aload_n 1, 1), (26, .getfield 193, 3), (29, .aload_n 1, 1), (30, .getfield 171, 3), (33, .iconst 1, 1), (34, .isub, 1), (35, .iaload, 1), (36, .aload_n 2, 1), (37, .getfield 401, 3), (40, .aload_n 2, 1), (41, .getfield 404, 3), (44, .invokevirtual 407, 3), (47, .iadd, 1), (48, .ireturn, 1)]
def i_X10_emptyMinutes : MI := (RX10, cX10_emptyMinutes, 3, (some .int), "emptyMinutes", { frames := 2, cells := 0, slots := 0, locals := 103 })
theorem D_X10_emptyMinutes : tbOK (i_X10_emptyMinutes).2.1 tb_X10_emptyMinutes := by show ∀ q ∈ tb_X10_emptyMinutes, decode cX10_emptyMinutes q.1 = .ok (q.2.1, q.2.2); decide +kernel
def po_X10_emptyMinutes (S : Sk) (I : II) (r : Int32) : Option LV × Sk × II := (some (vI r), S, I)
def f_X10_emptyMinutes (fu : Nat) (S : Sk) (I : II) (a0 : Nat) (r1 : Nat) (r2 : Nat) : Option (Int32) :=
  gd (r1 ≠ 0) (gd (inb S (S.1 (r1 - 1) 6) (0 : Int32)) (gd (r2 ≠ 0) (gd ((S.1 a0 0) ≠ 0) ((f_X2_walkFrom fu S I ((S.1 a0 0) - 1) (rd I (S.1 (r1 - 1) 6) (0 : Int32)) (I (r2 - 1) 0) (I (r2 - 1) 1)).bind fun q7 => (gd (inb S (S.1 (r1 - 1) 6) ((I (r1 - 1) 5) - (1 : Int32))) ((f_X2_walkFrom fu S I ((S.1 a0 0) - 1) (rd I (S.1 (r1 - 1) 6) ((I (r1 - 1) 5) - (1 : Int32))) (I (r2 - 1) 0) (I (r2 - 1) 1)).bind fun q13 => (some ((q7 + q13)))))))))
set_option maxRecDepth 100000 in
set_option maxHeartbeats 4000000 in
theorem gg_X10_emptyMinutes {E : EV} (fu : Nat) (S0 : Sk) (I0 : II) (a0 : Nat) (r1 : Nat) (r2 : Nat) (ht0 : tyO S0 10 a0) (h_r1 : tyR S0 1 r1) (h_r2 : tyR S0 0 r2) : GG E i_X10_emptyMinutes (enM E i_X10_emptyMinutes S0 (po_X10_emptyMinutes S0 I0)) S0 I0 (0, 0) 0 [(0, vA (a0 + 1)), (1, vA r1), (2, vA r2)] [] (f_X10_emptyMinutes fu S0 I0 a0 r1 r2) := by
  unfold f_X10_emptyMinutes
  refine g_aload_n (dk D_X10_emptyMinutes 0 rfl) rfl ?_
  refine g_getAt (t := 2) fl_RX10_12 rfl ht0 (dk D_X10_emptyMinutes 1 rfl) (fun ht1 => ?_)
  refine g_aload_n (dk D_X10_emptyMinutes 2 rfl) rfl ?_
  refine g_gd (fun hn3 => ?_)
  refine g_getA (t := 100) fl_RX10_193 rfl h_r1 hn3 (dk D_X10_emptyMinutes 3 rfl) (fun ht2 => ?_)
  refine g_iconst (v := (0 : Int32)) (dk D_X10_emptyMinutes 4 rfl) rfl ?_
  refine g_gd (fun hi4 => ?_)
  refine g_iaload ht2 hi4 (dk D_X10_emptyMinutes 5 rfl) ?_
  refine g_aload_n (dk D_X10_emptyMinutes 6 rfl) rfl ?_
  refine g_gd (fun hn5 => ?_)
  refine g_getI fl_RX10_401 (by decide) h_r2 hn5 (dk D_X10_emptyMinutes 7 rfl) ?_
  refine g_aload_n (dk D_X10_emptyMinutes 8 rfl) rfl ?_
  refine g_getI fl_RX10_404 (by decide) h_r2 hn5 (dk D_X10_emptyMinutes 9 rfl) ?_
  refine g_gd (fun hn6 => ?_)
  refine g_bind (fun q7 hq8 => ?_)
  refine h_callV (st := []) (c_X2_walkFrom (E := E) fu S0 I0 ((S0.1 a0 0) - 1) (rd I0 (S0.1 (r1 - 1) 6) (0 : Int32)) (I0 (r2 - 1) 0) (I0 (r2 - 1) 1) q7 hq8 (ht1.nz hn6)) cl_RX10_407 ht1 hn6 rfl rfl (by decide) (Nat.le_of_ble_eq_true rfl) (dk D_X10_emptyMinutes 10 rfl) ?_
  refine g_aload_n (dk D_X10_emptyMinutes 11 rfl) rfl ?_
  refine g_getAt (t := 2) fl_RX10_12 rfl ht0 (dk D_X10_emptyMinutes 12 rfl) (fun ht10 => ?_)
  refine g_aload_n (dk D_X10_emptyMinutes 13 rfl) rfl ?_
  refine g_getA (t := 100) fl_RX10_193 rfl h_r1 hn3 (dk D_X10_emptyMinutes 14 rfl) (fun ht11 => ?_)
  refine g_aload_n (dk D_X10_emptyMinutes 15 rfl) rfl ?_
  refine g_getI fl_RX10_171 (by decide) h_r1 hn3 (dk D_X10_emptyMinutes 16 rfl) ?_
  refine g_iconst (v := (1 : Int32)) (dk D_X10_emptyMinutes 17 rfl) rfl ?_
  refine g_isub (dk D_X10_emptyMinutes 18 rfl) ?_
  refine g_gd (fun hi12 => ?_)
  refine g_iaload ht2 hi12 (dk D_X10_emptyMinutes 19 rfl) ?_
  refine g_aload_n (dk D_X10_emptyMinutes 20 rfl) rfl ?_
  refine g_getI fl_RX10_401 (by decide) h_r2 hn5 (dk D_X10_emptyMinutes 21 rfl) ?_
  refine g_aload_n (dk D_X10_emptyMinutes 22 rfl) rfl ?_
  refine g_getI fl_RX10_404 (by decide) h_r2 hn5 (dk D_X10_emptyMinutes 23 rfl) ?_
  refine g_bind (fun q13 hq14 => ?_)
  refine h_callV (st := [vI q7]) (c_X2_walkFrom (E := E) fu S0 I0 ((S0.1 a0 0) - 1) (rd I0 (S0.1 (r1 - 1) 6) ((I0 (r1 - 1) 5) - (1 : Int32))) (I0 (r2 - 1) 0) (I0 (r2 - 1) 1) q13 hq14 (ht1.nz hn6)) cl_RX10_407 ht1 hn6 rfl rfl (by decide) (Nat.le_of_ble_eq_true rfl) (dk D_X10_emptyMinutes 24 rfl) ?_
  refine g_iadd (dk D_X10_emptyMinutes 25 rfl) ?_
  exact g_ireturn rfl rfl Sx.rf rfl (by decide) (by decide) (dk D_X10_emptyMinutes 26 rfl)
theorem c_X10_emptyMinutes {E : EV} (fu : Nat) (S0 : Sk) (I0 : II) (a0 : Nat) (r1 : Nat) (r2 : Nat) (r : Int32) (h : f_X10_emptyMinutes fu S0 I0 a0 r1 r2 = some r) (ht0 : tyO S0 10 a0) (h_r1 : tyR S0 1 r1) (h_r2 : tyR S0 0 r2) : MX E yX10_emptyMinutes i_X10_emptyMinutes S0 I0 [vA (a0 + 1), vA r1, vA r2] (po_X10_emptyMinutes S0 I0 r) :=
  MX.of h (by decide) rfl rfl (Nat.le_of_ble_eq_true rfl) (gg_X10_emptyMinutes fu S0 I0 a0 r1 r2 ht0 h_r1 h_r2)
theorem cl_RX10_286 : CV0 RX10 286 yX10_emptyMinutes i_X10_emptyMinutes 2 10 := ⟨⟨(gm 779 (by decide +kernel) (by decide +kernel)), (gm 66 (by decide +kernel) (by decide +kernel)), ((gm 782 (by decide +kernel) (by decide +kernel))), by decide +kernel, by decide +kernel, by decide +kernel⟩, ⟨(gm 781 (by decide +kernel) (by decide +kernel)), (gm 15 (by decide +kernel) (by decide +kernel))⟩, rfl, by decide⟩
def tb_X10_empty : List (Nat × Instr × Nat) := [(0, .aload_n 0, 1), (1, .getfield 12, 3), (4, .iload_n 1, 1), (5, .invokevirtual 155, 3), (8, .astore_n 3, 1), (9, .aload_n 3, 1), (10, .ifnull 15, 3), (13, .iload_n 2, 1), (14, .ifCond .lt 11, 3), (17, .iload_n 2, 1), (18, .aload_n 0, 1), (19, .getfield 61, 3), (22, .if_icmp .lt 5, 3), (25, .iconst (-1), 1), (26, .ireturn, 1), (27, .aload_n 0, 1), (28, .aload_n 3, 1), (29, .aload_n 0, 1), (30, .getfield 57, 3), (33, .iload_n 2, 1), (34, .aaload, 1), (35, .invokevirtual 286, 3), (38, .ireturn, 1)]
def i_X10_empty : MI := (RX10, cX10_empty, 4, (some .int), "empty", { frames := 3, cells := 0, slots := 0, locals := 125 })
theorem D_X10_empty : tbOK (i_X10_empty).2.1 tb_X10_empty := by show ∀ q ∈ tb_X10_empty, decode cX10_empty q.1 = .ok (q.2.1, q.2.2); decide +kernel
def po_X10_empty (S : Sk) (I : II) (r : Int32) : Option LV × Sk × II := (some (vI r), S, I)
def f_X10_empty (fu : Nat) (S : Sk) (I : II) (a0 : Nat) (x1 : Int32) (x2 : Int32) : Option (Int32) :=
  gd ((S.1 a0 0) ≠ 0) ((f_X2_lineAt fu S I ((S.1 a0 0) - 1) x1).bind fun q3 => (if q3 = 0 then some (((-1) : Int32)) else if x2 < 0 then some (((-1) : Int32)) else if x2 < (I a0 9) then gd (inb S (S.1 a0 8) x2) ((f_X10_emptyMinutes fu S I a0 q3 (S.1 ((S.1 a0 8) - 1) (nx x2))).bind fun q12 => (some (q12))) else some (((-1) : Int32))))
set_option maxRecDepth 100000 in
set_option maxHeartbeats 4000000 in
theorem gg_X10_empty {E : EV} (fu : Nat) (S0 : Sk) (I0 : II) (a0 : Nat) (x1 : Int32) (x2 : Int32) (ht0 : tyO S0 10 a0) : GG E i_X10_empty (enM E i_X10_empty S0 (po_X10_empty S0 I0)) S0 I0 (0, 0) 0 [(0, vA (a0 + 1)), (1, vI x1), (2, vI x2)] [] (f_X10_empty fu S0 I0 a0 x1 x2) := by
  unfold f_X10_empty
  refine g_aload_n (dk D_X10_empty 0 rfl) rfl ?_
  refine g_getAt (t := 2) fl_RX10_12 rfl ht0 (dk D_X10_empty 1 rfl) (fun ht1 => ?_)
  refine g_iload_n (dk D_X10_empty 2 rfl) rfl ?_
  refine g_gd (fun hn2 => ?_)
  refine g_bind (fun q3 hq4 => ?_)
  refine h_callVA (st := []) (c_X2_lineAt (E := E) fu S0 I0 ((S0.1 a0 0) - 1) x1 q3 hq4 (ht1.nz hn2)) rt_X2_lineAt cl_RX10_155 ht1 hn2 rfl rfl (by decide) (Nat.le_of_ble_eq_true rfl) (dk D_X10_empty 3 rfl) (fun ht5 => ?_)
  refine g_astore_n (L' := [(0, vA (a0 + 1)), (1, vI x1), (2, vI x2), (3, vA q3)]) (dk D_X10_empty 4 rfl) (Nat.le_of_ble_eq_true rfl) rfl ?_
  refine g_aload_n (dk D_X10_empty 5 rfl) rfl ?_
  refine g_ifnull (tgt := 25) (dk D_X10_empty 6 rfl) rfl (fun hc6 => ?_) (fun hc6 => ?_)
  · refine g_iconst (v := ((-1) : Int32)) (dk D_X10_empty 13 rfl) rfl ?_
    exact g_ireturn rfl rfl Sx.rf rfl (by decide) (by decide) (dk D_X10_empty 14 rfl)
  · refine g_iload_n (dk D_X10_empty 7 rfl) rfl ?_
    refine g_if_lt (tgt := 25) (dk D_X10_empty 8 rfl) rfl (fun hc7 => ?_) (fun hc7 => ?_)
    · refine g_iconst (v := ((-1) : Int32)) (dk D_X10_empty 13 rfl) rfl ?_
      exact g_ireturn rfl rfl Sx.rf rfl (by decide) (by decide) (dk D_X10_empty 14 rfl)
    · refine g_iload_n (dk D_X10_empty 9 rfl) rfl ?_
      refine g_aload_n (dk D_X10_empty 10 rfl) rfl ?_
      refine g_getIt fl_RX10_61 (by decide) ht0 (dk D_X10_empty 11 rfl) ?_
      refine g_icmp_lt (tgt := 27) (dk D_X10_empty 12 rfl) rfl (fun hc8 => ?_) (fun hc8 => ?_)
      · refine g_aload_n (dk D_X10_empty 15 rfl) rfl ?_
        refine g_aload_n (dk D_X10_empty 16 rfl) rfl ?_
        refine g_aload_n (dk D_X10_empty 17 rfl) rfl ?_
        refine g_getAt (t := 110) fl_RX10_57 rfl ht0 (dk D_X10_empty 18 rfl) (fun ht9 => ?_)
        refine g_iload_n (dk D_X10_empty 19 rfl) rfl ?_
        refine g_gd (fun hi10 => ?_)
        refine g_aaload (c0 := 0) (by unfold aoC; decide) ht9 hi10 (dk D_X10_empty 20 rfl) (fun ht11 => ?_)
        refine g_bind (fun q12 hq13 => ?_)
        refine h_callVt (st := []) (c_X10_emptyMinutes (E := E) fu S0 I0 a0 q3 (S0.1 ((S0.1 a0 8) - 1) (nx x2)) q12 hq13 (ht0) ht5 ht11) cl_RX10_286 ht0 rfl rfl (by decide) (Nat.le_of_ble_eq_true rfl) (dk D_X10_empty 21 rfl) ?_
        exact g_ireturn rfl rfl Sx.rf rfl (by decide) (by decide) (dk D_X10_empty 22 rfl)
      · refine g_iconst (v := ((-1) : Int32)) (dk D_X10_empty 13 rfl) rfl ?_
        exact g_ireturn rfl rfl Sx.rf rfl (by decide) (by decide) (dk D_X10_empty 14 rfl)
theorem c_X10_empty {E : EV} (fu : Nat) (S0 : Sk) (I0 : II) (a0 : Nat) (x1 : Int32) (x2 : Int32) (r : Int32) (h : f_X10_empty fu S0 I0 a0 x1 x2 = some r) (ht0 : tyO S0 10 a0) : MX E yX10_empty i_X10_empty S0 I0 [vA (a0 + 1), vI x1, vI x2] (po_X10_empty S0 I0 r) :=
  MX.of h (by decide) rfl rfl (Nat.le_of_ble_eq_true rfl) (gg_X10_empty fu S0 I0 a0 x1 x2 ht0)
theorem fl_RX10_300 : FL RX10 300 4 1 := ⟨RX4, TX4, 11, rfl, by decide, rfl, by decide, (gm 173 (by decide +kernel) (by decide +kernel)), inG4⟩
theorem fl_RX10_303 : FL RX10 303 2 4 := ⟨RX2, TX2, 6, rfl, by decide, rfl, by decide, (gm 107 (by decide +kernel) (by decide +kernel)), inG2⟩
theorem fl_RX10_306 : FL RX10 306 4 0 := ⟨RX4, TX4, 11, rfl, by decide, rfl, by decide, (gm 171 (by decide +kernel) (by decide +kernel)), inG4⟩
theorem cl_RX10_308 : CV0 RX10 308 yX4_setCost i_X4_setCost 3 4 := ⟨⟨(gm 804 (by decide +kernel) (by decide +kernel)), (gm 69 (by decide +kernel) (by decide +kernel)), ((gm 807 (by decide +kernel) (by decide +kernel))), by decide +kernel, by decide +kernel, by decide +kernel⟩, ⟨(gm 805 (by decide +kernel) (by decide +kernel)), (gm 806 (by decide +kernel) (by decide +kernel))⟩, rfl, by decide⟩
theorem cl_RX10_311 : CV0 RX10 311 yX4_answer i_X4_answer 1 4 := ⟨⟨(gm 808 (by decide +kernel) (by decide +kernel)), (gm 69 (by decide +kernel) (by decide +kernel)), ((gm 811 (by decide +kernel) (by decide +kernel))), by decide +kernel, by decide +kernel, by decide +kernel⟩, ⟨(gm 809 (by decide +kernel) (by decide +kernel)), (gm 810 (by decide +kernel) (by decide +kernel))⟩, rfl, by decide⟩
theorem fl_RX10_294 : FL RX10 294 0 2 := ⟨RX0, TX0, 3, rfl, by decide, rfl, by decide, (gm 767 (by decide +kernel) (by decide +kernel)), inG0⟩
theorem cl_RX10_297 : CV0 RX10 297 yX4_addPlace i_X4_addPlace 1 4 := ⟨⟨(gm 799 (by decide +kernel) (by decide +kernel)), (gm 69 (by decide +kernel) (by decide +kernel)), ((gm 802 (by decide +kernel) (by decide +kernel))), by decide +kernel, by decide +kernel, by decide +kernel⟩, ⟨(gm 800 (by decide +kernel) (by decide +kernel)), (gm 801 (by decide +kernel) (by decide +kernel))⟩, rfl, by decide⟩
theorem cl_RX10_290 : CV0 RX10 290 yX4_begin i_X4_begin 1 4 := ⟨⟨(gm 788 (by decide +kernel) (by decide +kernel)), (gm 69 (by decide +kernel) (by decide +kernel)), ((gm 791 (by decide +kernel) (by decide +kernel))), by decide +kernel, by decide +kernel, by decide +kernel⟩, ⟨(gm 789 (by decide +kernel) (by decide +kernel)), (gm 790 (by decide +kernel) (by decide +kernel))⟩, rfl, by decide⟩
def tb_X10_fit : List (Nat × Instr × Nat) := [(0, .iload_n 1, 1), (1, .invokestatic 159, 3), (4, .ifCond .ne 6, 3), (7, .bipush (-2), 2), (9, .ireturn, 1), (10, .iload_n 2, 1), (11, .iconst (-1), 1), (12, .if_icmp .eq 16, 3), (15, .aload_n 0, 1), (16, .getfield 12, 3), (19, .iload_n 2, 1), (20, .invokevirtual 155, 3), (23, .ifnonnull 5, 3), (26, .iconst (-1), 1), (27, .ireturn, 1), (28, .aload_n 0, 1), (29, .getfield 74, 3), (32, .aload_n 0, 1), (33, .getfield 12, 3), (36, .iload_n 1, 1), (37, .invokevirtual 235, 3), (40, .invokevirtual 290, 3), (43, .iconst 0, 1), (44, .istore_n 3, 1), (45, .iload_n 3, 1), (46, .aload_n 0, 1), (47, .getfield 61, 3), (50, .if_icmp .ge 84, 3), (53, .aload_n 0, 1), (54, .getfield 74, 3), (57, .aload_n 0, 1), (58, .getfield 57, 3), (61, .iload_n 3, 1), (62, .aaload, 1), (63, .getfield 294, 3), (66, .invokevirtual 297, 3), (69, .iconst 0, 1), (70, .istore 4, 2), (72, .iload 4, 2), (74, .aload_n 0, 1), (75, .getfield 74, 3), (78, .getfield 300, 3), (81, .if_icmp .ge 47, 3), (84, .aload_n 0, 1), (85, .getfield 74, 3), (88, .iload 4, 2), (90, .iload_n 3, 1), (91, .aload_n 0, 1), (92, .aload_n 0, 1), (93, .getfield 12, 3), (96, .getfield 303, 3), (99, .aload_n 0, 1), (100, .getfield 74, 3), (103, .getfield 306, 3), (106, .iload 4, 2), (108, .iaload, 1), (109, .aaload, 1), (110, .aload_n 0, 1), (111, .getfield 57, 3), (114, .iload_n 3, 1), (115, .aaload, 1), (116, .invokevirtual 286, 3), (119, .invokevirtual 308, 3), (122, .iinc 4 1, 3), (125, .goto (-53), 3), (128, .iinc 3 1, 3), (131, .goto (-86), 3), (134, .aload_n 0, 1), (135, .getfield 74, 3), (138, .iload_n 2, 1), (139, .invokevirtual 311, 3), (142, .ireturn, 1)]
def i_X10_fit : MI := (RX10, cX10_fit, 5, (some .int), "fit", { frames := 26, cells := 0, slots := 0, locals := 620 })
theorem D_X10_fit : tbOK (i_X10_fit).2.1 tb_X10_fit := by show ∀ q ∈ tb_X10_fit, decode cX10_fit q.1 = .ok (q.2.1, q.2.2); decide +kernel
def po_X10_fit (S : Sk) (I : II) (r : Int32 × II) : Option LV × Sk × II := (some (vI r.1), S, r.2)
def lp_X10_fit_72 (fu : Nat) (S : Sk) (self45 : Int32 → II → Option (Int32 × II)) (a0 : Nat) (x2 : Int32) (x3 : Int32) (self72 : Int32 → II → Option (Int32 × II)) (x4 : Int32) (I : II) : Option (Int32 × II) :=
  gd ((S.1 a0 12) ≠ 0) (if (I ((S.1 a0 12) - 1) 1) ≤ x4 then self45 (x3 + (1 : Int32)) I else gd ((S.1 a0 0) ≠ 0) (gd (inb S (S.1 ((S.1 a0 12) - 1) 0) x4) (gd (inb S (S.1 ((S.1 a0 0) - 1) 4) (rd I (S.1 ((S.1 a0 12) - 1) 0) x4)) (gd (inb S (S.1 a0 8) x3) ((f_X10_emptyMinutes fu S I a0 (S.1 ((S.1 ((S.1 a0 0) - 1) 4) - 1) (nx (rd I (S.1 ((S.1 a0 12) - 1) 0) x4))) (S.1 ((S.1 a0 8) - 1) (nx x3))).bind fun q16 => ((f_X4_setCost fu S I ((S.1 a0 12) - 1) x4 x3 q16).bind fun q19 => (self72 (x4 + (1 : Int32)) q19)))))))
def lp_X10_fit_45 (fu : Nat) (S : Sk) (a0 : Nat) (x2 : Int32) (self45 : Int32 → II → Option (Int32 × II)) (x3 : Int32) (I : II) : Option (Int32 × II) :=
  if (I a0 9) ≤ x3 then gd ((S.1 a0 12) ≠ 0) ((f_X4_answer fu S I ((S.1 a0 12) - 1) x2).bind fun q25 => (some ((q25.1, q25.2)))) else gd (inb S (S.1 a0 8) x3) (gd ((S.1 ((S.1 a0 8) - 1) (nx x3)) ≠ 0) (gd ((S.1 a0 12) ≠ 0) ((f_X4_addPlace fu S I ((S.1 a0 12) - 1) (I ((S.1 ((S.1 a0 8) - 1) (nx x3)) - 1) 2)).bind fun q34 => (fix2 (lp_X10_fit_72 fu S self45 a0 x2 x3) fu (0 : Int32) q34))))
def jn_X10_fit_28 (fu : Nat) (S : Sk) (I : II) (a0 : Nat) (x1 : Int32) (x2 : Int32) : Option (Int32 × II) :=
  gd ((S.1 a0 0) ≠ 0) ((f_X2_running fu S I ((S.1 a0 0) - 1) x1).bind fun q40 => (gd ((S.1 a0 12) ≠ 0) ((f_X4_begin fu S I ((S.1 a0 12) - 1) q40).bind fun q44 => (fix2 (lp_X10_fit_45 fu S a0 x2) fu (0 : Int32) q44))))
def f_X10_fit (fu : Nat) (S : Sk) (I : II) (a0 : Nat) (x1 : Int32) (x2 : Int32) : Option (Int32 × II) :=
  if (t_X10_isDay x1) = 0 then some ((((-2) : Int32), I)) else if x2 = ((-1) : Int32) then jn_X10_fit_28 fu S I a0 x1 x2 else gd ((S.1 a0 0) ≠ 0) ((f_X2_lineAt fu S I ((S.1 a0 0) - 1) x2).bind fun q52 => (if q52 = 0 then some ((((-1) : Int32), I)) else jn_X10_fit_28 fu S I a0 x1 x2))
set_option maxRecDepth 100000 in
set_option maxHeartbeats 4000000 in
theorem gg_X10_fit {E : EV} (fu : Nat) (S0 : Sk) (I0 : II) (a0 : Nat) (x1 : Int32) (x2 : Int32) (ht0 : tyO S0 10 a0) : GG E i_X10_fit (enM E i_X10_fit S0 (po_X10_fit S0 I0)) S0 I0 (0, 0) 0 [(0, vA (a0 + 1)), (1, vI x1), (2, vI x2)] [] (f_X10_fit fu S0 I0 a0 x1 x2) := by
  have hl45 : ∀ (nn : Nat) (x3 : Int32) (I : II), True → GG E i_X10_fit (enM E i_X10_fit S0 (po_X10_fit S0 I0)) S0 I (0, 0) 45 [(0, vA (a0 + 1)), (2, vI x2), (3, vI x3)] [] (fix2 (lp_X10_fit_45 fu S0 a0 x2) nn x3 I) := by
    refine g_fix2 (fun _ _ => S0) (fun x3 I => I) (fun x3 I => [(0, vA (a0 + 1)), (2, vI x2), (3, vI x3)]) (fun x3 I => True) ?_
    intro self45 hself45 x3 I hinv
    have hl72 : ∀ (x3 : Int32) (nn : Nat) (x4 : Int32) (I : II), True → GG E i_X10_fit (enM E i_X10_fit S0 (po_X10_fit S0 I0)) S0 I (0, 0) 72 [(0, vA (a0 + 1)), (2, vI x2), (3, vI x3), (4, vI x4)] [] (fix2 (lp_X10_fit_72 fu S0 self45 a0 x2 x3) nn x4 I) := by
      intro x3 
      refine g_fix2 (fun _ _ => S0) (fun x4 I => I) (fun x4 I => [(0, vA (a0 + 1)), (2, vI x2), (3, vI x3), (4, vI x4)]) (fun x4 I => True) ?_
      intro self72 hself72 x4 I hinv
      unfold lp_X10_fit_72
      refine g_iload (dk D_X10_fit 38 rfl) rfl ?_
      refine g_aload_n (dk D_X10_fit 39 rfl) rfl ?_
      refine g_getAt (t := 4) fl_RX10_74 rfl ht0 (dk D_X10_fit 40 rfl) (fun ht1 => ?_)
      refine g_gd (fun hn2 => ?_)
      refine g_getI fl_RX10_300 (by decide) ht1 hn2 (dk D_X10_fit 41 rfl) ?_
      refine g_icmp_ge (tgt := 128) (dk D_X10_fit 42 rfl) rfl (fun hc3 => ?_) (fun hc3 => ?_)
      · refine g_iinc (v := (1 : Int32)) (L' := [(0, vA (a0 + 1)), (2, vI x2), (3, vI (x3 + (1 : Int32))), (4, vI x4)]) (dk D_X10_fit 65 rfl) rfl rfl (Nat.le_of_ble_eq_true rfl) rfl ?_
        refine g_goto (tgt := 45) (dk D_X10_fit 66 rfl) rfl ?_
        refine g_Lp [0, 1, 2] rfl ?_
        exact hself45 (x3 + (1 : Int32)) I trivial
      · refine g_aload_n (dk D_X10_fit 43 rfl) rfl ?_
        refine g_getAt (t := 4) fl_RX10_74 rfl ht0 (dk D_X10_fit 44 rfl) (fun ht4 => ?_)
        refine g_iload (dk D_X10_fit 45 rfl) rfl ?_
        refine g_iload_n (dk D_X10_fit 46 rfl) rfl ?_
        refine g_aload_n (dk D_X10_fit 47 rfl) rfl ?_
        refine g_aload_n (dk D_X10_fit 48 rfl) rfl ?_
        refine g_getAt (t := 2) fl_RX10_12 rfl ht0 (dk D_X10_fit 49 rfl) (fun ht5 => ?_)
        refine g_gd (fun hn7 => ?_)
        refine g_getA (t := 111) fl_RX10_303 rfl ht5 hn7 (dk D_X10_fit 50 rfl) (fun ht6 => ?_)
        refine g_aload_n (dk D_X10_fit 51 rfl) rfl ?_
        refine g_getAt (t := 4) fl_RX10_74 rfl ht0 (dk D_X10_fit 52 rfl) (fun ht8 => ?_)
        refine g_getA (t := 100) fl_RX10_306 rfl ht1 hn2 (dk D_X10_fit 53 rfl) (fun ht9 => ?_)
        refine g_iload (dk D_X10_fit 54 rfl) rfl ?_
        refine g_gd (fun hi10 => ?_)
        refine g_iaload ht9 hi10 (dk D_X10_fit 55 rfl) ?_
        refine g_gd (fun hi11 => ?_)
        refine g_aaload (c0 := 1) (by unfold aoC; decide) ht6 hi11 (dk D_X10_fit 56 rfl) (fun ht12 => ?_)
        refine g_aload_n (dk D_X10_fit 57 rfl) rfl ?_
        refine g_getAt (t := 110) fl_RX10_57 rfl ht0 (dk D_X10_fit 58 rfl) (fun ht13 => ?_)
        refine g_iload_n (dk D_X10_fit 59 rfl) rfl ?_
        refine g_gd (fun hi14 => ?_)
        refine g_aaload (c0 := 0) (by unfold aoC; decide) ht13 hi14 (dk D_X10_fit 60 rfl) (fun ht15 => ?_)
        refine g_bind (fun q16 hq17 => ?_)
        refine h_callVt (st := [vI x3, vI x4, vA (S0.1 a0 12)]) (c_X10_emptyMinutes (E := E) fu S0 I a0 (S0.1 ((S0.1 ((S0.1 a0 0) - 1) 4) - 1) (nx (rd I (S0.1 ((S0.1 a0 12) - 1) 0) x4))) (S0.1 ((S0.1 a0 8) - 1) (nx x3)) q16 hq17 (ht0) ht12 ht15) cl_RX10_286 ht0 rfl rfl (by decide) (Nat.le_of_ble_eq_true rfl) (dk D_X10_fit 61 rfl) ?_
        refine g_bind (fun q19 hq20 => ?_)
        refine h_callV (st := []) (c_X4_setCost (E := E) fu S0 I ((S0.1 a0 12) - 1) x4 x3 q16 q19 hq20 (ht1.nz hn2)) cl_RX10_308 ht1 hn2 rfl rfl (by decide) (Nat.le_of_ble_eq_true rfl) (dk D_X10_fit 62 rfl) ?_
        refine g_iinc (v := (1 : Int32)) (L' := [(0, vA (a0 + 1)), (2, vI x2), (3, vI x3), (4, vI (x4 + (1 : Int32)))]) (dk D_X10_fit 63 rfl) rfl rfl (Nat.le_of_ble_eq_true rfl) rfl ?_
        refine g_goto (tgt := 72) (dk D_X10_fit 64 rfl) rfl ?_
        exact hself72 (x4 + (1 : Int32)) q19 trivial
    unfold lp_X10_fit_45
    refine g_iload_n (dk D_X10_fit 24 rfl) rfl ?_
    refine g_aload_n (dk D_X10_fit 25 rfl) rfl ?_
    refine g_getIt fl_RX10_61 (by decide) ht0 (dk D_X10_fit 26 rfl) ?_
    refine g_icmp_ge (tgt := 134) (dk D_X10_fit 27 rfl) rfl (fun hc22 => ?_) (fun hc22 => ?_)
    · refine g_aload_n (dk D_X10_fit 67 rfl) rfl ?_
      refine g_getAt (t := 4) fl_RX10_74 rfl ht0 (dk D_X10_fit 68 rfl) (fun ht23 => ?_)
      refine g_iload_n (dk D_X10_fit 69 rfl) rfl ?_
      refine g_gd (fun hn24 => ?_)
      refine g_bind (fun q25 hq26 => ?_)
      refine h_callV (st := []) (c_X4_answer (E := E) fu S0 I ((S0.1 a0 12) - 1) x2 q25 hq26 (ht23.nz hn24)) cl_RX10_311 ht23 hn24 rfl rfl (by decide) (Nat.le_of_ble_eq_true rfl) (dk D_X10_fit 70 rfl) ?_
      exact g_ireturn rfl rfl Sx.rf rfl (by decide) (by decide) (dk D_X10_fit 71 rfl)
    · refine g_aload_n (dk D_X10_fit 28 rfl) rfl ?_
      refine g_getAt (t := 4) fl_RX10_74 rfl ht0 (dk D_X10_fit 29 rfl) (fun ht28 => ?_)
      refine g_aload_n (dk D_X10_fit 30 rfl) rfl ?_
      refine g_getAt (t := 110) fl_RX10_57 rfl ht0 (dk D_X10_fit 31 rfl) (fun ht29 => ?_)
      refine g_iload_n (dk D_X10_fit 32 rfl) rfl ?_
      refine g_gd (fun hi30 => ?_)
      refine g_aaload (c0 := 0) (by unfold aoC; decide) ht29 hi30 (dk D_X10_fit 33 rfl) (fun ht31 => ?_)
      refine g_gd (fun hn32 => ?_)
      refine g_getI fl_RX10_294 (by decide) ht31 hn32 (dk D_X10_fit 34 rfl) ?_
      refine g_gd (fun hn33 => ?_)
      refine g_bind (fun q34 hq35 => ?_)
      refine h_callV (st := []) (c_X4_addPlace (E := E) fu S0 I ((S0.1 a0 12) - 1) (I ((S0.1 ((S0.1 a0 8) - 1) (nx x3)) - 1) 2) q34 hq35 (ht28.nz hn33)) cl_RX10_297 ht28 hn33 rfl rfl (by decide) (Nat.le_of_ble_eq_true rfl) (dk D_X10_fit 35 rfl) ?_
      refine g_iconst (v := (0 : Int32)) (dk D_X10_fit 36 rfl) rfl ?_
      refine g_istore (L' := [(0, vA (a0 + 1)), (2, vI x2), (3, vI x3), (4, vI (0 : Int32))]) (dk D_X10_fit 37 rfl) (Nat.le_of_ble_eq_true rfl) rfl ?_
      exact hl72 x3 fu (0 : Int32) q34 trivial
  have hj28 : ∀ (I : II), GG E i_X10_fit (enM E i_X10_fit S0 (po_X10_fit S0 I0)) S0 I (0, 0) 28 [(0, vA (a0 + 1)), (1, vI x1), (2, vI x2)] [] (jn_X10_fit_28 fu S0 I a0 x1 x2) := by
    intro I  
    unfold jn_X10_fit_28
    refine g_aload_n (dk D_X10_fit 15 rfl) rfl ?_
    refine g_getAt (t := 4) fl_RX10_74 rfl ht0 (dk D_X10_fit 16 rfl) (fun ht37 => ?_)
    refine g_aload_n (dk D_X10_fit 17 rfl) rfl ?_
    refine g_getAt (t := 2) fl_RX10_12 rfl ht0 (dk D_X10_fit 18 rfl) (fun ht38 => ?_)
    refine g_iload_n (dk D_X10_fit 19 rfl) rfl ?_
    refine g_gd (fun hn39 => ?_)
    refine g_bind (fun q40 hq41 => ?_)
    refine h_callV (st := [vA (S0.1 a0 12)]) (c_X2_running (E := E) fu S0 I ((S0.1 a0 0) - 1) x1 q40 hq41 (ht38.nz hn39)) cl_RX10_235 ht38 hn39 rfl rfl (by decide) (Nat.le_of_ble_eq_true rfl) (dk D_X10_fit 20 rfl) ?_
    refine g_gd (fun hn43 => ?_)
    refine g_bind (fun q44 hq45 => ?_)
    refine h_callV (st := []) (c_X4_begin (E := E) fu S0 I ((S0.1 a0 12) - 1) q40 q44 hq45 (ht37.nz hn43)) cl_RX10_290 ht37 hn43 rfl rfl (by decide) (Nat.le_of_ble_eq_true rfl) (dk D_X10_fit 21 rfl) ?_
    refine g_iconst (v := (0 : Int32)) (dk D_X10_fit 22 rfl) rfl ?_
    refine g_istore_n (L' := [(0, vA (a0 + 1)), (1, vI x1), (2, vI x2), (3, vI (0 : Int32))]) (dk D_X10_fit 23 rfl) (Nat.le_of_ble_eq_true rfl) rfl ?_
    refine g_Lp [0, 2, 3] rfl ?_
    exact hl45 fu (0 : Int32) q44 trivial
  unfold f_X10_fit
  refine g_iload_n (dk D_X10_fit 0 rfl) rfl ?_
  refine h_callS (st := []) (c_X10_isDay (E := E) S0 I0 x1) cl_RX10_159 rfl rfl (by decide) (Nat.le_of_ble_eq_true rfl) (dk D_X10_fit 1 rfl) ?_
  refine g_if_ne (tgt := 10) (dk D_X10_fit 2 rfl) rfl (fun hc48 => ?_) (fun hc48 => ?_)
  · refine g_iload_n (dk D_X10_fit 5 rfl) rfl ?_
    refine g_iconst (v := ((-1) : Int32)) (dk D_X10_fit 6 rfl) rfl ?_
    refine g_icmp_eq (tgt := 28) (dk D_X10_fit 7 rfl) rfl (fun hc49 => ?_) (fun hc49 => ?_)
    · exact hj28 I0
    · refine g_aload_n (dk D_X10_fit 8 rfl) rfl ?_
      refine g_getAt (t := 2) fl_RX10_12 rfl ht0 (dk D_X10_fit 9 rfl) (fun ht50 => ?_)
      refine g_iload_n (dk D_X10_fit 10 rfl) rfl ?_
      refine g_gd (fun hn51 => ?_)
      refine g_bind (fun q52 hq53 => ?_)
      refine h_callVA (st := []) (c_X2_lineAt (E := E) fu S0 I0 ((S0.1 a0 0) - 1) x2 q52 hq53 (ht50.nz hn51)) rt_X2_lineAt cl_RX10_155 ht50 hn51 rfl rfl (by decide) (Nat.le_of_ble_eq_true rfl) (dk D_X10_fit 11 rfl) (fun ht54 => ?_)
      refine g_ifnonnull (tgt := 28) (dk D_X10_fit 12 rfl) rfl (fun hc55 => ?_) (fun hc55 => ?_)
      · exact hj28 I0
      · refine g_iconst (v := ((-1) : Int32)) (dk D_X10_fit 13 rfl) rfl ?_
        exact g_ireturn rfl rfl Sx.rf rfl (by decide) (by decide) (dk D_X10_fit 14 rfl)
  · refine g_bipush (v := ((-2) : Int32)) (dk D_X10_fit 3 rfl) rfl ?_
    exact g_ireturn rfl rfl Sx.rf rfl (by decide) (by decide) (dk D_X10_fit 4 rfl)
theorem c_X10_fit {E : EV} (fu : Nat) (S0 : Sk) (I0 : II) (a0 : Nat) (x1 : Int32) (x2 : Int32) (r : Int32 × II) (h : f_X10_fit fu S0 I0 a0 x1 x2 = some r) (ht0 : tyO S0 10 a0) : MX E yX10_fit i_X10_fit S0 I0 [vA (a0 + 1), vI x1, vI x2] (po_X10_fit S0 I0 r) :=
  MX.of h (by decide) rfl rfl (Nat.le_of_ble_eq_true rfl) (gg_X10_fit fu S0 I0 a0 x1 x2 ht0)
def tb_X10_driver : List (Nat × Instr × Nat) := [(0, .aload_n 0, 1), (1, .getfield 68, 3), (4, .bipush 6, 2), (6, .if_icmp .lt 6, 3), (9, .bipush (-4), 2), (11, .ireturn, 1), (12, .aload_n 0, 1), (13, .dup, 1), (14, .getfield 68, 3), (17, .iconst 1, 1), (18, .iadd, 1), (19, .putfield 68, 3), (22, .aload_n 0, 1), (23, .getfield 68, 3), (26, .iconst 1, 1), (27, .isub, 1), (28, .ireturn, 1)]
def i_X10_driver : MI := (RX10, cX10_driver, 1, (some .int), "driver", { frames := 0, cells := 0, slots := 0, locals := 0 })
theorem D_X10_driver : tbOK (i_X10_driver).2.1 tb_X10_driver := by show ∀ q ∈ tb_X10_driver, decode cX10_driver q.1 = .ok (q.2.1, q.2.2); decide +kernel
def po_X10_driver (S : Sk) (I : II) (r : Int32 × II) : Option LV × Sk × II := (some (vI r.1), S, r.2)
def f_X10_driver (fu : Nat) (S : Sk) (I : II) (a0 : Nat) : Option (Int32 × II) :=
  if (I a0 11) < (6 : Int32) then lt (upI I a0 11 ((I a0 11) + (1 : Int32))) fun I2 => (some ((((I2 a0 11) - (1 : Int32)), I2))) else some ((((-4) : Int32), I))
set_option maxRecDepth 100000 in
set_option maxHeartbeats 4000000 in
theorem gg_X10_driver {E : EV} (fu : Nat) (S0 : Sk) (I0 : II) (a0 : Nat) (ht0 : tyO S0 10 a0) : GG E i_X10_driver (enM E i_X10_driver S0 (po_X10_driver S0 I0)) S0 I0 (0, 0) 0 [(0, vA (a0 + 1))] [] (f_X10_driver fu S0 I0 a0) := by
  unfold f_X10_driver
  refine g_aload_n (dk D_X10_driver 0 rfl) rfl ?_
  refine g_getIt fl_RX10_68 (by decide) ht0 (dk D_X10_driver 1 rfl) ?_
  refine g_bipush (v := (6 : Int32)) (dk D_X10_driver 2 rfl) rfl ?_
  refine g_icmp_lt (tgt := 12) (dk D_X10_driver 3 rfl) rfl (fun hc1 => ?_) (fun hc1 => ?_)
  · refine g_aload_n (dk D_X10_driver 6 rfl) rfl ?_
    refine g_dup (dk D_X10_driver 7 rfl) rfl ?_
    refine g_getIt fl_RX10_68 (by decide) ht0 (dk D_X10_driver 8 rfl) ?_
    refine g_iconst (v := (1 : Int32)) (dk D_X10_driver 9 rfl) rfl ?_
    refine g_iadd (dk D_X10_driver 10 rfl) ?_
    refine g_putIt fl_RX10_68 fp_10_11 (fun h => (by cases h)) (by decide) rfl rfl ht0 (dk D_X10_driver 11 rfl) ?_
    refine g_ltI (fun I2 eI2 => ?_)
    refine g_aload_n (dk D_X10_driver 12 rfl) rfl ?_
    refine g_getIt fl_RX10_68 (by decide) ht0 (dk D_X10_driver 13 rfl) ?_
    refine g_iconst (v := (1 : Int32)) (dk D_X10_driver 14 rfl) rfl ?_
    refine g_isub (dk D_X10_driver 15 rfl) ?_
    exact g_ireturn rfl rfl Sx.rf rfl (by decide) (by decide) (dk D_X10_driver 16 rfl)
  · refine g_bipush (v := ((-4) : Int32)) (dk D_X10_driver 4 rfl) rfl ?_
    exact g_ireturn rfl rfl Sx.rf rfl (by decide) (by decide) (dk D_X10_driver 5 rfl)
theorem c_X10_driver {E : EV} (fu : Nat) (S0 : Sk) (I0 : II) (a0 : Nat) (r : Int32 × II) (h : f_X10_driver fu S0 I0 a0 = some r) (ht0 : tyO S0 10 a0) : MX E yX10_driver i_X10_driver S0 I0 [vA (a0 + 1)] (po_X10_driver S0 I0 r) :=
  MX.of h (by decide) rfl rfl (Nat.le_of_ble_eq_true rfl) (gg_X10_driver fu S0 I0 a0 ht0)
def tb_X10_know : List (Nat × Instr × Nat) := [(0, .iload_n 1, 1), (1, .ifCond .lt 22, 3), (4, .iload_n 1, 1), (5, .aload_n 0, 1), (6, .getfield 68, 3), (9, .if_icmp .ge 14, 3), (12, .aload_n 0, 1), (13, .getfield 12, 3), (16, .iload_n 2, 1), (17, .invokevirtual 155, 3), (20, .ifnonnull 5, 3), (23, .iconst (-1), 1), (24, .ireturn, 1), (25, .aload_n 0, 1), (26, .getfield 64, 3), (29, .iload_n 1, 1), (30, .iaload, 1), (31, .iload_n 2, 1), (32, .invokestatic 257, 3), (35, .iload_n 3, 1), (36, .if_icmp .ne 5, 3), (39, .iconst 0, 1), (40, .ireturn, 1), (41, .aload_n 0, 1), (42, .getfield 64, 3), (45, .iload_n 1, 1), (46, .dup2, 1), (47, .iaload, 1), (48, .iconst 1, 1), (49, .iload_n 2, 1), (50, .ishl, 1), (51, .ixor, 1), (52, .iastore, 1), (53, .iconst 1, 1), (54, .ireturn, 1)]
def i_X10_know : MI := (RX10, cX10_know, 4, (some .int), "know", { frames := 1, cells := 0, slots := 0, locals := 21 })
theorem D_X10_know : tbOK (i_X10_know).2.1 tb_X10_know := by show ∀ q ∈ tb_X10_know, decode cX10_know q.1 = .ok (q.2.1, q.2.2); decide +kernel
def po_X10_know (S : Sk) (I : II) (r : Int32 × II) : Option LV × Sk × II := (some (vI r.1), S, r.2)
def f_X10_know (fu : Nat) (S : Sk) (I : II) (a0 : Nat) (x1 : Int32) (x2 : Int32) (x3 : Int32) : Option (Int32 × II) :=
  if x1 < 0 then some ((((-1) : Int32), I)) else if (I a0 11) ≤ x1 then some ((((-1) : Int32), I)) else gd ((S.1 a0 0) ≠ 0) ((f_X2_lineAt fu S I ((S.1 a0 0) - 1) x2).bind fun q5 => (if q5 = 0 then some ((((-1) : Int32), I)) else gd (inb S (S.1 a0 10) x1) (if (t_X10_has (rd I (S.1 a0 10) x1) x2) = x3 then some (((0 : Int32), I)) else lt (wr I (S.1 a0 10) x1 ((rd I (S.1 a0 10) x1) ^^^ ((1 : Int32) <<< (x2 &&& 31)))) fun I14 => (some (((1 : Int32), I14))))))
set_option maxRecDepth 100000 in
set_option maxHeartbeats 4000000 in
theorem gg_X10_know {E : EV} (fu : Nat) (S0 : Sk) (I0 : II) (a0 : Nat) (x1 : Int32) (x2 : Int32) (x3 : Int32) (ht0 : tyO S0 10 a0) : GG E i_X10_know (enM E i_X10_know S0 (po_X10_know S0 I0)) S0 I0 (0, 0) 0 [(0, vA (a0 + 1)), (1, vI x1), (2, vI x2), (3, vI x3)] [] (f_X10_know fu S0 I0 a0 x1 x2 x3) := by
  unfold f_X10_know
  refine g_iload_n (dk D_X10_know 0 rfl) rfl ?_
  refine g_if_lt (tgt := 23) (dk D_X10_know 1 rfl) rfl (fun hc1 => ?_) (fun hc1 => ?_)
  · refine g_iconst (v := ((-1) : Int32)) (dk D_X10_know 11 rfl) rfl ?_
    exact g_ireturn rfl rfl Sx.rf rfl (by decide) (by decide) (dk D_X10_know 12 rfl)
  · refine g_iload_n (dk D_X10_know 2 rfl) rfl ?_
    refine g_aload_n (dk D_X10_know 3 rfl) rfl ?_
    refine g_getIt fl_RX10_68 (by decide) ht0 (dk D_X10_know 4 rfl) ?_
    refine g_icmp_ge (tgt := 23) (dk D_X10_know 5 rfl) rfl (fun hc2 => ?_) (fun hc2 => ?_)
    · refine g_iconst (v := ((-1) : Int32)) (dk D_X10_know 11 rfl) rfl ?_
      exact g_ireturn rfl rfl Sx.rf rfl (by decide) (by decide) (dk D_X10_know 12 rfl)
    · refine g_aload_n (dk D_X10_know 6 rfl) rfl ?_
      refine g_getAt (t := 2) fl_RX10_12 rfl ht0 (dk D_X10_know 7 rfl) (fun ht3 => ?_)
      refine g_iload_n (dk D_X10_know 8 rfl) rfl ?_
      refine g_gd (fun hn4 => ?_)
      refine g_bind (fun q5 hq6 => ?_)
      refine h_callVA (st := []) (c_X2_lineAt (E := E) fu S0 I0 ((S0.1 a0 0) - 1) x2 q5 hq6 (ht3.nz hn4)) rt_X2_lineAt cl_RX10_155 ht3 hn4 rfl rfl (by decide) (Nat.le_of_ble_eq_true rfl) (dk D_X10_know 9 rfl) (fun ht7 => ?_)
      refine g_ifnonnull (tgt := 25) (dk D_X10_know 10 rfl) rfl (fun hc8 => ?_) (fun hc8 => ?_)
      · refine g_aload_n (dk D_X10_know 13 rfl) rfl ?_
        refine g_getAt (t := 100) fl_RX10_64 rfl ht0 (dk D_X10_know 14 rfl) (fun ht9 => ?_)
        refine g_iload_n (dk D_X10_know 15 rfl) rfl ?_
        refine g_gd (fun hi10 => ?_)
        refine g_iaload ht9 hi10 (dk D_X10_know 16 rfl) ?_
        refine g_iload_n (dk D_X10_know 17 rfl) rfl ?_
        refine h_callS (st := []) (c_X10_has (E := E) S0 I0 (rd I0 (S0.1 a0 10) x1) x2) cl_RX10_257 rfl rfl (by decide) (Nat.le_of_ble_eq_true rfl) (dk D_X10_know 18 rfl) ?_
        refine g_iload_n (dk D_X10_know 19 rfl) rfl ?_
        refine g_icmp_ne (tgt := 41) (dk D_X10_know 20 rfl) rfl (fun hc12 => ?_) (fun hc12 => ?_)
        · refine g_aload_n (dk D_X10_know 23 rfl) rfl ?_
          refine g_getAt (t := 100) fl_RX10_64 rfl ht0 (dk D_X10_know 24 rfl) (fun ht13 => ?_)
          refine g_iload_n (dk D_X10_know 25 rfl) rfl ?_
          refine g_dup2 (dk D_X10_know 26 rfl) rfl rfl ?_
          refine g_iaload ht9 hi10 (dk D_X10_know 27 rfl) ?_
          refine g_iconst (v := (1 : Int32)) (dk D_X10_know 28 rfl) rfl ?_
          refine g_iload_n (dk D_X10_know 29 rfl) rfl ?_
          refine g_ishl (dk D_X10_know 30 rfl) ?_
          refine g_ixor (dk D_X10_know 31 rfl) ?_
          refine g_iastore ht9 hi10 (dk D_X10_know 32 rfl) ?_
          refine g_ltI (fun I14 eI14 => ?_)
          refine g_iconst (v := (1 : Int32)) (dk D_X10_know 33 rfl) rfl ?_
          exact g_ireturn rfl rfl Sx.rf rfl (by decide) (by decide) (dk D_X10_know 34 rfl)
        · refine g_iconst (v := (0 : Int32)) (dk D_X10_know 21 rfl) rfl ?_
          exact g_ireturn rfl rfl Sx.rf rfl (by decide) (by decide) (dk D_X10_know 22 rfl)
      · refine g_iconst (v := ((-1) : Int32)) (dk D_X10_know 11 rfl) rfl ?_
        exact g_ireturn rfl rfl Sx.rf rfl (by decide) (by decide) (dk D_X10_know 12 rfl)
theorem c_X10_know {E : EV} (fu : Nat) (S0 : Sk) (I0 : II) (a0 : Nat) (x1 : Int32) (x2 : Int32) (x3 : Int32) (r : Int32 × II) (h : f_X10_know fu S0 I0 a0 x1 x2 x3 = some r) (ht0 : tyO S0 10 a0) : MX E yX10_know i_X10_know S0 I0 [vA (a0 + 1), vI x1, vI x2, vI x3] (po_X10_know S0 I0 r) :=
  MX.of h (by decide) rfl rfl (Nat.le_of_ble_eq_true rfl) (gg_X10_know fu S0 I0 a0 x1 x2 x3 ht0)
def tb_X10_roster : List (Nat × Instr × Nat) := [(0, .iload_n 1, 1), (1, .invokestatic 159, 3), (4, .ifCond .ne 6, 3), (7, .bipush (-2), 2), (9, .ireturn, 1), (10, .iload_n 2, 1), (11, .iconst (-1), 1), (12, .if_icmp .eq 16, 3), (15, .aload_n 0, 1), (16, .getfield 12, 3), (19, .iload_n 2, 1), (20, .invokevirtual 155, 3), (23, .ifnonnull 5, 3), (26, .iconst (-1), 1), (27, .ireturn, 1), (28, .aload_n 0, 1), (29, .getfield 74, 3), (32, .aload_n 0, 1), (33, .getfield 12, 3), (36, .iload_n 1, 1), (37, .invokevirtual 235, 3), (40, .invokevirtual 290, 3), (43, .iconst 0, 1), (44, .istore_n 3, 1), (45, .iload_n 3, 1), (46, .aload_n 0, 1), (47, .getfield 68, 3), (50, .if_icmp .ge 91, 3), (53, .aload_n 0, 1), (54, .getfield 74, 3), (57, .iconst 1, 1), (58, .invokevirtual 297, 3), (61, .iconst 0, 1), (62, .istore 4, 2), (64, .iload 4, 2), (66, .aload_n 0, 1), (67, .getfield 74, 3), (70, .getfield 300, 3), (73, .if_icmp .ge 62, 3), (76, .aload_n 0, 1), (77, .getfield 74, 3), (80, .getfield 306, 3), (83, .iload 4, 2), (85, .iaload, 1), (86, .istore 5, 2), (88, .aload_n 0, 1), (89, .getfield 74, 3), (92, .iload 4, 2), (94, .iload_n 3, 1), (95, .aload_n 0, 1), (96, .getfield 64, 3), (99, .iload_n 3, 1), (100, .iaload, 1), (101, .iload 5, 2), (103, .invokestatic 257, 3), (106, .ifCond .eq 7, 3), (109, .iconst 0, 1), (110, .goto 16, 3), (113, .aload_n 0, 1), (114, .getfield 12, 3), (117, .getfield 303, 3), (120, .iload 5, 2), (122, .aaload, 1), (123, .getfield 171, 3), (126, .invokevirtual 308, 3), (129, .iinc 4 1, 3), (132, .goto (-68), 3), (135, .iinc 3 1, 3), (138, .goto (-93), 3), (141, .aload_n 0, 1), (142, .getfield 74, 3), (145, .iload_n 2, 1), (146, .invokevirtual 311, 3), (149, .ireturn, 1)]
def i_X10_roster : MI := (RX10, cX10_roster, 6, (some .int), "roster", { frames := 26, cells := 0, slots := 0, locals := 620 })
theorem D_X10_roster : tbOK (i_X10_roster).2.1 tb_X10_roster := by show ∀ q ∈ tb_X10_roster, decode cX10_roster q.1 = .ok (q.2.1, q.2.2); decide +kernel
def po_X10_roster (S : Sk) (I : II) (r : Int32 × II) : Option LV × Sk × II := (some (vI r.1), S, r.2)
def jn_X10_roster_126 (fu : Nat) (S : Sk) (I : II) (self45 : Int32 → II → Option (Int32 × II)) (self64 : Int32 → II → Option (Int32 × II)) (a0 : Nat) (x2 : Int32) (x3 : Int32) (x4 : Int32) (q0 : Nat) (s1 : Int32) (s2 : Int32) (s3 : Int32) : Option (Int32 × II) :=
  gd (q0 ≠ 0) ((f_X4_setCost fu S I (q0 - 1) s1 s2 s3).bind fun q2 => (self64 (x4 + (1 : Int32)) q2))
def lp_X10_roster_64 (fu : Nat) (S : Sk) (self45 : Int32 → II → Option (Int32 × II)) (a0 : Nat) (x2 : Int32) (x3 : Int32) (self64 : Int32 → II → Option (Int32 × II)) (x4 : Int32) (I : II) : Option (Int32 × II) :=
  gd ((S.1 a0 12) ≠ 0) (if (I ((S.1 a0 12) - 1) 1) ≤ x4 then self45 (x3 + (1 : Int32)) I else gd (inb S (S.1 ((S.1 a0 12) - 1) 0) x4) (lt (rd I (S.1 ((S.1 a0 12) - 1) 0) x4) fun x5_11 => (gd (inb S (S.1 a0 10) x3) (if (t_X10_has (rd I (S.1 a0 10) x3) x5_11) = 0 then gd ((S.1 a0 0) ≠ 0) (gd (inb S (S.1 ((S.1 a0 0) - 1) 4) x5_11) (gd ((S.1 ((S.1 ((S.1 a0 0) - 1) 4) - 1) (nx x5_11)) ≠ 0) (jn_X10_roster_126 fu S I self45 self64 a0 x2 x3 x4 (S.1 a0 12) x4 x3 (I ((S.1 ((S.1 ((S.1 a0 0) - 1) 4) - 1) (nx x5_11)) - 1) 5)))) else jn_X10_roster_126 fu S I self45 self64 a0 x2 x3 x4 (S.1 a0 12) x4 x3 (0 : Int32)))))
def lp_X10_roster_45 (fu : Nat) (S : Sk) (a0 : Nat) (x2 : Int32) (self45 : Int32 → II → Option (Int32 × II)) (x3 : Int32) (I : II) : Option (Int32 × II) :=
  if (I a0 11) ≤ x3 then gd ((S.1 a0 12) ≠ 0) ((f_X4_answer fu S I ((S.1 a0 12) - 1) x2).bind fun q26 => (some ((q26.1, q26.2)))) else gd ((S.1 a0 12) ≠ 0) ((f_X4_addPlace fu S I ((S.1 a0 12) - 1) (1 : Int32)).bind fun q31 => (fix2 (lp_X10_roster_64 fu S self45 a0 x2 x3) fu (0 : Int32) q31))
def jn_X10_roster_28 (fu : Nat) (S : Sk) (I : II) (a0 : Nat) (x1 : Int32) (x2 : Int32) : Option (Int32 × II) :=
  gd ((S.1 a0 0) ≠ 0) ((f_X2_running fu S I ((S.1 a0 0) - 1) x1).bind fun q37 => (gd ((S.1 a0 12) ≠ 0) ((f_X4_begin fu S I ((S.1 a0 12) - 1) q37).bind fun q41 => (fix2 (lp_X10_roster_45 fu S a0 x2) fu (0 : Int32) q41))))
def f_X10_roster (fu : Nat) (S : Sk) (I : II) (a0 : Nat) (x1 : Int32) (x2 : Int32) : Option (Int32 × II) :=
  if (t_X10_isDay x1) = 0 then some ((((-2) : Int32), I)) else if x2 = ((-1) : Int32) then jn_X10_roster_28 fu S I a0 x1 x2 else gd ((S.1 a0 0) ≠ 0) ((f_X2_lineAt fu S I ((S.1 a0 0) - 1) x2).bind fun q49 => (if q49 = 0 then some ((((-1) : Int32), I)) else jn_X10_roster_28 fu S I a0 x1 x2))
set_option maxRecDepth 100000 in
set_option maxHeartbeats 4000000 in
theorem gg_X10_roster {E : EV} (fu : Nat) (S0 : Sk) (I0 : II) (a0 : Nat) (x1 : Int32) (x2 : Int32) (ht0 : tyO S0 10 a0) : GG E i_X10_roster (enM E i_X10_roster S0 (po_X10_roster S0 I0)) S0 I0 (0, 0) 0 [(0, vA (a0 + 1)), (1, vI x1), (2, vI x2)] [] (f_X10_roster fu S0 I0 a0 x1 x2) := by
  have hl45 : ∀ (nn : Nat) (x3 : Int32) (I : II), True → GG E i_X10_roster (enM E i_X10_roster S0 (po_X10_roster S0 I0)) S0 I (0, 0) 45 [(0, vA (a0 + 1)), (2, vI x2), (3, vI x3)] [] (fix2 (lp_X10_roster_45 fu S0 a0 x2) nn x3 I) := by
    refine g_fix2 (fun _ _ => S0) (fun x3 I => I) (fun x3 I => [(0, vA (a0 + 1)), (2, vI x2), (3, vI x3)]) (fun x3 I => True) ?_
    intro self45 hself45 x3 I hinv
    have hl64 : ∀ (x3 : Int32) (nn : Nat) (x4 : Int32) (I : II), True → GG E i_X10_roster (enM E i_X10_roster S0 (po_X10_roster S0 I0)) S0 I (0, 0) 64 [(0, vA (a0 + 1)), (2, vI x2), (3, vI x3), (4, vI x4)] [] (fix2 (lp_X10_roster_64 fu S0 self45 a0 x2 x3) nn x4 I) := by
      intro x3 
      refine g_fix2 (fun _ _ => S0) (fun x4 I => I) (fun x4 I => [(0, vA (a0 + 1)), (2, vI x2), (3, vI x3), (4, vI x4)]) (fun x4 I => True) ?_
      intro self64 hself64 x4 I hinv
      have hj126 : ∀ (I : II) (x4 : Int32) (q0 : Nat) (s1 : Int32) (s2 : Int32) (s3 : Int32) (h_q0 : tyR S0 4 q0), GG E i_X10_roster (enM E i_X10_roster S0 (po_X10_roster S0 I0)) S0 I (0, 0) 126 [(0, vA (a0 + 1)), (2, vI x2), (3, vI x3), (4, vI x4)] [vI s3, vI s2, vI s1, vA q0] (jn_X10_roster_126 fu S0 I self45 self64 a0 x2 x3 x4 q0 s1 s2 s3) := by
        intro I x4 q0 s1 s2 s3 h_q0
        unfold jn_X10_roster_126
        refine g_gd (fun hn1 => ?_)
        refine g_bind (fun q2 hq3 => ?_)
        refine h_callV (st := []) (c_X4_setCost (E := E) fu S0 I (q0 - 1) s1 s2 s3 q2 hq3 (h_q0.nz hn1)) cl_RX10_308 h_q0 hn1 rfl rfl (by decide) (Nat.le_of_ble_eq_true rfl) (dk D_X10_roster 64 rfl) ?_
        refine g_iinc (v := (1 : Int32)) (L' := [(0, vA (a0 + 1)), (2, vI x2), (3, vI x3), (4, vI (x4 + (1 : Int32)))]) (dk D_X10_roster 65 rfl) rfl rfl (Nat.le_of_ble_eq_true rfl) rfl ?_
        refine g_goto (tgt := 64) (dk D_X10_roster 66 rfl) rfl ?_
        exact hself64 (x4 + (1 : Int32)) q2 trivial
      unfold lp_X10_roster_64
      refine g_iload (dk D_X10_roster 34 rfl) rfl ?_
      refine g_aload_n (dk D_X10_roster 35 rfl) rfl ?_
      refine g_getAt (t := 4) fl_RX10_74 rfl ht0 (dk D_X10_roster 36 rfl) (fun ht5 => ?_)
      refine g_gd (fun hn6 => ?_)
      refine g_getI fl_RX10_300 (by decide) ht5 hn6 (dk D_X10_roster 37 rfl) ?_
      refine g_icmp_ge (tgt := 135) (dk D_X10_roster 38 rfl) rfl (fun hc7 => ?_) (fun hc7 => ?_)
      · refine g_iinc (v := (1 : Int32)) (L' := [(0, vA (a0 + 1)), (2, vI x2), (3, vI (x3 + (1 : Int32))), (4, vI x4)]) (dk D_X10_roster 67 rfl) rfl rfl (Nat.le_of_ble_eq_true rfl) rfl ?_
        refine g_goto (tgt := 45) (dk D_X10_roster 68 rfl) rfl ?_
        refine g_Lp [0, 1, 2] rfl ?_
        exact hself45 (x3 + (1 : Int32)) I trivial
      · refine g_aload_n (dk D_X10_roster 39 rfl) rfl ?_
        refine g_getAt (t := 4) fl_RX10_74 rfl ht0 (dk D_X10_roster 40 rfl) (fun ht8 => ?_)
        refine g_getA (t := 100) fl_RX10_306 rfl ht5 hn6 (dk D_X10_roster 41 rfl) (fun ht9 => ?_)
        refine g_iload (dk D_X10_roster 42 rfl) rfl ?_
        refine g_gd (fun hi10 => ?_)
        refine g_iaload ht9 hi10 (dk D_X10_roster 43 rfl) ?_
        refine g_ltV (fun x5_11 ex5_11 => ?_)
        refine g_istore (L' := [(0, vA (a0 + 1)), (2, vI x2), (3, vI x3), (4, vI x4), (5, vI x5_11)]) (dk D_X10_roster 44 rfl) (Nat.le_of_ble_eq_true rfl) rfl ?_
        refine g_aload_n (dk D_X10_roster 45 rfl) rfl ?_
        refine g_getAt (t := 4) fl_RX10_74 rfl ht0 (dk D_X10_roster 46 rfl) (fun ht12 => ?_)
        refine g_iload (dk D_X10_roster 47 rfl) rfl ?_
        refine g_iload_n (dk D_X10_roster 48 rfl) rfl ?_
        refine g_aload_n (dk D_X10_roster 49 rfl) rfl ?_
        refine g_getAt (t := 100) fl_RX10_64 rfl ht0 (dk D_X10_roster 50 rfl) (fun ht13 => ?_)
        refine g_iload_n (dk D_X10_roster 51 rfl) rfl ?_
        refine g_gd (fun hi14 => ?_)
        refine g_iaload ht13 hi14 (dk D_X10_roster 52 rfl) ?_
        refine g_iload (dk D_X10_roster 53 rfl) rfl ?_
        refine h_callS (st := [vI x3, vI x4, vA (S0.1 a0 12)]) (c_X10_has (E := E) S0 I (rd I (S0.1 a0 10) x3) x5_11) cl_RX10_257 rfl rfl (by decide) (Nat.le_of_ble_eq_true rfl) (dk D_X10_roster 54 rfl) ?_
        refine g_if_eq (tgt := 113) (dk D_X10_roster 55 rfl) rfl (fun hc16 => ?_) (fun hc16 => ?_)
        · refine g_aload_n (dk D_X10_roster 58 rfl) rfl ?_
          refine g_getAt (t := 2) fl_RX10_12 rfl ht0 (dk D_X10_roster 59 rfl) (fun ht17 => ?_)
          refine g_gd (fun hn19 => ?_)
          refine g_getA (t := 111) fl_RX10_303 rfl ht17 hn19 (dk D_X10_roster 60 rfl) (fun ht18 => ?_)
          refine g_iload (dk D_X10_roster 61 rfl) rfl ?_
          refine g_gd (fun hi20 => ?_)
          refine g_aaload (c0 := 1) (by unfold aoC; decide) ht18 hi20 (dk D_X10_roster 62 rfl) (fun ht21 => ?_)
          refine g_gd (fun hn22 => ?_)
          refine g_getI fl_RX10_171 (by decide) ht21 hn22 (dk D_X10_roster 63 rfl) ?_
          refine g_Lp [0, 1, 2, 3] rfl ?_
          exact hj126 I x4 (S0.1 a0 12) x4 x3 (I ((S0.1 ((S0.1 ((S0.1 a0 0) - 1) 4) - 1) (nx x5_11)) - 1) 5) ht5
        · refine g_iconst (v := (0 : Int32)) (dk D_X10_roster 56 rfl) rfl ?_
          refine g_goto (tgt := 126) (dk D_X10_roster 57 rfl) rfl ?_
          refine g_Lp [0, 1, 2, 3] rfl ?_
          exact hj126 I x4 (S0.1 a0 12) x4 x3 (0 : Int32) ht5
    unfold lp_X10_roster_45
    refine g_iload_n (dk D_X10_roster 24 rfl) rfl ?_
    refine g_aload_n (dk D_X10_roster 25 rfl) rfl ?_
    refine g_getIt fl_RX10_68 (by decide) ht0 (dk D_X10_roster 26 rfl) ?_
    refine g_icmp_ge (tgt := 141) (dk D_X10_roster 27 rfl) rfl (fun hc23 => ?_) (fun hc23 => ?_)
    · refine g_aload_n (dk D_X10_roster 69 rfl) rfl ?_
      refine g_getAt (t := 4) fl_RX10_74 rfl ht0 (dk D_X10_roster 70 rfl) (fun ht24 => ?_)
      refine g_iload_n (dk D_X10_roster 71 rfl) rfl ?_
      refine g_gd (fun hn25 => ?_)
      refine g_bind (fun q26 hq27 => ?_)
      refine h_callV (st := []) (c_X4_answer (E := E) fu S0 I ((S0.1 a0 12) - 1) x2 q26 hq27 (ht24.nz hn25)) cl_RX10_311 ht24 hn25 rfl rfl (by decide) (Nat.le_of_ble_eq_true rfl) (dk D_X10_roster 72 rfl) ?_
      exact g_ireturn rfl rfl Sx.rf rfl (by decide) (by decide) (dk D_X10_roster 73 rfl)
    · refine g_aload_n (dk D_X10_roster 28 rfl) rfl ?_
      refine g_getAt (t := 4) fl_RX10_74 rfl ht0 (dk D_X10_roster 29 rfl) (fun ht29 => ?_)
      refine g_iconst (v := (1 : Int32)) (dk D_X10_roster 30 rfl) rfl ?_
      refine g_gd (fun hn30 => ?_)
      refine g_bind (fun q31 hq32 => ?_)
      refine h_callV (st := []) (c_X4_addPlace (E := E) fu S0 I ((S0.1 a0 12) - 1) (1 : Int32) q31 hq32 (ht29.nz hn30)) cl_RX10_297 ht29 hn30 rfl rfl (by decide) (Nat.le_of_ble_eq_true rfl) (dk D_X10_roster 31 rfl) ?_
      refine g_iconst (v := (0 : Int32)) (dk D_X10_roster 32 rfl) rfl ?_
      refine g_istore (L' := [(0, vA (a0 + 1)), (2, vI x2), (3, vI x3), (4, vI (0 : Int32))]) (dk D_X10_roster 33 rfl) (Nat.le_of_ble_eq_true rfl) rfl ?_
      exact hl64 x3 fu (0 : Int32) q31 trivial
  have hj28 : ∀ (I : II), GG E i_X10_roster (enM E i_X10_roster S0 (po_X10_roster S0 I0)) S0 I (0, 0) 28 [(0, vA (a0 + 1)), (1, vI x1), (2, vI x2)] [] (jn_X10_roster_28 fu S0 I a0 x1 x2) := by
    intro I  
    unfold jn_X10_roster_28
    refine g_aload_n (dk D_X10_roster 15 rfl) rfl ?_
    refine g_getAt (t := 4) fl_RX10_74 rfl ht0 (dk D_X10_roster 16 rfl) (fun ht34 => ?_)
    refine g_aload_n (dk D_X10_roster 17 rfl) rfl ?_
    refine g_getAt (t := 2) fl_RX10_12 rfl ht0 (dk D_X10_roster 18 rfl) (fun ht35 => ?_)
    refine g_iload_n (dk D_X10_roster 19 rfl) rfl ?_
    refine g_gd (fun hn36 => ?_)
    refine g_bind (fun q37 hq38 => ?_)
    refine h_callV (st := [vA (S0.1 a0 12)]) (c_X2_running (E := E) fu S0 I ((S0.1 a0 0) - 1) x1 q37 hq38 (ht35.nz hn36)) cl_RX10_235 ht35 hn36 rfl rfl (by decide) (Nat.le_of_ble_eq_true rfl) (dk D_X10_roster 20 rfl) ?_
    refine g_gd (fun hn40 => ?_)
    refine g_bind (fun q41 hq42 => ?_)
    refine h_callV (st := []) (c_X4_begin (E := E) fu S0 I ((S0.1 a0 12) - 1) q37 q41 hq42 (ht34.nz hn40)) cl_RX10_290 ht34 hn40 rfl rfl (by decide) (Nat.le_of_ble_eq_true rfl) (dk D_X10_roster 21 rfl) ?_
    refine g_iconst (v := (0 : Int32)) (dk D_X10_roster 22 rfl) rfl ?_
    refine g_istore_n (L' := [(0, vA (a0 + 1)), (1, vI x1), (2, vI x2), (3, vI (0 : Int32))]) (dk D_X10_roster 23 rfl) (Nat.le_of_ble_eq_true rfl) rfl ?_
    refine g_Lp [0, 2, 3] rfl ?_
    exact hl45 fu (0 : Int32) q41 trivial
  unfold f_X10_roster
  refine g_iload_n (dk D_X10_roster 0 rfl) rfl ?_
  refine h_callS (st := []) (c_X10_isDay (E := E) S0 I0 x1) cl_RX10_159 rfl rfl (by decide) (Nat.le_of_ble_eq_true rfl) (dk D_X10_roster 1 rfl) ?_
  refine g_if_ne (tgt := 10) (dk D_X10_roster 2 rfl) rfl (fun hc45 => ?_) (fun hc45 => ?_)
  · refine g_iload_n (dk D_X10_roster 5 rfl) rfl ?_
    refine g_iconst (v := ((-1) : Int32)) (dk D_X10_roster 6 rfl) rfl ?_
    refine g_icmp_eq (tgt := 28) (dk D_X10_roster 7 rfl) rfl (fun hc46 => ?_) (fun hc46 => ?_)
    · exact hj28 I0
    · refine g_aload_n (dk D_X10_roster 8 rfl) rfl ?_
      refine g_getAt (t := 2) fl_RX10_12 rfl ht0 (dk D_X10_roster 9 rfl) (fun ht47 => ?_)
      refine g_iload_n (dk D_X10_roster 10 rfl) rfl ?_
      refine g_gd (fun hn48 => ?_)
      refine g_bind (fun q49 hq50 => ?_)
      refine h_callVA (st := []) (c_X2_lineAt (E := E) fu S0 I0 ((S0.1 a0 0) - 1) x2 q49 hq50 (ht47.nz hn48)) rt_X2_lineAt cl_RX10_155 ht47 hn48 rfl rfl (by decide) (Nat.le_of_ble_eq_true rfl) (dk D_X10_roster 11 rfl) (fun ht51 => ?_)
      refine g_ifnonnull (tgt := 28) (dk D_X10_roster 12 rfl) rfl (fun hc52 => ?_) (fun hc52 => ?_)
      · exact hj28 I0
      · refine g_iconst (v := ((-1) : Int32)) (dk D_X10_roster 13 rfl) rfl ?_
        exact g_ireturn rfl rfl Sx.rf rfl (by decide) (by decide) (dk D_X10_roster 14 rfl)
  · refine g_bipush (v := ((-2) : Int32)) (dk D_X10_roster 3 rfl) rfl ?_
    exact g_ireturn rfl rfl Sx.rf rfl (by decide) (by decide) (dk D_X10_roster 4 rfl)
theorem c_X10_roster {E : EV} (fu : Nat) (S0 : Sk) (I0 : II) (a0 : Nat) (x1 : Int32) (x2 : Int32) (r : Int32 × II) (h : f_X10_roster fu S0 I0 a0 x1 x2 = some r) (ht0 : tyO S0 10 a0) : MX E yX10_roster i_X10_roster S0 I0 [vA (a0 + 1), vI x1, vI x2] (po_X10_roster S0 I0 r) :=
  MX.of h (by decide) rfl rfl (Nat.le_of_ble_eq_true rfl) (gg_X10_roster fu S0 I0 a0 x1 x2 ht0)
theorem cl_RX10_314 : CS0 RX10 314 yJ6_bitCount_0f7a4 i_J6_bitCount_0f7a4 1 := ⟨⟨(gm 846 (by decide +kernel) (by decide +kernel)), (gm 81 (by decide +kernel) (by decide +kernel)), (gm 794 (by decide +kernel) (by decide +kernel)), by decide +kernel, by decide +kernel, by decide +kernel⟩, (gm 793 (by decide +kernel) (by decide +kernel))⟩
def tb_X10_board : List (Nat × Instr × Nat) := [(0, .aload_n 0, 1), (1, .getfield 12, 3), (4, .iload_n 1, 1), (5, .invokevirtual 206, 3), (8, .ifCond .ne 5, 3), (11, .iconst (-1), 1), (12, .ireturn, 1), (13, .aload_n 0, 1), (14, .getfield 78, 3), (17, .iload_n 1, 1), (18, .invokestatic 257, 3), (21, .iload_n 2, 1), (22, .if_icmp .ne 5, 3), (25, .iconst 0, 1), (26, .ireturn, 1), (27, .iload_n 2, 1), (28, .ifCond .eq 18, 3), (31, .aload_n 0, 1), (32, .getfield 78, 3), (35, .invokestatic 314, 3), (38, .bipush 6, 2), (40, .if_icmp .lt 6, 3), (43, .bipush (-4), 2), (45, .ireturn, 1), (46, .aload_n 0, 1), (47, .dup, 1), (48, .getfield 78, 3), (51, .iconst 1, 1), (52, .iload_n 1, 1), (53, .ishl, 1), (54, .ixor, 1), (55, .putfield 78, 3), (58, .iconst 1, 1), (59, .ireturn, 1)]
def i_X10_board : MI := (RX10, cX10_board, 3, (some .int), "board", { frames := 1, cells := 0, slots := 0, locals := 21 })
theorem D_X10_board : tbOK (i_X10_board).2.1 tb_X10_board := by show ∀ q ∈ tb_X10_board, decode cX10_board q.1 = .ok (q.2.1, q.2.2); decide +kernel
def po_X10_board (S : Sk) (I : II) (r : Int32 × II) : Option LV × Sk × II := (some (vI r.1), S, r.2)
def jn_X10_board_46 (fu : Nat) (S : Sk) (I : II) (a0 : Nat) (x1 : Int32) : Option (Int32 × II) :=
  lt (upI I a0 13 ((I a0 13) ^^^ ((1 : Int32) <<< (x1 &&& 31)))) fun I1 => (some (((1 : Int32), I1)))
def f_X10_board (fu : Nat) (S : Sk) (I : II) (a0 : Nat) (x1 : Int32) (x2 : Int32) : Option (Int32 × II) :=
  gd ((S.1 a0 0) ≠ 0) (if (t_X2_hasStop I ((S.1 a0 0) - 1) x1) = 0 then some ((((-1) : Int32), I)) else if (t_X10_has (I a0 13) x1) = x2 then some (((0 : Int32), I)) else if x2 = 0 then jn_X10_board_46 fu S I a0 x1 else if (t_J6_bitCount_0f7a4 (I a0 13)) < (6 : Int32) then jn_X10_board_46 fu S I a0 x1 else some ((((-4) : Int32), I)))
set_option maxRecDepth 100000 in
set_option maxHeartbeats 4000000 in
theorem gg_X10_board {E : EV} (fu : Nat) (S0 : Sk) (I0 : II) (a0 : Nat) (x1 : Int32) (x2 : Int32) (ht0 : tyO S0 10 a0) : GG E i_X10_board (enM E i_X10_board S0 (po_X10_board S0 I0)) S0 I0 (0, 0) 0 [(0, vA (a0 + 1)), (1, vI x1), (2, vI x2)] [] (f_X10_board fu S0 I0 a0 x1 x2) := by
  have hj46 : ∀ (I : II), GG E i_X10_board (enM E i_X10_board S0 (po_X10_board S0 I0)) S0 I (0, 0) 46 [(0, vA (a0 + 1)), (1, vI x1)] [] (jn_X10_board_46 fu S0 I a0 x1) := by
    intro I  
    unfold jn_X10_board_46
    refine g_aload_n (dk D_X10_board 24 rfl) rfl ?_
    refine g_dup (dk D_X10_board 25 rfl) rfl ?_
    refine g_getIt fl_RX10_78 (by decide) ht0 (dk D_X10_board 26 rfl) ?_
    refine g_iconst (v := (1 : Int32)) (dk D_X10_board 27 rfl) rfl ?_
    refine g_iload_n (dk D_X10_board 28 rfl) rfl ?_
    refine g_ishl (dk D_X10_board 29 rfl) ?_
    refine g_ixor (dk D_X10_board 30 rfl) ?_
    refine g_putIt fl_RX10_78 fp_10_13 (fun h => (by cases h)) (by decide) rfl rfl ht0 (dk D_X10_board 31 rfl) ?_
    refine g_ltI (fun I1 eI1 => ?_)
    refine g_iconst (v := (1 : Int32)) (dk D_X10_board 32 rfl) rfl ?_
    exact g_ireturn rfl rfl Sx.rf rfl (by decide) (by decide) (dk D_X10_board 33 rfl)
  unfold f_X10_board
  refine g_aload_n (dk D_X10_board 0 rfl) rfl ?_
  refine g_getAt (t := 2) fl_RX10_12 rfl ht0 (dk D_X10_board 1 rfl) (fun ht2 => ?_)
  refine g_iload_n (dk D_X10_board 2 rfl) rfl ?_
  refine g_gd (fun hn3 => ?_)
  refine h_callV (st := []) (c_X2_hasStop (E := E) S0 I0 ((S0.1 a0 0) - 1) x1 (ht2.nz hn3)) cl_RX10_206 ht2 hn3 rfl rfl (by decide) (Nat.le_of_ble_eq_true rfl) (dk D_X10_board 3 rfl) ?_
  refine g_if_ne (tgt := 13) (dk D_X10_board 4 rfl) rfl (fun hc5 => ?_) (fun hc5 => ?_)
  · refine g_aload_n (dk D_X10_board 7 rfl) rfl ?_
    refine g_getIt fl_RX10_78 (by decide) ht0 (dk D_X10_board 8 rfl) ?_
    refine g_iload_n (dk D_X10_board 9 rfl) rfl ?_
    refine h_callS (st := []) (c_X10_has (E := E) S0 I0 (I0 a0 13) x1) cl_RX10_257 rfl rfl (by decide) (Nat.le_of_ble_eq_true rfl) (dk D_X10_board 10 rfl) ?_
    refine g_iload_n (dk D_X10_board 11 rfl) rfl ?_
    refine g_icmp_ne (tgt := 27) (dk D_X10_board 12 rfl) rfl (fun hc7 => ?_) (fun hc7 => ?_)
    · refine g_iload_n (dk D_X10_board 15 rfl) rfl ?_
      refine g_if_eq (tgt := 46) (dk D_X10_board 16 rfl) rfl (fun hc8 => ?_) (fun hc8 => ?_)
      · refine g_Lp [0, 1] rfl ?_
        exact hj46 I0
      · refine g_aload_n (dk D_X10_board 17 rfl) rfl ?_
        refine g_getIt fl_RX10_78 (by decide) ht0 (dk D_X10_board 18 rfl) ?_
        refine h_callS (st := []) (c_J6_bitCount_0f7a4 (E := E) S0 I0 (I0 a0 13)) cl_RX10_314 rfl rfl (by decide) (Nat.le_of_ble_eq_true rfl) (dk D_X10_board 19 rfl) ?_
        refine g_bipush (v := (6 : Int32)) (dk D_X10_board 20 rfl) rfl ?_
        refine g_icmp_lt (tgt := 46) (dk D_X10_board 21 rfl) rfl (fun hc10 => ?_) (fun hc10 => ?_)
        · refine g_Lp [0, 1] rfl ?_
          exact hj46 I0
        · refine g_bipush (v := ((-4) : Int32)) (dk D_X10_board 22 rfl) rfl ?_
          exact g_ireturn rfl rfl Sx.rf rfl (by decide) (by decide) (dk D_X10_board 23 rfl)
    · refine g_iconst (v := (0 : Int32)) (dk D_X10_board 13 rfl) rfl ?_
      exact g_ireturn rfl rfl Sx.rf rfl (by decide) (by decide) (dk D_X10_board 14 rfl)
  · refine g_iconst (v := ((-1) : Int32)) (dk D_X10_board 5 rfl) rfl ?_
    exact g_ireturn rfl rfl Sx.rf rfl (by decide) (by decide) (dk D_X10_board 6 rfl)
theorem c_X10_board {E : EV} (fu : Nat) (S0 : Sk) (I0 : II) (a0 : Nat) (x1 : Int32) (x2 : Int32) (r : Int32 × II) (h : f_X10_board fu S0 I0 a0 x1 x2 = some r) (ht0 : tyO S0 10 a0) : MX E yX10_board i_X10_board S0 I0 [vA (a0 + 1), vI x1, vI x2] (po_X10_board S0 I0 r) :=
  MX.of h (by decide) rfl rfl (Nat.le_of_ble_eq_true rfl) (gg_X10_board fu S0 I0 a0 x1 x2 ht0)
theorem cl_RX10_319 : CV0 RX10 319 yX3_plan i_X3_plan 4 3 := ⟨⟨(gm 851 (by decide +kernel) (by decide +kernel)), (gm 70 (by decide +kernel) (by decide +kernel)), ((gm 854 (by decide +kernel) (by decide +kernel))), by decide +kernel, by decide +kernel, by decide +kernel⟩, ⟨(gm 852 (by decide +kernel) (by decide +kernel)), (gm 853 (by decide +kernel) (by decide +kernel))⟩, rfl, by decide⟩
theorem fl_RX10_323 : FL RX10 323 3 7 := ⟨RX3, TX3, 8, rfl, by decide, rfl, by decide, (gm 222 (by decide +kernel) (by decide +kernel)), inG3⟩
theorem fl_RX10_326 : FL RX10 326 3 6 := ⟨RX3, TX3, 8, rfl, by decide, rfl, by decide, (gm 220 (by decide +kernel) (by decide +kernel)), inG3⟩
def tb_X10_night : List (Nat × Instr × Nat) := [(0, .aload_n 0, 1), (1, .getfield 12, 3), (4, .iload_n 2, 1), (5, .invokevirtual 206, 3), (8, .ifCond .eq 21, 3), (11, .iload 4, 2), (13, .iconst (-1), 1), (14, .aload_n 0, 1), (15, .getfield 78, 3), (18, .invokestatic 314, 3), (21, .iconst 1, 1), (22, .isub, 1), (23, .invokestatic 226, 3), (26, .ifCond .ne 5, 3), (29, .iconst (-1), 1), (30, .ireturn, 1), (31, .iload_n 1, 1), (32, .iconst 0, 1), (33, .bipush 58, 2), (35, .invokestatic 226, 3), (38, .ifCond .eq 14, 3), (41, .iload_n 3, 1), (42, .iconst 0, 1), (43, .sipush 2879, 3), (46, .invokestatic 226, 3), (49, .ifCond .ne 6, 3), (52, .bipush (-2), 2), (54, .ireturn, 1), (55, .aload_n 0, 1), (56, .getfield 84, 3), (59, .aload_n 0, 1), (60, .getfield 78, 3), (63, .iload_n 1, 1), (64, .iload_n 2, 1), (65, .iload_n 3, 1), (66, .invokevirtual 319, 3), (69, .aload_n 0, 1), (70, .getfield 84, 3), (73, .getfield 323, 3), (76, .ldc 202, 2), (78, .if_icmp .ne 6, 3), (81, .bipush (-9), 2), (83, .ireturn, 1), (84, .iload 4, 2), (86, .iconst (-1), 1), (87, .if_icmp .ne 13, 3), (90, .aload_n 0, 1), (91, .getfield 84, 3), (94, .getfield 323, 3), (97, .goto 13, 3), (100, .aload_n 0, 1), (101, .getfield 84, 3), (104, .getfield 326, 3), (107, .iload 4, 2), (109, .iaload, 1), (110, .ireturn, 1)]
def i_X10_night : MI := (RX10, cX10_night, 5, (some .int), "night", { frames := 11, cells := 0, slots := 0, locals := 368 })
theorem D_X10_night : tbOK (i_X10_night).2.1 tb_X10_night := by show ∀ q ∈ tb_X10_night, decode cX10_night q.1 = .ok (q.2.1, q.2.2); decide +kernel
def po_X10_night (S : Sk) (I : II) (r : Int32 × II) : Option LV × Sk × II := (some (vI r.1), S, r.2)
def f_X10_night (fu : Nat) (S : Sk) (I : II) (a0 : Nat) (x1 : Int32) (x2 : Int32) (x3 : Int32) (x4 : Int32) : Option (Int32 × II) :=
  gd ((S.1 a0 0) ≠ 0) (if (t_X2_hasStop I ((S.1 a0 0) - 1) x2) = 0 then some ((((-1) : Int32), I)) else if (t_X10_isWithin x4 ((-1) : Int32) ((t_J6_bitCount_0f7a4 (I a0 13)) - (1 : Int32))) = 0 then some ((((-1) : Int32), I)) else if (t_X10_isWithin x1 (0 : Int32) (58 : Int32)) = 0 then some ((((-2) : Int32), I)) else if (t_X10_isWithin x3 (0 : Int32) (2879 : Int32)) = 0 then some ((((-2) : Int32), I)) else gd ((S.1 a0 14) ≠ 0) ((f_X3_plan fu S I ((S.1 a0 14) - 1) (I a0 13) x1 x2 x3).bind fun q14 => (if (q14 ((S.1 a0 14) - 1) 7) = (1073741824 : Int32) then some ((((-9) : Int32), q14)) else if x4 = ((-1) : Int32) then some (((q14 ((S.1 a0 14) - 1) 7), q14)) else gd (inb S (S.1 ((S.1 a0 14) - 1) 6) x4) (some (((rd q14 (S.1 ((S.1 a0 14) - 1) 6) x4), q14))))))
set_option maxRecDepth 100000 in
set_option maxHeartbeats 4000000 in
theorem gg_X10_night {E : EV} (fu : Nat) (S0 : Sk) (I0 : II) (a0 : Nat) (x1 : Int32) (x2 : Int32) (x3 : Int32) (x4 : Int32) (ht0 : tyO S0 10 a0) : GG E i_X10_night (enM E i_X10_night S0 (po_X10_night S0 I0)) S0 I0 (0, 0) 0 [(0, vA (a0 + 1)), (1, vI x1), (2, vI x2), (3, vI x3), (4, vI x4)] [] (f_X10_night fu S0 I0 a0 x1 x2 x3 x4) := by
  unfold f_X10_night
  refine g_aload_n (dk D_X10_night 0 rfl) rfl ?_
  refine g_getAt (t := 2) fl_RX10_12 rfl ht0 (dk D_X10_night 1 rfl) (fun ht1 => ?_)
  refine g_iload_n (dk D_X10_night 2 rfl) rfl ?_
  refine g_gd (fun hn2 => ?_)
  refine h_callV (st := []) (c_X2_hasStop (E := E) S0 I0 ((S0.1 a0 0) - 1) x2 (ht1.nz hn2)) cl_RX10_206 ht1 hn2 rfl rfl (by decide) (Nat.le_of_ble_eq_true rfl) (dk D_X10_night 3 rfl) ?_
  refine g_if_eq (tgt := 29) (dk D_X10_night 4 rfl) rfl (fun hc4 => ?_) (fun hc4 => ?_)
  · refine g_iconst (v := ((-1) : Int32)) (dk D_X10_night 14 rfl) rfl ?_
    exact g_ireturn rfl rfl Sx.rf rfl (by decide) (by decide) (dk D_X10_night 15 rfl)
  · refine g_iload (dk D_X10_night 5 rfl) rfl ?_
    refine g_iconst (v := ((-1) : Int32)) (dk D_X10_night 6 rfl) rfl ?_
    refine g_aload_n (dk D_X10_night 7 rfl) rfl ?_
    refine g_getIt fl_RX10_78 (by decide) ht0 (dk D_X10_night 8 rfl) ?_
    refine h_callS (st := [vI ((-1) : Int32), vI x4]) (c_J6_bitCount_0f7a4 (E := E) S0 I0 (I0 a0 13)) cl_RX10_314 rfl rfl (by decide) (Nat.le_of_ble_eq_true rfl) (dk D_X10_night 9 rfl) ?_
    refine g_iconst (v := (1 : Int32)) (dk D_X10_night 10 rfl) rfl ?_
    refine g_isub (dk D_X10_night 11 rfl) ?_
    refine h_callS (st := []) (c_X10_isWithin (E := E) S0 I0 x4 ((-1) : Int32) ((t_J6_bitCount_0f7a4 (I0 a0 13)) - (1 : Int32))) cl_RX10_226 rfl rfl (by decide) (Nat.le_of_ble_eq_true rfl) (dk D_X10_night 12 rfl) ?_
    refine g_if_ne (tgt := 31) (dk D_X10_night 13 rfl) rfl (fun hc7 => ?_) (fun hc7 => ?_)
    · refine g_iload_n (dk D_X10_night 16 rfl) rfl ?_
      refine g_iconst (v := (0 : Int32)) (dk D_X10_night 17 rfl) rfl ?_
      refine g_bipush (v := (58 : Int32)) (dk D_X10_night 18 rfl) rfl ?_
      refine h_callS (st := []) (c_X10_isWithin (E := E) S0 I0 x1 (0 : Int32) (58 : Int32)) cl_RX10_226 rfl rfl (by decide) (Nat.le_of_ble_eq_true rfl) (dk D_X10_night 19 rfl) ?_
      refine g_if_eq (tgt := 52) (dk D_X10_night 20 rfl) rfl (fun hc9 => ?_) (fun hc9 => ?_)
      · refine g_bipush (v := ((-2) : Int32)) (dk D_X10_night 26 rfl) rfl ?_
        exact g_ireturn rfl rfl Sx.rf rfl (by decide) (by decide) (dk D_X10_night 27 rfl)
      · refine g_iload_n (dk D_X10_night 21 rfl) rfl ?_
        refine g_iconst (v := (0 : Int32)) (dk D_X10_night 22 rfl) rfl ?_
        refine g_sipush (v := (2879 : Int32)) (dk D_X10_night 23 rfl) rfl ?_
        refine h_callS (st := []) (c_X10_isWithin (E := E) S0 I0 x3 (0 : Int32) (2879 : Int32)) cl_RX10_226 rfl rfl (by decide) (Nat.le_of_ble_eq_true rfl) (dk D_X10_night 24 rfl) ?_
        refine g_if_ne (tgt := 55) (dk D_X10_night 25 rfl) rfl (fun hc11 => ?_) (fun hc11 => ?_)
        · refine g_aload_n (dk D_X10_night 28 rfl) rfl ?_
          refine g_getAt (t := 3) fl_RX10_84 rfl ht0 (dk D_X10_night 29 rfl) (fun ht12 => ?_)
          refine g_aload_n (dk D_X10_night 30 rfl) rfl ?_
          refine g_getIt fl_RX10_78 (by decide) ht0 (dk D_X10_night 31 rfl) ?_
          refine g_iload_n (dk D_X10_night 32 rfl) rfl ?_
          refine g_iload_n (dk D_X10_night 33 rfl) rfl ?_
          refine g_iload_n (dk D_X10_night 34 rfl) rfl ?_
          refine g_gd (fun hn13 => ?_)
          refine g_bind (fun q14 hq15 => ?_)
          refine h_callV (st := []) (c_X3_plan (E := E) fu S0 I0 ((S0.1 a0 14) - 1) (I0 a0 13) x1 x2 x3 q14 hq15 (ht12.nz hn13)) cl_RX10_319 ht12 hn13 rfl rfl (by decide) (Nat.le_of_ble_eq_true rfl) (dk D_X10_night 35 rfl) ?_
          refine g_aload_n (dk D_X10_night 36 rfl) rfl ?_
          refine g_getAt (t := 3) fl_RX10_84 rfl ht0 (dk D_X10_night 37 rfl) (fun ht17 => ?_)
          refine g_getI fl_RX10_323 (by decide) ht12 hn13 (dk D_X10_night 38 rfl) ?_
          refine g_ldc (dk D_X10_night 39 rfl) lk_RX10_202 ?_
          refine g_icmp_ne (tgt := 84) (dk D_X10_night 40 rfl) rfl (fun hc18 => ?_) (fun hc18 => ?_)
          · refine g_iload (dk D_X10_night 43 rfl) rfl ?_
            refine g_iconst (v := ((-1) : Int32)) (dk D_X10_night 44 rfl) rfl ?_
            refine g_icmp_ne (tgt := 100) (dk D_X10_night 45 rfl) rfl (fun hc19 => ?_) (fun hc19 => ?_)
            · refine g_aload_n (dk D_X10_night 50 rfl) rfl ?_
              refine g_getAt (t := 3) fl_RX10_84 rfl ht0 (dk D_X10_night 51 rfl) (fun ht20 => ?_)
              refine g_getA (t := 100) fl_RX10_326 rfl ht12 hn13 (dk D_X10_night 52 rfl) (fun ht21 => ?_)
              refine g_iload (dk D_X10_night 53 rfl) rfl ?_
              refine g_gd (fun hi22 => ?_)
              refine g_iaload ht21 hi22 (dk D_X10_night 54 rfl) ?_
              exact g_ireturn rfl rfl Sx.rf rfl (by decide) (by decide) (dk D_X10_night 55 rfl)
            · refine g_aload_n (dk D_X10_night 46 rfl) rfl ?_
              refine g_getAt (t := 3) fl_RX10_84 rfl ht0 (dk D_X10_night 47 rfl) (fun ht23 => ?_)
              refine g_getI fl_RX10_323 (by decide) ht12 hn13 (dk D_X10_night 48 rfl) ?_
              refine g_goto (tgt := 110) (dk D_X10_night 49 rfl) rfl ?_
              exact g_ireturn rfl rfl Sx.rf rfl (by decide) (by decide) (dk D_X10_night 55 rfl)
          · refine g_bipush (v := ((-9) : Int32)) (dk D_X10_night 41 rfl) rfl ?_
            exact g_ireturn rfl rfl Sx.rf rfl (by decide) (by decide) (dk D_X10_night 42 rfl)
        · refine g_bipush (v := ((-2) : Int32)) (dk D_X10_night 26 rfl) rfl ?_
          exact g_ireturn rfl rfl Sx.rf rfl (by decide) (by decide) (dk D_X10_night 27 rfl)
    · refine g_iconst (v := ((-1) : Int32)) (dk D_X10_night 14 rfl) rfl ?_
      exact g_ireturn rfl rfl Sx.rf rfl (by decide) (by decide) (dk D_X10_night 15 rfl)
theorem c_X10_night {E : EV} (fu : Nat) (S0 : Sk) (I0 : II) (a0 : Nat) (x1 : Int32) (x2 : Int32) (x3 : Int32) (x4 : Int32) (r : Int32 × II) (h : f_X10_night fu S0 I0 a0 x1 x2 x3 x4 = some r) (ht0 : tyO S0 10 a0) : MX E yX10_night i_X10_night S0 I0 [vA (a0 + 1), vI x1, vI x2, vI x3, vI x4] (po_X10_night S0 I0 r) :=
  MX.of h (by decide) rfl rfl (Nat.le_of_ble_eq_true rfl) (gg_X10_night fu S0 I0 a0 x1 x2 x3 x4 ht0)
theorem cl_RX10_329 : CV0 RX10 329 yX1_leavesFrom i_X1_leavesFrom 1 1 := ⟨⟨(gm 883 (by decide +kernel) (by decide +kernel)), (gm 76 (by decide +kernel) (by decide +kernel)), ((gm 599 (by decide +kernel) (by decide +kernel))), by decide +kernel, by decide +kernel, by decide +kernel⟩, ⟨(gm 597 (by decide +kernel) (by decide +kernel)), (gm 598 (by decide +kernel) (by decide +kernel))⟩, rfl, by decide⟩
theorem fl_RX10_332 : FL RX10 332 1 8 := ⟨RX1, TX1, 11, rfl, by decide, rfl, by decide, (gm 442 (by decide +kernel) (by decide +kernel)), inG1⟩
def tb_X10_waiting : List (Nat × Instr × Nat) := [(0, .aload_n 0, 1), (1, .getfield 12, 3), (4, .iload_n 1, 1), (5, .invokevirtual 155, 3), (8, .astore 4, 2), (10, .aload 4, 2), (12, .ifnull 12, 3), (15, .aload 4, 2), (17, .iload_n 2, 1), (18, .invokevirtual 329, 3), (21, .ifCond .ne 5, 3), (24, .iconst (-1), 1), (25, .ireturn, 1), (26, .iload_n 3, 1), (27, .iconst 0, 1), (28, .sipush 999, 3), (31, .invokestatic 226, 3), (34, .ifCond .ne 6, 3), (37, .bipush (-2), 2), (39, .ireturn, 1), (40, .aload 4, 2), (42, .getfield 332, 3), (45, .iload_n 2, 1), (46, .iaload, 1), (47, .istore 5, 2), (49, .aload 4, 2), (51, .getfield 332, 3), (54, .iload_n 2, 1), (55, .iload_n 3, 1), (56, .iastore, 1), (57, .iload 5, 2), (59, .ireturn, 1)]
def i_X10_waiting : MI := (RX10, cX10_waiting, 6, (some .int), "waiting", { frames := 1, cells := 0, slots := 0, locals := 22 })
theorem D_X10_waiting : tbOK (i_X10_waiting).2.1 tb_X10_waiting := by show ∀ q ∈ tb_X10_waiting, decode cX10_waiting q.1 = .ok (q.2.1, q.2.2); decide +kernel
def po_X10_waiting (S : Sk) (I : II) (r : Int32 × II) : Option LV × Sk × II := (some (vI r.1), S, r.2)
def f_X10_waiting (fu : Nat) (S : Sk) (I : II) (a0 : Nat) (x1 : Int32) (x2 : Int32) (x3 : Int32) : Option (Int32 × II) :=
  gd ((S.1 a0 0) ≠ 0) ((f_X2_lineAt fu S I ((S.1 a0 0) - 1) x1).bind fun q3 => (if q3 = 0 then some ((((-1) : Int32), I)) else if (t_X1_leavesFrom I (q3 - 1) x2) = 0 then some ((((-1) : Int32), I)) else if (t_X10_isWithin x3 (0 : Int32) (999 : Int32)) = 0 then some ((((-2) : Int32), I)) else gd (inb S (S.1 (q3 - 1) 8) x2) (lt (rd I (S.1 (q3 - 1) 8) x2) fun x5_13 => (lt (wr I (S.1 (q3 - 1) 8) x2 x3) fun I15 => (some ((x5_13, I15)))))))
set_option maxRecDepth 100000 in
set_option maxHeartbeats 4000000 in
theorem gg_X10_waiting {E : EV} (fu : Nat) (S0 : Sk) (I0 : II) (a0 : Nat) (x1 : Int32) (x2 : Int32) (x3 : Int32) (ht0 : tyO S0 10 a0) : GG E i_X10_waiting (enM E i_X10_waiting S0 (po_X10_waiting S0 I0)) S0 I0 (0, 0) 0 [(0, vA (a0 + 1)), (1, vI x1), (2, vI x2), (3, vI x3)] [] (f_X10_waiting fu S0 I0 a0 x1 x2 x3) := by
  unfold f_X10_waiting
  refine g_aload_n (dk D_X10_waiting 0 rfl) rfl ?_
  refine g_getAt (t := 2) fl_RX10_12 rfl ht0 (dk D_X10_waiting 1 rfl) (fun ht1 => ?_)
  refine g_iload_n (dk D_X10_waiting 2 rfl) rfl ?_
  refine g_gd (fun hn2 => ?_)
  refine g_bind (fun q3 hq4 => ?_)
  refine h_callVA (st := []) (c_X2_lineAt (E := E) fu S0 I0 ((S0.1 a0 0) - 1) x1 q3 hq4 (ht1.nz hn2)) rt_X2_lineAt cl_RX10_155 ht1 hn2 rfl rfl (by decide) (Nat.le_of_ble_eq_true rfl) (dk D_X10_waiting 3 rfl) (fun ht5 => ?_)
  refine g_astore (L' := [(0, vA (a0 + 1)), (1, vI x1), (2, vI x2), (3, vI x3), (4, vA q3)]) (dk D_X10_waiting 4 rfl) (Nat.le_of_ble_eq_true rfl) rfl ?_
  refine g_aload (dk D_X10_waiting 5 rfl) rfl ?_
  refine g_ifnull (tgt := 24) (dk D_X10_waiting 6 rfl) rfl (fun hc6 => ?_) (fun hc6 => ?_)
  · refine g_iconst (v := ((-1) : Int32)) (dk D_X10_waiting 11 rfl) rfl ?_
    exact g_ireturn rfl rfl Sx.rf rfl (by decide) (by decide) (dk D_X10_waiting 12 rfl)
  · refine g_aload (dk D_X10_waiting 7 rfl) rfl ?_
    refine g_iload_n (dk D_X10_waiting 8 rfl) rfl ?_
    refine h_callV (st := []) (c_X1_leavesFrom (E := E) S0 I0 (q3 - 1) x2 (ht5.nz hc6)) cl_RX10_329 ht5 hc6 rfl rfl (by decide) (Nat.le_of_ble_eq_true rfl) (dk D_X10_waiting 9 rfl) ?_
    refine g_if_ne (tgt := 26) (dk D_X10_waiting 10 rfl) rfl (fun hc8 => ?_) (fun hc8 => ?_)
    · refine g_iload_n (dk D_X10_waiting 13 rfl) rfl ?_
      refine g_iconst (v := (0 : Int32)) (dk D_X10_waiting 14 rfl) rfl ?_
      refine g_sipush (v := (999 : Int32)) (dk D_X10_waiting 15 rfl) rfl ?_
      refine h_callS (st := []) (c_X10_isWithin (E := E) S0 I0 x3 (0 : Int32) (999 : Int32)) cl_RX10_226 rfl rfl (by decide) (Nat.le_of_ble_eq_true rfl) (dk D_X10_waiting 16 rfl) ?_
      refine g_if_ne (tgt := 40) (dk D_X10_waiting 17 rfl) rfl (fun hc10 => ?_) (fun hc10 => ?_)
      · refine g_aload (dk D_X10_waiting 20 rfl) rfl ?_
        refine g_getA (t := 100) fl_RX10_332 rfl ht5 hc6 (dk D_X10_waiting 21 rfl) (fun ht11 => ?_)
        refine g_iload_n (dk D_X10_waiting 22 rfl) rfl ?_
        refine g_gd (fun hi12 => ?_)
        refine g_iaload ht11 hi12 (dk D_X10_waiting 23 rfl) ?_
        refine g_ltV (fun x5_13 ex5_13 => ?_)
        refine g_istore (L' := [(0, vA (a0 + 1)), (1, vI x1), (2, vI x2), (3, vI x3), (4, vA q3), (5, vI x5_13)]) (dk D_X10_waiting 24 rfl) (Nat.le_of_ble_eq_true rfl) rfl ?_
        refine g_aload (dk D_X10_waiting 25 rfl) rfl ?_
        refine g_getA (t := 100) fl_RX10_332 rfl ht5 hc6 (dk D_X10_waiting 26 rfl) (fun ht14 => ?_)
        refine g_iload_n (dk D_X10_waiting 27 rfl) rfl ?_
        refine g_iload_n (dk D_X10_waiting 28 rfl) rfl ?_
        refine g_iastore ht11 hi12 (dk D_X10_waiting 29 rfl) ?_
        refine g_ltI (fun I15 eI15 => ?_)
        refine g_iload (dk D_X10_waiting 30 rfl) rfl ?_
        exact g_ireturn rfl rfl Sx.rf rfl (by decide) (by decide) (dk D_X10_waiting 31 rfl)
      · refine g_bipush (v := ((-2) : Int32)) (dk D_X10_waiting 18 rfl) rfl ?_
        exact g_ireturn rfl rfl Sx.rf rfl (by decide) (by decide) (dk D_X10_waiting 19 rfl)
    · refine g_iconst (v := ((-1) : Int32)) (dk D_X10_waiting 11 rfl) rfl ?_
      exact g_ireturn rfl rfl Sx.rf rfl (by decide) (by decide) (dk D_X10_waiting 12 rfl)
theorem c_X10_waiting {E : EV} (fu : Nat) (S0 : Sk) (I0 : II) (a0 : Nat) (x1 : Int32) (x2 : Int32) (x3 : Int32) (r : Int32 × II) (h : f_X10_waiting fu S0 I0 a0 x1 x2 x3 = some r) (ht0 : tyO S0 10 a0) : MX E yX10_waiting i_X10_waiting S0 I0 [vA (a0 + 1), vI x1, vI x2, vI x3] (po_X10_waiting S0 I0 r) :=
  MX.of h (by decide) rfl rfl (Nat.le_of_ble_eq_true rfl) (gg_X10_waiting fu S0 I0 a0 x1 x2 x3 ht0)
def tb_X10_seats : List (Nat × Instr × Nat) := [(0, .iload_n 1, 1), (1, .iconst 1, 1), (2, .bipush 99, 2), (4, .invokestatic 226, 3), (7, .ifCond .ne 6, 3), (10, .bipush (-2), 2), (12, .ireturn, 1), (13, .aload_n 0, 1), (14, .getfield 88, 3), (17, .istore_n 2, 1), (18, .aload_n 0, 1), (19, .iload_n 1, 1), (20, .putfield 88, 3), (23, .iload_n 2, 1), (24, .ireturn, 1)]
def i_X10_seats : MI := (RX10, cX10_seats, 3, (some .int), "seats", { frames := 1, cells := 0, slots := 0, locals := 22 })
theorem D_X10_seats : tbOK (i_X10_seats).2.1 tb_X10_seats := by show ∀ q ∈ tb_X10_seats, decode cX10_seats q.1 = .ok (q.2.1, q.2.2); decide +kernel
def po_X10_seats (S : Sk) (I : II) (r : Int32 × II) : Option LV × Sk × II := (some (vI r.1), S, r.2)
def f_X10_seats (fu : Nat) (S : Sk) (I : II) (a0 : Nat) (x1 : Int32) : Option (Int32 × II) :=
  if (t_X10_isWithin x1 (1 : Int32) (99 : Int32)) = 0 then some ((((-2) : Int32), I)) else lt (I a0 15) fun x2_3 => (lt (upI I a0 15 x1) fun I4 => (some ((x2_3, I4))))
set_option maxRecDepth 100000 in
set_option maxHeartbeats 4000000 in
theorem gg_X10_seats {E : EV} (fu : Nat) (S0 : Sk) (I0 : II) (a0 : Nat) (x1 : Int32) (ht0 : tyO S0 10 a0) : GG E i_X10_seats (enM E i_X10_seats S0 (po_X10_seats S0 I0)) S0 I0 (0, 0) 0 [(0, vA (a0 + 1)), (1, vI x1)] [] (f_X10_seats fu S0 I0 a0 x1) := by
  unfold f_X10_seats
  refine g_iload_n (dk D_X10_seats 0 rfl) rfl ?_
  refine g_iconst (v := (1 : Int32)) (dk D_X10_seats 1 rfl) rfl ?_
  refine g_bipush (v := (99 : Int32)) (dk D_X10_seats 2 rfl) rfl ?_
  refine h_callS (st := []) (c_X10_isWithin (E := E) S0 I0 x1 (1 : Int32) (99 : Int32)) cl_RX10_226 rfl rfl (by decide) (Nat.le_of_ble_eq_true rfl) (dk D_X10_seats 3 rfl) ?_
  refine g_if_ne (tgt := 13) (dk D_X10_seats 4 rfl) rfl (fun hc2 => ?_) (fun hc2 => ?_)
  · refine g_aload_n (dk D_X10_seats 7 rfl) rfl ?_
    refine g_getIt fl_RX10_88 (by decide) ht0 (dk D_X10_seats 8 rfl) ?_
    refine g_ltV (fun x2_3 ex2_3 => ?_)
    refine g_istore_n (L' := [(0, vA (a0 + 1)), (1, vI x1), (2, vI x2_3)]) (dk D_X10_seats 9 rfl) (Nat.le_of_ble_eq_true rfl) rfl ?_
    refine g_aload_n (dk D_X10_seats 10 rfl) rfl ?_
    refine g_iload_n (dk D_X10_seats 11 rfl) rfl ?_
    refine g_putIt fl_RX10_88 fp_10_15 (fun h => (by cases h)) (by decide) rfl rfl ht0 (dk D_X10_seats 12 rfl) ?_
    refine g_ltI (fun I4 eI4 => ?_)
    refine g_iload_n (dk D_X10_seats 13 rfl) rfl ?_
    exact g_ireturn rfl rfl Sx.rf rfl (by decide) (by decide) (dk D_X10_seats 14 rfl)
  · refine g_bipush (v := ((-2) : Int32)) (dk D_X10_seats 5 rfl) rfl ?_
    exact g_ireturn rfl rfl Sx.rf rfl (by decide) (by decide) (dk D_X10_seats 6 rfl)
theorem c_X10_seats {E : EV} (fu : Nat) (S0 : Sk) (I0 : II) (a0 : Nat) (x1 : Int32) (r : Int32 × II) (h : f_X10_seats fu S0 I0 a0 x1 = some r) (ht0 : tyO S0 10 a0) : MX E yX10_seats i_X10_seats S0 I0 [vA (a0 + 1), vI x1] (po_X10_seats S0 I0 r) :=
  MX.of h (by decide) rfl rfl (Nat.le_of_ble_eq_true rfl) (gg_X10_seats fu S0 I0 a0 x1 ht0)
theorem cl_RX10_335 : CV0 RX10 335 yX1_leftBehind i_X1_leftBehind 2 1 := ⟨⟨(gm 892 (by decide +kernel) (by decide +kernel)), (gm 76 (by decide +kernel) (by decide +kernel)), ((gm 895 (by decide +kernel) (by decide +kernel))), by decide +kernel, by decide +kernel, by decide +kernel⟩, ⟨(gm 893 (by decide +kernel) (by decide +kernel)), (gm 894 (by decide +kernel) (by decide +kernel))⟩, rfl, by decide⟩
def tb_X10_standing : List (Nat × Instr × Nat) := [(0, .aload_n 0, 1), (1, .getfield 12, 3), (4, .iload_n 1, 1), (5, .invokevirtual 155, 3), (8, .astore 4, 2), (10, .aload 4, 2), (12, .ifnull 17, 3), (15, .iload_n 2, 1), (16, .iconst (-1), 1), (17, .if_icmp .eq 14, 3), (20, .aload 4, 2), (22, .iload_n 2, 1), (23, .invokevirtual 329, 3), (26, .ifCond .ne 5, 3), (29, .iconst (-1), 1), (30, .ireturn, 1), (31, .iload_n 3, 1), (32, .iconst 0, 1), (33, .sipush 999, 3), (36, .invokestatic 226, 3), (39, .ifCond .ne 6, 3), (42, .bipush (-2), 2), (44, .ireturn, 1), (45, .aload 4, 2), (47, .iload_n 2, 1), (48, .iload_n 3, 1), (49, .aload_n 0, 1), (50, .getfield 88, 3), (53, .imul, 1), (54, .invokevirtual 335, 3), (57, .ireturn, 1)]
def i_X10_standing : MI := (RX10, cX10_standing, 5, (some .int), "standing", { frames := 2, cells := 0, slots := 0, locals := 106 })
theorem D_X10_standing : tbOK (i_X10_standing).2.1 tb_X10_standing := by show ∀ q ∈ tb_X10_standing, decode cX10_standing q.1 = .ok (q.2.1, q.2.2); decide +kernel
def po_X10_standing (S : Sk) (I : II) (r : Int32) : Option LV × Sk × II := (some (vI r), S, I)
def jn_X10_standing_31 (fu : Nat) (S : Sk) (I : II) (a0 : Nat) (x2 : Int32) (x3 : Int32) (r4 : Nat) : Option (Int32) :=
  if (t_X10_isWithin x3 (0 : Int32) (999 : Int32)) = 0 then some (((-2) : Int32)) else gd (r4 ≠ 0) ((f_X1_leftBehind fu S I (r4 - 1) x2 (x3 * (I a0 15))).bind fun q4 => (some (q4)))
def f_X10_standing (fu : Nat) (S : Sk) (I : II) (a0 : Nat) (x1 : Int32) (x2 : Int32) (x3 : Int32) : Option (Int32) :=
  gd ((S.1 a0 0) ≠ 0) ((f_X2_lineAt fu S I ((S.1 a0 0) - 1) x1).bind fun q9 => (if q9 = 0 then some (((-1) : Int32)) else if x2 = ((-1) : Int32) then jn_X10_standing_31 fu S I a0 x2 x3 q9 else if (t_X1_leavesFrom I (q9 - 1) x2) = 0 then some (((-1) : Int32)) else jn_X10_standing_31 fu S I a0 x2 x3 q9))
set_option maxRecDepth 100000 in
set_option maxHeartbeats 4000000 in
theorem gg_X10_standing {E : EV} (fu : Nat) (S0 : Sk) (I0 : II) (a0 : Nat) (x1 : Int32) (x2 : Int32) (x3 : Int32) (ht0 : tyO S0 10 a0) : GG E i_X10_standing (enM E i_X10_standing S0 (po_X10_standing S0 I0)) S0 I0 (0, 0) 0 [(0, vA (a0 + 1)), (1, vI x1), (2, vI x2), (3, vI x3)] [] (f_X10_standing fu S0 I0 a0 x1 x2 x3) := by
  have hj31 : ∀ (r4 : Nat) (h_r4 : tyR S0 1 r4), GG E i_X10_standing (enM E i_X10_standing S0 (po_X10_standing S0 I0)) S0 I0 (0, 0) 31 [(0, vA (a0 + 1)), (2, vI x2), (3, vI x3), (4, vA r4)] [] (jn_X10_standing_31 fu S0 I0 a0 x2 x3 r4) := by
    intro r4 h_r4
    unfold jn_X10_standing_31
    refine g_iload_n (dk D_X10_standing 16 rfl) rfl ?_
    refine g_iconst (v := (0 : Int32)) (dk D_X10_standing 17 rfl) rfl ?_
    refine g_sipush (v := (999 : Int32)) (dk D_X10_standing 18 rfl) rfl ?_
    refine h_callS (st := []) (c_X10_isWithin (E := E) S0 I0 x3 (0 : Int32) (999 : Int32)) cl_RX10_226 rfl rfl (by decide) (Nat.le_of_ble_eq_true rfl) (dk D_X10_standing 19 rfl) ?_
    refine g_if_ne (tgt := 45) (dk D_X10_standing 20 rfl) rfl (fun hc2 => ?_) (fun hc2 => ?_)
    · refine g_aload (dk D_X10_standing 23 rfl) rfl ?_
      refine g_iload_n (dk D_X10_standing 24 rfl) rfl ?_
      refine g_iload_n (dk D_X10_standing 25 rfl) rfl ?_
      refine g_aload_n (dk D_X10_standing 26 rfl) rfl ?_
      refine g_getIt fl_RX10_88 (by decide) ht0 (dk D_X10_standing 27 rfl) ?_
      refine g_imul (dk D_X10_standing 28 rfl) ?_
      refine g_gd (fun hn3 => ?_)
      refine g_bind (fun q4 hq5 => ?_)
      refine h_callV (st := []) (c_X1_leftBehind (E := E) fu S0 I0 (r4 - 1) x2 (x3 * (I0 a0 15)) q4 hq5 (h_r4.nz hn3)) cl_RX10_335 h_r4 hn3 rfl rfl (by decide) (Nat.le_of_ble_eq_true rfl) (dk D_X10_standing 29 rfl) ?_
      exact g_ireturn rfl rfl Sx.rf rfl (by decide) (by decide) (dk D_X10_standing 30 rfl)
    · refine g_bipush (v := ((-2) : Int32)) (dk D_X10_standing 21 rfl) rfl ?_
      exact g_ireturn rfl rfl Sx.rf rfl (by decide) (by decide) (dk D_X10_standing 22 rfl)
  unfold f_X10_standing
  refine g_aload_n (dk D_X10_standing 0 rfl) rfl ?_
  refine g_getAt (t := 2) fl_RX10_12 rfl ht0 (dk D_X10_standing 1 rfl) (fun ht7 => ?_)
  refine g_iload_n (dk D_X10_standing 2 rfl) rfl ?_
  refine g_gd (fun hn8 => ?_)
  refine g_bind (fun q9 hq10 => ?_)
  refine h_callVA (st := []) (c_X2_lineAt (E := E) fu S0 I0 ((S0.1 a0 0) - 1) x1 q9 hq10 (ht7.nz hn8)) rt_X2_lineAt cl_RX10_155 ht7 hn8 rfl rfl (by decide) (Nat.le_of_ble_eq_true rfl) (dk D_X10_standing 3 rfl) (fun ht11 => ?_)
  refine g_astore (L' := [(0, vA (a0 + 1)), (1, vI x1), (2, vI x2), (3, vI x3), (4, vA q9)]) (dk D_X10_standing 4 rfl) (Nat.le_of_ble_eq_true rfl) rfl ?_
  refine g_aload (dk D_X10_standing 5 rfl) rfl ?_
  refine g_ifnull (tgt := 29) (dk D_X10_standing 6 rfl) rfl (fun hc12 => ?_) (fun hc12 => ?_)
  · refine g_iconst (v := ((-1) : Int32)) (dk D_X10_standing 14 rfl) rfl ?_
    exact g_ireturn rfl rfl Sx.rf rfl (by decide) (by decide) (dk D_X10_standing 15 rfl)
  · refine g_iload_n (dk D_X10_standing 7 rfl) rfl ?_
    refine g_iconst (v := ((-1) : Int32)) (dk D_X10_standing 8 rfl) rfl ?_
    refine g_icmp_eq (tgt := 31) (dk D_X10_standing 9 rfl) rfl (fun hc13 => ?_) (fun hc13 => ?_)
    · refine g_Lp [0, 2, 3, 4] rfl ?_
      exact hj31 q9 ht11
    · refine g_aload (dk D_X10_standing 10 rfl) rfl ?_
      refine g_iload_n (dk D_X10_standing 11 rfl) rfl ?_
      refine h_callV (st := []) (c_X1_leavesFrom (E := E) S0 I0 (q9 - 1) x2 (ht11.nz hc12)) cl_RX10_329 ht11 hc12 rfl rfl (by decide) (Nat.le_of_ble_eq_true rfl) (dk D_X10_standing 12 rfl) ?_
      refine g_if_ne (tgt := 31) (dk D_X10_standing 13 rfl) rfl (fun hc15 => ?_) (fun hc15 => ?_)
      · refine g_Lp [0, 2, 3, 4] rfl ?_
        exact hj31 q9 ht11
      · refine g_iconst (v := ((-1) : Int32)) (dk D_X10_standing 14 rfl) rfl ?_
        exact g_ireturn rfl rfl Sx.rf rfl (by decide) (by decide) (dk D_X10_standing 15 rfl)
theorem c_X10_standing {E : EV} (fu : Nat) (S0 : Sk) (I0 : II) (a0 : Nat) (x1 : Int32) (x2 : Int32) (x3 : Int32) (r : Int32) (h : f_X10_standing fu S0 I0 a0 x1 x2 x3 = some r) (ht0 : tyO S0 10 a0) : MX E yX10_standing i_X10_standing S0 I0 [vA (a0 + 1), vI x1, vI x2, vI x3] (po_X10_standing S0 I0 r) :=
  MX.of h (by decide) rfl rfl (Nat.le_of_ble_eq_true rfl) (gg_X10_standing fu S0 I0 a0 x1 x2 x3 ht0)
def tb_X10_extra : List (Nat × Instr × Nat) := [(0, .aload_n 0, 1), (1, .getfield 12, 3), (4, .iload_n 1, 1), (5, .invokevirtual 155, 3), (8, .astore_n 2, 1), (9, .aload_n 2, 1), (10, .ifnonnull 5, 3), (13, .iconst (-1), 1), (14, .ireturn, 1), (15, .iconst 1, 1), (16, .aload_n 0, 1), (17, .getfield 88, 3), (20, .invokestatic 338, 3), (23, .istore_n 3, 1), (24, .aload_n 2, 1), (25, .iconst (-1), 1), (26, .iconst 0, 1), (27, .invokevirtual 335, 3), (30, .iload_n 3, 1), (31, .iadd, 1), (32, .iconst 1, 1), (33, .isub, 1), (34, .iload_n 3, 1), (35, .idiv, 1), (36, .istore 4, 2), (38, .iconst 0, 1), (39, .iload 4, 2), (41, .aload_n 2, 1), (42, .invokevirtual 187, 3), (45, .isub, 1), (46, .invokestatic 338, 3), (49, .ireturn, 1)]
def i_X10_extra : MI := (RX10, cX10_extra, 5, (some .int), "extra", { frames := 2, cells := 0, slots := 0, locals := 106 })
theorem D_X10_extra : tbOK (i_X10_extra).2.1 tb_X10_extra := by show ∀ q ∈ tb_X10_extra, decode cX10_extra q.1 = .ok (q.2.1, q.2.2); decide +kernel
def po_X10_extra (S : Sk) (I : II) (r : Int32) : Option LV × Sk × II := (some (vI r), S, I)
def f_X10_extra (fu : Nat) (S : Sk) (I : II) (a0 : Nat) (x1 : Int32) : Option (Int32) :=
  gd ((S.1 a0 0) ≠ 0) ((f_X2_lineAt fu S I ((S.1 a0 0) - 1) x1).bind fun q3 => (if q3 = 0 then some (((-1) : Int32)) else lt (jmax (1 : Int32) (I a0 15)) fun x3_7 => ((f_X1_leftBehind fu S I (q3 - 1) ((-1) : Int32) (0 : Int32)).bind fun q8 => (gd (¬ x3_7 = 0) (lt (((q8 + x3_7) - (1 : Int32)) / x3_7) fun x4_12 => ((f_X1_buses fu S I (q3 - 1)).bind fun q13 => (some ((jmax (0 : Int32) (x4_12 - q13))))))))))
set_option maxRecDepth 100000 in
set_option maxHeartbeats 4000000 in
theorem gg_X10_extra {E : EV} (fu : Nat) (S0 : Sk) (I0 : II) (a0 : Nat) (x1 : Int32) (ht0 : tyO S0 10 a0) : GG E i_X10_extra (enM E i_X10_extra S0 (po_X10_extra S0 I0)) S0 I0 (0, 0) 0 [(0, vA (a0 + 1)), (1, vI x1)] [] (f_X10_extra fu S0 I0 a0 x1) := by
  unfold f_X10_extra
  refine g_aload_n (dk D_X10_extra 0 rfl) rfl ?_
  refine g_getAt (t := 2) fl_RX10_12 rfl ht0 (dk D_X10_extra 1 rfl) (fun ht1 => ?_)
  refine g_iload_n (dk D_X10_extra 2 rfl) rfl ?_
  refine g_gd (fun hn2 => ?_)
  refine g_bind (fun q3 hq4 => ?_)
  refine h_callVA (st := []) (c_X2_lineAt (E := E) fu S0 I0 ((S0.1 a0 0) - 1) x1 q3 hq4 (ht1.nz hn2)) rt_X2_lineAt cl_RX10_155 ht1 hn2 rfl rfl (by decide) (Nat.le_of_ble_eq_true rfl) (dk D_X10_extra 3 rfl) (fun ht5 => ?_)
  refine g_astore_n (L' := [(0, vA (a0 + 1)), (1, vI x1), (2, vA q3)]) (dk D_X10_extra 4 rfl) (Nat.le_of_ble_eq_true rfl) rfl ?_
  refine g_aload_n (dk D_X10_extra 5 rfl) rfl ?_
  refine g_ifnonnull (tgt := 15) (dk D_X10_extra 6 rfl) rfl (fun hc6 => ?_) (fun hc6 => ?_)
  · refine g_iconst (v := (1 : Int32)) (dk D_X10_extra 9 rfl) rfl ?_
    refine g_aload_n (dk D_X10_extra 10 rfl) rfl ?_
    refine g_getIt fl_RX10_88 (by decide) ht0 (dk D_X10_extra 11 rfl) ?_
    refine g_mmax lk_RX10_338 lk_mmax (by decide) (Nat.le_of_ble_eq_true rfl) (by decide) (by decide) (dk D_X10_extra 12 rfl) ?_
    refine g_ltV (fun x3_7 ex3_7 => ?_)
    refine g_istore_n (L' := [(0, vA (a0 + 1)), (1, vI x1), (2, vA q3), (3, vI x3_7)]) (dk D_X10_extra 13 rfl) (Nat.le_of_ble_eq_true rfl) rfl ?_
    refine g_aload_n (dk D_X10_extra 14 rfl) rfl ?_
    refine g_iconst (v := ((-1) : Int32)) (dk D_X10_extra 15 rfl) rfl ?_
    refine g_iconst (v := (0 : Int32)) (dk D_X10_extra 16 rfl) rfl ?_
    refine g_bind (fun q8 hq9 => ?_)
    refine h_callV (st := []) (c_X1_leftBehind (E := E) fu S0 I0 (q3 - 1) ((-1) : Int32) (0 : Int32) q8 hq9 (ht5.nz hc6)) cl_RX10_335 ht5 hc6 rfl rfl (by decide) (Nat.le_of_ble_eq_true rfl) (dk D_X10_extra 17 rfl) ?_
    refine g_iload_n (dk D_X10_extra 18 rfl) rfl ?_
    refine g_iadd (dk D_X10_extra 19 rfl) ?_
    refine g_iconst (v := (1 : Int32)) (dk D_X10_extra 20 rfl) rfl ?_
    refine g_isub (dk D_X10_extra 21 rfl) ?_
    refine g_iload_n (dk D_X10_extra 22 rfl) rfl ?_
    refine g_gd (fun hz11 => ?_)
    refine g_idiv (dk D_X10_extra 23 rfl) hz11 ?_
    refine g_ltV (fun x4_12 ex4_12 => ?_)
    refine g_istore (L' := [(0, vA (a0 + 1)), (1, vI x1), (2, vA q3), (3, vI x3_7), (4, vI x4_12)]) (dk D_X10_extra 24 rfl) (Nat.le_of_ble_eq_true rfl) rfl ?_
    refine g_iconst (v := (0 : Int32)) (dk D_X10_extra 25 rfl) rfl ?_
    refine g_iload (dk D_X10_extra 26 rfl) rfl ?_
    refine g_aload_n (dk D_X10_extra 27 rfl) rfl ?_
    refine g_bind (fun q13 hq14 => ?_)
    refine h_callV (st := [vI x4_12, vI (0 : Int32)]) (c_X1_buses (E := E) fu S0 I0 (q3 - 1) q13 hq14 (ht5.nz hc6)) cl_RX10_187 ht5 hc6 rfl rfl (by decide) (Nat.le_of_ble_eq_true rfl) (dk D_X10_extra 28 rfl) ?_
    refine g_isub (dk D_X10_extra 29 rfl) ?_
    refine g_mmax lk_RX10_338 lk_mmax (by decide) (Nat.le_of_ble_eq_true rfl) (by decide) (by decide) (dk D_X10_extra 30 rfl) ?_
    exact g_ireturn rfl rfl Sx.rf rfl (by decide) (by decide) (dk D_X10_extra 31 rfl)
  · refine g_iconst (v := ((-1) : Int32)) (dk D_X10_extra 7 rfl) rfl ?_
    exact g_ireturn rfl rfl Sx.rf rfl (by decide) (by decide) (dk D_X10_extra 8 rfl)
theorem c_X10_extra {E : EV} (fu : Nat) (S0 : Sk) (I0 : II) (a0 : Nat) (x1 : Int32) (r : Int32) (h : f_X10_extra fu S0 I0 a0 x1 = some r) (ht0 : tyO S0 10 a0) : MX E yX10_extra i_X10_extra S0 I0 [vA (a0 + 1), vI x1] (po_X10_extra S0 I0 r) :=
  MX.of h (by decide) rfl rfl (Nat.le_of_ble_eq_true rfl) (gg_X10_extra fu S0 I0 a0 x1 ht0)
theorem cl_RX10_343 : CV0 RX10 343 yX5_renew i_X5_renew 2 5 := ⟨⟨(gm 904 (by decide +kernel) (by decide +kernel)), (gm 71 (by decide +kernel) (by decide +kernel)), ((gm 907 (by decide +kernel) (by decide +kernel))), by decide +kernel, by decide +kernel, by decide +kernel⟩, ⟨(gm 905 (by decide +kernel) (by decide +kernel)), (gm 906 (by decide +kernel) (by decide +kernel))⟩, rfl, by decide⟩
def tb_X10_sheet : List (Nat × Instr × Nat) := [(0, .aload_n 0, 1), (1, .iconst 0, 1), (2, .putfield 100, 3), (5, .iload_n 1, 1), (6, .invokestatic 115, 3), (9, .ifCond .ne 5, 3), (12, .iconst (-1), 1), (13, .ireturn, 1), (14, .iload_n 2, 1), (15, .invokestatic 126, 3), (18, .ifCond .eq 9, 3), (21, .iload_n 3, 1), (22, .bipush 60, 2), (24, .if_icmp .le 6, 3), (27, .bipush (-2), 2), (29, .ireturn, 1), (30, .iload_n 3, 1), (31, .ifCond .ge 9, 3), (34, .aload_n 0, 1), (35, .iconst 4, 1), (36, .invokevirtual 133, 3), (39, .ireturn, 1), (40, .aload_n 0, 1), (41, .getfield 93, 3), (44, .iload_n 1, 1), (45, .aaload, 1), (46, .iload_n 2, 1), (47, .iload_n 3, 1), (48, .invokevirtual 343, 3), (51, .iconst 1, 1), (52, .ireturn, 1)]
def i_X10_sheet : MI := (RX10, cX10_sheet, 4, (some .int), "sheet", { frames := 2, cells := 0, slots := 0, locals := 45 })
theorem D_X10_sheet : tbOK (i_X10_sheet).2.1 tb_X10_sheet := by show ∀ q ∈ tb_X10_sheet, decode cX10_sheet q.1 = .ok (q.2.1, q.2.2); decide +kernel
def po_X10_sheet (S : Sk) (I : II) (r : Int32 × II) : Option LV × Sk × II := (some (vI r.1), S, r.2)
def f_X10_sheet (fu : Nat) (S : Sk) (I : II) (a0 : Nat) (x1 : Int32) (x2 : Int32) (x3 : Int32) : Option (Int32 × II) :=
  lt (upI I a0 18 (0 : Int32)) fun I1 => (if (t_X10_isSheet x1) = 0 then some ((((-1) : Int32), I1)) else if (t_X10_isLane x2) = 0 then some ((((-2) : Int32), I1)) else if x3 ≤ (60 : Int32) then if 0 ≤ x3 then gd (inb S (S.1 a0 16) x1) (gd ((S.1 ((S.1 a0 16) - 1) (nx x1)) ≠ 0) ((f_X5_renew fu S I1 ((S.1 ((S.1 a0 16) - 1) (nx x1)) - 1) x2 x3).bind fun q12 => (some (((1 : Int32), q12))))) else (f_X10_fail fu S I1 a0 (4 : Int32)).bind fun q15 => (some ((q15.1, q15.2))) else some ((((-2) : Int32), I1)))
set_option maxRecDepth 100000 in
set_option maxHeartbeats 4000000 in
theorem gg_X10_sheet {E : EV} (fu : Nat) (S0 : Sk) (I0 : II) (a0 : Nat) (x1 : Int32) (x2 : Int32) (x3 : Int32) (ht0 : tyO S0 10 a0) : GG E i_X10_sheet (enM E i_X10_sheet S0 (po_X10_sheet S0 I0)) S0 I0 (0, 0) 0 [(0, vA (a0 + 1)), (1, vI x1), (2, vI x2), (3, vI x3)] [] (f_X10_sheet fu S0 I0 a0 x1 x2 x3) := by
  unfold f_X10_sheet
  refine g_aload_n (dk D_X10_sheet 0 rfl) rfl ?_
  refine g_iconst (v := (0 : Int32)) (dk D_X10_sheet 1 rfl) rfl ?_
  refine g_putIt fl_RX10_100 fp_10_18 (fun h => (by cases h)) (by decide) rfl rfl ht0 (dk D_X10_sheet 2 rfl) ?_
  refine g_ltI (fun I1 eI1 => ?_)
  refine g_iload_n (dk D_X10_sheet 3 rfl) rfl ?_
  refine h_callS (st := []) (c_X10_isSheet (E := E) S0 I1 x1) cl_RX10_115 rfl rfl (by decide) (Nat.le_of_ble_eq_true rfl) (dk D_X10_sheet 4 rfl) ?_
  refine g_if_ne (tgt := 14) (dk D_X10_sheet 5 rfl) rfl (fun hc3 => ?_) (fun hc3 => ?_)
  · refine g_iload_n (dk D_X10_sheet 8 rfl) rfl ?_
    refine h_callS (st := []) (c_X10_isLane (E := E) S0 I1 x2) cl_RX10_126 rfl rfl (by decide) (Nat.le_of_ble_eq_true rfl) (dk D_X10_sheet 9 rfl) ?_
    refine g_if_eq (tgt := 27) (dk D_X10_sheet 10 rfl) rfl (fun hc5 => ?_) (fun hc5 => ?_)
    · refine g_bipush (v := ((-2) : Int32)) (dk D_X10_sheet 14 rfl) rfl ?_
      exact g_ireturn rfl rfl Sx.rf rfl (by decide) (by decide) (dk D_X10_sheet 15 rfl)
    · refine g_iload_n (dk D_X10_sheet 11 rfl) rfl ?_
      refine g_bipush (v := (60 : Int32)) (dk D_X10_sheet 12 rfl) rfl ?_
      refine g_icmp_le (tgt := 30) (dk D_X10_sheet 13 rfl) rfl (fun hc6 => ?_) (fun hc6 => ?_)
      · refine g_iload_n (dk D_X10_sheet 16 rfl) rfl ?_
        refine g_if_ge (tgt := 40) (dk D_X10_sheet 17 rfl) rfl (fun hc7 => ?_) (fun hc7 => ?_)
        · refine g_aload_n (dk D_X10_sheet 22 rfl) rfl ?_
          refine g_getAt (t := 115) fl_RX10_93 rfl ht0 (dk D_X10_sheet 23 rfl) (fun ht8 => ?_)
          refine g_iload_n (dk D_X10_sheet 24 rfl) rfl ?_
          refine g_gd (fun hi9 => ?_)
          refine g_aaload (c0 := 5) (by unfold aoC; decide) ht8 hi9 (dk D_X10_sheet 25 rfl) (fun ht10 => ?_)
          refine g_iload_n (dk D_X10_sheet 26 rfl) rfl ?_
          refine g_iload_n (dk D_X10_sheet 27 rfl) rfl ?_
          refine g_gd (fun hn11 => ?_)
          refine g_bind (fun q12 hq13 => ?_)
          refine h_callV (st := []) (c_X5_renew (E := E) fu S0 I1 ((S0.1 ((S0.1 a0 16) - 1) (nx x1)) - 1) x2 x3 q12 hq13 (ht10.nz hn11)) cl_RX10_343 ht10 hn11 rfl rfl (by decide) (Nat.le_of_ble_eq_true rfl) (dk D_X10_sheet 28 rfl) ?_
          refine g_iconst (v := (1 : Int32)) (dk D_X10_sheet 29 rfl) rfl ?_
          exact g_ireturn rfl rfl Sx.rf rfl (by decide) (by decide) (dk D_X10_sheet 30 rfl)
        · refine g_aload_n (dk D_X10_sheet 18 rfl) rfl ?_
          refine g_iconst (v := (4 : Int32)) (dk D_X10_sheet 19 rfl) rfl ?_
          refine g_bind (fun q15 hq16 => ?_)
          refine h_callVt (st := []) (c_X10_fail (E := E) fu S0 I1 a0 (4 : Int32) q15 hq16 (ht0)) cl_RX10_133 ht0 rfl rfl (by decide) (Nat.le_of_ble_eq_true rfl) (dk D_X10_sheet 20 rfl) ?_
          exact g_ireturn rfl rfl Sx.rf rfl (by decide) (by decide) (dk D_X10_sheet 21 rfl)
      · refine g_bipush (v := ((-2) : Int32)) (dk D_X10_sheet 14 rfl) rfl ?_
        exact g_ireturn rfl rfl Sx.rf rfl (by decide) (by decide) (dk D_X10_sheet 15 rfl)
  · refine g_iconst (v := ((-1) : Int32)) (dk D_X10_sheet 6 rfl) rfl ?_
    exact g_ireturn rfl rfl Sx.rf rfl (by decide) (by decide) (dk D_X10_sheet 7 rfl)
theorem c_X10_sheet {E : EV} (fu : Nat) (S0 : Sk) (I0 : II) (a0 : Nat) (x1 : Int32) (x2 : Int32) (x3 : Int32) (r : Int32 × II) (h : f_X10_sheet fu S0 I0 a0 x1 x2 x3 = some r) (ht0 : tyO S0 10 a0) : MX E yX10_sheet i_X10_sheet S0 I0 [vA (a0 + 1), vI x1, vI x2, vI x3] (po_X10_sheet S0 I0 r) :=
  MX.of h (by decide) rfl rfl (Nat.le_of_ble_eq_true rfl) (gg_X10_sheet fu S0 I0 a0 x1 x2 x3 ht0)
theorem fl_RX10_347 : FL RX10 347 5 0 := ⟨RX5, TX5, 4, rfl, by decide, rfl, by decide, (gm 248 (by decide +kernel) (by decide +kernel)), inG5⟩
def tb_X10_drop : List (Nat × Instr × Nat) := [(0, .iload_n 1, 1), (1, .invokestatic 115, 3), (4, .ifCond .ne 5, 3), (7, .iconst (-1), 1), (8, .ireturn, 1), (9, .aload_n 0, 1), (10, .getfield 93, 3), (13, .iload_n 1, 1), (14, .aaload, 1), (15, .getfield 347, 3), (18, .ifCond .ne 5, 3), (21, .iconst 0, 1), (22, .ireturn, 1), (23, .aload_n 0, 1), (24, .getfield 93, 3), (27, .iload_n 1, 1), (28, .aaload, 1), (29, .iconst 0, 1), (30, .putfield 347, 3), (33, .iconst 1, 1), (34, .ireturn, 1)]
def i_X10_drop : MI := (RX10, cX10_drop, 2, (some .int), "drop", { frames := 2, cells := 0, slots := 0, locals := 42 })
theorem D_X10_drop : tbOK (i_X10_drop).2.1 tb_X10_drop := by show ∀ q ∈ tb_X10_drop, decode cX10_drop q.1 = .ok (q.2.1, q.2.2); decide +kernel
def po_X10_drop (S : Sk) (I : II) (r : Int32 × II) : Option LV × Sk × II := (some (vI r.1), S, r.2)
def f_X10_drop (fu : Nat) (S : Sk) (I : II) (a0 : Nat) (x1 : Int32) : Option (Int32 × II) :=
  if (t_X10_isSheet x1) = 0 then some ((((-1) : Int32), I)) else gd (inb S (S.1 a0 16) x1) (gd ((S.1 ((S.1 a0 16) - 1) (nx x1)) ≠ 0) (if (I ((S.1 ((S.1 a0 16) - 1) (nx x1)) - 1) 0) = 0 then some (((0 : Int32), I)) else lt (upI I ((S.1 ((S.1 a0 16) - 1) (nx x1)) - 1) 0 (0 : Int32)) fun I10 => (some (((1 : Int32), I10)))))
set_option maxRecDepth 100000 in
set_option maxHeartbeats 4000000 in
theorem gg_X10_drop {E : EV} (fu : Nat) (S0 : Sk) (I0 : II) (a0 : Nat) (x1 : Int32) (ht0 : tyO S0 10 a0) : GG E i_X10_drop (enM E i_X10_drop S0 (po_X10_drop S0 I0)) S0 I0 (0, 0) 0 [(0, vA (a0 + 1)), (1, vI x1)] [] (f_X10_drop fu S0 I0 a0 x1) := by
  unfold f_X10_drop
  refine g_iload_n (dk D_X10_drop 0 rfl) rfl ?_
  refine h_callS (st := []) (c_X10_isSheet (E := E) S0 I0 x1) cl_RX10_115 rfl rfl (by decide) (Nat.le_of_ble_eq_true rfl) (dk D_X10_drop 1 rfl) ?_
  refine g_if_ne (tgt := 9) (dk D_X10_drop 2 rfl) rfl (fun hc2 => ?_) (fun hc2 => ?_)
  · refine g_aload_n (dk D_X10_drop 5 rfl) rfl ?_
    refine g_getAt (t := 115) fl_RX10_93 rfl ht0 (dk D_X10_drop 6 rfl) (fun ht3 => ?_)
    refine g_iload_n (dk D_X10_drop 7 rfl) rfl ?_
    refine g_gd (fun hi4 => ?_)
    refine g_aaload (c0 := 5) (by unfold aoC; decide) ht3 hi4 (dk D_X10_drop 8 rfl) (fun ht5 => ?_)
    refine g_gd (fun hn6 => ?_)
    refine g_getI fl_RX10_347 (by decide) ht5 hn6 (dk D_X10_drop 9 rfl) ?_
    refine g_if_ne (tgt := 23) (dk D_X10_drop 10 rfl) rfl (fun hc7 => ?_) (fun hc7 => ?_)
    · refine g_aload_n (dk D_X10_drop 13 rfl) rfl ?_
      refine g_getAt (t := 115) fl_RX10_93 rfl ht0 (dk D_X10_drop 14 rfl) (fun ht8 => ?_)
      refine g_iload_n (dk D_X10_drop 15 rfl) rfl ?_
      refine g_aaload (c0 := 5) (by unfold aoC; decide) ht3 hi4 (dk D_X10_drop 16 rfl) (fun ht9 => ?_)
      refine g_iconst (v := (0 : Int32)) (dk D_X10_drop 17 rfl) rfl ?_
      refine g_putI fl_RX10_347 fp_5_0 (fun h => (by cases h)) (by decide) (by decide +kernel) (by decide +kernel) ht5 hn6 (dk D_X10_drop 18 rfl) ?_
      refine g_ltI (fun I10 eI10 => ?_)
      refine g_iconst (v := (1 : Int32)) (dk D_X10_drop 19 rfl) rfl ?_
      exact g_ireturn rfl rfl Sx.rf rfl (by decide) (by decide) (dk D_X10_drop 20 rfl)
    · refine g_iconst (v := (0 : Int32)) (dk D_X10_drop 11 rfl) rfl ?_
      exact g_ireturn rfl rfl Sx.rf rfl (by decide) (by decide) (dk D_X10_drop 12 rfl)
  · refine g_iconst (v := ((-1) : Int32)) (dk D_X10_drop 3 rfl) rfl ?_
    exact g_ireturn rfl rfl Sx.rf rfl (by decide) (by decide) (dk D_X10_drop 4 rfl)
theorem c_X10_drop {E : EV} (fu : Nat) (S0 : Sk) (I0 : II) (a0 : Nat) (x1 : Int32) (r : Int32 × II) (h : f_X10_drop fu S0 I0 a0 x1 = some r) (ht0 : tyO S0 10 a0) : MX E yX10_drop i_X10_drop S0 I0 [vA (a0 + 1), vI x1] (po_X10_drop S0 I0 r) :=
  MX.of h (by decide) rfl rfl (Nat.le_of_ble_eq_true rfl) (gg_X10_drop fu S0 I0 a0 x1 ht0)
theorem cl_RX10_351 : CV0 RX10 351 yX5_holds i_X5_holds 2 5 := ⟨⟨(gm 917 (by decide +kernel) (by decide +kernel)), (gm 71 (by decide +kernel) (by decide +kernel)), ((gm 365 (by decide +kernel) (by decide +kernel))), by decide +kernel, by decide +kernel, by decide +kernel⟩, ⟨(gm 363 (by decide +kernel) (by decide +kernel)), (gm 364 (by decide +kernel) (by decide +kernel))⟩, rfl, by decide⟩
theorem fl_RX10_355 : FL RX10 355 5 3 := ⟨RX5, TX5, 4, rfl, by decide, rfl, by decide, (gm 253 (by decide +kernel) (by decide +kernel)), inG5⟩
theorem cl_RX10_358 : CV0 RX10 358 yX5_cut i_X5_cut 1 5 := ⟨⟨(gm 918 (by decide +kernel) (by decide +kernel)), (gm 71 (by decide +kernel) (by decide +kernel)), ((gm 921 (by decide +kernel) (by decide +kernel))), by decide +kernel, by decide +kernel, by decide +kernel⟩, ⟨(gm 919 (by decide +kernel) (by decide +kernel)), (gm 920 (by decide +kernel) (by decide +kernel))⟩, rfl, by decide⟩
def tb_X10_put : List (Nat × Instr × Nat) := [(0, .aload_n 0, 1), (1, .iconst 0, 1), (2, .putfield 100, 3), (5, .iload_n 1, 1), (6, .invokestatic 115, 3), (9, .ifCond .ne 5, 3), (12, .iconst (-1), 1), (13, .ireturn, 1), (14, .aload_n 0, 1), (15, .getfield 93, 3), (18, .iload_n 1, 1), (19, .aaload, 1), (20, .astore 4, 2), (22, .aload 4, 2), (24, .getfield 347, 3), (27, .ifCond .ne 9, 3), (30, .aload_n 0, 1), (31, .iconst 1, 1), (32, .invokevirtual 133, 3), (35, .ireturn, 1), (36, .aload 4, 2), (38, .iload_n 2, 1), (39, .lconst 1, 1), (40, .invokevirtual 351, 3), (43, .ifCond .ne 9, 3), (46, .aload_n 0, 1), (47, .iconst 3, 1), (48, .invokevirtual 133, 3), (51, .ireturn, 1), (52, .aload 4, 2), (54, .getfield 355, 3), (57, .iload_n 2, 1), (58, .aload 4, 2), (60, .iload_n 3, 1), (61, .invokevirtual 358, 3), (64, .iastore, 1), (65, .iconst 1, 1), (66, .ireturn, 1)]
def i_X10_put : MI := (RX10, cX10_put, 5, (some .int), "put", { frames := 2, cells := 0, slots := 0, locals := 42 })
theorem D_X10_put : tbOK (i_X10_put).2.1 tb_X10_put := by show ∀ q ∈ tb_X10_put, decode cX10_put q.1 = .ok (q.2.1, q.2.2); decide +kernel
def po_X10_put (S : Sk) (I : II) (r : Int32 × II) : Option LV × Sk × II := (some (vI r.1), S, r.2)
def f_X10_put (fu : Nat) (S : Sk) (I : II) (a0 : Nat) (x1 : Int32) (x2 : Int32) (x3 : Int32) : Option (Int32 × II) :=
  lt (upI I a0 18 (0 : Int32)) fun I1 => (if (t_X10_isSheet x1) = 0 then some ((((-1) : Int32), I1)) else gd (inb S (S.1 a0 16) x1) (gd ((S.1 ((S.1 a0 16) - 1) (nx x1)) ≠ 0) (if (I1 ((S.1 ((S.1 a0 16) - 1) (nx x1)) - 1) 0) = 0 then (f_X10_fail fu S I1 a0 (1 : Int32)).bind fun q18 => (some ((q18.1, q18.2))) else if (t_X5_holds I1 ((S.1 ((S.1 a0 16) - 1) (nx x1)) - 1) x2 (1 : Int64)) = 0 then (f_X10_fail fu S I1 a0 (3 : Int32)).bind fun q15 => (some ((q15.1, q15.2))) else gd (inb S (S.1 ((S.1 ((S.1 a0 16) - 1) (nx x1)) - 1) 3) x2) (lt (wr I1 (S.1 ((S.1 ((S.1 a0 16) - 1) (nx x1)) - 1) 3) x2 (t_X5_cut I1 ((S.1 ((S.1 a0 16) - 1) (nx x1)) - 1) x3)) fun I14 => (some (((1 : Int32), I14)))))))
set_option maxRecDepth 100000 in
set_option maxHeartbeats 4000000 in
theorem gg_X10_put {E : EV} (fu : Nat) (S0 : Sk) (I0 : II) (a0 : Nat) (x1 : Int32) (x2 : Int32) (x3 : Int32) (ht0 : tyO S0 10 a0) : GG E i_X10_put (enM E i_X10_put S0 (po_X10_put S0 I0)) S0 I0 (0, 0) 0 [(0, vA (a0 + 1)), (1, vI x1), (2, vI x2), (3, vI x3)] [] (f_X10_put fu S0 I0 a0 x1 x2 x3) := by
  unfold f_X10_put
  refine g_aload_n (dk D_X10_put 0 rfl) rfl ?_
  refine g_iconst (v := (0 : Int32)) (dk D_X10_put 1 rfl) rfl ?_
  refine g_putIt fl_RX10_100 fp_10_18 (fun h => (by cases h)) (by decide) rfl rfl ht0 (dk D_X10_put 2 rfl) ?_
  refine g_ltI (fun I1 eI1 => ?_)
  refine g_iload_n (dk D_X10_put 3 rfl) rfl ?_
  refine h_callS (st := []) (c_X10_isSheet (E := E) S0 I1 x1) cl_RX10_115 rfl rfl (by decide) (Nat.le_of_ble_eq_true rfl) (dk D_X10_put 4 rfl) ?_
  refine g_if_ne (tgt := 14) (dk D_X10_put 5 rfl) rfl (fun hc3 => ?_) (fun hc3 => ?_)
  · refine g_aload_n (dk D_X10_put 8 rfl) rfl ?_
    refine g_getAt (t := 115) fl_RX10_93 rfl ht0 (dk D_X10_put 9 rfl) (fun ht4 => ?_)
    refine g_iload_n (dk D_X10_put 10 rfl) rfl ?_
    refine g_gd (fun hi5 => ?_)
    refine g_aaload (c0 := 5) (by unfold aoC; decide) ht4 hi5 (dk D_X10_put 11 rfl) (fun ht6 => ?_)
    refine g_astore (L' := [(0, vA (a0 + 1)), (1, vI x1), (2, vI x2), (3, vI x3), (4, vA (S0.1 ((S0.1 a0 16) - 1) (nx x1)))]) (dk D_X10_put 12 rfl) (Nat.le_of_ble_eq_true rfl) rfl ?_
    refine g_aload (dk D_X10_put 13 rfl) rfl ?_
    refine g_gd (fun hn7 => ?_)
    refine g_getI fl_RX10_347 (by decide) ht6 hn7 (dk D_X10_put 14 rfl) ?_
    refine g_if_ne (tgt := 36) (dk D_X10_put 15 rfl) rfl (fun hc8 => ?_) (fun hc8 => ?_)
    · refine g_aload (dk D_X10_put 20 rfl) rfl ?_
      refine g_iload_n (dk D_X10_put 21 rfl) rfl ?_
      refine g_lconst (v := (1 : Int64)) (dk D_X10_put 22 rfl) rfl ?_
      refine h_callV (st := []) (c_X5_holds (E := E) S0 I1 ((S0.1 ((S0.1 a0 16) - 1) (nx x1)) - 1) x2 (1 : Int64) (ht6.nz hn7)) cl_RX10_351 ht6 hn7 rfl rfl (by decide) (Nat.le_of_ble_eq_true rfl) (dk D_X10_put 23 rfl) ?_
      refine g_if_ne (tgt := 52) (dk D_X10_put 24 rfl) rfl (fun hc10 => ?_) (fun hc10 => ?_)
      · refine g_aload (dk D_X10_put 29 rfl) rfl ?_
        refine g_getA (t := 100) fl_RX10_355 rfl ht6 hn7 (dk D_X10_put 30 rfl) (fun ht11 => ?_)
        refine g_iload_n (dk D_X10_put 31 rfl) rfl ?_
        refine g_aload (dk D_X10_put 32 rfl) rfl ?_
        refine g_iload_n (dk D_X10_put 33 rfl) rfl ?_
        refine h_callV (st := [vI x2, vA (S0.1 ((S0.1 ((S0.1 a0 16) - 1) (nx x1)) - 1) 3)]) (c_X5_cut (E := E) S0 I1 ((S0.1 ((S0.1 a0 16) - 1) (nx x1)) - 1) x3 (ht6.nz hn7)) cl_RX10_358 ht6 hn7 rfl rfl (by decide) (Nat.le_of_ble_eq_true rfl) (dk D_X10_put 34 rfl) ?_
        refine g_gd (fun hi13 => ?_)
        refine g_iastore ht11 hi13 (dk D_X10_put 35 rfl) ?_
        refine g_ltI (fun I14 eI14 => ?_)
        refine g_iconst (v := (1 : Int32)) (dk D_X10_put 36 rfl) rfl ?_
        exact g_ireturn rfl rfl Sx.rf rfl (by decide) (by decide) (dk D_X10_put 37 rfl)
      · refine g_aload_n (dk D_X10_put 25 rfl) rfl ?_
        refine g_iconst (v := (3 : Int32)) (dk D_X10_put 26 rfl) rfl ?_
        refine g_bind (fun q15 hq16 => ?_)
        refine h_callVt (st := []) (c_X10_fail (E := E) fu S0 I1 a0 (3 : Int32) q15 hq16 (ht0)) cl_RX10_133 ht0 rfl rfl (by decide) (Nat.le_of_ble_eq_true rfl) (dk D_X10_put 27 rfl) ?_
        exact g_ireturn rfl rfl Sx.rf rfl (by decide) (by decide) (dk D_X10_put 28 rfl)
    · refine g_aload_n (dk D_X10_put 16 rfl) rfl ?_
      refine g_iconst (v := (1 : Int32)) (dk D_X10_put 17 rfl) rfl ?_
      refine g_bind (fun q18 hq19 => ?_)
      refine h_callVt (st := []) (c_X10_fail (E := E) fu S0 I1 a0 (1 : Int32) q18 hq19 (ht0)) cl_RX10_133 ht0 rfl rfl (by decide) (Nat.le_of_ble_eq_true rfl) (dk D_X10_put 18 rfl) ?_
      exact g_ireturn rfl rfl Sx.rf rfl (by decide) (by decide) (dk D_X10_put 19 rfl)
  · refine g_iconst (v := ((-1) : Int32)) (dk D_X10_put 6 rfl) rfl ?_
    exact g_ireturn rfl rfl Sx.rf rfl (by decide) (by decide) (dk D_X10_put 7 rfl)
theorem c_X10_put {E : EV} (fu : Nat) (S0 : Sk) (I0 : II) (a0 : Nat) (x1 : Int32) (x2 : Int32) (x3 : Int32) (r : Int32 × II) (h : f_X10_put fu S0 I0 a0 x1 x2 x3 = some r) (ht0 : tyO S0 10 a0) : MX E yX10_put i_X10_put S0 I0 [vA (a0 + 1), vI x1, vI x2, vI x3] (po_X10_put S0 I0 r) :=
  MX.of h (by decide) rfl rfl (Nat.le_of_ble_eq_true rfl) (gg_X10_put fu S0 I0 a0 x1 x2 x3 ht0)
theorem lk_RX10_361 : Cond.constantLong RX10 361 ((-9223372036854775808) : Int64) ∈ lw_good := (gm 926 (by decide +kernel) (by decide +kernel))
def tb_X10_cell : List (Nat × Instr × Nat) := [(0, .aload_n 0, 1), (1, .iconst 0, 1), (2, .putfield 100, 3), (5, .iload_n 1, 1), (6, .invokestatic 115, 3), (9, .ifCond .eq 10, 3), (12, .iload_n 3, 1), (13, .invokestatic 126, 3), (16, .ifCond .ne 7, 3), (19, .ldc2_w 361, 3), (22, .lreturn, 1), (23, .aload_n 0, 1), (24, .getfield 93, 3), (27, .iload_n 1, 1), (28, .aaload, 1), (29, .iload_n 3, 1), (30, .iload_n 2, 1), (31, .iconst 1, 1), (32, .iconst 1, 1), (33, .invokevirtual 129, 3), (36, .istore 4, 2), (38, .iload 4, 2), (40, .ifCond .eq 13, 3), (43, .aload_n 0, 1), (44, .iload 4, 2), (46, .putfield 100, 3), (49, .ldc2_w 361, 3), (52, .lreturn, 1), (53, .aload_n 0, 1), (54, .getfield 93, 3), (57, .iload_n 1, 1), (58, .aaload, 1), (59, .getfield 355, 3), (62, .iload_n 2, 1), (63, .iaload, 1), (64, .i2l, 1), (65, .lreturn, 1)]
def i_X10_cell : MI := (RX10, cX10_cell, 5, (some .long), "cell", { frames := 2, cells := 0, slots := 0, locals := 47 })
theorem D_X10_cell : tbOK (i_X10_cell).2.1 tb_X10_cell := by show ∀ q ∈ tb_X10_cell, decode cX10_cell q.1 = .ok (q.2.1, q.2.2); decide +kernel
def po_X10_cell (S : Sk) (I : II) (r : Int64 × II) : Option LV × Sk × II := (some (vL r.1), S, r.2)
def jn_X10_cell_19 (fu : Nat) (S : Sk) (I : II) (a0 : Nat) : Option (Int64 × II) :=
  some ((((-9223372036854775808) : Int64), I))
def f_X10_cell (fu : Nat) (S : Sk) (I : II) (a0 : Nat) (x1 : Int32) (x2 : Int32) (x3 : Int32) : Option (Int64 × II) :=
  lt (upI I a0 18 (0 : Int32)) fun I1 => (if (t_X10_isSheet x1) = 0 then jn_X10_cell_19 fu S I1 a0 else if (t_X10_isLane x3) = 0 then jn_X10_cell_19 fu S I1 a0 else gd (inb S (S.1 a0 16) x1) (gd ((S.1 ((S.1 a0 16) - 1) (nx x1)) ≠ 0) (lt (t_X5_rowFault I1 ((S.1 ((S.1 a0 16) - 1) (nx x1)) - 1) x3 x2 (1 : Int32) (1 : Int32)) fun x4_11 => (if x4_11 = 0 then gd (inb S (S.1 ((S.1 ((S.1 a0 16) - 1) (nx x1)) - 1) 3) x2) (some ((((rd I1 (S.1 ((S.1 ((S.1 a0 16) - 1) (nx x1)) - 1) 3) x2)).toInt64, I1))) else lt (upI I1 a0 18 x4_11) fun I17 => (some ((((-9223372036854775808) : Int64), I17)))))))
set_option maxRecDepth 100000 in
set_option maxHeartbeats 4000000 in
theorem gg_X10_cell {E : EV} (fu : Nat) (S0 : Sk) (I0 : II) (a0 : Nat) (x1 : Int32) (x2 : Int32) (x3 : Int32) (ht0 : tyO S0 10 a0) : GG E i_X10_cell (enM E i_X10_cell S0 (po_X10_cell S0 I0)) S0 I0 (0, 0) 0 [(0, vA (a0 + 1)), (1, vI x1), (2, vI x2), (3, vI x3)] [] (f_X10_cell fu S0 I0 a0 x1 x2 x3) := by
  have hj19 : ∀ (I : II), GG E i_X10_cell (enM E i_X10_cell S0 (po_X10_cell S0 I0)) S0 I (0, 0) 19 [] [] (jn_X10_cell_19 fu S0 I a0) := by
    intro I  
    unfold jn_X10_cell_19
    refine g_ldc2 (dk D_X10_cell 9 rfl) lk_RX10_361 ?_
    exact g_lreturn rfl rfl Sx.rf rfl (by decide) (by decide) (dk D_X10_cell 10 rfl)
  unfold f_X10_cell
  refine g_aload_n (dk D_X10_cell 0 rfl) rfl ?_
  refine g_iconst (v := (0 : Int32)) (dk D_X10_cell 1 rfl) rfl ?_
  refine g_putIt fl_RX10_100 fp_10_18 (fun h => (by cases h)) (by decide) rfl rfl ht0 (dk D_X10_cell 2 rfl) ?_
  refine g_ltI (fun I1 eI1 => ?_)
  refine g_iload_n (dk D_X10_cell 3 rfl) rfl ?_
  refine h_callS (st := []) (c_X10_isSheet (E := E) S0 I1 x1) cl_RX10_115 rfl rfl (by decide) (Nat.le_of_ble_eq_true rfl) (dk D_X10_cell 4 rfl) ?_
  refine g_if_eq (tgt := 19) (dk D_X10_cell 5 rfl) rfl (fun hc3 => ?_) (fun hc3 => ?_)
  · refine g_Lp [] rfl ?_
    exact hj19 I1
  · refine g_iload_n (dk D_X10_cell 6 rfl) rfl ?_
    refine h_callS (st := []) (c_X10_isLane (E := E) S0 I1 x3) cl_RX10_126 rfl rfl (by decide) (Nat.le_of_ble_eq_true rfl) (dk D_X10_cell 7 rfl) ?_
    refine g_if_ne (tgt := 23) (dk D_X10_cell 8 rfl) rfl (fun hc5 => ?_) (fun hc5 => ?_)
    · refine g_aload_n (dk D_X10_cell 11 rfl) rfl ?_
      refine g_getAt (t := 115) fl_RX10_93 rfl ht0 (dk D_X10_cell 12 rfl) (fun ht6 => ?_)
      refine g_iload_n (dk D_X10_cell 13 rfl) rfl ?_
      refine g_gd (fun hi7 => ?_)
      refine g_aaload (c0 := 5) (by unfold aoC; decide) ht6 hi7 (dk D_X10_cell 14 rfl) (fun ht8 => ?_)
      refine g_iload_n (dk D_X10_cell 15 rfl) rfl ?_
      refine g_iload_n (dk D_X10_cell 16 rfl) rfl ?_
      refine g_iconst (v := (1 : Int32)) (dk D_X10_cell 17 rfl) rfl ?_
      refine g_iconst (v := (1 : Int32)) (dk D_X10_cell 18 rfl) rfl ?_
      refine g_gd (fun hn9 => ?_)
      refine h_callV (st := []) (c_X5_rowFault (E := E) S0 I1 ((S0.1 ((S0.1 a0 16) - 1) (nx x1)) - 1) x3 x2 (1 : Int32) (1 : Int32) (ht8.nz hn9)) cl_RX10_129 ht8 hn9 rfl rfl (by decide) (Nat.le_of_ble_eq_true rfl) (dk D_X10_cell 19 rfl) ?_
      refine g_ltV (fun x4_11 ex4_11 => ?_)
      refine g_istore (L' := [(0, vA (a0 + 1)), (1, vI x1), (2, vI x2), (3, vI x3), (4, vI x4_11)]) (dk D_X10_cell 20 rfl) (Nat.le_of_ble_eq_true rfl) rfl ?_
      refine g_iload (dk D_X10_cell 21 rfl) rfl ?_
      refine g_if_eq (tgt := 53) (dk D_X10_cell 22 rfl) rfl (fun hc12 => ?_) (fun hc12 => ?_)
      · refine g_aload_n (dk D_X10_cell 28 rfl) rfl ?_
        refine g_getAt (t := 115) fl_RX10_93 rfl ht0 (dk D_X10_cell 29 rfl) (fun ht13 => ?_)
        refine g_iload_n (dk D_X10_cell 30 rfl) rfl ?_
        refine g_aaload (c0 := 5) (by unfold aoC; decide) ht6 hi7 (dk D_X10_cell 31 rfl) (fun ht14 => ?_)
        refine g_getA (t := 100) fl_RX10_355 rfl ht8 hn9 (dk D_X10_cell 32 rfl) (fun ht15 => ?_)
        refine g_iload_n (dk D_X10_cell 33 rfl) rfl ?_
        refine g_gd (fun hi16 => ?_)
        refine g_iaload ht15 hi16 (dk D_X10_cell 34 rfl) ?_
        refine g_i2l (dk D_X10_cell 35 rfl) ?_
        exact g_lreturn rfl rfl Sx.rf rfl (by decide) (by decide) (dk D_X10_cell 36 rfl)
      · refine g_aload_n (dk D_X10_cell 23 rfl) rfl ?_
        refine g_iload (dk D_X10_cell 24 rfl) rfl ?_
        refine g_putIt fl_RX10_100 fp_10_18 (fun h => (by cases h)) (by decide) rfl rfl ht0 (dk D_X10_cell 25 rfl) ?_
        refine g_ltI (fun I17 eI17 => ?_)
        refine g_ldc2 (dk D_X10_cell 26 rfl) lk_RX10_361 ?_
        exact g_lreturn rfl rfl Sx.rf rfl (by decide) (by decide) (dk D_X10_cell 27 rfl)
    · refine g_Lp [] rfl ?_
      exact hj19 I1
theorem c_X10_cell {E : EV} (fu : Nat) (S0 : Sk) (I0 : II) (a0 : Nat) (x1 : Int32) (x2 : Int32) (x3 : Int32) (r : Int64 × II) (h : f_X10_cell fu S0 I0 a0 x1 x2 x3 = some r) (ht0 : tyO S0 10 a0) : MX E yX10_cell i_X10_cell S0 I0 [vA (a0 + 1), vI x1, vI x2, vI x3] (po_X10_cell S0 I0 r) :=
  MX.of h (by decide) rfl rfl (Nat.le_of_ble_eq_true rfl) (gg_X10_cell fu S0 I0 a0 x1 x2 x3 ht0)
theorem fl_RX10_363 : FL RX10 363 5 1 := ⟨RX5, TX5, 4, rfl, by decide, rfl, by decide, (gm 250 (by decide +kernel) (by decide +kernel)), inG5⟩
theorem lk_RX10_366 : Cond.methodLink RX10 366 arraycopyName ∈ lw_good := (gm 931 (by decide +kernel) (by decide +kernel))
def tb_X10_copy : List (Nat × Instr × Nat) := [(0, .aload_n 0, 1), (1, .iconst 0, 1), (2, .putfield 100, 3), (5, .iload_n 1, 1), (6, .invokestatic 115, 3), (9, .ifCond .eq 10, 3), (12, .iload_n 3, 1), (13, .invokestatic 115, 3), (16, .ifCond .ne 5, 3), (19, .iconst (-1), 1), (20, .ireturn, 1), (21, .aload_n 0, 1), (22, .getfield 93, 3), (25, .iload_n 1, 1), (26, .aaload, 1), (27, .astore 6, 2), (29, .aload_n 0, 1), (30, .getfield 93, 3), (33, .iload_n 3, 1), (34, .aaload, 1), (35, .astore 7, 2), (37, .aload 6, 2), (39, .getfield 347, 3), (42, .ifCond .eq 11, 3), (45, .aload 7, 2), (47, .getfield 347, 3), (50, .ifCond .ne 9, 3), (53, .aload_n 0, 1), (54, .iconst 1, 1), (55, .invokevirtual 133, 3), (58, .ireturn, 1), (59, .aload 6, 2), (61, .getfield 363, 3), (64, .aload 7, 2), (66, .getfield 363, 3), (69, .if_icmp .eq 9, 3), (72, .aload_n 0, 1), (73, .iconst 2, 1), (74, .invokevirtual 133, 3), (77, .ireturn, 1), (78, .aload 6, 2), (80, .iload_n 2, 1), (81, .iload 5, 2), (83, .i2l, 1), (84, .invokevirtual 351, 3), (87, .ifCond .eq 16, 3), (90, .aload 7, 2), (92, .iload 4, 2), (94, .iload 5, 2), (96, .i2l, 1), (97, .invokevirtual 351, 3), (100, .ifCond .ne 9, 3), (103, .aload_n 0, 1), (104, .iconst 3, 1), (105, .invokevirtual 133, 3), (108, .ireturn, 1), (109, .aload 6, 2), (111, .getfield 355, 3), (114, .iload_n 2, 1), (115, .aload 7, 2), (117, .getfield 355, 3), (120, .iload 4, 2), (122, .iload 5, 2), (124, .invokestatic 366, 3), (127, .iload 5, 2), (129, .ireturn, 1)]
def i_X10_copy : MI := (RX10, cX10_copy, 8, (some .int), "copy", { frames := 2, cells := 0, slots := 0, locals := 80 })
theorem D_X10_copy : tbOK (i_X10_copy).2.1 tb_X10_copy := by show ∀ q ∈ tb_X10_copy, decode cX10_copy q.1 = .ok (q.2.1, q.2.2); decide +kernel
def po_X10_copy (S : Sk) (I : II) (r : Int32 × II) : Option LV × Sk × II := (some (vI r.1), S, r.2)
def jn_X10_copy_53 (fu : Nat) (S : Sk) (I : II) (a0 : Nat) : Option (Int32 × II) :=
  (f_X10_fail fu S I a0 (1 : Int32)).bind fun q1 => (some ((q1.1, q1.2)))
def jn_X10_copy_103 (fu : Nat) (S : Sk) (I : II) (a0 : Nat) : Option (Int32 × II) :=
  (f_X10_fail fu S I a0 (3 : Int32)).bind fun q4 => (some ((q4.1, q4.2)))
def f_X10_copy (fu : Nat) (S : Sk) (I : II) (a0 : Nat) (x1 : Int32) (x2 : Int32) (x3 : Int32) (x4 : Int32) (x5 : Int32) : Option (Int32 × II) :=
  lt (upI I a0 18 (0 : Int32)) fun I7 => (if (t_X10_isSheet x1) = 0 then some ((((-1) : Int32), I7)) else if (t_X10_isSheet x3) = 0 then some ((((-1) : Int32), I7)) else gd (inb S (S.1 a0 16) x1) (gd (inb S (S.1 a0 16) x3) (gd ((S.1 ((S.1 a0 16) - 1) (nx x1)) ≠ 0) (if (I7 ((S.1 ((S.1 a0 16) - 1) (nx x1)) - 1) 0) = 0 then jn_X10_copy_53 fu S I7 a0 else gd ((S.1 ((S.1 a0 16) - 1) (nx x3)) ≠ 0) (if (I7 ((S.1 ((S.1 a0 16) - 1) (nx x3)) - 1) 0) = 0 then jn_X10_copy_53 fu S I7 a0 else if (I7 ((S.1 ((S.1 a0 16) - 1) (nx x1)) - 1) 1) = (I7 ((S.1 ((S.1 a0 16) - 1) (nx x3)) - 1) 1) then if (t_X5_holds I7 ((S.1 ((S.1 a0 16) - 1) (nx x1)) - 1) x2 x5.toInt64) = 0 then jn_X10_copy_103 fu S I7 a0 else if (t_X5_holds I7 ((S.1 ((S.1 a0 16) - 1) (nx x3)) - 1) x4 x5.toInt64) = 0 then jn_X10_copy_103 fu S I7 a0 else gd (inC S (S.1 ((S.1 ((S.1 a0 16) - 1) (nx x1)) - 1) 3) x2 (S.1 ((S.1 ((S.1 a0 16) - 1) (nx x3)) - 1) 3) x4 x5) (lt (cpI I7 (S.1 ((S.1 ((S.1 a0 16) - 1) (nx x1)) - 1) 3) x2 (S.1 ((S.1 ((S.1 a0 16) - 1) (nx x3)) - 1) 3) x4 x5) fun I30 => (some ((x5, I30)))) else (f_X10_fail fu S I7 a0 (2 : Int32)).bind fun q31 => (some ((q31.1, q31.2))))))))
set_option maxRecDepth 100000 in
set_option maxHeartbeats 4000000 in
theorem gg_X10_copy {E : EV} (fu : Nat) (S0 : Sk) (I0 : II) (a0 : Nat) (x1 : Int32) (x2 : Int32) (x3 : Int32) (x4 : Int32) (x5 : Int32) (ht0 : tyO S0 10 a0) : GG E i_X10_copy (enM E i_X10_copy S0 (po_X10_copy S0 I0)) S0 I0 (0, 0) 0 [(0, vA (a0 + 1)), (1, vI x1), (2, vI x2), (3, vI x3), (4, vI x4), (5, vI x5)] [] (f_X10_copy fu S0 I0 a0 x1 x2 x3 x4 x5) := by
  have hj53 : ∀ (I : II), GG E i_X10_copy (enM E i_X10_copy S0 (po_X10_copy S0 I0)) S0 I (0, 0) 53 [(0, vA (a0 + 1))] [] (jn_X10_copy_53 fu S0 I a0) := by
    intro I  
    unfold jn_X10_copy_53
    refine g_aload_n (dk D_X10_copy 27 rfl) rfl ?_
    refine g_iconst (v := (1 : Int32)) (dk D_X10_copy 28 rfl) rfl ?_
    refine g_bind (fun q1 hq2 => ?_)
    refine h_callVt (st := []) (c_X10_fail (E := E) fu S0 I a0 (1 : Int32) q1 hq2 (ht0)) cl_RX10_133 ht0 rfl rfl (by decide) (Nat.le_of_ble_eq_true rfl) (dk D_X10_copy 29 rfl) ?_
    exact g_ireturn rfl rfl Sx.rf rfl (by decide) (by decide) (dk D_X10_copy 30 rfl)
  have hj103 : ∀ (I : II), GG E i_X10_copy (enM E i_X10_copy S0 (po_X10_copy S0 I0)) S0 I (0, 0) 103 [(0, vA (a0 + 1))] [] (jn_X10_copy_103 fu S0 I a0) := by
    intro I  
    unfold jn_X10_copy_103
    refine g_aload_n (dk D_X10_copy 52 rfl) rfl ?_
    refine g_iconst (v := (3 : Int32)) (dk D_X10_copy 53 rfl) rfl ?_
    refine g_bind (fun q4 hq5 => ?_)
    refine h_callVt (st := []) (c_X10_fail (E := E) fu S0 I a0 (3 : Int32) q4 hq5 (ht0)) cl_RX10_133 ht0 rfl rfl (by decide) (Nat.le_of_ble_eq_true rfl) (dk D_X10_copy 54 rfl) ?_
    exact g_ireturn rfl rfl Sx.rf rfl (by decide) (by decide) (dk D_X10_copy 55 rfl)
  unfold f_X10_copy
  refine g_aload_n (dk D_X10_copy 0 rfl) rfl ?_
  refine g_iconst (v := (0 : Int32)) (dk D_X10_copy 1 rfl) rfl ?_
  refine g_putIt fl_RX10_100 fp_10_18 (fun h => (by cases h)) (by decide) rfl rfl ht0 (dk D_X10_copy 2 rfl) ?_
  refine g_ltI (fun I7 eI7 => ?_)
  refine g_iload_n (dk D_X10_copy 3 rfl) rfl ?_
  refine h_callS (st := []) (c_X10_isSheet (E := E) S0 I7 x1) cl_RX10_115 rfl rfl (by decide) (Nat.le_of_ble_eq_true rfl) (dk D_X10_copy 4 rfl) ?_
  refine g_if_eq (tgt := 19) (dk D_X10_copy 5 rfl) rfl (fun hc9 => ?_) (fun hc9 => ?_)
  · refine g_iconst (v := ((-1) : Int32)) (dk D_X10_copy 9 rfl) rfl ?_
    exact g_ireturn rfl rfl Sx.rf rfl (by decide) (by decide) (dk D_X10_copy 10 rfl)
  · refine g_iload_n (dk D_X10_copy 6 rfl) rfl ?_
    refine h_callS (st := []) (c_X10_isSheet (E := E) S0 I7 x3) cl_RX10_115 rfl rfl (by decide) (Nat.le_of_ble_eq_true rfl) (dk D_X10_copy 7 rfl) ?_
    refine g_if_ne (tgt := 21) (dk D_X10_copy 8 rfl) rfl (fun hc11 => ?_) (fun hc11 => ?_)
    · refine g_aload_n (dk D_X10_copy 11 rfl) rfl ?_
      refine g_getAt (t := 115) fl_RX10_93 rfl ht0 (dk D_X10_copy 12 rfl) (fun ht12 => ?_)
      refine g_iload_n (dk D_X10_copy 13 rfl) rfl ?_
      refine g_gd (fun hi13 => ?_)
      refine g_aaload (c0 := 5) (by unfold aoC; decide) ht12 hi13 (dk D_X10_copy 14 rfl) (fun ht14 => ?_)
      refine g_astore (L' := [(0, vA (a0 + 1)), (1, vI x1), (2, vI x2), (3, vI x3), (4, vI x4), (5, vI x5), (6, vA (S0.1 ((S0.1 a0 16) - 1) (nx x1)))]) (dk D_X10_copy 15 rfl) (Nat.le_of_ble_eq_true rfl) rfl ?_
      refine g_aload_n (dk D_X10_copy 16 rfl) rfl ?_
      refine g_getAt (t := 115) fl_RX10_93 rfl ht0 (dk D_X10_copy 17 rfl) (fun ht15 => ?_)
      refine g_iload_n (dk D_X10_copy 18 rfl) rfl ?_
      refine g_gd (fun hi16 => ?_)
      refine g_aaload (c0 := 5) (by unfold aoC; decide) ht12 hi16 (dk D_X10_copy 19 rfl) (fun ht17 => ?_)
      refine g_astore (L' := [(0, vA (a0 + 1)), (1, vI x1), (2, vI x2), (3, vI x3), (4, vI x4), (5, vI x5), (6, vA (S0.1 ((S0.1 a0 16) - 1) (nx x1))), (7, vA (S0.1 ((S0.1 a0 16) - 1) (nx x3)))]) (dk D_X10_copy 20 rfl) (Nat.le_of_ble_eq_true rfl) rfl ?_
      refine g_aload (dk D_X10_copy 21 rfl) rfl ?_
      refine g_gd (fun hn18 => ?_)
      refine g_getI fl_RX10_347 (by decide) ht14 hn18 (dk D_X10_copy 22 rfl) ?_
      refine g_if_eq (tgt := 53) (dk D_X10_copy 23 rfl) rfl (fun hc19 => ?_) (fun hc19 => ?_)
      · refine g_Lp [0] rfl ?_
        exact hj53 I7
      · refine g_aload (dk D_X10_copy 24 rfl) rfl ?_
        refine g_gd (fun hn20 => ?_)
        refine g_getI fl_RX10_347 (by decide) ht17 hn20 (dk D_X10_copy 25 rfl) ?_
        refine g_if_ne (tgt := 59) (dk D_X10_copy 26 rfl) rfl (fun hc21 => ?_) (fun hc21 => ?_)
        · refine g_aload (dk D_X10_copy 31 rfl) rfl ?_
          refine g_getI fl_RX10_363 (by decide) ht14 hn18 (dk D_X10_copy 32 rfl) ?_
          refine g_aload (dk D_X10_copy 33 rfl) rfl ?_
          refine g_getI fl_RX10_363 (by decide) ht17 hn20 (dk D_X10_copy 34 rfl) ?_
          refine g_icmp_eq (tgt := 78) (dk D_X10_copy 35 rfl) rfl (fun hc22 => ?_) (fun hc22 => ?_)
          · refine g_aload (dk D_X10_copy 40 rfl) rfl ?_
            refine g_iload_n (dk D_X10_copy 41 rfl) rfl ?_
            refine g_iload (dk D_X10_copy 42 rfl) rfl ?_
            refine g_i2l (dk D_X10_copy 43 rfl) ?_
            refine h_callV (st := []) (c_X5_holds (E := E) S0 I7 ((S0.1 ((S0.1 a0 16) - 1) (nx x1)) - 1) x2 x5.toInt64 (ht14.nz hn18)) cl_RX10_351 ht14 hn18 rfl rfl (by decide) (Nat.le_of_ble_eq_true rfl) (dk D_X10_copy 44 rfl) ?_
            refine g_if_eq (tgt := 103) (dk D_X10_copy 45 rfl) rfl (fun hc24 => ?_) (fun hc24 => ?_)
            · refine g_Lp [0] rfl ?_
              exact hj103 I7
            · refine g_aload (dk D_X10_copy 46 rfl) rfl ?_
              refine g_iload (dk D_X10_copy 47 rfl) rfl ?_
              refine g_iload (dk D_X10_copy 48 rfl) rfl ?_
              refine g_i2l (dk D_X10_copy 49 rfl) ?_
              refine h_callV (st := []) (c_X5_holds (E := E) S0 I7 ((S0.1 ((S0.1 a0 16) - 1) (nx x3)) - 1) x4 x5.toInt64 (ht17.nz hn20)) cl_RX10_351 ht17 hn20 rfl rfl (by decide) (Nat.le_of_ble_eq_true rfl) (dk D_X10_copy 50 rfl) ?_
              refine g_if_ne (tgt := 109) (dk D_X10_copy 51 rfl) rfl (fun hc26 => ?_) (fun hc26 => ?_)
              · refine g_aload (dk D_X10_copy 56 rfl) rfl ?_
                refine g_getA (t := 100) fl_RX10_355 rfl ht14 hn18 (dk D_X10_copy 57 rfl) (fun ht27 => ?_)
                refine g_iload_n (dk D_X10_copy 58 rfl) rfl ?_
                refine g_aload (dk D_X10_copy 59 rfl) rfl ?_
                refine g_getA (t := 100) fl_RX10_355 rfl ht17 hn20 (dk D_X10_copy 60 rfl) (fun ht28 => ?_)
                refine g_iload (dk D_X10_copy 61 rfl) rfl ?_
                refine g_iload (dk D_X10_copy 62 rfl) rfl ?_
                refine g_gd (fun hi29 => ?_)
                refine g_acopy lk_RX10_366 lk_acp ht27 ht28 hi29 (by decide) (by decide +kernel) (dk D_X10_copy 63 rfl) ?_
                refine g_ltI (fun I30 eI30 => ?_)
                refine g_iload (dk D_X10_copy 64 rfl) rfl ?_
                exact g_ireturn rfl rfl Sx.rf rfl (by decide) (by decide) (dk D_X10_copy 65 rfl)
              · refine g_Lp [0] rfl ?_
                exact hj103 I7
          · refine g_aload_n (dk D_X10_copy 36 rfl) rfl ?_
            refine g_iconst (v := (2 : Int32)) (dk D_X10_copy 37 rfl) rfl ?_
            refine g_bind (fun q31 hq32 => ?_)
            refine h_callVt (st := []) (c_X10_fail (E := E) fu S0 I7 a0 (2 : Int32) q31 hq32 (ht0)) cl_RX10_133 ht0 rfl rfl (by decide) (Nat.le_of_ble_eq_true rfl) (dk D_X10_copy 38 rfl) ?_
            exact g_ireturn rfl rfl Sx.rf rfl (by decide) (by decide) (dk D_X10_copy 39 rfl)
        · refine g_Lp [0] rfl ?_
          exact hj53 I7
    · refine g_iconst (v := ((-1) : Int32)) (dk D_X10_copy 9 rfl) rfl ?_
      exact g_ireturn rfl rfl Sx.rf rfl (by decide) (by decide) (dk D_X10_copy 10 rfl)
theorem c_X10_copy {E : EV} (fu : Nat) (S0 : Sk) (I0 : II) (a0 : Nat) (x1 : Int32) (x2 : Int32) (x3 : Int32) (x4 : Int32) (x5 : Int32) (r : Int32 × II) (h : f_X10_copy fu S0 I0 a0 x1 x2 x3 x4 x5 = some r) (ht0 : tyO S0 10 a0) : MX E yX10_copy i_X10_copy S0 I0 [vA (a0 + 1), vI x1, vI x2, vI x3, vI x4, vI x5] (po_X10_copy S0 I0 r) :=
  MX.of h (by decide) rfl rfl (Nat.le_of_ble_eq_true rfl) (gg_X10_copy fu S0 I0 a0 x1 x2 x3 x4 x5 ht0)
def tb_X10_leave : List (Nat × Instr × Nat) := [(0, .aload_n 0, 1), (1, .bipush 31, 2), (3, .aload_n 0, 1), (4, .getfield 97, 3), (7, .imul, 1), (8, .iload_n 1, 1), (9, .iadd, 1), (10, .putfield 97, 3), (13, .return_, 1)]
def i_X10_leave : MI := (RX10, cX10_leave, 2, none, "leave", { frames := 0, cells := 0, slots := 0, locals := 0 })
theorem D_X10_leave : tbOK (i_X10_leave).2.1 tb_X10_leave := by show ∀ q ∈ tb_X10_leave, decode cX10_leave q.1 = .ok (q.2.1, q.2.2); decide +kernel
def po_X10_leave (S : Sk) (I : II) (r : II) : Option LV × Sk × II := (none, S, r)
def f_X10_leave (fu : Nat) (S : Sk) (I : II) (a0 : Nat) (x1 : Int32) : Option (II) :=
  lt (upI I a0 17 (((31 : Int32) * (I a0 17)) + x1)) fun I1 => (some (I1))
set_option maxRecDepth 100000 in
set_option maxHeartbeats 4000000 in
theorem gg_X10_leave {E : EV} (fu : Nat) (S0 : Sk) (I0 : II) (a0 : Nat) (x1 : Int32) (ht0 : tyO S0 10 a0) : GG E i_X10_leave (enM E i_X10_leave S0 (po_X10_leave S0 I0)) S0 I0 (0, 0) 0 [(0, vA (a0 + 1)), (1, vI x1)] [] (f_X10_leave fu S0 I0 a0 x1) := by
  unfold f_X10_leave
  refine g_aload_n (dk D_X10_leave 0 rfl) rfl ?_
  refine g_bipush (v := (31 : Int32)) (dk D_X10_leave 1 rfl) rfl ?_
  refine g_aload_n (dk D_X10_leave 2 rfl) rfl ?_
  refine g_getIt fl_RX10_97 (by decide) ht0 (dk D_X10_leave 3 rfl) ?_
  refine g_imul (dk D_X10_leave 4 rfl) ?_
  refine g_iload_n (dk D_X10_leave 5 rfl) rfl ?_
  refine g_iadd (dk D_X10_leave 6 rfl) ?_
  refine g_putIt fl_RX10_97 fp_10_17 (fun h => (by cases h)) (by decide) rfl rfl ht0 (dk D_X10_leave 7 rfl) ?_
  refine g_ltI (fun I1 eI1 => ?_)
  exact g_return rfl rfl Sx.rf rfl (by decide) (by decide) (dk D_X10_leave 8 rfl)
theorem c_X10_leave {E : EV} (fu : Nat) (S0 : Sk) (I0 : II) (a0 : Nat) (x1 : Int32) (r : II) (h : f_X10_leave fu S0 I0 a0 x1 = some r) (ht0 : tyO S0 10 a0) : MX E yX10_leave i_X10_leave S0 I0 [vA (a0 + 1), vI x1] (po_X10_leave S0 I0 r) :=
  MX.of h (by decide) rfl rfl (Nat.le_of_ble_eq_true rfl) (gg_X10_leave fu S0 I0 a0 x1 ht0)
theorem cl_RX10_381 : CV0 RX10 381 yX10_leave i_X10_leave 1 10 := ⟨⟨(gm 940 (by decide +kernel) (by decide +kernel)), (gm 66 (by decide +kernel) (by decide +kernel)), ((gm 943 (by decide +kernel) (by decide +kernel))), by decide +kernel, by decide +kernel, by decide +kernel⟩, ⟨(gm 942 (by decide +kernel) (by decide +kernel)), (gm 22 (by decide +kernel) (by decide +kernel))⟩, rfl, by decide⟩
def tb_X10_toldByLine : List (Nat × Instr × Nat) := [(0, .aload_n 0, 1), (1, .iconst 1, 1), (2, .invokevirtual 381, 3), (5, .aload_n 1, 1), (6, .getfield 171, 3), (9, .ireturn, 1)]
def i_X10_toldByLine : MI := (RX10, cX10_toldByLine, 2, (some .int), "toldByLine", { frames := 1, cells := 0, slots := 0, locals := 21 })
theorem D_X10_toldByLine : tbOK (i_X10_toldByLine).2.1 tb_X10_toldByLine := by show ∀ q ∈ tb_X10_toldByLine, decode cX10_toldByLine q.1 = .ok (q.2.1, q.2.2); decide +kernel
def po_X10_toldByLine (S : Sk) (I : II) (r : Int32 × II) : Option LV × Sk × II := (some (vI r.1), S, r.2)
def f_X10_toldByLine (fu : Nat) (S : Sk) (I : II) (a0 : Nat) (r1 : Nat) : Option (Int32 × II) :=
  (f_X10_leave fu S I a0 (1 : Int32)).bind fun q1 => (gd (r1 ≠ 0) (some (((q1 (r1 - 1) 5), q1))))
set_option maxRecDepth 100000 in
set_option maxHeartbeats 4000000 in
theorem gg_X10_toldByLine {E : EV} (fu : Nat) (S0 : Sk) (I0 : II) (a0 : Nat) (r1 : Nat) (ht0 : tyO S0 10 a0) (h_r1 : tyR S0 1 r1) : GG E i_X10_toldByLine (enM E i_X10_toldByLine S0 (po_X10_toldByLine S0 I0)) S0 I0 (0, 0) 0 [(0, vA (a0 + 1)), (1, vA r1)] [] (f_X10_toldByLine fu S0 I0 a0 r1) := by
  unfold f_X10_toldByLine
  refine g_aload_n (dk D_X10_toldByLine 0 rfl) rfl ?_
  refine g_iconst (v := (1 : Int32)) (dk D_X10_toldByLine 1 rfl) rfl ?_
  refine g_bind (fun q1 hq2 => ?_)
  refine h_callVt (st := []) (c_X10_leave (E := E) fu S0 I0 a0 (1 : Int32) q1 hq2 (ht0)) cl_RX10_381 ht0 rfl rfl (by decide) (Nat.le_of_ble_eq_true rfl) (dk D_X10_toldByLine 2 rfl) ?_
  refine g_aload_n (dk D_X10_toldByLine 3 rfl) rfl ?_
  refine g_gd (fun hn4 => ?_)
  refine g_getI fl_RX10_171 (by decide) h_r1 hn4 (dk D_X10_toldByLine 4 rfl) ?_
  exact g_ireturn rfl rfl Sx.rf rfl (by decide) (by decide) (dk D_X10_toldByLine 5 rfl)
theorem c_X10_toldByLine {E : EV} (fu : Nat) (S0 : Sk) (I0 : II) (a0 : Nat) (r1 : Nat) (r : Int32 × II) (h : f_X10_toldByLine fu S0 I0 a0 r1 = some r) (ht0 : tyO S0 10 a0) (h_r1 : tyR S0 1 r1) : MX E yX10_toldByLine i_X10_toldByLine S0 I0 [vA (a0 + 1), vA r1] (po_X10_toldByLine S0 I0 r) :=
  MX.of h (by decide) rfl rfl (Nat.le_of_ble_eq_true rfl) (gg_X10_toldByLine fu S0 I0 a0 r1 ht0 h_r1)
theorem cl_RX10_378 : CV0 RX10 378 yX10_toldByLine i_X10_toldByLine 1 10 := ⟨⟨(gm 948 (by decide +kernel) (by decide +kernel)), (gm 66 (by decide +kernel) (by decide +kernel)), ((gm 951 (by decide +kernel) (by decide +kernel))), by decide +kernel, by decide +kernel, by decide +kernel⟩, ⟨(gm 950 (by decide +kernel) (by decide +kernel)), (gm 24 (by decide +kernel) (by decide +kernel))⟩, rfl, by decide⟩
def tb_X10_toldBySchool : List (Nat × Instr × Nat) := [(0, .aload_n 0, 1), (1, .iconst 2, 1), (2, .invokevirtual 381, 3), (5, .aload_n 0, 1), (6, .aload_n 1, 1), (7, .invokevirtual 378, 3), (10, .aload_n 1, 1), (11, .getfield 174, 3), (14, .iadd, 1), (15, .ireturn, 1)]
def i_X10_toldBySchool : MI := (RX10, cX10_toldBySchool, 2, (some .int), "toldBySchool", { frames := 2, cells := 0, slots := 0, locals := 42 })
theorem D_X10_toldBySchool : tbOK (i_X10_toldBySchool).2.1 tb_X10_toldBySchool := by show ∀ q ∈ tb_X10_toldBySchool, decode cX10_toldBySchool q.1 = .ok (q.2.1, q.2.2); decide +kernel
def po_X10_toldBySchool (S : Sk) (I : II) (r : Int32 × II) : Option LV × Sk × II := (some (vI r.1), S, r.2)
def f_X10_toldBySchool (fu : Nat) (S : Sk) (I : II) (a0 : Nat) (r1 : Nat) : Option (Int32 × II) :=
  (f_X10_leave fu S I a0 (2 : Int32)).bind fun q1 => ((f_X10_toldByLine fu S q1 a0 r1).bind fun q4 => (gd (r1 ≠ 0) (some (((q4.1 + (q4.2 (r1 - 1) 2)), q4.2)))))
set_option maxRecDepth 100000 in
set_option maxHeartbeats 4000000 in
theorem gg_X10_toldBySchool {E : EV} (fu : Nat) (S0 : Sk) (I0 : II) (a0 : Nat) (r1 : Nat) (ht0 : tyO S0 10 a0) (h_r1 : tyR S0 1 r1) : GG E i_X10_toldBySchool (enM E i_X10_toldBySchool S0 (po_X10_toldBySchool S0 I0)) S0 I0 (0, 0) 0 [(0, vA (a0 + 1)), (1, vA r1)] [] (f_X10_toldBySchool fu S0 I0 a0 r1) := by
  unfold f_X10_toldBySchool
  refine g_aload_n (dk D_X10_toldBySchool 0 rfl) rfl ?_
  refine g_iconst (v := (2 : Int32)) (dk D_X10_toldBySchool 1 rfl) rfl ?_
  refine g_bind (fun q1 hq2 => ?_)
  refine h_callVt (st := []) (c_X10_leave (E := E) fu S0 I0 a0 (2 : Int32) q1 hq2 (ht0)) cl_RX10_381 ht0 rfl rfl (by decide) (Nat.le_of_ble_eq_true rfl) (dk D_X10_toldBySchool 2 rfl) ?_
  refine g_aload_n (dk D_X10_toldBySchool 3 rfl) rfl ?_
  refine g_aload_n (dk D_X10_toldBySchool 4 rfl) rfl ?_
  refine g_bind (fun q4 hq5 => ?_)
  refine h_callVt (st := []) (c_X10_toldByLine (E := E) fu S0 q1 a0 r1 q4 hq5 (ht0) h_r1) cl_RX10_378 ht0 rfl rfl (by decide) (Nat.le_of_ble_eq_true rfl) (dk D_X10_toldBySchool 5 rfl) ?_
  refine g_aload_n (dk D_X10_toldBySchool 6 rfl) rfl ?_
  refine g_gd (fun hn7 => ?_)
  refine g_getI fl_RX10_174 (by decide) h_r1 hn7 (dk D_X10_toldBySchool 7 rfl) ?_
  refine g_iadd (dk D_X10_toldBySchool 8 rfl) ?_
  exact g_ireturn rfl rfl Sx.rf rfl (by decide) (by decide) (dk D_X10_toldBySchool 9 rfl)
theorem c_X10_toldBySchool {E : EV} (fu : Nat) (S0 : Sk) (I0 : II) (a0 : Nat) (r1 : Nat) (r : Int32 × II) (h : f_X10_toldBySchool fu S0 I0 a0 r1 = some r) (ht0 : tyO S0 10 a0) (h_r1 : tyR S0 1 r1) : MX E yX10_toldBySchool i_X10_toldBySchool S0 I0 [vA (a0 + 1), vA r1] (po_X10_toldBySchool S0 I0 r) :=
  MX.of h (by decide) rfl rfl (Nat.le_of_ble_eq_true rfl) (gg_X10_toldBySchool fu S0 I0 a0 r1 ht0 h_r1)
theorem cl_RX10_375 : CV0 RX10 375 yX10_toldBySchool i_X10_toldBySchool 1 10 := ⟨⟨(gm 944 (by decide +kernel) (by decide +kernel)), (gm 66 (by decide +kernel) (by decide +kernel)), ((gm 947 (by decide +kernel) (by decide +kernel))), by decide +kernel, by decide +kernel, by decide +kernel⟩, ⟨(gm 946 (by decide +kernel) (by decide +kernel)), (gm 23 (by decide +kernel) (by decide +kernel))⟩, rfl, by decide⟩
def tb_X10_toldByNight : List (Nat × Instr × Nat) := [(0, .aload_n 0, 1), (1, .iconst 3, 1), (2, .invokevirtual 381, 3), (5, .aload_n 0, 1), (6, .aload_n 1, 1), (7, .invokevirtual 375, 3), (10, .aload_n 0, 1), (11, .aload_n 1, 1), (12, .invokevirtual 378, 3), (15, .iadd, 1), (16, .ireturn, 1)]
def i_X10_toldByNight : MI := (RX10, cX10_toldByNight, 2, (some .int), "toldByNight", { frames := 3, cells := 0, slots := 0, locals := 63 })
theorem D_X10_toldByNight : tbOK (i_X10_toldByNight).2.1 tb_X10_toldByNight := by show ∀ q ∈ tb_X10_toldByNight, decode cX10_toldByNight q.1 = .ok (q.2.1, q.2.2); decide +kernel
def po_X10_toldByNight (S : Sk) (I : II) (r : Int32 × II) : Option LV × Sk × II := (some (vI r.1), S, r.2)
def f_X10_toldByNight (fu : Nat) (S : Sk) (I : II) (a0 : Nat) (r1 : Nat) : Option (Int32 × II) :=
  (f_X10_leave fu S I a0 (3 : Int32)).bind fun q1 => ((f_X10_toldBySchool fu S q1 a0 r1).bind fun q4 => ((f_X10_toldByLine fu S q4.2 a0 r1).bind fun q7 => (some (((q4.1 + q7.1), q7.2)))))
set_option maxRecDepth 100000 in
set_option maxHeartbeats 4000000 in
theorem gg_X10_toldByNight {E : EV} (fu : Nat) (S0 : Sk) (I0 : II) (a0 : Nat) (r1 : Nat) (ht0 : tyO S0 10 a0) (h_r1 : tyR S0 1 r1) : GG E i_X10_toldByNight (enM E i_X10_toldByNight S0 (po_X10_toldByNight S0 I0)) S0 I0 (0, 0) 0 [(0, vA (a0 + 1)), (1, vA r1)] [] (f_X10_toldByNight fu S0 I0 a0 r1) := by
  unfold f_X10_toldByNight
  refine g_aload_n (dk D_X10_toldByNight 0 rfl) rfl ?_
  refine g_iconst (v := (3 : Int32)) (dk D_X10_toldByNight 1 rfl) rfl ?_
  refine g_bind (fun q1 hq2 => ?_)
  refine h_callVt (st := []) (c_X10_leave (E := E) fu S0 I0 a0 (3 : Int32) q1 hq2 (ht0)) cl_RX10_381 ht0 rfl rfl (by decide) (Nat.le_of_ble_eq_true rfl) (dk D_X10_toldByNight 2 rfl) ?_
  refine g_aload_n (dk D_X10_toldByNight 3 rfl) rfl ?_
  refine g_aload_n (dk D_X10_toldByNight 4 rfl) rfl ?_
  refine g_bind (fun q4 hq5 => ?_)
  refine h_callVt (st := []) (c_X10_toldBySchool (E := E) fu S0 q1 a0 r1 q4 hq5 (ht0) h_r1) cl_RX10_375 ht0 rfl rfl (by decide) (Nat.le_of_ble_eq_true rfl) (dk D_X10_toldByNight 5 rfl) ?_
  refine g_aload_n (dk D_X10_toldByNight 6 rfl) rfl ?_
  refine g_aload_n (dk D_X10_toldByNight 7 rfl) rfl ?_
  refine g_bind (fun q7 hq8 => ?_)
  refine h_callVt (st := [vI q4.1]) (c_X10_toldByLine (E := E) fu S0 q4.2 a0 r1 q7 hq8 (ht0) h_r1) cl_RX10_378 ht0 rfl rfl (by decide) (Nat.le_of_ble_eq_true rfl) (dk D_X10_toldByNight 8 rfl) ?_
  refine g_iadd (dk D_X10_toldByNight 9 rfl) ?_
  exact g_ireturn rfl rfl Sx.rf rfl (by decide) (by decide) (dk D_X10_toldByNight 10 rfl)
theorem c_X10_toldByNight {E : EV} (fu : Nat) (S0 : Sk) (I0 : II) (a0 : Nat) (r1 : Nat) (r : Int32 × II) (h : f_X10_toldByNight fu S0 I0 a0 r1 = some r) (ht0 : tyO S0 10 a0) (h_r1 : tyR S0 1 r1) : MX E yX10_toldByNight i_X10_toldByNight S0 I0 [vA (a0 + 1), vA r1] (po_X10_toldByNight S0 I0 r) :=
  MX.of h (by decide) rfl rfl (Nat.le_of_ble_eq_true rfl) (gg_X10_toldByNight fu S0 I0 a0 r1 ht0 h_r1)
theorem cl_RX10_372 : CV0 RX10 372 yX10_toldByNight i_X10_toldByNight 1 10 := ⟨⟨(gm 936 (by decide +kernel) (by decide +kernel)), (gm 66 (by decide +kernel) (by decide +kernel)), ((gm 939 (by decide +kernel) (by decide +kernel))), by decide +kernel, by decide +kernel, by decide +kernel⟩, ⟨(gm 938 (by decide +kernel) (by decide +kernel)), (gm 21 (by decide +kernel) (by decide +kernel))⟩, rfl, by decide⟩
def tb_X10_tell : List (Nat × Instr × Nat) := [(0, .aload_n 0, 1), (1, .getfield 12, 3), (4, .iload_n 1, 1), (5, .invokevirtual 155, 3), (8, .astore_n 2, 1), (9, .aload_n 2, 1), (10, .ifnonnull 5, 3), (13, .iconst (-1), 1), (14, .ireturn, 1), (15, .aload_n 2, 1), (16, .getfield 168, 3), (19, .lookupswitch 37 #[(1, 31), (2, 25)], 25), (44, .aload_n 0, 1), (45, .aload_n 2, 1), (46, .invokevirtual 372, 3), (49, .ireturn, 1), (50, .aload_n 0, 1), (51, .aload_n 2, 1), (52, .invokevirtual 375, 3), (55, .ireturn, 1), (56, .aload_n 0, 1), (57, .aload_n 2, 1), (58, .invokevirtual 378, 3), (61, .ireturn, 1)]
def i_X10_tell : MI := (RX10, cX10_tell, 3, (some .int), "tell", { frames := 4, cells := 0, slots := 0, locals := 84 })
theorem D_X10_tell : tbOK (i_X10_tell).2.1 tb_X10_tell := by show ∀ q ∈ tb_X10_tell, decode cX10_tell q.1 = .ok (q.2.1, q.2.2); decide +kernel
def po_X10_tell (S : Sk) (I : II) (r : Int32 × II) : Option LV × Sk × II := (some (vI r.1), S, r.2)
def f_X10_tell (fu : Nat) (S : Sk) (I : II) (a0 : Nat) (x1 : Int32) : Option (Int32 × II) :=
  gd ((S.1 a0 0) ≠ 0) ((f_X2_lineAt fu S I ((S.1 a0 0) - 1) x1).bind fun q3 => (if q3 = 0 then some ((((-1) : Int32), I)) else if (I (q3 - 1) 1) = (1 : Int32) then (f_X10_toldBySchool fu S I a0 q3).bind fun q8 => (some ((q8.1, q8.2))) else (if (I (q3 - 1) 1) = (2 : Int32) then (f_X10_toldByNight fu S I a0 q3).bind fun q12 => (some ((q12.1, q12.2))) else (f_X10_toldByLine fu S I a0 q3).bind fun q15 => (some ((q15.1, q15.2))))))
set_option maxRecDepth 100000 in
set_option maxHeartbeats 4000000 in
theorem gg_X10_tell {E : EV} (fu : Nat) (S0 : Sk) (I0 : II) (a0 : Nat) (x1 : Int32) (ht0 : tyO S0 10 a0) : GG E i_X10_tell (enM E i_X10_tell S0 (po_X10_tell S0 I0)) S0 I0 (0, 0) 0 [(0, vA (a0 + 1)), (1, vI x1)] [] (f_X10_tell fu S0 I0 a0 x1) := by
  unfold f_X10_tell
  refine g_aload_n (dk D_X10_tell 0 rfl) rfl ?_
  refine g_getAt (t := 2) fl_RX10_12 rfl ht0 (dk D_X10_tell 1 rfl) (fun ht1 => ?_)
  refine g_iload_n (dk D_X10_tell 2 rfl) rfl ?_
  refine g_gd (fun hn2 => ?_)
  refine g_bind (fun q3 hq4 => ?_)
  refine h_callVA (st := []) (c_X2_lineAt (E := E) fu S0 I0 ((S0.1 a0 0) - 1) x1 q3 hq4 (ht1.nz hn2)) rt_X2_lineAt cl_RX10_155 ht1 hn2 rfl rfl (by decide) (Nat.le_of_ble_eq_true rfl) (dk D_X10_tell 3 rfl) (fun ht5 => ?_)
  refine g_astore_n (L' := [(0, vA (a0 + 1)), (1, vI x1), (2, vA q3)]) (dk D_X10_tell 4 rfl) (Nat.le_of_ble_eq_true rfl) rfl ?_
  refine g_aload_n (dk D_X10_tell 5 rfl) rfl ?_
  refine g_ifnonnull (tgt := 15) (dk D_X10_tell 6 rfl) rfl (fun hc6 => ?_) (fun hc6 => ?_)
  · refine g_aload_n (dk D_X10_tell 9 rfl) rfl ?_
    refine g_getI fl_RX10_168 (by decide) ht5 hc6 (dk D_X10_tell 10 rfl) ?_
    refine g_ite (fun hc7 => ?_) (fun hc7 => ?_)
    · refine g_look (tgt := 50) (off := 31) (dk D_X10_tell 11 rfl) (by decide +kernel) (by rw [hc7] <;> decide +kernel) rfl ?_
      refine g_aload_n (dk D_X10_tell 16 rfl) rfl ?_
      refine g_aload_n (dk D_X10_tell 17 rfl) rfl ?_
      refine g_bind (fun q8 hq9 => ?_)
      refine h_callVt (st := []) (c_X10_toldBySchool (E := E) fu S0 I0 a0 q3 q8 hq9 (ht0) ht5) cl_RX10_375 ht0 rfl rfl (by decide) (Nat.le_of_ble_eq_true rfl) (dk D_X10_tell 18 rfl) ?_
      exact g_ireturn rfl rfl Sx.rf rfl (by decide) (by decide) (dk D_X10_tell 19 rfl)
    refine g_ite (fun hc11 => ?_) (fun hc11 => ?_)
    · refine g_look (tgt := 44) (off := 25) (dk D_X10_tell 11 rfl) (by decide +kernel) (by rw [hc11] <;> decide +kernel) rfl ?_
      refine g_aload_n (dk D_X10_tell 12 rfl) rfl ?_
      refine g_aload_n (dk D_X10_tell 13 rfl) rfl ?_
      refine g_bind (fun q12 hq13 => ?_)
      refine h_callVt (st := []) (c_X10_toldByNight (E := E) fu S0 I0 a0 q3 q12 hq13 (ht0) ht5) cl_RX10_372 ht0 rfl rfl (by decide) (Nat.le_of_ble_eq_true rfl) (dk D_X10_tell 14 rfl) ?_
      exact g_ireturn rfl rfl Sx.rf rfl (by decide) (by decide) (dk D_X10_tell 15 rfl)
    refine g_look (tgt := 56) (dk D_X10_tell 11 rfl) (by decide +kernel) (look_out2 (a := (1 : Int32)) (b := (2 : Int32)) rfl rfl hc7 hc11) rfl ?_
    refine g_aload_n (dk D_X10_tell 20 rfl) rfl ?_
    refine g_aload_n (dk D_X10_tell 21 rfl) rfl ?_
    refine g_bind (fun q15 hq16 => ?_)
    refine h_callVt (st := []) (c_X10_toldByLine (E := E) fu S0 I0 a0 q3 q15 hq16 (ht0) ht5) cl_RX10_378 ht0 rfl rfl (by decide) (Nat.le_of_ble_eq_true rfl) (dk D_X10_tell 22 rfl) ?_
    exact g_ireturn rfl rfl Sx.rf rfl (by decide) (by decide) (dk D_X10_tell 23 rfl)
  · refine g_iconst (v := ((-1) : Int32)) (dk D_X10_tell 7 rfl) rfl ?_
    exact g_ireturn rfl rfl Sx.rf rfl (by decide) (by decide) (dk D_X10_tell 8 rfl)
theorem c_X10_tell {E : EV} (fu : Nat) (S0 : Sk) (I0 : II) (a0 : Nat) (x1 : Int32) (r : Int32 × II) (h : f_X10_tell fu S0 I0 a0 x1 = some r) (ht0 : tyO S0 10 a0) : MX E yX10_tell i_X10_tell S0 I0 [vA (a0 + 1), vI x1] (po_X10_tell S0 I0 r) :=
  MX.of h (by decide) rfl rfl (Nat.le_of_ble_eq_true rfl) (gg_X10_tell fu S0 I0 a0 x1 ht0)
def tb_X10_hail : List (Nat × Instr × Nat) := [(0, .aload_n 0, 1), (1, .getfield 12, 3), (4, .iload_n 1, 1), (5, .invokevirtual 155, 3), (8, .astore_n 2, 1), (9, .aload_n 2, 1), (10, .ifnonnull 5, 3), (13, .iconst (-1), 1), (14, .ireturn, 1), (15, .aload_n 2, 1), (16, .getfield 168, 3), (19, .iconst 2, 1), (20, .if_icmp .ne 11, 3), (23, .aload_n 0, 1), (24, .iconst 5, 1), (25, .invokevirtual 381, 3), (28, .bipush 90, 2), (30, .ireturn, 1), (31, .aload_n 0, 1), (32, .iconst 4, 1), (33, .invokevirtual 381, 3), (36, .aload_n 2, 1), (37, .getfield 384, 3), (40, .ireturn, 1)]
def i_X10_hail : MI := (RX10, cX10_hail, 3, (some .int), "hail", { frames := 1, cells := 0, slots := 0, locals := 21 })
theorem D_X10_hail : tbOK (i_X10_hail).2.1 tb_X10_hail := by show ∀ q ∈ tb_X10_hail, decode cX10_hail q.1 = .ok (q.2.1, q.2.2); decide +kernel
def po_X10_hail (S : Sk) (I : II) (r : Int32 × II) : Option LV × Sk × II := (some (vI r.1), S, r.2)
def f_X10_hail (fu : Nat) (S : Sk) (I : II) (a0 : Nat) (x1 : Int32) : Option (Int32 × II) :=
  gd ((S.1 a0 0) ≠ 0) ((f_X2_lineAt fu S I ((S.1 a0 0) - 1) x1).bind fun q3 => (if q3 = 0 then some ((((-1) : Int32), I)) else if (I (q3 - 1) 1) = (2 : Int32) then (f_X10_leave fu S I a0 (5 : Int32)).bind fun q11 => (some (((90 : Int32), q11))) else (f_X10_leave fu S I a0 (4 : Int32)).bind fun q8 => (some (((q8 (q3 - 1) 0), q8)))))
set_option maxRecDepth 100000 in
set_option maxHeartbeats 4000000 in
theorem gg_X10_hail {E : EV} (fu : Nat) (S0 : Sk) (I0 : II) (a0 : Nat) (x1 : Int32) (ht0 : tyO S0 10 a0) : GG E i_X10_hail (enM E i_X10_hail S0 (po_X10_hail S0 I0)) S0 I0 (0, 0) 0 [(0, vA (a0 + 1)), (1, vI x1)] [] (f_X10_hail fu S0 I0 a0 x1) := by
  unfold f_X10_hail
  refine g_aload_n (dk D_X10_hail 0 rfl) rfl ?_
  refine g_getAt (t := 2) fl_RX10_12 rfl ht0 (dk D_X10_hail 1 rfl) (fun ht1 => ?_)
  refine g_iload_n (dk D_X10_hail 2 rfl) rfl ?_
  refine g_gd (fun hn2 => ?_)
  refine g_bind (fun q3 hq4 => ?_)
  refine h_callVA (st := []) (c_X2_lineAt (E := E) fu S0 I0 ((S0.1 a0 0) - 1) x1 q3 hq4 (ht1.nz hn2)) rt_X2_lineAt cl_RX10_155 ht1 hn2 rfl rfl (by decide) (Nat.le_of_ble_eq_true rfl) (dk D_X10_hail 3 rfl) (fun ht5 => ?_)
  refine g_astore_n (L' := [(0, vA (a0 + 1)), (1, vI x1), (2, vA q3)]) (dk D_X10_hail 4 rfl) (Nat.le_of_ble_eq_true rfl) rfl ?_
  refine g_aload_n (dk D_X10_hail 5 rfl) rfl ?_
  refine g_ifnonnull (tgt := 15) (dk D_X10_hail 6 rfl) rfl (fun hc6 => ?_) (fun hc6 => ?_)
  · refine g_aload_n (dk D_X10_hail 9 rfl) rfl ?_
    refine g_getI fl_RX10_168 (by decide) ht5 hc6 (dk D_X10_hail 10 rfl) ?_
    refine g_iconst (v := (2 : Int32)) (dk D_X10_hail 11 rfl) rfl ?_
    refine g_icmp_ne (tgt := 31) (dk D_X10_hail 12 rfl) rfl (fun hc7 => ?_) (fun hc7 => ?_)
    · refine g_aload_n (dk D_X10_hail 18 rfl) rfl ?_
      refine g_iconst (v := (4 : Int32)) (dk D_X10_hail 19 rfl) rfl ?_
      refine g_bind (fun q8 hq9 => ?_)
      refine h_callVt (st := []) (c_X10_leave (E := E) fu S0 I0 a0 (4 : Int32) q8 hq9 (ht0)) cl_RX10_381 ht0 rfl rfl (by decide) (Nat.le_of_ble_eq_true rfl) (dk D_X10_hail 20 rfl) ?_
      refine g_aload_n (dk D_X10_hail 21 rfl) rfl ?_
      refine g_getI fl_RX10_384 (by decide) ht5 hc6 (dk D_X10_hail 22 rfl) ?_
      exact g_ireturn rfl rfl Sx.rf rfl (by decide) (by decide) (dk D_X10_hail 23 rfl)
    · refine g_aload_n (dk D_X10_hail 13 rfl) rfl ?_
      refine g_iconst (v := (5 : Int32)) (dk D_X10_hail 14 rfl) rfl ?_
      refine g_bind (fun q11 hq12 => ?_)
      refine h_callVt (st := []) (c_X10_leave (E := E) fu S0 I0 a0 (5 : Int32) q11 hq12 (ht0)) cl_RX10_381 ht0 rfl rfl (by decide) (Nat.le_of_ble_eq_true rfl) (dk D_X10_hail 15 rfl) ?_
      refine g_bipush (v := (90 : Int32)) (dk D_X10_hail 16 rfl) rfl ?_
      exact g_ireturn rfl rfl Sx.rf rfl (by decide) (by decide) (dk D_X10_hail 17 rfl)
  · refine g_iconst (v := ((-1) : Int32)) (dk D_X10_hail 7 rfl) rfl ?_
    exact g_ireturn rfl rfl Sx.rf rfl (by decide) (by decide) (dk D_X10_hail 8 rfl)
theorem c_X10_hail {E : EV} (fu : Nat) (S0 : Sk) (I0 : II) (a0 : Nat) (x1 : Int32) (r : Int32 × II) (h : f_X10_hail fu S0 I0 a0 x1 = some r) (ht0 : tyO S0 10 a0) : MX E yX10_hail i_X10_hail S0 I0 [vA (a0 + 1), vI x1] (po_X10_hail S0 I0 r) :=
  MX.of h (by decide) rfl rfl (Nat.le_of_ble_eq_true rfl) (gg_X10_hail fu S0 I0 a0 x1 ht0)
def tb_X10_as : List (Nat × Instr × Nat) := [(0, .aload_n 0, 1), (1, .iconst 0, 1), (2, .putfield 100, 3), (5, .aload_n 0, 1), (6, .getfield 12, 3), (9, .iload_n 1, 1), (10, .invokevirtual 155, 3), (13, .astore_n 3, 1), (14, .aload_n 3, 1), (15, .ifnonnull 5, 3), (18, .iconst (-1), 1), (19, .ireturn, 1), (20, .iload_n 2, 1), (21, .invokestatic 119, 3), (24, .ifCond .ne 6, 3), (27, .bipush (-2), 2), (29, .ireturn, 1), (30, .aload_n 3, 1), (31, .getfield 168, 3), (34, .iload_n 2, 1), (35, .if_icmp .lt 7, 3), (38, .iconst 1, 1), (39, .goto 8, 3), (42, .aload_n 0, 1), (43, .iconst 2, 1), (44, .invokevirtual 133, 3), (47, .ireturn, 1)]
def i_X10_as : MI := (RX10, cX10_as, 4, (some .int), "as", { frames := 2, cells := 0, slots := 0, locals := 42 })
theorem D_X10_as : tbOK (i_X10_as).2.1 tb_X10_as := by show ∀ q ∈ tb_X10_as, decode cX10_as q.1 = .ok (q.2.1, q.2.2); decide +kernel
def po_X10_as (S : Sk) (I : II) (r : Int32 × II) : Option LV × Sk × II := (some (vI r.1), S, r.2)
def f_X10_as (fu : Nat) (S : Sk) (I : II) (a0 : Nat) (x1 : Int32) (x2 : Int32) : Option (Int32 × II) :=
  lt (upI I a0 18 (0 : Int32)) fun I1 => (gd ((S.1 a0 0) ≠ 0) ((f_X2_lineAt fu S I1 ((S.1 a0 0) - 1) x1).bind fun q4 => (if q4 = 0 then some ((((-1) : Int32), I1)) else if (t_X10_isKind x2) = 0 then some ((((-2) : Int32), I1)) else if (I1 (q4 - 1) 1) < x2 then (f_X10_fail fu S I1 a0 (2 : Int32)).bind fun q11 => (some ((q11.1, q11.2))) else some (((1 : Int32), I1)))))
set_option maxRecDepth 100000 in
set_option maxHeartbeats 4000000 in
theorem gg_X10_as {E : EV} (fu : Nat) (S0 : Sk) (I0 : II) (a0 : Nat) (x1 : Int32) (x2 : Int32) (ht0 : tyO S0 10 a0) : GG E i_X10_as (enM E i_X10_as S0 (po_X10_as S0 I0)) S0 I0 (0, 0) 0 [(0, vA (a0 + 1)), (1, vI x1), (2, vI x2)] [] (f_X10_as fu S0 I0 a0 x1 x2) := by
  unfold f_X10_as
  refine g_aload_n (dk D_X10_as 0 rfl) rfl ?_
  refine g_iconst (v := (0 : Int32)) (dk D_X10_as 1 rfl) rfl ?_
  refine g_putIt fl_RX10_100 fp_10_18 (fun h => (by cases h)) (by decide) rfl rfl ht0 (dk D_X10_as 2 rfl) ?_
  refine g_ltI (fun I1 eI1 => ?_)
  refine g_aload_n (dk D_X10_as 3 rfl) rfl ?_
  refine g_getAt (t := 2) fl_RX10_12 rfl ht0 (dk D_X10_as 4 rfl) (fun ht2 => ?_)
  refine g_iload_n (dk D_X10_as 5 rfl) rfl ?_
  refine g_gd (fun hn3 => ?_)
  refine g_bind (fun q4 hq5 => ?_)
  refine h_callVA (st := []) (c_X2_lineAt (E := E) fu S0 I1 ((S0.1 a0 0) - 1) x1 q4 hq5 (ht2.nz hn3)) rt_X2_lineAt cl_RX10_155 ht2 hn3 rfl rfl (by decide) (Nat.le_of_ble_eq_true rfl) (dk D_X10_as 6 rfl) (fun ht6 => ?_)
  refine g_astore_n (L' := [(0, vA (a0 + 1)), (1, vI x1), (2, vI x2), (3, vA q4)]) (dk D_X10_as 7 rfl) (Nat.le_of_ble_eq_true rfl) rfl ?_
  refine g_aload_n (dk D_X10_as 8 rfl) rfl ?_
  refine g_ifnonnull (tgt := 20) (dk D_X10_as 9 rfl) rfl (fun hc7 => ?_) (fun hc7 => ?_)
  · refine g_iload_n (dk D_X10_as 12 rfl) rfl ?_
    refine h_callS (st := []) (c_X10_isKind (E := E) S0 I1 x2) cl_RX10_119 rfl rfl (by decide) (Nat.le_of_ble_eq_true rfl) (dk D_X10_as 13 rfl) ?_
    refine g_if_ne (tgt := 30) (dk D_X10_as 14 rfl) rfl (fun hc9 => ?_) (fun hc9 => ?_)
    · refine g_aload_n (dk D_X10_as 17 rfl) rfl ?_
      refine g_getI fl_RX10_168 (by decide) ht6 hc7 (dk D_X10_as 18 rfl) ?_
      refine g_iload_n (dk D_X10_as 19 rfl) rfl ?_
      refine g_icmp_lt (tgt := 42) (dk D_X10_as 20 rfl) rfl (fun hc10 => ?_) (fun hc10 => ?_)
      · refine g_aload_n (dk D_X10_as 23 rfl) rfl ?_
        refine g_iconst (v := (2 : Int32)) (dk D_X10_as 24 rfl) rfl ?_
        refine g_bind (fun q11 hq12 => ?_)
        refine h_callVt (st := []) (c_X10_fail (E := E) fu S0 I1 a0 (2 : Int32) q11 hq12 (ht0)) cl_RX10_133 ht0 rfl rfl (by decide) (Nat.le_of_ble_eq_true rfl) (dk D_X10_as 25 rfl) ?_
        exact g_ireturn rfl rfl Sx.rf rfl (by decide) (by decide) (dk D_X10_as 26 rfl)
      · refine g_iconst (v := (1 : Int32)) (dk D_X10_as 21 rfl) rfl ?_
        refine g_goto (tgt := 47) (dk D_X10_as 22 rfl) rfl ?_
        exact g_ireturn rfl rfl Sx.rf rfl (by decide) (by decide) (dk D_X10_as 26 rfl)
    · refine g_bipush (v := ((-2) : Int32)) (dk D_X10_as 15 rfl) rfl ?_
      exact g_ireturn rfl rfl Sx.rf rfl (by decide) (by decide) (dk D_X10_as 16 rfl)
  · refine g_iconst (v := ((-1) : Int32)) (dk D_X10_as 10 rfl) rfl ?_
    exact g_ireturn rfl rfl Sx.rf rfl (by decide) (by decide) (dk D_X10_as 11 rfl)
theorem c_X10_as {E : EV} (fu : Nat) (S0 : Sk) (I0 : II) (a0 : Nat) (x1 : Int32) (x2 : Int32) (r : Int32 × II) (h : f_X10_as fu S0 I0 a0 x1 x2 = some r) (ht0 : tyO S0 10 a0) : MX E yX10_as i_X10_as S0 I0 [vA (a0 + 1), vI x1, vI x2] (po_X10_as S0 I0 r) :=
  MX.of h (by decide) rfl rfl (Nat.le_of_ble_eq_true rfl) (gg_X10_as fu S0 I0 a0 x1 x2 ht0)
def tb_X10_trace : List (Nat × Instr × Nat) := [(0, .aload_n 0, 1), (1, .getfield 97, 3), (4, .ireturn, 1)]
def i_X10_trace : MI := (RX10, cX10_trace, 1, (some .int), "trace", { frames := 0, cells := 0, slots := 0, locals := 0 })
theorem D_X10_trace : tbOK (i_X10_trace).2.1 tb_X10_trace := by show ∀ q ∈ tb_X10_trace, decode cX10_trace q.1 = .ok (q.2.1, q.2.2); decide +kernel
def po_X10_trace (S : Sk) (I : II) (r : Int32) : Option LV × Sk × II := (some (vI r), S, I)
def f_X10_trace (fu : Nat) (S : Sk) (I : II) (a0 : Nat) : Option (Int32) :=
  some ((I a0 17))
set_option maxRecDepth 100000 in
set_option maxHeartbeats 4000000 in
theorem gg_X10_trace {E : EV} (fu : Nat) (S0 : Sk) (I0 : II) (a0 : Nat) (ht0 : tyO S0 10 a0) : GG E i_X10_trace (enM E i_X10_trace S0 (po_X10_trace S0 I0)) S0 I0 (0, 0) 0 [(0, vA (a0 + 1))] [] (f_X10_trace fu S0 I0 a0) := by
  unfold f_X10_trace
  refine g_aload_n (dk D_X10_trace 0 rfl) rfl ?_
  refine g_getIt fl_RX10_97 (by decide) ht0 (dk D_X10_trace 1 rfl) ?_
  exact g_ireturn rfl rfl Sx.rf rfl (by decide) (by decide) (dk D_X10_trace 2 rfl)
def t_X10_trace (I : II) (a0 : Nat) : Int32 :=
  (I a0 17)
theorem ft_X10_trace (fu : Nat) (S : Sk) (I0 : II) (a0 : Nat) : f_X10_trace fu S I0 a0 = some (t_X10_trace I0 a0) := by
  simp only [f_X10_trace, t_X10_trace, lt, apply_ite some]
theorem c_X10_trace {E : EV} (S0 : Sk) (I0 : II) (a0 : Nat) (ht0 : tyO S0 10 a0) : MX E yX10_trace i_X10_trace S0 I0 [vA (a0 + 1)] (po_X10_trace S0 I0 (t_X10_trace I0 a0)) :=
  MX.of (ft_X10_trace 0 S0 I0 a0) (by decide) rfl rfl (Nat.le_of_ble_eq_true rfl) (gg_X10_trace 0 S0 I0 a0 ht0)
def tb_X10_fault : List (Nat × Instr × Nat) := [(0, .aload_n 0, 1), (1, .getfield 100, 3), (4, .ireturn, 1)]
def i_X10_fault : MI := (RX10, cX10_fault, 1, (some .int), "fault", { frames := 0, cells := 0, slots := 0, locals := 0 })
theorem D_X10_fault : tbOK (i_X10_fault).2.1 tb_X10_fault := by show ∀ q ∈ tb_X10_fault, decode cX10_fault q.1 = .ok (q.2.1, q.2.2); decide +kernel
def po_X10_fault (S : Sk) (I : II) (r : Int32) : Option LV × Sk × II := (some (vI r), S, I)
def f_X10_fault (fu : Nat) (S : Sk) (I : II) (a0 : Nat) : Option (Int32) :=
  some ((I a0 18))
set_option maxRecDepth 100000 in
set_option maxHeartbeats 4000000 in
theorem gg_X10_fault {E : EV} (fu : Nat) (S0 : Sk) (I0 : II) (a0 : Nat) (ht0 : tyO S0 10 a0) : GG E i_X10_fault (enM E i_X10_fault S0 (po_X10_fault S0 I0)) S0 I0 (0, 0) 0 [(0, vA (a0 + 1))] [] (f_X10_fault fu S0 I0 a0) := by
  unfold f_X10_fault
  refine g_aload_n (dk D_X10_fault 0 rfl) rfl ?_
  refine g_getIt fl_RX10_100 (by decide) ht0 (dk D_X10_fault 1 rfl) ?_
  exact g_ireturn rfl rfl Sx.rf rfl (by decide) (by decide) (dk D_X10_fault 2 rfl)
def t_X10_fault (I : II) (a0 : Nat) : Int32 :=
  (I a0 18)
theorem ft_X10_fault (fu : Nat) (S : Sk) (I0 : II) (a0 : Nat) : f_X10_fault fu S I0 a0 = some (t_X10_fault I0 a0) := by
  simp only [f_X10_fault, t_X10_fault, lt, apply_ite some]
theorem c_X10_fault {E : EV} (S0 : Sk) (I0 : II) (a0 : Nat) (ht0 : tyO S0 10 a0) : MX E yX10_fault i_X10_fault S0 I0 [vA (a0 + 1)] (po_X10_fault S0 I0 (t_X10_fault I0 a0)) :=
  MX.of (ft_X10_fault 0 S0 I0 a0) (by decide) rfl rfl (Nat.le_of_ble_eq_true rfl) (gg_X10_fault 0 S0 I0 a0 ht0)
def tb_X10_many : List (Nat × Instr × Nat) := [(0, .iload_n 1, 1), (1, .tableswitch 96 0 7 #[47, 55, 63, 68, 73, 78, 83, 88], 47), (48, .aload_n 0, 1), (49, .getfield 12, 3), (52, .getfield 108, 3), (55, .ireturn, 1), (56, .aload_n 0, 1), (57, .getfield 12, 3), (60, .getfield 145, 3), (63, .ireturn, 1), (64, .aload_n 0, 1), (65, .getfield 24, 3), (68, .ireturn, 1), (69, .aload_n 0, 1), (70, .getfield 34, 3), (73, .ireturn, 1), (74, .aload_n 0, 1), (75, .getfield 52, 3), (78, .ireturn, 1), (79, .aload_n 0, 1), (80, .getfield 61, 3), (83, .ireturn, 1), (84, .aload_n 0, 1), (85, .getfield 68, 3), (88, .ireturn, 1), (89, .aload_n 0, 1), (90, .getfield 78, 3), (93, .invokestatic 314, 3), (96, .ireturn, 1), (97, .bipush (-2), 2), (99, .ireturn, 1)]
def i_X10_many : MI := (RX10, cX10_many, 2, (some .int), "many", { frames := 1, cells := 0, slots := 0, locals := 20 })
theorem D_X10_many : tbOK (i_X10_many).2.1 tb_X10_many := by show ∀ q ∈ tb_X10_many, decode cX10_many q.1 = .ok (q.2.1, q.2.2); decide +kernel
def po_X10_many (S : Sk) (I : II) (r : Int32) : Option LV × Sk × II := (some (vI r), S, I)
def f_X10_many (fu : Nat) (S : Sk) (I : II) (a0 : Nat) (x1 : Int32) : Option (Int32) :=
  if x1 = (0 : Int32) then gd ((S.1 a0 0) ≠ 0) (some ((I ((S.1 a0 0) - 1) 3))) else (if x1 = (1 : Int32) then gd ((S.1 a0 0) ≠ 0) (some ((I ((S.1 a0 0) - 1) 5))) else (if x1 = (2 : Int32) then some ((I a0 2)) else (if x1 = (3 : Int32) then some ((I a0 4)) else (if x1 = (4 : Int32) then some ((I a0 7)) else (if x1 = (5 : Int32) then some ((I a0 9)) else (if x1 = (6 : Int32) then some ((I a0 11)) else (if x1 = (7 : Int32) then some ((t_J6_bitCount_0f7a4 (I a0 13))) else some (((-2) : Int32)))))))))
set_option maxRecDepth 100000 in
set_option maxHeartbeats 4000000 in
theorem gg_X10_many {E : EV} (fu : Nat) (S0 : Sk) (I0 : II) (a0 : Nat) (x1 : Int32) (ht0 : tyO S0 10 a0) : GG E i_X10_many (enM E i_X10_many S0 (po_X10_many S0 I0)) S0 I0 (0, 0) 0 [(0, vA (a0 + 1)), (1, vI x1)] [] (f_X10_many fu S0 I0 a0 x1) := by
  unfold f_X10_many
  refine g_iload_n (dk D_X10_many 0 rfl) rfl ?_
  refine g_ite (fun hc1 => ?_) (fun hc1 => ?_)
  · refine g_tabIn (tgt := 48) (off := 47) (dk D_X10_many 1 rfl) (by rw [hc1] <;> decide +kernel) (by rw [hc1] <;> decide +kernel) (by rw [hc1] <;> decide +kernel) rfl ?_
    refine g_aload_n (dk D_X10_many 2 rfl) rfl ?_
    refine g_getAt (t := 2) fl_RX10_12 rfl ht0 (dk D_X10_many 3 rfl) (fun ht2 => ?_)
    refine g_gd (fun hn3 => ?_)
    refine g_getI fl_RX10_108 (by decide) ht2 hn3 (dk D_X10_many 4 rfl) ?_
    exact g_ireturn rfl rfl Sx.rf rfl (by decide) (by decide) (dk D_X10_many 5 rfl)
  refine g_ite (fun hc4 => ?_) (fun hc4 => ?_)
  · refine g_tabIn (tgt := 56) (off := 55) (dk D_X10_many 1 rfl) (by rw [hc4] <;> decide +kernel) (by rw [hc4] <;> decide +kernel) (by rw [hc4] <;> decide +kernel) rfl ?_
    refine g_aload_n (dk D_X10_many 6 rfl) rfl ?_
    refine g_getAt (t := 2) fl_RX10_12 rfl ht0 (dk D_X10_many 7 rfl) (fun ht5 => ?_)
    refine g_gd (fun hn6 => ?_)
    refine g_getI fl_RX10_145 (by decide) ht5 hn6 (dk D_X10_many 8 rfl) ?_
    exact g_ireturn rfl rfl Sx.rf rfl (by decide) (by decide) (dk D_X10_many 9 rfl)
  refine g_ite (fun hc7 => ?_) (fun hc7 => ?_)
  · refine g_tabIn (tgt := 64) (off := 63) (dk D_X10_many 1 rfl) (by rw [hc7] <;> decide +kernel) (by rw [hc7] <;> decide +kernel) (by rw [hc7] <;> decide +kernel) rfl ?_
    refine g_aload_n (dk D_X10_many 10 rfl) rfl ?_
    refine g_getIt fl_RX10_24 (by decide) ht0 (dk D_X10_many 11 rfl) ?_
    exact g_ireturn rfl rfl Sx.rf rfl (by decide) (by decide) (dk D_X10_many 12 rfl)
  refine g_ite (fun hc8 => ?_) (fun hc8 => ?_)
  · refine g_tabIn (tgt := 69) (off := 68) (dk D_X10_many 1 rfl) (by rw [hc8] <;> decide +kernel) (by rw [hc8] <;> decide +kernel) (by rw [hc8] <;> decide +kernel) rfl ?_
    refine g_aload_n (dk D_X10_many 13 rfl) rfl ?_
    refine g_getIt fl_RX10_34 (by decide) ht0 (dk D_X10_many 14 rfl) ?_
    exact g_ireturn rfl rfl Sx.rf rfl (by decide) (by decide) (dk D_X10_many 15 rfl)
  refine g_ite (fun hc9 => ?_) (fun hc9 => ?_)
  · refine g_tabIn (tgt := 74) (off := 73) (dk D_X10_many 1 rfl) (by rw [hc9] <;> decide +kernel) (by rw [hc9] <;> decide +kernel) (by rw [hc9] <;> decide +kernel) rfl ?_
    refine g_aload_n (dk D_X10_many 16 rfl) rfl ?_
    refine g_getIt fl_RX10_52 (by decide) ht0 (dk D_X10_many 17 rfl) ?_
    exact g_ireturn rfl rfl Sx.rf rfl (by decide) (by decide) (dk D_X10_many 18 rfl)
  refine g_ite (fun hc10 => ?_) (fun hc10 => ?_)
  · refine g_tabIn (tgt := 79) (off := 78) (dk D_X10_many 1 rfl) (by rw [hc10] <;> decide +kernel) (by rw [hc10] <;> decide +kernel) (by rw [hc10] <;> decide +kernel) rfl ?_
    refine g_aload_n (dk D_X10_many 19 rfl) rfl ?_
    refine g_getIt fl_RX10_61 (by decide) ht0 (dk D_X10_many 20 rfl) ?_
    exact g_ireturn rfl rfl Sx.rf rfl (by decide) (by decide) (dk D_X10_many 21 rfl)
  refine g_ite (fun hc11 => ?_) (fun hc11 => ?_)
  · refine g_tabIn (tgt := 84) (off := 83) (dk D_X10_many 1 rfl) (by rw [hc11] <;> decide +kernel) (by rw [hc11] <;> decide +kernel) (by rw [hc11] <;> decide +kernel) rfl ?_
    refine g_aload_n (dk D_X10_many 22 rfl) rfl ?_
    refine g_getIt fl_RX10_68 (by decide) ht0 (dk D_X10_many 23 rfl) ?_
    exact g_ireturn rfl rfl Sx.rf rfl (by decide) (by decide) (dk D_X10_many 24 rfl)
  refine g_ite (fun hc12 => ?_) (fun hc12 => ?_)
  · refine g_tabIn (tgt := 89) (off := 88) (dk D_X10_many 1 rfl) (by rw [hc12] <;> decide +kernel) (by rw [hc12] <;> decide +kernel) (by rw [hc12] <;> decide +kernel) rfl ?_
    refine g_aload_n (dk D_X10_many 25 rfl) rfl ?_
    refine g_getIt fl_RX10_78 (by decide) ht0 (dk D_X10_many 26 rfl) ?_
    refine h_callS (st := []) (c_J6_bitCount_0f7a4 (E := E) S0 I0 (I0 a0 13)) cl_RX10_314 rfl rfl (by decide) (Nat.le_of_ble_eq_true rfl) (dk D_X10_many 27 rfl) ?_
    exact g_ireturn rfl rfl Sx.rf rfl (by decide) (by decide) (dk D_X10_many 28 rfl)
  refine g_tabOut (tgt := 97) (dk D_X10_many 1 rfl) (tabOut (n := 8) (by decide) (fun k hk => (match k, hk with | 0, _ => hc1 | 1, _ => hc4 | 2, _ => hc7 | 3, _ => hc8 | 4, _ => hc9 | 5, _ => hc10 | 6, _ => hc11 | 7, _ => hc12 | k + 8, hk => absurd hk (by omega)))) rfl ?_
  refine g_bipush (v := ((-2) : Int32)) (dk D_X10_many 29 rfl) rfl ?_
  exact g_ireturn rfl rfl Sx.rf rfl (by decide) (by decide) (dk D_X10_many 30 rfl)
theorem c_X10_many {E : EV} (fu : Nat) (S0 : Sk) (I0 : II) (a0 : Nat) (x1 : Int32) (r : Int32) (h : f_X10_many fu S0 I0 a0 x1 = some r) (ht0 : tyO S0 10 a0) : MX E yX10_many i_X10_many S0 I0 [vA (a0 + 1), vI x1] (po_X10_many S0 I0 r) :=
  MX.of h (by decide) rfl rfl (Nat.le_of_ble_eq_true rfl) (gg_X10_many fu S0 I0 a0 x1 ht0)
theorem fl_RX11_112 : FL RX11 112 11 52 := ⟨RX11, TX11, 57, rfl, by decide, rfl, by decide, (gm 1030 (by decide +kernel) (by decide +kernel)), inG11⟩
theorem lk_RX11_1 : Cond.methodLink RX11 1 Lib.objectInit ∈ lw_good := (gm 977 (by decide +kernel) (by decide +kernel))
theorem fl_RX11_7 : FL RX11 7 11 2 := ⟨RX11, TX11, 57, rfl, by decide, rfl, by decide, (gm 980 (by decide +kernel) (by decide +kernel)), inG11⟩
theorem fp_11_2 : FP 11 2 (tyX11 2) true := ⟨RX11, TX11, 57, tyX11, rfl, tyX11_ok, nmX11, rfl, rfl, rfl⟩
theorem ff_RX11 : FI RX11 "<init>" 11 true := fun _ => ⟨rfl, fun q h => by cases h; rfl⟩
theorem fl_RX11_13 : FL RX11 13 11 3 := ⟨RX11, TX11, 57, rfl, by decide, rfl, by decide, (gm 981 (by decide +kernel) (by decide +kernel)), inG11⟩
theorem fp_11_3 : FP 11 3 (tyX11 3) true := ⟨RX11, TX11, 57, tyX11, rfl, tyX11_ok, nmX11, rfl, rfl, rfl⟩
theorem fl_RX11_16 : FL RX11 16 11 5 := ⟨RX11, TX11, 57, rfl, by decide, rfl, by decide, (gm 983 (by decide +kernel) (by decide +kernel)), inG11⟩
theorem fp_11_5 : FP 11 5 (tyX11 5) true := ⟨RX11, TX11, 57, tyX11, rfl, tyX11_ok, nmX11, rfl, rfl, rfl⟩
theorem fl_RX11_19 : FL RX11 19 11 6 := ⟨RX11, TX11, 57, rfl, by decide, rfl, by decide, (gm 984 (by decide +kernel) (by decide +kernel)), inG11⟩
theorem fp_11_6 : FP 11 6 (tyX11 6) true := ⟨RX11, TX11, 57, tyX11, rfl, tyX11_ok, nmX11, rfl, rfl, rfl⟩
theorem fl_RX11_22 : FL RX11 22 11 7 := ⟨RX11, TX11, 57, rfl, by decide, rfl, by decide, (gm 985 (by decide +kernel) (by decide +kernel)), inG11⟩
theorem fp_11_7 : FP 11 7 (tyX11 7) true := ⟨RX11, TX11, 57, tyX11, rfl, tyX11_ok, nmX11, rfl, rfl, rfl⟩
theorem fl_RX11_25 : FL RX11 25 11 8 := ⟨RX11, TX11, 57, rfl, by decide, rfl, by decide, (gm 986 (by decide +kernel) (by decide +kernel)), inG11⟩
theorem fp_11_8 : FP 11 8 (tyX11 8) true := ⟨RX11, TX11, 57, tyX11, rfl, tyX11_ok, nmX11, rfl, rfl, rfl⟩
theorem fl_RX11_28 : FL RX11 28 11 9 := ⟨RX11, TX11, 57, rfl, by decide, rfl, by decide, (gm 987 (by decide +kernel) (by decide +kernel)), inG11⟩
theorem fp_11_9 : FP 11 9 (tyX11 9) true := ⟨RX11, TX11, 57, tyX11, rfl, tyX11_ok, nmX11, rfl, rfl, rfl⟩
theorem fl_RX11_31 : FL RX11 31 11 10 := ⟨RX11, TX11, 57, rfl, by decide, rfl, by decide, (gm 988 (by decide +kernel) (by decide +kernel)), inG11⟩
theorem fp_11_10 : FP 11 10 (tyX11 10) true := ⟨RX11, TX11, 57, tyX11, rfl, tyX11_ok, nmX11, rfl, rfl, rfl⟩
theorem fl_RX11_34 : FL RX11 34 11 11 := ⟨RX11, TX11, 57, rfl, by decide, rfl, by decide, (gm 989 (by decide +kernel) (by decide +kernel)), inG11⟩
theorem fp_11_11 : FP 11 11 (tyX11 11) true := ⟨RX11, TX11, 57, tyX11, rfl, tyX11_ok, nmX11, rfl, rfl, rfl⟩
theorem fl_RX11_37 : FL RX11 37 11 12 := ⟨RX11, TX11, 57, rfl, by decide, rfl, by decide, (gm 990 (by decide +kernel) (by decide +kernel)), inG11⟩
theorem fp_11_12 : FP 11 12 (tyX11 12) true := ⟨RX11, TX11, 57, tyX11, rfl, tyX11_ok, nmX11, rfl, rfl, rfl⟩
theorem fl_RX11_40 : FL RX11 40 11 13 := ⟨RX11, TX11, 57, rfl, by decide, rfl, by decide, (gm 991 (by decide +kernel) (by decide +kernel)), inG11⟩
theorem fp_11_13 : FP 11 13 (tyX11 13) true := ⟨RX11, TX11, 57, tyX11, rfl, tyX11_ok, nmX11, rfl, rfl, rfl⟩
theorem fl_RX11_43 : FL RX11 43 11 14 := ⟨RX11, TX11, 57, rfl, by decide, rfl, by decide, (gm 992 (by decide +kernel) (by decide +kernel)), inG11⟩
theorem fp_11_14 : FP 11 14 (tyX11 14) true := ⟨RX11, TX11, 57, tyX11, rfl, tyX11_ok, nmX11, rfl, rfl, rfl⟩
theorem fl_RX11_46 : FL RX11 46 11 16 := ⟨RX11, TX11, 57, rfl, by decide, rfl, by decide, (gm 994 (by decide +kernel) (by decide +kernel)), inG11⟩
theorem fp_11_16 : FP 11 16 (tyX11 16) true := ⟨RX11, TX11, 57, tyX11, rfl, tyX11_ok, nmX11, rfl, rfl, rfl⟩
theorem fl_RX11_49 : FL RX11 49 11 17 := ⟨RX11, TX11, 57, rfl, by decide, rfl, by decide, (gm 995 (by decide +kernel) (by decide +kernel)), inG11⟩
theorem fp_11_17 : FP 11 17 (tyX11 17) true := ⟨RX11, TX11, 57, tyX11, rfl, tyX11_ok, nmX11, rfl, rfl, rfl⟩
theorem fl_RX11_52 : FL RX11 52 11 18 := ⟨RX11, TX11, 57, rfl, by decide, rfl, by decide, (gm 996 (by decide +kernel) (by decide +kernel)), inG11⟩
theorem fp_11_18 : FP 11 18 (tyX11 18) true := ⟨RX11, TX11, 57, tyX11, rfl, tyX11_ok, nmX11, rfl, rfl, rfl⟩
theorem fl_RX11_55 : FL RX11 55 11 19 := ⟨RX11, TX11, 57, rfl, by decide, rfl, by decide, (gm 997 (by decide +kernel) (by decide +kernel)), inG11⟩
theorem fp_11_19 : FP 11 19 (tyX11 19) true := ⟨RX11, TX11, 57, tyX11, rfl, tyX11_ok, nmX11, rfl, rfl, rfl⟩
theorem fl_RX11_58 : FL RX11 58 11 20 := ⟨RX11, TX11, 57, rfl, by decide, rfl, by decide, (gm 998 (by decide +kernel) (by decide +kernel)), inG11⟩
theorem fp_11_20 : FP 11 20 (tyX11 20) true := ⟨RX11, TX11, 57, tyX11, rfl, tyX11_ok, nmX11, rfl, rfl, rfl⟩
theorem fl_RX11_61 : FL RX11 61 11 23 := ⟨RX11, TX11, 57, rfl, by decide, rfl, by decide, (gm 1001 (by decide +kernel) (by decide +kernel)), inG11⟩
theorem fp_11_23 : FP 11 23 (tyX11 23) true := ⟨RX11, TX11, 57, tyX11, rfl, tyX11_ok, nmX11, rfl, rfl, rfl⟩
theorem fl_RX11_64 : FL RX11 64 11 24 := ⟨RX11, TX11, 57, rfl, by decide, rfl, by decide, (gm 1002 (by decide +kernel) (by decide +kernel)), inG11⟩
theorem fp_11_24 : FP 11 24 (tyX11 24) true := ⟨RX11, TX11, 57, tyX11, rfl, tyX11_ok, nmX11, rfl, rfl, rfl⟩
theorem fl_RX11_67 : FL RX11 67 11 25 := ⟨RX11, TX11, 57, rfl, by decide, rfl, by decide, (gm 1003 (by decide +kernel) (by decide +kernel)), inG11⟩
theorem fp_11_25 : FP 11 25 (tyX11 25) true := ⟨RX11, TX11, 57, tyX11, rfl, tyX11_ok, nmX11, rfl, rfl, rfl⟩
theorem fl_RX11_70 : FL RX11 70 11 26 := ⟨RX11, TX11, 57, rfl, by decide, rfl, by decide, (gm 1004 (by decide +kernel) (by decide +kernel)), inG11⟩
theorem fp_11_26 : FP 11 26 (tyX11 26) true := ⟨RX11, TX11, 57, tyX11, rfl, tyX11_ok, nmX11, rfl, rfl, rfl⟩
theorem fl_RX11_73 : FL RX11 73 11 27 := ⟨RX11, TX11, 57, rfl, by decide, rfl, by decide, (gm 1005 (by decide +kernel) (by decide +kernel)), inG11⟩
theorem fp_11_27 : FP 11 27 (tyX11 27) true := ⟨RX11, TX11, 57, tyX11, rfl, tyX11_ok, nmX11, rfl, rfl, rfl⟩
theorem fl_RX11_76 : FL RX11 76 11 29 := ⟨RX11, TX11, 57, rfl, by decide, rfl, by decide, (gm 1007 (by decide +kernel) (by decide +kernel)), inG11⟩
theorem fp_11_29 : FP 11 29 (tyX11 29) true := ⟨RX11, TX11, 57, tyX11, rfl, tyX11_ok, nmX11, rfl, rfl, rfl⟩
theorem fl_RX11_79 : FL RX11 79 11 30 := ⟨RX11, TX11, 57, rfl, by decide, rfl, by decide, (gm 1008 (by decide +kernel) (by decide +kernel)), inG11⟩
theorem fp_11_30 : FP 11 30 (tyX11 30) true := ⟨RX11, TX11, 57, tyX11, rfl, tyX11_ok, nmX11, rfl, rfl, rfl⟩
theorem fl_RX11_82 : FL RX11 82 11 35 := ⟨RX11, TX11, 57, rfl, by decide, rfl, by decide, (gm 1013 (by decide +kernel) (by decide +kernel)), inG11⟩
theorem fp_11_35 : FP 11 35 (tyX11 35) true := ⟨RX11, TX11, 57, tyX11, rfl, tyX11_ok, nmX11, rfl, rfl, rfl⟩
theorem fl_RX11_85 : FL RX11 85 11 37 := ⟨RX11, TX11, 57, rfl, by decide, rfl, by decide, (gm 1015 (by decide +kernel) (by decide +kernel)), inG11⟩
theorem fp_11_37 : FP 11 37 (tyX11 37) true := ⟨RX11, TX11, 57, tyX11, rfl, tyX11_ok, nmX11, rfl, rfl, rfl⟩
theorem fl_RX11_88 : FL RX11 88 11 38 := ⟨RX11, TX11, 57, rfl, by decide, rfl, by decide, (gm 1016 (by decide +kernel) (by decide +kernel)), inG11⟩
theorem fp_11_38 : FP 11 38 (tyX11 38) true := ⟨RX11, TX11, 57, tyX11, rfl, tyX11_ok, nmX11, rfl, rfl, rfl⟩
theorem fl_RX11_91 : FL RX11 91 11 39 := ⟨RX11, TX11, 57, rfl, by decide, rfl, by decide, (gm 1017 (by decide +kernel) (by decide +kernel)), inG11⟩
theorem fp_11_39 : FP 11 39 (tyX11 39) true := ⟨RX11, TX11, 57, tyX11, rfl, tyX11_ok, nmX11, rfl, rfl, rfl⟩
theorem fl_RX11_94 : FL RX11 94 11 41 := ⟨RX11, TX11, 57, rfl, by decide, rfl, by decide, (gm 1019 (by decide +kernel) (by decide +kernel)), inG11⟩
theorem fp_11_41 : FP 11 41 (tyX11 41) true := ⟨RX11, TX11, 57, tyX11, rfl, tyX11_ok, nmX11, rfl, rfl, rfl⟩
theorem fl_RX11_97 : FL RX11 97 11 42 := ⟨RX11, TX11, 57, rfl, by decide, rfl, by decide, (gm 1020 (by decide +kernel) (by decide +kernel)), inG11⟩
theorem fp_11_42 : FP 11 42 (tyX11 42) true := ⟨RX11, TX11, 57, tyX11, rfl, tyX11_ok, nmX11, rfl, rfl, rfl⟩
theorem fl_RX11_100 : FL RX11 100 11 46 := ⟨RX11, TX11, 57, rfl, by decide, rfl, by decide, (gm 1024 (by decide +kernel) (by decide +kernel)), inG11⟩
theorem fp_11_46 : FP 11 46 (tyX11 46) true := ⟨RX11, TX11, 57, tyX11, rfl, tyX11_ok, nmX11, rfl, rfl, rfl⟩
theorem fl_RX11_103 : FL RX11 103 11 48 := ⟨RX11, TX11, 57, rfl, by decide, rfl, by decide, (gm 1026 (by decide +kernel) (by decide +kernel)), inG11⟩
theorem fp_11_48 : FP 11 48 (tyX11 48) true := ⟨RX11, TX11, 57, tyX11, rfl, tyX11_ok, nmX11, rfl, rfl, rfl⟩
theorem fl_RX11_106 : FL RX11 106 11 49 := ⟨RX11, TX11, 57, rfl, by decide, rfl, by decide, (gm 1027 (by decide +kernel) (by decide +kernel)), inG11⟩
theorem fp_11_49 : FP 11 49 (tyX11 49) true := ⟨RX11, TX11, 57, tyX11, rfl, tyX11_ok, nmX11, rfl, rfl, rfl⟩
theorem fl_RX11_109 : FL RX11 109 11 50 := ⟨RX11, TX11, 57, rfl, by decide, rfl, by decide, (gm 1028 (by decide +kernel) (by decide +kernel)), inG11⟩
theorem fp_11_50 : FP 11 50 (tyX11 50) true := ⟨RX11, TX11, 57, tyX11, rfl, tyX11_ok, nmX11, rfl, rfl, rfl⟩
theorem fp_11_52 : FP 11 52 (tyX11 52) true := ⟨RX11, TX11, 57, tyX11, rfl, tyX11_ok, nmX11, rfl, rfl, rfl⟩
theorem fl_RX11_115 : FL RX11 115 11 53 := ⟨RX11, TX11, 57, rfl, by decide, rfl, by decide, (gm 1031 (by decide +kernel) (by decide +kernel)), inG11⟩
theorem fp_11_53 : FP 11 53 (tyX11 53) true := ⟨RX11, TX11, 57, tyX11, rfl, tyX11_ok, nmX11, rfl, rfl, rfl⟩
theorem fl_RX11_118 : FL RX11 118 11 54 := ⟨RX11, TX11, 57, rfl, by decide, rfl, by decide, (gm 1032 (by decide +kernel) (by decide +kernel)), inG11⟩
theorem fp_11_54 : FP 11 54 (tyX11 54) true := ⟨RX11, TX11, 57, tyX11, rfl, tyX11_ok, nmX11, rfl, rfl, rfl⟩
theorem fl_RX11_121 : FL RX11 121 11 55 := ⟨RX11, TX11, 57, rfl, by decide, rfl, by decide, (gm 1033 (by decide +kernel) (by decide +kernel)), inG11⟩
theorem fp_11_55 : FP 11 55 (tyX11 55) true := ⟨RX11, TX11, 57, tyX11, rfl, tyX11_ok, nmX11, rfl, rfl, rfl⟩
theorem fl_RX11_124 : FL RX11 124 11 51 := ⟨RX11, TX11, 57, rfl, by decide, rfl, by decide, (gm 1029 (by decide +kernel) (by decide +kernel)), inG11⟩
theorem fp_11_51 : FP 11 51 (tyX11 51) false := ⟨RX11, TX11, 57, tyX11, rfl, tyX11_ok, nmX11, rfl, rfl, rfl⟩
def tb_X11_init : List (Nat × Instr × Nat) := [(0, .aload_n 0, 1), (1, .invokespecial 1, 3), (4, .aload_n 0, 1), (5, .bipush 16, 2), (7, .newarray .int, 2), (9, .putfield 7, 3), (12, .aload_n 0, 1), (13, .bipush 16, 2), (15, .newarray .int, 2), (17, .putfield 13, 3), (20, .aload_n 0, 1), (21, .bipush 14, 2), (23, .newarray .int, 2), (25, .putfield 16, 3), (28, .aload_n 0, 1), (29, .bipush 14, 2), (31, .newarray .int, 2), (33, .putfield 19, 3), (36, .aload_n 0, 1), (37, .bipush 112, 2), (39, .newarray .int, 2), (41, .putfield 22, 3), (44, .aload_n 0, 1), (45, .bipush 112, 2), (47, .newarray .int, 2), (49, .putfield 25, 3), (52, .aload_n 0, 1), (53, .bipush 14, 2), (55, .newarray .int, 2), (57, .putfield 28, 3), (60, .aload_n 0, 1), (61, .bipush 14, 2), (63, .newarray .int, 2), (65, .putfield 31, 3), (68, .aload_n 0, 1), (69, .bipush 14, 2), (71, .newarray .int, 2), (73, .putfield 34, 3), (76, .aload_n 0, 1), (77, .bipush 14, 2), (79, .newarray .int, 2), (81, .putfield 37, 3), (84, .aload_n 0, 1), (85, .bipush 14, 2), (87, .newarray .int, 2), (89, .putfield 40, 3), (92, .aload_n 0, 1), (93, .bipush 112, 2), (95, .newarray .int, 2), (97, .putfield 43, 3), (100, .aload_n 0, 1), (101, .bipush 12, 2), (103, .newarray .int, 2), (105, .putfield 46, 3), (108, .aload_n 0, 1), (109, .bipush 12, 2), (111, .newarray .int, 2), (113, .putfield 49, 3), (116, .aload_n 0, 1), (117, .bipush 12, 2), (119, .newarray .int, 2), (121, .putfield 52, 3), (124, .aload_n 0, 1), (125, .bipush 12, 2), (127, .newarray .int, 2), (129, .putfield 55, 3), (132, .aload_n 0, 1), (133, .iconst 4, 1), (134, .newarray .int, 2), (136, .putfield 58, 3), (139, .aload_n 0, 1), (140, .bipush 6, 2), (142, .newarray .int, 2), (144, .putfield 61, 3), (147, .aload_n 0, 1), (148, .bipush 6, 2), (150, .newarray .int, 2), (152, .putfield 64, 3), (155, .aload_n 0, 1), (156, .bipush 6, 2), (158, .newarray .int, 2), (160, .putfield 67, 3), (163, .aload_n 0, 1), (164, .bipush 6, 2), (166, .newarray .int, 2), (168, .putfield 70, 3), (171, .aload_n 0, 1), (172, .bipush 6, 2), (174, .newarray .int, 2), (176, .putfield 73, 3), (179, .aload_n 0, 1), (180, .sipush 1984, 3), (183, .newarray .int, 2), (185, .putfield 76, 3), (188, .aload_n 0, 1), (189, .sipush 496, 3), (192, .newarray .int, 2), (194, .putfield 79, 3), (197, .aload_n 0, 1), (198, .iconst 4, 1), (199, .newarray .int, 2), (201, .putfield 82, 3), (204, .aload_n 0, 1), (205, .iconst 4, 1), (206, .newarray .int, 2), (208, .putfield 85, 3), (211, .aload_n 0, 1), (212, .iconst 4, 1), (213, .newarray .int, 2), (215, .putfield 88, 3), (218, .aload_n 0, 1), (219, .iconst 4, 1), (220, .newarray .int, 2), (222, .putfield 91, 3), (225, .aload_n 0, 1), (226, .bipush 14, 2), (228, .newarray .int, 2), (230, .putfield 94, 3), (233, .aload_n 0, 1), (234, .bipush 14, 2), (236, .newarray .int, 2), (238, .putfield 97, 3), (241, .aload_n 0, 1), (242, .bipush 6, 2), (244, .newarray .int, 2), (246, .putfield 100, 3), (249, .aload_n 0, 1), (250, .bipush 6, 2), (252, .newarray .int, 2), (254, .putfield 103, 3), (257, .aload_n 0, 1), (258, .bipush 6, 2), (260, .newarray .int, 2), (262, .putfield 106, 3), (265, .aload_n 0, 1), (266, .bipush 6, 2), (268, .newarray .int, 2), (270, .putfield 109, 3), (273, .aload_n 0, 1), (274, .iconst 4, 1), (275, .newarray .int, 2), (277, .putfield 112, 3), (280, .aload_n 0, 1), (281, .iconst 4, 1), (282, .newarray .int, 2), (284, .putfield 115, 3), (287, .aload_n 0, 1), (288, .sipush 240, 3), (291, .newarray .int, 2), (293, .putfield 118, 3), (296, .aload_n 0, 1), (297, .bipush 60, 2), (299, .newarray .int, 2), (301, .putfield 121, 3), (304, .aload_n 0, 1), (305, .bipush 40, 2), (307, .putfield 124, 3), (310, .iconst 0, 1), (311, .istore_n 1, 1), (312, .iload_n 1, 1), (313, .iconst 4, 1), (314, .if_icmp .ge 16, 3), (317, .aload_n 0, 1), (318, .getfield 112, 3), (321, .iload_n 1, 1), (322, .iconst (-1), 1), (323, .iastore, 1), (324, .iinc 1 1, 3), (327, .goto (-15), 3), (330, .return_, 1)]
def i_X11_init : MI := (RX11, cX11_init, 2, none, "<init>", { frames := 1, cells := 38, slots := 3404, locals := 80 })
theorem D_X11_init : tbOK (i_X11_init).2.1 tb_X11_init := by show ∀ q ∈ tb_X11_init, decode cX11_init q.1 = .ok (q.2.1, q.2.2); decide +kernel
def po_X11_init (S : Sk) (I : II) (r : Sk × II) : Option LV × Sk × II := (none, r.1, r.2)
def lp_X11_init_312 (fu : Nat) (S : Sk) (a0 : Nat) (self312 : Int32 → II → Option (Sk × II)) (x1 : Int32) (I : II) : Option (Sk × II) :=
  if (4 : Int32) ≤ x1 then some ((S, I)) else gd (inb S (S.1 a0 52) x1) (lt (wr I (S.1 a0 52) x1 ((-1) : Int32)) fun I4 => (self312 (x1 + (1 : Int32)) I4))
def f_X11_init (fu : Nat) (S : Sk) (I : II) (a0 : Nat) : Option (Sk × II) :=
  lt (nwS S 100 (nx (16 : Int32))) fun S5 => (lt (nwI S I) fun I6 => (lt (upP S5 a0 2 (S.2.2.2 + 1)) fun S11 => (lt (nwS S11 100 (nx (16 : Int32))) fun S16 => (lt (nwI S11 I6) fun I17 => (lt (upP S16 a0 3 (S11.2.2.2 + 1)) fun S23 => (lt (nwS S23 100 (nx (14 : Int32))) fun S29 => (lt (nwI S23 I17) fun I30 => (lt (upP S29 a0 5 (S23.2.2.2 + 1)) fun S37 => (lt (nwS S37 100 (nx (14 : Int32))) fun S44 => (lt (nwI S37 I30) fun I45 => (lt (upP S44 a0 6 (S37.2.2.2 + 1)) fun S53 => (lt (nwS S53 100 (nx (112 : Int32))) fun S61 => (lt (nwI S53 I45) fun I62 => (lt (upP S61 a0 7 (S53.2.2.2 + 1)) fun S71 => (lt (nwS S71 100 (nx (112 : Int32))) fun S80 => (lt (nwI S71 I62) fun I81 => (lt (upP S80 a0 8 (S71.2.2.2 + 1)) fun S91 => (lt (nwS S91 100 (nx (14 : Int32))) fun S101 => (lt (nwI S91 I81) fun I102 => (lt (upP S101 a0 9 (S91.2.2.2 + 1)) fun S113 => (lt (nwS S113 100 (nx (14 : Int32))) fun S124 => (lt (nwI S113 I102) fun I125 => (lt (upP S124 a0 10 (S113.2.2.2 + 1)) fun S137 => (lt (nwS S137 100 (nx (14 : Int32))) fun S149 => (lt (nwI S137 I125) fun I150 => (lt (upP S149 a0 11 (S137.2.2.2 + 1)) fun S163 => (lt (nwS S163 100 (nx (14 : Int32))) fun S176 => (lt (nwI S163 I150) fun I177 => (lt (upP S176 a0 12 (S163.2.2.2 + 1)) fun S191 => (lt (nwS S191 100 (nx (14 : Int32))) fun S205 => (lt (nwI S191 I177) fun I206 => (lt (upP S205 a0 13 (S191.2.2.2 + 1)) fun S221 => (lt (nwS S221 100 (nx (112 : Int32))) fun S236 => (lt (nwI S221 I206) fun I237 => (lt (upP S236 a0 14 (S221.2.2.2 + 1)) fun S253 => (lt (nwS S253 100 (nx (12 : Int32))) fun S269 => (lt (nwI S253 I237) fun I270 => (lt (upP S269 a0 16 (S253.2.2.2 + 1)) fun S287 => (lt (nwS S287 100 (nx (12 : Int32))) fun S304 => (lt (nwI S287 I270) fun I305 => (lt (upP S304 a0 17 (S287.2.2.2 + 1)) fun S323 => (lt (nwS S323 100 (nx (12 : Int32))) fun S341 => (lt (nwI S323 I305) fun I342 => (lt (upP S341 a0 18 (S323.2.2.2 + 1)) fun S361 => (lt (nwS S361 100 (nx (12 : Int32))) fun S380 => (lt (nwI S361 I342) fun I381 => (lt (upP S380 a0 19 (S361.2.2.2 + 1)) fun S401 => (lt (nwS S401 100 (nx (4 : Int32))) fun S421 => (lt (nwI S401 I381) fun I422 => (lt (upP S421 a0 20 (S401.2.2.2 + 1)) fun S443 => (lt (nwS S443 100 (nx (6 : Int32))) fun S464 => (lt (nwI S443 I422) fun I465 => (lt (upP S464 a0 23 (S443.2.2.2 + 1)) fun S487 => (lt (nwS S487 100 (nx (6 : Int32))) fun S509 => (lt (nwI S487 I465) fun I510 => (lt (upP S509 a0 24 (S487.2.2.2 + 1)) fun S533 => (lt (nwS S533 100 (nx (6 : Int32))) fun S556 => (lt (nwI S533 I510) fun I557 => (lt (upP S556 a0 25 (S533.2.2.2 + 1)) fun S581 => (lt (nwS S581 100 (nx (6 : Int32))) fun S605 => (lt (nwI S581 I557) fun I606 => (lt (upP S605 a0 26 (S581.2.2.2 + 1)) fun S631 => (lt (nwS S631 100 (nx (6 : Int32))) fun S656 => (lt (nwI S631 I606) fun I657 => (lt (upP S656 a0 27 (S631.2.2.2 + 1)) fun S683 => (lt (nwS S683 100 (nx (1984 : Int32))) fun S709 => (lt (nwI S683 I657) fun I710 => (lt (upP S709 a0 29 (S683.2.2.2 + 1)) fun S737 => (lt (nwS S737 100 (nx (496 : Int32))) fun S764 => (lt (nwI S737 I710) fun I765 => (lt (upP S764 a0 30 (S737.2.2.2 + 1)) fun S793 => (lt (nwS S793 100 (nx (4 : Int32))) fun S821 => (lt (nwI S793 I765) fun I822 => (lt (upP S821 a0 35 (S793.2.2.2 + 1)) fun S851 => (lt (nwS S851 100 (nx (4 : Int32))) fun S880 => (lt (nwI S851 I822) fun I881 => (lt (upP S880 a0 37 (S851.2.2.2 + 1)) fun S911 => (lt (nwS S911 100 (nx (4 : Int32))) fun S941 => (lt (nwI S911 I881) fun I942 => (lt (upP S941 a0 38 (S911.2.2.2 + 1)) fun S973 => (lt (nwS S973 100 (nx (4 : Int32))) fun S1004 => (lt (nwI S973 I942) fun I1005 => (lt (upP S1004 a0 39 (S973.2.2.2 + 1)) fun S1037 => (lt (nwS S1037 100 (nx (14 : Int32))) fun S1069 => (lt (nwI S1037 I1005) fun I1070 => (lt (upP S1069 a0 41 (S1037.2.2.2 + 1)) fun S1103 => (lt (nwS S1103 100 (nx (14 : Int32))) fun S1136 => (lt (nwI S1103 I1070) fun I1137 => (lt (upP S1136 a0 42 (S1103.2.2.2 + 1)) fun S1171 => (lt (nwS S1171 100 (nx (6 : Int32))) fun S1205 => (lt (nwI S1171 I1137) fun I1206 => (lt (upP S1205 a0 46 (S1171.2.2.2 + 1)) fun S1241 => (lt (nwS S1241 100 (nx (6 : Int32))) fun S1276 => (lt (nwI S1241 I1206) fun I1277 => (lt (upP S1276 a0 48 (S1241.2.2.2 + 1)) fun S1313 => (lt (nwS S1313 100 (nx (6 : Int32))) fun S1349 => (lt (nwI S1313 I1277) fun I1350 => (lt (upP S1349 a0 49 (S1313.2.2.2 + 1)) fun S1387 => (lt (nwS S1387 100 (nx (6 : Int32))) fun S1424 => (lt (nwI S1387 I1350) fun I1425 => (lt (upP S1424 a0 50 (S1387.2.2.2 + 1)) fun S1463 => (lt (nwS S1463 100 (nx (4 : Int32))) fun S1501 => (lt (nwI S1463 I1425) fun I1502 => (lt (upP S1501 a0 52 (S1463.2.2.2 + 1)) fun S1541 => (lt (nwS S1541 100 (nx (4 : Int32))) fun S1580 => (lt (nwI S1541 I1502) fun I1581 => (lt (upP S1580 a0 53 (S1541.2.2.2 + 1)) fun S1621 => (lt (nwS S1621 100 (nx (240 : Int32))) fun S1661 => (lt (nwI S1621 I1581) fun I1662 => (lt (upP S1661 a0 54 (S1621.2.2.2 + 1)) fun S1703 => (lt (nwS S1703 100 (nx (60 : Int32))) fun S1744 => (lt (nwI S1703 I1662) fun I1745 => (lt (upP S1744 a0 55 (S1703.2.2.2 + 1)) fun S1787 => (lt (upI I1745 a0 51 (40 : Int32)) fun I1829 => (fix2 (lp_X11_init_312 fu S1787 a0) fu (0 : Int32) I1829)))))))))))))))))))))))))))))))))))))))))))))))))))))))))))))))))))))))))))))))))))))))))))))))))))))))))))))))))))
set_option maxRecDepth 100000 in
set_option maxHeartbeats 4000000 in
theorem gg_X11_init {E : EV} (fu : Nat) (S0 : Sk) (I0 : II) (a0 : Nat) (ht0 : tyO S0 11 a0) : GG E i_X11_init (enM E i_X11_init S0 (po_X11_init S0 I0)) S0 I0 (0, 0) 0 [(0, vA (a0 + 1))] [] (f_X11_init fu S0 I0 a0) := by
  have hl312 : ∀ (S : Sk) (ht0 : tyO S 11 a0) (hsx : Sx S0 S) (nn : Nat) (x1 : Int32) (I : II), True → GG E i_X11_init (enM E i_X11_init S0 (po_X11_init S0 I0)) S I (38, 3404) 312 [(0, vA (a0 + 1)), (1, vI x1)] [] (fix2 (lp_X11_init_312 fu S a0) nn x1 I) := by
    intro S   ht0 hsx
    refine g_fix2 (fun _ _ => S) (fun x1 I => I) (fun x1 I => [(0, vA (a0 + 1)), (1, vI x1)]) (fun x1 I => True) ?_
    intro self312 hself312 x1 I hinv
    unfold lp_X11_init_312
    refine g_iload_n (dk D_X11_init 159 rfl) rfl ?_
    refine g_iconst (v := (4 : Int32)) (dk D_X11_init 160 rfl) rfl ?_
    refine g_icmp_ge (tgt := 330) (dk D_X11_init 161 rfl) rfl (fun hc1 => ?_) (fun hc1 => ?_)
    · exact g_return rfl rfl hsx rfl (by show 38 ≤ 38; omega) (by show 3404 ≤ 3404; omega) (dk D_X11_init 169 rfl)
    · refine g_aload_n (dk D_X11_init 162 rfl) rfl ?_
      refine g_getAt (t := 100) fl_RX11_112 rfl ht0 (dk D_X11_init 163 rfl) (fun ht2 => ?_)
      refine g_iload_n (dk D_X11_init 164 rfl) rfl ?_
      refine g_iconst (v := ((-1) : Int32)) (dk D_X11_init 165 rfl) rfl ?_
      refine g_gd (fun hi3 => ?_)
      refine g_iastore ht2 hi3 (dk D_X11_init 166 rfl) ?_
      refine g_ltI (fun I4 eI4 => ?_)
      refine g_iinc (v := (1 : Int32)) (L' := [(0, vA (a0 + 1)), (1, vI (x1 + (1 : Int32)))]) (dk D_X11_init 167 rfl) rfl rfl (Nat.le_of_ble_eq_true rfl) rfl ?_
      refine g_goto (tgt := 312) (dk D_X11_init 168 rfl) rfl ?_
      exact hself312 (x1 + (1 : Int32)) I4 trivial
  unfold f_X11_init
  refine g_aload_n (dk D_X11_init 0 rfl) rfl ?_
  refine g_objInit lk_RX11_1 lk_oi lk_oc (Nat.succ_ne_zero _) (by decide) (by rw [wid_sum]; exact Nat.le_of_ble_eq_true rfl) (dk D_X11_init 1 rfl) ?_
  refine g_aload_n (dk D_X11_init 2 rfl) rfl ?_
  refine g_bipush (v := (16 : Int32)) (dk D_X11_init 3 rfl) rfl ?_
  refine g_newarray (by decide) (by decide) (by show 0 + 1 ≤ 38; omega) (by show 0 + 16 ≤ 3404; omega) lk_arr (dk D_X11_init 4 rfl) ?_
  refine g_wide (cs' := (1, 16)) (by show 0 + 1 ≤ 1; omega) (by show 0 + 16 ≤ 16; omega) ?_
  refine g_ltS (fun S5 eS5 => ?_)
  refine g_ltI (fun I6 eI6 => ?_)
  have hx7 : Sx S0 S5 := eS5 ▸ nwS_x
  have ht8 := ht0.x hx7
  have hsx9 := Sx.tr Sx.rf hx7
  have ht10 : tyR S5 100 (S0.2.2.2 + 1) := eS5 ▸ nwS_ty.R
  refine g_putAt (t := 100) fl_RX11_7 fp_11_2 ff_RX11 rfl (Or.inr ⟨_, rfl⟩) ht10 ht8 (dk D_X11_init 5 rfl) ?_
  refine g_ltS (fun S11 eS11 => ?_)
  have hx12 : Sx S5 S11 := eS11 ▸ upP_x
  have ht13 := ht10.x hx12
  have ht14 := ht8.x hx12
  have hsx15 := Sx.tr hsx9 hx12
  refine g_aload_n (dk D_X11_init 6 rfl) rfl ?_
  refine g_bipush (v := (16 : Int32)) (dk D_X11_init 7 rfl) rfl ?_
  refine g_newarray (by decide) (by decide) (by show 1 + 1 ≤ 38; omega) (by show 16 + 16 ≤ 3404; omega) lk_arr (dk D_X11_init 8 rfl) ?_
  refine g_wide (cs' := (2, 32)) (by show 1 + 1 ≤ 2; omega) (by show 16 + 16 ≤ 32; omega) ?_
  refine g_ltS (fun S16 eS16 => ?_)
  refine g_ltI (fun I17 eI17 => ?_)
  have hx18 : Sx S11 S16 := eS16 ▸ nwS_x
  have ht19 := ht13.x hx18
  have ht20 := ht14.x hx18
  have hsx21 := Sx.tr hsx15 hx18
  have ht22 : tyR S16 100 (S11.2.2.2 + 1) := eS16 ▸ nwS_ty.R
  refine g_putAt (t := 100) fl_RX11_13 fp_11_3 ff_RX11 rfl (Or.inr ⟨_, rfl⟩) ht22 ht20 (dk D_X11_init 9 rfl) ?_
  refine g_ltS (fun S23 eS23 => ?_)
  have hx24 : Sx S16 S23 := eS23 ▸ upP_x
  have ht25 := ht19.x hx24
  have ht26 := ht22.x hx24
  have ht27 := ht20.x hx24
  have hsx28 := Sx.tr hsx21 hx24
  refine g_aload_n (dk D_X11_init 10 rfl) rfl ?_
  refine g_bipush (v := (14 : Int32)) (dk D_X11_init 11 rfl) rfl ?_
  refine g_newarray (by decide) (by decide) (by show 2 + 1 ≤ 38; omega) (by show 32 + 14 ≤ 3404; omega) lk_arr (dk D_X11_init 12 rfl) ?_
  refine g_wide (cs' := (3, 46)) (by show 2 + 1 ≤ 3; omega) (by show 32 + 14 ≤ 46; omega) ?_
  refine g_ltS (fun S29 eS29 => ?_)
  refine g_ltI (fun I30 eI30 => ?_)
  have hx31 : Sx S23 S29 := eS29 ▸ nwS_x
  have ht32 := ht25.x hx31
  have ht33 := ht26.x hx31
  have ht34 := ht27.x hx31
  have hsx35 := Sx.tr hsx28 hx31
  have ht36 : tyR S29 100 (S23.2.2.2 + 1) := eS29 ▸ nwS_ty.R
  refine g_putAt (t := 100) fl_RX11_16 fp_11_5 ff_RX11 rfl (Or.inr ⟨_, rfl⟩) ht36 ht34 (dk D_X11_init 13 rfl) ?_
  refine g_ltS (fun S37 eS37 => ?_)
  have hx38 : Sx S29 S37 := eS37 ▸ upP_x
  have ht39 := ht32.x hx38
  have ht40 := ht33.x hx38
  have ht41 := ht36.x hx38
  have ht42 := ht34.x hx38
  have hsx43 := Sx.tr hsx35 hx38
  refine g_aload_n (dk D_X11_init 14 rfl) rfl ?_
  refine g_bipush (v := (14 : Int32)) (dk D_X11_init 15 rfl) rfl ?_
  refine g_newarray (by decide) (by decide) (by show 3 + 1 ≤ 38; omega) (by show 46 + 14 ≤ 3404; omega) lk_arr (dk D_X11_init 16 rfl) ?_
  refine g_wide (cs' := (4, 60)) (by show 3 + 1 ≤ 4; omega) (by show 46 + 14 ≤ 60; omega) ?_
  refine g_ltS (fun S44 eS44 => ?_)
  refine g_ltI (fun I45 eI45 => ?_)
  have hx46 : Sx S37 S44 := eS44 ▸ nwS_x
  have ht47 := ht39.x hx46
  have ht48 := ht40.x hx46
  have ht49 := ht41.x hx46
  have ht50 := ht42.x hx46
  have hsx51 := Sx.tr hsx43 hx46
  have ht52 : tyR S44 100 (S37.2.2.2 + 1) := eS44 ▸ nwS_ty.R
  refine g_putAt (t := 100) fl_RX11_19 fp_11_6 ff_RX11 rfl (Or.inr ⟨_, rfl⟩) ht52 ht50 (dk D_X11_init 17 rfl) ?_
  refine g_ltS (fun S53 eS53 => ?_)
  have hx54 : Sx S44 S53 := eS53 ▸ upP_x
  have ht55 := ht47.x hx54
  have ht56 := ht48.x hx54
  have ht57 := ht49.x hx54
  have ht58 := ht52.x hx54
  have ht59 := ht50.x hx54
  have hsx60 := Sx.tr hsx51 hx54
  refine g_aload_n (dk D_X11_init 18 rfl) rfl ?_
  refine g_bipush (v := (112 : Int32)) (dk D_X11_init 19 rfl) rfl ?_
  refine g_newarray (by decide) (by decide) (by show 4 + 1 ≤ 38; omega) (by show 60 + 112 ≤ 3404; omega) lk_arr (dk D_X11_init 20 rfl) ?_
  refine g_wide (cs' := (5, 172)) (by show 4 + 1 ≤ 5; omega) (by show 60 + 112 ≤ 172; omega) ?_
  refine g_ltS (fun S61 eS61 => ?_)
  refine g_ltI (fun I62 eI62 => ?_)
  have hx63 : Sx S53 S61 := eS61 ▸ nwS_x
  have ht64 := ht55.x hx63
  have ht65 := ht56.x hx63
  have ht66 := ht57.x hx63
  have ht67 := ht58.x hx63
  have ht68 := ht59.x hx63
  have hsx69 := Sx.tr hsx60 hx63
  have ht70 : tyR S61 100 (S53.2.2.2 + 1) := eS61 ▸ nwS_ty.R
  refine g_putAt (t := 100) fl_RX11_22 fp_11_7 ff_RX11 rfl (Or.inr ⟨_, rfl⟩) ht70 ht68 (dk D_X11_init 21 rfl) ?_
  refine g_ltS (fun S71 eS71 => ?_)
  have hx72 : Sx S61 S71 := eS71 ▸ upP_x
  have ht73 := ht64.x hx72
  have ht74 := ht65.x hx72
  have ht75 := ht66.x hx72
  have ht76 := ht67.x hx72
  have ht77 := ht70.x hx72
  have ht78 := ht68.x hx72
  have hsx79 := Sx.tr hsx69 hx72
  refine g_aload_n (dk D_X11_init 22 rfl) rfl ?_
  refine g_bipush (v := (112 : Int32)) (dk D_X11_init 23 rfl) rfl ?_
  refine g_newarray (by decide) (by decide) (by show 5 + 1 ≤ 38; omega) (by show 172 + 112 ≤ 3404; omega) lk_arr (dk D_X11_init 24 rfl) ?_
  refine g_wide (cs' := (6, 284)) (by show 5 + 1 ≤ 6; omega) (by show 172 + 112 ≤ 284; omega) ?_
  refine g_ltS (fun S80 eS80 => ?_)
  refine g_ltI (fun I81 eI81 => ?_)
  have hx82 : Sx S71 S80 := eS80 ▸ nwS_x
  have ht83 := ht73.x hx82
  have ht84 := ht74.x hx82
  have ht85 := ht75.x hx82
  have ht86 := ht76.x hx82
  have ht87 := ht77.x hx82
  have ht88 := ht78.x hx82
  have hsx89 := Sx.tr hsx79 hx82
  have ht90 : tyR S80 100 (S71.2.2.2 + 1) := eS80 ▸ nwS_ty.R
  refine g_putAt (t := 100) fl_RX11_25 fp_11_8 ff_RX11 rfl (Or.inr ⟨_, rfl⟩) ht90 ht88 (dk D_X11_init 25 rfl) ?_
  refine g_ltS (fun S91 eS91 => ?_)
  have hx92 : Sx S80 S91 := eS91 ▸ upP_x
  have ht93 := ht83.x hx92
  have ht94 := ht84.x hx92
  have ht95 := ht85.x hx92
  have ht96 := ht86.x hx92
  have ht97 := ht87.x hx92
  have ht98 := ht90.x hx92
  have ht99 := ht88.x hx92
  have hsx100 := Sx.tr hsx89 hx92
  refine g_aload_n (dk D_X11_init 26 rfl) rfl ?_
  refine g_bipush (v := (14 : Int32)) (dk D_X11_init 27 rfl) rfl ?_
  refine g_newarray (by decide) (by decide) (by show 6 + 1 ≤ 38; omega) (by show 284 + 14 ≤ 3404; omega) lk_arr (dk D_X11_init 28 rfl) ?_
  refine g_wide (cs' := (7, 298)) (by show 6 + 1 ≤ 7; omega) (by show 284 + 14 ≤ 298; omega) ?_
  refine g_ltS (fun S101 eS101 => ?_)
  refine g_ltI (fun I102 eI102 => ?_)
  have hx103 : Sx S91 S101 := eS101 ▸ nwS_x
  have ht104 := ht93.x hx103
  have ht105 := ht94.x hx103
  have ht106 := ht95.x hx103
  have ht107 := ht96.x hx103
  have ht108 := ht97.x hx103
  have ht109 := ht98.x hx103
  have ht110 := ht99.x hx103
  have hsx111 := Sx.tr hsx100 hx103
  have ht112 : tyR S101 100 (S91.2.2.2 + 1) := eS101 ▸ nwS_ty.R
  refine g_putAt (t := 100) fl_RX11_28 fp_11_9 ff_RX11 rfl (Or.inr ⟨_, rfl⟩) ht112 ht110 (dk D_X11_init 29 rfl) ?_
  refine g_ltS (fun S113 eS113 => ?_)
  have hx114 : Sx S101 S113 := eS113 ▸ upP_x
  have ht115 := ht104.x hx114
  have ht116 := ht105.x hx114
  have ht117 := ht106.x hx114
  have ht118 := ht107.x hx114
  have ht119 := ht108.x hx114
  have ht120 := ht109.x hx114
  have ht121 := ht112.x hx114
  have ht122 := ht110.x hx114
  have hsx123 := Sx.tr hsx111 hx114
  refine g_aload_n (dk D_X11_init 30 rfl) rfl ?_
  refine g_bipush (v := (14 : Int32)) (dk D_X11_init 31 rfl) rfl ?_
  refine g_newarray (by decide) (by decide) (by show 7 + 1 ≤ 38; omega) (by show 298 + 14 ≤ 3404; omega) lk_arr (dk D_X11_init 32 rfl) ?_
  refine g_wide (cs' := (8, 312)) (by show 7 + 1 ≤ 8; omega) (by show 298 + 14 ≤ 312; omega) ?_
  refine g_ltS (fun S124 eS124 => ?_)
  refine g_ltI (fun I125 eI125 => ?_)
  have hx126 : Sx S113 S124 := eS124 ▸ nwS_x
  have ht127 := ht115.x hx126
  have ht128 := ht116.x hx126
  have ht129 := ht117.x hx126
  have ht130 := ht118.x hx126
  have ht131 := ht119.x hx126
  have ht132 := ht120.x hx126
  have ht133 := ht121.x hx126
  have ht134 := ht122.x hx126
  have hsx135 := Sx.tr hsx123 hx126
  have ht136 : tyR S124 100 (S113.2.2.2 + 1) := eS124 ▸ nwS_ty.R
  refine g_putAt (t := 100) fl_RX11_31 fp_11_10 ff_RX11 rfl (Or.inr ⟨_, rfl⟩) ht136 ht134 (dk D_X11_init 33 rfl) ?_
  refine g_ltS (fun S137 eS137 => ?_)
  have hx138 : Sx S124 S137 := eS137 ▸ upP_x
  have ht139 := ht127.x hx138
  have ht140 := ht128.x hx138
  have ht141 := ht129.x hx138
  have ht142 := ht130.x hx138
  have ht143 := ht131.x hx138
  have ht144 := ht132.x hx138
  have ht145 := ht133.x hx138
  have ht146 := ht136.x hx138
  have ht147 := ht134.x hx138
  have hsx148 := Sx.tr hsx135 hx138
  refine g_aload_n (dk D_X11_init 34 rfl) rfl ?_
  refine g_bipush (v := (14 : Int32)) (dk D_X11_init 35 rfl) rfl ?_
  refine g_newarray (by decide) (by decide) (by show 8 + 1 ≤ 38; omega) (by show 312 + 14 ≤ 3404; omega) lk_arr (dk D_X11_init 36 rfl) ?_
  refine g_wide (cs' := (9, 326)) (by show 8 + 1 ≤ 9; omega) (by show 312 + 14 ≤ 326; omega) ?_
  refine g_ltS (fun S149 eS149 => ?_)
  refine g_ltI (fun I150 eI150 => ?_)
  have hx151 : Sx S137 S149 := eS149 ▸ nwS_x
  have ht152 := ht139.x hx151
  have ht153 := ht140.x hx151
  have ht154 := ht141.x hx151
  have ht155 := ht142.x hx151
  have ht156 := ht143.x hx151
  have ht157 := ht144.x hx151
  have ht158 := ht145.x hx151
  have ht159 := ht146.x hx151
  have ht160 := ht147.x hx151
  have hsx161 := Sx.tr hsx148 hx151
  have ht162 : tyR S149 100 (S137.2.2.2 + 1) := eS149 ▸ nwS_ty.R
  refine g_putAt (t := 100) fl_RX11_34 fp_11_11 ff_RX11 rfl (Or.inr ⟨_, rfl⟩) ht162 ht160 (dk D_X11_init 37 rfl) ?_
  refine g_ltS (fun S163 eS163 => ?_)
  have hx164 : Sx S149 S163 := eS163 ▸ upP_x
  have ht165 := ht152.x hx164
  have ht166 := ht153.x hx164
  have ht167 := ht154.x hx164
  have ht168 := ht155.x hx164
  have ht169 := ht156.x hx164
  have ht170 := ht157.x hx164
  have ht171 := ht158.x hx164
  have ht172 := ht159.x hx164
  have ht173 := ht162.x hx164
  have ht174 := ht160.x hx164
  have hsx175 := Sx.tr hsx161 hx164
  refine g_aload_n (dk D_X11_init 38 rfl) rfl ?_
  refine g_bipush (v := (14 : Int32)) (dk D_X11_init 39 rfl) rfl ?_
  refine g_newarray (by decide) (by decide) (by show 9 + 1 ≤ 38; omega) (by show 326 + 14 ≤ 3404; omega) lk_arr (dk D_X11_init 40 rfl) ?_
  refine g_wide (cs' := (10, 340)) (by show 9 + 1 ≤ 10; omega) (by show 326 + 14 ≤ 340; omega) ?_
  refine g_ltS (fun S176 eS176 => ?_)
  refine g_ltI (fun I177 eI177 => ?_)
  have hx178 : Sx S163 S176 := eS176 ▸ nwS_x
  have ht179 := ht165.x hx178
  have ht180 := ht166.x hx178
  have ht181 := ht167.x hx178
  have ht182 := ht168.x hx178
  have ht183 := ht169.x hx178
  have ht184 := ht170.x hx178
  have ht185 := ht171.x hx178
  have ht186 := ht172.x hx178
  have ht187 := ht173.x hx178
  have ht188 := ht174.x hx178
  have hsx189 := Sx.tr hsx175 hx178
  have ht190 : tyR S176 100 (S163.2.2.2 + 1) := eS176 ▸ nwS_ty.R
  refine g_putAt (t := 100) fl_RX11_37 fp_11_12 ff_RX11 rfl (Or.inr ⟨_, rfl⟩) ht190 ht188 (dk D_X11_init 41 rfl) ?_
  refine g_ltS (fun S191 eS191 => ?_)
  have hx192 : Sx S176 S191 := eS191 ▸ upP_x
  have ht193 := ht179.x hx192
  have ht194 := ht180.x hx192
  have ht195 := ht181.x hx192
  have ht196 := ht182.x hx192
  have ht197 := ht183.x hx192
  have ht198 := ht184.x hx192
  have ht199 := ht185.x hx192
  have ht200 := ht186.x hx192
  have ht201 := ht187.x hx192
  have ht202 := ht190.x hx192
  have ht203 := ht188.x hx192
  have hsx204 := Sx.tr hsx189 hx192
  refine g_aload_n (dk D_X11_init 42 rfl) rfl ?_
  refine g_bipush (v := (14 : Int32)) (dk D_X11_init 43 rfl) rfl ?_
  refine g_newarray (by decide) (by decide) (by show 10 + 1 ≤ 38; omega) (by show 340 + 14 ≤ 3404; omega) lk_arr (dk D_X11_init 44 rfl) ?_
  refine g_wide (cs' := (11, 354)) (by show 10 + 1 ≤ 11; omega) (by show 340 + 14 ≤ 354; omega) ?_
  refine g_ltS (fun S205 eS205 => ?_)
  refine g_ltI (fun I206 eI206 => ?_)
  have hx207 : Sx S191 S205 := eS205 ▸ nwS_x
  have ht208 := ht193.x hx207
  have ht209 := ht194.x hx207
  have ht210 := ht195.x hx207
  have ht211 := ht196.x hx207
  have ht212 := ht197.x hx207
  have ht213 := ht198.x hx207
  have ht214 := ht199.x hx207
  have ht215 := ht200.x hx207
  have ht216 := ht201.x hx207
  have ht217 := ht202.x hx207
  have ht218 := ht203.x hx207
  have hsx219 := Sx.tr hsx204 hx207
  have ht220 : tyR S205 100 (S191.2.2.2 + 1) := eS205 ▸ nwS_ty.R
  refine g_putAt (t := 100) fl_RX11_40 fp_11_13 ff_RX11 rfl (Or.inr ⟨_, rfl⟩) ht220 ht218 (dk D_X11_init 45 rfl) ?_
  refine g_ltS (fun S221 eS221 => ?_)
  have hx222 : Sx S205 S221 := eS221 ▸ upP_x
  have ht223 := ht208.x hx222
  have ht224 := ht209.x hx222
  have ht225 := ht210.x hx222
  have ht226 := ht211.x hx222
  have ht227 := ht212.x hx222
  have ht228 := ht213.x hx222
  have ht229 := ht214.x hx222
  have ht230 := ht215.x hx222
  have ht231 := ht216.x hx222
  have ht232 := ht217.x hx222
  have ht233 := ht220.x hx222
  have ht234 := ht218.x hx222
  have hsx235 := Sx.tr hsx219 hx222
  refine g_aload_n (dk D_X11_init 46 rfl) rfl ?_
  refine g_bipush (v := (112 : Int32)) (dk D_X11_init 47 rfl) rfl ?_
  refine g_newarray (by decide) (by decide) (by show 11 + 1 ≤ 38; omega) (by show 354 + 112 ≤ 3404; omega) lk_arr (dk D_X11_init 48 rfl) ?_
  refine g_wide (cs' := (12, 466)) (by show 11 + 1 ≤ 12; omega) (by show 354 + 112 ≤ 466; omega) ?_
  refine g_ltS (fun S236 eS236 => ?_)
  refine g_ltI (fun I237 eI237 => ?_)
  have hx238 : Sx S221 S236 := eS236 ▸ nwS_x
  have ht239 := ht223.x hx238
  have ht240 := ht224.x hx238
  have ht241 := ht225.x hx238
  have ht242 := ht226.x hx238
  have ht243 := ht227.x hx238
  have ht244 := ht228.x hx238
  have ht245 := ht229.x hx238
  have ht246 := ht230.x hx238
  have ht247 := ht231.x hx238
  have ht248 := ht232.x hx238
  have ht249 := ht233.x hx238
  have ht250 := ht234.x hx238
  have hsx251 := Sx.tr hsx235 hx238
  have ht252 : tyR S236 100 (S221.2.2.2 + 1) := eS236 ▸ nwS_ty.R
  refine g_putAt (t := 100) fl_RX11_43 fp_11_14 ff_RX11 rfl (Or.inr ⟨_, rfl⟩) ht252 ht250 (dk D_X11_init 49 rfl) ?_
  refine g_ltS (fun S253 eS253 => ?_)
  have hx254 : Sx S236 S253 := eS253 ▸ upP_x
  have ht255 := ht239.x hx254
  have ht256 := ht240.x hx254
  have ht257 := ht241.x hx254
  have ht258 := ht242.x hx254
  have ht259 := ht243.x hx254
  have ht260 := ht244.x hx254
  have ht261 := ht245.x hx254
  have ht262 := ht246.x hx254
  have ht263 := ht247.x hx254
  have ht264 := ht248.x hx254
  have ht265 := ht249.x hx254
  have ht266 := ht252.x hx254
  have ht267 := ht250.x hx254
  have hsx268 := Sx.tr hsx251 hx254
  refine g_aload_n (dk D_X11_init 50 rfl) rfl ?_
  refine g_bipush (v := (12 : Int32)) (dk D_X11_init 51 rfl) rfl ?_
  refine g_newarray (by decide) (by decide) (by show 12 + 1 ≤ 38; omega) (by show 466 + 12 ≤ 3404; omega) lk_arr (dk D_X11_init 52 rfl) ?_
  refine g_wide (cs' := (13, 478)) (by show 12 + 1 ≤ 13; omega) (by show 466 + 12 ≤ 478; omega) ?_
  refine g_ltS (fun S269 eS269 => ?_)
  refine g_ltI (fun I270 eI270 => ?_)
  have hx271 : Sx S253 S269 := eS269 ▸ nwS_x
  have ht272 := ht255.x hx271
  have ht273 := ht256.x hx271
  have ht274 := ht257.x hx271
  have ht275 := ht258.x hx271
  have ht276 := ht259.x hx271
  have ht277 := ht260.x hx271
  have ht278 := ht261.x hx271
  have ht279 := ht262.x hx271
  have ht280 := ht263.x hx271
  have ht281 := ht264.x hx271
  have ht282 := ht265.x hx271
  have ht283 := ht266.x hx271
  have ht284 := ht267.x hx271
  have hsx285 := Sx.tr hsx268 hx271
  have ht286 : tyR S269 100 (S253.2.2.2 + 1) := eS269 ▸ nwS_ty.R
  refine g_putAt (t := 100) fl_RX11_46 fp_11_16 ff_RX11 rfl (Or.inr ⟨_, rfl⟩) ht286 ht284 (dk D_X11_init 53 rfl) ?_
  refine g_ltS (fun S287 eS287 => ?_)
  have hx288 : Sx S269 S287 := eS287 ▸ upP_x
  have ht289 := ht272.x hx288
  have ht290 := ht273.x hx288
  have ht291 := ht274.x hx288
  have ht292 := ht275.x hx288
  have ht293 := ht276.x hx288
  have ht294 := ht277.x hx288
  have ht295 := ht278.x hx288
  have ht296 := ht279.x hx288
  have ht297 := ht280.x hx288
  have ht298 := ht281.x hx288
  have ht299 := ht282.x hx288
  have ht300 := ht283.x hx288
  have ht301 := ht286.x hx288
  have ht302 := ht284.x hx288
  have hsx303 := Sx.tr hsx285 hx288
  refine g_aload_n (dk D_X11_init 54 rfl) rfl ?_
  refine g_bipush (v := (12 : Int32)) (dk D_X11_init 55 rfl) rfl ?_
  refine g_newarray (by decide) (by decide) (by show 13 + 1 ≤ 38; omega) (by show 478 + 12 ≤ 3404; omega) lk_arr (dk D_X11_init 56 rfl) ?_
  refine g_wide (cs' := (14, 490)) (by show 13 + 1 ≤ 14; omega) (by show 478 + 12 ≤ 490; omega) ?_
  refine g_ltS (fun S304 eS304 => ?_)
  refine g_ltI (fun I305 eI305 => ?_)
  have hx306 : Sx S287 S304 := eS304 ▸ nwS_x
  have ht307 := ht289.x hx306
  have ht308 := ht290.x hx306
  have ht309 := ht291.x hx306
  have ht310 := ht292.x hx306
  have ht311 := ht293.x hx306
  have ht312 := ht294.x hx306
  have ht313 := ht295.x hx306
  have ht314 := ht296.x hx306
  have ht315 := ht297.x hx306
  have ht316 := ht298.x hx306
  have ht317 := ht299.x hx306
  have ht318 := ht300.x hx306
  have ht319 := ht301.x hx306
  have ht320 := ht302.x hx306
  have hsx321 := Sx.tr hsx303 hx306
  have ht322 : tyR S304 100 (S287.2.2.2 + 1) := eS304 ▸ nwS_ty.R
  refine g_putAt (t := 100) fl_RX11_49 fp_11_17 ff_RX11 rfl (Or.inr ⟨_, rfl⟩) ht322 ht320 (dk D_X11_init 57 rfl) ?_
  refine g_ltS (fun S323 eS323 => ?_)
  have hx324 : Sx S304 S323 := eS323 ▸ upP_x
  have ht325 := ht307.x hx324
  have ht326 := ht308.x hx324
  have ht327 := ht309.x hx324
  have ht328 := ht310.x hx324
  have ht329 := ht311.x hx324
  have ht330 := ht312.x hx324
  have ht331 := ht313.x hx324
  have ht332 := ht314.x hx324
  have ht333 := ht315.x hx324
  have ht334 := ht316.x hx324
  have ht335 := ht317.x hx324
  have ht336 := ht318.x hx324
  have ht337 := ht319.x hx324
  have ht338 := ht322.x hx324
  have ht339 := ht320.x hx324
  have hsx340 := Sx.tr hsx321 hx324
  refine g_aload_n (dk D_X11_init 58 rfl) rfl ?_
  refine g_bipush (v := (12 : Int32)) (dk D_X11_init 59 rfl) rfl ?_
  refine g_newarray (by decide) (by decide) (by show 14 + 1 ≤ 38; omega) (by show 490 + 12 ≤ 3404; omega) lk_arr (dk D_X11_init 60 rfl) ?_
  refine g_wide (cs' := (15, 502)) (by show 14 + 1 ≤ 15; omega) (by show 490 + 12 ≤ 502; omega) ?_
  refine g_ltS (fun S341 eS341 => ?_)
  refine g_ltI (fun I342 eI342 => ?_)
  have hx343 : Sx S323 S341 := eS341 ▸ nwS_x
  have ht344 := ht325.x hx343
  have ht345 := ht326.x hx343
  have ht346 := ht327.x hx343
  have ht347 := ht328.x hx343
  have ht348 := ht329.x hx343
  have ht349 := ht330.x hx343
  have ht350 := ht331.x hx343
  have ht351 := ht332.x hx343
  have ht352 := ht333.x hx343
  have ht353 := ht334.x hx343
  have ht354 := ht335.x hx343
  have ht355 := ht336.x hx343
  have ht356 := ht337.x hx343
  have ht357 := ht338.x hx343
  have ht358 := ht339.x hx343
  have hsx359 := Sx.tr hsx340 hx343
  have ht360 : tyR S341 100 (S323.2.2.2 + 1) := eS341 ▸ nwS_ty.R
  refine g_putAt (t := 100) fl_RX11_52 fp_11_18 ff_RX11 rfl (Or.inr ⟨_, rfl⟩) ht360 ht358 (dk D_X11_init 61 rfl) ?_
  refine g_ltS (fun S361 eS361 => ?_)
  have hx362 : Sx S341 S361 := eS361 ▸ upP_x
  have ht363 := ht344.x hx362
  have ht364 := ht345.x hx362
  have ht365 := ht346.x hx362
  have ht366 := ht347.x hx362
  have ht367 := ht348.x hx362
  have ht368 := ht349.x hx362
  have ht369 := ht350.x hx362
  have ht370 := ht351.x hx362
  have ht371 := ht352.x hx362
  have ht372 := ht353.x hx362
  have ht373 := ht354.x hx362
  have ht374 := ht355.x hx362
  have ht375 := ht356.x hx362
  have ht376 := ht357.x hx362
  have ht377 := ht360.x hx362
  have ht378 := ht358.x hx362
  have hsx379 := Sx.tr hsx359 hx362
  refine g_aload_n (dk D_X11_init 62 rfl) rfl ?_
  refine g_bipush (v := (12 : Int32)) (dk D_X11_init 63 rfl) rfl ?_
  refine g_newarray (by decide) (by decide) (by show 15 + 1 ≤ 38; omega) (by show 502 + 12 ≤ 3404; omega) lk_arr (dk D_X11_init 64 rfl) ?_
  refine g_wide (cs' := (16, 514)) (by show 15 + 1 ≤ 16; omega) (by show 502 + 12 ≤ 514; omega) ?_
  refine g_ltS (fun S380 eS380 => ?_)
  refine g_ltI (fun I381 eI381 => ?_)
  have hx382 : Sx S361 S380 := eS380 ▸ nwS_x
  have ht383 := ht363.x hx382
  have ht384 := ht364.x hx382
  have ht385 := ht365.x hx382
  have ht386 := ht366.x hx382
  have ht387 := ht367.x hx382
  have ht388 := ht368.x hx382
  have ht389 := ht369.x hx382
  have ht390 := ht370.x hx382
  have ht391 := ht371.x hx382
  have ht392 := ht372.x hx382
  have ht393 := ht373.x hx382
  have ht394 := ht374.x hx382
  have ht395 := ht375.x hx382
  have ht396 := ht376.x hx382
  have ht397 := ht377.x hx382
  have ht398 := ht378.x hx382
  have hsx399 := Sx.tr hsx379 hx382
  have ht400 : tyR S380 100 (S361.2.2.2 + 1) := eS380 ▸ nwS_ty.R
  refine g_putAt (t := 100) fl_RX11_55 fp_11_19 ff_RX11 rfl (Or.inr ⟨_, rfl⟩) ht400 ht398 (dk D_X11_init 65 rfl) ?_
  refine g_ltS (fun S401 eS401 => ?_)
  have hx402 : Sx S380 S401 := eS401 ▸ upP_x
  have ht403 := ht383.x hx402
  have ht404 := ht384.x hx402
  have ht405 := ht385.x hx402
  have ht406 := ht386.x hx402
  have ht407 := ht387.x hx402
  have ht408 := ht388.x hx402
  have ht409 := ht389.x hx402
  have ht410 := ht390.x hx402
  have ht411 := ht391.x hx402
  have ht412 := ht392.x hx402
  have ht413 := ht393.x hx402
  have ht414 := ht394.x hx402
  have ht415 := ht395.x hx402
  have ht416 := ht396.x hx402
  have ht417 := ht397.x hx402
  have ht418 := ht400.x hx402
  have ht419 := ht398.x hx402
  have hsx420 := Sx.tr hsx399 hx402
  refine g_aload_n (dk D_X11_init 66 rfl) rfl ?_
  refine g_iconst (v := (4 : Int32)) (dk D_X11_init 67 rfl) rfl ?_
  refine g_newarray (by decide) (by decide) (by show 16 + 1 ≤ 38; omega) (by show 514 + 4 ≤ 3404; omega) lk_arr (dk D_X11_init 68 rfl) ?_
  refine g_wide (cs' := (17, 518)) (by show 16 + 1 ≤ 17; omega) (by show 514 + 4 ≤ 518; omega) ?_
  refine g_ltS (fun S421 eS421 => ?_)
  refine g_ltI (fun I422 eI422 => ?_)
  have hx423 : Sx S401 S421 := eS421 ▸ nwS_x
  have ht424 := ht403.x hx423
  have ht425 := ht404.x hx423
  have ht426 := ht405.x hx423
  have ht427 := ht406.x hx423
  have ht428 := ht407.x hx423
  have ht429 := ht408.x hx423
  have ht430 := ht409.x hx423
  have ht431 := ht410.x hx423
  have ht432 := ht411.x hx423
  have ht433 := ht412.x hx423
  have ht434 := ht413.x hx423
  have ht435 := ht414.x hx423
  have ht436 := ht415.x hx423
  have ht437 := ht416.x hx423
  have ht438 := ht417.x hx423
  have ht439 := ht418.x hx423
  have ht440 := ht419.x hx423
  have hsx441 := Sx.tr hsx420 hx423
  have ht442 : tyR S421 100 (S401.2.2.2 + 1) := eS421 ▸ nwS_ty.R
  refine g_putAt (t := 100) fl_RX11_58 fp_11_20 ff_RX11 rfl (Or.inr ⟨_, rfl⟩) ht442 ht440 (dk D_X11_init 69 rfl) ?_
  refine g_ltS (fun S443 eS443 => ?_)
  have hx444 : Sx S421 S443 := eS443 ▸ upP_x
  have ht445 := ht424.x hx444
  have ht446 := ht425.x hx444
  have ht447 := ht426.x hx444
  have ht448 := ht427.x hx444
  have ht449 := ht428.x hx444
  have ht450 := ht429.x hx444
  have ht451 := ht430.x hx444
  have ht452 := ht431.x hx444
  have ht453 := ht432.x hx444
  have ht454 := ht433.x hx444
  have ht455 := ht434.x hx444
  have ht456 := ht435.x hx444
  have ht457 := ht436.x hx444
  have ht458 := ht437.x hx444
  have ht459 := ht438.x hx444
  have ht460 := ht439.x hx444
  have ht461 := ht442.x hx444
  have ht462 := ht440.x hx444
  have hsx463 := Sx.tr hsx441 hx444
  refine g_aload_n (dk D_X11_init 70 rfl) rfl ?_
  refine g_bipush (v := (6 : Int32)) (dk D_X11_init 71 rfl) rfl ?_
  refine g_newarray (by decide) (by decide) (by show 17 + 1 ≤ 38; omega) (by show 518 + 6 ≤ 3404; omega) lk_arr (dk D_X11_init 72 rfl) ?_
  refine g_wide (cs' := (18, 524)) (by show 17 + 1 ≤ 18; omega) (by show 518 + 6 ≤ 524; omega) ?_
  refine g_ltS (fun S464 eS464 => ?_)
  refine g_ltI (fun I465 eI465 => ?_)
  have hx466 : Sx S443 S464 := eS464 ▸ nwS_x
  have ht467 := ht445.x hx466
  have ht468 := ht446.x hx466
  have ht469 := ht447.x hx466
  have ht470 := ht448.x hx466
  have ht471 := ht449.x hx466
  have ht472 := ht450.x hx466
  have ht473 := ht451.x hx466
  have ht474 := ht452.x hx466
  have ht475 := ht453.x hx466
  have ht476 := ht454.x hx466
  have ht477 := ht455.x hx466
  have ht478 := ht456.x hx466
  have ht479 := ht457.x hx466
  have ht480 := ht458.x hx466
  have ht481 := ht459.x hx466
  have ht482 := ht460.x hx466
  have ht483 := ht461.x hx466
  have ht484 := ht462.x hx466
  have hsx485 := Sx.tr hsx463 hx466
  have ht486 : tyR S464 100 (S443.2.2.2 + 1) := eS464 ▸ nwS_ty.R
  refine g_putAt (t := 100) fl_RX11_61 fp_11_23 ff_RX11 rfl (Or.inr ⟨_, rfl⟩) ht486 ht484 (dk D_X11_init 73 rfl) ?_
  refine g_ltS (fun S487 eS487 => ?_)
  have hx488 : Sx S464 S487 := eS487 ▸ upP_x
  have ht489 := ht467.x hx488
  have ht490 := ht468.x hx488
  have ht491 := ht469.x hx488
  have ht492 := ht470.x hx488
  have ht493 := ht471.x hx488
  have ht494 := ht472.x hx488
  have ht495 := ht473.x hx488
  have ht496 := ht474.x hx488
  have ht497 := ht475.x hx488
  have ht498 := ht476.x hx488
  have ht499 := ht477.x hx488
  have ht500 := ht478.x hx488
  have ht501 := ht479.x hx488
  have ht502 := ht480.x hx488
  have ht503 := ht481.x hx488
  have ht504 := ht482.x hx488
  have ht505 := ht483.x hx488
  have ht506 := ht486.x hx488
  have ht507 := ht484.x hx488
  have hsx508 := Sx.tr hsx485 hx488
  refine g_aload_n (dk D_X11_init 74 rfl) rfl ?_
  refine g_bipush (v := (6 : Int32)) (dk D_X11_init 75 rfl) rfl ?_
  refine g_newarray (by decide) (by decide) (by show 18 + 1 ≤ 38; omega) (by show 524 + 6 ≤ 3404; omega) lk_arr (dk D_X11_init 76 rfl) ?_
  refine g_wide (cs' := (19, 530)) (by show 18 + 1 ≤ 19; omega) (by show 524 + 6 ≤ 530; omega) ?_
  refine g_ltS (fun S509 eS509 => ?_)
  refine g_ltI (fun I510 eI510 => ?_)
  have hx511 : Sx S487 S509 := eS509 ▸ nwS_x
  have ht512 := ht489.x hx511
  have ht513 := ht490.x hx511
  have ht514 := ht491.x hx511
  have ht515 := ht492.x hx511
  have ht516 := ht493.x hx511
  have ht517 := ht494.x hx511
  have ht518 := ht495.x hx511
  have ht519 := ht496.x hx511
  have ht520 := ht497.x hx511
  have ht521 := ht498.x hx511
  have ht522 := ht499.x hx511
  have ht523 := ht500.x hx511
  have ht524 := ht501.x hx511
  have ht525 := ht502.x hx511
  have ht526 := ht503.x hx511
  have ht527 := ht504.x hx511
  have ht528 := ht505.x hx511
  have ht529 := ht506.x hx511
  have ht530 := ht507.x hx511
  have hsx531 := Sx.tr hsx508 hx511
  have ht532 : tyR S509 100 (S487.2.2.2 + 1) := eS509 ▸ nwS_ty.R
  refine g_putAt (t := 100) fl_RX11_64 fp_11_24 ff_RX11 rfl (Or.inr ⟨_, rfl⟩) ht532 ht530 (dk D_X11_init 77 rfl) ?_
  refine g_ltS (fun S533 eS533 => ?_)
  have hx534 : Sx S509 S533 := eS533 ▸ upP_x
  have ht535 := ht512.x hx534
  have ht536 := ht513.x hx534
  have ht537 := ht514.x hx534
  have ht538 := ht515.x hx534
  have ht539 := ht516.x hx534
  have ht540 := ht517.x hx534
  have ht541 := ht518.x hx534
  have ht542 := ht519.x hx534
  have ht543 := ht520.x hx534
  have ht544 := ht521.x hx534
  have ht545 := ht522.x hx534
  have ht546 := ht523.x hx534
  have ht547 := ht524.x hx534
  have ht548 := ht525.x hx534
  have ht549 := ht526.x hx534
  have ht550 := ht527.x hx534
  have ht551 := ht528.x hx534
  have ht552 := ht529.x hx534
  have ht553 := ht532.x hx534
  have ht554 := ht530.x hx534
  have hsx555 := Sx.tr hsx531 hx534
  refine g_aload_n (dk D_X11_init 78 rfl) rfl ?_
  refine g_bipush (v := (6 : Int32)) (dk D_X11_init 79 rfl) rfl ?_
  refine g_newarray (by decide) (by decide) (by show 19 + 1 ≤ 38; omega) (by show 530 + 6 ≤ 3404; omega) lk_arr (dk D_X11_init 80 rfl) ?_
  refine g_wide (cs' := (20, 536)) (by show 19 + 1 ≤ 20; omega) (by show 530 + 6 ≤ 536; omega) ?_
  refine g_ltS (fun S556 eS556 => ?_)
  refine g_ltI (fun I557 eI557 => ?_)
  have hx558 : Sx S533 S556 := eS556 ▸ nwS_x
  have ht559 := ht535.x hx558
  have ht560 := ht536.x hx558
  have ht561 := ht537.x hx558
  have ht562 := ht538.x hx558
  have ht563 := ht539.x hx558
  have ht564 := ht540.x hx558
  have ht565 := ht541.x hx558
  have ht566 := ht542.x hx558
  have ht567 := ht543.x hx558
  have ht568 := ht544.x hx558
  have ht569 := ht545.x hx558
  have ht570 := ht546.x hx558
  have ht571 := ht547.x hx558
  have ht572 := ht548.x hx558
  have ht573 := ht549.x hx558
  have ht574 := ht550.x hx558
  have ht575 := ht551.x hx558
  have ht576 := ht552.x hx558
  have ht577 := ht553.x hx558
  have ht578 := ht554.x hx558
  have hsx579 := Sx.tr hsx555 hx558
  have ht580 : tyR S556 100 (S533.2.2.2 + 1) := eS556 ▸ nwS_ty.R
  refine g_putAt (t := 100) fl_RX11_67 fp_11_25 ff_RX11 rfl (Or.inr ⟨_, rfl⟩) ht580 ht578 (dk D_X11_init 81 rfl) ?_
  refine g_ltS (fun S581 eS581 => ?_)
  have hx582 : Sx S556 S581 := eS581 ▸ upP_x
  have ht583 := ht559.x hx582
  have ht584 := ht560.x hx582
  have ht585 := ht561.x hx582
  have ht586 := ht562.x hx582
  have ht587 := ht563.x hx582
  have ht588 := ht564.x hx582
  have ht589 := ht565.x hx582
  have ht590 := ht566.x hx582
  have ht591 := ht567.x hx582
  have ht592 := ht568.x hx582
  have ht593 := ht569.x hx582
  have ht594 := ht570.x hx582
  have ht595 := ht571.x hx582
  have ht596 := ht572.x hx582
  have ht597 := ht573.x hx582
  have ht598 := ht574.x hx582
  have ht599 := ht575.x hx582
  have ht600 := ht576.x hx582
  have ht601 := ht577.x hx582
  have ht602 := ht580.x hx582
  have ht603 := ht578.x hx582
  have hsx604 := Sx.tr hsx579 hx582
  refine g_aload_n (dk D_X11_init 82 rfl) rfl ?_
  refine g_bipush (v := (6 : Int32)) (dk D_X11_init 83 rfl) rfl ?_
  refine g_newarray (by decide) (by decide) (by show 20 + 1 ≤ 38; omega) (by show 536 + 6 ≤ 3404; omega) lk_arr (dk D_X11_init 84 rfl) ?_
  refine g_wide (cs' := (21, 542)) (by show 20 + 1 ≤ 21; omega) (by show 536 + 6 ≤ 542; omega) ?_
  refine g_ltS (fun S605 eS605 => ?_)
  refine g_ltI (fun I606 eI606 => ?_)
  have hx607 : Sx S581 S605 := eS605 ▸ nwS_x
  have ht608 := ht583.x hx607
  have ht609 := ht584.x hx607
  have ht610 := ht585.x hx607
  have ht611 := ht586.x hx607
  have ht612 := ht587.x hx607
  have ht613 := ht588.x hx607
  have ht614 := ht589.x hx607
  have ht615 := ht590.x hx607
  have ht616 := ht591.x hx607
  have ht617 := ht592.x hx607
  have ht618 := ht593.x hx607
  have ht619 := ht594.x hx607
  have ht620 := ht595.x hx607
  have ht621 := ht596.x hx607
  have ht622 := ht597.x hx607
  have ht623 := ht598.x hx607
  have ht624 := ht599.x hx607
  have ht625 := ht600.x hx607
  have ht626 := ht601.x hx607
  have ht627 := ht602.x hx607
  have ht628 := ht603.x hx607
  have hsx629 := Sx.tr hsx604 hx607
  have ht630 : tyR S605 100 (S581.2.2.2 + 1) := eS605 ▸ nwS_ty.R
  refine g_putAt (t := 100) fl_RX11_70 fp_11_26 ff_RX11 rfl (Or.inr ⟨_, rfl⟩) ht630 ht628 (dk D_X11_init 85 rfl) ?_
  refine g_ltS (fun S631 eS631 => ?_)
  have hx632 : Sx S605 S631 := eS631 ▸ upP_x
  have ht633 := ht608.x hx632
  have ht634 := ht609.x hx632
  have ht635 := ht610.x hx632
  have ht636 := ht611.x hx632
  have ht637 := ht612.x hx632
  have ht638 := ht613.x hx632
  have ht639 := ht614.x hx632
  have ht640 := ht615.x hx632
  have ht641 := ht616.x hx632
  have ht642 := ht617.x hx632
  have ht643 := ht618.x hx632
  have ht644 := ht619.x hx632
  have ht645 := ht620.x hx632
  have ht646 := ht621.x hx632
  have ht647 := ht622.x hx632
  have ht648 := ht623.x hx632
  have ht649 := ht624.x hx632
  have ht650 := ht625.x hx632
  have ht651 := ht626.x hx632
  have ht652 := ht627.x hx632
  have ht653 := ht630.x hx632
  have ht654 := ht628.x hx632
  have hsx655 := Sx.tr hsx629 hx632
  refine g_aload_n (dk D_X11_init 86 rfl) rfl ?_
  refine g_bipush (v := (6 : Int32)) (dk D_X11_init 87 rfl) rfl ?_
  refine g_newarray (by decide) (by decide) (by show 21 + 1 ≤ 38; omega) (by show 542 + 6 ≤ 3404; omega) lk_arr (dk D_X11_init 88 rfl) ?_
  refine g_wide (cs' := (22, 548)) (by show 21 + 1 ≤ 22; omega) (by show 542 + 6 ≤ 548; omega) ?_
  refine g_ltS (fun S656 eS656 => ?_)
  refine g_ltI (fun I657 eI657 => ?_)
  have hx658 : Sx S631 S656 := eS656 ▸ nwS_x
  have ht659 := ht633.x hx658
  have ht660 := ht634.x hx658
  have ht661 := ht635.x hx658
  have ht662 := ht636.x hx658
  have ht663 := ht637.x hx658
  have ht664 := ht638.x hx658
  have ht665 := ht639.x hx658
  have ht666 := ht640.x hx658
  have ht667 := ht641.x hx658
  have ht668 := ht642.x hx658
  have ht669 := ht643.x hx658
  have ht670 := ht644.x hx658
  have ht671 := ht645.x hx658
  have ht672 := ht646.x hx658
  have ht673 := ht647.x hx658
  have ht674 := ht648.x hx658
  have ht675 := ht649.x hx658
  have ht676 := ht650.x hx658
  have ht677 := ht651.x hx658
  have ht678 := ht652.x hx658
  have ht679 := ht653.x hx658
  have ht680 := ht654.x hx658
  have hsx681 := Sx.tr hsx655 hx658
  have ht682 : tyR S656 100 (S631.2.2.2 + 1) := eS656 ▸ nwS_ty.R
  refine g_putAt (t := 100) fl_RX11_73 fp_11_27 ff_RX11 rfl (Or.inr ⟨_, rfl⟩) ht682 ht680 (dk D_X11_init 89 rfl) ?_
  refine g_ltS (fun S683 eS683 => ?_)
  have hx684 : Sx S656 S683 := eS683 ▸ upP_x
  have ht685 := ht659.x hx684
  have ht686 := ht660.x hx684
  have ht687 := ht661.x hx684
  have ht688 := ht662.x hx684
  have ht689 := ht663.x hx684
  have ht690 := ht664.x hx684
  have ht691 := ht665.x hx684
  have ht692 := ht666.x hx684
  have ht693 := ht667.x hx684
  have ht694 := ht668.x hx684
  have ht695 := ht669.x hx684
  have ht696 := ht670.x hx684
  have ht697 := ht671.x hx684
  have ht698 := ht672.x hx684
  have ht699 := ht673.x hx684
  have ht700 := ht674.x hx684
  have ht701 := ht675.x hx684
  have ht702 := ht676.x hx684
  have ht703 := ht677.x hx684
  have ht704 := ht678.x hx684
  have ht705 := ht679.x hx684
  have ht706 := ht682.x hx684
  have ht707 := ht680.x hx684
  have hsx708 := Sx.tr hsx681 hx684
  refine g_aload_n (dk D_X11_init 90 rfl) rfl ?_
  refine g_sipush (v := (1984 : Int32)) (dk D_X11_init 91 rfl) rfl ?_
  refine g_newarray (by decide) (by decide) (by show 22 + 1 ≤ 38; omega) (by show 548 + 1984 ≤ 3404; omega) lk_arr (dk D_X11_init 92 rfl) ?_
  refine g_wide (cs' := (23, 2532)) (by show 22 + 1 ≤ 23; omega) (by show 548 + 1984 ≤ 2532; omega) ?_
  refine g_ltS (fun S709 eS709 => ?_)
  refine g_ltI (fun I710 eI710 => ?_)
  have hx711 : Sx S683 S709 := eS709 ▸ nwS_x
  have ht712 := ht685.x hx711
  have ht713 := ht686.x hx711
  have ht714 := ht687.x hx711
  have ht715 := ht688.x hx711
  have ht716 := ht689.x hx711
  have ht717 := ht690.x hx711
  have ht718 := ht691.x hx711
  have ht719 := ht692.x hx711
  have ht720 := ht693.x hx711
  have ht721 := ht694.x hx711
  have ht722 := ht695.x hx711
  have ht723 := ht696.x hx711
  have ht724 := ht697.x hx711
  have ht725 := ht698.x hx711
  have ht726 := ht699.x hx711
  have ht727 := ht700.x hx711
  have ht728 := ht701.x hx711
  have ht729 := ht702.x hx711
  have ht730 := ht703.x hx711
  have ht731 := ht704.x hx711
  have ht732 := ht705.x hx711
  have ht733 := ht706.x hx711
  have ht734 := ht707.x hx711
  have hsx735 := Sx.tr hsx708 hx711
  have ht736 : tyR S709 100 (S683.2.2.2 + 1) := eS709 ▸ nwS_ty.R
  refine g_putAt (t := 100) fl_RX11_76 fp_11_29 ff_RX11 rfl (Or.inr ⟨_, rfl⟩) ht736 ht734 (dk D_X11_init 93 rfl) ?_
  refine g_ltS (fun S737 eS737 => ?_)
  have hx738 : Sx S709 S737 := eS737 ▸ upP_x
  have ht739 := ht712.x hx738
  have ht740 := ht713.x hx738
  have ht741 := ht714.x hx738
  have ht742 := ht715.x hx738
  have ht743 := ht716.x hx738
  have ht744 := ht717.x hx738
  have ht745 := ht718.x hx738
  have ht746 := ht719.x hx738
  have ht747 := ht720.x hx738
  have ht748 := ht721.x hx738
  have ht749 := ht722.x hx738
  have ht750 := ht723.x hx738
  have ht751 := ht724.x hx738
  have ht752 := ht725.x hx738
  have ht753 := ht726.x hx738
  have ht754 := ht727.x hx738
  have ht755 := ht728.x hx738
  have ht756 := ht729.x hx738
  have ht757 := ht730.x hx738
  have ht758 := ht731.x hx738
  have ht759 := ht732.x hx738
  have ht760 := ht733.x hx738
  have ht761 := ht736.x hx738
  have ht762 := ht734.x hx738
  have hsx763 := Sx.tr hsx735 hx738
  refine g_aload_n (dk D_X11_init 94 rfl) rfl ?_
  refine g_sipush (v := (496 : Int32)) (dk D_X11_init 95 rfl) rfl ?_
  refine g_newarray (by decide) (by decide) (by show 23 + 1 ≤ 38; omega) (by show 2532 + 496 ≤ 3404; omega) lk_arr (dk D_X11_init 96 rfl) ?_
  refine g_wide (cs' := (24, 3028)) (by show 23 + 1 ≤ 24; omega) (by show 2532 + 496 ≤ 3028; omega) ?_
  refine g_ltS (fun S764 eS764 => ?_)
  refine g_ltI (fun I765 eI765 => ?_)
  have hx766 : Sx S737 S764 := eS764 ▸ nwS_x
  have ht767 := ht739.x hx766
  have ht768 := ht740.x hx766
  have ht769 := ht741.x hx766
  have ht770 := ht742.x hx766
  have ht771 := ht743.x hx766
  have ht772 := ht744.x hx766
  have ht773 := ht745.x hx766
  have ht774 := ht746.x hx766
  have ht775 := ht747.x hx766
  have ht776 := ht748.x hx766
  have ht777 := ht749.x hx766
  have ht778 := ht750.x hx766
  have ht779 := ht751.x hx766
  have ht780 := ht752.x hx766
  have ht781 := ht753.x hx766
  have ht782 := ht754.x hx766
  have ht783 := ht755.x hx766
  have ht784 := ht756.x hx766
  have ht785 := ht757.x hx766
  have ht786 := ht758.x hx766
  have ht787 := ht759.x hx766
  have ht788 := ht760.x hx766
  have ht789 := ht761.x hx766
  have ht790 := ht762.x hx766
  have hsx791 := Sx.tr hsx763 hx766
  have ht792 : tyR S764 100 (S737.2.2.2 + 1) := eS764 ▸ nwS_ty.R
  refine g_putAt (t := 100) fl_RX11_79 fp_11_30 ff_RX11 rfl (Or.inr ⟨_, rfl⟩) ht792 ht790 (dk D_X11_init 97 rfl) ?_
  refine g_ltS (fun S793 eS793 => ?_)
  have hx794 : Sx S764 S793 := eS793 ▸ upP_x
  have ht795 := ht767.x hx794
  have ht796 := ht768.x hx794
  have ht797 := ht769.x hx794
  have ht798 := ht770.x hx794
  have ht799 := ht771.x hx794
  have ht800 := ht772.x hx794
  have ht801 := ht773.x hx794
  have ht802 := ht774.x hx794
  have ht803 := ht775.x hx794
  have ht804 := ht776.x hx794
  have ht805 := ht777.x hx794
  have ht806 := ht778.x hx794
  have ht807 := ht779.x hx794
  have ht808 := ht780.x hx794
  have ht809 := ht781.x hx794
  have ht810 := ht782.x hx794
  have ht811 := ht783.x hx794
  have ht812 := ht784.x hx794
  have ht813 := ht785.x hx794
  have ht814 := ht786.x hx794
  have ht815 := ht787.x hx794
  have ht816 := ht788.x hx794
  have ht817 := ht789.x hx794
  have ht818 := ht792.x hx794
  have ht819 := ht790.x hx794
  have hsx820 := Sx.tr hsx791 hx794
  refine g_aload_n (dk D_X11_init 98 rfl) rfl ?_
  refine g_iconst (v := (4 : Int32)) (dk D_X11_init 99 rfl) rfl ?_
  refine g_newarray (by decide) (by decide) (by show 24 + 1 ≤ 38; omega) (by show 3028 + 4 ≤ 3404; omega) lk_arr (dk D_X11_init 100 rfl) ?_
  refine g_wide (cs' := (25, 3032)) (by show 24 + 1 ≤ 25; omega) (by show 3028 + 4 ≤ 3032; omega) ?_
  refine g_ltS (fun S821 eS821 => ?_)
  refine g_ltI (fun I822 eI822 => ?_)
  have hx823 : Sx S793 S821 := eS821 ▸ nwS_x
  have ht824 := ht795.x hx823
  have ht825 := ht796.x hx823
  have ht826 := ht797.x hx823
  have ht827 := ht798.x hx823
  have ht828 := ht799.x hx823
  have ht829 := ht800.x hx823
  have ht830 := ht801.x hx823
  have ht831 := ht802.x hx823
  have ht832 := ht803.x hx823
  have ht833 := ht804.x hx823
  have ht834 := ht805.x hx823
  have ht835 := ht806.x hx823
  have ht836 := ht807.x hx823
  have ht837 := ht808.x hx823
  have ht838 := ht809.x hx823
  have ht839 := ht810.x hx823
  have ht840 := ht811.x hx823
  have ht841 := ht812.x hx823
  have ht842 := ht813.x hx823
  have ht843 := ht814.x hx823
  have ht844 := ht815.x hx823
  have ht845 := ht816.x hx823
  have ht846 := ht817.x hx823
  have ht847 := ht818.x hx823
  have ht848 := ht819.x hx823
  have hsx849 := Sx.tr hsx820 hx823
  have ht850 : tyR S821 100 (S793.2.2.2 + 1) := eS821 ▸ nwS_ty.R
  refine g_putAt (t := 100) fl_RX11_82 fp_11_35 ff_RX11 rfl (Or.inr ⟨_, rfl⟩) ht850 ht848 (dk D_X11_init 101 rfl) ?_
  refine g_ltS (fun S851 eS851 => ?_)
  have hx852 : Sx S821 S851 := eS851 ▸ upP_x
  have ht853 := ht824.x hx852
  have ht854 := ht825.x hx852
  have ht855 := ht826.x hx852
  have ht856 := ht827.x hx852
  have ht857 := ht828.x hx852
  have ht858 := ht829.x hx852
  have ht859 := ht830.x hx852
  have ht860 := ht831.x hx852
  have ht861 := ht832.x hx852
  have ht862 := ht833.x hx852
  have ht863 := ht834.x hx852
  have ht864 := ht835.x hx852
  have ht865 := ht836.x hx852
  have ht866 := ht837.x hx852
  have ht867 := ht838.x hx852
  have ht868 := ht839.x hx852
  have ht869 := ht840.x hx852
  have ht870 := ht841.x hx852
  have ht871 := ht842.x hx852
  have ht872 := ht843.x hx852
  have ht873 := ht844.x hx852
  have ht874 := ht845.x hx852
  have ht875 := ht846.x hx852
  have ht876 := ht847.x hx852
  have ht877 := ht850.x hx852
  have ht878 := ht848.x hx852
  have hsx879 := Sx.tr hsx849 hx852
  refine g_aload_n (dk D_X11_init 102 rfl) rfl ?_
  refine g_iconst (v := (4 : Int32)) (dk D_X11_init 103 rfl) rfl ?_
  refine g_newarray (by decide) (by decide) (by show 25 + 1 ≤ 38; omega) (by show 3032 + 4 ≤ 3404; omega) lk_arr (dk D_X11_init 104 rfl) ?_
  refine g_wide (cs' := (26, 3036)) (by show 25 + 1 ≤ 26; omega) (by show 3032 + 4 ≤ 3036; omega) ?_
  refine g_ltS (fun S880 eS880 => ?_)
  refine g_ltI (fun I881 eI881 => ?_)
  have hx882 : Sx S851 S880 := eS880 ▸ nwS_x
  have ht883 := ht853.x hx882
  have ht884 := ht854.x hx882
  have ht885 := ht855.x hx882
  have ht886 := ht856.x hx882
  have ht887 := ht857.x hx882
  have ht888 := ht858.x hx882
  have ht889 := ht859.x hx882
  have ht890 := ht860.x hx882
  have ht891 := ht861.x hx882
  have ht892 := ht862.x hx882
  have ht893 := ht863.x hx882
  have ht894 := ht864.x hx882
  have ht895 := ht865.x hx882
  have ht896 := ht866.x hx882
  have ht897 := ht867.x hx882
  have ht898 := ht868.x hx882
  have ht899 := ht869.x hx882
  have ht900 := ht870.x hx882
  have ht901 := ht871.x hx882
  have ht902 := ht872.x hx882
  have ht903 := ht873.x hx882
  have ht904 := ht874.x hx882
  have ht905 := ht875.x hx882
  have ht906 := ht876.x hx882
  have ht907 := ht877.x hx882
  have ht908 := ht878.x hx882
  have hsx909 := Sx.tr hsx879 hx882
  have ht910 : tyR S880 100 (S851.2.2.2 + 1) := eS880 ▸ nwS_ty.R
  refine g_putAt (t := 100) fl_RX11_85 fp_11_37 ff_RX11 rfl (Or.inr ⟨_, rfl⟩) ht910 ht908 (dk D_X11_init 105 rfl) ?_
  refine g_ltS (fun S911 eS911 => ?_)
  have hx912 : Sx S880 S911 := eS911 ▸ upP_x
  have ht913 := ht883.x hx912
  have ht914 := ht884.x hx912
  have ht915 := ht885.x hx912
  have ht916 := ht886.x hx912
  have ht917 := ht887.x hx912
  have ht918 := ht888.x hx912
  have ht919 := ht889.x hx912
  have ht920 := ht890.x hx912
  have ht921 := ht891.x hx912
  have ht922 := ht892.x hx912
  have ht923 := ht893.x hx912
  have ht924 := ht894.x hx912
  have ht925 := ht895.x hx912
  have ht926 := ht896.x hx912
  have ht927 := ht897.x hx912
  have ht928 := ht898.x hx912
  have ht929 := ht899.x hx912
  have ht930 := ht900.x hx912
  have ht931 := ht901.x hx912
  have ht932 := ht902.x hx912
  have ht933 := ht903.x hx912
  have ht934 := ht904.x hx912
  have ht935 := ht905.x hx912
  have ht936 := ht906.x hx912
  have ht937 := ht907.x hx912
  have ht938 := ht910.x hx912
  have ht939 := ht908.x hx912
  have hsx940 := Sx.tr hsx909 hx912
  refine g_aload_n (dk D_X11_init 106 rfl) rfl ?_
  refine g_iconst (v := (4 : Int32)) (dk D_X11_init 107 rfl) rfl ?_
  refine g_newarray (by decide) (by decide) (by show 26 + 1 ≤ 38; omega) (by show 3036 + 4 ≤ 3404; omega) lk_arr (dk D_X11_init 108 rfl) ?_
  refine g_wide (cs' := (27, 3040)) (by show 26 + 1 ≤ 27; omega) (by show 3036 + 4 ≤ 3040; omega) ?_
  refine g_ltS (fun S941 eS941 => ?_)
  refine g_ltI (fun I942 eI942 => ?_)
  have hx943 : Sx S911 S941 := eS941 ▸ nwS_x
  have ht944 := ht913.x hx943
  have ht945 := ht914.x hx943
  have ht946 := ht915.x hx943
  have ht947 := ht916.x hx943
  have ht948 := ht917.x hx943
  have ht949 := ht918.x hx943
  have ht950 := ht919.x hx943
  have ht951 := ht920.x hx943
  have ht952 := ht921.x hx943
  have ht953 := ht922.x hx943
  have ht954 := ht923.x hx943
  have ht955 := ht924.x hx943
  have ht956 := ht925.x hx943
  have ht957 := ht926.x hx943
  have ht958 := ht927.x hx943
  have ht959 := ht928.x hx943
  have ht960 := ht929.x hx943
  have ht961 := ht930.x hx943
  have ht962 := ht931.x hx943
  have ht963 := ht932.x hx943
  have ht964 := ht933.x hx943
  have ht965 := ht934.x hx943
  have ht966 := ht935.x hx943
  have ht967 := ht936.x hx943
  have ht968 := ht937.x hx943
  have ht969 := ht938.x hx943
  have ht970 := ht939.x hx943
  have hsx971 := Sx.tr hsx940 hx943
  have ht972 : tyR S941 100 (S911.2.2.2 + 1) := eS941 ▸ nwS_ty.R
  refine g_putAt (t := 100) fl_RX11_88 fp_11_38 ff_RX11 rfl (Or.inr ⟨_, rfl⟩) ht972 ht970 (dk D_X11_init 109 rfl) ?_
  refine g_ltS (fun S973 eS973 => ?_)
  have hx974 : Sx S941 S973 := eS973 ▸ upP_x
  have ht975 := ht944.x hx974
  have ht976 := ht945.x hx974
  have ht977 := ht946.x hx974
  have ht978 := ht947.x hx974
  have ht979 := ht948.x hx974
  have ht980 := ht949.x hx974
  have ht981 := ht950.x hx974
  have ht982 := ht951.x hx974
  have ht983 := ht952.x hx974
  have ht984 := ht953.x hx974
  have ht985 := ht954.x hx974
  have ht986 := ht955.x hx974
  have ht987 := ht956.x hx974
  have ht988 := ht957.x hx974
  have ht989 := ht958.x hx974
  have ht990 := ht959.x hx974
  have ht991 := ht960.x hx974
  have ht992 := ht961.x hx974
  have ht993 := ht962.x hx974
  have ht994 := ht963.x hx974
  have ht995 := ht964.x hx974
  have ht996 := ht965.x hx974
  have ht997 := ht966.x hx974
  have ht998 := ht967.x hx974
  have ht999 := ht968.x hx974
  have ht1000 := ht969.x hx974
  have ht1001 := ht972.x hx974
  have ht1002 := ht970.x hx974
  have hsx1003 := Sx.tr hsx971 hx974
  refine g_aload_n (dk D_X11_init 110 rfl) rfl ?_
  refine g_iconst (v := (4 : Int32)) (dk D_X11_init 111 rfl) rfl ?_
  refine g_newarray (by decide) (by decide) (by show 27 + 1 ≤ 38; omega) (by show 3040 + 4 ≤ 3404; omega) lk_arr (dk D_X11_init 112 rfl) ?_
  refine g_wide (cs' := (28, 3044)) (by show 27 + 1 ≤ 28; omega) (by show 3040 + 4 ≤ 3044; omega) ?_
  refine g_ltS (fun S1004 eS1004 => ?_)
  refine g_ltI (fun I1005 eI1005 => ?_)
  have hx1006 : Sx S973 S1004 := eS1004 ▸ nwS_x
  have ht1007 := ht975.x hx1006
  have ht1008 := ht976.x hx1006
  have ht1009 := ht977.x hx1006
  have ht1010 := ht978.x hx1006
  have ht1011 := ht979.x hx1006
  have ht1012 := ht980.x hx1006
  have ht1013 := ht981.x hx1006
  have ht1014 := ht982.x hx1006
  have ht1015 := ht983.x hx1006
  have ht1016 := ht984.x hx1006
  have ht1017 := ht985.x hx1006
  have ht1018 := ht986.x hx1006
  have ht1019 := ht987.x hx1006
  have ht1020 := ht988.x hx1006
  have ht1021 := ht989.x hx1006
  have ht1022 := ht990.x hx1006
  have ht1023 := ht991.x hx1006
  have ht1024 := ht992.x hx1006
  have ht1025 := ht993.x hx1006
  have ht1026 := ht994.x hx1006
  have ht1027 := ht995.x hx1006
  have ht1028 := ht996.x hx1006
  have ht1029 := ht997.x hx1006
  have ht1030 := ht998.x hx1006
  have ht1031 := ht999.x hx1006
  have ht1032 := ht1000.x hx1006
  have ht1033 := ht1001.x hx1006
  have ht1034 := ht1002.x hx1006
  have hsx1035 := Sx.tr hsx1003 hx1006
  have ht1036 : tyR S1004 100 (S973.2.2.2 + 1) := eS1004 ▸ nwS_ty.R
  refine g_putAt (t := 100) fl_RX11_91 fp_11_39 ff_RX11 rfl (Or.inr ⟨_, rfl⟩) ht1036 ht1034 (dk D_X11_init 113 rfl) ?_
  refine g_ltS (fun S1037 eS1037 => ?_)
  have hx1038 : Sx S1004 S1037 := eS1037 ▸ upP_x
  have ht1039 := ht1007.x hx1038
  have ht1040 := ht1008.x hx1038
  have ht1041 := ht1009.x hx1038
  have ht1042 := ht1010.x hx1038
  have ht1043 := ht1011.x hx1038
  have ht1044 := ht1012.x hx1038
  have ht1045 := ht1013.x hx1038
  have ht1046 := ht1014.x hx1038
  have ht1047 := ht1015.x hx1038
  have ht1048 := ht1016.x hx1038
  have ht1049 := ht1017.x hx1038
  have ht1050 := ht1018.x hx1038
  have ht1051 := ht1019.x hx1038
  have ht1052 := ht1020.x hx1038
  have ht1053 := ht1021.x hx1038
  have ht1054 := ht1022.x hx1038
  have ht1055 := ht1023.x hx1038
  have ht1056 := ht1024.x hx1038
  have ht1057 := ht1025.x hx1038
  have ht1058 := ht1026.x hx1038
  have ht1059 := ht1027.x hx1038
  have ht1060 := ht1028.x hx1038
  have ht1061 := ht1029.x hx1038
  have ht1062 := ht1030.x hx1038
  have ht1063 := ht1031.x hx1038
  have ht1064 := ht1032.x hx1038
  have ht1065 := ht1033.x hx1038
  have ht1066 := ht1036.x hx1038
  have ht1067 := ht1034.x hx1038
  have hsx1068 := Sx.tr hsx1035 hx1038
  refine g_aload_n (dk D_X11_init 114 rfl) rfl ?_
  refine g_bipush (v := (14 : Int32)) (dk D_X11_init 115 rfl) rfl ?_
  refine g_newarray (by decide) (by decide) (by show 28 + 1 ≤ 38; omega) (by show 3044 + 14 ≤ 3404; omega) lk_arr (dk D_X11_init 116 rfl) ?_
  refine g_wide (cs' := (29, 3058)) (by show 28 + 1 ≤ 29; omega) (by show 3044 + 14 ≤ 3058; omega) ?_
  refine g_ltS (fun S1069 eS1069 => ?_)
  refine g_ltI (fun I1070 eI1070 => ?_)
  have hx1071 : Sx S1037 S1069 := eS1069 ▸ nwS_x
  have ht1072 := ht1039.x hx1071
  have ht1073 := ht1040.x hx1071
  have ht1074 := ht1041.x hx1071
  have ht1075 := ht1042.x hx1071
  have ht1076 := ht1043.x hx1071
  have ht1077 := ht1044.x hx1071
  have ht1078 := ht1045.x hx1071
  have ht1079 := ht1046.x hx1071
  have ht1080 := ht1047.x hx1071
  have ht1081 := ht1048.x hx1071
  have ht1082 := ht1049.x hx1071
  have ht1083 := ht1050.x hx1071
  have ht1084 := ht1051.x hx1071
  have ht1085 := ht1052.x hx1071
  have ht1086 := ht1053.x hx1071
  have ht1087 := ht1054.x hx1071
  have ht1088 := ht1055.x hx1071
  have ht1089 := ht1056.x hx1071
  have ht1090 := ht1057.x hx1071
  have ht1091 := ht1058.x hx1071
  have ht1092 := ht1059.x hx1071
  have ht1093 := ht1060.x hx1071
  have ht1094 := ht1061.x hx1071
  have ht1095 := ht1062.x hx1071
  have ht1096 := ht1063.x hx1071
  have ht1097 := ht1064.x hx1071
  have ht1098 := ht1065.x hx1071
  have ht1099 := ht1066.x hx1071
  have ht1100 := ht1067.x hx1071
  have hsx1101 := Sx.tr hsx1068 hx1071
  have ht1102 : tyR S1069 100 (S1037.2.2.2 + 1) := eS1069 ▸ nwS_ty.R
  refine g_putAt (t := 100) fl_RX11_94 fp_11_41 ff_RX11 rfl (Or.inr ⟨_, rfl⟩) ht1102 ht1100 (dk D_X11_init 117 rfl) ?_
  refine g_ltS (fun S1103 eS1103 => ?_)
  have hx1104 : Sx S1069 S1103 := eS1103 ▸ upP_x
  have ht1105 := ht1072.x hx1104
  have ht1106 := ht1073.x hx1104
  have ht1107 := ht1074.x hx1104
  have ht1108 := ht1075.x hx1104
  have ht1109 := ht1076.x hx1104
  have ht1110 := ht1077.x hx1104
  have ht1111 := ht1078.x hx1104
  have ht1112 := ht1079.x hx1104
  have ht1113 := ht1080.x hx1104
  have ht1114 := ht1081.x hx1104
  have ht1115 := ht1082.x hx1104
  have ht1116 := ht1083.x hx1104
  have ht1117 := ht1084.x hx1104
  have ht1118 := ht1085.x hx1104
  have ht1119 := ht1086.x hx1104
  have ht1120 := ht1087.x hx1104
  have ht1121 := ht1088.x hx1104
  have ht1122 := ht1089.x hx1104
  have ht1123 := ht1090.x hx1104
  have ht1124 := ht1091.x hx1104
  have ht1125 := ht1092.x hx1104
  have ht1126 := ht1093.x hx1104
  have ht1127 := ht1094.x hx1104
  have ht1128 := ht1095.x hx1104
  have ht1129 := ht1096.x hx1104
  have ht1130 := ht1097.x hx1104
  have ht1131 := ht1098.x hx1104
  have ht1132 := ht1099.x hx1104
  have ht1133 := ht1102.x hx1104
  have ht1134 := ht1100.x hx1104
  have hsx1135 := Sx.tr hsx1101 hx1104
  refine g_aload_n (dk D_X11_init 118 rfl) rfl ?_
  refine g_bipush (v := (14 : Int32)) (dk D_X11_init 119 rfl) rfl ?_
  refine g_newarray (by decide) (by decide) (by show 29 + 1 ≤ 38; omega) (by show 3058 + 14 ≤ 3404; omega) lk_arr (dk D_X11_init 120 rfl) ?_
  refine g_wide (cs' := (30, 3072)) (by show 29 + 1 ≤ 30; omega) (by show 3058 + 14 ≤ 3072; omega) ?_
  refine g_ltS (fun S1136 eS1136 => ?_)
  refine g_ltI (fun I1137 eI1137 => ?_)
  have hx1138 : Sx S1103 S1136 := eS1136 ▸ nwS_x
  have ht1139 := ht1105.x hx1138
  have ht1140 := ht1106.x hx1138
  have ht1141 := ht1107.x hx1138
  have ht1142 := ht1108.x hx1138
  have ht1143 := ht1109.x hx1138
  have ht1144 := ht1110.x hx1138
  have ht1145 := ht1111.x hx1138
  have ht1146 := ht1112.x hx1138
  have ht1147 := ht1113.x hx1138
  have ht1148 := ht1114.x hx1138
  have ht1149 := ht1115.x hx1138
  have ht1150 := ht1116.x hx1138
  have ht1151 := ht1117.x hx1138
  have ht1152 := ht1118.x hx1138
  have ht1153 := ht1119.x hx1138
  have ht1154 := ht1120.x hx1138
  have ht1155 := ht1121.x hx1138
  have ht1156 := ht1122.x hx1138
  have ht1157 := ht1123.x hx1138
  have ht1158 := ht1124.x hx1138
  have ht1159 := ht1125.x hx1138
  have ht1160 := ht1126.x hx1138
  have ht1161 := ht1127.x hx1138
  have ht1162 := ht1128.x hx1138
  have ht1163 := ht1129.x hx1138
  have ht1164 := ht1130.x hx1138
  have ht1165 := ht1131.x hx1138
  have ht1166 := ht1132.x hx1138
  have ht1167 := ht1133.x hx1138
  have ht1168 := ht1134.x hx1138
  have hsx1169 := Sx.tr hsx1135 hx1138
  have ht1170 : tyR S1136 100 (S1103.2.2.2 + 1) := eS1136 ▸ nwS_ty.R
  refine g_putAt (t := 100) fl_RX11_97 fp_11_42 ff_RX11 rfl (Or.inr ⟨_, rfl⟩) ht1170 ht1168 (dk D_X11_init 121 rfl) ?_
  refine g_ltS (fun S1171 eS1171 => ?_)
  have hx1172 : Sx S1136 S1171 := eS1171 ▸ upP_x
  have ht1173 := ht1139.x hx1172
  have ht1174 := ht1140.x hx1172
  have ht1175 := ht1141.x hx1172
  have ht1176 := ht1142.x hx1172
  have ht1177 := ht1143.x hx1172
  have ht1178 := ht1144.x hx1172
  have ht1179 := ht1145.x hx1172
  have ht1180 := ht1146.x hx1172
  have ht1181 := ht1147.x hx1172
  have ht1182 := ht1148.x hx1172
  have ht1183 := ht1149.x hx1172
  have ht1184 := ht1150.x hx1172
  have ht1185 := ht1151.x hx1172
  have ht1186 := ht1152.x hx1172
  have ht1187 := ht1153.x hx1172
  have ht1188 := ht1154.x hx1172
  have ht1189 := ht1155.x hx1172
  have ht1190 := ht1156.x hx1172
  have ht1191 := ht1157.x hx1172
  have ht1192 := ht1158.x hx1172
  have ht1193 := ht1159.x hx1172
  have ht1194 := ht1160.x hx1172
  have ht1195 := ht1161.x hx1172
  have ht1196 := ht1162.x hx1172
  have ht1197 := ht1163.x hx1172
  have ht1198 := ht1164.x hx1172
  have ht1199 := ht1165.x hx1172
  have ht1200 := ht1166.x hx1172
  have ht1201 := ht1167.x hx1172
  have ht1202 := ht1170.x hx1172
  have ht1203 := ht1168.x hx1172
  have hsx1204 := Sx.tr hsx1169 hx1172
  refine g_aload_n (dk D_X11_init 122 rfl) rfl ?_
  refine g_bipush (v := (6 : Int32)) (dk D_X11_init 123 rfl) rfl ?_
  refine g_newarray (by decide) (by decide) (by show 30 + 1 ≤ 38; omega) (by show 3072 + 6 ≤ 3404; omega) lk_arr (dk D_X11_init 124 rfl) ?_
  refine g_wide (cs' := (31, 3078)) (by show 30 + 1 ≤ 31; omega) (by show 3072 + 6 ≤ 3078; omega) ?_
  refine g_ltS (fun S1205 eS1205 => ?_)
  refine g_ltI (fun I1206 eI1206 => ?_)
  have hx1207 : Sx S1171 S1205 := eS1205 ▸ nwS_x
  have ht1208 := ht1173.x hx1207
  have ht1209 := ht1174.x hx1207
  have ht1210 := ht1175.x hx1207
  have ht1211 := ht1176.x hx1207
  have ht1212 := ht1177.x hx1207
  have ht1213 := ht1178.x hx1207
  have ht1214 := ht1179.x hx1207
  have ht1215 := ht1180.x hx1207
  have ht1216 := ht1181.x hx1207
  have ht1217 := ht1182.x hx1207
  have ht1218 := ht1183.x hx1207
  have ht1219 := ht1184.x hx1207
  have ht1220 := ht1185.x hx1207
  have ht1221 := ht1186.x hx1207
  have ht1222 := ht1187.x hx1207
  have ht1223 := ht1188.x hx1207
  have ht1224 := ht1189.x hx1207
  have ht1225 := ht1190.x hx1207
  have ht1226 := ht1191.x hx1207
  have ht1227 := ht1192.x hx1207
  have ht1228 := ht1193.x hx1207
  have ht1229 := ht1194.x hx1207
  have ht1230 := ht1195.x hx1207
  have ht1231 := ht1196.x hx1207
  have ht1232 := ht1197.x hx1207
  have ht1233 := ht1198.x hx1207
  have ht1234 := ht1199.x hx1207
  have ht1235 := ht1200.x hx1207
  have ht1236 := ht1201.x hx1207
  have ht1237 := ht1202.x hx1207
  have ht1238 := ht1203.x hx1207
  have hsx1239 := Sx.tr hsx1204 hx1207
  have ht1240 : tyR S1205 100 (S1171.2.2.2 + 1) := eS1205 ▸ nwS_ty.R
  refine g_putAt (t := 100) fl_RX11_100 fp_11_46 ff_RX11 rfl (Or.inr ⟨_, rfl⟩) ht1240 ht1238 (dk D_X11_init 125 rfl) ?_
  refine g_ltS (fun S1241 eS1241 => ?_)
  have hx1242 : Sx S1205 S1241 := eS1241 ▸ upP_x
  have ht1243 := ht1208.x hx1242
  have ht1244 := ht1209.x hx1242
  have ht1245 := ht1210.x hx1242
  have ht1246 := ht1211.x hx1242
  have ht1247 := ht1212.x hx1242
  have ht1248 := ht1213.x hx1242
  have ht1249 := ht1214.x hx1242
  have ht1250 := ht1215.x hx1242
  have ht1251 := ht1216.x hx1242
  have ht1252 := ht1217.x hx1242
  have ht1253 := ht1218.x hx1242
  have ht1254 := ht1219.x hx1242
  have ht1255 := ht1220.x hx1242
  have ht1256 := ht1221.x hx1242
  have ht1257 := ht1222.x hx1242
  have ht1258 := ht1223.x hx1242
  have ht1259 := ht1224.x hx1242
  have ht1260 := ht1225.x hx1242
  have ht1261 := ht1226.x hx1242
  have ht1262 := ht1227.x hx1242
  have ht1263 := ht1228.x hx1242
  have ht1264 := ht1229.x hx1242
  have ht1265 := ht1230.x hx1242
  have ht1266 := ht1231.x hx1242
  have ht1267 := ht1232.x hx1242
  have ht1268 := ht1233.x hx1242
  have ht1269 := ht1234.x hx1242
  have ht1270 := ht1235.x hx1242
  have ht1271 := ht1236.x hx1242
  have ht1272 := ht1237.x hx1242
  have ht1273 := ht1240.x hx1242
  have ht1274 := ht1238.x hx1242
  have hsx1275 := Sx.tr hsx1239 hx1242
  refine g_aload_n (dk D_X11_init 126 rfl) rfl ?_
  refine g_bipush (v := (6 : Int32)) (dk D_X11_init 127 rfl) rfl ?_
  refine g_newarray (by decide) (by decide) (by show 31 + 1 ≤ 38; omega) (by show 3078 + 6 ≤ 3404; omega) lk_arr (dk D_X11_init 128 rfl) ?_
  refine g_wide (cs' := (32, 3084)) (by show 31 + 1 ≤ 32; omega) (by show 3078 + 6 ≤ 3084; omega) ?_
  refine g_ltS (fun S1276 eS1276 => ?_)
  refine g_ltI (fun I1277 eI1277 => ?_)
  have hx1278 : Sx S1241 S1276 := eS1276 ▸ nwS_x
  have ht1279 := ht1243.x hx1278
  have ht1280 := ht1244.x hx1278
  have ht1281 := ht1245.x hx1278
  have ht1282 := ht1246.x hx1278
  have ht1283 := ht1247.x hx1278
  have ht1284 := ht1248.x hx1278
  have ht1285 := ht1249.x hx1278
  have ht1286 := ht1250.x hx1278
  have ht1287 := ht1251.x hx1278
  have ht1288 := ht1252.x hx1278
  have ht1289 := ht1253.x hx1278
  have ht1290 := ht1254.x hx1278
  have ht1291 := ht1255.x hx1278
  have ht1292 := ht1256.x hx1278
  have ht1293 := ht1257.x hx1278
  have ht1294 := ht1258.x hx1278
  have ht1295 := ht1259.x hx1278
  have ht1296 := ht1260.x hx1278
  have ht1297 := ht1261.x hx1278
  have ht1298 := ht1262.x hx1278
  have ht1299 := ht1263.x hx1278
  have ht1300 := ht1264.x hx1278
  have ht1301 := ht1265.x hx1278
  have ht1302 := ht1266.x hx1278
  have ht1303 := ht1267.x hx1278
  have ht1304 := ht1268.x hx1278
  have ht1305 := ht1269.x hx1278
  have ht1306 := ht1270.x hx1278
  have ht1307 := ht1271.x hx1278
  have ht1308 := ht1272.x hx1278
  have ht1309 := ht1273.x hx1278
  have ht1310 := ht1274.x hx1278
  have hsx1311 := Sx.tr hsx1275 hx1278
  have ht1312 : tyR S1276 100 (S1241.2.2.2 + 1) := eS1276 ▸ nwS_ty.R
  refine g_putAt (t := 100) fl_RX11_103 fp_11_48 ff_RX11 rfl (Or.inr ⟨_, rfl⟩) ht1312 ht1310 (dk D_X11_init 129 rfl) ?_
  refine g_ltS (fun S1313 eS1313 => ?_)
  have hx1314 : Sx S1276 S1313 := eS1313 ▸ upP_x
  have ht1315 := ht1279.x hx1314
  have ht1316 := ht1280.x hx1314
  have ht1317 := ht1281.x hx1314
  have ht1318 := ht1282.x hx1314
  have ht1319 := ht1283.x hx1314
  have ht1320 := ht1284.x hx1314
  have ht1321 := ht1285.x hx1314
  have ht1322 := ht1286.x hx1314
  have ht1323 := ht1287.x hx1314
  have ht1324 := ht1288.x hx1314
  have ht1325 := ht1289.x hx1314
  have ht1326 := ht1290.x hx1314
  have ht1327 := ht1291.x hx1314
  have ht1328 := ht1292.x hx1314
  have ht1329 := ht1293.x hx1314
  have ht1330 := ht1294.x hx1314
  have ht1331 := ht1295.x hx1314
  have ht1332 := ht1296.x hx1314
  have ht1333 := ht1297.x hx1314
  have ht1334 := ht1298.x hx1314
  have ht1335 := ht1299.x hx1314
  have ht1336 := ht1300.x hx1314
  have ht1337 := ht1301.x hx1314
  have ht1338 := ht1302.x hx1314
  have ht1339 := ht1303.x hx1314
  have ht1340 := ht1304.x hx1314
  have ht1341 := ht1305.x hx1314
  have ht1342 := ht1306.x hx1314
  have ht1343 := ht1307.x hx1314
  have ht1344 := ht1308.x hx1314
  have ht1345 := ht1309.x hx1314
  have ht1346 := ht1312.x hx1314
  have ht1347 := ht1310.x hx1314
  have hsx1348 := Sx.tr hsx1311 hx1314
  refine g_aload_n (dk D_X11_init 130 rfl) rfl ?_
  refine g_bipush (v := (6 : Int32)) (dk D_X11_init 131 rfl) rfl ?_
  refine g_newarray (by decide) (by decide) (by show 32 + 1 ≤ 38; omega) (by show 3084 + 6 ≤ 3404; omega) lk_arr (dk D_X11_init 132 rfl) ?_
  refine g_wide (cs' := (33, 3090)) (by show 32 + 1 ≤ 33; omega) (by show 3084 + 6 ≤ 3090; omega) ?_
  refine g_ltS (fun S1349 eS1349 => ?_)
  refine g_ltI (fun I1350 eI1350 => ?_)
  have hx1351 : Sx S1313 S1349 := eS1349 ▸ nwS_x
  have ht1352 := ht1315.x hx1351
  have ht1353 := ht1316.x hx1351
  have ht1354 := ht1317.x hx1351
  have ht1355 := ht1318.x hx1351
  have ht1356 := ht1319.x hx1351
  have ht1357 := ht1320.x hx1351
  have ht1358 := ht1321.x hx1351
  have ht1359 := ht1322.x hx1351
  have ht1360 := ht1323.x hx1351
  have ht1361 := ht1324.x hx1351
  have ht1362 := ht1325.x hx1351
  have ht1363 := ht1326.x hx1351
  have ht1364 := ht1327.x hx1351
  have ht1365 := ht1328.x hx1351
  have ht1366 := ht1329.x hx1351
  have ht1367 := ht1330.x hx1351
  have ht1368 := ht1331.x hx1351
  have ht1369 := ht1332.x hx1351
  have ht1370 := ht1333.x hx1351
  have ht1371 := ht1334.x hx1351
  have ht1372 := ht1335.x hx1351
  have ht1373 := ht1336.x hx1351
  have ht1374 := ht1337.x hx1351
  have ht1375 := ht1338.x hx1351
  have ht1376 := ht1339.x hx1351
  have ht1377 := ht1340.x hx1351
  have ht1378 := ht1341.x hx1351
  have ht1379 := ht1342.x hx1351
  have ht1380 := ht1343.x hx1351
  have ht1381 := ht1344.x hx1351
  have ht1382 := ht1345.x hx1351
  have ht1383 := ht1346.x hx1351
  have ht1384 := ht1347.x hx1351
  have hsx1385 := Sx.tr hsx1348 hx1351
  have ht1386 : tyR S1349 100 (S1313.2.2.2 + 1) := eS1349 ▸ nwS_ty.R
  refine g_putAt (t := 100) fl_RX11_106 fp_11_49 ff_RX11 rfl (Or.inr ⟨_, rfl⟩) ht1386 ht1384 (dk D_X11_init 133 rfl) ?_
  refine g_ltS (fun S1387 eS1387 => ?_)
  have hx1388 : Sx S1349 S1387 := eS1387 ▸ upP_x
  have ht1389 := ht1352.x hx1388
  have ht1390 := ht1353.x hx1388
  have ht1391 := ht1354.x hx1388
  have ht1392 := ht1355.x hx1388
  have ht1393 := ht1356.x hx1388
  have ht1394 := ht1357.x hx1388
  have ht1395 := ht1358.x hx1388
  have ht1396 := ht1359.x hx1388
  have ht1397 := ht1360.x hx1388
  have ht1398 := ht1361.x hx1388
  have ht1399 := ht1362.x hx1388
  have ht1400 := ht1363.x hx1388
  have ht1401 := ht1364.x hx1388
  have ht1402 := ht1365.x hx1388
  have ht1403 := ht1366.x hx1388
  have ht1404 := ht1367.x hx1388
  have ht1405 := ht1368.x hx1388
  have ht1406 := ht1369.x hx1388
  have ht1407 := ht1370.x hx1388
  have ht1408 := ht1371.x hx1388
  have ht1409 := ht1372.x hx1388
  have ht1410 := ht1373.x hx1388
  have ht1411 := ht1374.x hx1388
  have ht1412 := ht1375.x hx1388
  have ht1413 := ht1376.x hx1388
  have ht1414 := ht1377.x hx1388
  have ht1415 := ht1378.x hx1388
  have ht1416 := ht1379.x hx1388
  have ht1417 := ht1380.x hx1388
  have ht1418 := ht1381.x hx1388
  have ht1419 := ht1382.x hx1388
  have ht1420 := ht1383.x hx1388
  have ht1421 := ht1386.x hx1388
  have ht1422 := ht1384.x hx1388
  have hsx1423 := Sx.tr hsx1385 hx1388
  refine g_aload_n (dk D_X11_init 134 rfl) rfl ?_
  refine g_bipush (v := (6 : Int32)) (dk D_X11_init 135 rfl) rfl ?_
  refine g_newarray (by decide) (by decide) (by show 33 + 1 ≤ 38; omega) (by show 3090 + 6 ≤ 3404; omega) lk_arr (dk D_X11_init 136 rfl) ?_
  refine g_wide (cs' := (34, 3096)) (by show 33 + 1 ≤ 34; omega) (by show 3090 + 6 ≤ 3096; omega) ?_
  refine g_ltS (fun S1424 eS1424 => ?_)
  refine g_ltI (fun I1425 eI1425 => ?_)
  have hx1426 : Sx S1387 S1424 := eS1424 ▸ nwS_x
  have ht1427 := ht1389.x hx1426
  have ht1428 := ht1390.x hx1426
  have ht1429 := ht1391.x hx1426
  have ht1430 := ht1392.x hx1426
  have ht1431 := ht1393.x hx1426
  have ht1432 := ht1394.x hx1426
  have ht1433 := ht1395.x hx1426
  have ht1434 := ht1396.x hx1426
  have ht1435 := ht1397.x hx1426
  have ht1436 := ht1398.x hx1426
  have ht1437 := ht1399.x hx1426
  have ht1438 := ht1400.x hx1426
  have ht1439 := ht1401.x hx1426
  have ht1440 := ht1402.x hx1426
  have ht1441 := ht1403.x hx1426
  have ht1442 := ht1404.x hx1426
  have ht1443 := ht1405.x hx1426
  have ht1444 := ht1406.x hx1426
  have ht1445 := ht1407.x hx1426
  have ht1446 := ht1408.x hx1426
  have ht1447 := ht1409.x hx1426
  have ht1448 := ht1410.x hx1426
  have ht1449 := ht1411.x hx1426
  have ht1450 := ht1412.x hx1426
  have ht1451 := ht1413.x hx1426
  have ht1452 := ht1414.x hx1426
  have ht1453 := ht1415.x hx1426
  have ht1454 := ht1416.x hx1426
  have ht1455 := ht1417.x hx1426
  have ht1456 := ht1418.x hx1426
  have ht1457 := ht1419.x hx1426
  have ht1458 := ht1420.x hx1426
  have ht1459 := ht1421.x hx1426
  have ht1460 := ht1422.x hx1426
  have hsx1461 := Sx.tr hsx1423 hx1426
  have ht1462 : tyR S1424 100 (S1387.2.2.2 + 1) := eS1424 ▸ nwS_ty.R
  refine g_putAt (t := 100) fl_RX11_109 fp_11_50 ff_RX11 rfl (Or.inr ⟨_, rfl⟩) ht1462 ht1460 (dk D_X11_init 137 rfl) ?_
  refine g_ltS (fun S1463 eS1463 => ?_)
  have hx1464 : Sx S1424 S1463 := eS1463 ▸ upP_x
  have ht1465 := ht1427.x hx1464
  have ht1466 := ht1428.x hx1464
  have ht1467 := ht1429.x hx1464
  have ht1468 := ht1430.x hx1464
  have ht1469 := ht1431.x hx1464
  have ht1470 := ht1432.x hx1464
  have ht1471 := ht1433.x hx1464
  have ht1472 := ht1434.x hx1464
  have ht1473 := ht1435.x hx1464
  have ht1474 := ht1436.x hx1464
  have ht1475 := ht1437.x hx1464
  have ht1476 := ht1438.x hx1464
  have ht1477 := ht1439.x hx1464
  have ht1478 := ht1440.x hx1464
  have ht1479 := ht1441.x hx1464
  have ht1480 := ht1442.x hx1464
  have ht1481 := ht1443.x hx1464
  have ht1482 := ht1444.x hx1464
  have ht1483 := ht1445.x hx1464
  have ht1484 := ht1446.x hx1464
  have ht1485 := ht1447.x hx1464
  have ht1486 := ht1448.x hx1464
  have ht1487 := ht1449.x hx1464
  have ht1488 := ht1450.x hx1464
  have ht1489 := ht1451.x hx1464
  have ht1490 := ht1452.x hx1464
  have ht1491 := ht1453.x hx1464
  have ht1492 := ht1454.x hx1464
  have ht1493 := ht1455.x hx1464
  have ht1494 := ht1456.x hx1464
  have ht1495 := ht1457.x hx1464
  have ht1496 := ht1458.x hx1464
  have ht1497 := ht1459.x hx1464
  have ht1498 := ht1462.x hx1464
  have ht1499 := ht1460.x hx1464
  have hsx1500 := Sx.tr hsx1461 hx1464
  refine g_aload_n (dk D_X11_init 138 rfl) rfl ?_
  refine g_iconst (v := (4 : Int32)) (dk D_X11_init 139 rfl) rfl ?_
  refine g_newarray (by decide) (by decide) (by show 34 + 1 ≤ 38; omega) (by show 3096 + 4 ≤ 3404; omega) lk_arr (dk D_X11_init 140 rfl) ?_
  refine g_wide (cs' := (35, 3100)) (by show 34 + 1 ≤ 35; omega) (by show 3096 + 4 ≤ 3100; omega) ?_
  refine g_ltS (fun S1501 eS1501 => ?_)
  refine g_ltI (fun I1502 eI1502 => ?_)
  have hx1503 : Sx S1463 S1501 := eS1501 ▸ nwS_x
  have ht1504 := ht1465.x hx1503
  have ht1505 := ht1466.x hx1503
  have ht1506 := ht1467.x hx1503
  have ht1507 := ht1468.x hx1503
  have ht1508 := ht1469.x hx1503
  have ht1509 := ht1470.x hx1503
  have ht1510 := ht1471.x hx1503
  have ht1511 := ht1472.x hx1503
  have ht1512 := ht1473.x hx1503
  have ht1513 := ht1474.x hx1503
  have ht1514 := ht1475.x hx1503
  have ht1515 := ht1476.x hx1503
  have ht1516 := ht1477.x hx1503
  have ht1517 := ht1478.x hx1503
  have ht1518 := ht1479.x hx1503
  have ht1519 := ht1480.x hx1503
  have ht1520 := ht1481.x hx1503
  have ht1521 := ht1482.x hx1503
  have ht1522 := ht1483.x hx1503
  have ht1523 := ht1484.x hx1503
  have ht1524 := ht1485.x hx1503
  have ht1525 := ht1486.x hx1503
  have ht1526 := ht1487.x hx1503
  have ht1527 := ht1488.x hx1503
  have ht1528 := ht1489.x hx1503
  have ht1529 := ht1490.x hx1503
  have ht1530 := ht1491.x hx1503
  have ht1531 := ht1492.x hx1503
  have ht1532 := ht1493.x hx1503
  have ht1533 := ht1494.x hx1503
  have ht1534 := ht1495.x hx1503
  have ht1535 := ht1496.x hx1503
  have ht1536 := ht1497.x hx1503
  have ht1537 := ht1498.x hx1503
  have ht1538 := ht1499.x hx1503
  have hsx1539 := Sx.tr hsx1500 hx1503
  have ht1540 : tyR S1501 100 (S1463.2.2.2 + 1) := eS1501 ▸ nwS_ty.R
  refine g_putAt (t := 100) fl_RX11_112 fp_11_52 ff_RX11 rfl (Or.inr ⟨_, rfl⟩) ht1540 ht1538 (dk D_X11_init 141 rfl) ?_
  refine g_ltS (fun S1541 eS1541 => ?_)
  have hx1542 : Sx S1501 S1541 := eS1541 ▸ upP_x
  have ht1543 := ht1504.x hx1542
  have ht1544 := ht1505.x hx1542
  have ht1545 := ht1506.x hx1542
  have ht1546 := ht1507.x hx1542
  have ht1547 := ht1508.x hx1542
  have ht1548 := ht1509.x hx1542
  have ht1549 := ht1510.x hx1542
  have ht1550 := ht1511.x hx1542
  have ht1551 := ht1512.x hx1542
  have ht1552 := ht1513.x hx1542
  have ht1553 := ht1514.x hx1542
  have ht1554 := ht1515.x hx1542
  have ht1555 := ht1516.x hx1542
  have ht1556 := ht1517.x hx1542
  have ht1557 := ht1518.x hx1542
  have ht1558 := ht1519.x hx1542
  have ht1559 := ht1520.x hx1542
  have ht1560 := ht1521.x hx1542
  have ht1561 := ht1522.x hx1542
  have ht1562 := ht1523.x hx1542
  have ht1563 := ht1524.x hx1542
  have ht1564 := ht1525.x hx1542
  have ht1565 := ht1526.x hx1542
  have ht1566 := ht1527.x hx1542
  have ht1567 := ht1528.x hx1542
  have ht1568 := ht1529.x hx1542
  have ht1569 := ht1530.x hx1542
  have ht1570 := ht1531.x hx1542
  have ht1571 := ht1532.x hx1542
  have ht1572 := ht1533.x hx1542
  have ht1573 := ht1534.x hx1542
  have ht1574 := ht1535.x hx1542
  have ht1575 := ht1536.x hx1542
  have ht1576 := ht1537.x hx1542
  have ht1577 := ht1540.x hx1542
  have ht1578 := ht1538.x hx1542
  have hsx1579 := Sx.tr hsx1539 hx1542
  refine g_aload_n (dk D_X11_init 142 rfl) rfl ?_
  refine g_iconst (v := (4 : Int32)) (dk D_X11_init 143 rfl) rfl ?_
  refine g_newarray (by decide) (by decide) (by show 35 + 1 ≤ 38; omega) (by show 3100 + 4 ≤ 3404; omega) lk_arr (dk D_X11_init 144 rfl) ?_
  refine g_wide (cs' := (36, 3104)) (by show 35 + 1 ≤ 36; omega) (by show 3100 + 4 ≤ 3104; omega) ?_
  refine g_ltS (fun S1580 eS1580 => ?_)
  refine g_ltI (fun I1581 eI1581 => ?_)
  have hx1582 : Sx S1541 S1580 := eS1580 ▸ nwS_x
  have ht1583 := ht1543.x hx1582
  have ht1584 := ht1544.x hx1582
  have ht1585 := ht1545.x hx1582
  have ht1586 := ht1546.x hx1582
  have ht1587 := ht1547.x hx1582
  have ht1588 := ht1548.x hx1582
  have ht1589 := ht1549.x hx1582
  have ht1590 := ht1550.x hx1582
  have ht1591 := ht1551.x hx1582
  have ht1592 := ht1552.x hx1582
  have ht1593 := ht1553.x hx1582
  have ht1594 := ht1554.x hx1582
  have ht1595 := ht1555.x hx1582
  have ht1596 := ht1556.x hx1582
  have ht1597 := ht1557.x hx1582
  have ht1598 := ht1558.x hx1582
  have ht1599 := ht1559.x hx1582
  have ht1600 := ht1560.x hx1582
  have ht1601 := ht1561.x hx1582
  have ht1602 := ht1562.x hx1582
  have ht1603 := ht1563.x hx1582
  have ht1604 := ht1564.x hx1582
  have ht1605 := ht1565.x hx1582
  have ht1606 := ht1566.x hx1582
  have ht1607 := ht1567.x hx1582
  have ht1608 := ht1568.x hx1582
  have ht1609 := ht1569.x hx1582
  have ht1610 := ht1570.x hx1582
  have ht1611 := ht1571.x hx1582
  have ht1612 := ht1572.x hx1582
  have ht1613 := ht1573.x hx1582
  have ht1614 := ht1574.x hx1582
  have ht1615 := ht1575.x hx1582
  have ht1616 := ht1576.x hx1582
  have ht1617 := ht1577.x hx1582
  have ht1618 := ht1578.x hx1582
  have hsx1619 := Sx.tr hsx1579 hx1582
  have ht1620 : tyR S1580 100 (S1541.2.2.2 + 1) := eS1580 ▸ nwS_ty.R
  refine g_putAt (t := 100) fl_RX11_115 fp_11_53 ff_RX11 rfl (Or.inr ⟨_, rfl⟩) ht1620 ht1618 (dk D_X11_init 145 rfl) ?_
  refine g_ltS (fun S1621 eS1621 => ?_)
  have hx1622 : Sx S1580 S1621 := eS1621 ▸ upP_x
  have ht1623 := ht1583.x hx1622
  have ht1624 := ht1584.x hx1622
  have ht1625 := ht1585.x hx1622
  have ht1626 := ht1586.x hx1622
  have ht1627 := ht1587.x hx1622
  have ht1628 := ht1588.x hx1622
  have ht1629 := ht1589.x hx1622
  have ht1630 := ht1590.x hx1622
  have ht1631 := ht1591.x hx1622
  have ht1632 := ht1592.x hx1622
  have ht1633 := ht1593.x hx1622
  have ht1634 := ht1594.x hx1622
  have ht1635 := ht1595.x hx1622
  have ht1636 := ht1596.x hx1622
  have ht1637 := ht1597.x hx1622
  have ht1638 := ht1598.x hx1622
  have ht1639 := ht1599.x hx1622
  have ht1640 := ht1600.x hx1622
  have ht1641 := ht1601.x hx1622
  have ht1642 := ht1602.x hx1622
  have ht1643 := ht1603.x hx1622
  have ht1644 := ht1604.x hx1622
  have ht1645 := ht1605.x hx1622
  have ht1646 := ht1606.x hx1622
  have ht1647 := ht1607.x hx1622
  have ht1648 := ht1608.x hx1622
  have ht1649 := ht1609.x hx1622
  have ht1650 := ht1610.x hx1622
  have ht1651 := ht1611.x hx1622
  have ht1652 := ht1612.x hx1622
  have ht1653 := ht1613.x hx1622
  have ht1654 := ht1614.x hx1622
  have ht1655 := ht1615.x hx1622
  have ht1656 := ht1616.x hx1622
  have ht1657 := ht1617.x hx1622
  have ht1658 := ht1620.x hx1622
  have ht1659 := ht1618.x hx1622
  have hsx1660 := Sx.tr hsx1619 hx1622
  refine g_aload_n (dk D_X11_init 146 rfl) rfl ?_
  refine g_sipush (v := (240 : Int32)) (dk D_X11_init 147 rfl) rfl ?_
  refine g_newarray (by decide) (by decide) (by show 36 + 1 ≤ 38; omega) (by show 3104 + 240 ≤ 3404; omega) lk_arr (dk D_X11_init 148 rfl) ?_
  refine g_wide (cs' := (37, 3344)) (by show 36 + 1 ≤ 37; omega) (by show 3104 + 240 ≤ 3344; omega) ?_
  refine g_ltS (fun S1661 eS1661 => ?_)
  refine g_ltI (fun I1662 eI1662 => ?_)
  have hx1663 : Sx S1621 S1661 := eS1661 ▸ nwS_x
  have ht1664 := ht1623.x hx1663
  have ht1665 := ht1624.x hx1663
  have ht1666 := ht1625.x hx1663
  have ht1667 := ht1626.x hx1663
  have ht1668 := ht1627.x hx1663
  have ht1669 := ht1628.x hx1663
  have ht1670 := ht1629.x hx1663
  have ht1671 := ht1630.x hx1663
  have ht1672 := ht1631.x hx1663
  have ht1673 := ht1632.x hx1663
  have ht1674 := ht1633.x hx1663
  have ht1675 := ht1634.x hx1663
  have ht1676 := ht1635.x hx1663
  have ht1677 := ht1636.x hx1663
  have ht1678 := ht1637.x hx1663
  have ht1679 := ht1638.x hx1663
  have ht1680 := ht1639.x hx1663
  have ht1681 := ht1640.x hx1663
  have ht1682 := ht1641.x hx1663
  have ht1683 := ht1642.x hx1663
  have ht1684 := ht1643.x hx1663
  have ht1685 := ht1644.x hx1663
  have ht1686 := ht1645.x hx1663
  have ht1687 := ht1646.x hx1663
  have ht1688 := ht1647.x hx1663
  have ht1689 := ht1648.x hx1663
  have ht1690 := ht1649.x hx1663
  have ht1691 := ht1650.x hx1663
  have ht1692 := ht1651.x hx1663
  have ht1693 := ht1652.x hx1663
  have ht1694 := ht1653.x hx1663
  have ht1695 := ht1654.x hx1663
  have ht1696 := ht1655.x hx1663
  have ht1697 := ht1656.x hx1663
  have ht1698 := ht1657.x hx1663
  have ht1699 := ht1658.x hx1663
  have ht1700 := ht1659.x hx1663
  have hsx1701 := Sx.tr hsx1660 hx1663
  have ht1702 : tyR S1661 100 (S1621.2.2.2 + 1) := eS1661 ▸ nwS_ty.R
  refine g_putAt (t := 100) fl_RX11_118 fp_11_54 ff_RX11 rfl (Or.inr ⟨_, rfl⟩) ht1702 ht1700 (dk D_X11_init 149 rfl) ?_
  refine g_ltS (fun S1703 eS1703 => ?_)
  have hx1704 : Sx S1661 S1703 := eS1703 ▸ upP_x
  have ht1705 := ht1664.x hx1704
  have ht1706 := ht1665.x hx1704
  have ht1707 := ht1666.x hx1704
  have ht1708 := ht1667.x hx1704
  have ht1709 := ht1668.x hx1704
  have ht1710 := ht1669.x hx1704
  have ht1711 := ht1670.x hx1704
  have ht1712 := ht1671.x hx1704
  have ht1713 := ht1672.x hx1704
  have ht1714 := ht1673.x hx1704
  have ht1715 := ht1674.x hx1704
  have ht1716 := ht1675.x hx1704
  have ht1717 := ht1676.x hx1704
  have ht1718 := ht1677.x hx1704
  have ht1719 := ht1678.x hx1704
  have ht1720 := ht1679.x hx1704
  have ht1721 := ht1680.x hx1704
  have ht1722 := ht1681.x hx1704
  have ht1723 := ht1682.x hx1704
  have ht1724 := ht1683.x hx1704
  have ht1725 := ht1684.x hx1704
  have ht1726 := ht1685.x hx1704
  have ht1727 := ht1686.x hx1704
  have ht1728 := ht1687.x hx1704
  have ht1729 := ht1688.x hx1704
  have ht1730 := ht1689.x hx1704
  have ht1731 := ht1690.x hx1704
  have ht1732 := ht1691.x hx1704
  have ht1733 := ht1692.x hx1704
  have ht1734 := ht1693.x hx1704
  have ht1735 := ht1694.x hx1704
  have ht1736 := ht1695.x hx1704
  have ht1737 := ht1696.x hx1704
  have ht1738 := ht1697.x hx1704
  have ht1739 := ht1698.x hx1704
  have ht1740 := ht1699.x hx1704
  have ht1741 := ht1702.x hx1704
  have ht1742 := ht1700.x hx1704
  have hsx1743 := Sx.tr hsx1701 hx1704
  refine g_aload_n (dk D_X11_init 150 rfl) rfl ?_
  refine g_bipush (v := (60 : Int32)) (dk D_X11_init 151 rfl) rfl ?_
  refine g_newarray (by decide) (by decide) (by show 37 + 1 ≤ 38; omega) (by show 3344 + 60 ≤ 3404; omega) lk_arr (dk D_X11_init 152 rfl) ?_
  refine g_wide (cs' := (38, 3404)) (by show 37 + 1 ≤ 38; omega) (by show 3344 + 60 ≤ 3404; omega) ?_
  refine g_ltS (fun S1744 eS1744 => ?_)
  refine g_ltI (fun I1745 eI1745 => ?_)
  have hx1746 : Sx S1703 S1744 := eS1744 ▸ nwS_x
  have ht1747 := ht1705.x hx1746
  have ht1748 := ht1706.x hx1746
  have ht1749 := ht1707.x hx1746
  have ht1750 := ht1708.x hx1746
  have ht1751 := ht1709.x hx1746
  have ht1752 := ht1710.x hx1746
  have ht1753 := ht1711.x hx1746
  have ht1754 := ht1712.x hx1746
  have ht1755 := ht1713.x hx1746
  have ht1756 := ht1714.x hx1746
  have ht1757 := ht1715.x hx1746
  have ht1758 := ht1716.x hx1746
  have ht1759 := ht1717.x hx1746
  have ht1760 := ht1718.x hx1746
  have ht1761 := ht1719.x hx1746
  have ht1762 := ht1720.x hx1746
  have ht1763 := ht1721.x hx1746
  have ht1764 := ht1722.x hx1746
  have ht1765 := ht1723.x hx1746
  have ht1766 := ht1724.x hx1746
  have ht1767 := ht1725.x hx1746
  have ht1768 := ht1726.x hx1746
  have ht1769 := ht1727.x hx1746
  have ht1770 := ht1728.x hx1746
  have ht1771 := ht1729.x hx1746
  have ht1772 := ht1730.x hx1746
  have ht1773 := ht1731.x hx1746
  have ht1774 := ht1732.x hx1746
  have ht1775 := ht1733.x hx1746
  have ht1776 := ht1734.x hx1746
  have ht1777 := ht1735.x hx1746
  have ht1778 := ht1736.x hx1746
  have ht1779 := ht1737.x hx1746
  have ht1780 := ht1738.x hx1746
  have ht1781 := ht1739.x hx1746
  have ht1782 := ht1740.x hx1746
  have ht1783 := ht1741.x hx1746
  have ht1784 := ht1742.x hx1746
  have hsx1785 := Sx.tr hsx1743 hx1746
  have ht1786 : tyR S1744 100 (S1703.2.2.2 + 1) := eS1744 ▸ nwS_ty.R
  refine g_putAt (t := 100) fl_RX11_121 fp_11_55 ff_RX11 rfl (Or.inr ⟨_, rfl⟩) ht1786 ht1784 (dk D_X11_init 153 rfl) ?_
  refine g_ltS (fun S1787 eS1787 => ?_)
  have hx1788 : Sx S1744 S1787 := eS1787 ▸ upP_x
  have ht1789 := ht1747.x hx1788
  have ht1790 := ht1748.x hx1788
  have ht1791 := ht1749.x hx1788
  have ht1792 := ht1750.x hx1788
  have ht1793 := ht1751.x hx1788
  have ht1794 := ht1752.x hx1788
  have ht1795 := ht1753.x hx1788
  have ht1796 := ht1754.x hx1788
  have ht1797 := ht1755.x hx1788
  have ht1798 := ht1756.x hx1788
  have ht1799 := ht1757.x hx1788
  have ht1800 := ht1758.x hx1788
  have ht1801 := ht1759.x hx1788
  have ht1802 := ht1760.x hx1788
  have ht1803 := ht1761.x hx1788
  have ht1804 := ht1762.x hx1788
  have ht1805 := ht1763.x hx1788
  have ht1806 := ht1764.x hx1788
  have ht1807 := ht1765.x hx1788
  have ht1808 := ht1766.x hx1788
  have ht1809 := ht1767.x hx1788
  have ht1810 := ht1768.x hx1788
  have ht1811 := ht1769.x hx1788
  have ht1812 := ht1770.x hx1788
  have ht1813 := ht1771.x hx1788
  have ht1814 := ht1772.x hx1788
  have ht1815 := ht1773.x hx1788
  have ht1816 := ht1774.x hx1788
  have ht1817 := ht1775.x hx1788
  have ht1818 := ht1776.x hx1788
  have ht1819 := ht1777.x hx1788
  have ht1820 := ht1778.x hx1788
  have ht1821 := ht1779.x hx1788
  have ht1822 := ht1780.x hx1788
  have ht1823 := ht1781.x hx1788
  have ht1824 := ht1782.x hx1788
  have ht1825 := ht1783.x hx1788
  have ht1826 := ht1786.x hx1788
  have ht1827 := ht1784.x hx1788
  have hsx1828 := Sx.tr hsx1785 hx1788
  refine g_aload_n (dk D_X11_init 154 rfl) rfl ?_
  refine g_bipush (v := (40 : Int32)) (dk D_X11_init 155 rfl) rfl ?_
  refine g_putIt fl_RX11_124 fp_11_51 (fun h => (by cases h)) (by decide) rfl rfl ht1827 (dk D_X11_init 156 rfl) ?_
  refine g_ltI (fun I1829 eI1829 => ?_)
  refine g_iconst (v := (0 : Int32)) (dk D_X11_init 157 rfl) rfl ?_
  refine g_istore_n (L' := [(0, vA (a0 + 1)), (1, vI (0 : Int32))]) (dk D_X11_init 158 rfl) (Nat.le_of_ble_eq_true rfl) rfl ?_
  exact hl312 S1787 ht1827 hsx1828 fu (0 : Int32) I1829 trivial
theorem c_X11_init {E : EV} (fu : Nat) (S0 : Sk) (I0 : II) (a0 : Nat) (r : Sk × II) (h : f_X11_init fu S0 I0 a0 = some r) (ht0 : tyO S0 11 a0) : MX E yX11_init i_X11_init S0 I0 [vA (a0 + 1)] (po_X11_init S0 I0 r) :=
  MX.of h (by decide) rfl rfl (Nat.le_of_ble_eq_true rfl) (gg_X11_init fu S0 I0 a0 ht0)
