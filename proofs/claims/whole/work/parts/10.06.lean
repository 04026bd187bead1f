theorem cl_RX11_230 : CV0 RX11 230 yX11_readsNumber i_X11_readsNumber 3 11 := ⟨⟨(gm 1260 (by decide +kernel) (by decide +kernel)), (gm 72 (by decide +kernel) (by decide +kernel)), ((gm 1263 (by decide +kernel) (by decide +kernel))), by decide +kernel, by decide +kernel, by decide +kernel⟩, ⟨(gm 1262 (by decide +kernel) (by decide +kernel)), (gm 37 (by decide +kernel) (by decide +kernel))⟩, rfl, by decide⟩
def tb_X11_readText : List (Nat × Instr × Nat) := [(0, .aload_n 0, 1), (1, .iconst 0, 1), (2, .putfield 223, 3), (5, .iconst 0, 1), (6, .istore_n 3, 1), (7, .iload_n 3, 1), (8, .iconst 4, 1), (9, .if_icmp .ge 96, 3), (12, .iload_n 3, 1), (13, .ifCond .ne 8, 3), (16, .bipush 115, 2), (18, .goto 25, 3), (21, .iload_n 3, 1), (22, .iconst 1, 1), (23, .if_icmp .ne 8, 3), (26, .bipush 62, 2), (28, .goto 15, 3), (31, .iload_n 3, 1), (32, .iconst 2, 1), (33, .if_icmp .ne 8, 3), (36, .bipush 64, 2), (38, .goto 5, 3), (41, .bipush 45, 2), (43, .istore 4, 2), (45, .aload_n 0, 1), (46, .getfield 223, 3), (49, .iload_n 2, 1), (50, .if_icmp .eq 19, 3), (53, .aload_n 0, 1), (54, .getfield 118, 3), (57, .iload_n 1, 1), (58, .aload_n 0, 1), (59, .getfield 223, 3), (62, .iadd, 1), (63, .iaload, 1), (64, .iload 4, 2), (66, .if_icmp .eq 8, 3), (69, .aload_n 0, 1), (70, .getfield 223, 3), (73, .ireturn, 1), (74, .aload_n 0, 1), (75, .dup, 1), (76, .getfield 223, 3), (79, .iconst 1, 1), (80, .iadd, 1), (81, .putfield 223, 3), (84, .aload_n 0, 1), (85, .iload_n 3, 1), (86, .iload_n 1, 1), (87, .iload_n 2, 1), (88, .invokevirtual 230, 3), (91, .ifCond .ne 8, 3), (94, .aload_n 0, 1), (95, .getfield 223, 3), (98, .ireturn, 1), (99, .iinc 3 1, 3), (102, .goto (-95), 3), (105, .aload_n 0, 1), (106, .getfield 223, 3), (109, .iload_n 2, 1), (110, .if_icmp .ne 7, 3), (113, .iconst (-1), 1), (114, .goto 7, 3), (117, .aload_n 0, 1), (118, .getfield 223, 3), (121, .ireturn, 1)]
def i_X11_readText : MI := (RX11, cX11_readText, 5, (some .int), "readText", { frames := 3, cells := 0, slots := 0, locals := 71 })
theorem D_X11_readText : tbOK (i_X11_readText).2.1 tb_X11_readText := by show ∀ q ∈ tb_X11_readText, decode cX11_readText q.1 = .ok (q.2.1, q.2.2); decide +kernel
def po_X11_readText (S : Sk) (I : II) (r : Int32 × II) : Option LV × Sk × II := (some (vI r.1), S, r.2)
def jn_X11_readText_69 (fu : Nat) (S : Sk) (I : II) (a0 : Nat) : Option (Int32 × II) :=
  some (((I a0 21), I))
def jn_X11_readText_43 (fu : Nat) (S : Sk) (I : II) (self7 : Int32 → II → Option (Int32 × II)) (a0 : Nat) (x1 : Int32) (x2 : Int32) (x3 : Int32) (s0 : Int32) : Option (Int32 × II) :=
  if (I a0 21) = x2 then jn_X11_readText_69 fu S I a0 else gd (inb S (S.1 a0 54) (x1 + (I a0 21))) (if (rd I (S.1 a0 54) (x1 + (I a0 21))) = s0 then lt (upI I a0 21 ((I a0 21) + (1 : Int32))) fun I5 => ((f_X11_readsNumber fu S I5 a0 x3 x1 x2).bind fun q6 => (if q6.1 = 0 then some (((q6.2 a0 21), q6.2)) else self7 (x3 + (1 : Int32)) q6.2)) else jn_X11_readText_69 fu S I a0)
def lp_X11_readText_7 (fu : Nat) (S : Sk) (a0 : Nat) (x1 : Int32) (x2 : Int32) (self7 : Int32 → II → Option (Int32 × II)) (x3 : Int32) (I : II) : Option (Int32 × II) :=
  if (4 : Int32) ≤ x3 then if (I a0 21) = x2 then some ((((-1) : Int32), I)) else some (((I a0 21), I)) else if x3 = 0 then jn_X11_readText_43 fu S I self7 a0 x1 x2 x3 (115 : Int32) else if x3 = (1 : Int32) then jn_X11_readText_43 fu S I self7 a0 x1 x2 x3 (62 : Int32) else if x3 = (2 : Int32) then jn_X11_readText_43 fu S I self7 a0 x1 x2 x3 (64 : Int32) else jn_X11_readText_43 fu S I self7 a0 x1 x2 x3 (45 : Int32)
def f_X11_readText (fu : Nat) (S : Sk) (I : II) (a0 : Nat) (x1 : Int32) (x2 : Int32) : Option (Int32 × II) :=
  lt (upI I a0 21 (0 : Int32)) fun I15 => (fix2 (lp_X11_readText_7 fu S a0 x1 x2) fu (0 : Int32) I15)
set_option maxRecDepth 100000 in
set_option maxHeartbeats 4000000 in
theorem gg_X11_readText {E : EV} (fu : Nat) (S0 : Sk) (I0 : II) (a0 : Nat) (x1 : Int32) (x2 : Int32) (ht0 : tyO S0 11 a0) : GG E i_X11_readText (enM E i_X11_readText S0 (po_X11_readText S0 I0)) S0 I0 (0, 0) 0 [(0, vA (a0 + 1)), (1, vI x1), (2, vI x2)] [] (f_X11_readText fu S0 I0 a0 x1 x2) := by
  have hj69 : ∀ (I : II), GG E i_X11_readText (enM E i_X11_readText S0 (po_X11_readText S0 I0)) S0 I (0, 0) 69 [(0, vA (a0 + 1))] [] (jn_X11_readText_69 fu S0 I a0) := by
    intro I  
    unfold jn_X11_readText_69
    refine g_aload_n (dk D_X11_readText 37 rfl) rfl ?_
    refine g_getIt fl_RX11_223 (by decide) ht0 (dk D_X11_readText 38 rfl) ?_
    exact g_ireturn rfl rfl Sx.rf rfl (by decide) (by decide) (dk D_X11_readText 39 rfl)
  have hl7 : ∀ (nn : Nat) (x3 : Int32) (I : II), True → GG E i_X11_readText (enM E i_X11_readText S0 (po_X11_readText S0 I0)) S0 I (0, 0) 7 [(0, vA (a0 + 1)), (1, vI x1), (2, vI x2), (3, vI x3)] [] (fix2 (lp_X11_readText_7 fu S0 a0 x1 x2) nn x3 I) := by
    refine g_fix2 (fun _ _ => S0) (fun x3 I => I) (fun x3 I => [(0, vA (a0 + 1)), (1, vI x1), (2, vI x2), (3, vI x3)]) (fun x3 I => True) ?_
    intro self7 hself7 x3 I hinv
    have hj43 : ∀ (I : II) (x3 : Int32) (s0 : Int32), GG E i_X11_readText (enM E i_X11_readText S0 (po_X11_readText S0 I0)) S0 I (0, 0) 43 [(0, vA (a0 + 1)), (1, vI x1), (2, vI x2), (3, vI x3)] [vI s0] (jn_X11_readText_43 fu S0 I self7 a0 x1 x2 x3 s0) := by
      intro I x3 s0 
      unfold jn_X11_readText_43
      refine g_istore (L' := [(0, vA (a0 + 1)), (1, vI x1), (2, vI x2), (3, vI x3), (4, vI s0)]) (dk D_X11_readText 23 rfl) (Nat.le_of_ble_eq_true rfl) rfl ?_
      refine g_aload_n (dk D_X11_readText 24 rfl) rfl ?_
      refine g_getIt fl_RX11_223 (by decide) ht0 (dk D_X11_readText 25 rfl) ?_
      refine g_iload_n (dk D_X11_readText 26 rfl) rfl ?_
      refine g_icmp_eq (tgt := 69) (dk D_X11_readText 27 rfl) rfl (fun hc1 => ?_) (fun hc1 => ?_)
      · refine g_Lp [0] rfl ?_
        exact hj69 I
      · refine g_aload_n (dk D_X11_readText 28 rfl) rfl ?_
        refine g_getAt (t := 100) fl_RX11_118 rfl ht0 (dk D_X11_readText 29 rfl) (fun ht2 => ?_)
        refine g_iload_n (dk D_X11_readText 30 rfl) rfl ?_
        refine g_aload_n (dk D_X11_readText 31 rfl) rfl ?_
        refine g_getIt fl_RX11_223 (by decide) ht0 (dk D_X11_readText 32 rfl) ?_
        refine g_iadd (dk D_X11_readText 33 rfl) ?_
        refine g_gd (fun hi3 => ?_)
        refine g_iaload ht2 hi3 (dk D_X11_readText 34 rfl) ?_
        refine g_iload (dk D_X11_readText 35 rfl) rfl ?_
        refine g_icmp_eq (tgt := 74) (dk D_X11_readText 36 rfl) rfl (fun hc4 => ?_) (fun hc4 => ?_)
        · refine g_aload_n (dk D_X11_readText 40 rfl) rfl ?_
          refine g_dup (dk D_X11_readText 41 rfl) rfl ?_
          refine g_getIt fl_RX11_223 (by decide) ht0 (dk D_X11_readText 42 rfl) ?_
          refine g_iconst (v := (1 : Int32)) (dk D_X11_readText 43 rfl) rfl ?_
          refine g_iadd (dk D_X11_readText 44 rfl) ?_
          refine g_putIt fl_RX11_223 fp_11_21 (fun h => (by cases h)) (by decide) rfl rfl ht0 (dk D_X11_readText 45 rfl) ?_
          refine g_ltI (fun I5 eI5 => ?_)
          refine g_aload_n (dk D_X11_readText 46 rfl) rfl ?_
          refine g_iload_n (dk D_X11_readText 47 rfl) rfl ?_
          refine g_iload_n (dk D_X11_readText 48 rfl) rfl ?_
          refine g_iload_n (dk D_X11_readText 49 rfl) rfl ?_
          refine g_bind (fun q6 hq7 => ?_)
          refine h_callVt (st := []) (c_X11_readsNumber (E := E) fu S0 I5 a0 x3 x1 x2 q6 hq7 (ht0)) cl_RX11_230 ht0 rfl rfl (by decide) (Nat.le_of_ble_eq_true rfl) (dk D_X11_readText 50 rfl) ?_
          refine g_if_ne (tgt := 99) (dk D_X11_readText 51 rfl) rfl (fun hc9 => ?_) (fun hc9 => ?_)
          · refine g_iinc (v := (1 : Int32)) (L' := [(0, vA (a0 + 1)), (1, vI x1), (2, vI x2), (3, vI (x3 + (1 : Int32))), (4, vI s0)]) (dk D_X11_readText 55 rfl) rfl rfl (Nat.le_of_ble_eq_true rfl) rfl ?_
            refine g_goto (tgt := 7) (dk D_X11_readText 56 rfl) rfl ?_
            refine g_Lp [0, 1, 2, 3] rfl ?_
            exact hself7 (x3 + (1 : Int32)) q6.2 trivial
          · refine g_aload_n (dk D_X11_readText 52 rfl) rfl ?_
            refine g_getIt fl_RX11_223 (by decide) ht0 (dk D_X11_readText 53 rfl) ?_
            exact g_ireturn rfl rfl Sx.rf rfl (by decide) (by decide) (dk D_X11_readText 54 rfl)
        · refine g_Lp [0] rfl ?_
          exact hj69 I
    unfold lp_X11_readText_7
    refine g_iload_n (dk D_X11_readText 5 rfl) rfl ?_
    refine g_iconst (v := (4 : Int32)) (dk D_X11_readText 6 rfl) rfl ?_
    refine g_icmp_ge (tgt := 105) (dk D_X11_readText 7 rfl) rfl (fun hc10 => ?_) (fun hc10 => ?_)
    · refine g_aload_n (dk D_X11_readText 57 rfl) rfl ?_
      refine g_getIt fl_RX11_223 (by decide) ht0 (dk D_X11_readText 58 rfl) ?_
      refine g_iload_n (dk D_X11_readText 59 rfl) rfl ?_
      refine g_icmp_ne (tgt := 117) (dk D_X11_readText 60 rfl) rfl (fun hc11 => ?_) (fun hc11 => ?_)
      · refine g_aload_n (dk D_X11_readText 63 rfl) rfl ?_
        refine g_getIt fl_RX11_223 (by decide) ht0 (dk D_X11_readText 64 rfl) ?_
        exact g_ireturn rfl rfl Sx.rf rfl (by decide) (by decide) (dk D_X11_readText 65 rfl)
      · refine g_iconst (v := ((-1) : Int32)) (dk D_X11_readText 61 rfl) rfl ?_
        refine g_goto (tgt := 121) (dk D_X11_readText 62 rfl) rfl ?_
        exact g_ireturn rfl rfl Sx.rf rfl (by decide) (by decide) (dk D_X11_readText 65 rfl)
    · refine g_iload_n (dk D_X11_readText 8 rfl) rfl ?_
      refine g_if_ne (tgt := 21) (dk D_X11_readText 9 rfl) rfl (fun hc12 => ?_) (fun hc12 => ?_)
      · refine g_iload_n (dk D_X11_readText 12 rfl) rfl ?_
        refine g_iconst (v := (1 : Int32)) (dk D_X11_readText 13 rfl) rfl ?_
        refine g_icmp_ne (tgt := 31) (dk D_X11_readText 14 rfl) rfl (fun hc13 => ?_) (fun hc13 => ?_)
        · refine g_iload_n (dk D_X11_readText 17 rfl) rfl ?_
          refine g_iconst (v := (2 : Int32)) (dk D_X11_readText 18 rfl) rfl ?_
          refine g_icmp_ne (tgt := 41) (dk D_X11_readText 19 rfl) rfl (fun hc14 => ?_) (fun hc14 => ?_)
          · refine g_bipush (v := (45 : Int32)) (dk D_X11_readText 22 rfl) rfl ?_
            exact hj43 I x3 (45 : Int32)
          · refine g_bipush (v := (64 : Int32)) (dk D_X11_readText 20 rfl) rfl ?_
            refine g_goto (tgt := 43) (dk D_X11_readText 21 rfl) rfl ?_
            exact hj43 I x3 (64 : Int32)
        · refine g_bipush (v := (62 : Int32)) (dk D_X11_readText 15 rfl) rfl ?_
          refine g_goto (tgt := 43) (dk D_X11_readText 16 rfl) rfl ?_
          exact hj43 I x3 (62 : Int32)
      · refine g_bipush (v := (115 : Int32)) (dk D_X11_readText 10 rfl) rfl ?_
        refine g_goto (tgt := 43) (dk D_X11_readText 11 rfl) rfl ?_
        exact hj43 I x3 (115 : Int32)
  unfold f_X11_readText
  refine g_aload_n (dk D_X11_readText 0 rfl) rfl ?_
  refine g_iconst (v := (0 : Int32)) (dk D_X11_readText 1 rfl) rfl ?_
  refine g_putIt fl_RX11_223 fp_11_21 (fun h => (by cases h)) (by decide) rfl rfl ht0 (dk D_X11_readText 2 rfl) ?_
  refine g_ltI (fun I15 eI15 => ?_)
  refine g_iconst (v := (0 : Int32)) (dk D_X11_readText 3 rfl) rfl ?_
  refine g_istore_n (L' := [(0, vA (a0 + 1)), (1, vI x1), (2, vI x2), (3, vI (0 : Int32))]) (dk D_X11_readText 4 rfl) (Nat.le_of_ble_eq_true rfl) rfl ?_
  exact hl7 fu (0 : Int32) I15 trivial
theorem c_X11_readText {E : EV} (fu : Nat) (S0 : Sk) (I0 : II) (a0 : Nat) (x1 : Int32) (x2 : Int32) (r : Int32 × II) (h : f_X11_readText fu S0 I0 a0 x1 x2 = some r) (ht0 : tyO S0 11 a0) : MX E yX11_readText i_X11_readText S0 I0 [vA (a0 + 1), vI x1, vI x2] (po_X11_readText S0 I0 r) :=
  MX.of h (by decide) rfl rfl (Nat.le_of_ble_eq_true rfl) (gg_X11_readText fu S0 I0 a0 x1 x2 ht0)
theorem cl_RX11_234 : CV0 RX11 234 yX11_readText i_X11_readText 2 11 := ⟨⟨(gm 1256 (by decide +kernel) (by decide +kernel)), (gm 72 (by decide +kernel) (by decide +kernel)), ((gm 1259 (by decide +kernel) (by decide +kernel))), by decide +kernel, by decide +kernel, by decide +kernel⟩, ⟨(gm 1258 (by decide +kernel) (by decide +kernel)), (gm 36 (by decide +kernel) (by decide +kernel))⟩, rfl, by decide⟩
theorem fl_RX11_237 : FL RX11 237 11 15 := ⟨RX11, TX11, 57, rfl, by decide, rfl, by decide, (gm 993 (by decide +kernel) (by decide +kernel)), inG11⟩
theorem fp_11_15 : FP 11 15 (tyX11 15) false := ⟨RX11, TX11, 57, tyX11, rfl, tyX11_ok, nmX11, rfl, rfl, rfl⟩
def tb_X11_text : List (Nat × Instr × Nat) := [(0, .iload_n 1, 1), (1, .invokestatic 175, 3), (4, .ifCond .eq 9, 3), (7, .aload_n 0, 1), (8, .iconst (-1), 1), (9, .invokevirtual 145, 3), (12, .ireturn, 1), (13, .aload_n 0, 1), (14, .iload_n 1, 1), (15, .iload_n 2, 1), (16, .iload_n 3, 1), (17, .iload 4, 2), (19, .i2l, 1), (20, .invokevirtual 182, 3), (23, .istore 5, 2), (25, .iload 5, 2), (27, .ifCond .ge 6, 3), (30, .iload 5, 2), (32, .ireturn, 1), (33, .aload_n 0, 1), (34, .bipush 60, 2), (36, .iload_n 1, 1), (37, .imul, 1), (38, .iload_n 3, 1), (39, .iadd, 1), (40, .iload 4, 2), (42, .invokevirtual 234, 3), (45, .istore 6, 2), (47, .iload 6, 2), (49, .ifCond .lt 13, 3), (52, .aload_n 0, 1), (53, .bipush (-100), 2), (55, .iload 6, 2), (57, .isub, 1), (58, .invokevirtual 145, 3), (61, .ireturn, 1), (62, .aload_n 0, 1), (63, .getfield 237, 3), (66, .bipush 12, 2), (68, .if_icmp .ne 10, 3), (71, .aload_n 0, 1), (72, .bipush (-4), 2), (74, .invokevirtual 145, 3), (77, .ireturn, 1), (78, .aload_n 0, 1), (79, .getfield 46, 3), (82, .aload_n 0, 1), (83, .getfield 237, 3), (86, .aload_n 0, 1), (87, .getfield 58, 3), (90, .iconst 0, 1), (91, .iaload, 1), (92, .iastore, 1), (93, .aload_n 0, 1), (94, .getfield 49, 3), (97, .aload_n 0, 1), (98, .getfield 237, 3), (101, .aload_n 0, 1), (102, .getfield 58, 3), (105, .iconst 1, 1), (106, .iaload, 1), (107, .iastore, 1), (108, .aload_n 0, 1), (109, .getfield 52, 3), (112, .aload_n 0, 1), (113, .getfield 237, 3), (116, .aload_n 0, 1), (117, .getfield 58, 3), (120, .iconst 2, 1), (121, .iaload, 1), (122, .iastore, 1), (123, .aload_n 0, 1), (124, .getfield 55, 3), (127, .aload_n 0, 1), (128, .getfield 237, 3), (131, .aload_n 0, 1), (132, .getfield 58, 3), (135, .iconst 3, 1), (136, .iaload, 1), (137, .iastore, 1), (138, .aload_n 0, 1), (139, .dup, 1), (140, .getfield 237, 3), (143, .iconst 1, 1), (144, .iadd, 1), (145, .putfield 237, 3), (148, .aload_n 0, 1), (149, .aload_n 0, 1), (150, .getfield 237, 3), (153, .iconst 1, 1), (154, .isub, 1), (155, .invokevirtual 145, 3), (158, .ireturn, 1)]
def i_X11_text : MI := (RX11, cX11_text, 7, (some .int), "text", { frames := 4, cells := 0, slots := 0, locals := 95 })
theorem D_X11_text : tbOK (i_X11_text).2.1 tb_X11_text := by show ∀ q ∈ tb_X11_text, decode cX11_text q.1 = .ok (q.2.1, q.2.2); decide +kernel
def po_X11_text (S : Sk) (I : II) (r : Int32 × II) : Option LV × Sk × II := (some (vI r.1), S, r.2)
def f_X11_text (fu : Nat) (S : Sk) (I : II) (a0 : Nat) (x1 : Int32) (x2 : Int32) (x3 : Int32) (x4 : Int32) : Option (Int32 × II) :=
  if (t_X11_noSheet x1) = 0 then (f_X11_barred fu S I a0 x1 x2 x3 x4.toInt64).bind fun q3 => (lt q3.1 fun x5_6 => (if 0 ≤ x5_6 then (f_X11_readText fu S q3.2 a0 (((60 : Int32) * x1) + x3) x4).bind fun q8 => (lt q8.1 fun x6_11 => (if x6_11 < 0 then if (q8.2 a0 15) = (12 : Int32) then (f_X11_refused fu S q8.2 a0 ((-4) : Int32)).bind fun q38 => (some ((q38.1, q38.2))) else gd (inb S (S.1 a0 20) (0 : Int32)) (gd (inb S (S.1 a0 16) (q8.2 a0 15)) (lt (wr q8.2 (S.1 a0 16) (q8.2 a0 15) (rd q8.2 (S.1 a0 20) (0 : Int32))) fun I18 => (gd (inb S (S.1 a0 20) (1 : Int32)) (gd (inb S (S.1 a0 17) (I18 a0 15)) (lt (wr I18 (S.1 a0 17) (I18 a0 15) (rd I18 (S.1 a0 20) (1 : Int32))) fun I23 => (gd (inb S (S.1 a0 20) (2 : Int32)) (gd (inb S (S.1 a0 18) (I23 a0 15)) (lt (wr I23 (S.1 a0 18) (I23 a0 15) (rd I23 (S.1 a0 20) (2 : Int32))) fun I28 => (gd (inb S (S.1 a0 20) (3 : Int32)) (gd (inb S (S.1 a0 19) (I28 a0 15)) (lt (wr I28 (S.1 a0 19) (I28 a0 15) (rd I28 (S.1 a0 20) (3 : Int32))) fun I33 => (lt (upI I33 a0 15 ((I33 a0 15) + (1 : Int32))) fun I34 => ((f_X11_refused fu S I34 a0 ((I34 a0 15) - (1 : Int32))).bind fun q35 => (some ((q35.1, q35.2)))))))))))))))) else (f_X11_refused fu S q8.2 a0 (((-100) : Int32) - x6_11)).bind fun q41 => (some ((q41.1, q41.2))))) else some ((x5_6, q3.2)))) else (f_X11_refused fu S I a0 ((-1) : Int32)).bind fun q44 => (some ((q44.1, q44.2)))
set_option maxRecDepth 100000 in
set_option maxHeartbeats 4000000 in
theorem gg_X11_text {E : EV} (fu : Nat) (S0 : Sk) (I0 : II) (a0 : Nat) (x1 : Int32) (x2 : Int32) (x3 : Int32) (x4 : Int32) (ht0 : tyO S0 11 a0) : GG E i_X11_text (enM E i_X11_text S0 (po_X11_text S0 I0)) S0 I0 (0, 0) 0 [(0, vA (a0 + 1)), (1, vI x1), (2, vI x2), (3, vI x3), (4, vI x4)] [] (f_X11_text fu S0 I0 a0 x1 x2 x3 x4) := by
  unfold f_X11_text
  refine g_iload_n (dk D_X11_text 0 rfl) rfl ?_
  refine h_callS (st := []) (c_X11_noSheet (E := E) S0 I0 x1) cl_RX11_175 rfl rfl (by decide) (Nat.le_of_ble_eq_true rfl) (dk D_X11_text 1 rfl) ?_
  refine g_if_eq (tgt := 13) (dk D_X11_text 2 rfl) rfl (fun hc2 => ?_) (fun hc2 => ?_)
  · refine g_aload_n (dk D_X11_text 7 rfl) rfl ?_
    refine g_iload_n (dk D_X11_text 8 rfl) rfl ?_
    refine g_iload_n (dk D_X11_text 9 rfl) rfl ?_
    refine g_iload_n (dk D_X11_text 10 rfl) rfl ?_
    refine g_iload (dk D_X11_text 11 rfl) rfl ?_
    refine g_i2l (dk D_X11_text 12 rfl) ?_
    refine g_bind (fun q3 hq4 => ?_)
    refine h_callVt (st := []) (c_X11_barred (E := E) fu S0 I0 a0 x1 x2 x3 x4.toInt64 q3 hq4 (ht0)) cl_RX11_182 ht0 rfl rfl (by decide) (Nat.le_of_ble_eq_true rfl) (dk D_X11_text 13 rfl) ?_
    refine g_ltV (fun x5_6 ex5_6 => ?_)
    refine g_istore (L' := [(0, vA (a0 + 1)), (1, vI x1), (2, vI x2), (3, vI x3), (4, vI x4), (5, vI x5_6)]) (dk D_X11_text 14 rfl) (Nat.le_of_ble_eq_true rfl) rfl ?_
    refine g_iload (dk D_X11_text 15 rfl) rfl ?_
    refine g_if_ge (tgt := 33) (dk D_X11_text 16 rfl) rfl (fun hc7 => ?_) (fun hc7 => ?_)
    · refine g_aload_n (dk D_X11_text 19 rfl) rfl ?_
      refine g_bipush (v := (60 : Int32)) (dk D_X11_text 20 rfl) rfl ?_
      refine g_iload_n (dk D_X11_text 21 rfl) rfl ?_
      refine g_imul (dk D_X11_text 22 rfl) ?_
      refine g_iload_n (dk D_X11_text 23 rfl) rfl ?_
      refine g_iadd (dk D_X11_text 24 rfl) ?_
      refine g_iload (dk D_X11_text 25 rfl) rfl ?_
      refine g_bind (fun q8 hq9 => ?_)
      refine h_callVt (st := []) (c_X11_readText (E := E) fu S0 q3.2 a0 (((60 : Int32) * x1) + x3) x4 q8 hq9 (ht0)) cl_RX11_234 ht0 rfl rfl (by decide) (Nat.le_of_ble_eq_true rfl) (dk D_X11_text 26 rfl) ?_
      refine g_ltV (fun x6_11 ex6_11 => ?_)
      refine g_istore (L' := [(0, vA (a0 + 1)), (1, vI x1), (2, vI x2), (3, vI x3), (4, vI x4), (5, vI x5_6), (6, vI x6_11)]) (dk D_X11_text 27 rfl) (Nat.le_of_ble_eq_true rfl) rfl ?_
      refine g_iload (dk D_X11_text 28 rfl) rfl ?_
      refine g_if_lt (tgt := 62) (dk D_X11_text 29 rfl) rfl (fun hc12 => ?_) (fun hc12 => ?_)
      · refine g_aload_n (dk D_X11_text 36 rfl) rfl ?_
        refine g_getIt fl_RX11_237 (by decide) ht0 (dk D_X11_text 37 rfl) ?_
        refine g_bipush (v := (12 : Int32)) (dk D_X11_text 38 rfl) rfl ?_
        refine g_icmp_ne (tgt := 78) (dk D_X11_text 39 rfl) rfl (fun hc13 => ?_) (fun hc13 => ?_)
        · refine g_aload_n (dk D_X11_text 44 rfl) rfl ?_
          refine g_getAt (t := 100) fl_RX11_46 rfl ht0 (dk D_X11_text 45 rfl) (fun ht14 => ?_)
          refine g_aload_n (dk D_X11_text 46 rfl) rfl ?_
          refine g_getIt fl_RX11_237 (by decide) ht0 (dk D_X11_text 47 rfl) ?_
          refine g_aload_n (dk D_X11_text 48 rfl) rfl ?_
          refine g_getAt (t := 100) fl_RX11_58 rfl ht0 (dk D_X11_text 49 rfl) (fun ht15 => ?_)
          refine g_iconst (v := (0 : Int32)) (dk D_X11_text 50 rfl) rfl ?_
          refine g_gd (fun hi16 => ?_)
          refine g_iaload ht15 hi16 (dk D_X11_text 51 rfl) ?_
          refine g_gd (fun hi17 => ?_)
          refine g_iastore ht14 hi17 (dk D_X11_text 52 rfl) ?_
          refine g_ltI (fun I18 eI18 => ?_)
          refine g_aload_n (dk D_X11_text 53 rfl) rfl ?_
          refine g_getAt (t := 100) fl_RX11_49 rfl ht0 (dk D_X11_text 54 rfl) (fun ht19 => ?_)
          refine g_aload_n (dk D_X11_text 55 rfl) rfl ?_
          refine g_getIt fl_RX11_237 (by decide) ht0 (dk D_X11_text 56 rfl) ?_
          refine g_aload_n (dk D_X11_text 57 rfl) rfl ?_
          refine g_getAt (t := 100) fl_RX11_58 rfl ht0 (dk D_X11_text 58 rfl) (fun ht20 => ?_)
          refine g_iconst (v := (1 : Int32)) (dk D_X11_text 59 rfl) rfl ?_
          refine g_gd (fun hi21 => ?_)
          refine g_iaload ht15 hi21 (dk D_X11_text 60 rfl) ?_
          refine g_gd (fun hi22 => ?_)
          refine g_iastore ht19 hi22 (dk D_X11_text 61 rfl) ?_
          refine g_ltI (fun I23 eI23 => ?_)
          refine g_aload_n (dk D_X11_text 62 rfl) rfl ?_
          refine g_getAt (t := 100) fl_RX11_52 rfl ht0 (dk D_X11_text 63 rfl) (fun ht24 => ?_)
          refine g_aload_n (dk D_X11_text 64 rfl) rfl ?_
          refine g_getIt fl_RX11_237 (by decide) ht0 (dk D_X11_text 65 rfl) ?_
          refine g_aload_n (dk D_X11_text 66 rfl) rfl ?_
          refine g_getAt (t := 100) fl_RX11_58 rfl ht0 (dk D_X11_text 67 rfl) (fun ht25 => ?_)
          refine g_iconst (v := (2 : Int32)) (dk D_X11_text 68 rfl) rfl ?_
          refine g_gd (fun hi26 => ?_)
          refine g_iaload ht15 hi26 (dk D_X11_text 69 rfl) ?_
          refine g_gd (fun hi27 => ?_)
          refine g_iastore ht24 hi27 (dk D_X11_text 70 rfl) ?_
          refine g_ltI (fun I28 eI28 => ?_)
          refine g_aload_n (dk D_X11_text 71 rfl) rfl ?_
          refine g_getAt (t := 100) fl_RX11_55 rfl ht0 (dk D_X11_text 72 rfl) (fun ht29 => ?_)
          refine g_aload_n (dk D_X11_text 73 rfl) rfl ?_
          refine g_getIt fl_RX11_237 (by decide) ht0 (dk D_X11_text 74 rfl) ?_
          refine g_aload_n (dk D_X11_text 75 rfl) rfl ?_
          refine g_getAt (t := 100) fl_RX11_58 rfl ht0 (dk D_X11_text 76 rfl) (fun ht30 => ?_)
          refine g_iconst (v := (3 : Int32)) (dk D_X11_text 77 rfl) rfl ?_
          refine g_gd (fun hi31 => ?_)
          refine g_iaload ht15 hi31 (dk D_X11_text 78 rfl) ?_
          refine g_gd (fun hi32 => ?_)
          refine g_iastore ht29 hi32 (dk D_X11_text 79 rfl) ?_
          refine g_ltI (fun I33 eI33 => ?_)
          refine g_aload_n (dk D_X11_text 80 rfl) rfl ?_
          refine g_dup (dk D_X11_text 81 rfl) rfl ?_
          refine g_getIt fl_RX11_237 (by decide) ht0 (dk D_X11_text 82 rfl) ?_
          refine g_iconst (v := (1 : Int32)) (dk D_X11_text 83 rfl) rfl ?_
          refine g_iadd (dk D_X11_text 84 rfl) ?_
          refine g_putIt fl_RX11_237 fp_11_15 (fun h => (by cases h)) (by decide) rfl rfl ht0 (dk D_X11_text 85 rfl) ?_
          refine g_ltI (fun I34 eI34 => ?_)
          refine g_aload_n (dk D_X11_text 86 rfl) rfl ?_
          refine g_aload_n (dk D_X11_text 87 rfl) rfl ?_
          refine g_getIt fl_RX11_237 (by decide) ht0 (dk D_X11_text 88 rfl) ?_
          refine g_iconst (v := (1 : Int32)) (dk D_X11_text 89 rfl) rfl ?_
          refine g_isub (dk D_X11_text 90 rfl) ?_
          refine g_bind (fun q35 hq36 => ?_)
          refine h_callVt (st := []) (c_X11_refused (E := E) fu S0 I34 a0 ((I34 a0 15) - (1 : Int32)) q35 hq36 (ht0)) cl_RX11_145 ht0 rfl rfl (by decide) (Nat.le_of_ble_eq_true rfl) (dk D_X11_text 91 rfl) ?_
          exact g_ireturn rfl rfl Sx.rf rfl (by decide) (by decide) (dk D_X11_text 92 rfl)
        · refine g_aload_n (dk D_X11_text 40 rfl) rfl ?_
          refine g_bipush (v := ((-4) : Int32)) (dk D_X11_text 41 rfl) rfl ?_
          refine g_bind (fun q38 hq39 => ?_)
          refine h_callVt (st := []) (c_X11_refused (E := E) fu S0 q8.2 a0 ((-4) : Int32) q38 hq39 (ht0)) cl_RX11_145 ht0 rfl rfl (by decide) (Nat.le_of_ble_eq_true rfl) (dk D_X11_text 42 rfl) ?_
          exact g_ireturn rfl rfl Sx.rf rfl (by decide) (by decide) (dk D_X11_text 43 rfl)
      · refine g_aload_n (dk D_X11_text 30 rfl) rfl ?_
        refine g_bipush (v := ((-100) : Int32)) (dk D_X11_text 31 rfl) rfl ?_
        refine g_iload (dk D_X11_text 32 rfl) rfl ?_
        refine g_isub (dk D_X11_text 33 rfl) ?_
        refine g_bind (fun q41 hq42 => ?_)
        refine h_callVt (st := []) (c_X11_refused (E := E) fu S0 q8.2 a0 (((-100) : Int32) - x6_11) q41 hq42 (ht0)) cl_RX11_145 ht0 rfl rfl (by decide) (Nat.le_of_ble_eq_true rfl) (dk D_X11_text 34 rfl) ?_
        exact g_ireturn rfl rfl Sx.rf rfl (by decide) (by decide) (dk D_X11_text 35 rfl)
    · refine g_iload (dk D_X11_text 17 rfl) rfl ?_
      exact g_ireturn rfl rfl Sx.rf rfl (by decide) (by decide) (dk D_X11_text 18 rfl)
  · refine g_aload_n (dk D_X11_text 3 rfl) rfl ?_
    refine g_iconst (v := ((-1) : Int32)) (dk D_X11_text 4 rfl) rfl ?_
    refine g_bind (fun q44 hq45 => ?_)
    refine h_callVt (st := []) (c_X11_refused (E := E) fu S0 I0 a0 ((-1) : Int32) q44 hq45 (ht0)) cl_RX11_145 ht0 rfl rfl (by decide) (Nat.le_of_ble_eq_true rfl) (dk D_X11_text 5 rfl) ?_
    exact g_ireturn rfl rfl Sx.rf rfl (by decide) (by decide) (dk D_X11_text 6 rfl)
theorem c_X11_text {E : EV} (fu : Nat) (S0 : Sk) (I0 : II) (a0 : Nat) (x1 : Int32) (x2 : Int32) (x3 : Int32) (x4 : Int32) (r : Int32 × II) (h : f_X11_text fu S0 I0 a0 x1 x2 x3 x4 = some r) (ht0 : tyO S0 11 a0) : MX E yX11_text i_X11_text S0 I0 [vA (a0 + 1), vI x1, vI x2, vI x3, vI x4] (po_X11_text S0 I0 r) :=
  MX.of h (by decide) rfl rfl (Nat.le_of_ble_eq_true rfl) (gg_X11_text fu S0 I0 a0 x1 x2 x3 x4 ht0)
def tb_X11_textFor : List (Nat × Instr × Nat) := [(0, .bipush (-9), 2), (2, .istore_n 3, 1), (3, .iconst 0, 1), (4, .istore 4, 2), (6, .iload 4, 2), (8, .aload_n 0, 1), (9, .getfield 237, 3), (12, .if_icmp .ge 51, 3), (15, .aload_n 0, 1), (16, .getfield 46, 3), (19, .iload 4, 2), (21, .iaload, 1), (22, .iload_n 1, 1), (23, .if_icmp .ne 32, 3), (26, .iload_n 2, 1), (27, .i2l, 1), (28, .aload_n 0, 1), (29, .getfield 52, 3), (32, .iload 4, 2), (34, .iaload, 1), (35, .i2l, 1), (36, .aload_n 0, 1), (37, .getfield 55, 3), (40, .iload 4, 2), (42, .iaload, 1), (43, .i2l, 1), (44, .invokestatic 132, 3), (47, .ifCond .eq 8, 3), (50, .iload 4, 2), (52, .goto 4, 3), (55, .iload_n 3, 1), (56, .istore_n 3, 1), (57, .iinc 4 1, 3), (60, .goto (-54), 3), (63, .iload_n 3, 1), (64, .ireturn, 1)]
def i_X11_textFor : MI := (RX11, cX11_textFor, 5, (some .int), "textFor", { frames := 1, cells := 0, slots := 0, locals := 25 })
theorem D_X11_textFor : tbOK (i_X11_textFor).2.1 tb_X11_textFor := by show ∀ q ∈ tb_X11_textFor, decode cX11_textFor q.1 = .ok (q.2.1, q.2.2); decide +kernel
def po_X11_textFor (S : Sk) (I : II) (r : Int32) : Option LV × Sk × II := (some (vI r), S, I)
def jn_X11_textFor_56 (fu : Nat) (S : Sk) (I : II) (self6 : Int32 → Int32 → Option (Int32)) (a0 : Nat) (x1 : Int32) (x2 : Int32) (x4 : Int32) (s0 : Int32) : Option (Int32) :=
  self6 s0 (x4 + (1 : Int32))
def jn_X11_textFor_55 (fu : Nat) (S : Sk) (I : II) (self6 : Int32 → Int32 → Option (Int32)) (a0 : Nat) (x1 : Int32) (x2 : Int32) (x3 : Int32) (x4 : Int32) : Option (Int32) :=
  jn_X11_textFor_56 fu S I self6 a0 x1 x2 x4 x3
def lp_X11_textFor_6 (fu : Nat) (S : Sk) (I : II) (a0 : Nat) (x1 : Int32) (x2 : Int32) (self6 : Int32 → Int32 → Option (Int32)) (x3 : Int32) (x4 : Int32) : Option (Int32) :=
  if (I a0 15) ≤ x4 then some (x3) else gd (inb S (S.1 a0 16) x4) (if (rd I (S.1 a0 16) x4) = x1 then gd (inb S (S.1 a0 18) x4) (gd (inb S (S.1 a0 19) x4) (if (t_X11_in x2.toInt64 (((rd I (S.1 a0 18) x4)).toInt64) (((rd I (S.1 a0 19) x4)).toInt64)) = 0 then jn_X11_textFor_55 fu S I self6 a0 x1 x2 x3 x4 else jn_X11_textFor_56 fu S I self6 a0 x1 x2 x4 x4)) else jn_X11_textFor_55 fu S I self6 a0 x1 x2 x3 x4)
def f_X11_textFor (fu : Nat) (S : Sk) (I : II) (a0 : Nat) (x1 : Int32) (x2 : Int32) : Option (Int32) :=
  fix2 (lp_X11_textFor_6 fu S I a0 x1 x2) fu ((-9) : Int32) (0 : Int32)
set_option maxRecDepth 100000 in
set_option maxHeartbeats 4000000 in
theorem gg_X11_textFor {E : EV} (fu : Nat) (S0 : Sk) (I0 : II) (a0 : Nat) (x1 : Int32) (x2 : Int32) (ht0 : tyO S0 11 a0) : GG E i_X11_textFor (enM E i_X11_textFor S0 (po_X11_textFor S0 I0)) S0 I0 (0, 0) 0 [(0, vA (a0 + 1)), (1, vI x1), (2, vI x2)] [] (f_X11_textFor fu S0 I0 a0 x1 x2) := by
  have hl6 : ∀ (nn : Nat) (x3 : Int32) (x4 : Int32), True → GG E i_X11_textFor (enM E i_X11_textFor S0 (po_X11_textFor S0 I0)) S0 I0 (0, 0) 6 [(0, vA (a0 + 1)), (1, vI x1), (2, vI x2), (3, vI x3), (4, vI x4)] [] (fix2 (lp_X11_textFor_6 fu S0 I0 a0 x1 x2) nn x3 x4) := by
    refine g_fix2 (fun _ _ => S0) (fun _ _ => I0) (fun x3 x4 => [(0, vA (a0 + 1)), (1, vI x1), (2, vI x2), (3, vI x3), (4, vI x4)]) (fun x3 x4 => True) ?_
    intro self6 hself6 x3 x4 hinv
    have hj56 : ∀ (x4 : Int32) (s0 : Int32), GG E i_X11_textFor (enM E i_X11_textFor S0 (po_X11_textFor S0 I0)) S0 I0 (0, 0) 56 [(0, vA (a0 + 1)), (1, vI x1), (2, vI x2), (4, vI x4)] [vI s0] (jn_X11_textFor_56 fu S0 I0 self6 a0 x1 x2 x4 s0) := by
      intro x4 s0 
      unfold jn_X11_textFor_56
      refine g_istore_n (L' := [(0, vA (a0 + 1)), (1, vI x1), (2, vI x2), (3, vI s0), (4, vI x4)]) (dk D_X11_textFor 31 rfl) (Nat.le_of_ble_eq_true rfl) rfl ?_
      refine g_iinc (v := (1 : Int32)) (L' := [(0, vA (a0 + 1)), (1, vI x1), (2, vI x2), (3, vI s0), (4, vI (x4 + (1 : Int32)))]) (dk D_X11_textFor 32 rfl) rfl rfl (Nat.le_of_ble_eq_true rfl) rfl ?_
      refine g_goto (tgt := 6) (dk D_X11_textFor 33 rfl) rfl ?_
      exact hself6 s0 (x4 + (1 : Int32)) trivial
    have hj55 : ∀ (x3 : Int32) (x4 : Int32), GG E i_X11_textFor (enM E i_X11_textFor S0 (po_X11_textFor S0 I0)) S0 I0 (0, 0) 55 [(0, vA (a0 + 1)), (1, vI x1), (2, vI x2), (3, vI x3), (4, vI x4)] [] (jn_X11_textFor_55 fu S0 I0 self6 a0 x1 x2 x3 x4) := by
      intro x3 x4 
      unfold jn_X11_textFor_55
      refine g_iload_n (dk D_X11_textFor 30 rfl) rfl ?_
      refine g_Lp [0, 1, 2, 4] rfl ?_
      exact hj56 x4 x3
    unfold lp_X11_textFor_6
    refine g_iload (dk D_X11_textFor 4 rfl) rfl ?_
    refine g_aload_n (dk D_X11_textFor 5 rfl) rfl ?_
    refine g_getIt fl_RX11_237 (by decide) ht0 (dk D_X11_textFor 6 rfl) ?_
    refine g_icmp_ge (tgt := 63) (dk D_X11_textFor 7 rfl) rfl (fun hc1 => ?_) (fun hc1 => ?_)
    · refine g_iload_n (dk D_X11_textFor 34 rfl) rfl ?_
      exact g_ireturn rfl rfl Sx.rf rfl (by decide) (by decide) (dk D_X11_textFor 35 rfl)
    · refine g_aload_n (dk D_X11_textFor 8 rfl) rfl ?_
      refine g_getAt (t := 100) fl_RX11_46 rfl ht0 (dk D_X11_textFor 9 rfl) (fun ht2 => ?_)
      refine g_iload (dk D_X11_textFor 10 rfl) rfl ?_
      refine g_gd (fun hi3 => ?_)
      refine g_iaload ht2 hi3 (dk D_X11_textFor 11 rfl) ?_
      refine g_iload_n (dk D_X11_textFor 12 rfl) rfl ?_
      refine g_icmp_ne (tgt := 55) (dk D_X11_textFor 13 rfl) rfl (fun hc4 => ?_) (fun hc4 => ?_)
      · exact hj55 x3 x4
      · refine g_iload_n (dk D_X11_textFor 14 rfl) rfl ?_
        refine g_i2l (dk D_X11_textFor 15 rfl) ?_
        refine g_aload_n (dk D_X11_textFor 16 rfl) rfl ?_
        refine g_getAt (t := 100) fl_RX11_52 rfl ht0 (dk D_X11_textFor 17 rfl) (fun ht5 => ?_)
        refine g_iload (dk D_X11_textFor 18 rfl) rfl ?_
        refine g_gd (fun hi6 => ?_)
        refine g_iaload ht5 hi6 (dk D_X11_textFor 19 rfl) ?_
        refine g_i2l (dk D_X11_textFor 20 rfl) ?_
        refine g_aload_n (dk D_X11_textFor 21 rfl) rfl ?_
        refine g_getAt (t := 100) fl_RX11_55 rfl ht0 (dk D_X11_textFor 22 rfl) (fun ht7 => ?_)
        refine g_iload (dk D_X11_textFor 23 rfl) rfl ?_
        refine g_gd (fun hi8 => ?_)
        refine g_iaload ht7 hi8 (dk D_X11_textFor 24 rfl) ?_
        refine g_i2l (dk D_X11_textFor 25 rfl) ?_
        refine h_callS (st := []) (c_X11_in (E := E) S0 I0 x2.toInt64 (((rd I0 (S0.1 a0 18) x4)).toInt64) (((rd I0 (S0.1 a0 19) x4)).toInt64)) cl_RX11_132 rfl rfl (by decide) (Nat.le_of_ble_eq_true rfl) (dk D_X11_textFor 26 rfl) ?_
        refine g_if_eq (tgt := 55) (dk D_X11_textFor 27 rfl) rfl (fun hc10 => ?_) (fun hc10 => ?_)
        · exact hj55 x3 x4
        · refine g_iload (dk D_X11_textFor 28 rfl) rfl ?_
          refine g_goto (tgt := 56) (dk D_X11_textFor 29 rfl) rfl ?_
          refine g_Lp [0, 1, 2, 4] rfl ?_
          exact hj56 x4 x4
  unfold f_X11_textFor
  refine g_bipush (v := ((-9) : Int32)) (dk D_X11_textFor 0 rfl) rfl ?_
  refine g_istore_n (L' := [(0, vA (a0 + 1)), (1, vI x1), (2, vI x2), (3, vI ((-9) : Int32))]) (dk D_X11_textFor 1 rfl) (Nat.le_of_ble_eq_true rfl) rfl ?_
  refine g_iconst (v := (0 : Int32)) (dk D_X11_textFor 2 rfl) rfl ?_
  refine g_istore (L' := [(0, vA (a0 + 1)), (1, vI x1), (2, vI x2), (3, vI ((-9) : Int32)), (4, vI (0 : Int32))]) (dk D_X11_textFor 3 rfl) (Nat.le_of_ble_eq_true rfl) rfl ?_
  exact hl6 fu ((-9) : Int32) (0 : Int32) trivial
theorem c_X11_textFor {E : EV} (fu : Nat) (S0 : Sk) (I0 : II) (a0 : Nat) (x1 : Int32) (x2 : Int32) (r : Int32) (h : f_X11_textFor fu S0 I0 a0 x1 x2 = some r) (ht0 : tyO S0 11 a0) : MX E yX11_textFor i_X11_textFor S0 I0 [vA (a0 + 1), vI x1, vI x2] (po_X11_textFor S0 I0 r) :=
  MX.of h (by decide) rfl rfl (Nat.le_of_ble_eq_true rfl) (gg_X11_textFor fu S0 I0 a0 x1 x2 ht0)
theorem cl_RX11_240 : CV0 RX11 240 yX11_textFor i_X11_textFor 2 11 := ⟨⟨(gm 1274 (by decide +kernel) (by decide +kernel)), (gm 72 (by decide +kernel) (by decide +kernel)), ((gm 1277 (by decide +kernel) (by decide +kernel))), by decide +kernel, by decide +kernel, by decide +kernel⟩, ⟨(gm 1276 (by decide +kernel) (by decide +kernel)), (gm 39 (by decide +kernel) (by decide +kernel))⟩, rfl, by decide⟩
def tb_X11_owedTo : List (Nat × Instr × Nat) := [(0, .aload_n 0, 1), (1, .iload_n 1, 1), (2, .iload_n 2, 1), (3, .invokevirtual 240, 3), (6, .istore_n 3, 1), (7, .iload_n 3, 1), (8, .ifCond .ge 7, 3), (11, .iconst 0, 1), (12, .goto 9, 3), (15, .aload_n 0, 1), (16, .getfield 49, 3), (19, .iload_n 3, 1), (20, .iaload, 1), (21, .ireturn, 1)]
def i_X11_owedTo : MI := (RX11, cX11_owedTo, 4, (some .int), "owedTo", { frames := 2, cells := 0, slots := 0, locals := 49 })
theorem D_X11_owedTo : tbOK (i_X11_owedTo).2.1 tb_X11_owedTo := by show ∀ q ∈ tb_X11_owedTo, decode cX11_owedTo q.1 = .ok (q.2.1, q.2.2); decide +kernel
def po_X11_owedTo (S : Sk) (I : II) (r : Int32) : Option LV × Sk × II := (some (vI r), S, I)
def f_X11_owedTo (fu : Nat) (S : Sk) (I : II) (a0 : Nat) (x1 : Int32) (x2 : Int32) : Option (Int32) :=
  (f_X11_textFor fu S I a0 x1 x2).bind fun q1 => (if 0 ≤ q1 then gd (inb S (S.1 a0 17) q1) (some ((rd I (S.1 a0 17) q1))) else some ((0 : Int32)))
set_option maxRecDepth 100000 in
set_option maxHeartbeats 4000000 in
theorem gg_X11_owedTo {E : EV} (fu : Nat) (S0 : Sk) (I0 : II) (a0 : Nat) (x1 : Int32) (x2 : Int32) (ht0 : tyO S0 11 a0) : GG E i_X11_owedTo (enM E i_X11_owedTo S0 (po_X11_owedTo S0 I0)) S0 I0 (0, 0) 0 [(0, vA (a0 + 1)), (1, vI x1), (2, vI x2)] [] (f_X11_owedTo fu S0 I0 a0 x1 x2) := by
  unfold f_X11_owedTo
  refine g_aload_n (dk D_X11_owedTo 0 rfl) rfl ?_
  refine g_iload_n (dk D_X11_owedTo 1 rfl) rfl ?_
  refine g_iload_n (dk D_X11_owedTo 2 rfl) rfl ?_
  refine g_bind (fun q1 hq2 => ?_)
  refine h_callVt (st := []) (c_X11_textFor (E := E) fu S0 I0 a0 x1 x2 q1 hq2 (ht0)) cl_RX11_240 ht0 rfl rfl (by decide) (Nat.le_of_ble_eq_true rfl) (dk D_X11_owedTo 3 rfl) ?_
  refine g_istore_n (L' := [(0, vA (a0 + 1)), (1, vI x1), (2, vI x2), (3, vI q1)]) (dk D_X11_owedTo 4 rfl) (Nat.le_of_ble_eq_true rfl) rfl ?_
  refine g_iload_n (dk D_X11_owedTo 5 rfl) rfl ?_
  refine g_if_ge (tgt := 15) (dk D_X11_owedTo 6 rfl) rfl (fun hc4 => ?_) (fun hc4 => ?_)
  · refine g_aload_n (dk D_X11_owedTo 9 rfl) rfl ?_
    refine g_getAt (t := 100) fl_RX11_49 rfl ht0 (dk D_X11_owedTo 10 rfl) (fun ht5 => ?_)
    refine g_iload_n (dk D_X11_owedTo 11 rfl) rfl ?_
    refine g_gd (fun hi6 => ?_)
    refine g_iaload ht5 hi6 (dk D_X11_owedTo 12 rfl) ?_
    exact g_ireturn rfl rfl Sx.rf rfl (by decide) (by decide) (dk D_X11_owedTo 13 rfl)
  · refine g_iconst (v := (0 : Int32)) (dk D_X11_owedTo 7 rfl) rfl ?_
    refine g_goto (tgt := 21) (dk D_X11_owedTo 8 rfl) rfl ?_
    exact g_ireturn rfl rfl Sx.rf rfl (by decide) (by decide) (dk D_X11_owedTo 13 rfl)
theorem c_X11_owedTo {E : EV} (fu : Nat) (S0 : Sk) (I0 : II) (a0 : Nat) (x1 : Int32) (x2 : Int32) (r : Int32) (h : f_X11_owedTo fu S0 I0 a0 x1 x2 = some r) (ht0 : tyO S0 11 a0) : MX E yX11_owedTo i_X11_owedTo S0 I0 [vA (a0 + 1), vI x1, vI x2] (po_X11_owedTo S0 I0 r) :=
  MX.of h (by decide) rfl rfl (Nat.le_of_ble_eq_true rfl) (gg_X11_owedTo fu S0 I0 a0 x1 x2 ht0)
theorem cl_RX11_243 : CV0 RX11 243 yX11_owedTo i_X11_owedTo 2 11 := ⟨⟨(gm 1270 (by decide +kernel) (by decide +kernel)), (gm 72 (by decide +kernel) (by decide +kernel)), ((gm 1273 (by decide +kernel) (by decide +kernel))), by decide +kernel, by decide +kernel, by decide +kernel⟩, ⟨(gm 1272 (by decide +kernel) (by decide +kernel)), (gm 38 (by decide +kernel) (by decide +kernel))⟩, rfl, by decide⟩
def tb_X11_owed : List (Nat × Instr × Nat) := [(0, .aload_n 0, 1), (1, .iload_n 1, 1), (2, .invokevirtual 164, 3), (5, .ifCond .eq 5, 3), (8, .iconst (-1), 1), (9, .ireturn, 1), (10, .iload_n 2, 1), (11, .invokestatic 200, 3), (14, .ifCond .eq 12, 3), (17, .aload_n 0, 1), (18, .iload_n 1, 1), (19, .iload_n 2, 1), (20, .invokevirtual 243, 3), (23, .goto 5, 3), (26, .bipush (-2), 2), (28, .ireturn, 1)]
def i_X11_owed : MI := (RX11, cX11_owed, 3, (some .int), "owed", { frames := 3, cells := 0, slots := 0, locals := 72 })
theorem D_X11_owed : tbOK (i_X11_owed).2.1 tb_X11_owed := by show ∀ q ∈ tb_X11_owed, decode cX11_owed q.1 = .ok (q.2.1, q.2.2); decide +kernel
def po_X11_owed (S : Sk) (I : II) (r : Int32) : Option LV × Sk × II := (some (vI r), S, I)
def f_X11_owed (fu : Nat) (S : Sk) (I : II) (a0 : Nat) (x1 : Int32) (x2 : Int32) : Option (Int32) :=
  if (t_X11_noStop I a0 x1) = 0 then if (t_X11_isDay x2) = 0 then some (((-2) : Int32)) else (f_X11_owedTo fu S I a0 x1 x2).bind fun q5 => (some (q5)) else some (((-1) : Int32))
set_option maxRecDepth 100000 in
set_option maxHeartbeats 4000000 in
theorem gg_X11_owed {E : EV} (fu : Nat) (S0 : Sk) (I0 : II) (a0 : Nat) (x1 : Int32) (x2 : Int32) (ht0 : tyO S0 11 a0) : GG E i_X11_owed (enM E i_X11_owed S0 (po_X11_owed S0 I0)) S0 I0 (0, 0) 0 [(0, vA (a0 + 1)), (1, vI x1), (2, vI x2)] [] (f_X11_owed fu S0 I0 a0 x1 x2) := by
  unfold f_X11_owed
  refine g_aload_n (dk D_X11_owed 0 rfl) rfl ?_
  refine g_iload_n (dk D_X11_owed 1 rfl) rfl ?_
  refine h_callVt (st := []) (c_X11_noStop (E := E) S0 I0 a0 x1 (ht0)) cl_RX11_164 ht0 rfl rfl (by decide) (Nat.le_of_ble_eq_true rfl) (dk D_X11_owed 2 rfl) ?_
  refine g_if_eq (tgt := 10) (dk D_X11_owed 3 rfl) rfl (fun hc2 => ?_) (fun hc2 => ?_)
  · refine g_iload_n (dk D_X11_owed 6 rfl) rfl ?_
    refine h_callS (st := []) (c_X11_isDay (E := E) S0 I0 x2) cl_RX11_200 rfl rfl (by decide) (Nat.le_of_ble_eq_true rfl) (dk D_X11_owed 7 rfl) ?_
    refine g_if_eq (tgt := 26) (dk D_X11_owed 8 rfl) rfl (fun hc4 => ?_) (fun hc4 => ?_)
    · refine g_bipush (v := ((-2) : Int32)) (dk D_X11_owed 14 rfl) rfl ?_
      exact g_ireturn rfl rfl Sx.rf rfl (by decide) (by decide) (dk D_X11_owed 15 rfl)
    · refine g_aload_n (dk D_X11_owed 9 rfl) rfl ?_
      refine g_iload_n (dk D_X11_owed 10 rfl) rfl ?_
      refine g_iload_n (dk D_X11_owed 11 rfl) rfl ?_
      refine g_bind (fun q5 hq6 => ?_)
      refine h_callVt (st := []) (c_X11_owedTo (E := E) fu S0 I0 a0 x1 x2 q5 hq6 (ht0)) cl_RX11_243 ht0 rfl rfl (by decide) (Nat.le_of_ble_eq_true rfl) (dk D_X11_owed 12 rfl) ?_
      refine g_goto (tgt := 28) (dk D_X11_owed 13 rfl) rfl ?_
      exact g_ireturn rfl rfl Sx.rf rfl (by decide) (by decide) (dk D_X11_owed 15 rfl)
  · refine g_iconst (v := ((-1) : Int32)) (dk D_X11_owed 4 rfl) rfl ?_
    exact g_ireturn rfl rfl Sx.rf rfl (by decide) (by decide) (dk D_X11_owed 5 rfl)
theorem c_X11_owed {E : EV} (fu : Nat) (S0 : Sk) (I0 : II) (a0 : Nat) (x1 : Int32) (x2 : Int32) (r : Int32) (h : f_X11_owed fu S0 I0 a0 x1 x2 = some r) (ht0 : tyO S0 11 a0) : MX E yX11_owed i_X11_owed S0 I0 [vA (a0 + 1), vI x1, vI x2] (po_X11_owed S0 I0 r) :=
  MX.of h (by decide) rfl rfl (Nat.le_of_ble_eq_true rfl) (gg_X11_owed fu S0 I0 a0 x1 x2 ht0)
def tb_X11_why : List (Nat × Instr × Nat) := [(0, .aload_n 0, 1), (1, .iload_n 1, 1), (2, .invokevirtual 164, 3), (5, .ifCond .eq 5, 3), (8, .iconst (-1), 1), (9, .ireturn, 1), (10, .iload_n 2, 1), (11, .invokestatic 200, 3), (14, .ifCond .eq 12, 3), (17, .aload_n 0, 1), (18, .iload_n 1, 1), (19, .iload_n 2, 1), (20, .invokevirtual 240, 3), (23, .goto 5, 3), (26, .bipush (-2), 2), (28, .ireturn, 1)]
def i_X11_why : MI := (RX11, cX11_why, 3, (some .int), "why", { frames := 2, cells := 0, slots := 0, locals := 49 })
theorem D_X11_why : tbOK (i_X11_why).2.1 tb_X11_why := by show ∀ q ∈ tb_X11_why, decode cX11_why q.1 = .ok (q.2.1, q.2.2); decide +kernel
def po_X11_why (S : Sk) (I : II) (r : Int32) : Option LV × Sk × II := (some (vI r), S, I)
def f_X11_why (fu : Nat) (S : Sk) (I : II) (a0 : Nat) (x1 : Int32) (x2 : Int32) : Option (Int32) :=
  if (t_X11_noStop I a0 x1) = 0 then if (t_X11_isDay x2) = 0 then some (((-2) : Int32)) else (f_X11_textFor fu S I a0 x1 x2).bind fun q5 => (some (q5)) else some (((-1) : Int32))
set_option maxRecDepth 100000 in
set_option maxHeartbeats 4000000 in
theorem gg_X11_why {E : EV} (fu : Nat) (S0 : Sk) (I0 : II) (a0 : Nat) (x1 : Int32) (x2 : Int32) (ht0 : tyO S0 11 a0) : GG E i_X11_why (enM E i_X11_why S0 (po_X11_why S0 I0)) S0 I0 (0, 0) 0 [(0, vA (a0 + 1)), (1, vI x1), (2, vI x2)] [] (f_X11_why fu S0 I0 a0 x1 x2) := by
  unfold f_X11_why
  refine g_aload_n (dk D_X11_why 0 rfl) rfl ?_
  refine g_iload_n (dk D_X11_why 1 rfl) rfl ?_
  refine h_callVt (st := []) (c_X11_noStop (E := E) S0 I0 a0 x1 (ht0)) cl_RX11_164 ht0 rfl rfl (by decide) (Nat.le_of_ble_eq_true rfl) (dk D_X11_why 2 rfl) ?_
  refine g_if_eq (tgt := 10) (dk D_X11_why 3 rfl) rfl (fun hc2 => ?_) (fun hc2 => ?_)
  · refine g_iload_n (dk D_X11_why 6 rfl) rfl ?_
    refine h_callS (st := []) (c_X11_isDay (E := E) S0 I0 x2) cl_RX11_200 rfl rfl (by decide) (Nat.le_of_ble_eq_true rfl) (dk D_X11_why 7 rfl) ?_
    refine g_if_eq (tgt := 26) (dk D_X11_why 8 rfl) rfl (fun hc4 => ?_) (fun hc4 => ?_)
    · refine g_bipush (v := ((-2) : Int32)) (dk D_X11_why 14 rfl) rfl ?_
      exact g_ireturn rfl rfl Sx.rf rfl (by decide) (by decide) (dk D_X11_why 15 rfl)
    · refine g_aload_n (dk D_X11_why 9 rfl) rfl ?_
      refine g_iload_n (dk D_X11_why 10 rfl) rfl ?_
      refine g_iload_n (dk D_X11_why 11 rfl) rfl ?_
      refine g_bind (fun q5 hq6 => ?_)
      refine h_callVt (st := []) (c_X11_textFor (E := E) fu S0 I0 a0 x1 x2 q5 hq6 (ht0)) cl_RX11_240 ht0 rfl rfl (by decide) (Nat.le_of_ble_eq_true rfl) (dk D_X11_why 12 rfl) ?_
      refine g_goto (tgt := 28) (dk D_X11_why 13 rfl) rfl ?_
      exact g_ireturn rfl rfl Sx.rf rfl (by decide) (by decide) (dk D_X11_why 15 rfl)
  · refine g_iconst (v := ((-1) : Int32)) (dk D_X11_why 4 rfl) rfl ?_
    exact g_ireturn rfl rfl Sx.rf rfl (by decide) (by decide) (dk D_X11_why 5 rfl)
theorem c_X11_why {E : EV} (fu : Nat) (S0 : Sk) (I0 : II) (a0 : Nat) (x1 : Int32) (x2 : Int32) (r : Int32) (h : f_X11_why fu S0 I0 a0 x1 x2 = some r) (ht0 : tyO S0 11 a0) : MX E yX11_why i_X11_why S0 I0 [vA (a0 + 1), vI x1, vI x2] (po_X11_why S0 I0 r) :=
  MX.of h (by decide) rfl rfl (Nat.le_of_ble_eq_true rfl) (gg_X11_why fu S0 I0 a0 x1 x2 ht0)
def tb_X11_servedAt : List (Nat × Instr × Nat) := [(0, .iconst 0, 1), (1, .istore_n 3, 1), (2, .iconst 0, 1), (3, .istore 4, 2), (5, .iload 4, 2), (7, .aload_n 0, 1), (8, .getfield 172, 3), (11, .if_icmp .ge 72, 3), (14, .iconst 0, 1), (15, .istore 5, 2), (17, .iload 5, 2), (19, .aload_n 0, 1), (20, .getfield 19, 3), (23, .iload 4, 2), (25, .iaload, 1), (26, .iconst 1, 1), (27, .isub, 1), (28, .if_icmp .ge 49, 3), (31, .iload_n 3, 1), (32, .aload_n 0, 1), (33, .getfield 22, 3), (36, .bipush 8, 2), (38, .iload 4, 2), (40, .imul, 1), (41, .iload 5, 2), (43, .iadd, 1), (44, .iaload, 1), (45, .iload_n 1, 1), (46, .if_icmp .ne 22, 3), (49, .aload_n 0, 1), (50, .iload 4, 2), (52, .iload_n 2, 1), (53, .invokevirtual 213, 3), (56, .ifCond .eq 12, 3), (59, .aload_n 0, 1), (60, .iload 4, 2), (62, .invokevirtual 206, 3), (65, .goto 4, 3), (68, .iconst 0, 1), (69, .iadd, 1), (70, .istore_n 3, 1), (71, .iinc 5 1, 3), (74, .goto (-57), 3), (77, .iinc 4 1, 3), (80, .goto (-75), 3), (83, .iload_n 3, 1), (84, .ireturn, 1)]
def i_X11_servedAt : MI := (RX11, cX11_servedAt, 6, (some .int), "servedAt", { frames := 2, cells := 0, slots := 0, locals := 47 })
theorem D_X11_servedAt : tbOK (i_X11_servedAt).2.1 tb_X11_servedAt := by show ∀ q ∈ tb_X11_servedAt, decode cX11_servedAt q.1 = .ok (q.2.1, q.2.2); decide +kernel
def po_X11_servedAt (S : Sk) (I : II) (r : Int32) : Option LV × Sk × II := (some (vI r), S, I)
def jn_X11_servedAt_69 (fu : Nat) (S : Sk) (I : II) (self5 : Int32 → Int32 → Option (Int32)) (self17 : Int32 → Int32 → Option (Int32)) (a0 : Nat) (x1 : Int32) (x2 : Int32) (x4 : Int32) (x5 : Int32) (s0 : Int32) (s1 : Int32) : Option (Int32) :=
  lt (s0 + s1) fun x3_1 => (self17 x3_1 (x5 + (1 : Int32)))
def jn_X11_servedAt_68 (fu : Nat) (S : Sk) (I : II) (self5 : Int32 → Int32 → Option (Int32)) (self17 : Int32 → Int32 → Option (Int32)) (a0 : Nat) (x1 : Int32) (x2 : Int32) (x4 : Int32) (x5 : Int32) (s0 : Int32) : Option (Int32) :=
  jn_X11_servedAt_69 fu S I self5 self17 a0 x1 x2 x4 x5 s0 (0 : Int32)
def lp_X11_servedAt_17 (fu : Nat) (S : Sk) (I : II) (self5 : Int32 → Int32 → Option (Int32)) (a0 : Nat) (x1 : Int32) (x2 : Int32) (x4 : Int32) (self17 : Int32 → Int32 → Option (Int32)) (x3 : Int32) (x5 : Int32) : Option (Int32) :=
  gd (inb S (S.1 a0 6) x4) (if ((rd I (S.1 a0 6) x4) - (1 : Int32)) ≤ x5 then self5 x3 (x4 + (1 : Int32)) else gd (inb S (S.1 a0 7) (((8 : Int32) * x4) + x5)) (if (rd I (S.1 a0 7) (((8 : Int32) * x4) + x5)) = x1 then (f_X11_doesRun fu S I a0 x4 x2).bind fun q8 => (if q8 = 0 then jn_X11_servedAt_68 fu S I self5 self17 a0 x1 x2 x4 x5 x3 else (f_X11_buses fu S I a0 x4).bind fun q12 => (jn_X11_servedAt_69 fu S I self5 self17 a0 x1 x2 x4 x5 x3 q12)) else jn_X11_servedAt_68 fu S I self5 self17 a0 x1 x2 x4 x5 x3))
def lp_X11_servedAt_5 (fu : Nat) (S : Sk) (I : II) (a0 : Nat) (x1 : Int32) (x2 : Int32) (self5 : Int32 → Int32 → Option (Int32)) (x3 : Int32) (x4 : Int32) : Option (Int32) :=
  if (I a0 4) ≤ x4 then some (x3) else fix2 (lp_X11_servedAt_17 fu S I self5 a0 x1 x2 x4) fu x3 (0 : Int32)
def f_X11_servedAt (fu : Nat) (S : Sk) (I : II) (a0 : Nat) (x1 : Int32) (x2 : Int32) : Option (Int32) :=
  fix2 (lp_X11_servedAt_5 fu S I a0 x1 x2) fu (0 : Int32) (0 : Int32)
set_option maxRecDepth 100000 in
set_option maxHeartbeats 4000000 in
theorem gg_X11_servedAt {E : EV} (fu : Nat) (S0 : Sk) (I0 : II) (a0 : Nat) (x1 : Int32) (x2 : Int32) (ht0 : tyO S0 11 a0) : GG E i_X11_servedAt (enM E i_X11_servedAt S0 (po_X11_servedAt S0 I0)) S0 I0 (0, 0) 0 [(0, vA (a0 + 1)), (1, vI x1), (2, vI x2)] [] (f_X11_servedAt fu S0 I0 a0 x1 x2) := by
  have hl5 : ∀ (nn : Nat) (x3 : Int32) (x4 : Int32), True → GG E i_X11_servedAt (enM E i_X11_servedAt S0 (po_X11_servedAt S0 I0)) S0 I0 (0, 0) 5 [(0, vA (a0 + 1)), (1, vI x1), (2, vI x2), (3, vI x3), (4, vI x4)] [] (fix2 (lp_X11_servedAt_5 fu S0 I0 a0 x1 x2) nn x3 x4) := by
    refine g_fix2 (fun _ _ => S0) (fun _ _ => I0) (fun x3 x4 => [(0, vA (a0 + 1)), (1, vI x1), (2, vI x2), (3, vI x3), (4, vI x4)]) (fun x3 x4 => True) ?_
    intro self5 hself5 x3 x4 hinv
    have hl17 : ∀ (x4 : Int32) (nn : Nat) (x3 : Int32) (x5 : Int32), True → GG E i_X11_servedAt (enM E i_X11_servedAt S0 (po_X11_servedAt S0 I0)) S0 I0 (0, 0) 17 [(0, vA (a0 + 1)), (1, vI x1), (2, vI x2), (3, vI x3), (4, vI x4), (5, vI x5)] [] (fix2 (lp_X11_servedAt_17 fu S0 I0 self5 a0 x1 x2 x4) nn x3 x5) := by
      intro x4 
      refine g_fix2 (fun _ _ => S0) (fun _ _ => I0) (fun x3 x5 => [(0, vA (a0 + 1)), (1, vI x1), (2, vI x2), (3, vI x3), (4, vI x4), (5, vI x5)]) (fun x3 x5 => True) ?_
      intro self17 hself17 x3 x5 hinv
      have hj69 : ∀ (x5 : Int32) (s0 : Int32) (s1 : Int32), GG E i_X11_servedAt (enM E i_X11_servedAt S0 (po_X11_servedAt S0 I0)) S0 I0 (0, 0) 69 [(0, vA (a0 + 1)), (1, vI x1), (2, vI x2), (4, vI x4), (5, vI x5)] [vI s1, vI s0] (jn_X11_servedAt_69 fu S0 I0 self5 self17 a0 x1 x2 x4 x5 s0 s1) := by
        intro x5 s0 s1 
        unfold jn_X11_servedAt_69
        refine g_iadd (dk D_X11_servedAt 39 rfl) ?_
        refine g_ltV (fun x3_1 ex3_1 => ?_)
        refine g_istore_n (L' := [(0, vA (a0 + 1)), (1, vI x1), (2, vI x2), (3, vI x3_1), (4, vI x4), (5, vI x5)]) (dk D_X11_servedAt 40 rfl) (Nat.le_of_ble_eq_true rfl) rfl ?_
        refine g_iinc (v := (1 : Int32)) (L' := [(0, vA (a0 + 1)), (1, vI x1), (2, vI x2), (3, vI x3_1), (4, vI x4), (5, vI (x5 + (1 : Int32)))]) (dk D_X11_servedAt 41 rfl) rfl rfl (Nat.le_of_ble_eq_true rfl) rfl ?_
        refine g_goto (tgt := 17) (dk D_X11_servedAt 42 rfl) rfl ?_
        exact hself17 x3_1 (x5 + (1 : Int32)) trivial
      have hj68 : ∀ (x5 : Int32) (s0 : Int32), GG E i_X11_servedAt (enM E i_X11_servedAt S0 (po_X11_servedAt S0 I0)) S0 I0 (0, 0) 68 [(0, vA (a0 + 1)), (1, vI x1), (2, vI x2), (4, vI x4), (5, vI x5)] [vI s0] (jn_X11_servedAt_68 fu S0 I0 self5 self17 a0 x1 x2 x4 x5 s0) := by
        intro x5 s0 
        unfold jn_X11_servedAt_68
        refine g_iconst (v := (0 : Int32)) (dk D_X11_servedAt 38 rfl) rfl ?_
        exact hj69 x5 s0 (0 : Int32)
      unfold lp_X11_servedAt_17
      refine g_iload (dk D_X11_servedAt 10 rfl) rfl ?_
      refine g_aload_n (dk D_X11_servedAt 11 rfl) rfl ?_
      refine g_getAt (t := 100) fl_RX11_19 rfl ht0 (dk D_X11_servedAt 12 rfl) (fun ht2 => ?_)
      refine g_iload (dk D_X11_servedAt 13 rfl) rfl ?_
      refine g_gd (fun hi3 => ?_)
      refine g_iaload ht2 hi3 (dk D_X11_servedAt 14 rfl) ?_
      refine g_iconst (v := (1 : Int32)) (dk D_X11_servedAt 15 rfl) rfl ?_
      refine g_isub (dk D_X11_servedAt 16 rfl) ?_
      refine g_icmp_ge (tgt := 77) (dk D_X11_servedAt 17 rfl) rfl (fun hc4 => ?_) (fun hc4 => ?_)
      · refine g_iinc (v := (1 : Int32)) (L' := [(0, vA (a0 + 1)), (1, vI x1), (2, vI x2), (3, vI x3), (4, vI (x4 + (1 : Int32))), (5, vI x5)]) (dk D_X11_servedAt 43 rfl) rfl rfl (Nat.le_of_ble_eq_true rfl) rfl ?_
        refine g_goto (tgt := 5) (dk D_X11_servedAt 44 rfl) rfl ?_
        refine g_Lp [0, 1, 2, 3, 4] rfl ?_
        exact hself5 x3 (x4 + (1 : Int32)) trivial
      · refine g_iload_n (dk D_X11_servedAt 18 rfl) rfl ?_
        refine g_aload_n (dk D_X11_servedAt 19 rfl) rfl ?_
        refine g_getAt (t := 100) fl_RX11_22 rfl ht0 (dk D_X11_servedAt 20 rfl) (fun ht5 => ?_)
        refine g_bipush (v := (8 : Int32)) (dk D_X11_servedAt 21 rfl) rfl ?_
        refine g_iload (dk D_X11_servedAt 22 rfl) rfl ?_
        refine g_imul (dk D_X11_servedAt 23 rfl) ?_
        refine g_iload (dk D_X11_servedAt 24 rfl) rfl ?_
        refine g_iadd (dk D_X11_servedAt 25 rfl) ?_
        refine g_gd (fun hi6 => ?_)
        refine g_iaload ht5 hi6 (dk D_X11_servedAt 26 rfl) ?_
        refine g_iload_n (dk D_X11_servedAt 27 rfl) rfl ?_
        refine g_icmp_ne (tgt := 68) (dk D_X11_servedAt 28 rfl) rfl (fun hc7 => ?_) (fun hc7 => ?_)
        · refine g_Lp [0, 1, 2, 4, 5] rfl ?_
          exact hj68 x5 x3
        · refine g_aload_n (dk D_X11_servedAt 29 rfl) rfl ?_
          refine g_iload (dk D_X11_servedAt 30 rfl) rfl ?_
          refine g_iload_n (dk D_X11_servedAt 31 rfl) rfl ?_
          refine g_bind (fun q8 hq9 => ?_)
          refine h_callVt (st := [vI x3]) (c_X11_doesRun (E := E) fu S0 I0 a0 x4 x2 q8 hq9 (ht0)) cl_RX11_213 ht0 rfl rfl (by decide) (Nat.le_of_ble_eq_true rfl) (dk D_X11_servedAt 32 rfl) ?_
          refine g_if_eq (tgt := 68) (dk D_X11_servedAt 33 rfl) rfl (fun hc11 => ?_) (fun hc11 => ?_)
          · refine g_Lp [0, 1, 2, 4, 5] rfl ?_
            exact hj68 x5 x3
          · refine g_aload_n (dk D_X11_servedAt 34 rfl) rfl ?_
            refine g_iload (dk D_X11_servedAt 35 rfl) rfl ?_
            refine g_bind (fun q12 hq13 => ?_)
            refine h_callVt (st := [vI x3]) (c_X11_buses (E := E) fu S0 I0 a0 x4 q12 hq13 (ht0)) cl_RX11_206 ht0 rfl rfl (by decide) (Nat.le_of_ble_eq_true rfl) (dk D_X11_servedAt 36 rfl) ?_
            refine g_goto (tgt := 69) (dk D_X11_servedAt 37 rfl) rfl ?_
            refine g_Lp [0, 1, 2, 4, 5] rfl ?_
            exact hj69 x5 x3 q12
    unfold lp_X11_servedAt_5
    refine g_iload (dk D_X11_servedAt 4 rfl) rfl ?_
    refine g_aload_n (dk D_X11_servedAt 5 rfl) rfl ?_
    refine g_getIt fl_RX11_172 (by decide) ht0 (dk D_X11_servedAt 6 rfl) ?_
    refine g_icmp_ge (tgt := 83) (dk D_X11_servedAt 7 rfl) rfl (fun hc15 => ?_) (fun hc15 => ?_)
    · refine g_iload_n (dk D_X11_servedAt 45 rfl) rfl ?_
      exact g_ireturn rfl rfl Sx.rf rfl (by decide) (by decide) (dk D_X11_servedAt 46 rfl)
    · refine g_iconst (v := (0 : Int32)) (dk D_X11_servedAt 8 rfl) rfl ?_
      refine g_istore (L' := [(0, vA (a0 + 1)), (1, vI x1), (2, vI x2), (3, vI x3), (4, vI x4), (5, vI (0 : Int32))]) (dk D_X11_servedAt 9 rfl) (Nat.le_of_ble_eq_true rfl) rfl ?_
      exact hl17 x4 fu x3 (0 : Int32) trivial
  unfold f_X11_servedAt
  refine g_iconst (v := (0 : Int32)) (dk D_X11_servedAt 0 rfl) rfl ?_
  refine g_istore_n (L' := [(0, vA (a0 + 1)), (1, vI x1), (2, vI x2), (3, vI (0 : Int32))]) (dk D_X11_servedAt 1 rfl) (Nat.le_of_ble_eq_true rfl) rfl ?_
  refine g_iconst (v := (0 : Int32)) (dk D_X11_servedAt 2 rfl) rfl ?_
  refine g_istore (L' := [(0, vA (a0 + 1)), (1, vI x1), (2, vI x2), (3, vI (0 : Int32)), (4, vI (0 : Int32))]) (dk D_X11_servedAt 3 rfl) (Nat.le_of_ble_eq_true rfl) rfl ?_
  exact hl5 fu (0 : Int32) (0 : Int32) trivial
theorem c_X11_servedAt {E : EV} (fu : Nat) (S0 : Sk) (I0 : II) (a0 : Nat) (x1 : Int32) (x2 : Int32) (r : Int32) (h : f_X11_servedAt fu S0 I0 a0 x1 x2 = some r) (ht0 : tyO S0 11 a0) : MX E yX11_servedAt i_X11_servedAt S0 I0 [vA (a0 + 1), vI x1, vI x2] (po_X11_servedAt S0 I0 r) :=
  MX.of h (by decide) rfl rfl (Nat.le_of_ble_eq_true rfl) (gg_X11_servedAt fu S0 I0 a0 x1 x2 ht0)
theorem cl_RX11_246 : CV0 RX11 246 yX11_servedAt i_X11_servedAt 2 11 := ⟨⟨(gm 1286 (by decide +kernel) (by decide +kernel)), (gm 72 (by decide +kernel) (by decide +kernel)), ((gm 1289 (by decide +kernel) (by decide +kernel))), by decide +kernel, by decide +kernel, by decide +kernel⟩, ⟨(gm 1288 (by decide +kernel) (by decide +kernel)), (gm 40 (by decide +kernel) (by decide +kernel))⟩, rfl, by decide⟩
def tb_X11_served : List (Nat × Instr × Nat) := [(0, .aload_n 0, 1), (1, .iload_n 1, 1), (2, .invokevirtual 164, 3), (5, .ifCond .eq 5, 3), (8, .iconst (-1), 1), (9, .ireturn, 1), (10, .iload_n 2, 1), (11, .invokestatic 200, 3), (14, .ifCond .eq 12, 3), (17, .aload_n 0, 1), (18, .iload_n 1, 1), (19, .iload_n 2, 1), (20, .invokevirtual 246, 3), (23, .goto 5, 3), (26, .bipush (-2), 2), (28, .ireturn, 1)]
def i_X11_served : MI := (RX11, cX11_served, 3, (some .int), "served", { frames := 3, cells := 0, slots := 0, locals := 72 })
theorem D_X11_served : tbOK (i_X11_served).2.1 tb_X11_served := by show ∀ q ∈ tb_X11_served, decode cX11_served q.1 = .ok (q.2.1, q.2.2); decide +kernel
def po_X11_served (S : Sk) (I : II) (r : Int32) : Option LV × Sk × II := (some (vI r), S, I)
def f_X11_served (fu : Nat) (S : Sk) (I : II) (a0 : Nat) (x1 : Int32) (x2 : Int32) : Option (Int32) :=
  if (t_X11_noStop I a0 x1) = 0 then if (t_X11_isDay x2) = 0 then some (((-2) : Int32)) else (f_X11_servedAt fu S I a0 x1 x2).bind fun q5 => (some (q5)) else some (((-1) : Int32))
set_option maxRecDepth 100000 in
set_option maxHeartbeats 4000000 in
theorem gg_X11_served {E : EV} (fu : Nat) (S0 : Sk) (I0 : II) (a0 : Nat) (x1 : Int32) (x2 : Int32) (ht0 : tyO S0 11 a0) : GG E i_X11_served (enM E i_X11_served S0 (po_X11_served S0 I0)) S0 I0 (0, 0) 0 [(0, vA (a0 + 1)), (1, vI x1), (2, vI x2)] [] (f_X11_served fu S0 I0 a0 x1 x2) := by
  unfold f_X11_served
  refine g_aload_n (dk D_X11_served 0 rfl) rfl ?_
  refine g_iload_n (dk D_X11_served 1 rfl) rfl ?_
  refine h_callVt (st := []) (c_X11_noStop (E := E) S0 I0 a0 x1 (ht0)) cl_RX11_164 ht0 rfl rfl (by decide) (Nat.le_of_ble_eq_true rfl) (dk D_X11_served 2 rfl) ?_
  refine g_if_eq (tgt := 10) (dk D_X11_served 3 rfl) rfl (fun hc2 => ?_) (fun hc2 => ?_)
  · refine g_iload_n (dk D_X11_served 6 rfl) rfl ?_
    refine h_callS (st := []) (c_X11_isDay (E := E) S0 I0 x2) cl_RX11_200 rfl rfl (by decide) (Nat.le_of_ble_eq_true rfl) (dk D_X11_served 7 rfl) ?_
    refine g_if_eq (tgt := 26) (dk D_X11_served 8 rfl) rfl (fun hc4 => ?_) (fun hc4 => ?_)
    · refine g_bipush (v := ((-2) : Int32)) (dk D_X11_served 14 rfl) rfl ?_
      exact g_ireturn rfl rfl Sx.rf rfl (by decide) (by decide) (dk D_X11_served 15 rfl)
    · refine g_aload_n (dk D_X11_served 9 rfl) rfl ?_
      refine g_iload_n (dk D_X11_served 10 rfl) rfl ?_
      refine g_iload_n (dk D_X11_served 11 rfl) rfl ?_
      refine g_bind (fun q5 hq6 => ?_)
      refine h_callVt (st := []) (c_X11_servedAt (E := E) fu S0 I0 a0 x1 x2 q5 hq6 (ht0)) cl_RX11_246 ht0 rfl rfl (by decide) (Nat.le_of_ble_eq_true rfl) (dk D_X11_served 12 rfl) ?_
      refine g_goto (tgt := 28) (dk D_X11_served 13 rfl) rfl ?_
      exact g_ireturn rfl rfl Sx.rf rfl (by decide) (by decide) (dk D_X11_served 15 rfl)
  · refine g_iconst (v := ((-1) : Int32)) (dk D_X11_served 4 rfl) rfl ?_
    exact g_ireturn rfl rfl Sx.rf rfl (by decide) (by decide) (dk D_X11_served 5 rfl)
theorem c_X11_served {E : EV} (fu : Nat) (S0 : Sk) (I0 : II) (a0 : Nat) (x1 : Int32) (x2 : Int32) (r : Int32) (h : f_X11_served fu S0 I0 a0 x1 x2 = some r) (ht0 : tyO S0 11 a0) : MX E yX11_served i_X11_served S0 I0 [vA (a0 + 1), vI x1, vI x2] (po_X11_served S0 I0 r) :=
  MX.of h (by decide) rfl rfl (Nat.le_of_ble_eq_true rfl) (gg_X11_served fu S0 I0 a0 x1 x2 ht0)
def tb_X11_breach : List (Nat × Instr × Nat) := [(0, .iload_n 1, 1), (1, .invokestatic 200, 3), (4, .ifCond .ne 6, 3), (7, .bipush (-2), 2), (9, .ireturn, 1), (10, .iconst 0, 1), (11, .istore_n 2, 1), (12, .iconst 0, 1), (13, .istore_n 3, 1), (14, .iload_n 3, 1), (15, .aload_n 0, 1), (16, .getfield 156, 3), (19, .if_icmp .ge 34, 3), (22, .iload_n 2, 1), (23, .aload_n 0, 1), (24, .iload_n 3, 1), (25, .iload_n 1, 1), (26, .invokevirtual 246, 3), (29, .aload_n 0, 1), (30, .iload_n 3, 1), (31, .iload_n 1, 1), (32, .invokevirtual 243, 3), (35, .if_icmp .ge 9, 3), (38, .iconst 1, 1), (39, .iload_n 3, 1), (40, .ishl, 1), (41, .goto 4, 3), (44, .iconst 0, 1), (45, .ior, 1), (46, .istore_n 2, 1), (47, .iinc 3 1, 3), (50, .goto (-36), 3), (53, .iload_n 2, 1), (54, .ireturn, 1)]
def i_X11_breach : MI := (RX11, cX11_breach, 4, (some .int), "breach", { frames := 3, cells := 0, slots := 0, locals := 72 })
theorem D_X11_breach : tbOK (i_X11_breach).2.1 tb_X11_breach := by show ∀ q ∈ tb_X11_breach, decode cX11_breach q.1 = .ok (q.2.1, q.2.2); decide +kernel
def po_X11_breach (S : Sk) (I : II) (r : Int32) : Option LV × Sk × II := (some (vI r), S, I)
def jn_X11_breach_45 (fu : Nat) (S : Sk) (I : II) (self14 : Int32 → Int32 → Option (Int32)) (a0 : Nat) (x1 : Int32) (x3 : Int32) (s0 : Int32) (s1 : Int32) : Option (Int32) :=
  lt (s0 ||| s1) fun x2_1 => (self14 x2_1 (x3 + (1 : Int32)))
def lp_X11_breach_14 (fu : Nat) (S : Sk) (I : II) (a0 : Nat) (x1 : Int32) (self14 : Int32 → Int32 → Option (Int32)) (x2 : Int32) (x3 : Int32) : Option (Int32) :=
  if (I a0 1) ≤ x3 then some (x2) else (f_X11_servedAt fu S I a0 x3 x1).bind fun q3 => ((f_X11_owedTo fu S I a0 x3 x1).bind fun q6 => (if q6 ≤ q3 then jn_X11_breach_45 fu S I self14 a0 x1 x3 x2 (0 : Int32) else jn_X11_breach_45 fu S I self14 a0 x1 x3 x2 ((1 : Int32) <<< (x3 &&& 31))))
def f_X11_breach (fu : Nat) (S : Sk) (I : II) (a0 : Nat) (x1 : Int32) : Option (Int32) :=
  if (t_X11_isDay x1) = 0 then some (((-2) : Int32)) else fix2 (lp_X11_breach_14 fu S I a0 x1) fu (0 : Int32) (0 : Int32)
set_option maxRecDepth 100000 in
set_option maxHeartbeats 4000000 in
theorem gg_X11_breach {E : EV} (fu : Nat) (S0 : Sk) (I0 : II) (a0 : Nat) (x1 : Int32) (ht0 : tyO S0 11 a0) : GG E i_X11_breach (enM E i_X11_breach S0 (po_X11_breach S0 I0)) S0 I0 (0, 0) 0 [(0, vA (a0 + 1)), (1, vI x1)] [] (f_X11_breach fu S0 I0 a0 x1) := by
  have hl14 : ∀ (nn : Nat) (x2 : Int32) (x3 : Int32), True → GG E i_X11_breach (enM E i_X11_breach S0 (po_X11_breach S0 I0)) S0 I0 (0, 0) 14 [(0, vA (a0 + 1)), (1, vI x1), (2, vI x2), (3, vI x3)] [] (fix2 (lp_X11_breach_14 fu S0 I0 a0 x1) nn x2 x3) := by
    refine g_fix2 (fun _ _ => S0) (fun _ _ => I0) (fun x2 x3 => [(0, vA (a0 + 1)), (1, vI x1), (2, vI x2), (3, vI x3)]) (fun x2 x3 => True) ?_
    intro self14 hself14 x2 x3 hinv
    have hj45 : ∀ (x3 : Int32) (s0 : Int32) (s1 : Int32), GG E i_X11_breach (enM E i_X11_breach S0 (po_X11_breach S0 I0)) S0 I0 (0, 0) 45 [(0, vA (a0 + 1)), (1, vI x1), (3, vI x3)] [vI s1, vI s0] (jn_X11_breach_45 fu S0 I0 self14 a0 x1 x3 s0 s1) := by
      intro x3 s0 s1 
      unfold jn_X11_breach_45
      refine g_ior (dk D_X11_breach 28 rfl) ?_
      refine g_ltV (fun x2_1 ex2_1 => ?_)
      refine g_istore_n (L' := [(0, vA (a0 + 1)), (1, vI x1), (2, vI x2_1), (3, vI x3)]) (dk D_X11_breach 29 rfl) (Nat.le_of_ble_eq_true rfl) rfl ?_
      refine g_iinc (v := (1 : Int32)) (L' := [(0, vA (a0 + 1)), (1, vI x1), (2, vI x2_1), (3, vI (x3 + (1 : Int32)))]) (dk D_X11_breach 30 rfl) rfl rfl (Nat.le_of_ble_eq_true rfl) rfl ?_
      refine g_goto (tgt := 14) (dk D_X11_breach 31 rfl) rfl ?_
      exact hself14 x2_1 (x3 + (1 : Int32)) trivial
    unfold lp_X11_breach_14
    refine g_iload_n (dk D_X11_breach 9 rfl) rfl ?_
    refine g_aload_n (dk D_X11_breach 10 rfl) rfl ?_
    refine g_getIt fl_RX11_156 (by decide) ht0 (dk D_X11_breach 11 rfl) ?_
    refine g_icmp_ge (tgt := 53) (dk D_X11_breach 12 rfl) rfl (fun hc2 => ?_) (fun hc2 => ?_)
    · refine g_iload_n (dk D_X11_breach 32 rfl) rfl ?_
      exact g_ireturn rfl rfl Sx.rf rfl (by decide) (by decide) (dk D_X11_breach 33 rfl)
    · refine g_iload_n (dk D_X11_breach 13 rfl) rfl ?_
      refine g_aload_n (dk D_X11_breach 14 rfl) rfl ?_
      refine g_iload_n (dk D_X11_breach 15 rfl) rfl ?_
      refine g_iload_n (dk D_X11_breach 16 rfl) rfl ?_
      refine g_bind (fun q3 hq4 => ?_)
      refine h_callVt (st := [vI x2]) (c_X11_servedAt (E := E) fu S0 I0 a0 x3 x1 q3 hq4 (ht0)) cl_RX11_246 ht0 rfl rfl (by decide) (Nat.le_of_ble_eq_true rfl) (dk D_X11_breach 17 rfl) ?_
      refine g_aload_n (dk D_X11_breach 18 rfl) rfl ?_
      refine g_iload_n (dk D_X11_breach 19 rfl) rfl ?_
      refine g_iload_n (dk D_X11_breach 20 rfl) rfl ?_
      refine g_bind (fun q6 hq7 => ?_)
      refine h_callVt (st := [vI q3, vI x2]) (c_X11_owedTo (E := E) fu S0 I0 a0 x3 x1 q6 hq7 (ht0)) cl_RX11_243 ht0 rfl rfl (by decide) (Nat.le_of_ble_eq_true rfl) (dk D_X11_breach 21 rfl) ?_
      refine g_icmp_ge (tgt := 44) (dk D_X11_breach 22 rfl) rfl (fun hc9 => ?_) (fun hc9 => ?_)
      · refine g_iconst (v := (0 : Int32)) (dk D_X11_breach 27 rfl) rfl ?_
        refine g_Lp [0, 1, 3] rfl ?_
        exact hj45 x3 x2 (0 : Int32)
      · refine g_iconst (v := (1 : Int32)) (dk D_X11_breach 23 rfl) rfl ?_
        refine g_iload_n (dk D_X11_breach 24 rfl) rfl ?_
        refine g_ishl (dk D_X11_breach 25 rfl) ?_
        refine g_goto (tgt := 45) (dk D_X11_breach 26 rfl) rfl ?_
        refine g_Lp [0, 1, 3] rfl ?_
        exact hj45 x3 x2 ((1 : Int32) <<< (x3 &&& 31))
  unfold f_X11_breach
  refine g_iload_n (dk D_X11_breach 0 rfl) rfl ?_
  refine h_callS (st := []) (c_X11_isDay (E := E) S0 I0 x1) cl_RX11_200 rfl rfl (by decide) (Nat.le_of_ble_eq_true rfl) (dk D_X11_breach 1 rfl) ?_
  refine g_if_ne (tgt := 10) (dk D_X11_breach 2 rfl) rfl (fun hc11 => ?_) (fun hc11 => ?_)
  · refine g_iconst (v := (0 : Int32)) (dk D_X11_breach 5 rfl) rfl ?_
    refine g_istore_n (L' := [(0, vA (a0 + 1)), (1, vI x1), (2, vI (0 : Int32))]) (dk D_X11_breach 6 rfl) (Nat.le_of_ble_eq_true rfl) rfl ?_
    refine g_iconst (v := (0 : Int32)) (dk D_X11_breach 7 rfl) rfl ?_
    refine g_istore_n (L' := [(0, vA (a0 + 1)), (1, vI x1), (2, vI (0 : Int32)), (3, vI (0 : Int32))]) (dk D_X11_breach 8 rfl) (Nat.le_of_ble_eq_true rfl) rfl ?_
    exact hl14 fu (0 : Int32) (0 : Int32) trivial
  · refine g_bipush (v := ((-2) : Int32)) (dk D_X11_breach 3 rfl) rfl ?_
    exact g_ireturn rfl rfl Sx.rf rfl (by decide) (by decide) (dk D_X11_breach 4 rfl)
theorem c_X11_breach {E : EV} (fu : Nat) (S0 : Sk) (I0 : II) (a0 : Nat) (x1 : Int32) (r : Int32) (h : f_X11_breach fu S0 I0 a0 x1 = some r) (ht0 : tyO S0 11 a0) : MX E yX11_breach i_X11_breach S0 I0 [vA (a0 + 1), vI x1] (po_X11_breach S0 I0 r) :=
  MX.of h (by decide) rfl rfl (Nat.le_of_ble_eq_true rfl) (gg_X11_breach fu S0 I0 a0 x1 ht0)
theorem fl_RX11_249 : FL RX11 249 11 22 := ⟨RX11, TX11, 57, rfl, by decide, rfl, by decide, (gm 1000 (by decide +kernel) (by decide +kernel)), inG11⟩
def tb_X11_noTrip : List (Nat × Instr × Nat) := [(0, .iload_n 1, 1), (1, .i2l, 1), (2, .lconst 0, 1), (3, .aload_n 0, 1), (4, .getfield 249, 3), (7, .i2l, 1), (8, .lconst 1, 1), (9, .lsub, 1), (10, .invokestatic 132, 3), (13, .ifCond .ne 7, 3), (16, .iconst 1, 1), (17, .goto 4, 3), (20, .iconst 0, 1), (21, .ireturn, 1)]
def i_X11_noTrip : MI := (RX11, cX11_noTrip, 2, (some .boolean), "noTrip", { frames := 1, cells := 0, slots := 0, locals := 25 })
theorem D_X11_noTrip : tbOK (i_X11_noTrip).2.1 tb_X11_noTrip := by show ∀ q ∈ tb_X11_noTrip, decode cX11_noTrip q.1 = .ok (q.2.1, q.2.2); decide +kernel
def po_X11_noTrip (S : Sk) (I : II) (r : Int32) : Option LV × Sk × II := (some (vI r), S, I)
def f_X11_noTrip (fu : Nat) (S : Sk) (I : II) (a0 : Nat) (x1 : Int32) : Option (Int32) :=
  if (t_X11_in x1.toInt64 (0 : Int64) ((((I a0 22)).toInt64) - (1 : Int64))) = 0 then some ((1 : Int32)) else some ((0 : Int32))
set_option maxRecDepth 100000 in
set_option maxHeartbeats 4000000 in
theorem gg_X11_noTrip {E : EV} (fu : Nat) (S0 : Sk) (I0 : II) (a0 : Nat) (x1 : Int32) (ht0 : tyO S0 11 a0) : GG E i_X11_noTrip (enM E i_X11_noTrip S0 (po_X11_noTrip S0 I0)) S0 I0 (0, 0) 0 [(0, vA (a0 + 1)), (1, vI x1)] [] (f_X11_noTrip fu S0 I0 a0 x1) := by
  unfold f_X11_noTrip
  refine g_iload_n (dk D_X11_noTrip 0 rfl) rfl ?_
  refine g_i2l (dk D_X11_noTrip 1 rfl) ?_
  refine g_lconst (v := (0 : Int64)) (dk D_X11_noTrip 2 rfl) rfl ?_
  refine g_aload_n (dk D_X11_noTrip 3 rfl) rfl ?_
  refine g_getIt fl_RX11_249 (by decide) ht0 (dk D_X11_noTrip 4 rfl) ?_
  refine g_i2l (dk D_X11_noTrip 5 rfl) ?_
  refine g_lconst (v := (1 : Int64)) (dk D_X11_noTrip 6 rfl) rfl ?_
  refine g_lsub (dk D_X11_noTrip 7 rfl) ?_
  refine h_callS (st := []) (c_X11_in (E := E) S0 I0 x1.toInt64 (0 : Int64) ((((I0 a0 22)).toInt64) - (1 : Int64))) cl_RX11_132 rfl rfl (by decide) (Nat.le_of_ble_eq_true rfl) (dk D_X11_noTrip 8 rfl) ?_
  refine g_if_ne (tgt := 20) (dk D_X11_noTrip 9 rfl) rfl (fun hc2 => ?_) (fun hc2 => ?_)
  · refine g_iconst (v := (0 : Int32)) (dk D_X11_noTrip 12 rfl) rfl ?_
    exact g_zreturn rfl rfl (Or.inl rfl) Sx.rf rfl (by decide) (by decide) (dk D_X11_noTrip 13 rfl)
  · refine g_iconst (v := (1 : Int32)) (dk D_X11_noTrip 10 rfl) rfl ?_
    refine g_goto (tgt := 21) (dk D_X11_noTrip 11 rfl) rfl ?_
    exact g_zreturn rfl rfl (Or.inr rfl) Sx.rf rfl (by decide) (by decide) (dk D_X11_noTrip 13 rfl)
def t_X11_noTrip (I : II) (a0 : Nat) (x1 : Int32) : Int32 :=
  if (t_X11_in x1.toInt64 (0 : Int64) ((((I a0 22)).toInt64) - (1 : Int64))) = 0 then (1 : Int32) else (0 : Int32)
theorem ft_X11_noTrip (fu : Nat) (S : Sk) (I0 : II) (a0 : Nat) (x1 : Int32) : f_X11_noTrip fu S I0 a0 x1 = some (t_X11_noTrip I0 a0 x1) := by
  simp only [f_X11_noTrip, t_X11_noTrip, lt, apply_ite some]
theorem z_X11_noTrip (I : II) (a0 : Nat) (x1 : Int32) : t_X11_noTrip I a0 x1 = 0 ∨ t_X11_noTrip I a0 x1 = 1 := by
  unfold t_X11_noTrip
  (repeat' split) <;> first | exact Or.inl rfl | exact Or.inr rfl
theorem c_X11_noTrip {E : EV} (S0 : Sk) (I0 : II) (a0 : Nat) (x1 : Int32) (ht0 : tyO S0 11 a0) : MX E yX11_noTrip i_X11_noTrip S0 I0 [vA (a0 + 1), vI x1] (po_X11_noTrip S0 I0 (t_X11_noTrip I0 a0 x1)) :=
  MX.of (ft_X11_noTrip 0 S0 I0 a0 x1) (by decide) rfl rfl (Nat.le_of_ble_eq_true rfl) (gg_X11_noTrip 0 S0 I0 a0 x1 ht0)
theorem fp_11_22 : FP 11 22 (tyX11 22) false := ⟨RX11, TX11, 57, tyX11, rfl, tyX11_ok, nmX11, rfl, rfl, rfl⟩
def tb_X11_trip : List (Nat × Instr × Nat) := [(0, .aload_n 0, 1), (1, .iload_n 1, 1), (2, .invokevirtual 164, 3), (5, .ifCond .ne 11, 3), (8, .aload_n 0, 1), (9, .iload_n 2, 1), (10, .invokevirtual 164, 3), (13, .ifCond .eq 5, 3), (16, .iconst (-1), 1), (17, .ireturn, 1), (18, .iload_n 3, 1), (19, .i2l, 1), (20, .lconst 0, 1), (21, .ldc2_w 178, 3), (24, .invokestatic 132, 3), (27, .ifCond .eq 29, 3), (30, .iload 4, 2), (32, .i2l, 1), (33, .lconst 0, 1), (34, .ldc2_w 188, 3), (37, .invokestatic 132, 3), (40, .ifCond .eq 16, 3), (43, .iload 5, 2), (45, .i2l, 1), (46, .lconst 0, 1), (47, .ldc2_w 252, 3), (50, .invokestatic 132, 3), (53, .ifCond .ne 6, 3), (56, .bipush (-2), 2), (58, .ireturn, 1), (59, .aload_n 0, 1), (60, .getfield 249, 3), (63, .bipush 6, 2), (65, .if_icmp .ne 6, 3), (68, .bipush (-4), 2), (70, .ireturn, 1), (71, .aload_n 0, 1), (72, .getfield 61, 3), (75, .aload_n 0, 1), (76, .getfield 249, 3), (79, .iload_n 1, 1), (80, .iastore, 1), (81, .aload_n 0, 1), (82, .getfield 64, 3), (85, .aload_n 0, 1), (86, .getfield 249, 3), (89, .iload_n 2, 1), (90, .iastore, 1), (91, .aload_n 0, 1), (92, .getfield 67, 3), (95, .aload_n 0, 1), (96, .getfield 249, 3), (99, .iload_n 3, 1), (100, .iastore, 1), (101, .aload_n 0, 1), (102, .getfield 70, 3), (105, .aload_n 0, 1), (106, .getfield 249, 3), (109, .iload 4, 2), (111, .iastore, 1), (112, .aload_n 0, 1), (113, .getfield 73, 3), (116, .aload_n 0, 1), (117, .getfield 249, 3), (120, .iload 5, 2), (122, .iastore, 1), (123, .aload_n 0, 1), (124, .dup, 1), (125, .getfield 249, 3), (128, .iconst 1, 1), (129, .iadd, 1), (130, .putfield 249, 3), (133, .aload_n 0, 1), (134, .getfield 249, 3), (137, .iconst 1, 1), (138, .isub, 1), (139, .ireturn, 1)]
def i_X11_trip : MI := (RX11, cX11_trip, 6, (some .int), "trip", { frames := 2, cells := 0, slots := 0, locals := 46 })
theorem D_X11_trip : tbOK (i_X11_trip).2.1 tb_X11_trip := by show ∀ q ∈ tb_X11_trip, decode cX11_trip q.1 = .ok (q.2.1, q.2.2); decide +kernel
def po_X11_trip (S : Sk) (I : II) (r : Int32 × II) : Option LV × Sk × II := (some (vI r.1), S, r.2)
def f_X11_trip (fu : Nat) (S : Sk) (I : II) (a0 : Nat) (x1 : Int32) (x2 : Int32) (x3 : Int32) (x4 : Int32) (x5 : Int32) : Option (Int32 × II) :=
  if (t_X11_noStop I a0 x1) = 0 then if (t_X11_noStop I a0 x2) = 0 then if (t_X11_in x3.toInt64 (0 : Int64) (1439 : Int64)) = 0 then some ((((-2) : Int32), I)) else if (t_X11_in x4.toInt64 (0 : Int64) (30 : Int64)) = 0 then some ((((-2) : Int32), I)) else if (t_X11_in x5.toInt64 (0 : Int64) (3 : Int64)) = 0 then some ((((-2) : Int32), I)) else if (I a0 22) = (6 : Int32) then some ((((-4) : Int32), I)) else gd (inb S (S.1 a0 23) (I a0 22)) (lt (wr I (S.1 a0 23) (I a0 22) x1) fun I14 => (gd (inb S (S.1 a0 24) (I14 a0 22)) (lt (wr I14 (S.1 a0 24) (I14 a0 22) x2) fun I17 => (gd (inb S (S.1 a0 25) (I17 a0 22)) (lt (wr I17 (S.1 a0 25) (I17 a0 22) x3) fun I20 => (gd (inb S (S.1 a0 26) (I20 a0 22)) (lt (wr I20 (S.1 a0 26) (I20 a0 22) x4) fun I23 => (gd (inb S (S.1 a0 27) (I23 a0 22)) (lt (wr I23 (S.1 a0 27) (I23 a0 22) x5) fun I26 => (lt (upI I26 a0 22 ((I26 a0 22) + (1 : Int32))) fun I27 => (some ((((I27 a0 22) - (1 : Int32)), I27))))))))))))) else some ((((-1) : Int32), I)) else some ((((-1) : Int32), I))
set_option maxRecDepth 100000 in
set_option maxHeartbeats 4000000 in
theorem gg_X11_trip {E : EV} (fu : Nat) (S0 : Sk) (I0 : II) (a0 : Nat) (x1 : Int32) (x2 : Int32) (x3 : Int32) (x4 : Int32) (x5 : Int32) (ht0 : tyO S0 11 a0) : GG E i_X11_trip (enM E i_X11_trip S0 (po_X11_trip S0 I0)) S0 I0 (0, 0) 0 [(0, vA (a0 + 1)), (1, vI x1), (2, vI x2), (3, vI x3), (4, vI x4), (5, vI x5)] [] (f_X11_trip fu S0 I0 a0 x1 x2 x3 x4 x5) := by
  unfold f_X11_trip
  refine g_aload_n (dk D_X11_trip 0 rfl) rfl ?_
  refine g_iload_n (dk D_X11_trip 1 rfl) rfl ?_
  refine h_callVt (st := []) (c_X11_noStop (E := E) S0 I0 a0 x1 (ht0)) cl_RX11_164 ht0 rfl rfl (by decide) (Nat.le_of_ble_eq_true rfl) (dk D_X11_trip 2 rfl) ?_
  refine g_if_ne (tgt := 16) (dk D_X11_trip 3 rfl) rfl (fun hc2 => ?_) (fun hc2 => ?_)
  · refine g_iconst (v := ((-1) : Int32)) (dk D_X11_trip 8 rfl) rfl ?_
    exact g_ireturn rfl rfl Sx.rf rfl (by decide) (by decide) (dk D_X11_trip 9 rfl)
  · refine g_aload_n (dk D_X11_trip 4 rfl) rfl ?_
    refine g_iload_n (dk D_X11_trip 5 rfl) rfl ?_
    refine h_callVt (st := []) (c_X11_noStop (E := E) S0 I0 a0 x2 (ht0)) cl_RX11_164 ht0 rfl rfl (by decide) (Nat.le_of_ble_eq_true rfl) (dk D_X11_trip 6 rfl) ?_
    refine g_if_eq (tgt := 18) (dk D_X11_trip 7 rfl) rfl (fun hc4 => ?_) (fun hc4 => ?_)
    · refine g_iload_n (dk D_X11_trip 10 rfl) rfl ?_
      refine g_i2l (dk D_X11_trip 11 rfl) ?_
      refine g_lconst (v := (0 : Int64)) (dk D_X11_trip 12 rfl) rfl ?_
      refine g_ldc2 (dk D_X11_trip 13 rfl) lk_RX11_178 ?_
      refine h_callS (st := []) (c_X11_in (E := E) S0 I0 x3.toInt64 (0 : Int64) (1439 : Int64)) cl_RX11_132 rfl rfl (by decide) (Nat.le_of_ble_eq_true rfl) (dk D_X11_trip 14 rfl) ?_
      refine g_if_eq (tgt := 56) (dk D_X11_trip 15 rfl) rfl (fun hc6 => ?_) (fun hc6 => ?_)
      · refine g_bipush (v := ((-2) : Int32)) (dk D_X11_trip 28 rfl) rfl ?_
        exact g_ireturn rfl rfl Sx.rf rfl (by decide) (by decide) (dk D_X11_trip 29 rfl)
      · refine g_iload (dk D_X11_trip 16 rfl) rfl ?_
        refine g_i2l (dk D_X11_trip 17 rfl) ?_
        refine g_lconst (v := (0 : Int64)) (dk D_X11_trip 18 rfl) rfl ?_
        refine g_ldc2 (dk D_X11_trip 19 rfl) lk_RX11_188 ?_
        refine h_callS (st := []) (c_X11_in (E := E) S0 I0 x4.toInt64 (0 : Int64) (30 : Int64)) cl_RX11_132 rfl rfl (by decide) (Nat.le_of_ble_eq_true rfl) (dk D_X11_trip 20 rfl) ?_
        refine g_if_eq (tgt := 56) (dk D_X11_trip 21 rfl) rfl (fun hc8 => ?_) (fun hc8 => ?_)
        · refine g_bipush (v := ((-2) : Int32)) (dk D_X11_trip 28 rfl) rfl ?_
          exact g_ireturn rfl rfl Sx.rf rfl (by decide) (by decide) (dk D_X11_trip 29 rfl)
        · refine g_iload (dk D_X11_trip 22 rfl) rfl ?_
          refine g_i2l (dk D_X11_trip 23 rfl) ?_
          refine g_lconst (v := (0 : Int64)) (dk D_X11_trip 24 rfl) rfl ?_
          refine g_ldc2 (dk D_X11_trip 25 rfl) lk_RX11_252 ?_
          refine h_callS (st := []) (c_X11_in (E := E) S0 I0 x5.toInt64 (0 : Int64) (3 : Int64)) cl_RX11_132 rfl rfl (by decide) (Nat.le_of_ble_eq_true rfl) (dk D_X11_trip 26 rfl) ?_
          refine g_if_ne (tgt := 59) (dk D_X11_trip 27 rfl) rfl (fun hc10 => ?_) (fun hc10 => ?_)
          · refine g_aload_n (dk D_X11_trip 30 rfl) rfl ?_
            refine g_getIt fl_RX11_249 (by decide) ht0 (dk D_X11_trip 31 rfl) ?_
            refine g_bipush (v := (6 : Int32)) (dk D_X11_trip 32 rfl) rfl ?_
            refine g_icmp_ne (tgt := 71) (dk D_X11_trip 33 rfl) rfl (fun hc11 => ?_) (fun hc11 => ?_)
            · refine g_aload_n (dk D_X11_trip 36 rfl) rfl ?_
              refine g_getAt (t := 100) fl_RX11_61 rfl ht0 (dk D_X11_trip 37 rfl) (fun ht12 => ?_)
              refine g_aload_n (dk D_X11_trip 38 rfl) rfl ?_
              refine g_getIt fl_RX11_249 (by decide) ht0 (dk D_X11_trip 39 rfl) ?_
              refine g_iload_n (dk D_X11_trip 40 rfl) rfl ?_
              refine g_gd (fun hi13 => ?_)
              refine g_iastore ht12 hi13 (dk D_X11_trip 41 rfl) ?_
              refine g_ltI (fun I14 eI14 => ?_)
              refine g_aload_n (dk D_X11_trip 42 rfl) rfl ?_
              refine g_getAt (t := 100) fl_RX11_64 rfl ht0 (dk D_X11_trip 43 rfl) (fun ht15 => ?_)
              refine g_aload_n (dk D_X11_trip 44 rfl) rfl ?_
              refine g_getIt fl_RX11_249 (by decide) ht0 (dk D_X11_trip 45 rfl) ?_
              refine g_iload_n (dk D_X11_trip 46 rfl) rfl ?_
              refine g_gd (fun hi16 => ?_)
              refine g_iastore ht15 hi16 (dk D_X11_trip 47 rfl) ?_
              refine g_ltI (fun I17 eI17 => ?_)
              refine g_aload_n (dk D_X11_trip 48 rfl) rfl ?_
              refine g_getAt (t := 100) fl_RX11_67 rfl ht0 (dk D_X11_trip 49 rfl) (fun ht18 => ?_)
              refine g_aload_n (dk D_X11_trip 50 rfl) rfl ?_
              refine g_getIt fl_RX11_249 (by decide) ht0 (dk D_X11_trip 51 rfl) ?_
              refine g_iload_n (dk D_X11_trip 52 rfl) rfl ?_
              refine g_gd (fun hi19 => ?_)
              refine g_iastore ht18 hi19 (dk D_X11_trip 53 rfl) ?_
              refine g_ltI (fun I20 eI20 => ?_)
              refine g_aload_n (dk D_X11_trip 54 rfl) rfl ?_
              refine g_getAt (t := 100) fl_RX11_70 rfl ht0 (dk D_X11_trip 55 rfl) (fun ht21 => ?_)
              refine g_aload_n (dk D_X11_trip 56 rfl) rfl ?_
              refine g_getIt fl_RX11_249 (by decide) ht0 (dk D_X11_trip 57 rfl) ?_
              refine g_iload (dk D_X11_trip 58 rfl) rfl ?_
              refine g_gd (fun hi22 => ?_)
              refine g_iastore ht21 hi22 (dk D_X11_trip 59 rfl) ?_
              refine g_ltI (fun I23 eI23 => ?_)
              refine g_aload_n (dk D_X11_trip 60 rfl) rfl ?_
              refine g_getAt (t := 100) fl_RX11_73 rfl ht0 (dk D_X11_trip 61 rfl) (fun ht24 => ?_)
              refine g_aload_n (dk D_X11_trip 62 rfl) rfl ?_
              refine g_getIt fl_RX11_249 (by decide) ht0 (dk D_X11_trip 63 rfl) ?_
              refine g_iload (dk D_X11_trip 64 rfl) rfl ?_
              refine g_gd (fun hi25 => ?_)
              refine g_iastore ht24 hi25 (dk D_X11_trip 65 rfl) ?_
              refine g_ltI (fun I26 eI26 => ?_)
              refine g_aload_n (dk D_X11_trip 66 rfl) rfl ?_
              refine g_dup (dk D_X11_trip 67 rfl) rfl ?_
              refine g_getIt fl_RX11_249 (by decide) ht0 (dk D_X11_trip 68 rfl) ?_
              refine g_iconst (v := (1 : Int32)) (dk D_X11_trip 69 rfl) rfl ?_
              refine g_iadd (dk D_X11_trip 70 rfl) ?_
              refine g_putIt fl_RX11_249 fp_11_22 (fun h => (by cases h)) (by decide) rfl rfl ht0 (dk D_X11_trip 71 rfl) ?_
              refine g_ltI (fun I27 eI27 => ?_)
              refine g_aload_n (dk D_X11_trip 72 rfl) rfl ?_
              refine g_getIt fl_RX11_249 (by decide) ht0 (dk D_X11_trip 73 rfl) ?_
              refine g_iconst (v := (1 : Int32)) (dk D_X11_trip 74 rfl) rfl ?_
              refine g_isub (dk D_X11_trip 75 rfl) ?_
              exact g_ireturn rfl rfl Sx.rf rfl (by decide) (by decide) (dk D_X11_trip 76 rfl)
            · refine g_bipush (v := ((-4) : Int32)) (dk D_X11_trip 34 rfl) rfl ?_
              exact g_ireturn rfl rfl Sx.rf rfl (by decide) (by decide) (dk D_X11_trip 35 rfl)
          · refine g_bipush (v := ((-2) : Int32)) (dk D_X11_trip 28 rfl) rfl ?_
            exact g_ireturn rfl rfl Sx.rf rfl (by decide) (by decide) (dk D_X11_trip 29 rfl)
    · refine g_iconst (v := ((-1) : Int32)) (dk D_X11_trip 8 rfl) rfl ?_
      exact g_ireturn rfl rfl Sx.rf rfl (by decide) (by decide) (dk D_X11_trip 9 rfl)
theorem c_X11_trip {E : EV} (fu : Nat) (S0 : Sk) (I0 : II) (a0 : Nat) (x1 : Int32) (x2 : Int32) (x3 : Int32) (x4 : Int32) (x5 : Int32) (r : Int32 × II) (h : f_X11_trip fu S0 I0 a0 x1 x2 x3 x4 x5 = some r) (ht0 : tyO S0 11 a0) : MX E yX11_trip i_X11_trip S0 I0 [vA (a0 + 1), vI x1, vI x2, vI x3, vI x4, vI x5] (po_X11_trip S0 I0 r) :=
  MX.of h (by decide) rfl rfl (Nat.le_of_ble_eq_true rfl) (gg_X11_trip fu S0 I0 a0 x1 x2 x3 x4 x5 ht0)
def tb_X11_placeOf : List (Nat × Instr × Nat) := [(0, .sipush 496, 3), (3, .iload_n 0, 1), (4, .imul, 1), (5, .bipush 16, 2), (7, .iload_n 1, 1), (8, .imul, 1), (9, .iadd, 1), (10, .iload_n 2, 1), (11, .iadd, 1), (12, .ireturn, 1)]
def i_X11_placeOf : MI := (RX11, cX11_placeOf, 3, (some .int), "placeOf", { frames := 0, cells := 0, slots := 0, locals := 0 })
theorem D_X11_placeOf : tbOK (i_X11_placeOf).2.1 tb_X11_placeOf := by show ∀ q ∈ tb_X11_placeOf, decode cX11_placeOf q.1 = .ok (q.2.1, q.2.2); decide +kernel
def po_X11_placeOf (S : Sk) (I : II) (r : Int32) : Option LV × Sk × II := (some (vI r), S, I)
def f_X11_placeOf (fu : Nat) (S : Sk) (I : II) (x0 : Int32) (x1 : Int32) (x2 : Int32) : Option (Int32) :=
  some (((((496 : Int32) * x0) + ((16 : Int32) * x1)) + x2))
set_option maxRecDepth 100000 in
set_option maxHeartbeats 4000000 in
theorem gg_X11_placeOf {E : EV} (fu : Nat) (S0 : Sk) (I0 : II) (x0 : Int32) (x1 : Int32) (x2 : Int32) : GG E i_X11_placeOf (enM E i_X11_placeOf S0 (po_X11_placeOf S0 I0)) S0 I0 (0, 0) 0 [(0, vI x0), (1, vI x1), (2, vI x2)] [] (f_X11_placeOf fu S0 I0 x0 x1 x2) := by
  unfold f_X11_placeOf
  refine g_sipush (v := (496 : Int32)) (dk D_X11_placeOf 0 rfl) rfl ?_
  refine g_iload_n (dk D_X11_placeOf 1 rfl) rfl ?_
  refine g_imul (dk D_X11_placeOf 2 rfl) ?_
  refine g_bipush (v := (16 : Int32)) (dk D_X11_placeOf 3 rfl) rfl ?_
  refine g_iload_n (dk D_X11_placeOf 4 rfl) rfl ?_
  refine g_imul (dk D_X11_placeOf 5 rfl) ?_
  refine g_iadd (dk D_X11_placeOf 6 rfl) ?_
  refine g_iload_n (dk D_X11_placeOf 7 rfl) rfl ?_
  refine g_iadd (dk D_X11_placeOf 8 rfl) ?_
  exact g_ireturn rfl rfl Sx.rf rfl (by decide) (by decide) (dk D_X11_placeOf 9 rfl)
def t_X11_placeOf (x0 : Int32) (x1 : Int32) (x2 : Int32) : Int32 :=
  ((((496 : Int32) * x0) + ((16 : Int32) * x1)) + x2)
theorem ft_X11_placeOf (fu : Nat) (S : Sk) (I0 : II) (x0 : Int32) (x1 : Int32) (x2 : Int32) : f_X11_placeOf fu S I0 x0 x1 x2 = some (t_X11_placeOf x0 x1 x2) := by
  simp only [f_X11_placeOf, t_X11_placeOf, lt, apply_ite some]
theorem c_X11_placeOf {E : EV} (S0 : Sk) (I0 : II) (x0 : Int32) (x1 : Int32) (x2 : Int32) : MX E yX11_placeOf i_X11_placeOf S0 I0 [vI x0, vI x1, vI x2] (po_X11_placeOf S0 I0 (t_X11_placeOf x0 x1 x2)) :=
  MX.of (ft_X11_placeOf 0 S0 I0 x0 x1 x2) (by decide) rfl rfl (Nat.le_of_ble_eq_true rfl) (gg_X11_placeOf 0 S0 I0 x0 x1 x2)
theorem cl_RX11_254 : CS0 RX11 254 yX11_placeOf i_X11_placeOf 3 := ⟨⟨(gm 1318 (by decide +kernel) (by decide +kernel)), (gm 72 (by decide +kernel) (by decide +kernel)), (gm 1320 (by decide +kernel) (by decide +kernel)), by decide +kernel, by decide +kernel, by decide +kernel⟩, (gm 1319 (by decide +kernel) (by decide +kernel))⟩
theorem cl_RX11_257 : CS0 RX11 257 yX11_lesser i_X11_lesser 2 := ⟨⟨(gm 1321 (by decide +kernel) (by decide +kernel)), (gm 72 (by decide +kernel) (by decide +kernel)), (gm 1323 (by decide +kernel) (by decide +kernel)), by decide +kernel, by decide +kernel, by decide +kernel⟩, (gm 1322 (by decide +kernel) (by decide +kernel))⟩
def tb_X11_walkFrom : List (Nat × Instr × Nat) := [(0, .iconst 0, 1), (1, .istore_n 3, 1), (2, .iload_n 3, 1), (3, .iload_n 2, 1), (4, .if_icmp .gt 118, 3), (7, .iconst 0, 1), (8, .istore 4, 2), (10, .iload 4, 2), (12, .aload_n 0, 1), (13, .getfield 156, 3), (16, .if_icmp .ge 100, 3), (19, .aload_n 0, 1), (20, .getfield 79, 3), (23, .bipush 16, 2), (25, .iload_n 3, 1), (26, .imul, 1), (27, .iload 4, 2), (29, .iadd, 1), (30, .iaload, 1), (31, .istore 5, 2), (33, .iconst 0, 1), (34, .istore 6, 2), (36, .iload 6, 2), (38, .aload_n 0, 1), (39, .getfield 156, 3), (42, .if_icmp .ge 68, 3), (45, .iload 5, 2), (47, .ldc 216, 2), (49, .if_icmp .ge 61, 3), (52, .aload_n 0, 1), (53, .iload 4, 2), (55, .iload 6, 2), (57, .invokevirtual 168, 3), (60, .istore 7, 2), (62, .iload_n 3, 1), (63, .iload 7, 2), (65, .iadd, 1), (66, .iload_n 2, 1), (67, .if_icmp .gt 37, 3), (70, .iload_n 1, 1), (71, .iload_n 3, 1), (72, .iload 7, 2), (74, .iadd, 1), (75, .iload 6, 2), (77, .invokestatic 254, 3), (80, .istore 8, 2), (82, .aload_n 0, 1), (83, .getfield 76, 3), (86, .iload 8, 2), (88, .aload_n 0, 1), (89, .getfield 76, 3), (92, .iload 8, 2), (94, .iaload, 1), (95, .iload 5, 2), (97, .iload 7, 2), (99, .iadd, 1), (100, .invokestatic 257, 3), (103, .iastore, 1), (104, .iinc 6 1, 3), (107, .goto (-71), 3), (110, .iinc 4 1, 3), (113, .goto (-103), 3), (116, .iinc 3 1, 3), (119, .goto (-117), 3), (122, .return_, 1)]
def i_X11_walkFrom : MI := (RX11, cX11_walkFrom, 9, none, "walkFrom", { frames := 2, cells := 0, slots := 0, locals := 42 })
theorem D_X11_walkFrom : tbOK (i_X11_walkFrom).2.1 tb_X11_walkFrom := by show ∀ q ∈ tb_X11_walkFrom, decode cX11_walkFrom q.1 = .ok (q.2.1, q.2.2); decide +kernel
def po_X11_walkFrom (S : Sk) (I : II) (r : II) : Option LV × Sk × II := (none, S, r)
def jn_X11_walkFrom_110 (fu : Nat) (S : Sk) (I : II) (self2 : Int32 → II → Option (II)) (self10 : Int32 → II → Option (II)) (a0 : Nat) (x1 : Int32) (x2 : Int32) (x3 : Int32) (x4 : Int32) : Option (II) :=
  self10 (x4 + (1 : Int32)) I
def jn_X11_walkFrom_104 (fu : Nat) (S : Sk) (I : II) (self2 : Int32 → II → Option (II)) (self10 : Int32 → II → Option (II)) (self36 : Int32 → II → Option (II)) (a0 : Nat) (x1 : Int32) (x2 : Int32) (x3 : Int32) (x4 : Int32) (x5 : Int32) (x6 : Int32) : Option (II) :=
  self36 (x6 + (1 : Int32)) I
def lp_X11_walkFrom_36 (fu : Nat) (S : Sk) (self2 : Int32 → II → Option (II)) (self10 : Int32 → II → Option (II)) (a0 : Nat) (x1 : Int32) (x2 : Int32) (x3 : Int32) (x4 : Int32) (x5 : Int32) (self36 : Int32 → II → Option (II)) (x6 : Int32) (I : II) : Option (II) :=
  if (I a0 1) ≤ x6 then jn_X11_walkFrom_110 fu S I self2 self10 a0 x1 x2 x3 x4 else if (1000000 : Int32) ≤ x5 then jn_X11_walkFrom_110 fu S I self2 self10 a0 x1 x2 x3 x4 else (f_X11_farOf fu S I a0 x4 x6).bind fun q3 => (if x2 < (x3 + q3) then jn_X11_walkFrom_104 fu S I self2 self10 self36 a0 x1 x2 x3 x4 x5 x6 else lt (t_X11_placeOf x1 (x3 + q3) x6) fun x8_8 => (gd (inb S (S.1 a0 29) x8_8) (lt (wr I (S.1 a0 29) x8_8 (t_X11_lesser (rd I (S.1 a0 29) x8_8) (x5 + q3))) fun I13 => (jn_X11_walkFrom_104 fu S I13 self2 self10 self36 a0 x1 x2 x3 x4 x5 x6))))
def lp_X11_walkFrom_10 (fu : Nat) (S : Sk) (self2 : Int32 → II → Option (II)) (a0 : Nat) (x1 : Int32) (x2 : Int32) (x3 : Int32) (self10 : Int32 → II → Option (II)) (x4 : Int32) (I : II) : Option (II) :=
  if (I a0 1) ≤ x4 then self2 (x3 + (1 : Int32)) I else gd (inb S (S.1 a0 30) (((16 : Int32) * x3) + x4)) (lt (rd I (S.1 a0 30) (((16 : Int32) * x3) + x4)) fun x5_17 => (fix2 (lp_X11_walkFrom_36 fu S self2 self10 a0 x1 x2 x3 x4 x5_17) fu (0 : Int32) I))
def lp_X11_walkFrom_2 (fu : Nat) (S : Sk) (a0 : Nat) (x1 : Int32) (x2 : Int32) (self2 : Int32 → II → Option (II)) (x3 : Int32) (I : II) : Option (II) :=
  if x2 < x3 then some (I) else fix2 (lp_X11_walkFrom_10 fu S self2 a0 x1 x2 x3) fu (0 : Int32) I
def f_X11_walkFrom (fu : Nat) (S : Sk) (I : II) (a0 : Nat) (x1 : Int32) (x2 : Int32) : Option (II) :=
  fix2 (lp_X11_walkFrom_2 fu S a0 x1 x2) fu (0 : Int32) I
set_option maxRecDepth 100000 in
set_option maxHeartbeats 4000000 in
theorem gg_X11_walkFrom {E : EV} (fu : Nat) (S0 : Sk) (I0 : II) (a0 : Nat) (x1 : Int32) (x2 : Int32) (ht0 : tyO S0 11 a0) : GG E i_X11_walkFrom (enM E i_X11_walkFrom S0 (po_X11_walkFrom S0 I0)) S0 I0 (0, 0) 0 [(0, vA (a0 + 1)), (1, vI x1), (2, vI x2)] [] (f_X11_walkFrom fu S0 I0 a0 x1 x2) := by
  have hl2 : ∀ (nn : Nat) (x3 : Int32) (I : II), True → GG E i_X11_walkFrom (enM E i_X11_walkFrom S0 (po_X11_walkFrom S0 I0)) S0 I (0, 0) 2 [(0, vA (a0 + 1)), (1, vI x1), (2, vI x2), (3, vI x3)] [] (fix2 (lp_X11_walkFrom_2 fu S0 a0 x1 x2) nn x3 I) := by
    refine g_fix2 (fun _ _ => S0) (fun x3 I => I) (fun x3 I => [(0, vA (a0 + 1)), (1, vI x1), (2, vI x2), (3, vI x3)]) (fun x3 I => True) ?_
    intro self2 hself2 x3 I hinv
    have hl10 : ∀ (x3 : Int32) (nn : Nat) (x4 : Int32) (I : II), True → GG E i_X11_walkFrom (enM E i_X11_walkFrom S0 (po_X11_walkFrom S0 I0)) S0 I (0, 0) 10 [(0, vA (a0 + 1)), (1, vI x1), (2, vI x2), (3, vI x3), (4, vI x4)] [] (fix2 (lp_X11_walkFrom_10 fu S0 self2 a0 x1 x2 x3) nn x4 I) := by
      intro x3 
      refine g_fix2 (fun _ _ => S0) (fun x4 I => I) (fun x4 I => [(0, vA (a0 + 1)), (1, vI x1), (2, vI x2), (3, vI x3), (4, vI x4)]) (fun x4 I => True) ?_
      intro self10 hself10 x4 I hinv
      have hj110 : ∀ (I : II) (x4 : Int32), GG E i_X11_walkFrom (enM E i_X11_walkFrom S0 (po_X11_walkFrom S0 I0)) S0 I (0, 0) 110 [(0, vA (a0 + 1)), (1, vI x1), (2, vI x2), (3, vI x3), (4, vI x4)] [] (jn_X11_walkFrom_110 fu S0 I self2 self10 a0 x1 x2 x3 x4) := by
        intro I x4 
        unfold jn_X11_walkFrom_110
        refine g_iinc (v := (1 : Int32)) (L' := [(0, vA (a0 + 1)), (1, vI x1), (2, vI x2), (3, vI x3), (4, vI (x4 + (1 : Int32)))]) (dk D_X11_walkFrom 60 rfl) rfl rfl (Nat.le_of_ble_eq_true rfl) rfl ?_
        refine g_goto (tgt := 10) (dk D_X11_walkFrom 61 rfl) rfl ?_
        exact hself10 (x4 + (1 : Int32)) I trivial
      have hl36 : ∀ (x4 : Int32) (x5 : Int32) (nn : Nat) (x6 : Int32) (I : II), True → GG E i_X11_walkFrom (enM E i_X11_walkFrom S0 (po_X11_walkFrom S0 I0)) S0 I (0, 0) 36 [(0, vA (a0 + 1)), (1, vI x1), (2, vI x2), (3, vI x3), (4, vI x4), (5, vI x5), (6, vI x6)] [] (fix2 (lp_X11_walkFrom_36 fu S0 self2 self10 a0 x1 x2 x3 x4 x5) nn x6 I) := by
        intro x4 x5 
        refine g_fix2 (fun _ _ => S0) (fun x6 I => I) (fun x6 I => [(0, vA (a0 + 1)), (1, vI x1), (2, vI x2), (3, vI x3), (4, vI x4), (5, vI x5), (6, vI x6)]) (fun x6 I => True) ?_
        intro self36 hself36 x6 I hinv
        have hj104 : ∀ (I : II) (x6 : Int32), GG E i_X11_walkFrom (enM E i_X11_walkFrom S0 (po_X11_walkFrom S0 I0)) S0 I (0, 0) 104 [(0, vA (a0 + 1)), (1, vI x1), (2, vI x2), (3, vI x3), (4, vI x4), (5, vI x5), (6, vI x6)] [] (jn_X11_walkFrom_104 fu S0 I self2 self10 self36 a0 x1 x2 x3 x4 x5 x6) := by
          intro I x6 
          unfold jn_X11_walkFrom_104
          refine g_iinc (v := (1 : Int32)) (L' := [(0, vA (a0 + 1)), (1, vI x1), (2, vI x2), (3, vI x3), (4, vI x4), (5, vI x5), (6, vI (x6 + (1 : Int32)))]) (dk D_X11_walkFrom 58 rfl) rfl rfl (Nat.le_of_ble_eq_true rfl) rfl ?_
          refine g_goto (tgt := 36) (dk D_X11_walkFrom 59 rfl) rfl ?_
          exact hself36 (x6 + (1 : Int32)) I trivial
        unfold lp_X11_walkFrom_36
        refine g_iload (dk D_X11_walkFrom 22 rfl) rfl ?_
        refine g_aload_n (dk D_X11_walkFrom 23 rfl) rfl ?_
        refine g_getIt fl_RX11_156 (by decide) ht0 (dk D_X11_walkFrom 24 rfl) ?_
        refine g_icmp_ge (tgt := 110) (dk D_X11_walkFrom 25 rfl) rfl (fun hc1 => ?_) (fun hc1 => ?_)
        · refine g_Lp [0, 1, 2, 3, 4] rfl ?_
          exact hj110 I x4
        · refine g_iload (dk D_X11_walkFrom 26 rfl) rfl ?_
          refine g_ldc (dk D_X11_walkFrom 27 rfl) lk_RX11_216 ?_
          refine g_icmp_ge (tgt := 110) (dk D_X11_walkFrom 28 rfl) rfl (fun hc2 => ?_) (fun hc2 => ?_)
          · refine g_Lp [0, 1, 2, 3, 4] rfl ?_
            exact hj110 I x4
          · refine g_aload_n (dk D_X11_walkFrom 29 rfl) rfl ?_
            refine g_iload (dk D_X11_walkFrom 30 rfl) rfl ?_
            refine g_iload (dk D_X11_walkFrom 31 rfl) rfl ?_
            refine g_bind (fun q3 hq4 => ?_)
            refine h_callVt (st := []) (c_X11_farOf (E := E) fu S0 I a0 x4 x6 q3 hq4 (ht0)) cl_RX11_168 ht0 rfl rfl (by decide) (Nat.le_of_ble_eq_true rfl) (dk D_X11_walkFrom 32 rfl) ?_
            refine g_istore (L' := [(0, vA (a0 + 1)), (1, vI x1), (2, vI x2), (3, vI x3), (4, vI x4), (5, vI x5), (6, vI x6), (7, vI q3)]) (dk D_X11_walkFrom 33 rfl) (Nat.le_of_ble_eq_true rfl) rfl ?_
            refine g_iload_n (dk D_X11_walkFrom 34 rfl) rfl ?_
            refine g_iload (dk D_X11_walkFrom 35 rfl) rfl ?_
            refine g_iadd (dk D_X11_walkFrom 36 rfl) ?_
            refine g_iload_n (dk D_X11_walkFrom 37 rfl) rfl ?_
            refine g_icmp_gt (tgt := 104) (dk D_X11_walkFrom 38 rfl) rfl (fun hc6 => ?_) (fun hc6 => ?_)
            · refine g_Lp [0, 1, 2, 3, 4, 5, 6] rfl ?_
              exact hj104 I x6
            · refine g_iload_n (dk D_X11_walkFrom 39 rfl) rfl ?_
              refine g_iload_n (dk D_X11_walkFrom 40 rfl) rfl ?_
              refine g_iload (dk D_X11_walkFrom 41 rfl) rfl ?_
              refine g_iadd (dk D_X11_walkFrom 42 rfl) ?_
              refine g_iload (dk D_X11_walkFrom 43 rfl) rfl ?_
              refine h_callS (st := []) (c_X11_placeOf (E := E) S0 I x1 (x3 + q3) x6) cl_RX11_254 rfl rfl (by decide) (Nat.le_of_ble_eq_true rfl) (dk D_X11_walkFrom 44 rfl) ?_
              refine g_ltV (fun x8_8 ex8_8 => ?_)
              refine g_istore (L' := [(0, vA (a0 + 1)), (1, vI x1), (2, vI x2), (3, vI x3), (4, vI x4), (5, vI x5), (6, vI x6), (7, vI q3), (8, vI x8_8)]) (dk D_X11_walkFrom 45 rfl) (Nat.le_of_ble_eq_true rfl) rfl ?_
              refine g_aload_n (dk D_X11_walkFrom 46 rfl) rfl ?_
              refine g_getAt (t := 100) fl_RX11_76 rfl ht0 (dk D_X11_walkFrom 47 rfl) (fun ht9 => ?_)
              refine g_iload (dk D_X11_walkFrom 48 rfl) rfl ?_
              refine g_aload_n (dk D_X11_walkFrom 49 rfl) rfl ?_
              refine g_getAt (t := 100) fl_RX11_76 rfl ht0 (dk D_X11_walkFrom 50 rfl) (fun ht10 => ?_)
              refine g_iload (dk D_X11_walkFrom 51 rfl) rfl ?_
              refine g_gd (fun hi11 => ?_)
              refine g_iaload ht9 hi11 (dk D_X11_walkFrom 52 rfl) ?_
              refine g_iload (dk D_X11_walkFrom 53 rfl) rfl ?_
              refine g_iload (dk D_X11_walkFrom 54 rfl) rfl ?_
              refine g_iadd (dk D_X11_walkFrom 55 rfl) ?_
              refine h_callS (st := [vI x8_8, vA (S0.1 a0 29)]) (c_X11_lesser (E := E) S0 I (rd I (S0.1 a0 29) x8_8) (x5 + q3)) cl_RX11_257 rfl rfl (by decide) (Nat.le_of_ble_eq_true rfl) (dk D_X11_walkFrom 56 rfl) ?_
              refine g_iastore ht9 hi11 (dk D_X11_walkFrom 57 rfl) ?_
              refine g_ltI (fun I13 eI13 => ?_)
              refine g_Lp [0, 1, 2, 3, 4, 5, 6] rfl ?_
              exact hj104 I13 x6
      unfold lp_X11_walkFrom_10
      refine g_iload (dk D_X11_walkFrom 7 rfl) rfl ?_
      refine g_aload_n (dk D_X11_walkFrom 8 rfl) rfl ?_
      refine g_getIt fl_RX11_156 (by decide) ht0 (dk D_X11_walkFrom 9 rfl) ?_
      refine g_icmp_ge (tgt := 116) (dk D_X11_walkFrom 10 rfl) rfl (fun hc14 => ?_) (fun hc14 => ?_)
      · refine g_iinc (v := (1 : Int32)) (L' := [(0, vA (a0 + 1)), (1, vI x1), (2, vI x2), (3, vI (x3 + (1 : Int32))), (4, vI x4)]) (dk D_X11_walkFrom 62 rfl) rfl rfl (Nat.le_of_ble_eq_true rfl) rfl ?_
        refine g_goto (tgt := 2) (dk D_X11_walkFrom 63 rfl) rfl ?_
        refine g_Lp [0, 1, 2, 3] rfl ?_
        exact hself2 (x3 + (1 : Int32)) I trivial
      · refine g_aload_n (dk D_X11_walkFrom 11 rfl) rfl ?_
        refine g_getAt (t := 100) fl_RX11_79 rfl ht0 (dk D_X11_walkFrom 12 rfl) (fun ht15 => ?_)
        refine g_bipush (v := (16 : Int32)) (dk D_X11_walkFrom 13 rfl) rfl ?_
        refine g_iload_n (dk D_X11_walkFrom 14 rfl) rfl ?_
        refine g_imul (dk D_X11_walkFrom 15 rfl) ?_
        refine g_iload (dk D_X11_walkFrom 16 rfl) rfl ?_
        refine g_iadd (dk D_X11_walkFrom 17 rfl) ?_
        refine g_gd (fun hi16 => ?_)
        refine g_iaload ht15 hi16 (dk D_X11_walkFrom 18 rfl) ?_
        refine g_ltV (fun x5_17 ex5_17 => ?_)
        refine g_istore (L' := [(0, vA (a0 + 1)), (1, vI x1), (2, vI x2), (3, vI x3), (4, vI x4), (5, vI x5_17)]) (dk D_X11_walkFrom 19 rfl) (Nat.le_of_ble_eq_true rfl) rfl ?_
        refine g_iconst (v := (0 : Int32)) (dk D_X11_walkFrom 20 rfl) rfl ?_
        refine g_istore (L' := [(0, vA (a0 + 1)), (1, vI x1), (2, vI x2), (3, vI x3), (4, vI x4), (5, vI x5_17), (6, vI (0 : Int32))]) (dk D_X11_walkFrom 21 rfl) (Nat.le_of_ble_eq_true rfl) rfl ?_
        exact hl36 x4 x5_17 fu (0 : Int32) I trivial
    unfold lp_X11_walkFrom_2
    refine g_iload_n (dk D_X11_walkFrom 2 rfl) rfl ?_
    refine g_iload_n (dk D_X11_walkFrom 3 rfl) rfl ?_
    refine g_icmp_gt (tgt := 122) (dk D_X11_walkFrom 4 rfl) rfl (fun hc18 => ?_) (fun hc18 => ?_)
    · exact g_return rfl rfl Sx.rf rfl (by decide) (by decide) (dk D_X11_walkFrom 64 rfl)
    · refine g_iconst (v := (0 : Int32)) (dk D_X11_walkFrom 5 rfl) rfl ?_
      refine g_istore (L' := [(0, vA (a0 + 1)), (1, vI x1), (2, vI x2), (3, vI x3), (4, vI (0 : Int32))]) (dk D_X11_walkFrom 6 rfl) (Nat.le_of_ble_eq_true rfl) rfl ?_
      exact hl10 x3 fu (0 : Int32) I trivial
  unfold f_X11_walkFrom
  refine g_iconst (v := (0 : Int32)) (dk D_X11_walkFrom 0 rfl) rfl ?_
  refine g_istore_n (L' := [(0, vA (a0 + 1)), (1, vI x1), (2, vI x2), (3, vI (0 : Int32))]) (dk D_X11_walkFrom 1 rfl) (Nat.le_of_ble_eq_true rfl) rfl ?_
  exact hl2 fu (0 : Int32) I0 trivial
theorem c_X11_walkFrom {E : EV} (fu : Nat) (S0 : Sk) (I0 : II) (a0 : Nat) (x1 : Int32) (x2 : Int32) (r : II) (h : f_X11_walkFrom fu S0 I0 a0 x1 x2 = some r) (ht0 : tyO S0 11 a0) : MX E yX11_walkFrom i_X11_walkFrom S0 I0 [vA (a0 + 1), vI x1, vI x2] (po_X11_walkFrom S0 I0 r) :=
  MX.of h (by decide) rfl rfl (Nat.le_of_ble_eq_true rfl) (gg_X11_walkFrom fu S0 I0 a0 x1 x2 ht0)
theorem fl_RX11_260 : FL RX11 260 11 28 := ⟨RX11, TX11, 57, rfl, by decide, rfl, by decide, (gm 1006 (by decide +kernel) (by decide +kernel)), inG11⟩
theorem cl_RX11_263 : CS0 RX11 263 yX11_hasBit i_X11_hasBit 2 := ⟨⟨(gm 1328 (by decide +kernel) (by decide +kernel)), (gm 72 (by decide +kernel) (by decide +kernel)), (gm 1330 (by decide +kernel) (by decide +kernel)), by decide +kernel, by decide +kernel, by decide +kernel⟩, (gm 1329 (by decide +kernel) (by decide +kernel))⟩
def tb_X11_rideFrom : List (Nat × Instr × Nat) := [(0, .iconst 0, 1), (1, .istore_n 3, 1), (2, .iload_n 3, 1), (3, .sipush 496, 3), (6, .if_icmp .ge 17, 3), (9, .aload_n 0, 1), (10, .getfield 79, 3), (13, .iload_n 3, 1), (14, .ldc 216, 2), (16, .iastore, 1), (17, .iinc 3 1, 3), (20, .goto (-18), 3), (23, .iconst 0, 1), (24, .istore_n 3, 1), (25, .iload_n 3, 1), (26, .aload_n 0, 1), (27, .getfield 172, 3), (30, .if_icmp .ge 200, 3), (33, .iconst 0, 1), (34, .istore 4, 2), (36, .iload 4, 2), (38, .iload_n 2, 1), (39, .if_icmp .gt 185, 3), (42, .aload_n 0, 1), (43, .getfield 260, 3), (46, .iload_n 3, 1), (47, .invokestatic 263, 3), (50, .ifCond .eq 174, 3), (53, .iconst 0, 1), (54, .istore 5, 2), (56, .iload 5, 2), (58, .aload_n 0, 1), (59, .getfield 19, 3), (62, .iload_n 3, 1), (63, .iaload, 1), (64, .iconst 1, 1), (65, .isub, 1), (66, .if_icmp .ge 152, 3), (69, .aload_n 0, 1), (70, .getfield 76, 3), (73, .iload_n 1, 1), (74, .iload 4, 2), (76, .aload_n 0, 1), (77, .getfield 22, 3), (80, .bipush 8, 2), (82, .iload_n 3, 1), (83, .imul, 1), (84, .iload 5, 2), (86, .iadd, 1), (87, .iaload, 1), (88, .invokestatic 254, 3), (91, .iaload, 1), (92, .istore 6, 2), (94, .iload 6, 2), (96, .ldc 216, 2), (98, .if_icmp .ge 15, 3), (101, .aload_n 0, 1), (102, .iload_n 3, 1), (103, .iload 5, 2), (105, .iload 6, 2), (107, .invokevirtual 219, 3), (110, .goto 5, 3), (113, .ldc 216, 2), (115, .istore 7, 2), (117, .iload 5, 2), (119, .iconst 1, 1), (120, .iadd, 1), (121, .istore 8, 2), (123, .iload 8, 2), (125, .aload_n 0, 1), (126, .getfield 19, 3), (129, .iload_n 3, 1), (130, .iaload, 1), (131, .if_icmp .ge 81, 3), (134, .iload 7, 2), (136, .ldc 216, 2), (138, .if_icmp .ge 74, 3), (141, .bipush 16, 2), (143, .iload 4, 2), (145, .imul, 1), (146, .aload_n 0, 1), (147, .getfield 22, 3), (150, .bipush 8, 2), (152, .iload_n 3, 1), (153, .imul, 1), (154, .iload 8, 2), (156, .iadd, 1), (157, .iaload, 1), (158, .iadd, 1), (159, .istore 9, 2), (161, .aload_n 0, 1), (162, .getfield 79, 3), (165, .iload 9, 2), (167, .aload_n 0, 1), (168, .getfield 79, 3), (171, .iload 9, 2), (173, .iaload, 1), (174, .iload 7, 2), (176, .aload_n 0, 1), (177, .getfield 25, 3), (180, .bipush 8, 2), (182, .iload_n 3, 1), (183, .imul, 1), (184, .iload 8, 2), (186, .iadd, 1), (187, .iaload, 1), (188, .iadd, 1), (189, .aload_n 0, 1), (190, .getfield 25, 3), (193, .bipush 8, 2), (195, .iload_n 3, 1), (196, .imul, 1), (197, .iload 5, 2), (199, .iadd, 1), (200, .iaload, 1), (201, .isub, 1), (202, .invokestatic 257, 3), (205, .iastore, 1), (206, .iinc 8 1, 3), (209, .goto (-86), 3), (212, .iinc 5 1, 3), (215, .goto (-159), 3), (218, .iinc 4 1, 3), (221, .goto (-185), 3), (224, .iinc 3 1, 3), (227, .goto (-202), 3), (230, .return_, 1)]
def i_X11_rideFrom : MI := (RX11, cX11_rideFrom, 10, none, "rideFrom", { frames := 2, cells := 0, slots := 0, locals := 46 })
theorem D_X11_rideFrom : tbOK (i_X11_rideFrom).2.1 tb_X11_rideFrom := by show ∀ q ∈ tb_X11_rideFrom, decode cX11_rideFrom q.1 = .ok (q.2.1, q.2.2); decide +kernel
def po_X11_rideFrom (S : Sk) (I : II) (r : II) : Option LV × Sk × II := (none, S, r)
def jn_X11_rideFrom_224 (fu : Nat) (S : Sk) (I : II) (self25 : Int32 → II → Option (II)) (a0 : Nat) (x1 : Int32) (x2 : Int32) (x3 : Int32) : Option (II) :=
  self25 (x3 + (1 : Int32)) I
def jn_X11_rideFrom_212 (fu : Nat) (S : Sk) (I : II) (self25 : Int32 → II → Option (II)) (self36 : Int32 → II → Option (II)) (self56 : Int32 → II → Option (II)) (a0 : Nat) (x1 : Int32) (x2 : Int32) (x3 : Int32) (x4 : Int32) (x5 : Int32) : Option (II) :=
  self56 (x5 + (1 : Int32)) I
def lp_X11_rideFrom_123 (fu : Nat) (S : Sk) (self25 : Int32 → II → Option (II)) (self36 : Int32 → II → Option (II)) (self56 : Int32 → II → Option (II)) (a0 : Nat) (x1 : Int32) (x2 : Int32) (x3 : Int32) (x4 : Int32) (x5 : Int32) (x7 : Int32) (self123 : Int32 → II → Option (II)) (x8 : Int32) (I : II) : Option (II) :=
  gd (inb S (S.1 a0 6) x3) (if (rd I (S.1 a0 6) x3) ≤ x8 then jn_X11_rideFrom_212 fu S I self25 self36 self56 a0 x1 x2 x3 x4 x5 else if (1000000 : Int32) ≤ x7 then jn_X11_rideFrom_212 fu S I self25 self36 self56 a0 x1 x2 x3 x4 x5 else gd (inb S (S.1 a0 7) (((8 : Int32) * x3) + x8)) (lt (((16 : Int32) * x4) + (rd I (S.1 a0 7) (((8 : Int32) * x3) + x8))) fun x9_7 => (gd (inb S (S.1 a0 30) x9_7) (gd (inb S (S.1 a0 8) (((8 : Int32) * x3) + x8)) (gd (inb S (S.1 a0 8) (((8 : Int32) * x3) + x5)) (lt (wr I (S.1 a0 30) x9_7 (t_X11_lesser (rd I (S.1 a0 30) x9_7) ((x7 + (rd I (S.1 a0 8) (((8 : Int32) * x3) + x8))) - (rd I (S.1 a0 8) (((8 : Int32) * x3) + x5))))) fun I16 => (self123 (x8 + (1 : Int32)) I16)))))))
def jn_X11_rideFrom_115 (fu : Nat) (S : Sk) (I : II) (self25 : Int32 → II → Option (II)) (self36 : Int32 → II → Option (II)) (self56 : Int32 → II → Option (II)) (a0 : Nat) (x1 : Int32) (x2 : Int32) (x3 : Int32) (x4 : Int32) (x5 : Int32) (s0 : Int32) : Option (II) :=
  lt (x5 + (1 : Int32)) fun x8_17 => (fix2 (lp_X11_rideFrom_123 fu S self25 self36 self56 a0 x1 x2 x3 x4 x5 s0) fu x8_17 I)
def lp_X11_rideFrom_56 (fu : Nat) (S : Sk) (self25 : Int32 → II → Option (II)) (self36 : Int32 → II → Option (II)) (a0 : Nat) (x1 : Int32) (x2 : Int32) (x3 : Int32) (x4 : Int32) (self56 : Int32 → II → Option (II)) (x5 : Int32) (I : II) : Option (II) :=
  gd (inb S (S.1 a0 6) x3) (if ((rd I (S.1 a0 6) x3) - (1 : Int32)) ≤ x5 then self36 (x4 + (1 : Int32)) I else gd (inb S (S.1 a0 7) (((8 : Int32) * x3) + x5)) (gd (inb S (S.1 a0 29) (t_X11_placeOf x1 x4 (rd I (S.1 a0 7) (((8 : Int32) * x3) + x5)))) (lt (rd I (S.1 a0 29) (t_X11_placeOf x1 x4 (rd I (S.1 a0 7) (((8 : Int32) * x3) + x5)))) fun x6_26 => (if (1000000 : Int32) ≤ x6_26 then jn_X11_rideFrom_115 fu S I self25 self36 self56 a0 x1 x2 x3 x4 x5 (1000000 : Int32) else (f_X11_minuteAt fu S I a0 x3 x5 x6_26).bind fun q28 => (jn_X11_rideFrom_115 fu S I self25 self36 self56 a0 x1 x2 x3 x4 x5 q28)))))
def lp_X11_rideFrom_36 (fu : Nat) (S : Sk) (self25 : Int32 → II → Option (II)) (a0 : Nat) (x1 : Int32) (x2 : Int32) (x3 : Int32) (self36 : Int32 → II → Option (II)) (x4 : Int32) (I : II) : Option (II) :=
  if x2 < x4 then jn_X11_rideFrom_224 fu S I self25 a0 x1 x2 x3 else if (t_X11_hasBit (I a0 28) x3) = 0 then jn_X11_rideFrom_224 fu S I self25 a0 x1 x2 x3 else fix2 (lp_X11_rideFrom_56 fu S self25 self36 a0 x1 x2 x3 x4) fu (0 : Int32) I
def lp_X11_rideFrom_25 (fu : Nat) (S : Sk) (a0 : Nat) (x1 : Int32) (x2 : Int32) (self25 : Int32 → II → Option (II)) (x3 : Int32) (I : II) : Option (II) :=
  if (I a0 4) ≤ x3 then some (I) else fix2 (lp_X11_rideFrom_36 fu S self25 a0 x1 x2 x3) fu (0 : Int32) I
def lp_X11_rideFrom_2 (fu : Nat) (S : Sk) (a0 : Nat) (x1 : Int32) (x2 : Int32) (self2 : Int32 → II → Option (II)) (x3 : Int32) (I : II) : Option (II) :=
  if (496 : Int32) ≤ x3 then fix2 (lp_X11_rideFrom_25 fu S a0 x1 x2) fu (0 : Int32) I else gd (inb S (S.1 a0 30) x3) (lt (wr I (S.1 a0 30) x3 (1000000 : Int32)) fun I38 => (self2 (x3 + (1 : Int32)) I38))
def f_X11_rideFrom (fu : Nat) (S : Sk) (I : II) (a0 : Nat) (x1 : Int32) (x2 : Int32) : Option (II) :=
  fix2 (lp_X11_rideFrom_2 fu S a0 x1 x2) fu (0 : Int32) I
set_option maxRecDepth 100000 in
set_option maxHeartbeats 4000000 in
theorem gg_X11_rideFrom {E : EV} (fu : Nat) (S0 : Sk) (I0 : II) (a0 : Nat) (x1 : Int32) (x2 : Int32) (ht0 : tyO S0 11 a0) : GG E i_X11_rideFrom (enM E i_X11_rideFrom S0 (po_X11_rideFrom S0 I0)) S0 I0 (0, 0) 0 [(0, vA (a0 + 1)), (1, vI x1), (2, vI x2)] [] (f_X11_rideFrom fu S0 I0 a0 x1 x2) := by
  have hl25 : ∀ (nn : Nat) (x3 : Int32) (I : II), True → GG E i_X11_rideFrom (enM E i_X11_rideFrom S0 (po_X11_rideFrom S0 I0)) S0 I (0, 0) 25 [(0, vA (a0 + 1)), (1, vI x1), (2, vI x2), (3, vI x3)] [] (fix2 (lp_X11_rideFrom_25 fu S0 a0 x1 x2) nn x3 I) := by
    refine g_fix2 (fun _ _ => S0) (fun x3 I => I) (fun x3 I => [(0, vA (a0 + 1)), (1, vI x1), (2, vI x2), (3, vI x3)]) (fun x3 I => True) ?_
    intro self25 hself25 x3 I hinv
    have hj224 : ∀ (I : II) (x3 : Int32), GG E i_X11_rideFrom (enM E i_X11_rideFrom S0 (po_X11_rideFrom S0 I0)) S0 I (0, 0) 224 [(0, vA (a0 + 1)), (1, vI x1), (2, vI x2), (3, vI x3)] [] (jn_X11_rideFrom_224 fu S0 I self25 a0 x1 x2 x3) := by
      intro I x3 
      unfold jn_X11_rideFrom_224
      refine g_iinc (v := (1 : Int32)) (L' := [(0, vA (a0 + 1)), (1, vI x1), (2, vI x2), (3, vI (x3 + (1 : Int32)))]) (dk D_X11_rideFrom 124 rfl) rfl rfl (Nat.le_of_ble_eq_true rfl) rfl ?_
      refine g_goto (tgt := 25) (dk D_X11_rideFrom 125 rfl) rfl ?_
      exact hself25 (x3 + (1 : Int32)) I trivial
    have hl36 : ∀ (x3 : Int32) (nn : Nat) (x4 : Int32) (I : II), True → GG E i_X11_rideFrom (enM E i_X11_rideFrom S0 (po_X11_rideFrom S0 I0)) S0 I (0, 0) 36 [(0, vA (a0 + 1)), (1, vI x1), (2, vI x2), (3, vI x3), (4, vI x4)] [] (fix2 (lp_X11_rideFrom_36 fu S0 self25 a0 x1 x2 x3) nn x4 I) := by
      intro x3 
      refine g_fix2 (fun _ _ => S0) (fun x4 I => I) (fun x4 I => [(0, vA (a0 + 1)), (1, vI x1), (2, vI x2), (3, vI x3), (4, vI x4)]) (fun x4 I => True) ?_
      intro self36 hself36 x4 I hinv
      have hl56 : ∀ (x4 : Int32) (nn : Nat) (x5 : Int32) (I : II), True → GG E i_X11_rideFrom (enM E i_X11_rideFrom S0 (po_X11_rideFrom S0 I0)) S0 I (0, 0) 56 [(0, vA (a0 + 1)), (1, vI x1), (2, vI x2), (3, vI x3), (4, vI x4), (5, vI x5)] [] (fix2 (lp_X11_rideFrom_56 fu S0 self25 self36 a0 x1 x2 x3 x4) nn x5 I) := by
        intro x4 
        refine g_fix2 (fun _ _ => S0) (fun x5 I => I) (fun x5 I => [(0, vA (a0 + 1)), (1, vI x1), (2, vI x2), (3, vI x3), (4, vI x4), (5, vI x5)]) (fun x5 I => True) ?_
        intro self56 hself56 x5 I hinv
        have hj212 : ∀ (I : II) (x5 : Int32), GG E i_X11_rideFrom (enM E i_X11_rideFrom S0 (po_X11_rideFrom S0 I0)) S0 I (0, 0) 212 [(0, vA (a0 + 1)), (1, vI x1), (2, vI x2), (3, vI x3), (4, vI x4), (5, vI x5)] [] (jn_X11_rideFrom_212 fu S0 I self25 self36 self56 a0 x1 x2 x3 x4 x5) := by
          intro I x5 
          unfold jn_X11_rideFrom_212
          refine g_iinc (v := (1 : Int32)) (L' := [(0, vA (a0 + 1)), (1, vI x1), (2, vI x2), (3, vI x3), (4, vI x4), (5, vI (x5 + (1 : Int32)))]) (dk D_X11_rideFrom 120 rfl) rfl rfl (Nat.le_of_ble_eq_true rfl) rfl ?_
          refine g_goto (tgt := 56) (dk D_X11_rideFrom 121 rfl) rfl ?_
          exact hself56 (x5 + (1 : Int32)) I trivial
        have hl123 : ∀ (x5 : Int32) (x7 : Int32) (nn : Nat) (x8 : Int32) (I : II), True → GG E i_X11_rideFrom (enM E i_X11_rideFrom S0 (po_X11_rideFrom S0 I0)) S0 I (0, 0) 123 [(0, vA (a0 + 1)), (1, vI x1), (2, vI x2), (3, vI x3), (4, vI x4), (5, vI x5), (7, vI x7), (8, vI x8)] [] (fix2 (lp_X11_rideFrom_123 fu S0 self25 self36 self56 a0 x1 x2 x3 x4 x5 x7) nn x8 I) := by
          intro x5 x7 
          refine g_fix2 (fun _ _ => S0) (fun x8 I => I) (fun x8 I => [(0, vA (a0 + 1)), (1, vI x1), (2, vI x2), (3, vI x3), (4, vI x4), (5, vI x5), (7, vI x7), (8, vI x8)]) (fun x8 I => True) ?_
          intro self123 hself123 x8 I hinv
          unfold lp_X11_rideFrom_123
          refine g_iload (dk D_X11_rideFrom 68 rfl) rfl ?_
          refine g_aload_n (dk D_X11_rideFrom 69 rfl) rfl ?_
          refine g_getAt (t := 100) fl_RX11_19 rfl ht0 (dk D_X11_rideFrom 70 rfl) (fun ht1 => ?_)
          refine g_iload_n (dk D_X11_rideFrom 71 rfl) rfl ?_
          refine g_gd (fun hi2 => ?_)
          refine g_iaload ht1 hi2 (dk D_X11_rideFrom 72 rfl) ?_
          refine g_icmp_ge (tgt := 212) (dk D_X11_rideFrom 73 rfl) rfl (fun hc3 => ?_) (fun hc3 => ?_)
          · refine g_Lp [0, 1, 2, 3, 4, 5] rfl ?_
            exact hj212 I x5
          · refine g_iload (dk D_X11_rideFrom 74 rfl) rfl ?_
            refine g_ldc (dk D_X11_rideFrom 75 rfl) lk_RX11_216 ?_
            refine g_icmp_ge (tgt := 212) (dk D_X11_rideFrom 76 rfl) rfl (fun hc4 => ?_) (fun hc4 => ?_)
            · refine g_Lp [0, 1, 2, 3, 4, 5] rfl ?_
              exact hj212 I x5
            · refine g_bipush (v := (16 : Int32)) (dk D_X11_rideFrom 77 rfl) rfl ?_
              refine g_iload (dk D_X11_rideFrom 78 rfl) rfl ?_
              refine g_imul (dk D_X11_rideFrom 79 rfl) ?_
              refine g_aload_n (dk D_X11_rideFrom 80 rfl) rfl ?_
              refine g_getAt (t := 100) fl_RX11_22 rfl ht0 (dk D_X11_rideFrom 81 rfl) (fun ht5 => ?_)
              refine g_bipush (v := (8 : Int32)) (dk D_X11_rideFrom 82 rfl) rfl ?_
              refine g_iload_n (dk D_X11_rideFrom 83 rfl) rfl ?_
              refine g_imul (dk D_X11_rideFrom 84 rfl) ?_
              refine g_iload (dk D_X11_rideFrom 85 rfl) rfl ?_
              refine g_iadd (dk D_X11_rideFrom 86 rfl) ?_
              refine g_gd (fun hi6 => ?_)
              refine g_iaload ht5 hi6 (dk D_X11_rideFrom 87 rfl) ?_
              refine g_iadd (dk D_X11_rideFrom 88 rfl) ?_
              refine g_ltV (fun x9_7 ex9_7 => ?_)
              refine g_istore (L' := [(0, vA (a0 + 1)), (1, vI x1), (2, vI x2), (3, vI x3), (4, vI x4), (5, vI x5), (7, vI x7), (8, vI x8), (9, vI x9_7)]) (dk D_X11_rideFrom 89 rfl) (Nat.le_of_ble_eq_true rfl) rfl ?_
              refine g_aload_n (dk D_X11_rideFrom 90 rfl) rfl ?_
              refine g_getAt (t := 100) fl_RX11_79 rfl ht0 (dk D_X11_rideFrom 91 rfl) (fun ht8 => ?_)
              refine g_iload (dk D_X11_rideFrom 92 rfl) rfl ?_
              refine g_aload_n (dk D_X11_rideFrom 93 rfl) rfl ?_
              refine g_getAt (t := 100) fl_RX11_79 rfl ht0 (dk D_X11_rideFrom 94 rfl) (fun ht9 => ?_)
              refine g_iload (dk D_X11_rideFrom 95 rfl) rfl ?_
              refine g_gd (fun hi10 => ?_)
              refine g_iaload ht8 hi10 (dk D_X11_rideFrom 96 rfl) ?_
              refine g_iload (dk D_X11_rideFrom 97 rfl) rfl ?_
              refine g_aload_n (dk D_X11_rideFrom 98 rfl) rfl ?_
              refine g_getAt (t := 100) fl_RX11_25 rfl ht0 (dk D_X11_rideFrom 99 rfl) (fun ht11 => ?_)
              refine g_bipush (v := (8 : Int32)) (dk D_X11_rideFrom 100 rfl) rfl ?_
              refine g_iload_n (dk D_X11_rideFrom 101 rfl) rfl ?_
              refine g_imul (dk D_X11_rideFrom 102 rfl) ?_
              refine g_iload (dk D_X11_rideFrom 103 rfl) rfl ?_
              refine g_iadd (dk D_X11_rideFrom 104 rfl) ?_
              refine g_gd (fun hi12 => ?_)
              refine g_iaload ht11 hi12 (dk D_X11_rideFrom 105 rfl) ?_
              refine g_iadd (dk D_X11_rideFrom 106 rfl) ?_
              refine g_aload_n (dk D_X11_rideFrom 107 rfl) rfl ?_
              refine g_getAt (t := 100) fl_RX11_25 rfl ht0 (dk D_X11_rideFrom 108 rfl) (fun ht13 => ?_)
              refine g_bipush (v := (8 : Int32)) (dk D_X11_rideFrom 109 rfl) rfl ?_
              refine g_iload_n (dk D_X11_rideFrom 110 rfl) rfl ?_
              refine g_imul (dk D_X11_rideFrom 111 rfl) ?_
              refine g_iload (dk D_X11_rideFrom 112 rfl) rfl ?_
              refine g_iadd (dk D_X11_rideFrom 113 rfl) ?_
              refine g_gd (fun hi14 => ?_)
              refine g_iaload ht11 hi14 (dk D_X11_rideFrom 114 rfl) ?_
              refine g_isub (dk D_X11_rideFrom 115 rfl) ?_
              refine h_callS (st := [vI x9_7, vA (S0.1 a0 30)]) (c_X11_lesser (E := E) S0 I (rd I (S0.1 a0 30) x9_7) ((x7 + (rd I (S0.1 a0 8) (((8 : Int32) * x3) + x8))) - (rd I (S0.1 a0 8) (((8 : Int32) * x3) + x5)))) cl_RX11_257 rfl rfl (by decide) (Nat.le_of_ble_eq_true rfl) (dk D_X11_rideFrom 116 rfl) ?_
              refine g_iastore ht8 hi10 (dk D_X11_rideFrom 117 rfl) ?_
              refine g_ltI (fun I16 eI16 => ?_)
              refine g_iinc (v := (1 : Int32)) (L' := [(0, vA (a0 + 1)), (1, vI x1), (2, vI x2), (3, vI x3), (4, vI x4), (5, vI x5), (7, vI x7), (8, vI (x8 + (1 : Int32))), (9, vI x9_7)]) (dk D_X11_rideFrom 118 rfl) rfl rfl (Nat.le_of_ble_eq_true rfl) rfl ?_
              refine g_goto (tgt := 123) (dk D_X11_rideFrom 119 rfl) rfl ?_
              refine g_Lp [0, 1, 2, 3, 4, 5, 6, 7] rfl ?_
              exact hself123 (x8 + (1 : Int32)) I16 trivial
        have hj115 : ∀ (I : II) (x5 : Int32) (s0 : Int32), GG E i_X11_rideFrom (enM E i_X11_rideFrom S0 (po_X11_rideFrom S0 I0)) S0 I (0, 0) 115 [(0, vA (a0 + 1)), (1, vI x1), (2, vI x2), (3, vI x3), (4, vI x4), (5, vI x5)] [vI s0] (jn_X11_rideFrom_115 fu S0 I self25 self36 self56 a0 x1 x2 x3 x4 x5 s0) := by
          intro I x5 s0 
          unfold jn_X11_rideFrom_115
          refine g_istore (L' := [(0, vA (a0 + 1)), (1, vI x1), (2, vI x2), (3, vI x3), (4, vI x4), (5, vI x5), (7, vI s0)]) (dk D_X11_rideFrom 63 rfl) (Nat.le_of_ble_eq_true rfl) rfl ?_
          refine g_iload (dk D_X11_rideFrom 64 rfl) rfl ?_
          refine g_iconst (v := (1 : Int32)) (dk D_X11_rideFrom 65 rfl) rfl ?_
          refine g_iadd (dk D_X11_rideFrom 66 rfl) ?_
          refine g_ltV (fun x8_17 ex8_17 => ?_)
          refine g_istore (L' := [(0, vA (a0 + 1)), (1, vI x1), (2, vI x2), (3, vI x3), (4, vI x4), (5, vI x5), (7, vI s0), (8, vI x8_17)]) (dk D_X11_rideFrom 67 rfl) (Nat.le_of_ble_eq_true rfl) rfl ?_
          exact hl123 x5 s0 fu x8_17 I trivial
        unfold lp_X11_rideFrom_56
        refine g_iload (dk D_X11_rideFrom 30 rfl) rfl ?_
        refine g_aload_n (dk D_X11_rideFrom 31 rfl) rfl ?_
        refine g_getAt (t := 100) fl_RX11_19 rfl ht0 (dk D_X11_rideFrom 32 rfl) (fun ht18 => ?_)
        refine g_iload_n (dk D_X11_rideFrom 33 rfl) rfl ?_
        refine g_gd (fun hi19 => ?_)
        refine g_iaload ht18 hi19 (dk D_X11_rideFrom 34 rfl) ?_
        refine g_iconst (v := (1 : Int32)) (dk D_X11_rideFrom 35 rfl) rfl ?_
        refine g_isub (dk D_X11_rideFrom 36 rfl) ?_
        refine g_icmp_ge (tgt := 218) (dk D_X11_rideFrom 37 rfl) rfl (fun hc20 => ?_) (fun hc20 => ?_)
        · refine g_iinc (v := (1 : Int32)) (L' := [(0, vA (a0 + 1)), (1, vI x1), (2, vI x2), (3, vI x3), (4, vI (x4 + (1 : Int32))), (5, vI x5)]) (dk D_X11_rideFrom 122 rfl) rfl rfl (Nat.le_of_ble_eq_true rfl) rfl ?_
          refine g_goto (tgt := 36) (dk D_X11_rideFrom 123 rfl) rfl ?_
          refine g_Lp [0, 1, 2, 3, 4] rfl ?_
          exact hself36 (x4 + (1 : Int32)) I trivial
        · refine g_aload_n (dk D_X11_rideFrom 38 rfl) rfl ?_
          refine g_getAt (t := 100) fl_RX11_76 rfl ht0 (dk D_X11_rideFrom 39 rfl) (fun ht21 => ?_)
          refine g_iload_n (dk D_X11_rideFrom 40 rfl) rfl ?_
          refine g_iload (dk D_X11_rideFrom 41 rfl) rfl ?_
          refine g_aload_n (dk D_X11_rideFrom 42 rfl) rfl ?_
          refine g_getAt (t := 100) fl_RX11_22 rfl ht0 (dk D_X11_rideFrom 43 rfl) (fun ht22 => ?_)
          refine g_bipush (v := (8 : Int32)) (dk D_X11_rideFrom 44 rfl) rfl ?_
          refine g_iload_n (dk D_X11_rideFrom 45 rfl) rfl ?_
          refine g_imul (dk D_X11_rideFrom 46 rfl) ?_
          refine g_iload (dk D_X11_rideFrom 47 rfl) rfl ?_
          refine g_iadd (dk D_X11_rideFrom 48 rfl) ?_
          refine g_gd (fun hi23 => ?_)
          refine g_iaload ht22 hi23 (dk D_X11_rideFrom 49 rfl) ?_
          refine h_callS (st := [vA (S0.1 a0 29)]) (c_X11_placeOf (E := E) S0 I x1 x4 (rd I (S0.1 a0 7) (((8 : Int32) * x3) + x5))) cl_RX11_254 rfl rfl (by decide) (Nat.le_of_ble_eq_true rfl) (dk D_X11_rideFrom 50 rfl) ?_
          refine g_gd (fun hi25 => ?_)
          refine g_iaload ht21 hi25 (dk D_X11_rideFrom 51 rfl) ?_
          refine g_ltV (fun x6_26 ex6_26 => ?_)
          refine g_istore (L' := [(0, vA (a0 + 1)), (1, vI x1), (2, vI x2), (3, vI x3), (4, vI x4), (5, vI x5), (6, vI x6_26)]) (dk D_X11_rideFrom 52 rfl) (Nat.le_of_ble_eq_true rfl) rfl ?_
          refine g_iload (dk D_X11_rideFrom 53 rfl) rfl ?_
          refine g_ldc (dk D_X11_rideFrom 54 rfl) lk_RX11_216 ?_
          refine g_icmp_ge (tgt := 113) (dk D_X11_rideFrom 55 rfl) rfl (fun hc27 => ?_) (fun hc27 => ?_)
          · refine g_ldc (dk D_X11_rideFrom 62 rfl) lk_RX11_216 ?_
            refine g_Lp [0, 1, 2, 3, 4, 5] rfl ?_
            exact hj115 I x5 (1000000 : Int32)
          · refine g_aload_n (dk D_X11_rideFrom 56 rfl) rfl ?_
            refine g_iload_n (dk D_X11_rideFrom 57 rfl) rfl ?_
            refine g_iload (dk D_X11_rideFrom 58 rfl) rfl ?_
            refine g_iload (dk D_X11_rideFrom 59 rfl) rfl ?_
            refine g_bind (fun q28 hq29 => ?_)
            refine h_callVt (st := []) (c_X11_minuteAt (E := E) fu S0 I a0 x3 x5 x6_26 q28 hq29 (ht0)) cl_RX11_219 ht0 rfl rfl (by decide) (Nat.le_of_ble_eq_true rfl) (dk D_X11_rideFrom 60 rfl) ?_
            refine g_goto (tgt := 115) (dk D_X11_rideFrom 61 rfl) rfl ?_
            refine g_Lp [0, 1, 2, 3, 4, 5] rfl ?_
            exact hj115 I x5 q28
      unfold lp_X11_rideFrom_36
      refine g_iload (dk D_X11_rideFrom 20 rfl) rfl ?_
      refine g_iload_n (dk D_X11_rideFrom 21 rfl) rfl ?_
      refine g_icmp_gt (tgt := 224) (dk D_X11_rideFrom 22 rfl) rfl (fun hc31 => ?_) (fun hc31 => ?_)
      · refine g_Lp [0, 1, 2, 3] rfl ?_
        exact hj224 I x3
      · refine g_aload_n (dk D_X11_rideFrom 23 rfl) rfl ?_
        refine g_getIt fl_RX11_260 (by decide) ht0 (dk D_X11_rideFrom 24 rfl) ?_
        refine g_iload_n (dk D_X11_rideFrom 25 rfl) rfl ?_
        refine h_callS (st := []) (c_X11_hasBit (E := E) S0 I (I a0 28) x3) cl_RX11_263 rfl rfl (by decide) (Nat.le_of_ble_eq_true rfl) (dk D_X11_rideFrom 26 rfl) ?_
        refine g_if_eq (tgt := 224) (dk D_X11_rideFrom 27 rfl) rfl (fun hc33 => ?_) (fun hc33 => ?_)
        · refine g_Lp [0, 1, 2, 3] rfl ?_
          exact hj224 I x3
        · refine g_iconst (v := (0 : Int32)) (dk D_X11_rideFrom 28 rfl) rfl ?_
          refine g_istore (L' := [(0, vA (a0 + 1)), (1, vI x1), (2, vI x2), (3, vI x3), (4, vI x4), (5, vI (0 : Int32))]) (dk D_X11_rideFrom 29 rfl) (Nat.le_of_ble_eq_true rfl) rfl ?_
          exact hl56 x4 fu (0 : Int32) I trivial
    unfold lp_X11_rideFrom_25
    refine g_iload_n (dk D_X11_rideFrom 14 rfl) rfl ?_
    refine g_aload_n (dk D_X11_rideFrom 15 rfl) rfl ?_
    refine g_getIt fl_RX11_172 (by decide) ht0 (dk D_X11_rideFrom 16 rfl) ?_
    refine g_icmp_ge (tgt := 230) (dk D_X11_rideFrom 17 rfl) rfl (fun hc34 => ?_) (fun hc34 => ?_)
    · exact g_return rfl rfl Sx.rf rfl (by decide) (by decide) (dk D_X11_rideFrom 126 rfl)
    · refine g_iconst (v := (0 : Int32)) (dk D_X11_rideFrom 18 rfl) rfl ?_
      refine g_istore (L' := [(0, vA (a0 + 1)), (1, vI x1), (2, vI x2), (3, vI x3), (4, vI (0 : Int32))]) (dk D_X11_rideFrom 19 rfl) (Nat.le_of_ble_eq_true rfl) rfl ?_
      exact hl36 x3 fu (0 : Int32) I trivial
  have hl2 : ∀ (nn : Nat) (x3 : Int32) (I : II), True → GG E i_X11_rideFrom (enM E i_X11_rideFrom S0 (po_X11_rideFrom S0 I0)) S0 I (0, 0) 2 [(0, vA (a0 + 1)), (1, vI x1), (2, vI x2), (3, vI x3)] [] (fix2 (lp_X11_rideFrom_2 fu S0 a0 x1 x2) nn x3 I) := by
    refine g_fix2 (fun _ _ => S0) (fun x3 I => I) (fun x3 I => [(0, vA (a0 + 1)), (1, vI x1), (2, vI x2), (3, vI x3)]) (fun x3 I => True) ?_
    intro self2 hself2 x3 I hinv
    unfold lp_X11_rideFrom_2
    refine g_iload_n (dk D_X11_rideFrom 2 rfl) rfl ?_
    refine g_sipush (v := (496 : Int32)) (dk D_X11_rideFrom 3 rfl) rfl ?_
    refine g_icmp_ge (tgt := 23) (dk D_X11_rideFrom 4 rfl) rfl (fun hc35 => ?_) (fun hc35 => ?_)
    · refine g_iconst (v := (0 : Int32)) (dk D_X11_rideFrom 12 rfl) rfl ?_
      refine g_istore_n (L' := [(0, vA (a0 + 1)), (1, vI x1), (2, vI x2), (3, vI (0 : Int32))]) (dk D_X11_rideFrom 13 rfl) (Nat.le_of_ble_eq_true rfl) rfl ?_
      exact hl25 fu (0 : Int32) I trivial
    · refine g_aload_n (dk D_X11_rideFrom 5 rfl) rfl ?_
      refine g_getAt (t := 100) fl_RX11_79 rfl ht0 (dk D_X11_rideFrom 6 rfl) (fun ht36 => ?_)
      refine g_iload_n (dk D_X11_rideFrom 7 rfl) rfl ?_
      refine g_ldc (dk D_X11_rideFrom 8 rfl) lk_RX11_216 ?_
      refine g_gd (fun hi37 => ?_)
      refine g_iastore ht36 hi37 (dk D_X11_rideFrom 9 rfl) ?_
      refine g_ltI (fun I38 eI38 => ?_)
      refine g_iinc (v := (1 : Int32)) (L' := [(0, vA (a0 + 1)), (1, vI x1), (2, vI x2), (3, vI (x3 + (1 : Int32)))]) (dk D_X11_rideFrom 10 rfl) rfl rfl (Nat.le_of_ble_eq_true rfl) rfl ?_
      refine g_goto (tgt := 2) (dk D_X11_rideFrom 11 rfl) rfl ?_
      exact hself2 (x3 + (1 : Int32)) I38 trivial
  unfold f_X11_rideFrom
  refine g_iconst (v := (0 : Int32)) (dk D_X11_rideFrom 0 rfl) rfl ?_
  refine g_istore_n (L' := [(0, vA (a0 + 1)), (1, vI x1), (2, vI x2), (3, vI (0 : Int32))]) (dk D_X11_rideFrom 1 rfl) (Nat.le_of_ble_eq_true rfl) rfl ?_
  exact hl2 fu (0 : Int32) I0 trivial
theorem c_X11_rideFrom {E : EV} (fu : Nat) (S0 : Sk) (I0 : II) (a0 : Nat) (x1 : Int32) (x2 : Int32) (r : II) (h : f_X11_rideFrom fu S0 I0 a0 x1 x2 = some r) (ht0 : tyO S0 11 a0) : MX E yX11_rideFrom i_X11_rideFrom S0 I0 [vA (a0 + 1), vI x1, vI x2] (po_X11_rideFrom S0 I0 r) :=
  MX.of h (by decide) rfl rfl (Nat.le_of_ble_eq_true rfl) (gg_X11_rideFrom fu S0 I0 a0 x1 x2 ht0)
theorem fl_RX11_273 : FL RX11 273 11 31 := ⟨RX11, TX11, 57, rfl, by decide, rfl, by decide, (gm 1009 (by decide +kernel) (by decide +kernel)), inG11⟩
theorem fp_11_31 : FP 11 31 (tyX11 31) false := ⟨RX11, TX11, 57, tyX11, rfl, tyX11_ok, nmX11, rfl, rfl, rfl⟩
theorem fl_RX11_276 : FL RX11 276 11 32 := ⟨RX11, TX11, 57, rfl, by decide, rfl, by decide, (gm 1010 (by decide +kernel) (by decide +kernel)), inG11⟩
theorem fp_11_32 : FP 11 32 (tyX11 32) false := ⟨RX11, TX11, 57, tyX11, rfl, tyX11_ok, nmX11, rfl, rfl, rfl⟩
theorem fl_RX11_279 : FL RX11 279 11 33 := ⟨RX11, TX11, 57, rfl, by decide, rfl, by decide, (gm 1011 (by decide +kernel) (by decide +kernel)), inG11⟩
theorem fp_11_33 : FP 11 33 (tyX11 33) false := ⟨RX11, TX11, 57, tyX11, rfl, tyX11_ok, nmX11, rfl, rfl, rfl⟩
theorem cl_RX11_270 : CV0 RX11 270 yX11_rideFrom i_X11_rideFrom 2 11 := ⟨⟨(gm 1324 (by decide +kernel) (by decide +kernel)), (gm 72 (by decide +kernel) (by decide +kernel)), ((gm 1327 (by decide +kernel) (by decide +kernel))), by decide +kernel, by decide +kernel, by decide +kernel⟩, ⟨(gm 1326 (by decide +kernel) (by decide +kernel)), (gm 45 (by decide +kernel) (by decide +kernel))⟩, rfl, by decide⟩
theorem cl_RX11_266 : CV0 RX11 266 yX11_walkFrom i_X11_walkFrom 2 11 := ⟨⟨(gm 1314 (by decide +kernel) (by decide +kernel)), (gm 72 (by decide +kernel) (by decide +kernel)), ((gm 1317 (by decide +kernel) (by decide +kernel))), by decide +kernel, by decide +kernel, by decide +kernel⟩, ⟨(gm 1316 (by decide +kernel) (by decide +kernel)), (gm 44 (by decide +kernel) (by decide +kernel))⟩, rfl, by decide⟩
def tb_X11_layWay : List (Nat × Instr × Nat) := [(0, .iconst 0, 1), (1, .istore_n 2, 1), (2, .iload_n 2, 1), (3, .sipush 1984, 3), (6, .if_icmp .ge 17, 3), (9, .aload_n 0, 1), (10, .getfield 76, 3), (13, .iload_n 2, 1), (14, .ldc 216, 2), (16, .iastore, 1), (17, .iinc 2 1, 3), (20, .goto (-18), 3), (23, .iconst 0, 1), (24, .istore_n 2, 1), (25, .iload_n 2, 1), (26, .sipush 496, 3), (29, .if_icmp .ge 17, 3), (32, .aload_n 0, 1), (33, .getfield 79, 3), (36, .iload_n 2, 1), (37, .ldc 216, 2), (39, .iastore, 1), (40, .iinc 2 1, 3), (43, .goto (-18), 3), (46, .aload_n 0, 1), (47, .getfield 79, 3), (50, .aload_n 0, 1), (51, .getfield 61, 3), (54, .iload_n 1, 1), (55, .iaload, 1), (56, .aload_n 0, 1), (57, .getfield 67, 3), (60, .iload_n 1, 1), (61, .iaload, 1), (62, .iastore, 1), (63, .aload_n 0, 1), (64, .iconst 0, 1), (65, .aload_n 0, 1), (66, .getfield 70, 3), (69, .iload_n 1, 1), (70, .iaload, 1), (71, .invokevirtual 266, 3), (74, .iconst 0, 1), (75, .istore_n 2, 1), (76, .iload_n 2, 1), (77, .aload_n 0, 1), (78, .getfield 73, 3), (81, .iload_n 1, 1), (82, .iaload, 1), (83, .if_icmp .ge 33, 3), (86, .aload_n 0, 1), (87, .iload_n 2, 1), (88, .aload_n 0, 1), (89, .getfield 70, 3), (92, .iload_n 1, 1), (93, .iaload, 1), (94, .invokevirtual 270, 3), (97, .aload_n 0, 1), (98, .iload_n 2, 1), (99, .iconst 1, 1), (100, .iadd, 1), (101, .aload_n 0, 1), (102, .getfield 70, 3), (105, .iload_n 1, 1), (106, .iaload, 1), (107, .invokevirtual 266, 3), (110, .iinc 2 1, 3), (113, .goto (-37), 3), (116, .aload_n 0, 1), (117, .ldc 216, 2), (119, .putfield 273, 3), (122, .iconst 0, 1), (123, .istore_n 2, 1), (124, .iload_n 2, 1), (125, .aload_n 0, 1), (126, .getfield 73, 3), (129, .iload_n 1, 1), (130, .iaload, 1), (131, .if_icmp .gt 70, 3), (134, .iconst 0, 1), (135, .istore_n 3, 1), (136, .iload_n 3, 1), (137, .aload_n 0, 1), (138, .getfield 70, 3), (141, .iload_n 1, 1), (142, .iaload, 1), (143, .if_icmp .gt 52, 3), (146, .aload_n 0, 1), (147, .getfield 76, 3), (150, .iload_n 2, 1), (151, .iload_n 3, 1), (152, .aload_n 0, 1), (153, .getfield 64, 3), (156, .iload_n 1, 1), (157, .iaload, 1), (158, .invokestatic 254, 3), (161, .iaload, 1), (162, .istore 4, 2), (164, .iload 4, 2), (166, .aload_n 0, 1), (167, .getfield 273, 3), (170, .if_icmp .ge 19, 3), (173, .aload_n 0, 1), (174, .iload 4, 2), (176, .putfield 273, 3), (179, .aload_n 0, 1), (180, .iload_n 2, 1), (181, .putfield 276, 3), (184, .aload_n 0, 1), (185, .iload_n 3, 1), (186, .putfield 279, 3), (189, .iinc 3 1, 3), (192, .goto (-56), 3), (195, .iinc 2 1, 3), (198, .goto (-74), 3), (201, .return_, 1)]
def i_X11_layWay : MI := (RX11, cX11_layWay, 5, none, "layWay", { frames := 3, cells := 0, slots := 0, locals := 75 })
theorem D_X11_layWay : tbOK (i_X11_layWay).2.1 tb_X11_layWay := by show ∀ q ∈ tb_X11_layWay, decode cX11_layWay q.1 = .ok (q.2.1, q.2.2); decide +kernel
def po_X11_layWay (S : Sk) (I : II) (r : II) : Option LV × Sk × II := (none, S, r)
def jn_X11_layWay_189 (fu : Nat) (S : Sk) (I : II) (self124 : Int32 → II → Option (II)) (self136 : Int32 → II → Option (II)) (a0 : Nat) (x1 : Int32) (x2 : Int32) (x3 : Int32) : Option (II) :=
  self136 (x3 + (1 : Int32)) I
def lp_X11_layWay_136 (fu : Nat) (S : Sk) (self124 : Int32 → II → Option (II)) (a0 : Nat) (x1 : Int32) (x2 : Int32) (self136 : Int32 → II → Option (II)) (x3 : Int32) (I : II) : Option (II) :=
  gd (inb S (S.1 a0 26) x1) (if (rd I (S.1 a0 26) x1) < x3 then self124 (x2 + (1 : Int32)) I else gd (inb S (S.1 a0 24) x1) (gd (inb S (S.1 a0 29) (t_X11_placeOf x2 x3 (rd I (S.1 a0 24) x1))) (lt (rd I (S.1 a0 29) (t_X11_placeOf x2 x3 (rd I (S.1 a0 24) x1))) fun x4_9 => (if (I a0 31) ≤ x4_9 then jn_X11_layWay_189 fu S I self124 self136 a0 x1 x2 x3 else lt (upI I a0 31 x4_9) fun I11 => (lt (upI I11 a0 32 x2) fun I12 => (lt (upI I12 a0 33 x3) fun I13 => (jn_X11_layWay_189 fu S I13 self124 self136 a0 x1 x2 x3)))))))
def lp_X11_layWay_124 (fu : Nat) (S : Sk) (a0 : Nat) (x1 : Int32) (self124 : Int32 → II → Option (II)) (x2 : Int32) (I : II) : Option (II) :=
  gd (inb S (S.1 a0 27) x1) (if (rd I (S.1 a0 27) x1) < x2 then some (I) else fix2 (lp_X11_layWay_136 fu S self124 a0 x1 x2) fu (0 : Int32) I)
def lp_X11_layWay_76 (fu : Nat) (S : Sk) (a0 : Nat) (x1 : Int32) (self76 : Int32 → II → Option (II)) (x2 : Int32) (I : II) : Option (II) :=
  gd (inb S (S.1 a0 27) x1) (if (rd I (S.1 a0 27) x1) ≤ x2 then lt (upI I a0 31 (1000000 : Int32)) fun I20 => (fix2 (lp_X11_layWay_124 fu S a0 x1) fu (0 : Int32) I20) else gd (inb S (S.1 a0 26) x1) ((f_X11_rideFrom fu S I a0 x2 (rd I (S.1 a0 26) x1)).bind fun q23 => ((f_X11_walkFrom fu S q23 a0 (x2 + (1 : Int32)) (rd q23 (S.1 a0 26) x1)).bind fun q27 => (self76 (x2 + (1 : Int32)) q27))))
def lp_X11_layWay_25 (fu : Nat) (S : Sk) (a0 : Nat) (x1 : Int32) (self25 : Int32 → II → Option (II)) (x2 : Int32) (I : II) : Option (II) :=
  if (496 : Int32) ≤ x2 then gd (inb S (S.1 a0 23) x1) (gd (inb S (S.1 a0 25) x1) (gd (inb S (S.1 a0 30) (rd I (S.1 a0 23) x1)) (lt (wr I (S.1 a0 30) (rd I (S.1 a0 23) x1) (rd I (S.1 a0 25) x1)) fun I37 => (gd (inb S (S.1 a0 26) x1) ((f_X11_walkFrom fu S I37 a0 (0 : Int32) (rd I37 (S.1 a0 26) x1)).bind fun q40 => (fix2 (lp_X11_layWay_76 fu S a0 x1) fu (0 : Int32) q40)))))) else gd (inb S (S.1 a0 30) x2) (lt (wr I (S.1 a0 30) x2 (1000000 : Int32)) fun I45 => (self25 (x2 + (1 : Int32)) I45))
def lp_X11_layWay_2 (fu : Nat) (S : Sk) (a0 : Nat) (x1 : Int32) (self2 : Int32 → II → Option (II)) (x2 : Int32) (I : II) : Option (II) :=
  if (1984 : Int32) ≤ x2 then fix2 (lp_X11_layWay_25 fu S a0 x1) fu (0 : Int32) I else gd (inb S (S.1 a0 29) x2) (lt (wr I (S.1 a0 29) x2 (1000000 : Int32)) fun I49 => (self2 (x2 + (1 : Int32)) I49))
def f_X11_layWay (fu : Nat) (S : Sk) (I : II) (a0 : Nat) (x1 : Int32) : Option (II) :=
  fix2 (lp_X11_layWay_2 fu S a0 x1) fu (0 : Int32) I
set_option maxRecDepth 100000 in
set_option maxHeartbeats 4000000 in
theorem gg_X11_layWay {E : EV} (fu : Nat) (S0 : Sk) (I0 : II) (a0 : Nat) (x1 : Int32) (ht0 : tyO S0 11 a0) : GG E i_X11_layWay (enM E i_X11_layWay S0 (po_X11_layWay S0 I0)) S0 I0 (0, 0) 0 [(0, vA (a0 + 1)), (1, vI x1)] [] (f_X11_layWay fu S0 I0 a0 x1) := by
  have hl124 : ∀ (nn : Nat) (x2 : Int32) (I : II), True → GG E i_X11_layWay (enM E i_X11_layWay S0 (po_X11_layWay S0 I0)) S0 I (0, 0) 124 [(0, vA (a0 + 1)), (1, vI x1), (2, vI x2)] [] (fix2 (lp_X11_layWay_124 fu S0 a0 x1) nn x2 I) := by
    refine g_fix2 (fun _ _ => S0) (fun x2 I => I) (fun x2 I => [(0, vA (a0 + 1)), (1, vI x1), (2, vI x2)]) (fun x2 I => True) ?_
    intro self124 hself124 x2 I hinv
    have hl136 : ∀ (x2 : Int32) (nn : Nat) (x3 : Int32) (I : II), True → GG E i_X11_layWay (enM E i_X11_layWay S0 (po_X11_layWay S0 I0)) S0 I (0, 0) 136 [(0, vA (a0 + 1)), (1, vI x1), (2, vI x2), (3, vI x3)] [] (fix2 (lp_X11_layWay_136 fu S0 self124 a0 x1 x2) nn x3 I) := by
      intro x2 
      refine g_fix2 (fun _ _ => S0) (fun x3 I => I) (fun x3 I => [(0, vA (a0 + 1)), (1, vI x1), (2, vI x2), (3, vI x3)]) (fun x3 I => True) ?_
      intro self136 hself136 x3 I hinv
      have hj189 : ∀ (I : II) (x3 : Int32), GG E i_X11_layWay (enM E i_X11_layWay S0 (po_X11_layWay S0 I0)) S0 I (0, 0) 189 [(0, vA (a0 + 1)), (1, vI x1), (2, vI x2), (3, vI x3)] [] (jn_X11_layWay_189 fu S0 I self124 self136 a0 x1 x2 x3) := by
        intro I x3 
        unfold jn_X11_layWay_189
        refine g_iinc (v := (1 : Int32)) (L' := [(0, vA (a0 + 1)), (1, vI x1), (2, vI x2), (3, vI (x3 + (1 : Int32)))]) (dk D_X11_layWay 111 rfl) rfl rfl (Nat.le_of_ble_eq_true rfl) rfl ?_
        refine g_goto (tgt := 136) (dk D_X11_layWay 112 rfl) rfl ?_
        exact hself136 (x3 + (1 : Int32)) I trivial
      unfold lp_X11_layWay_136
      refine g_iload_n (dk D_X11_layWay 81 rfl) rfl ?_
      refine g_aload_n (dk D_X11_layWay 82 rfl) rfl ?_
      refine g_getAt (t := 100) fl_RX11_70 rfl ht0 (dk D_X11_layWay 83 rfl) (fun ht1 => ?_)
      refine g_iload_n (dk D_X11_layWay 84 rfl) rfl ?_
      refine g_gd (fun hi2 => ?_)
      refine g_iaload ht1 hi2 (dk D_X11_layWay 85 rfl) ?_
      refine g_icmp_gt (tgt := 195) (dk D_X11_layWay 86 rfl) rfl (fun hc3 => ?_) (fun hc3 => ?_)
      · refine g_iinc (v := (1 : Int32)) (L' := [(0, vA (a0 + 1)), (1, vI x1), (2, vI (x2 + (1 : Int32))), (3, vI x3)]) (dk D_X11_layWay 113 rfl) rfl rfl (Nat.le_of_ble_eq_true rfl) rfl ?_
        refine g_goto (tgt := 124) (dk D_X11_layWay 114 rfl) rfl ?_
        refine g_Lp [0, 1, 2] rfl ?_
        exact hself124 (x2 + (1 : Int32)) I trivial
      · refine g_aload_n (dk D_X11_layWay 87 rfl) rfl ?_
        refine g_getAt (t := 100) fl_RX11_76 rfl ht0 (dk D_X11_layWay 88 rfl) (fun ht4 => ?_)
        refine g_iload_n (dk D_X11_layWay 89 rfl) rfl ?_
        refine g_iload_n (dk D_X11_layWay 90 rfl) rfl ?_
        refine g_aload_n (dk D_X11_layWay 91 rfl) rfl ?_
        refine g_getAt (t := 100) fl_RX11_64 rfl ht0 (dk D_X11_layWay 92 rfl) (fun ht5 => ?_)
        refine g_iload_n (dk D_X11_layWay 93 rfl) rfl ?_
        refine g_gd (fun hi6 => ?_)
        refine g_iaload ht5 hi6 (dk D_X11_layWay 94 rfl) ?_
        refine h_callS (st := [vA (S0.1 a0 29)]) (c_X11_placeOf (E := E) S0 I x2 x3 (rd I (S0.1 a0 24) x1)) cl_RX11_254 rfl rfl (by decide) (Nat.le_of_ble_eq_true rfl) (dk D_X11_layWay 95 rfl) ?_
        refine g_gd (fun hi8 => ?_)
        refine g_iaload ht4 hi8 (dk D_X11_layWay 96 rfl) ?_
        refine g_ltV (fun x4_9 ex4_9 => ?_)
        refine g_istore (L' := [(0, vA (a0 + 1)), (1, vI x1), (2, vI x2), (3, vI x3), (4, vI x4_9)]) (dk D_X11_layWay 97 rfl) (Nat.le_of_ble_eq_true rfl) rfl ?_
        refine g_iload (dk D_X11_layWay 98 rfl) rfl ?_
        refine g_aload_n (dk D_X11_layWay 99 rfl) rfl ?_
        refine g_getIt fl_RX11_273 (by decide) ht0 (dk D_X11_layWay 100 rfl) ?_
        refine g_icmp_ge (tgt := 189) (dk D_X11_layWay 101 rfl) rfl (fun hc10 => ?_) (fun hc10 => ?_)
        · refine g_Lp [0, 1, 2, 3] rfl ?_
          exact hj189 I x3
        · refine g_aload_n (dk D_X11_layWay 102 rfl) rfl ?_
          refine g_iload (dk D_X11_layWay 103 rfl) rfl ?_
          refine g_putIt fl_RX11_273 fp_11_31 (fun h => (by cases h)) (by decide) rfl rfl ht0 (dk D_X11_layWay 104 rfl) ?_
          refine g_ltI (fun I11 eI11 => ?_)
          refine g_aload_n (dk D_X11_layWay 105 rfl) rfl ?_
          refine g_iload_n (dk D_X11_layWay 106 rfl) rfl ?_
          refine g_putIt fl_RX11_276 fp_11_32 (fun h => (by cases h)) (by decide) rfl rfl ht0 (dk D_X11_layWay 107 rfl) ?_
          refine g_ltI (fun I12 eI12 => ?_)
          refine g_aload_n (dk D_X11_layWay 108 rfl) rfl ?_
          refine g_iload_n (dk D_X11_layWay 109 rfl) rfl ?_
          refine g_putIt fl_RX11_279 fp_11_33 (fun h => (by cases h)) (by decide) rfl rfl ht0 (dk D_X11_layWay 110 rfl) ?_
          refine g_ltI (fun I13 eI13 => ?_)
          refine g_Lp [0, 1, 2, 3] rfl ?_
          exact hj189 I13 x3
    unfold lp_X11_layWay_124
    refine g_iload_n (dk D_X11_layWay 73 rfl) rfl ?_
    refine g_aload_n (dk D_X11_layWay 74 rfl) rfl ?_
    refine g_getAt (t := 100) fl_RX11_73 rfl ht0 (dk D_X11_layWay 75 rfl) (fun ht14 => ?_)
    refine g_iload_n (dk D_X11_layWay 76 rfl) rfl ?_
    refine g_gd (fun hi15 => ?_)
    refine g_iaload ht14 hi15 (dk D_X11_layWay 77 rfl) ?_
    refine g_icmp_gt (tgt := 201) (dk D_X11_layWay 78 rfl) rfl (fun hc16 => ?_) (fun hc16 => ?_)
    · exact g_return rfl rfl Sx.rf rfl (by decide) (by decide) (dk D_X11_layWay 115 rfl)
    · refine g_iconst (v := (0 : Int32)) (dk D_X11_layWay 79 rfl) rfl ?_
      refine g_istore_n (L' := [(0, vA (a0 + 1)), (1, vI x1), (2, vI x2), (3, vI (0 : Int32))]) (dk D_X11_layWay 80 rfl) (Nat.le_of_ble_eq_true rfl) rfl ?_
      exact hl136 x2 fu (0 : Int32) I trivial
  have hl76 : ∀ (nn : Nat) (x2 : Int32) (I : II), True → GG E i_X11_layWay (enM E i_X11_layWay S0 (po_X11_layWay S0 I0)) S0 I (0, 0) 76 [(0, vA (a0 + 1)), (1, vI x1), (2, vI x2)] [] (fix2 (lp_X11_layWay_76 fu S0 a0 x1) nn x2 I) := by
    refine g_fix2 (fun _ _ => S0) (fun x2 I => I) (fun x2 I => [(0, vA (a0 + 1)), (1, vI x1), (2, vI x2)]) (fun x2 I => True) ?_
    intro self76 hself76 x2 I hinv
    unfold lp_X11_layWay_76
    refine g_iload_n (dk D_X11_layWay 44 rfl) rfl ?_
    refine g_aload_n (dk D_X11_layWay 45 rfl) rfl ?_
    refine g_getAt (t := 100) fl_RX11_73 rfl ht0 (dk D_X11_layWay 46 rfl) (fun ht17 => ?_)
    refine g_iload_n (dk D_X11_layWay 47 rfl) rfl ?_
    refine g_gd (fun hi18 => ?_)
    refine g_iaload ht17 hi18 (dk D_X11_layWay 48 rfl) ?_
    refine g_icmp_ge (tgt := 116) (dk D_X11_layWay 49 rfl) rfl (fun hc19 => ?_) (fun hc19 => ?_)
    · refine g_aload_n (dk D_X11_layWay 68 rfl) rfl ?_
      refine g_ldc (dk D_X11_layWay 69 rfl) lk_RX11_216 ?_
      refine g_putIt fl_RX11_273 fp_11_31 (fun h => (by cases h)) (by decide) rfl rfl ht0 (dk D_X11_layWay 70 rfl) ?_
      refine g_ltI (fun I20 eI20 => ?_)
      refine g_iconst (v := (0 : Int32)) (dk D_X11_layWay 71 rfl) rfl ?_
      refine g_istore_n (L' := [(0, vA (a0 + 1)), (1, vI x1), (2, vI (0 : Int32))]) (dk D_X11_layWay 72 rfl) (Nat.le_of_ble_eq_true rfl) rfl ?_
      exact hl124 fu (0 : Int32) I20 trivial
    · refine g_aload_n (dk D_X11_layWay 50 rfl) rfl ?_
      refine g_iload_n (dk D_X11_layWay 51 rfl) rfl ?_
      refine g_aload_n (dk D_X11_layWay 52 rfl) rfl ?_
      refine g_getAt (t := 100) fl_RX11_70 rfl ht0 (dk D_X11_layWay 53 rfl) (fun ht21 => ?_)
      refine g_iload_n (dk D_X11_layWay 54 rfl) rfl ?_
      refine g_gd (fun hi22 => ?_)
      refine g_iaload ht21 hi22 (dk D_X11_layWay 55 rfl) ?_
      refine g_bind (fun q23 hq24 => ?_)
      refine h_callVt (st := []) (c_X11_rideFrom (E := E) fu S0 I a0 x2 (rd I (S0.1 a0 26) x1) q23 hq24 (ht0)) cl_RX11_270 ht0 rfl rfl (by decide) (Nat.le_of_ble_eq_true rfl) (dk D_X11_layWay 56 rfl) ?_
      refine g_aload_n (dk D_X11_layWay 57 rfl) rfl ?_
      refine g_iload_n (dk D_X11_layWay 58 rfl) rfl ?_
      refine g_iconst (v := (1 : Int32)) (dk D_X11_layWay 59 rfl) rfl ?_
      refine g_iadd (dk D_X11_layWay 60 rfl) ?_
      refine g_aload_n (dk D_X11_layWay 61 rfl) rfl ?_
      refine g_getAt (t := 100) fl_RX11_70 rfl ht0 (dk D_X11_layWay 62 rfl) (fun ht26 => ?_)
      refine g_iload_n (dk D_X11_layWay 63 rfl) rfl ?_
      refine g_iaload ht21 hi22 (dk D_X11_layWay 64 rfl) ?_
      refine g_bind (fun q27 hq28 => ?_)
      refine h_callVt (st := []) (c_X11_walkFrom (E := E) fu S0 q23 a0 (x2 + (1 : Int32)) (rd q23 (S0.1 a0 26) x1) q27 hq28 (ht0)) cl_RX11_266 ht0 rfl rfl (by decide) (Nat.le_of_ble_eq_true rfl) (dk D_X11_layWay 65 rfl) ?_
      refine g_iinc (v := (1 : Int32)) (L' := [(0, vA (a0 + 1)), (1, vI x1), (2, vI (x2 + (1 : Int32)))]) (dk D_X11_layWay 66 rfl) rfl rfl (Nat.le_of_ble_eq_true rfl) rfl ?_
      refine g_goto (tgt := 76) (dk D_X11_layWay 67 rfl) rfl ?_
      exact hself76 (x2 + (1 : Int32)) q27 trivial
  have hl25 : ∀ (nn : Nat) (x2 : Int32) (I : II), True → GG E i_X11_layWay (enM E i_X11_layWay S0 (po_X11_layWay S0 I0)) S0 I (0, 0) 25 [(0, vA (a0 + 1)), (1, vI x1), (2, vI x2)] [] (fix2 (lp_X11_layWay_25 fu S0 a0 x1) nn x2 I) := by
    refine g_fix2 (fun _ _ => S0) (fun x2 I => I) (fun x2 I => [(0, vA (a0 + 1)), (1, vI x1), (2, vI x2)]) (fun x2 I => True) ?_
    intro self25 hself25 x2 I hinv
    unfold lp_X11_layWay_25
    refine g_iload_n (dk D_X11_layWay 14 rfl) rfl ?_
    refine g_sipush (v := (496 : Int32)) (dk D_X11_layWay 15 rfl) rfl ?_
    refine g_icmp_ge (tgt := 46) (dk D_X11_layWay 16 rfl) rfl (fun hc30 => ?_) (fun hc30 => ?_)
    · refine g_aload_n (dk D_X11_layWay 24 rfl) rfl ?_
      refine g_getAt (t := 100) fl_RX11_79 rfl ht0 (dk D_X11_layWay 25 rfl) (fun ht31 => ?_)
      refine g_aload_n (dk D_X11_layWay 26 rfl) rfl ?_
      refine g_getAt (t := 100) fl_RX11_61 rfl ht0 (dk D_X11_layWay 27 rfl) (fun ht32 => ?_)
      refine g_iload_n (dk D_X11_layWay 28 rfl) rfl ?_
      refine g_gd (fun hi33 => ?_)
      refine g_iaload ht32 hi33 (dk D_X11_layWay 29 rfl) ?_
      refine g_aload_n (dk D_X11_layWay 30 rfl) rfl ?_
      refine g_getAt (t := 100) fl_RX11_67 rfl ht0 (dk D_X11_layWay 31 rfl) (fun ht34 => ?_)
      refine g_iload_n (dk D_X11_layWay 32 rfl) rfl ?_
      refine g_gd (fun hi35 => ?_)
      refine g_iaload ht34 hi35 (dk D_X11_layWay 33 rfl) ?_
      refine g_gd (fun hi36 => ?_)
      refine g_iastore ht31 hi36 (dk D_X11_layWay 34 rfl) ?_
      refine g_ltI (fun I37 eI37 => ?_)
      refine g_aload_n (dk D_X11_layWay 35 rfl) rfl ?_
      refine g_iconst (v := (0 : Int32)) (dk D_X11_layWay 36 rfl) rfl ?_
      refine g_aload_n (dk D_X11_layWay 37 rfl) rfl ?_
      refine g_getAt (t := 100) fl_RX11_70 rfl ht0 (dk D_X11_layWay 38 rfl) (fun ht38 => ?_)
      refine g_iload_n (dk D_X11_layWay 39 rfl) rfl ?_
      refine g_gd (fun hi39 => ?_)
      refine g_iaload ht38 hi39 (dk D_X11_layWay 40 rfl) ?_
      refine g_bind (fun q40 hq41 => ?_)
      refine h_callVt (st := []) (c_X11_walkFrom (E := E) fu S0 I37 a0 (0 : Int32) (rd I37 (S0.1 a0 26) x1) q40 hq41 (ht0)) cl_RX11_266 ht0 rfl rfl (by decide) (Nat.le_of_ble_eq_true rfl) (dk D_X11_layWay 41 rfl) ?_
      refine g_iconst (v := (0 : Int32)) (dk D_X11_layWay 42 rfl) rfl ?_
      refine g_istore_n (L' := [(0, vA (a0 + 1)), (1, vI x1), (2, vI (0 : Int32))]) (dk D_X11_layWay 43 rfl) (Nat.le_of_ble_eq_true rfl) rfl ?_
      exact hl76 fu (0 : Int32) q40 trivial
    · refine g_aload_n (dk D_X11_layWay 17 rfl) rfl ?_
      refine g_getAt (t := 100) fl_RX11_79 rfl ht0 (dk D_X11_layWay 18 rfl) (fun ht43 => ?_)
      refine g_iload_n (dk D_X11_layWay 19 rfl) rfl ?_
      refine g_ldc (dk D_X11_layWay 20 rfl) lk_RX11_216 ?_
      refine g_gd (fun hi44 => ?_)
      refine g_iastore ht43 hi44 (dk D_X11_layWay 21 rfl) ?_
      refine g_ltI (fun I45 eI45 => ?_)
      refine g_iinc (v := (1 : Int32)) (L' := [(0, vA (a0 + 1)), (1, vI x1), (2, vI (x2 + (1 : Int32)))]) (dk D_X11_layWay 22 rfl) rfl rfl (Nat.le_of_ble_eq_true rfl) rfl ?_
      refine g_goto (tgt := 25) (dk D_X11_layWay 23 rfl) rfl ?_
      exact hself25 (x2 + (1 : Int32)) I45 trivial
  have hl2 : ∀ (nn : Nat) (x2 : Int32) (I : II), True → GG E i_X11_layWay (enM E i_X11_layWay S0 (po_X11_layWay S0 I0)) S0 I (0, 0) 2 [(0, vA (a0 + 1)), (1, vI x1), (2, vI x2)] [] (fix2 (lp_X11_layWay_2 fu S0 a0 x1) nn x2 I) := by
    refine g_fix2 (fun _ _ => S0) (fun x2 I => I) (fun x2 I => [(0, vA (a0 + 1)), (1, vI x1), (2, vI x2)]) (fun x2 I => True) ?_
    intro self2 hself2 x2 I hinv
    unfold lp_X11_layWay_2
    refine g_iload_n (dk D_X11_layWay 2 rfl) rfl ?_
    refine g_sipush (v := (1984 : Int32)) (dk D_X11_layWay 3 rfl) rfl ?_
    refine g_icmp_ge (tgt := 23) (dk D_X11_layWay 4 rfl) rfl (fun hc46 => ?_) (fun hc46 => ?_)
    · refine g_iconst (v := (0 : Int32)) (dk D_X11_layWay 12 rfl) rfl ?_
      refine g_istore_n (L' := [(0, vA (a0 + 1)), (1, vI x1), (2, vI (0 : Int32))]) (dk D_X11_layWay 13 rfl) (Nat.le_of_ble_eq_true rfl) rfl ?_
      exact hl25 fu (0 : Int32) I trivial
    · refine g_aload_n (dk D_X11_layWay 5 rfl) rfl ?_
      refine g_getAt (t := 100) fl_RX11_76 rfl ht0 (dk D_X11_layWay 6 rfl) (fun ht47 => ?_)
      refine g_iload_n (dk D_X11_layWay 7 rfl) rfl ?_
      refine g_ldc (dk D_X11_layWay 8 rfl) lk_RX11_216 ?_
      refine g_gd (fun hi48 => ?_)
      refine g_iastore ht47 hi48 (dk D_X11_layWay 9 rfl) ?_
      refine g_ltI (fun I49 eI49 => ?_)
      refine g_iinc (v := (1 : Int32)) (L' := [(0, vA (a0 + 1)), (1, vI x1), (2, vI (x2 + (1 : Int32)))]) (dk D_X11_layWay 10 rfl) rfl rfl (Nat.le_of_ble_eq_true rfl) rfl ?_
      refine g_goto (tgt := 2) (dk D_X11_layWay 11 rfl) rfl ?_
      exact hself2 (x2 + (1 : Int32)) I49 trivial
  unfold f_X11_layWay
  refine g_iconst (v := (0 : Int32)) (dk D_X11_layWay 0 rfl) rfl ?_
  refine g_istore_n (L' := [(0, vA (a0 + 1)), (1, vI x1), (2, vI (0 : Int32))]) (dk D_X11_layWay 1 rfl) (Nat.le_of_ble_eq_true rfl) rfl ?_
  exact hl2 fu (0 : Int32) I0 trivial
theorem c_X11_layWay {E : EV} (fu : Nat) (S0 : Sk) (I0 : II) (a0 : Nat) (x1 : Int32) (r : II) (h : f_X11_layWay fu S0 I0 a0 x1 = some r) (ht0 : tyO S0 11 a0) : MX E yX11_layWay i_X11_layWay S0 I0 [vA (a0 + 1), vI x1] (po_X11_layWay S0 I0 r) :=
  MX.of h (by decide) rfl rfl (Nat.le_of_ble_eq_true rfl) (gg_X11_layWay fu S0 I0 a0 x1 ht0)
def tb_X11_runningOn : List (Nat × Instr × Nat) := [(0, .iconst 0, 1), (1, .istore_n 2, 1), (2, .iconst 0, 1), (3, .istore_n 3, 1), (4, .iload_n 3, 1), (5, .aload_n 0, 1), (6, .getfield 172, 3), (9, .if_icmp .ge 28, 3), (12, .iload_n 2, 1), (13, .aload_n 0, 1), (14, .iload_n 3, 1), (15, .iload_n 1, 1), (16, .invokevirtual 213, 3), (19, .ifCond .eq 9, 3), (22, .iconst 1, 1), (23, .iload_n 3, 1), (24, .ishl, 1), (25, .goto 4, 3), (28, .iconst 0, 1), (29, .ior, 1), (30, .istore_n 2, 1), (31, .iinc 3 1, 3), (34, .goto (-30), 3), (37, .iload_n 2, 1), (38, .ireturn, 1)]
def i_X11_runningOn : MI := (RX11, cX11_runningOn, 4, (some .int), "runningOn", { frames := 2, cells := 0, slots := 0, locals := 47 })
theorem D_X11_runningOn : tbOK (i_X11_runningOn).2.1 tb_X11_runningOn := by show ∀ q ∈ tb_X11_runningOn, decode cX11_runningOn q.1 = .ok (q.2.1, q.2.2); decide +kernel
def po_X11_runningOn (S : Sk) (I : II) (r : Int32) : Option LV × Sk × II := (some (vI r), S, I)
def jn_X11_runningOn_29 (fu : Nat) (S : Sk) (I : II) (self4 : Int32 → Int32 → Option (Int32)) (a0 : Nat) (x1 : Int32) (x3 : Int32) (s0 : Int32) (s1 : Int32) : Option (Int32) :=
  lt (s0 ||| s1) fun x2_1 => (self4 x2_1 (x3 + (1 : Int32)))
def lp_X11_runningOn_4 (fu : Nat) (S : Sk) (I : II) (a0 : Nat) (x1 : Int32) (self4 : Int32 → Int32 → Option (Int32)) (x2 : Int32) (x3 : Int32) : Option (Int32) :=
  if (I a0 4) ≤ x3 then some (x2) else (f_X11_doesRun fu S I a0 x3 x1).bind fun q3 => (if q3 = 0 then jn_X11_runningOn_29 fu S I self4 a0 x1 x3 x2 (0 : Int32) else jn_X11_runningOn_29 fu S I self4 a0 x1 x3 x2 ((1 : Int32) <<< (x3 &&& 31)))
def f_X11_runningOn (fu : Nat) (S : Sk) (I : II) (a0 : Nat) (x1 : Int32) : Option (Int32) :=
  fix2 (lp_X11_runningOn_4 fu S I a0 x1) fu (0 : Int32) (0 : Int32)
set_option maxRecDepth 100000 in
set_option maxHeartbeats 4000000 in
theorem gg_X11_runningOn {E : EV} (fu : Nat) (S0 : Sk) (I0 : II) (a0 : Nat) (x1 : Int32) (ht0 : tyO S0 11 a0) : GG E i_X11_runningOn (enM E i_X11_runningOn S0 (po_X11_runningOn S0 I0)) S0 I0 (0, 0) 0 [(0, vA (a0 + 1)), (1, vI x1)] [] (f_X11_runningOn fu S0 I0 a0 x1) := by
  have hl4 : ∀ (nn : Nat) (x2 : Int32) (x3 : Int32), True → GG E i_X11_runningOn (enM E i_X11_runningOn S0 (po_X11_runningOn S0 I0)) S0 I0 (0, 0) 4 [(0, vA (a0 + 1)), (1, vI x1), (2, vI x2), (3, vI x3)] [] (fix2 (lp_X11_runningOn_4 fu S0 I0 a0 x1) nn x2 x3) := by
    refine g_fix2 (fun _ _ => S0) (fun _ _ => I0) (fun x2 x3 => [(0, vA (a0 + 1)), (1, vI x1), (2, vI x2), (3, vI x3)]) (fun x2 x3 => True) ?_
    intro self4 hself4 x2 x3 hinv
    have hj29 : ∀ (x3 : Int32) (s0 : Int32) (s1 : Int32), GG E i_X11_runningOn (enM E i_X11_runningOn S0 (po_X11_runningOn S0 I0)) S0 I0 (0, 0) 29 [(0, vA (a0 + 1)), (1, vI x1), (3, vI x3)] [vI s1, vI s0] (jn_X11_runningOn_29 fu S0 I0 self4 a0 x1 x3 s0 s1) := by
      intro x3 s0 s1 
      unfold jn_X11_runningOn_29
      refine g_ior (dk D_X11_runningOn 19 rfl) ?_
      refine g_ltV (fun x2_1 ex2_1 => ?_)
      refine g_istore_n (L' := [(0, vA (a0 + 1)), (1, vI x1), (2, vI x2_1), (3, vI x3)]) (dk D_X11_runningOn 20 rfl) (Nat.le_of_ble_eq_true rfl) rfl ?_
      refine g_iinc (v := (1 : Int32)) (L' := [(0, vA (a0 + 1)), (1, vI x1), (2, vI x2_1), (3, vI (x3 + (1 : Int32)))]) (dk D_X11_runningOn 21 rfl) rfl rfl (Nat.le_of_ble_eq_true rfl) rfl ?_
      refine g_goto (tgt := 4) (dk D_X11_runningOn 22 rfl) rfl ?_
      exact hself4 x2_1 (x3 + (1 : Int32)) trivial
    unfold lp_X11_runningOn_4
    refine g_iload_n (dk D_X11_runningOn 4 rfl) rfl ?_
    refine g_aload_n (dk D_X11_runningOn 5 rfl) rfl ?_
    refine g_getIt fl_RX11_172 (by decide) ht0 (dk D_X11_runningOn 6 rfl) ?_
    refine g_icmp_ge (tgt := 37) (dk D_X11_runningOn 7 rfl) rfl (fun hc2 => ?_) (fun hc2 => ?_)
    · refine g_iload_n (dk D_X11_runningOn 23 rfl) rfl ?_
      exact g_ireturn rfl rfl Sx.rf rfl (by decide) (by decide) (dk D_X11_runningOn 24 rfl)
    · refine g_iload_n (dk D_X11_runningOn 8 rfl) rfl ?_
      refine g_aload_n (dk D_X11_runningOn 9 rfl) rfl ?_
      refine g_iload_n (dk D_X11_runningOn 10 rfl) rfl ?_
      refine g_iload_n (dk D_X11_runningOn 11 rfl) rfl ?_
      refine g_bind (fun q3 hq4 => ?_)
      refine h_callVt (st := [vI x2]) (c_X11_doesRun (E := E) fu S0 I0 a0 x3 x1 q3 hq4 (ht0)) cl_RX11_213 ht0 rfl rfl (by decide) (Nat.le_of_ble_eq_true rfl) (dk D_X11_runningOn 12 rfl) ?_
      refine g_if_eq (tgt := 28) (dk D_X11_runningOn 13 rfl) rfl (fun hc6 => ?_) (fun hc6 => ?_)
      · refine g_iconst (v := (0 : Int32)) (dk D_X11_runningOn 18 rfl) rfl ?_
        refine g_Lp [0, 1, 3] rfl ?_
        exact hj29 x3 x2 (0 : Int32)
      · refine g_iconst (v := (1 : Int32)) (dk D_X11_runningOn 14 rfl) rfl ?_
        refine g_iload_n (dk D_X11_runningOn 15 rfl) rfl ?_
        refine g_ishl (dk D_X11_runningOn 16 rfl) ?_
        refine g_goto (tgt := 29) (dk D_X11_runningOn 17 rfl) rfl ?_
        refine g_Lp [0, 1, 3] rfl ?_
        exact hj29 x3 x2 ((1 : Int32) <<< (x3 &&& 31))
  unfold f_X11_runningOn
  refine g_iconst (v := (0 : Int32)) (dk D_X11_runningOn 0 rfl) rfl ?_
  refine g_istore_n (L' := [(0, vA (a0 + 1)), (1, vI x1), (2, vI (0 : Int32))]) (dk D_X11_runningOn 1 rfl) (Nat.le_of_ble_eq_true rfl) rfl ?_
  refine g_iconst (v := (0 : Int32)) (dk D_X11_runningOn 2 rfl) rfl ?_
  refine g_istore_n (L' := [(0, vA (a0 + 1)), (1, vI x1), (2, vI (0 : Int32)), (3, vI (0 : Int32))]) (dk D_X11_runningOn 3 rfl) (Nat.le_of_ble_eq_true rfl) rfl ?_
  exact hl4 fu (0 : Int32) (0 : Int32) trivial
theorem c_X11_runningOn {E : EV} (fu : Nat) (S0 : Sk) (I0 : II) (a0 : Nat) (x1 : Int32) (r : Int32) (h : f_X11_runningOn fu S0 I0 a0 x1 = some r) (ht0 : tyO S0 11 a0) : MX E yX11_runningOn i_X11_runningOn S0 I0 [vA (a0 + 1), vI x1] (po_X11_runningOn S0 I0 r) :=
  MX.of h (by decide) rfl rfl (Nat.le_of_ble_eq_true rfl) (gg_X11_runningOn fu S0 I0 a0 x1 ht0)
theorem cl_RX11_282 : CV0 RX11 282 yX11_noTrip i_X11_noTrip 1 11 := ⟨⟨(gm 1302 (by decide +kernel) (by decide +kernel)), (gm 72 (by decide +kernel) (by decide +kernel)), ((gm 1305 (by decide +kernel) (by decide +kernel))), by decide +kernel, by decide +kernel, by decide +kernel⟩, ⟨(gm 1304 (by decide +kernel) (by decide +kernel)), (gm 41 (by decide +kernel) (by decide +kernel))⟩, rfl, by decide⟩
theorem cl_RX11_285 : CV0 RX11 285 yX11_runningOn i_X11_runningOn 1 11 := ⟨⟨(gm 1306 (by decide +kernel) (by decide +kernel)), (gm 72 (by decide +kernel) (by decide +kernel)), ((gm 1309 (by decide +kernel) (by decide +kernel))), by decide +kernel, by decide +kernel, by decide +kernel⟩, ⟨(gm 1308 (by decide +kernel) (by decide +kernel)), (gm 42 (by decide +kernel) (by decide +kernel))⟩, rfl, by decide⟩
theorem fp_11_28 : FP 11 28 (tyX11 28) false := ⟨RX11, TX11, 57, tyX11, rfl, tyX11_ok, nmX11, rfl, rfl, rfl⟩
theorem cl_RX11_288 : CV0 RX11 288 yX11_layWay i_X11_layWay 1 11 := ⟨⟨(gm 1310 (by decide +kernel) (by decide +kernel)), (gm 72 (by decide +kernel) (by decide +kernel)), ((gm 1313 (by decide +kernel) (by decide +kernel))), by decide +kernel, by decide +kernel, by decide +kernel⟩, ⟨(gm 1312 (by decide +kernel) (by decide +kernel)), (gm 43 (by decide +kernel) (by decide +kernel))⟩, rfl, by decide⟩
def tb_X11_way : List (Nat × Instr × Nat) := [(0, .aload_n 0, 1), (1, .iload_n 1, 1), (2, .invokevirtual 282, 3), (5, .ifCond .eq 5, 3), (8, .iconst (-1), 1), (9, .ireturn, 1), (10, .iload_n 2, 1), (11, .invokestatic 200, 3), (14, .ifCond .eq 15, 3), (17, .iload_n 3, 1), (18, .i2l, 1), (19, .lconst 0, 1), (20, .ldc2_w 143, 3), (23, .invokestatic 132, 3), (26, .ifCond .ne 6, 3), (29, .bipush (-2), 2), (31, .ireturn, 1), (32, .aload_n 0, 1), (33, .aload_n 0, 1), (34, .iload_n 2, 1), (35, .invokevirtual 285, 3), (38, .putfield 260, 3), (41, .aload_n 0, 1), (42, .iload_n 1, 1), (43, .invokevirtual 288, 3), (46, .aload_n 0, 1), (47, .getfield 273, 3), (50, .ldc 216, 2), (52, .if_icmp .ne 8, 3), (55, .bipush (-9), 2), (57, .goto 30, 3), (60, .iload_n 3, 1), (61, .ifCond .ne 10, 3), (64, .aload_n 0, 1), (65, .getfield 273, 3), (68, .goto 19, 3), (71, .iload_n 3, 1), (72, .iconst 1, 1), (73, .if_icmp .ne 10, 3), (76, .aload_n 0, 1), (77, .getfield 276, 3), (80, .goto 7, 3), (83, .aload_n 0, 1), (84, .getfield 279, 3), (87, .ireturn, 1)]
def i_X11_way : MI := (RX11, cX11_way, 4, (some .int), "way", { frames := 4, cells := 0, slots := 0, locals := 99 })
theorem D_X11_way : tbOK (i_X11_way).2.1 tb_X11_way := by show ∀ q ∈ tb_X11_way, decode cX11_way q.1 = .ok (q.2.1, q.2.2); decide +kernel
def po_X11_way (S : Sk) (I : II) (r : Int32 × II) : Option LV × Sk × II := (some (vI r.1), S, r.2)
def f_X11_way (fu : Nat) (S : Sk) (I : II) (a0 : Nat) (x1 : Int32) (x2 : Int32) (x3 : Int32) : Option (Int32 × II) :=
  if (t_X11_noTrip I a0 x1) = 0 then if (t_X11_isDay x2) = 0 then some ((((-2) : Int32), I)) else if (t_X11_in x3.toInt64 (0 : Int64) (2 : Int64)) = 0 then some ((((-2) : Int32), I)) else (f_X11_runningOn fu S I a0 x2).bind fun q7 => (lt (upI I a0 28 q7) fun I10 => ((f_X11_layWay fu S I10 a0 x1).bind fun q11 => (if (q11 a0 31) = (1000000 : Int32) then some ((((-9) : Int32), q11)) else if x3 = 0 then some (((q11 a0 31), q11)) else if x3 = (1 : Int32) then some (((q11 a0 32), q11)) else some (((q11 a0 33), q11))))) else some ((((-1) : Int32), I))
set_option maxRecDepth 100000 in
set_option maxHeartbeats 4000000 in
theorem gg_X11_way {E : EV} (fu : Nat) (S0 : Sk) (I0 : II) (a0 : Nat) (x1 : Int32) (x2 : Int32) (x3 : Int32) (ht0 : tyO S0 11 a0) : GG E i_X11_way (enM E i_X11_way S0 (po_X11_way S0 I0)) S0 I0 (0, 0) 0 [(0, vA (a0 + 1)), (1, vI x1), (2, vI x2), (3, vI x3)] [] (f_X11_way fu S0 I0 a0 x1 x2 x3) := by
  unfold f_X11_way
  refine g_aload_n (dk D_X11_way 0 rfl) rfl ?_
  refine g_iload_n (dk D_X11_way 1 rfl) rfl ?_
  refine h_callVt (st := []) (c_X11_noTrip (E := E) S0 I0 a0 x1 (ht0)) cl_RX11_282 ht0 rfl rfl (by decide) (Nat.le_of_ble_eq_true rfl) (dk D_X11_way 2 rfl) ?_
  refine g_if_eq (tgt := 10) (dk D_X11_way 3 rfl) rfl (fun hc2 => ?_) (fun hc2 => ?_)
  · refine g_iload_n (dk D_X11_way 6 rfl) rfl ?_
    refine h_callS (st := []) (c_X11_isDay (E := E) S0 I0 x2) cl_RX11_200 rfl rfl (by decide) (Nat.le_of_ble_eq_true rfl) (dk D_X11_way 7 rfl) ?_
    refine g_if_eq (tgt := 29) (dk D_X11_way 8 rfl) rfl (fun hc4 => ?_) (fun hc4 => ?_)
    · refine g_bipush (v := ((-2) : Int32)) (dk D_X11_way 15 rfl) rfl ?_
      exact g_ireturn rfl rfl Sx.rf rfl (by decide) (by decide) (dk D_X11_way 16 rfl)
    · refine g_iload_n (dk D_X11_way 9 rfl) rfl ?_
      refine g_i2l (dk D_X11_way 10 rfl) ?_
      refine g_lconst (v := (0 : Int64)) (dk D_X11_way 11 rfl) rfl ?_
      refine g_ldc2 (dk D_X11_way 12 rfl) lk_RX11_143 ?_
      refine h_callS (st := []) (c_X11_in (E := E) S0 I0 x3.toInt64 (0 : Int64) (2 : Int64)) cl_RX11_132 rfl rfl (by decide) (Nat.le_of_ble_eq_true rfl) (dk D_X11_way 13 rfl) ?_
      refine g_if_ne (tgt := 32) (dk D_X11_way 14 rfl) rfl (fun hc6 => ?_) (fun hc6 => ?_)
      · refine g_aload_n (dk D_X11_way 17 rfl) rfl ?_
        refine g_aload_n (dk D_X11_way 18 rfl) rfl ?_
        refine g_iload_n (dk D_X11_way 19 rfl) rfl ?_
        refine g_bind (fun q7 hq8 => ?_)
        refine h_callVt (st := [vA (a0 + 1)]) (c_X11_runningOn (E := E) fu S0 I0 a0 x2 q7 hq8 (ht0)) cl_RX11_285 ht0 rfl rfl (by decide) (Nat.le_of_ble_eq_true rfl) (dk D_X11_way 20 rfl) ?_
        refine g_putIt fl_RX11_260 fp_11_28 (fun h => (by cases h)) (by decide) rfl rfl ht0 (dk D_X11_way 21 rfl) ?_
        refine g_ltI (fun I10 eI10 => ?_)
        refine g_aload_n (dk D_X11_way 22 rfl) rfl ?_
        refine g_iload_n (dk D_X11_way 23 rfl) rfl ?_
        refine g_bind (fun q11 hq12 => ?_)
        refine h_callVt (st := []) (c_X11_layWay (E := E) fu S0 I10 a0 x1 q11 hq12 (ht0)) cl_RX11_288 ht0 rfl rfl (by decide) (Nat.le_of_ble_eq_true rfl) (dk D_X11_way 24 rfl) ?_
        refine g_aload_n (dk D_X11_way 25 rfl) rfl ?_
        refine g_getIt fl_RX11_273 (by decide) ht0 (dk D_X11_way 26 rfl) ?_
        refine g_ldc (dk D_X11_way 27 rfl) lk_RX11_216 ?_
        refine g_icmp_ne (tgt := 60) (dk D_X11_way 28 rfl) rfl (fun hc14 => ?_) (fun hc14 => ?_)
        · refine g_iload_n (dk D_X11_way 31 rfl) rfl ?_
          refine g_if_ne (tgt := 71) (dk D_X11_way 32 rfl) rfl (fun hc15 => ?_) (fun hc15 => ?_)
          · refine g_iload_n (dk D_X11_way 36 rfl) rfl ?_
            refine g_iconst (v := (1 : Int32)) (dk D_X11_way 37 rfl) rfl ?_
            refine g_icmp_ne (tgt := 83) (dk D_X11_way 38 rfl) rfl (fun hc16 => ?_) (fun hc16 => ?_)
            · refine g_aload_n (dk D_X11_way 42 rfl) rfl ?_
              refine g_getIt fl_RX11_279 (by decide) ht0 (dk D_X11_way 43 rfl) ?_
              exact g_ireturn rfl rfl Sx.rf rfl (by decide) (by decide) (dk D_X11_way 44 rfl)
            · refine g_aload_n (dk D_X11_way 39 rfl) rfl ?_
              refine g_getIt fl_RX11_276 (by decide) ht0 (dk D_X11_way 40 rfl) ?_
              refine g_goto (tgt := 87) (dk D_X11_way 41 rfl) rfl ?_
              exact g_ireturn rfl rfl Sx.rf rfl (by decide) (by decide) (dk D_X11_way 44 rfl)
          · refine g_aload_n (dk D_X11_way 33 rfl) rfl ?_
            refine g_getIt fl_RX11_273 (by decide) ht0 (dk D_X11_way 34 rfl) ?_
            refine g_goto (tgt := 87) (dk D_X11_way 35 rfl) rfl ?_
            exact g_ireturn rfl rfl Sx.rf rfl (by decide) (by decide) (dk D_X11_way 44 rfl)
        · refine g_bipush (v := ((-9) : Int32)) (dk D_X11_way 29 rfl) rfl ?_
          refine g_goto (tgt := 87) (dk D_X11_way 30 rfl) rfl ?_
          exact g_ireturn rfl rfl Sx.rf rfl (by decide) (by decide) (dk D_X11_way 44 rfl)
      · refine g_bipush (v := ((-2) : Int32)) (dk D_X11_way 15 rfl) rfl ?_
        exact g_ireturn rfl rfl Sx.rf rfl (by decide) (by decide) (dk D_X11_way 16 rfl)
  · refine g_iconst (v := ((-1) : Int32)) (dk D_X11_way 4 rfl) rfl ?_
    exact g_ireturn rfl rfl Sx.rf rfl (by decide) (by decide) (dk D_X11_way 5 rfl)
theorem c_X11_way {E : EV} (fu : Nat) (S0 : Sk) (I0 : II) (a0 : Nat) (x1 : Int32) (x2 : Int32) (x3 : Int32) (r : Int32 × II) (h : f_X11_way fu S0 I0 a0 x1 x2 x3 = some r) (ht0 : tyO S0 11 a0) : MX E yX11_way i_X11_way S0 I0 [vA (a0 + 1), vI x1, vI x2, vI x3] (po_X11_way S0 I0 r) :=
  MX.of h (by decide) rfl rfl (Nat.le_of_ble_eq_true rfl) (gg_X11_way fu S0 I0 a0 x1 x2 x3 ht0)
def tb_X11_worse : List (Nat × Instr × Nat) := [(0, .aload_n 0, 1), (1, .aload_n 0, 1), (2, .iload_n 2, 1), (3, .invokevirtual 285, 3), (6, .putfield 260, 3), (9, .aload_n 0, 1), (10, .iload_n 1, 1), (11, .invokevirtual 288, 3), (14, .aload_n 0, 1), (15, .getfield 273, 3), (18, .istore 4, 2), (20, .aload_n 0, 1), (21, .aload_n 0, 1), (22, .iload_n 3, 1), (23, .invokevirtual 285, 3), (26, .putfield 260, 3), (29, .aload_n 0, 1), (30, .iload_n 1, 1), (31, .invokevirtual 288, 3), (34, .iload 4, 2), (36, .ldc 216, 2), (38, .if_icmp .ne 7, 3), (41, .iconst 0, 1), (42, .goto 29, 3), (45, .aload_n 0, 1), (46, .getfield 273, 3), (49, .ldc 216, 2), (51, .if_icmp .ne 9, 3), (54, .sipush 9999, 3), (57, .goto 14, 3), (60, .iconst 0, 1), (61, .aload_n 0, 1), (62, .getfield 273, 3), (65, .iload 4, 2), (67, .isub, 1), (68, .invokestatic 194, 3), (71, .ireturn, 1)]
def i_X11_worse : MI := (RX11, cX11_worse, 5, (some .int), "worse", { frames := 4, cells := 0, slots := 0, locals := 99 })
theorem D_X11_worse : tbOK (i_X11_worse).2.1 tb_X11_worse := by show ∀ q ∈ tb_X11_worse, decode cX11_worse q.1 = .ok (q.2.1, q.2.2); decide +kernel
def po_X11_worse (S : Sk) (I : II) (r : Int32 × II) : Option LV × Sk × II := (some (vI r.1), S, r.2)
def f_X11_worse (fu : Nat) (S : Sk) (I : II) (a0 : Nat) (x1 : Int32) (x2 : Int32) (x3 : Int32) : Option (Int32 × II) :=
  (f_X11_runningOn fu S I a0 x2).bind fun q1 => (lt (upI I a0 28 q1) fun I4 => ((f_X11_layWay fu S I4 a0 x1).bind fun q5 => (lt (q5 a0 31) fun x4_8 => ((f_X11_runningOn fu S q5 a0 x3).bind fun q9 => (lt (upI q5 a0 28 q9) fun I12 => ((f_X11_layWay fu S I12 a0 x1).bind fun q13 => (if x4_8 = (1000000 : Int32) then some (((0 : Int32), q13)) else if (q13 a0 31) = (1000000 : Int32) then some (((9999 : Int32), q13)) else some (((t_X11_greater (0 : Int32) ((q13 a0 31) - x4_8)), q13)))))))))
set_option maxRecDepth 100000 in
set_option maxHeartbeats 4000000 in
theorem gg_X11_worse {E : EV} (fu : Nat) (S0 : Sk) (I0 : II) (a0 : Nat) (x1 : Int32) (x2 : Int32) (x3 : Int32) (ht0 : tyO S0 11 a0) : GG E i_X11_worse (enM E i_X11_worse S0 (po_X11_worse S0 I0)) S0 I0 (0, 0) 0 [(0, vA (a0 + 1)), (1, vI x1), (2, vI x2), (3, vI x3)] [] (f_X11_worse fu S0 I0 a0 x1 x2 x3) := by
  unfold f_X11_worse
  refine g_aload_n (dk D_X11_worse 0 rfl) rfl ?_
  refine g_aload_n (dk D_X11_worse 1 rfl) rfl ?_
  refine g_iload_n (dk D_X11_worse 2 rfl) rfl ?_
  refine g_bind (fun q1 hq2 => ?_)
  refine h_callVt (st := [vA (a0 + 1)]) (c_X11_runningOn (E := E) fu S0 I0 a0 x2 q1 hq2 (ht0)) cl_RX11_285 ht0 rfl rfl (by decide) (Nat.le_of_ble_eq_true rfl) (dk D_X11_worse 3 rfl) ?_
  refine g_putIt fl_RX11_260 fp_11_28 (fun h => (by cases h)) (by decide) rfl rfl ht0 (dk D_X11_worse 4 rfl) ?_
  refine g_ltI (fun I4 eI4 => ?_)
  refine g_aload_n (dk D_X11_worse 5 rfl) rfl ?_
  refine g_iload_n (dk D_X11_worse 6 rfl) rfl ?_
  refine g_bind (fun q5 hq6 => ?_)
  refine h_callVt (st := []) (c_X11_layWay (E := E) fu S0 I4 a0 x1 q5 hq6 (ht0)) cl_RX11_288 ht0 rfl rfl (by decide) (Nat.le_of_ble_eq_true rfl) (dk D_X11_worse 7 rfl) ?_
  refine g_aload_n (dk D_X11_worse 8 rfl) rfl ?_
  refine g_getIt fl_RX11_273 (by decide) ht0 (dk D_X11_worse 9 rfl) ?_
  refine g_ltV (fun x4_8 ex4_8 => ?_)
  refine g_istore (L' := [(0, vA (a0 + 1)), (1, vI x1), (2, vI x2), (3, vI x3), (4, vI x4_8)]) (dk D_X11_worse 10 rfl) (Nat.le_of_ble_eq_true rfl) rfl ?_
  refine g_aload_n (dk D_X11_worse 11 rfl) rfl ?_
  refine g_aload_n (dk D_X11_worse 12 rfl) rfl ?_
  refine g_iload_n (dk D_X11_worse 13 rfl) rfl ?_
  refine g_bind (fun q9 hq10 => ?_)
  refine h_callVt (st := [vA (a0 + 1)]) (c_X11_runningOn (E := E) fu S0 q5 a0 x3 q9 hq10 (ht0)) cl_RX11_285 ht0 rfl rfl (by decide) (Nat.le_of_ble_eq_true rfl) (dk D_X11_worse 14 rfl) ?_
  refine g_putIt fl_RX11_260 fp_11_28 (fun h => (by cases h)) (by decide) rfl rfl ht0 (dk D_X11_worse 15 rfl) ?_
  refine g_ltI (fun I12 eI12 => ?_)
  refine g_aload_n (dk D_X11_worse 16 rfl) rfl ?_
  refine g_iload_n (dk D_X11_worse 17 rfl) rfl ?_
  refine g_bind (fun q13 hq14 => ?_)
  refine h_callVt (st := []) (c_X11_layWay (E := E) fu S0 I12 a0 x1 q13 hq14 (ht0)) cl_RX11_288 ht0 rfl rfl (by decide) (Nat.le_of_ble_eq_true rfl) (dk D_X11_worse 18 rfl) ?_
  refine g_iload (dk D_X11_worse 19 rfl) rfl ?_
  refine g_ldc (dk D_X11_worse 20 rfl) lk_RX11_216 ?_
  refine g_icmp_ne (tgt := 45) (dk D_X11_worse 21 rfl) rfl (fun hc16 => ?_) (fun hc16 => ?_)
  · refine g_aload_n (dk D_X11_worse 24 rfl) rfl ?_
    refine g_getIt fl_RX11_273 (by decide) ht0 (dk D_X11_worse 25 rfl) ?_
    refine g_ldc (dk D_X11_worse 26 rfl) lk_RX11_216 ?_
    refine g_icmp_ne (tgt := 60) (dk D_X11_worse 27 rfl) rfl (fun hc17 => ?_) (fun hc17 => ?_)
    · refine g_iconst (v := (0 : Int32)) (dk D_X11_worse 30 rfl) rfl ?_
      refine g_aload_n (dk D_X11_worse 31 rfl) rfl ?_
      refine g_getIt fl_RX11_273 (by decide) ht0 (dk D_X11_worse 32 rfl) ?_
      refine g_iload (dk D_X11_worse 33 rfl) rfl ?_
      refine g_isub (dk D_X11_worse 34 rfl) ?_
      refine h_callS (st := []) (c_X11_greater (E := E) S0 q13 (0 : Int32) ((q13 a0 31) - x4_8)) cl_RX11_194 rfl rfl (by decide) (Nat.le_of_ble_eq_true rfl) (dk D_X11_worse 35 rfl) ?_
      exact g_ireturn rfl rfl Sx.rf rfl (by decide) (by decide) (dk D_X11_worse 36 rfl)
    · refine g_sipush (v := (9999 : Int32)) (dk D_X11_worse 28 rfl) rfl ?_
      refine g_goto (tgt := 71) (dk D_X11_worse 29 rfl) rfl ?_
      exact g_ireturn rfl rfl Sx.rf rfl (by decide) (by decide) (dk D_X11_worse 36 rfl)
  · refine g_iconst (v := (0 : Int32)) (dk D_X11_worse 22 rfl) rfl ?_
    refine g_goto (tgt := 71) (dk D_X11_worse 23 rfl) rfl ?_
    exact g_ireturn rfl rfl Sx.rf rfl (by decide) (by decide) (dk D_X11_worse 36 rfl)
theorem c_X11_worse {E : EV} (fu : Nat) (S0 : Sk) (I0 : II) (a0 : Nat) (x1 : Int32) (x2 : Int32) (x3 : Int32) (r : Int32 × II) (h : f_X11_worse fu S0 I0 a0 x1 x2 x3 = some r) (ht0 : tyO S0 11 a0) : MX E yX11_worse i_X11_worse S0 I0 [vA (a0 + 1), vI x1, vI x2, vI x3] (po_X11_worse S0 I0 r) :=
  MX.of h (by decide) rfl rfl (Nat.le_of_ble_eq_true rfl) (gg_X11_worse fu S0 I0 a0 x1 x2 x3 ht0)
theorem cl_RX11_292 : CV0 RX11 292 yX11_worse i_X11_worse 3 11 := ⟨⟨(gm 1335 (by decide +kernel) (by decide +kernel)), (gm 72 (by decide +kernel) (by decide +kernel)), ((gm 1338 (by decide +kernel) (by decide +kernel))), by decide +kernel, by decide +kernel, by decide +kernel⟩, ⟨(gm 1337 (by decide +kernel) (by decide +kernel)), (gm 46 (by decide +kernel) (by decide +kernel))⟩, rfl, by decide⟩
def tb_X11_lose : List (Nat × Instr × Nat) := [(0, .aload_n 0, 1), (1, .iload_n 1, 1), (2, .invokevirtual 282, 3), (5, .ifCond .eq 5, 3), (8, .iconst (-1), 1), (9, .ireturn, 1), (10, .iload_n 2, 1), (11, .invokestatic 200, 3), (14, .ifCond .eq 20, 3), (17, .iload_n 3, 1), (18, .invokestatic 200, 3), (21, .ifCond .eq 13, 3), (24, .aload_n 0, 1), (25, .iload_n 1, 1), (26, .iload_n 2, 1), (27, .iload_n 3, 1), (28, .invokevirtual 292, 3), (31, .goto 5, 3), (34, .bipush (-2), 2), (36, .ireturn, 1)]
def i_X11_lose : MI := (RX11, cX11_lose, 4, (some .int), "lose", { frames := 5, cells := 0, slots := 0, locals := 123 })
theorem D_X11_lose : tbOK (i_X11_lose).2.1 tb_X11_lose := by show ∀ q ∈ tb_X11_lose, decode cX11_lose q.1 = .ok (q.2.1, q.2.2); decide +kernel
def po_X11_lose (S : Sk) (I : II) (r : Int32 × II) : Option LV × Sk × II := (some (vI r.1), S, r.2)
def f_X11_lose (fu : Nat) (S : Sk) (I : II) (a0 : Nat) (x1 : Int32) (x2 : Int32) (x3 : Int32) : Option (Int32 × II) :=
  if (t_X11_noTrip I a0 x1) = 0 then if (t_X11_isDay x2) = 0 then some ((((-2) : Int32), I)) else if (t_X11_isDay x3) = 0 then some ((((-2) : Int32), I)) else (f_X11_worse fu S I a0 x1 x2 x3).bind fun q7 => (some ((q7.1, q7.2))) else some ((((-1) : Int32), I))
set_option maxRecDepth 100000 in
set_option maxHeartbeats 4000000 in
theorem gg_X11_lose {E : EV} (fu : Nat) (S0 : Sk) (I0 : II) (a0 : Nat) (x1 : Int32) (x2 : Int32) (x3 : Int32) (ht0 : tyO S0 11 a0) : GG E i_X11_lose (enM E i_X11_lose S0 (po_X11_lose S0 I0)) S0 I0 (0, 0) 0 [(0, vA (a0 + 1)), (1, vI x1), (2, vI x2), (3, vI x3)] [] (f_X11_lose fu S0 I0 a0 x1 x2 x3) := by
  unfold f_X11_lose
  refine g_aload_n (dk D_X11_lose 0 rfl) rfl ?_
  refine g_iload_n (dk D_X11_lose 1 rfl) rfl ?_
  refine h_callVt (st := []) (c_X11_noTrip (E := E) S0 I0 a0 x1 (ht0)) cl_RX11_282 ht0 rfl rfl (by decide) (Nat.le_of_ble_eq_true rfl) (dk D_X11_lose 2 rfl) ?_
  refine g_if_eq (tgt := 10) (dk D_X11_lose 3 rfl) rfl (fun hc2 => ?_) (fun hc2 => ?_)
  · refine g_iload_n (dk D_X11_lose 6 rfl) rfl ?_
    refine h_callS (st := []) (c_X11_isDay (E := E) S0 I0 x2) cl_RX11_200 rfl rfl (by decide) (Nat.le_of_ble_eq_true rfl) (dk D_X11_lose 7 rfl) ?_
    refine g_if_eq (tgt := 34) (dk D_X11_lose 8 rfl) rfl (fun hc4 => ?_) (fun hc4 => ?_)
    · refine g_bipush (v := ((-2) : Int32)) (dk D_X11_lose 18 rfl) rfl ?_
      exact g_ireturn rfl rfl Sx.rf rfl (by decide) (by decide) (dk D_X11_lose 19 rfl)
    · refine g_iload_n (dk D_X11_lose 9 rfl) rfl ?_
      refine h_callS (st := []) (c_X11_isDay (E := E) S0 I0 x3) cl_RX11_200 rfl rfl (by decide) (Nat.le_of_ble_eq_true rfl) (dk D_X11_lose 10 rfl) ?_
      refine g_if_eq (tgt := 34) (dk D_X11_lose 11 rfl) rfl (fun hc6 => ?_) (fun hc6 => ?_)
      · refine g_bipush (v := ((-2) : Int32)) (dk D_X11_lose 18 rfl) rfl ?_
        exact g_ireturn rfl rfl Sx.rf rfl (by decide) (by decide) (dk D_X11_lose 19 rfl)
      · refine g_aload_n (dk D_X11_lose 12 rfl) rfl ?_
        refine g_iload_n (dk D_X11_lose 13 rfl) rfl ?_
        refine g_iload_n (dk D_X11_lose 14 rfl) rfl ?_
        refine g_iload_n (dk D_X11_lose 15 rfl) rfl ?_
        refine g_bind (fun q7 hq8 => ?_)
        refine h_callVt (st := []) (c_X11_worse (E := E) fu S0 I0 a0 x1 x2 x3 q7 hq8 (ht0)) cl_RX11_292 ht0 rfl rfl (by decide) (Nat.le_of_ble_eq_true rfl) (dk D_X11_lose 16 rfl) ?_
        refine g_goto (tgt := 36) (dk D_X11_lose 17 rfl) rfl ?_
        exact g_ireturn rfl rfl Sx.rf rfl (by decide) (by decide) (dk D_X11_lose 19 rfl)
  · refine g_iconst (v := ((-1) : Int32)) (dk D_X11_lose 4 rfl) rfl ?_
    exact g_ireturn rfl rfl Sx.rf rfl (by decide) (by decide) (dk D_X11_lose 5 rfl)
theorem c_X11_lose {E : EV} (fu : Nat) (S0 : Sk) (I0 : II) (a0 : Nat) (x1 : Int32) (x2 : Int32) (x3 : Int32) (r : Int32 × II) (h : f_X11_lose fu S0 I0 a0 x1 x2 x3 = some r) (ht0 : tyO S0 11 a0) : MX E yX11_lose i_X11_lose S0 I0 [vA (a0 + 1), vI x1, vI x2, vI x3] (po_X11_lose S0 I0 r) :=
  MX.of h (by decide) rfl rfl (Nat.le_of_ble_eq_true rfl) (gg_X11_lose fu S0 I0 a0 x1 x2 x3 ht0)
theorem lk_RX11_295 : Cond.constantLong RX11 295 (4 : Int64) ∈ lw_good := (gm 1343 (by decide +kernel) (by decide +kernel))
def tb_X11_who : List (Nat × Instr × Nat) := [(0, .iload_n 1, 1), (1, .invokestatic 200, 3), (4, .ifCond .eq 22, 3), (7, .iload_n 2, 1), (8, .invokestatic 200, 3), (11, .ifCond .eq 15, 3), (14, .iload_n 3, 1), (15, .i2l, 1), (16, .lconst 0, 1), (17, .ldc2_w 295, 3), (20, .invokestatic 132, 3), (23, .ifCond .ne 6, 3), (26, .bipush (-2), 2), (28, .ireturn, 1), (29, .iconst 0, 1), (30, .istore 4, 2), (32, .iconst 0, 1), (33, .istore 5, 2), (35, .iconst 0, 1), (36, .istore 6, 2), (38, .iload 6, 2), (40, .aload_n 0, 1), (41, .getfield 249, 3), (44, .if_icmp .ge 109, 3), (47, .iload_n 3, 1), (48, .ifCond .eq 8, 3), (51, .iload_n 3, 1), (52, .iconst 3, 1), (53, .if_icmp .ne 14, 3), (56, .aload_n 0, 1), (57, .iload 6, 2), (59, .iload_n 1, 1), (60, .iload_n 2, 1), (61, .invokevirtual 292, 3), (64, .goto 20, 3), (67, .iload_n 3, 1), (68, .iconst 2, 1), (69, .if_icmp .ne 7, 3), (72, .iconst 0, 1), (73, .goto 11, 3), (76, .aload_n 0, 1), (77, .iload 6, 2), (79, .iload_n 2, 1), (80, .iload_n 1, 1), (81, .invokevirtual 292, 3), (84, .istore 7, 2), (86, .iload_n 3, 1), (87, .iconst 2, 1), (88, .if_icmp .ne 34, 3), (91, .aload_n 0, 1), (92, .aload_n 0, 1), (93, .iload_n 2, 1), (94, .invokevirtual 285, 3), (97, .putfield 260, 3), (100, .aload_n 0, 1), (101, .iload 6, 2), (103, .invokevirtual 288, 3), (106, .aload_n 0, 1), (107, .getfield 273, 3), (110, .ldc 216, 2), (112, .if_icmp .ne 7, 3), (115, .iconst 1, 1), (116, .goto 4, 3), (119, .iconst 0, 1), (120, .istore 7, 2), (122, .iload 4, 2), (124, .iload 7, 2), (126, .ifCond .le 10, 3), (129, .iconst 1, 1), (130, .iload 6, 2), (132, .ishl, 1), (133, .goto 4, 3), (136, .iconst 0, 1), (137, .ior, 1), (138, .istore 4, 2), (140, .iload 5, 2), (142, .iload 7, 2), (144, .iadd, 1), (145, .istore 5, 2), (147, .iinc 6 1, 3), (150, .goto (-112), 3), (153, .iload_n 3, 1), (154, .iconst 3, 1), (155, .if_icmp .ge 8, 3), (158, .iload 4, 2), (160, .goto 5, 3), (163, .iload 5, 2), (165, .ireturn, 1)]
def i_X11_who : MI := (RX11, cX11_who, 8, (some .int), "who", { frames := 5, cells := 0, slots := 0, locals := 123 })
theorem D_X11_who : tbOK (i_X11_who).2.1 tb_X11_who := by show ∀ q ∈ tb_X11_who, decode cX11_who q.1 = .ok (q.2.1, q.2.2); decide +kernel
def po_X11_who (S : Sk) (I : II) (r : Int32 × II) : Option LV × Sk × II := (some (vI r.1), S, r.2)
def jn_X11_who_137 (fu : Nat) (S : Sk) (I : II) (self38 : Int32 → Int32 → Int32 → II → Option (Int32 × II)) (a0 : Nat) (x1 : Int32) (x2 : Int32) (x3 : Int32) (x5 : Int32) (x6 : Int32) (x7 : Int32) (s0 : Int32) (s1 : Int32) : Option (Int32 × II) :=
  lt (s0 ||| s1) fun x4_1 => (lt (x5 + x7) fun x5_2 => (self38 x4_1 x5_2 (x6 + (1 : Int32)) I))
def jn_X11_who_122 (fu : Nat) (S : Sk) (I : II) (self38 : Int32 → Int32 → Int32 → II → Option (Int32 × II)) (a0 : Nat) (x1 : Int32) (x2 : Int32) (x3 : Int32) (x4 : Int32) (x5 : Int32) (x6 : Int32) (x7 : Int32) : Option (Int32 × II) :=
  if x7 ≤ 0 then jn_X11_who_137 fu S I self38 a0 x1 x2 x3 x5 x6 x7 x4 (0 : Int32) else jn_X11_who_137 fu S I self38 a0 x1 x2 x3 x5 x6 x7 x4 ((1 : Int32) <<< (x6 &&& 31))
def jn_X11_who_120 (fu : Nat) (S : Sk) (I : II) (self38 : Int32 → Int32 → Int32 → II → Option (Int32 × II)) (a0 : Nat) (x1 : Int32) (x2 : Int32) (x3 : Int32) (x4 : Int32) (x5 : Int32) (x6 : Int32) (s0 : Int32) : Option (Int32 × II) :=
  jn_X11_who_122 fu S I self38 a0 x1 x2 x3 x4 x5 x6 s0
def jn_X11_who_84 (fu : Nat) (S : Sk) (I : II) (self38 : Int32 → Int32 → Int32 → II → Option (Int32 × II)) (a0 : Nat) (x1 : Int32) (x2 : Int32) (x3 : Int32) (x4 : Int32) (x5 : Int32) (x6 : Int32) (s0 : Int32) : Option (Int32 × II) :=
  if x3 = (2 : Int32) then (f_X11_runningOn fu S I a0 x2).bind fun q5 => (lt (upI I a0 28 q5) fun I8 => ((f_X11_layWay fu S I8 a0 x6).bind fun q9 => (if (q9 a0 31) = (1000000 : Int32) then jn_X11_who_120 fu S q9 self38 a0 x1 x2 x3 x4 x5 x6 (1 : Int32) else jn_X11_who_120 fu S q9 self38 a0 x1 x2 x3 x4 x5 x6 (0 : Int32)))) else jn_X11_who_122 fu S I self38 a0 x1 x2 x3 x4 x5 x6 s0
def jn_X11_who_56 (fu : Nat) (S : Sk) (I : II) (self38 : Int32 → Int32 → Int32 → II → Option (Int32 × II)) (a0 : Nat) (x1 : Int32) (x2 : Int32) (x3 : Int32) (x4 : Int32) (x5 : Int32) (x6 : Int32) : Option (Int32 × II) :=
  (f_X11_worse fu S I a0 x6 x1 x2).bind fun q13 => (jn_X11_who_84 fu S q13.2 self38 a0 x1 x2 x3 x4 x5 x6 q13.1)
def lp_X11_who_38 (fu : Nat) (S : Sk) (a0 : Nat) (x1 : Int32) (x2 : Int32) (x3 : Int32) (self38 : Int32 → Int32 → Int32 → II → Option (Int32 × II)) (x4 : Int32) (x5 : Int32) (x6 : Int32) (I : II) : Option (Int32 × II) :=
  if (I a0 22) ≤ x6 then if (3 : Int32) ≤ x3 then some ((x5, I)) else some ((x4, I)) else if x3 = 0 then jn_X11_who_56 fu S I self38 a0 x1 x2 x3 x4 x5 x6 else if x3 = (3 : Int32) then jn_X11_who_56 fu S I self38 a0 x1 x2 x3 x4 x5 x6 else if x3 = (2 : Int32) then jn_X11_who_84 fu S I self38 a0 x1 x2 x3 x4 x5 x6 (0 : Int32) else (f_X11_worse fu S I a0 x6 x2 x1).bind fun q21 => (jn_X11_who_84 fu S q21.2 self38 a0 x1 x2 x3 x4 x5 x6 q21.1)
def f_X11_who (fu : Nat) (S : Sk) (I : II) (a0 : Nat) (x1 : Int32) (x2 : Int32) (x3 : Int32) : Option (Int32 × II) :=
  if (t_X11_isDay x1) = 0 then some ((((-2) : Int32), I)) else if (t_X11_isDay x2) = 0 then some ((((-2) : Int32), I)) else if (t_X11_in x3.toInt64 (0 : Int64) (4 : Int64)) = 0 then some ((((-2) : Int32), I)) else fix4 (lp_X11_who_38 fu S a0 x1 x2 x3) fu (0 : Int32) (0 : Int32) (0 : Int32) I
set_option maxRecDepth 100000 in
set_option maxHeartbeats 4000000 in
theorem gg_X11_who {E : EV} (fu : Nat) (S0 : Sk) (I0 : II) (a0 : Nat) (x1 : Int32) (x2 : Int32) (x3 : Int32) (ht0 : tyO S0 11 a0) : GG E i_X11_who (enM E i_X11_who S0 (po_X11_who S0 I0)) S0 I0 (0, 0) 0 [(0, vA (a0 + 1)), (1, vI x1), (2, vI x2), (3, vI x3)] [] (f_X11_who fu S0 I0 a0 x1 x2 x3) := by
  have hl38 : ∀ (nn : Nat) (x4 : Int32) (x5 : Int32) (x6 : Int32) (I : II), True → GG E i_X11_who (enM E i_X11_who S0 (po_X11_who S0 I0)) S0 I (0, 0) 38 [(0, vA (a0 + 1)), (1, vI x1), (2, vI x2), (3, vI x3), (4, vI x4), (5, vI x5), (6, vI x6)] [] (fix4 (lp_X11_who_38 fu S0 a0 x1 x2 x3) nn x4 x5 x6 I) := by
    refine g_fix4 (fun _ _ _ _ => S0) (fun x4 x5 x6 I => I) (fun x4 x5 x6 I => [(0, vA (a0 + 1)), (1, vI x1), (2, vI x2), (3, vI x3), (4, vI x4), (5, vI x5), (6, vI x6)]) (fun x4 x5 x6 I => True) ?_
    intro self38 hself38 x4 x5 x6 I hinv
    have hj137 : ∀ (I : II) (x5 : Int32) (x6 : Int32) (x7 : Int32) (s0 : Int32) (s1 : Int32), GG E i_X11_who (enM E i_X11_who S0 (po_X11_who S0 I0)) S0 I (0, 0) 137 [(0, vA (a0 + 1)), (1, vI x1), (2, vI x2), (3, vI x3), (5, vI x5), (6, vI x6), (7, vI x7)] [vI s1, vI s0] (jn_X11_who_137 fu S0 I self38 a0 x1 x2 x3 x5 x6 x7 s0 s1) := by
      intro I x5 x6 x7 s0 s1 
      unfold jn_X11_who_137
      refine g_ior (dk D_X11_who 73 rfl) ?_
      refine g_ltV (fun x4_1 ex4_1 => ?_)
      refine g_istore (L' := [(0, vA (a0 + 1)), (1, vI x1), (2, vI x2), (3, vI x3), (4, vI x4_1), (5, vI x5), (6, vI x6), (7, vI x7)]) (dk D_X11_who 74 rfl) (Nat.le_of_ble_eq_true rfl) rfl ?_
      refine g_iload (dk D_X11_who 75 rfl) rfl ?_
      refine g_iload (dk D_X11_who 76 rfl) rfl ?_
      refine g_iadd (dk D_X11_who 77 rfl) ?_
      refine g_ltV (fun x5_2 ex5_2 => ?_)
      refine g_istore (L' := [(0, vA (a0 + 1)), (1, vI x1), (2, vI x2), (3, vI x3), (4, vI x4_1), (5, vI x5_2), (6, vI x6), (7, vI x7)]) (dk D_X11_who 78 rfl) (Nat.le_of_ble_eq_true rfl) rfl ?_
      refine g_iinc (v := (1 : Int32)) (L' := [(0, vA (a0 + 1)), (1, vI x1), (2, vI x2), (3, vI x3), (4, vI x4_1), (5, vI x5_2), (6, vI (x6 + (1 : Int32))), (7, vI x7)]) (dk D_X11_who 79 rfl) rfl rfl (Nat.le_of_ble_eq_true rfl) rfl ?_
      refine g_goto (tgt := 38) (dk D_X11_who 80 rfl) rfl ?_
      refine g_Lp [0, 1, 2, 3, 4, 5, 6] rfl ?_
      exact hself38 x4_1 x5_2 (x6 + (1 : Int32)) I trivial
    have hj122 : ∀ (I : II) (x4 : Int32) (x5 : Int32) (x6 : Int32) (x7 : Int32), GG E i_X11_who (enM E i_X11_who S0 (po_X11_who S0 I0)) S0 I (0, 0) 122 [(0, vA (a0 + 1)), (1, vI x1), (2, vI x2), (3, vI x3), (4, vI x4), (5, vI x5), (6, vI x6), (7, vI x7)] [] (jn_X11_who_122 fu S0 I self38 a0 x1 x2 x3 x4 x5 x6 x7) := by
      intro I x4 x5 x6 x7 
      unfold jn_X11_who_122
      refine g_iload (dk D_X11_who 65 rfl) rfl ?_
      refine g_iload (dk D_X11_who 66 rfl) rfl ?_
      refine g_if_le (tgt := 136) (dk D_X11_who 67 rfl) rfl (fun hc3 => ?_) (fun hc3 => ?_)
      · refine g_iconst (v := (0 : Int32)) (dk D_X11_who 72 rfl) rfl ?_
        refine g_Lp [0, 1, 2, 3, 5, 6, 7] rfl ?_
        exact hj137 I x5 x6 x7 x4 (0 : Int32)
      · refine g_iconst (v := (1 : Int32)) (dk D_X11_who 68 rfl) rfl ?_
        refine g_iload (dk D_X11_who 69 rfl) rfl ?_
        refine g_ishl (dk D_X11_who 70 rfl) ?_
        refine g_goto (tgt := 137) (dk D_X11_who 71 rfl) rfl ?_
        refine g_Lp [0, 1, 2, 3, 5, 6, 7] rfl ?_
        exact hj137 I x5 x6 x7 x4 ((1 : Int32) <<< (x6 &&& 31))
    have hj120 : ∀ (I : II) (x4 : Int32) (x5 : Int32) (x6 : Int32) (s0 : Int32), GG E i_X11_who (enM E i_X11_who S0 (po_X11_who S0 I0)) S0 I (0, 0) 120 [(0, vA (a0 + 1)), (1, vI x1), (2, vI x2), (3, vI x3), (4, vI x4), (5, vI x5), (6, vI x6)] [vI s0] (jn_X11_who_120 fu S0 I self38 a0 x1 x2 x3 x4 x5 x6 s0) := by
      intro I x4 x5 x6 s0 
      unfold jn_X11_who_120
      refine g_istore (L' := [(0, vA (a0 + 1)), (1, vI x1), (2, vI x2), (3, vI x3), (4, vI x4), (5, vI x5), (6, vI x6), (7, vI s0)]) (dk D_X11_who 64 rfl) (Nat.le_of_ble_eq_true rfl) rfl ?_
      exact hj122 I x4 x5 x6 s0
    have hj84 : ∀ (I : II) (x4 : Int32) (x5 : Int32) (x6 : Int32) (s0 : Int32), GG E i_X11_who (enM E i_X11_who S0 (po_X11_who S0 I0)) S0 I (0, 0) 84 [(0, vA (a0 + 1)), (1, vI x1), (2, vI x2), (3, vI x3), (4, vI x4), (5, vI x5), (6, vI x6)] [vI s0] (jn_X11_who_84 fu S0 I self38 a0 x1 x2 x3 x4 x5 x6 s0) := by
      intro I x4 x5 x6 s0 
      unfold jn_X11_who_84
      refine g_istore (L' := [(0, vA (a0 + 1)), (1, vI x1), (2, vI x2), (3, vI x3), (4, vI x4), (5, vI x5), (6, vI x6), (7, vI s0)]) (dk D_X11_who 45 rfl) (Nat.le_of_ble_eq_true rfl) rfl ?_
      refine g_iload_n (dk D_X11_who 46 rfl) rfl ?_
      refine g_iconst (v := (2 : Int32)) (dk D_X11_who 47 rfl) rfl ?_
      refine g_icmp_ne (tgt := 122) (dk D_X11_who 48 rfl) rfl (fun hc4 => ?_) (fun hc4 => ?_)
      · exact hj122 I x4 x5 x6 s0
      · refine g_aload_n (dk D_X11_who 49 rfl) rfl ?_
        refine g_aload_n (dk D_X11_who 50 rfl) rfl ?_
        refine g_iload_n (dk D_X11_who 51 rfl) rfl ?_
        refine g_bind (fun q5 hq6 => ?_)
        refine h_callVt (st := [vA (a0 + 1)]) (c_X11_runningOn (E := E) fu S0 I a0 x2 q5 hq6 (ht0)) cl_RX11_285 ht0 rfl rfl (by decide) (Nat.le_of_ble_eq_true rfl) (dk D_X11_who 52 rfl) ?_
        refine g_putIt fl_RX11_260 fp_11_28 (fun h => (by cases h)) (by decide) rfl rfl ht0 (dk D_X11_who 53 rfl) ?_
        refine g_ltI (fun I8 eI8 => ?_)
        refine g_aload_n (dk D_X11_who 54 rfl) rfl ?_
        refine g_iload (dk D_X11_who 55 rfl) rfl ?_
        refine g_bind (fun q9 hq10 => ?_)
        refine h_callVt (st := []) (c_X11_layWay (E := E) fu S0 I8 a0 x6 q9 hq10 (ht0)) cl_RX11_288 ht0 rfl rfl (by decide) (Nat.le_of_ble_eq_true rfl) (dk D_X11_who 56 rfl) ?_
        refine g_aload_n (dk D_X11_who 57 rfl) rfl ?_
        refine g_getIt fl_RX11_273 (by decide) ht0 (dk D_X11_who 58 rfl) ?_
        refine g_ldc (dk D_X11_who 59 rfl) lk_RX11_216 ?_
        refine g_icmp_ne (tgt := 119) (dk D_X11_who 60 rfl) rfl (fun hc12 => ?_) (fun hc12 => ?_)
        · refine g_iconst (v := (0 : Int32)) (dk D_X11_who 63 rfl) rfl ?_
          refine g_Lp [0, 1, 2, 3, 4, 5, 6] rfl ?_
          exact hj120 q9 x4 x5 x6 (0 : Int32)
        · refine g_iconst (v := (1 : Int32)) (dk D_X11_who 61 rfl) rfl ?_
          refine g_goto (tgt := 120) (dk D_X11_who 62 rfl) rfl ?_
          refine g_Lp [0, 1, 2, 3, 4, 5, 6] rfl ?_
          exact hj120 q9 x4 x5 x6 (1 : Int32)
    have hj56 : ∀ (I : II) (x4 : Int32) (x5 : Int32) (x6 : Int32), GG E i_X11_who (enM E i_X11_who S0 (po_X11_who S0 I0)) S0 I (0, 0) 56 [(0, vA (a0 + 1)), (1, vI x1), (2, vI x2), (3, vI x3), (4, vI x4), (5, vI x5), (6, vI x6)] [] (jn_X11_who_56 fu S0 I self38 a0 x1 x2 x3 x4 x5 x6) := by
      intro I x4 x5 x6 
      unfold jn_X11_who_56
      refine g_aload_n (dk D_X11_who 29 rfl) rfl ?_
      refine g_iload (dk D_X11_who 30 rfl) rfl ?_
      refine g_iload_n (dk D_X11_who 31 rfl) rfl ?_
      refine g_iload_n (dk D_X11_who 32 rfl) rfl ?_
      refine g_bind (fun q13 hq14 => ?_)
      refine h_callVt (st := []) (c_X11_worse (E := E) fu S0 I a0 x6 x1 x2 q13 hq14 (ht0)) cl_RX11_292 ht0 rfl rfl (by decide) (Nat.le_of_ble_eq_true rfl) (dk D_X11_who 33 rfl) ?_
      refine g_goto (tgt := 84) (dk D_X11_who 34 rfl) rfl ?_
      exact hj84 q13.2 x4 x5 x6 q13.1
    unfold lp_X11_who_38
    refine g_iload (dk D_X11_who 20 rfl) rfl ?_
    refine g_aload_n (dk D_X11_who 21 rfl) rfl ?_
    refine g_getIt fl_RX11_249 (by decide) ht0 (dk D_X11_who 22 rfl) ?_
    refine g_icmp_ge (tgt := 153) (dk D_X11_who 23 rfl) rfl (fun hc16 => ?_) (fun hc16 => ?_)
    · refine g_iload_n (dk D_X11_who 81 rfl) rfl ?_
      refine g_iconst (v := (3 : Int32)) (dk D_X11_who 82 rfl) rfl ?_
      refine g_icmp_ge (tgt := 163) (dk D_X11_who 83 rfl) rfl (fun hc17 => ?_) (fun hc17 => ?_)
      · refine g_iload (dk D_X11_who 86 rfl) rfl ?_
        exact g_ireturn rfl rfl Sx.rf rfl (by decide) (by decide) (dk D_X11_who 87 rfl)
      · refine g_iload (dk D_X11_who 84 rfl) rfl ?_
        refine g_goto (tgt := 165) (dk D_X11_who 85 rfl) rfl ?_
        exact g_ireturn rfl rfl Sx.rf rfl (by decide) (by decide) (dk D_X11_who 87 rfl)
    · refine g_iload_n (dk D_X11_who 24 rfl) rfl ?_
      refine g_if_eq (tgt := 56) (dk D_X11_who 25 rfl) rfl (fun hc18 => ?_) (fun hc18 => ?_)
      · exact hj56 I x4 x5 x6
      · refine g_iload_n (dk D_X11_who 26 rfl) rfl ?_
        refine g_iconst (v := (3 : Int32)) (dk D_X11_who 27 rfl) rfl ?_
        refine g_icmp_ne (tgt := 67) (dk D_X11_who 28 rfl) rfl (fun hc19 => ?_) (fun hc19 => ?_)
        · refine g_iload_n (dk D_X11_who 35 rfl) rfl ?_
          refine g_iconst (v := (2 : Int32)) (dk D_X11_who 36 rfl) rfl ?_
          refine g_icmp_ne (tgt := 76) (dk D_X11_who 37 rfl) rfl (fun hc20 => ?_) (fun hc20 => ?_)
          · refine g_aload_n (dk D_X11_who 40 rfl) rfl ?_
            refine g_iload (dk D_X11_who 41 rfl) rfl ?_
            refine g_iload_n (dk D_X11_who 42 rfl) rfl ?_
            refine g_iload_n (dk D_X11_who 43 rfl) rfl ?_
            refine g_bind (fun q21 hq22 => ?_)
            refine h_callVt (st := []) (c_X11_worse (E := E) fu S0 I a0 x6 x2 x1 q21 hq22 (ht0)) cl_RX11_292 ht0 rfl rfl (by decide) (Nat.le_of_ble_eq_true rfl) (dk D_X11_who 44 rfl) ?_
            exact hj84 q21.2 x4 x5 x6 q21.1
          · refine g_iconst (v := (0 : Int32)) (dk D_X11_who 38 rfl) rfl ?_
            refine g_goto (tgt := 84) (dk D_X11_who 39 rfl) rfl ?_
            exact hj84 I x4 x5 x6 (0 : Int32)
        · exact hj56 I x4 x5 x6
  unfold f_X11_who
  refine g_iload_n (dk D_X11_who 0 rfl) rfl ?_
  refine h_callS (st := []) (c_X11_isDay (E := E) S0 I0 x1) cl_RX11_200 rfl rfl (by decide) (Nat.le_of_ble_eq_true rfl) (dk D_X11_who 1 rfl) ?_
  refine g_if_eq (tgt := 26) (dk D_X11_who 2 rfl) rfl (fun hc25 => ?_) (fun hc25 => ?_)
  · refine g_bipush (v := ((-2) : Int32)) (dk D_X11_who 12 rfl) rfl ?_
    exact g_ireturn rfl rfl Sx.rf rfl (by decide) (by decide) (dk D_X11_who 13 rfl)
  · refine g_iload_n (dk D_X11_who 3 rfl) rfl ?_
    refine h_callS (st := []) (c_X11_isDay (E := E) S0 I0 x2) cl_RX11_200 rfl rfl (by decide) (Nat.le_of_ble_eq_true rfl) (dk D_X11_who 4 rfl) ?_
    refine g_if_eq (tgt := 26) (dk D_X11_who 5 rfl) rfl (fun hc27 => ?_) (fun hc27 => ?_)
    · refine g_bipush (v := ((-2) : Int32)) (dk D_X11_who 12 rfl) rfl ?_
      exact g_ireturn rfl rfl Sx.rf rfl (by decide) (by decide) (dk D_X11_who 13 rfl)
    · refine g_iload_n (dk D_X11_who 6 rfl) rfl ?_
      refine g_i2l (dk D_X11_who 7 rfl) ?_
      refine g_lconst (v := (0 : Int64)) (dk D_X11_who 8 rfl) rfl ?_
      refine g_ldc2 (dk D_X11_who 9 rfl) lk_RX11_295 ?_
      refine h_callS (st := []) (c_X11_in (E := E) S0 I0 x3.toInt64 (0 : Int64) (4 : Int64)) cl_RX11_132 rfl rfl (by decide) (Nat.le_of_ble_eq_true rfl) (dk D_X11_who 10 rfl) ?_
      refine g_if_ne (tgt := 29) (dk D_X11_who 11 rfl) rfl (fun hc29 => ?_) (fun hc29 => ?_)
      · refine g_iconst (v := (0 : Int32)) (dk D_X11_who 14 rfl) rfl ?_
        refine g_istore (L' := [(0, vA (a0 + 1)), (1, vI x1), (2, vI x2), (3, vI x3), (4, vI (0 : Int32))]) (dk D_X11_who 15 rfl) (Nat.le_of_ble_eq_true rfl) rfl ?_
        refine g_iconst (v := (0 : Int32)) (dk D_X11_who 16 rfl) rfl ?_
        refine g_istore (L' := [(0, vA (a0 + 1)), (1, vI x1), (2, vI x2), (3, vI x3), (4, vI (0 : Int32)), (5, vI (0 : Int32))]) (dk D_X11_who 17 rfl) (Nat.le_of_ble_eq_true rfl) rfl ?_
        refine g_iconst (v := (0 : Int32)) (dk D_X11_who 18 rfl) rfl ?_
        refine g_istore (L' := [(0, vA (a0 + 1)), (1, vI x1), (2, vI x2), (3, vI x3), (4, vI (0 : Int32)), (5, vI (0 : Int32)), (6, vI (0 : Int32))]) (dk D_X11_who 19 rfl) (Nat.le_of_ble_eq_true rfl) rfl ?_
        exact hl38 fu (0 : Int32) (0 : Int32) (0 : Int32) I0 trivial
      · refine g_bipush (v := ((-2) : Int32)) (dk D_X11_who 12 rfl) rfl ?_
        exact g_ireturn rfl rfl Sx.rf rfl (by decide) (by decide) (dk D_X11_who 13 rfl)
theorem c_X11_who {E : EV} (fu : Nat) (S0 : Sk) (I0 : II) (a0 : Nat) (x1 : Int32) (x2 : Int32) (x3 : Int32) (r : Int32 × II) (h : f_X11_who fu S0 I0 a0 x1 x2 x3 = some r) (ht0 : tyO S0 11 a0) : MX E yX11_who i_X11_who S0 I0 [vA (a0 + 1), vI x1, vI x2, vI x3] (po_X11_who S0 I0 r) :=
  MX.of h (by decide) rfl rfl (Nat.le_of_ble_eq_true rfl) (gg_X11_who fu S0 I0 a0 x1 x2 x3 ht0)
