theorem fl_RX11_297 : FL RX11 297 11 34 := ⟨RX11, TX11, 57, rfl, by decide, rfl, by decide, (gm 1012 (by decide +kernel) (by decide +kernel)), inG11⟩
theorem fp_11_34 : FP 11 34 (tyX11 34) false := ⟨RX11, TX11, 57, tyX11, rfl, tyX11_ok, nmX11, rfl, rfl, rfl⟩
def tb_X11_offer : List (Nat × Instr × Nat) := [(0, .aload_n 0, 1), (1, .iload_n 1, 1), (2, .invokevirtual 197, 3), (5, .ifCond .eq 5, 3), (8, .iconst (-1), 1), (9, .ireturn, 1), (10, .iconst 0, 1), (11, .istore_n 2, 1), (12, .iload_n 2, 1), (13, .aload_n 0, 1), (14, .getfield 297, 3), (17, .if_icmp .ge 22, 3), (20, .aload_n 0, 1), (21, .getfield 82, 3), (24, .iload_n 2, 1), (25, .iaload, 1), (26, .iload_n 1, 1), (27, .if_icmp .ne 6, 3), (30, .bipush (-3), 2), (32, .ireturn, 1), (33, .iinc 2 1, 3), (36, .goto (-24), 3), (39, .aload_n 0, 1), (40, .getfield 297, 3), (43, .iconst 4, 1), (44, .if_icmp .ne 6, 3), (47, .bipush (-4), 2), (49, .ireturn, 1), (50, .aload_n 0, 1), (51, .getfield 82, 3), (54, .aload_n 0, 1), (55, .getfield 297, 3), (58, .iload_n 1, 1), (59, .iastore, 1), (60, .aload_n 0, 1), (61, .dup, 1), (62, .getfield 297, 3), (65, .iconst 1, 1), (66, .iadd, 1), (67, .putfield 297, 3), (70, .aload_n 0, 1), (71, .getfield 297, 3), (74, .iconst 1, 1), (75, .isub, 1), (76, .ireturn, 1)]
def i_X11_offer : MI := (RX11, cX11_offer, 3, (some .int), "offer", { frames := 2, cells := 0, slots := 0, locals := 46 })
theorem D_X11_offer : tbOK (i_X11_offer).2.1 tb_X11_offer := by show ∀ q ∈ tb_X11_offer, decode cX11_offer q.1 = .ok (q.2.1, q.2.2); decide +kernel
def po_X11_offer (S : Sk) (I : II) (r : Int32 × II) : Option LV × Sk × II := (some (vI r.1), S, r.2)
def lp_X11_offer_12 (fu : Nat) (S : Sk) (I : II) (a0 : Nat) (x1 : Int32) (self12 : Int32 → Option (Int32 × II)) (x2 : Int32) : Option (Int32 × II) :=
  if (I a0 34) ≤ x2 then if (I a0 34) = (4 : Int32) then some ((((-4) : Int32), I)) else gd (inb S (S.1 a0 35) (I a0 34)) (lt (wr I (S.1 a0 35) (I a0 34) x1) fun I5 => (lt (upI I5 a0 34 ((I5 a0 34) + (1 : Int32))) fun I6 => (some ((((I6 a0 34) - (1 : Int32)), I6))))) else gd (inb S (S.1 a0 35) x2) (if (rd I (S.1 a0 35) x2) = x1 then some ((((-3) : Int32), I)) else self12 (x2 + (1 : Int32)))
def f_X11_offer (fu : Nat) (S : Sk) (I : II) (a0 : Nat) (x1 : Int32) : Option (Int32 × II) :=
  if (t_X11_noLine I a0 x1) = 0 then fix1 (lp_X11_offer_12 fu S I a0 x1) fu (0 : Int32) else some ((((-1) : Int32), I))
set_option maxRecDepth 100000 in
set_option maxHeartbeats 4000000 in
theorem gg_X11_offer {E : EV} (fu : Nat) (S0 : Sk) (I0 : II) (a0 : Nat) (x1 : Int32) (ht0 : tyO S0 11 a0) : GG E i_X11_offer (enM E i_X11_offer S0 (po_X11_offer S0 I0)) S0 I0 (0, 0) 0 [(0, vA (a0 + 1)), (1, vI x1)] [] (f_X11_offer fu S0 I0 a0 x1) := by
  have hl12 : ∀ (I : II) (nn : Nat) (x2 : Int32), True → GG E i_X11_offer (enM E i_X11_offer S0 (po_X11_offer S0 I0)) S0 I (0, 0) 12 [(0, vA (a0 + 1)), (1, vI x1), (2, vI x2)] [] (fix1 (lp_X11_offer_12 fu S0 I a0 x1) nn x2) := by
    intro I  
    refine g_fix1 (fun _ => S0) (fun _ => I) (fun x2 => [(0, vA (a0 + 1)), (1, vI x1), (2, vI x2)]) (fun x2 => True) ?_
    intro self12 hself12 x2 hinv
    unfold lp_X11_offer_12
    refine g_iload_n (dk D_X11_offer 8 rfl) rfl ?_
    refine g_aload_n (dk D_X11_offer 9 rfl) rfl ?_
    refine g_getIt fl_RX11_297 (by decide) ht0 (dk D_X11_offer 10 rfl) ?_
    refine g_icmp_ge (tgt := 39) (dk D_X11_offer 11 rfl) rfl (fun hc1 => ?_) (fun hc1 => ?_)
    · refine g_aload_n (dk D_X11_offer 22 rfl) rfl ?_
      refine g_getIt fl_RX11_297 (by decide) ht0 (dk D_X11_offer 23 rfl) ?_
      refine g_iconst (v := (4 : Int32)) (dk D_X11_offer 24 rfl) rfl ?_
      refine g_icmp_ne (tgt := 50) (dk D_X11_offer 25 rfl) rfl (fun hc2 => ?_) (fun hc2 => ?_)
      · refine g_aload_n (dk D_X11_offer 28 rfl) rfl ?_
        refine g_getAt (t := 100) fl_RX11_82 rfl ht0 (dk D_X11_offer 29 rfl) (fun ht3 => ?_)
        refine g_aload_n (dk D_X11_offer 30 rfl) rfl ?_
        refine g_getIt fl_RX11_297 (by decide) ht0 (dk D_X11_offer 31 rfl) ?_
        refine g_iload_n (dk D_X11_offer 32 rfl) rfl ?_
        refine g_gd (fun hi4 => ?_)
        refine g_iastore ht3 hi4 (dk D_X11_offer 33 rfl) ?_
        refine g_ltI (fun I5 eI5 => ?_)
        refine g_aload_n (dk D_X11_offer 34 rfl) rfl ?_
        refine g_dup (dk D_X11_offer 35 rfl) rfl ?_
        refine g_getIt fl_RX11_297 (by decide) ht0 (dk D_X11_offer 36 rfl) ?_
        refine g_iconst (v := (1 : Int32)) (dk D_X11_offer 37 rfl) rfl ?_
        refine g_iadd (dk D_X11_offer 38 rfl) ?_
        refine g_putIt fl_RX11_297 fp_11_34 (fun h => (by cases h)) (by decide) rfl rfl ht0 (dk D_X11_offer 39 rfl) ?_
        refine g_ltI (fun I6 eI6 => ?_)
        refine g_aload_n (dk D_X11_offer 40 rfl) rfl ?_
        refine g_getIt fl_RX11_297 (by decide) ht0 (dk D_X11_offer 41 rfl) ?_
        refine g_iconst (v := (1 : Int32)) (dk D_X11_offer 42 rfl) rfl ?_
        refine g_isub (dk D_X11_offer 43 rfl) ?_
        exact g_ireturn rfl rfl Sx.rf rfl (by decide) (by decide) (dk D_X11_offer 44 rfl)
      · refine g_bipush (v := ((-4) : Int32)) (dk D_X11_offer 26 rfl) rfl ?_
        exact g_ireturn rfl rfl Sx.rf rfl (by decide) (by decide) (dk D_X11_offer 27 rfl)
    · refine g_aload_n (dk D_X11_offer 12 rfl) rfl ?_
      refine g_getAt (t := 100) fl_RX11_82 rfl ht0 (dk D_X11_offer 13 rfl) (fun ht7 => ?_)
      refine g_iload_n (dk D_X11_offer 14 rfl) rfl ?_
      refine g_gd (fun hi8 => ?_)
      refine g_iaload ht7 hi8 (dk D_X11_offer 15 rfl) ?_
      refine g_iload_n (dk D_X11_offer 16 rfl) rfl ?_
      refine g_icmp_ne (tgt := 33) (dk D_X11_offer 17 rfl) rfl (fun hc9 => ?_) (fun hc9 => ?_)
      · refine g_iinc (v := (1 : Int32)) (L' := [(0, vA (a0 + 1)), (1, vI x1), (2, vI (x2 + (1 : Int32)))]) (dk D_X11_offer 20 rfl) rfl rfl (Nat.le_of_ble_eq_true rfl) rfl ?_
        refine g_goto (tgt := 12) (dk D_X11_offer 21 rfl) rfl ?_
        exact hself12 (x2 + (1 : Int32)) trivial
      · refine g_bipush (v := ((-3) : Int32)) (dk D_X11_offer 18 rfl) rfl ?_
        exact g_ireturn rfl rfl Sx.rf rfl (by decide) (by decide) (dk D_X11_offer 19 rfl)
  unfold f_X11_offer
  refine g_aload_n (dk D_X11_offer 0 rfl) rfl ?_
  refine g_iload_n (dk D_X11_offer 1 rfl) rfl ?_
  refine h_callVt (st := []) (c_X11_noLine (E := E) S0 I0 a0 x1 (ht0)) cl_RX11_197 ht0 rfl rfl (by decide) (Nat.le_of_ble_eq_true rfl) (dk D_X11_offer 2 rfl) ?_
  refine g_if_eq (tgt := 10) (dk D_X11_offer 3 rfl) rfl (fun hc11 => ?_) (fun hc11 => ?_)
  · refine g_iconst (v := (0 : Int32)) (dk D_X11_offer 6 rfl) rfl ?_
    refine g_istore_n (L' := [(0, vA (a0 + 1)), (1, vI x1), (2, vI (0 : Int32))]) (dk D_X11_offer 7 rfl) (Nat.le_of_ble_eq_true rfl) rfl ?_
    exact hl12 I0 fu (0 : Int32) trivial
  · refine g_iconst (v := ((-1) : Int32)) (dk D_X11_offer 4 rfl) rfl ?_
    exact g_ireturn rfl rfl Sx.rf rfl (by decide) (by decide) (dk D_X11_offer 5 rfl)
theorem c_X11_offer {E : EV} (fu : Nat) (S0 : Sk) (I0 : II) (a0 : Nat) (x1 : Int32) (r : Int32 × II) (h : f_X11_offer fu S0 I0 a0 x1 = some r) (ht0 : tyO S0 11 a0) : MX E yX11_offer i_X11_offer S0 I0 [vA (a0 + 1), vI x1] (po_X11_offer S0 I0 r) :=
  MX.of h (by decide) rfl rfl (Nat.le_of_ble_eq_true rfl) (gg_X11_offer fu S0 I0 a0 x1 ht0)
def tb_X11_busMinutes : List (Nat × Instr × Nat) := [(0, .iconst 0, 1), (1, .istore_n 3, 1), (2, .iconst 0, 1), (3, .istore 4, 2), (5, .iload 4, 2), (7, .aload_n 0, 1), (8, .getfield 297, 3), (11, .if_icmp .ge 73, 3), (14, .iload_n 1, 1), (15, .iload 4, 2), (17, .invokestatic 263, 3), (20, .ifCond .eq 49, 3), (23, .aload_n 0, 1), (24, .aload_n 0, 1), (25, .getfield 82, 3), (28, .iload 4, 2), (30, .iaload, 1), (31, .iload_n 2, 1), (32, .invokevirtual 213, 3), (35, .ifCond .eq 31, 3), (38, .iload_n 3, 1), (39, .aload_n 0, 1), (40, .aload_n 0, 1), (41, .getfield 82, 3), (44, .iload 4, 2), (46, .iaload, 1), (47, .invokevirtual 206, 3), (50, .aload_n 0, 1), (51, .aload_n 0, 1), (52, .getfield 82, 3), (55, .iload 4, 2), (57, .iaload, 1), (58, .invokevirtual 203, 3), (61, .imul, 1), (62, .iadd, 1), (63, .goto 5, 3), (66, .ldc 216, 2), (68, .istore_n 3, 1), (69, .iload_n 3, 1), (70, .ldc 216, 2), (72, .if_icmp .lt 6, 3), (75, .ldc 216, 2), (77, .ireturn, 1), (78, .iinc 4 1, 3), (81, .goto (-76), 3), (84, .iload_n 3, 1), (85, .ireturn, 1)]
def i_X11_busMinutes : MI := (RX11, cX11_busMinutes, 5, (some .int), "busMinutes", { frames := 2, cells := 0, slots := 0, locals := 47 })
theorem D_X11_busMinutes : tbOK (i_X11_busMinutes).2.1 tb_X11_busMinutes := by show ∀ q ∈ tb_X11_busMinutes, decode cX11_busMinutes q.1 = .ok (q.2.1, q.2.2); decide +kernel
def po_X11_busMinutes (S : Sk) (I : II) (r : Int32) : Option LV × Sk × II := (some (vI r), S, I)
def jn_X11_busMinutes_69 (fu : Nat) (S : Sk) (I : II) (self5 : Int32 → Int32 → Option (Int32)) (a0 : Nat) (x1 : Int32) (x2 : Int32) (x3 : Int32) (x4 : Int32) : Option (Int32) :=
  if x3 < (1000000 : Int32) then self5 x3 (x4 + (1 : Int32)) else some ((1000000 : Int32))
def jn_X11_busMinutes_68 (fu : Nat) (S : Sk) (I : II) (self5 : Int32 → Int32 → Option (Int32)) (a0 : Nat) (x1 : Int32) (x2 : Int32) (x4 : Int32) (s0 : Int32) : Option (Int32) :=
  jn_X11_busMinutes_69 fu S I self5 a0 x1 x2 s0 x4
def lp_X11_busMinutes_5 (fu : Nat) (S : Sk) (I : II) (a0 : Nat) (x1 : Int32) (x2 : Int32) (self5 : Int32 → Int32 → Option (Int32)) (x3 : Int32) (x4 : Int32) : Option (Int32) :=
  if (I a0 34) ≤ x4 then some (x3) else if (t_X11_hasBit x1 x4) = 0 then jn_X11_busMinutes_69 fu S I self5 a0 x1 x2 x3 x4 else gd (inb S (S.1 a0 35) x4) ((f_X11_doesRun fu S I a0 (rd I (S.1 a0 35) x4) x2).bind fun q7 => (if q7 = 0 then jn_X11_busMinutes_68 fu S I self5 a0 x1 x2 x4 (1000000 : Int32) else (f_X11_buses fu S I a0 (rd I (S.1 a0 35) x4)).bind fun q12 => ((f_X11_roundOf fu S I a0 (rd I (S.1 a0 35) x4)).bind fun q16 => (jn_X11_busMinutes_68 fu S I self5 a0 x1 x2 x4 (x3 + (q12 * q16))))))
def f_X11_busMinutes (fu : Nat) (S : Sk) (I : II) (a0 : Nat) (x1 : Int32) (x2 : Int32) : Option (Int32) :=
  fix2 (lp_X11_busMinutes_5 fu S I a0 x1 x2) fu (0 : Int32) (0 : Int32)
set_option maxRecDepth 100000 in
set_option maxHeartbeats 4000000 in
theorem gg_X11_busMinutes {E : EV} (fu : Nat) (S0 : Sk) (I0 : II) (a0 : Nat) (x1 : Int32) (x2 : Int32) (ht0 : tyO S0 11 a0) : GG E i_X11_busMinutes (enM E i_X11_busMinutes S0 (po_X11_busMinutes S0 I0)) S0 I0 (0, 0) 0 [(0, vA (a0 + 1)), (1, vI x1), (2, vI x2)] [] (f_X11_busMinutes fu S0 I0 a0 x1 x2) := by
  have hl5 : ∀ (nn : Nat) (x3 : Int32) (x4 : Int32), True → GG E i_X11_busMinutes (enM E i_X11_busMinutes S0 (po_X11_busMinutes S0 I0)) S0 I0 (0, 0) 5 [(0, vA (a0 + 1)), (1, vI x1), (2, vI x2), (3, vI x3), (4, vI x4)] [] (fix2 (lp_X11_busMinutes_5 fu S0 I0 a0 x1 x2) nn x3 x4) := by
    refine g_fix2 (fun _ _ => S0) (fun _ _ => I0) (fun x3 x4 => [(0, vA (a0 + 1)), (1, vI x1), (2, vI x2), (3, vI x3), (4, vI x4)]) (fun x3 x4 => True) ?_
    intro self5 hself5 x3 x4 hinv
    have hj69 : ∀ (x3 : Int32) (x4 : Int32), GG E i_X11_busMinutes (enM E i_X11_busMinutes S0 (po_X11_busMinutes S0 I0)) S0 I0 (0, 0) 69 [(0, vA (a0 + 1)), (1, vI x1), (2, vI x2), (3, vI x3), (4, vI x4)] [] (jn_X11_busMinutes_69 fu S0 I0 self5 a0 x1 x2 x3 x4) := by
      intro x3 x4 
      unfold jn_X11_busMinutes_69
      refine g_iload_n (dk D_X11_busMinutes 38 rfl) rfl ?_
      refine g_ldc (dk D_X11_busMinutes 39 rfl) lk_RX11_216 ?_
      refine g_icmp_lt (tgt := 78) (dk D_X11_busMinutes 40 rfl) rfl (fun hc1 => ?_) (fun hc1 => ?_)
      · refine g_iinc (v := (1 : Int32)) (L' := [(0, vA (a0 + 1)), (1, vI x1), (2, vI x2), (3, vI x3), (4, vI (x4 + (1 : Int32)))]) (dk D_X11_busMinutes 43 rfl) rfl rfl (Nat.le_of_ble_eq_true rfl) rfl ?_
        refine g_goto (tgt := 5) (dk D_X11_busMinutes 44 rfl) rfl ?_
        exact hself5 x3 (x4 + (1 : Int32)) trivial
      · refine g_ldc (dk D_X11_busMinutes 41 rfl) lk_RX11_216 ?_
        exact g_ireturn rfl rfl Sx.rf rfl (by decide) (by decide) (dk D_X11_busMinutes 42 rfl)
    have hj68 : ∀ (x4 : Int32) (s0 : Int32), GG E i_X11_busMinutes (enM E i_X11_busMinutes S0 (po_X11_busMinutes S0 I0)) S0 I0 (0, 0) 68 [(0, vA (a0 + 1)), (1, vI x1), (2, vI x2), (4, vI x4)] [vI s0] (jn_X11_busMinutes_68 fu S0 I0 self5 a0 x1 x2 x4 s0) := by
      intro x4 s0 
      unfold jn_X11_busMinutes_68
      refine g_istore_n (L' := [(0, vA (a0 + 1)), (1, vI x1), (2, vI x2), (3, vI s0), (4, vI x4)]) (dk D_X11_busMinutes 37 rfl) (Nat.le_of_ble_eq_true rfl) rfl ?_
      exact hj69 s0 x4
    unfold lp_X11_busMinutes_5
    refine g_iload (dk D_X11_busMinutes 4 rfl) rfl ?_
    refine g_aload_n (dk D_X11_busMinutes 5 rfl) rfl ?_
    refine g_getIt fl_RX11_297 (by decide) ht0 (dk D_X11_busMinutes 6 rfl) ?_
    refine g_icmp_ge (tgt := 84) (dk D_X11_busMinutes 7 rfl) rfl (fun hc2 => ?_) (fun hc2 => ?_)
    · refine g_iload_n (dk D_X11_busMinutes 45 rfl) rfl ?_
      exact g_ireturn rfl rfl Sx.rf rfl (by decide) (by decide) (dk D_X11_busMinutes 46 rfl)
    · refine g_iload_n (dk D_X11_busMinutes 8 rfl) rfl ?_
      refine g_iload (dk D_X11_busMinutes 9 rfl) rfl ?_
      refine h_callS (st := []) (c_X11_hasBit (E := E) S0 I0 x1 x4) cl_RX11_263 rfl rfl (by decide) (Nat.le_of_ble_eq_true rfl) (dk D_X11_busMinutes 10 rfl) ?_
      refine g_if_eq (tgt := 69) (dk D_X11_busMinutes 11 rfl) rfl (fun hc4 => ?_) (fun hc4 => ?_)
      · exact hj69 x3 x4
      · refine g_aload_n (dk D_X11_busMinutes 12 rfl) rfl ?_
        refine g_aload_n (dk D_X11_busMinutes 13 rfl) rfl ?_
        refine g_getAt (t := 100) fl_RX11_82 rfl ht0 (dk D_X11_busMinutes 14 rfl) (fun ht5 => ?_)
        refine g_iload (dk D_X11_busMinutes 15 rfl) rfl ?_
        refine g_gd (fun hi6 => ?_)
        refine g_iaload ht5 hi6 (dk D_X11_busMinutes 16 rfl) ?_
        refine g_iload_n (dk D_X11_busMinutes 17 rfl) rfl ?_
        refine g_bind (fun q7 hq8 => ?_)
        refine h_callVt (st := []) (c_X11_doesRun (E := E) fu S0 I0 a0 (rd I0 (S0.1 a0 35) x4) x2 q7 hq8 (ht0)) cl_RX11_213 ht0 rfl rfl (by decide) (Nat.le_of_ble_eq_true rfl) (dk D_X11_busMinutes 18 rfl) ?_
        refine g_if_eq (tgt := 66) (dk D_X11_busMinutes 19 rfl) rfl (fun hc10 => ?_) (fun hc10 => ?_)
        · refine g_ldc (dk D_X11_busMinutes 36 rfl) lk_RX11_216 ?_
          refine g_Lp [0, 1, 2, 4] rfl ?_
          exact hj68 x4 (1000000 : Int32)
        · refine g_iload_n (dk D_X11_busMinutes 20 rfl) rfl ?_
          refine g_aload_n (dk D_X11_busMinutes 21 rfl) rfl ?_
          refine g_aload_n (dk D_X11_busMinutes 22 rfl) rfl ?_
          refine g_getAt (t := 100) fl_RX11_82 rfl ht0 (dk D_X11_busMinutes 23 rfl) (fun ht11 => ?_)
          refine g_iload (dk D_X11_busMinutes 24 rfl) rfl ?_
          refine g_iaload ht5 hi6 (dk D_X11_busMinutes 25 rfl) ?_
          refine g_bind (fun q12 hq13 => ?_)
          refine h_callVt (st := [vI x3]) (c_X11_buses (E := E) fu S0 I0 a0 (rd I0 (S0.1 a0 35) x4) q12 hq13 (ht0)) cl_RX11_206 ht0 rfl rfl (by decide) (Nat.le_of_ble_eq_true rfl) (dk D_X11_busMinutes 26 rfl) ?_
          refine g_aload_n (dk D_X11_busMinutes 27 rfl) rfl ?_
          refine g_aload_n (dk D_X11_busMinutes 28 rfl) rfl ?_
          refine g_getAt (t := 100) fl_RX11_82 rfl ht0 (dk D_X11_busMinutes 29 rfl) (fun ht15 => ?_)
          refine g_iload (dk D_X11_busMinutes 30 rfl) rfl ?_
          refine g_iaload ht5 hi6 (dk D_X11_busMinutes 31 rfl) ?_
          refine g_bind (fun q16 hq17 => ?_)
          refine h_callVt (st := [vI q12, vI x3]) (c_X11_roundOf (E := E) fu S0 I0 a0 (rd I0 (S0.1 a0 35) x4) q16 hq17 (ht0)) cl_RX11_203 ht0 rfl rfl (by decide) (Nat.le_of_ble_eq_true rfl) (dk D_X11_busMinutes 32 rfl) ?_
          refine g_imul (dk D_X11_busMinutes 33 rfl) ?_
          refine g_iadd (dk D_X11_busMinutes 34 rfl) ?_
          refine g_goto (tgt := 68) (dk D_X11_busMinutes 35 rfl) rfl ?_
          refine g_Lp [0, 1, 2, 4] rfl ?_
          exact hj68 x4 (x3 + (q12 * q16))
  unfold f_X11_busMinutes
  refine g_iconst (v := (0 : Int32)) (dk D_X11_busMinutes 0 rfl) rfl ?_
  refine g_istore_n (L' := [(0, vA (a0 + 1)), (1, vI x1), (2, vI x2), (3, vI (0 : Int32))]) (dk D_X11_busMinutes 1 rfl) (Nat.le_of_ble_eq_true rfl) rfl ?_
  refine g_iconst (v := (0 : Int32)) (dk D_X11_busMinutes 2 rfl) rfl ?_
  refine g_istore (L' := [(0, vA (a0 + 1)), (1, vI x1), (2, vI x2), (3, vI (0 : Int32)), (4, vI (0 : Int32))]) (dk D_X11_busMinutes 3 rfl) (Nat.le_of_ble_eq_true rfl) rfl ?_
  exact hl5 fu (0 : Int32) (0 : Int32) trivial
theorem c_X11_busMinutes {E : EV} (fu : Nat) (S0 : Sk) (I0 : II) (a0 : Nat) (x1 : Int32) (x2 : Int32) (r : Int32) (h : f_X11_busMinutes fu S0 I0 a0 x1 x2 = some r) (ht0 : tyO S0 11 a0) : MX E yX11_busMinutes i_X11_busMinutes S0 I0 [vA (a0 + 1), vI x1, vI x2] (po_X11_busMinutes S0 I0 r) :=
  MX.of h (by decide) rfl rfl (Nat.le_of_ble_eq_true rfl) (gg_X11_busMinutes fu S0 I0 a0 x1 x2 ht0)
def tb_X11_rideNet : List (Nat × Instr × Nat) := [(0, .aload_n 0, 1), (1, .aload_n 0, 1), (2, .iload_n 2, 1), (3, .invokevirtual 285, 3), (6, .putfield 260, 3), (9, .iconst 0, 1), (10, .istore_n 3, 1), (11, .iload_n 3, 1), (12, .aload_n 0, 1), (13, .getfield 297, 3), (16, .if_icmp .ge 40, 3), (19, .aload_n 0, 1), (20, .dup, 1), (21, .getfield 260, 3), (24, .iload_n 1, 1), (25, .iload_n 3, 1), (26, .invokestatic 263, 3), (29, .ifCond .eq 7, 3), (32, .iconst (-1), 1), (33, .goto 13, 3), (36, .iconst 1, 1), (37, .aload_n 0, 1), (38, .getfield 82, 3), (41, .iload_n 3, 1), (42, .iaload, 1), (43, .ishl, 1), (44, .iconst (-1), 1), (45, .ixor, 1), (46, .iand, 1), (47, .putfield 260, 3), (50, .iinc 3 1, 3), (53, .goto (-42), 3), (56, .return_, 1)]
def i_X11_rideNet : MI := (RX11, cX11_rideNet, 4, none, "rideNet", { frames := 3, cells := 0, slots := 0, locals := 70 })
theorem D_X11_rideNet : tbOK (i_X11_rideNet).2.1 tb_X11_rideNet := by show ∀ q ∈ tb_X11_rideNet, decode cX11_rideNet q.1 = .ok (q.2.1, q.2.2); decide +kernel
def po_X11_rideNet (S : Sk) (I : II) (r : II) : Option LV × Sk × II := (none, S, r)
def jn_X11_rideNet_46 (fu : Nat) (S : Sk) (I : II) (self11 : Int32 → II → Option (II)) (a0 : Nat) (x1 : Int32) (x3 : Int32) (s1 : Int32) (s2 : Int32) : Option (II) :=
  lt (upI I a0 28 (s1 &&& s2)) fun I1 => (self11 (x3 + (1 : Int32)) I1)
def lp_X11_rideNet_11 (fu : Nat) (S : Sk) (a0 : Nat) (x1 : Int32) (self11 : Int32 → II → Option (II)) (x3 : Int32) (I : II) : Option (II) :=
  if (I a0 34) ≤ x3 then some (I) else if (t_X11_hasBit x1 x3) = 0 then gd (inb S (S.1 a0 35) x3) (jn_X11_rideNet_46 fu S I self11 a0 x1 x3 (I a0 28) (((1 : Int32) <<< ((rd I (S.1 a0 35) x3) &&& 31)) ^^^ ((-1) : Int32))) else jn_X11_rideNet_46 fu S I self11 a0 x1 x3 (I a0 28) ((-1) : Int32)
def f_X11_rideNet (fu : Nat) (S : Sk) (I : II) (a0 : Nat) (x1 : Int32) (x2 : Int32) : Option (II) :=
  (f_X11_runningOn fu S I a0 x2).bind fun q7 => (lt (upI I a0 28 q7) fun I10 => (fix2 (lp_X11_rideNet_11 fu S a0 x1) fu (0 : Int32) I10))
set_option maxRecDepth 100000 in
set_option maxHeartbeats 4000000 in
theorem gg_X11_rideNet {E : EV} (fu : Nat) (S0 : Sk) (I0 : II) (a0 : Nat) (x1 : Int32) (x2 : Int32) (ht0 : tyO S0 11 a0) : GG E i_X11_rideNet (enM E i_X11_rideNet S0 (po_X11_rideNet S0 I0)) S0 I0 (0, 0) 0 [(0, vA (a0 + 1)), (1, vI x1), (2, vI x2)] [] (f_X11_rideNet fu S0 I0 a0 x1 x2) := by
  have hl11 : ∀ (nn : Nat) (x3 : Int32) (I : II), True → GG E i_X11_rideNet (enM E i_X11_rideNet S0 (po_X11_rideNet S0 I0)) S0 I (0, 0) 11 [(0, vA (a0 + 1)), (1, vI x1), (3, vI x3)] [] (fix2 (lp_X11_rideNet_11 fu S0 a0 x1) nn x3 I) := by
    refine g_fix2 (fun _ _ => S0) (fun x3 I => I) (fun x3 I => [(0, vA (a0 + 1)), (1, vI x1), (3, vI x3)]) (fun x3 I => True) ?_
    intro self11 hself11 x3 I hinv
    have hj46 : ∀ (I : II) (x3 : Int32) (s1 : Int32) (s2 : Int32), GG E i_X11_rideNet (enM E i_X11_rideNet S0 (po_X11_rideNet S0 I0)) S0 I (0, 0) 46 [(0, vA (a0 + 1)), (1, vI x1), (3, vI x3)] [vI s2, vI s1, vA (a0 + 1)] (jn_X11_rideNet_46 fu S0 I self11 a0 x1 x3 s1 s2) := by
      intro I x3 s1 s2 
      unfold jn_X11_rideNet_46
      refine g_iand (dk D_X11_rideNet 28 rfl) ?_
      refine g_putIt fl_RX11_260 fp_11_28 (fun h => (by cases h)) (by decide) rfl rfl ht0 (dk D_X11_rideNet 29 rfl) ?_
      refine g_ltI (fun I1 eI1 => ?_)
      refine g_iinc (v := (1 : Int32)) (L' := [(0, vA (a0 + 1)), (1, vI x1), (3, vI (x3 + (1 : Int32)))]) (dk D_X11_rideNet 30 rfl) rfl rfl (Nat.le_of_ble_eq_true rfl) rfl ?_
      refine g_goto (tgt := 11) (dk D_X11_rideNet 31 rfl) rfl ?_
      exact hself11 (x3 + (1 : Int32)) I1 trivial
    unfold lp_X11_rideNet_11
    refine g_iload_n (dk D_X11_rideNet 7 rfl) rfl ?_
    refine g_aload_n (dk D_X11_rideNet 8 rfl) rfl ?_
    refine g_getIt fl_RX11_297 (by decide) ht0 (dk D_X11_rideNet 9 rfl) ?_
    refine g_icmp_ge (tgt := 56) (dk D_X11_rideNet 10 rfl) rfl (fun hc2 => ?_) (fun hc2 => ?_)
    · exact g_return rfl rfl Sx.rf rfl (by decide) (by decide) (dk D_X11_rideNet 32 rfl)
    · refine g_aload_n (dk D_X11_rideNet 11 rfl) rfl ?_
      refine g_dup (dk D_X11_rideNet 12 rfl) rfl ?_
      refine g_getIt fl_RX11_260 (by decide) ht0 (dk D_X11_rideNet 13 rfl) ?_
      refine g_iload_n (dk D_X11_rideNet 14 rfl) rfl ?_
      refine g_iload_n (dk D_X11_rideNet 15 rfl) rfl ?_
      refine h_callS (st := [vI (I a0 28), vA (a0 + 1)]) (c_X11_hasBit (E := E) S0 I x1 x3) cl_RX11_263 rfl rfl (by decide) (Nat.le_of_ble_eq_true rfl) (dk D_X11_rideNet 16 rfl) ?_
      refine g_if_eq (tgt := 36) (dk D_X11_rideNet 17 rfl) rfl (fun hc4 => ?_) (fun hc4 => ?_)
      · refine g_iconst (v := (1 : Int32)) (dk D_X11_rideNet 20 rfl) rfl ?_
        refine g_aload_n (dk D_X11_rideNet 21 rfl) rfl ?_
        refine g_getAt (t := 100) fl_RX11_82 rfl ht0 (dk D_X11_rideNet 22 rfl) (fun ht5 => ?_)
        refine g_iload_n (dk D_X11_rideNet 23 rfl) rfl ?_
        refine g_gd (fun hi6 => ?_)
        refine g_iaload ht5 hi6 (dk D_X11_rideNet 24 rfl) ?_
        refine g_ishl (dk D_X11_rideNet 25 rfl) ?_
        refine g_iconst (v := ((-1) : Int32)) (dk D_X11_rideNet 26 rfl) rfl ?_
        refine g_ixor (dk D_X11_rideNet 27 rfl) ?_
        exact hj46 I x3 (I a0 28) (((1 : Int32) <<< ((rd I (S0.1 a0 35) x3) &&& 31)) ^^^ ((-1) : Int32))
      · refine g_iconst (v := ((-1) : Int32)) (dk D_X11_rideNet 18 rfl) rfl ?_
        refine g_goto (tgt := 46) (dk D_X11_rideNet 19 rfl) rfl ?_
        exact hj46 I x3 (I a0 28) ((-1) : Int32)
  unfold f_X11_rideNet
  refine g_aload_n (dk D_X11_rideNet 0 rfl) rfl ?_
  refine g_aload_n (dk D_X11_rideNet 1 rfl) rfl ?_
  refine g_iload_n (dk D_X11_rideNet 2 rfl) rfl ?_
  refine g_bind (fun q7 hq8 => ?_)
  refine h_callVt (st := [vA (a0 + 1)]) (c_X11_runningOn (E := E) fu S0 I0 a0 x2 q7 hq8 (ht0)) cl_RX11_285 ht0 rfl rfl (by decide) (Nat.le_of_ble_eq_true rfl) (dk D_X11_rideNet 3 rfl) ?_
  refine g_putIt fl_RX11_260 fp_11_28 (fun h => (by cases h)) (by decide) rfl rfl ht0 (dk D_X11_rideNet 4 rfl) ?_
  refine g_ltI (fun I10 eI10 => ?_)
  refine g_iconst (v := (0 : Int32)) (dk D_X11_rideNet 5 rfl) rfl ?_
  refine g_istore_n (L' := [(0, vA (a0 + 1)), (1, vI x1), (2, vI x2), (3, vI (0 : Int32))]) (dk D_X11_rideNet 6 rfl) (Nat.le_of_ble_eq_true rfl) rfl ?_
  refine g_Lp [0, 1, 3] rfl ?_
  exact hl11 fu (0 : Int32) I10 trivial
theorem c_X11_rideNet {E : EV} (fu : Nat) (S0 : Sk) (I0 : II) (a0 : Nat) (x1 : Int32) (x2 : Int32) (r : II) (h : f_X11_rideNet fu S0 I0 a0 x1 x2 = some r) (ht0 : tyO S0 11 a0) : MX E yX11_rideNet i_X11_rideNet S0 I0 [vA (a0 + 1), vI x1, vI x2] (po_X11_rideNet S0 I0 r) :=
  MX.of h (by decide) rfl rfl (Nat.le_of_ble_eq_true rfl) (gg_X11_rideNet fu S0 I0 a0 x1 x2 ht0)
theorem cl_RX11_302 : CV0 RX11 302 yX11_busMinutes i_X11_busMinutes 2 11 := ⟨⟨(gm 1353 (by decide +kernel) (by decide +kernel)), (gm 72 (by decide +kernel) (by decide +kernel)), ((gm 1356 (by decide +kernel) (by decide +kernel))), by decide +kernel, by decide +kernel, by decide +kernel⟩, ⟨(gm 1355 (by decide +kernel) (by decide +kernel)), (gm 47 (by decide +kernel) (by decide +kernel))⟩, rfl, by decide⟩
theorem cl_RX11_305 : CV0 RX11 305 yX11_rideNet i_X11_rideNet 2 11 := ⟨⟨(gm 1357 (by decide +kernel) (by decide +kernel)), (gm 72 (by decide +kernel) (by decide +kernel)), ((gm 1360 (by decide +kernel) (by decide +kernel))), by decide +kernel, by decide +kernel, by decide +kernel⟩, ⟨(gm 1359 (by decide +kernel) (by decide +kernel)), (gm 48 (by decide +kernel) (by decide +kernel))⟩, rfl, by decide⟩
theorem lk_RX11_300 : Cond.constantLong RX11 300 (99999 : Int64) ∈ lw_good := (gm 1352 (by decide +kernel) (by decide +kernel))
def tb_X11_best : List (Nat × Instr × Nat) := [(0, .iload_n 1, 1), (1, .invokestatic 200, 3), (4, .ifCond .eq 27, 3), (7, .iload_n 2, 1), (8, .i2l, 1), (9, .lconst 0, 1), (10, .ldc2_w 300, 3), (13, .invokestatic 132, 3), (16, .ifCond .eq 15, 3), (19, .iload_n 3, 1), (20, .i2l, 1), (21, .lconst 0, 1), (22, .ldc2_w 252, 3), (25, .invokestatic 132, 3), (28, .ifCond .ne 6, 3), (31, .bipush (-2), 2), (33, .ireturn, 1), (34, .bipush (-9), 2), (36, .istore 4, 2), (38, .iconst 0, 1), (39, .istore 5, 2), (41, .iconst 0, 1), (42, .istore 6, 2), (44, .iconst 0, 1), (45, .istore 7, 2), (47, .iload 7, 2), (49, .iconst 1, 1), (50, .aload_n 0, 1), (51, .getfield 297, 3), (54, .ishl, 1), (55, .if_icmp .ge 136, 3), (58, .aload_n 0, 1), (59, .iload 7, 2), (61, .iload_n 1, 1), (62, .invokevirtual 302, 3), (65, .iload_n 2, 1), (66, .if_icmp .gt 119, 3), (69, .aload_n 0, 1), (70, .iload 7, 2), (72, .iload_n 1, 1), (73, .invokevirtual 305, 3), (76, .iconst 0, 1), (77, .istore 8, 2), (79, .iconst 0, 1), (80, .istore 9, 2), (82, .iconst 0, 1), (83, .istore 10, 2), (85, .iload 10, 2), (87, .aload_n 0, 1), (88, .getfield 249, 3), (91, .if_icmp .ge 56, 3), (94, .aload_n 0, 1), (95, .iload 10, 2), (97, .invokevirtual 288, 3), (100, .iload 8, 2), (102, .aload_n 0, 1), (103, .getfield 273, 3), (106, .ldc 216, 2), (108, .if_icmp .ge 7, 3), (111, .iconst 1, 1), (112, .goto 4, 3), (115, .iconst 0, 1), (116, .iadd, 1), (117, .istore 8, 2), (119, .iload 9, 2), (121, .aload_n 0, 1), (122, .getfield 273, 3), (125, .ldc 216, 2), (127, .if_icmp .ge 10, 3), (130, .aload_n 0, 1), (131, .getfield 273, 3), (134, .goto 4, 3), (137, .iconst 0, 1), (138, .iadd, 1), (139, .istore 9, 2), (141, .iinc 10 1, 3), (144, .goto (-59), 3), (147, .iload 4, 2), (149, .ifCond .lt 24, 3), (152, .iload 8, 2), (154, .iload 5, 2), (156, .if_icmp .gt 17, 3), (159, .iload 8, 2), (161, .iload 5, 2), (163, .if_icmp .ne 22, 3), (166, .iload 9, 2), (168, .iload 6, 2), (170, .if_icmp .ge 15, 3), (173, .iload 7, 2), (175, .istore 4, 2), (177, .iload 8, 2), (179, .istore 5, 2), (181, .iload 9, 2), (183, .istore 6, 2), (185, .iinc 7 1, 3), (188, .goto (-141), 3), (191, .iload_n 3, 1), (192, .ifCond .ne 8, 3), (195, .iload 4, 2), (197, .goto 30, 3), (200, .iload_n 3, 1), (201, .iconst 1, 1), (202, .if_icmp .ne 8, 3), (205, .iload 5, 2), (207, .goto 20, 3), (210, .iload_n 3, 1), (211, .iconst 2, 1), (212, .if_icmp .ne 8, 3), (215, .iload 6, 2), (217, .goto 10, 3), (220, .aload_n 0, 1), (221, .iload 4, 2), (223, .iload_n 1, 1), (224, .invokevirtual 302, 3), (227, .ireturn, 1)]
def i_X11_best : MI := (RX11, cX11_best, 11, (some .int), "best", { frames := 4, cells := 0, slots := 0, locals := 99 })
theorem D_X11_best : tbOK (i_X11_best).2.1 tb_X11_best := by show ∀ q ∈ tb_X11_best, decode cX11_best q.1 = .ok (q.2.1, q.2.2); decide +kernel
def po_X11_best (S : Sk) (I : II) (r : Int32 × II) : Option LV × Sk × II := (some (vI r.1), S, r.2)
def jn_X11_best_185 (fu : Nat) (S : Sk) (I : II) (self47 : Int32 → Int32 → Int32 → Int32 → II → Option (Int32 × II)) (a0 : Nat) (x1 : Int32) (x2 : Int32) (x3 : Int32) (x4 : Int32) (x5 : Int32) (x6 : Int32) (x7 : Int32) : Option (Int32 × II) :=
  self47 x4 x5 x6 (x7 + (1 : Int32)) I
def jn_X11_best_173 (fu : Nat) (S : Sk) (I : II) (self47 : Int32 → Int32 → Int32 → Int32 → II → Option (Int32 × II)) (a0 : Nat) (x1 : Int32) (x2 : Int32) (x3 : Int32) (x7 : Int32) (x8 : Int32) (x9 : Int32) : Option (Int32 × II) :=
  jn_X11_best_185 fu S I self47 a0 x1 x2 x3 x7 x8 x9 x7
def jn_X11_best_138 (fu : Nat) (S : Sk) (I : II) (self47 : Int32 → Int32 → Int32 → Int32 → II → Option (Int32 × II)) (self85 : Int32 → Int32 → Int32 → II → Option (Int32 × II)) (a0 : Nat) (x1 : Int32) (x2 : Int32) (x3 : Int32) (x4 : Int32) (x5 : Int32) (x6 : Int32) (x7 : Int32) (x8 : Int32) (x10 : Int32) (s0 : Int32) (s1 : Int32) : Option (Int32 × II) :=
  lt (s0 + s1) fun x9_1 => (self85 x8 x9_1 (x10 + (1 : Int32)) I)
def jn_X11_best_116 (fu : Nat) (S : Sk) (I : II) (self47 : Int32 → Int32 → Int32 → Int32 → II → Option (Int32 × II)) (self85 : Int32 → Int32 → Int32 → II → Option (Int32 × II)) (a0 : Nat) (x1 : Int32) (x2 : Int32) (x3 : Int32) (x4 : Int32) (x5 : Int32) (x6 : Int32) (x7 : Int32) (x9 : Int32) (x10 : Int32) (s0 : Int32) (s1 : Int32) : Option (Int32 × II) :=
  lt (s0 + s1) fun x8_2 => (if (1000000 : Int32) ≤ (I a0 31) then jn_X11_best_138 fu S I self47 self85 a0 x1 x2 x3 x4 x5 x6 x7 x8_2 x10 x9 (0 : Int32) else jn_X11_best_138 fu S I self47 self85 a0 x1 x2 x3 x4 x5 x6 x7 x8_2 x10 x9 (I a0 31))
def lp_X11_best_85 (fu : Nat) (S : Sk) (self47 : Int32 → Int32 → Int32 → Int32 → II → Option (Int32 × II)) (a0 : Nat) (x1 : Int32) (x2 : Int32) (x3 : Int32) (x4 : Int32) (x5 : Int32) (x6 : Int32) (x7 : Int32) (self85 : Int32 → Int32 → Int32 → II → Option (Int32 × II)) (x8 : Int32) (x9 : Int32) (x10 : Int32) (I : II) : Option (Int32 × II) :=
  if (I a0 22) ≤ x10 then if x4 < 0 then jn_X11_best_173 fu S I self47 a0 x1 x2 x3 x7 x8 x9 else if x5 < x8 then jn_X11_best_173 fu S I self47 a0 x1 x2 x3 x7 x8 x9 else if x8 = x5 then if x6 ≤ x9 then jn_X11_best_185 fu S I self47 a0 x1 x2 x3 x4 x5 x6 x7 else jn_X11_best_173 fu S I self47 a0 x1 x2 x3 x7 x8 x9 else jn_X11_best_185 fu S I self47 a0 x1 x2 x3 x4 x5 x6 x7 else (f_X11_layWay fu S I a0 x10).bind fun q9 => (if (1000000 : Int32) ≤ (q9 a0 31) then jn_X11_best_116 fu S q9 self47 self85 a0 x1 x2 x3 x4 x5 x6 x7 x9 x10 x8 (0 : Int32) else jn_X11_best_116 fu S q9 self47 self85 a0 x1 x2 x3 x4 x5 x6 x7 x9 x10 x8 (1 : Int32))
def lp_X11_best_47 (fu : Nat) (S : Sk) (a0 : Nat) (x1 : Int32) (x2 : Int32) (x3 : Int32) (self47 : Int32 → Int32 → Int32 → Int32 → II → Option (Int32 × II)) (x4 : Int32) (x5 : Int32) (x6 : Int32) (x7 : Int32) (I : II) : Option (Int32 × II) :=
  if ((1 : Int32) <<< ((I a0 34) &&& 31)) ≤ x7 then if x3 = 0 then some ((x4, I)) else if x3 = (1 : Int32) then some ((x5, I)) else if x3 = (2 : Int32) then some ((x6, I)) else (f_X11_busMinutes fu S I a0 x4 x1).bind fun q17 => (some ((q17, I))) else (f_X11_busMinutes fu S I a0 x7 x1).bind fun q20 => (if x2 < q20 then jn_X11_best_185 fu S I self47 a0 x1 x2 x3 x4 x5 x6 x7 else (f_X11_rideNet fu S I a0 x7 x1).bind fun q24 => (fix4 (lp_X11_best_85 fu S self47 a0 x1 x2 x3 x4 x5 x6 x7) fu (0 : Int32) (0 : Int32) (0 : Int32) q24))
def f_X11_best (fu : Nat) (S : Sk) (I : II) (a0 : Nat) (x1 : Int32) (x2 : Int32) (x3 : Int32) : Option (Int32 × II) :=
  if (t_X11_isDay x1) = 0 then some ((((-2) : Int32), I)) else if (t_X11_in x2.toInt64 (0 : Int64) (99999 : Int64)) = 0 then some ((((-2) : Int32), I)) else if (t_X11_in x3.toInt64 (0 : Int64) (3 : Int64)) = 0 then some ((((-2) : Int32), I)) else fix5 (lp_X11_best_47 fu S a0 x1 x2 x3) fu ((-9) : Int32) (0 : Int32) (0 : Int32) (0 : Int32) I
set_option maxRecDepth 100000 in
set_option maxHeartbeats 4000000 in
theorem gg_X11_best {E : EV} (fu : Nat) (S0 : Sk) (I0 : II) (a0 : Nat) (x1 : Int32) (x2 : Int32) (x3 : Int32) (ht0 : tyO S0 11 a0) : GG E i_X11_best (enM E i_X11_best S0 (po_X11_best S0 I0)) S0 I0 (0, 0) 0 [(0, vA (a0 + 1)), (1, vI x1), (2, vI x2), (3, vI x3)] [] (f_X11_best fu S0 I0 a0 x1 x2 x3) := by
  have hl47 : ∀ (nn : Nat) (x4 : Int32) (x5 : Int32) (x6 : Int32) (x7 : Int32) (I : II), True → GG E i_X11_best (enM E i_X11_best S0 (po_X11_best S0 I0)) S0 I (0, 0) 47 [(0, vA (a0 + 1)), (1, vI x1), (2, vI x2), (3, vI x3), (4, vI x4), (5, vI x5), (6, vI x6), (7, vI x7)] [] (fix5 (lp_X11_best_47 fu S0 a0 x1 x2 x3) nn x4 x5 x6 x7 I) := by
    refine g_fix5 (fun _ _ _ _ _ => S0) (fun x4 x5 x6 x7 I => I) (fun x4 x5 x6 x7 I => [(0, vA (a0 + 1)), (1, vI x1), (2, vI x2), (3, vI x3), (4, vI x4), (5, vI x5), (6, vI x6), (7, vI x7)]) (fun x4 x5 x6 x7 I => True) ?_
    intro self47 hself47 x4 x5 x6 x7 I hinv
    have hj185 : ∀ (I : II) (x4 : Int32) (x5 : Int32) (x6 : Int32) (x7 : Int32), GG E i_X11_best (enM E i_X11_best S0 (po_X11_best S0 I0)) S0 I (0, 0) 185 [(0, vA (a0 + 1)), (1, vI x1), (2, vI x2), (3, vI x3), (4, vI x4), (5, vI x5), (6, vI x6), (7, vI x7)] [] (jn_X11_best_185 fu S0 I self47 a0 x1 x2 x3 x4 x5 x6 x7) := by
      intro I x4 x5 x6 x7 
      unfold jn_X11_best_185
      refine g_iinc (v := (1 : Int32)) (L' := [(0, vA (a0 + 1)), (1, vI x1), (2, vI x2), (3, vI x3), (4, vI x4), (5, vI x5), (6, vI x6), (7, vI (x7 + (1 : Int32)))]) (dk D_X11_best 94 rfl) rfl rfl (Nat.le_of_ble_eq_true rfl) rfl ?_
      refine g_goto (tgt := 47) (dk D_X11_best 95 rfl) rfl ?_
      exact hself47 x4 x5 x6 (x7 + (1 : Int32)) I trivial
    have hj173 : ∀ (I : II) (x7 : Int32) (x8 : Int32) (x9 : Int32), GG E i_X11_best (enM E i_X11_best S0 (po_X11_best S0 I0)) S0 I (0, 0) 173 [(0, vA (a0 + 1)), (1, vI x1), (2, vI x2), (3, vI x3), (7, vI x7), (8, vI x8), (9, vI x9)] [] (jn_X11_best_173 fu S0 I self47 a0 x1 x2 x3 x7 x8 x9) := by
      intro I x7 x8 x9 
      unfold jn_X11_best_173
      refine g_iload (dk D_X11_best 88 rfl) rfl ?_
      refine g_istore (L' := [(0, vA (a0 + 1)), (1, vI x1), (2, vI x2), (3, vI x3), (4, vI x7), (7, vI x7), (8, vI x8), (9, vI x9)]) (dk D_X11_best 89 rfl) (Nat.le_of_ble_eq_true rfl) rfl ?_
      refine g_iload (dk D_X11_best 90 rfl) rfl ?_
      refine g_istore (L' := [(0, vA (a0 + 1)), (1, vI x1), (2, vI x2), (3, vI x3), (4, vI x7), (5, vI x8), (7, vI x7), (8, vI x8), (9, vI x9)]) (dk D_X11_best 91 rfl) (Nat.le_of_ble_eq_true rfl) rfl ?_
      refine g_iload (dk D_X11_best 92 rfl) rfl ?_
      refine g_istore (L' := [(0, vA (a0 + 1)), (1, vI x1), (2, vI x2), (3, vI x3), (4, vI x7), (5, vI x8), (6, vI x9), (7, vI x7), (8, vI x8), (9, vI x9)]) (dk D_X11_best 93 rfl) (Nat.le_of_ble_eq_true rfl) rfl ?_
      refine g_Lp [0, 1, 2, 3, 4, 5, 6, 7] rfl ?_
      exact hj185 I x7 x8 x9 x7
    have hl85 : ∀ (x4 : Int32) (x5 : Int32) (x6 : Int32) (x7 : Int32) (nn : Nat) (x8 : Int32) (x9 : Int32) (x10 : Int32) (I : II), True → GG E i_X11_best (enM E i_X11_best S0 (po_X11_best S0 I0)) S0 I (0, 0) 85 [(0, vA (a0 + 1)), (1, vI x1), (2, vI x2), (3, vI x3), (4, vI x4), (5, vI x5), (6, vI x6), (7, vI x7), (8, vI x8), (9, vI x9), (10, vI x10)] [] (fix4 (lp_X11_best_85 fu S0 self47 a0 x1 x2 x3 x4 x5 x6 x7) nn x8 x9 x10 I) := by
      intro x4 x5 x6 x7 
      refine g_fix4 (fun _ _ _ _ => S0) (fun x8 x9 x10 I => I) (fun x8 x9 x10 I => [(0, vA (a0 + 1)), (1, vI x1), (2, vI x2), (3, vI x3), (4, vI x4), (5, vI x5), (6, vI x6), (7, vI x7), (8, vI x8), (9, vI x9), (10, vI x10)]) (fun x8 x9 x10 I => True) ?_
      intro self85 hself85 x8 x9 x10 I hinv
      have hj138 : ∀ (I : II) (x8 : Int32) (x10 : Int32) (s0 : Int32) (s1 : Int32), GG E i_X11_best (enM E i_X11_best S0 (po_X11_best S0 I0)) S0 I (0, 0) 138 [(0, vA (a0 + 1)), (1, vI x1), (2, vI x2), (3, vI x3), (4, vI x4), (5, vI x5), (6, vI x6), (7, vI x7), (8, vI x8), (10, vI x10)] [vI s1, vI s0] (jn_X11_best_138 fu S0 I self47 self85 a0 x1 x2 x3 x4 x5 x6 x7 x8 x10 s0 s1) := by
        intro I x8 x10 s0 s1 
        unfold jn_X11_best_138
        refine g_iadd (dk D_X11_best 73 rfl) ?_
        refine g_ltV (fun x9_1 ex9_1 => ?_)
        refine g_istore (L' := [(0, vA (a0 + 1)), (1, vI x1), (2, vI x2), (3, vI x3), (4, vI x4), (5, vI x5), (6, vI x6), (7, vI x7), (8, vI x8), (9, vI x9_1), (10, vI x10)]) (dk D_X11_best 74 rfl) (Nat.le_of_ble_eq_true rfl) rfl ?_
        refine g_iinc (v := (1 : Int32)) (L' := [(0, vA (a0 + 1)), (1, vI x1), (2, vI x2), (3, vI x3), (4, vI x4), (5, vI x5), (6, vI x6), (7, vI x7), (8, vI x8), (9, vI x9_1), (10, vI (x10 + (1 : Int32)))]) (dk D_X11_best 75 rfl) rfl rfl (Nat.le_of_ble_eq_true rfl) rfl ?_
        refine g_goto (tgt := 85) (dk D_X11_best 76 rfl) rfl ?_
        exact hself85 x8 x9_1 (x10 + (1 : Int32)) I trivial
      have hj116 : ∀ (I : II) (x9 : Int32) (x10 : Int32) (s0 : Int32) (s1 : Int32), GG E i_X11_best (enM E i_X11_best S0 (po_X11_best S0 I0)) S0 I (0, 0) 116 [(0, vA (a0 + 1)), (1, vI x1), (2, vI x2), (3, vI x3), (4, vI x4), (5, vI x5), (6, vI x6), (7, vI x7), (9, vI x9), (10, vI x10)] [vI s1, vI s0] (jn_X11_best_116 fu S0 I self47 self85 a0 x1 x2 x3 x4 x5 x6 x7 x9 x10 s0 s1) := by
        intro I x9 x10 s0 s1 
        unfold jn_X11_best_116
        refine g_iadd (dk D_X11_best 62 rfl) ?_
        refine g_ltV (fun x8_2 ex8_2 => ?_)
        refine g_istore (L' := [(0, vA (a0 + 1)), (1, vI x1), (2, vI x2), (3, vI x3), (4, vI x4), (5, vI x5), (6, vI x6), (7, vI x7), (8, vI x8_2), (9, vI x9), (10, vI x10)]) (dk D_X11_best 63 rfl) (Nat.le_of_ble_eq_true rfl) rfl ?_
        refine g_iload (dk D_X11_best 64 rfl) rfl ?_
        refine g_aload_n (dk D_X11_best 65 rfl) rfl ?_
        refine g_getIt fl_RX11_273 (by decide) ht0 (dk D_X11_best 66 rfl) ?_
        refine g_ldc (dk D_X11_best 67 rfl) lk_RX11_216 ?_
        refine g_icmp_ge (tgt := 137) (dk D_X11_best 68 rfl) rfl (fun hc3 => ?_) (fun hc3 => ?_)
        · refine g_iconst (v := (0 : Int32)) (dk D_X11_best 72 rfl) rfl ?_
          refine g_Lp [0, 1, 2, 3, 4, 5, 6, 7, 8, 10] rfl ?_
          exact hj138 I x8_2 x10 x9 (0 : Int32)
        · refine g_aload_n (dk D_X11_best 69 rfl) rfl ?_
          refine g_getIt fl_RX11_273 (by decide) ht0 (dk D_X11_best 70 rfl) ?_
          refine g_goto (tgt := 138) (dk D_X11_best 71 rfl) rfl ?_
          refine g_Lp [0, 1, 2, 3, 4, 5, 6, 7, 8, 10] rfl ?_
          exact hj138 I x8_2 x10 x9 (I a0 31)
      unfold lp_X11_best_85
      refine g_iload (dk D_X11_best 47 rfl) rfl ?_
      refine g_aload_n (dk D_X11_best 48 rfl) rfl ?_
      refine g_getIt fl_RX11_249 (by decide) ht0 (dk D_X11_best 49 rfl) ?_
      refine g_icmp_ge (tgt := 147) (dk D_X11_best 50 rfl) rfl (fun hc4 => ?_) (fun hc4 => ?_)
      · refine g_iload (dk D_X11_best 77 rfl) rfl ?_
        refine g_if_lt (tgt := 173) (dk D_X11_best 78 rfl) rfl (fun hc5 => ?_) (fun hc5 => ?_)
        · refine g_Lp [0, 1, 2, 3, 7, 8, 9] rfl ?_
          exact hj173 I x7 x8 x9
        · refine g_iload (dk D_X11_best 79 rfl) rfl ?_
          refine g_iload (dk D_X11_best 80 rfl) rfl ?_
          refine g_icmp_gt (tgt := 173) (dk D_X11_best 81 rfl) rfl (fun hc6 => ?_) (fun hc6 => ?_)
          · refine g_Lp [0, 1, 2, 3, 7, 8, 9] rfl ?_
            exact hj173 I x7 x8 x9
          · refine g_iload (dk D_X11_best 82 rfl) rfl ?_
            refine g_iload (dk D_X11_best 83 rfl) rfl ?_
            refine g_icmp_ne (tgt := 185) (dk D_X11_best 84 rfl) rfl (fun hc7 => ?_) (fun hc7 => ?_)
            · refine g_Lp [0, 1, 2, 3, 4, 5, 6, 7] rfl ?_
              exact hj185 I x4 x5 x6 x7
            · refine g_iload (dk D_X11_best 85 rfl) rfl ?_
              refine g_iload (dk D_X11_best 86 rfl) rfl ?_
              refine g_icmp_ge (tgt := 185) (dk D_X11_best 87 rfl) rfl (fun hc8 => ?_) (fun hc8 => ?_)
              · refine g_Lp [0, 1, 2, 3, 4, 5, 6, 7] rfl ?_
                exact hj185 I x4 x5 x6 x7
              · refine g_Lp [0, 1, 2, 3, 7, 8, 9] rfl ?_
                exact hj173 I x7 x8 x9
      · refine g_aload_n (dk D_X11_best 51 rfl) rfl ?_
        refine g_iload (dk D_X11_best 52 rfl) rfl ?_
        refine g_bind (fun q9 hq10 => ?_)
        refine h_callVt (st := []) (c_X11_layWay (E := E) fu S0 I a0 x10 q9 hq10 (ht0)) cl_RX11_288 ht0 rfl rfl (by decide) (Nat.le_of_ble_eq_true rfl) (dk D_X11_best 53 rfl) ?_
        refine g_iload (dk D_X11_best 54 rfl) rfl ?_
        refine g_aload_n (dk D_X11_best 55 rfl) rfl ?_
        refine g_getIt fl_RX11_273 (by decide) ht0 (dk D_X11_best 56 rfl) ?_
        refine g_ldc (dk D_X11_best 57 rfl) lk_RX11_216 ?_
        refine g_icmp_ge (tgt := 115) (dk D_X11_best 58 rfl) rfl (fun hc12 => ?_) (fun hc12 => ?_)
        · refine g_iconst (v := (0 : Int32)) (dk D_X11_best 61 rfl) rfl ?_
          refine g_Lp [0, 1, 2, 3, 4, 5, 6, 7, 9, 10] rfl ?_
          exact hj116 q9 x9 x10 x8 (0 : Int32)
        · refine g_iconst (v := (1 : Int32)) (dk D_X11_best 59 rfl) rfl ?_
          refine g_goto (tgt := 116) (dk D_X11_best 60 rfl) rfl ?_
          refine g_Lp [0, 1, 2, 3, 4, 5, 6, 7, 9, 10] rfl ?_
          exact hj116 q9 x9 x10 x8 (1 : Int32)
    unfold lp_X11_best_47
    refine g_iload (dk D_X11_best 25 rfl) rfl ?_
    refine g_iconst (v := (1 : Int32)) (dk D_X11_best 26 rfl) rfl ?_
    refine g_aload_n (dk D_X11_best 27 rfl) rfl ?_
    refine g_getIt fl_RX11_297 (by decide) ht0 (dk D_X11_best 28 rfl) ?_
    refine g_ishl (dk D_X11_best 29 rfl) ?_
    refine g_icmp_ge (tgt := 191) (dk D_X11_best 30 rfl) rfl (fun hc13 => ?_) (fun hc13 => ?_)
    · refine g_iload_n (dk D_X11_best 96 rfl) rfl ?_
      refine g_if_ne (tgt := 200) (dk D_X11_best 97 rfl) rfl (fun hc14 => ?_) (fun hc14 => ?_)
      · refine g_iload_n (dk D_X11_best 100 rfl) rfl ?_
        refine g_iconst (v := (1 : Int32)) (dk D_X11_best 101 rfl) rfl ?_
        refine g_icmp_ne (tgt := 210) (dk D_X11_best 102 rfl) rfl (fun hc15 => ?_) (fun hc15 => ?_)
        · refine g_iload_n (dk D_X11_best 105 rfl) rfl ?_
          refine g_iconst (v := (2 : Int32)) (dk D_X11_best 106 rfl) rfl ?_
          refine g_icmp_ne (tgt := 220) (dk D_X11_best 107 rfl) rfl (fun hc16 => ?_) (fun hc16 => ?_)
          · refine g_aload_n (dk D_X11_best 110 rfl) rfl ?_
            refine g_iload (dk D_X11_best 111 rfl) rfl ?_
            refine g_iload_n (dk D_X11_best 112 rfl) rfl ?_
            refine g_bind (fun q17 hq18 => ?_)
            refine h_callVt (st := []) (c_X11_busMinutes (E := E) fu S0 I a0 x4 x1 q17 hq18 (ht0)) cl_RX11_302 ht0 rfl rfl (by decide) (Nat.le_of_ble_eq_true rfl) (dk D_X11_best 113 rfl) ?_
            exact g_ireturn rfl rfl Sx.rf rfl (by decide) (by decide) (dk D_X11_best 114 rfl)
          · refine g_iload (dk D_X11_best 108 rfl) rfl ?_
            refine g_goto (tgt := 227) (dk D_X11_best 109 rfl) rfl ?_
            exact g_ireturn rfl rfl Sx.rf rfl (by decide) (by decide) (dk D_X11_best 114 rfl)
        · refine g_iload (dk D_X11_best 103 rfl) rfl ?_
          refine g_goto (tgt := 227) (dk D_X11_best 104 rfl) rfl ?_
          exact g_ireturn rfl rfl Sx.rf rfl (by decide) (by decide) (dk D_X11_best 114 rfl)
      · refine g_iload (dk D_X11_best 98 rfl) rfl ?_
        refine g_goto (tgt := 227) (dk D_X11_best 99 rfl) rfl ?_
        exact g_ireturn rfl rfl Sx.rf rfl (by decide) (by decide) (dk D_X11_best 114 rfl)
    · refine g_aload_n (dk D_X11_best 31 rfl) rfl ?_
      refine g_iload (dk D_X11_best 32 rfl) rfl ?_
      refine g_iload_n (dk D_X11_best 33 rfl) rfl ?_
      refine g_bind (fun q20 hq21 => ?_)
      refine h_callVt (st := []) (c_X11_busMinutes (E := E) fu S0 I a0 x7 x1 q20 hq21 (ht0)) cl_RX11_302 ht0 rfl rfl (by decide) (Nat.le_of_ble_eq_true rfl) (dk D_X11_best 34 rfl) ?_
      refine g_iload_n (dk D_X11_best 35 rfl) rfl ?_
      refine g_icmp_gt (tgt := 185) (dk D_X11_best 36 rfl) rfl (fun hc23 => ?_) (fun hc23 => ?_)
      · exact hj185 I x4 x5 x6 x7
      · refine g_aload_n (dk D_X11_best 37 rfl) rfl ?_
        refine g_iload (dk D_X11_best 38 rfl) rfl ?_
        refine g_iload_n (dk D_X11_best 39 rfl) rfl ?_
        refine g_bind (fun q24 hq25 => ?_)
        refine h_callVt (st := []) (c_X11_rideNet (E := E) fu S0 I a0 x7 x1 q24 hq25 (ht0)) cl_RX11_305 ht0 rfl rfl (by decide) (Nat.le_of_ble_eq_true rfl) (dk D_X11_best 40 rfl) ?_
        refine g_iconst (v := (0 : Int32)) (dk D_X11_best 41 rfl) rfl ?_
        refine g_istore (L' := [(0, vA (a0 + 1)), (1, vI x1), (2, vI x2), (3, vI x3), (4, vI x4), (5, vI x5), (6, vI x6), (7, vI x7), (8, vI (0 : Int32))]) (dk D_X11_best 42 rfl) (Nat.le_of_ble_eq_true rfl) rfl ?_
        refine g_iconst (v := (0 : Int32)) (dk D_X11_best 43 rfl) rfl ?_
        refine g_istore (L' := [(0, vA (a0 + 1)), (1, vI x1), (2, vI x2), (3, vI x3), (4, vI x4), (5, vI x5), (6, vI x6), (7, vI x7), (8, vI (0 : Int32)), (9, vI (0 : Int32))]) (dk D_X11_best 44 rfl) (Nat.le_of_ble_eq_true rfl) rfl ?_
        refine g_iconst (v := (0 : Int32)) (dk D_X11_best 45 rfl) rfl ?_
        refine g_istore (L' := [(0, vA (a0 + 1)), (1, vI x1), (2, vI x2), (3, vI x3), (4, vI x4), (5, vI x5), (6, vI x6), (7, vI x7), (8, vI (0 : Int32)), (9, vI (0 : Int32)), (10, vI (0 : Int32))]) (dk D_X11_best 46 rfl) (Nat.le_of_ble_eq_true rfl) rfl ?_
        exact hl85 x4 x5 x6 x7 fu (0 : Int32) (0 : Int32) (0 : Int32) q24 trivial
  unfold f_X11_best
  refine g_iload_n (dk D_X11_best 0 rfl) rfl ?_
  refine h_callS (st := []) (c_X11_isDay (E := E) S0 I0 x1) cl_RX11_200 rfl rfl (by decide) (Nat.le_of_ble_eq_true rfl) (dk D_X11_best 1 rfl) ?_
  refine g_if_eq (tgt := 31) (dk D_X11_best 2 rfl) rfl (fun hc28 => ?_) (fun hc28 => ?_)
  · refine g_bipush (v := ((-2) : Int32)) (dk D_X11_best 15 rfl) rfl ?_
    exact g_ireturn rfl rfl Sx.rf rfl (by decide) (by decide) (dk D_X11_best 16 rfl)
  · refine g_iload_n (dk D_X11_best 3 rfl) rfl ?_
    refine g_i2l (dk D_X11_best 4 rfl) ?_
    refine g_lconst (v := (0 : Int64)) (dk D_X11_best 5 rfl) rfl ?_
    refine g_ldc2 (dk D_X11_best 6 rfl) lk_RX11_300 ?_
    refine h_callS (st := []) (c_X11_in (E := E) S0 I0 x2.toInt64 (0 : Int64) (99999 : Int64)) cl_RX11_132 rfl rfl (by decide) (Nat.le_of_ble_eq_true rfl) (dk D_X11_best 7 rfl) ?_
    refine g_if_eq (tgt := 31) (dk D_X11_best 8 rfl) rfl (fun hc30 => ?_) (fun hc30 => ?_)
    · refine g_bipush (v := ((-2) : Int32)) (dk D_X11_best 15 rfl) rfl ?_
      exact g_ireturn rfl rfl Sx.rf rfl (by decide) (by decide) (dk D_X11_best 16 rfl)
    · refine g_iload_n (dk D_X11_best 9 rfl) rfl ?_
      refine g_i2l (dk D_X11_best 10 rfl) ?_
      refine g_lconst (v := (0 : Int64)) (dk D_X11_best 11 rfl) rfl ?_
      refine g_ldc2 (dk D_X11_best 12 rfl) lk_RX11_252 ?_
      refine h_callS (st := []) (c_X11_in (E := E) S0 I0 x3.toInt64 (0 : Int64) (3 : Int64)) cl_RX11_132 rfl rfl (by decide) (Nat.le_of_ble_eq_true rfl) (dk D_X11_best 13 rfl) ?_
      refine g_if_ne (tgt := 34) (dk D_X11_best 14 rfl) rfl (fun hc32 => ?_) (fun hc32 => ?_)
      · refine g_bipush (v := ((-9) : Int32)) (dk D_X11_best 17 rfl) rfl ?_
        refine g_istore (L' := [(0, vA (a0 + 1)), (1, vI x1), (2, vI x2), (3, vI x3), (4, vI ((-9) : Int32))]) (dk D_X11_best 18 rfl) (Nat.le_of_ble_eq_true rfl) rfl ?_
        refine g_iconst (v := (0 : Int32)) (dk D_X11_best 19 rfl) rfl ?_
        refine g_istore (L' := [(0, vA (a0 + 1)), (1, vI x1), (2, vI x2), (3, vI x3), (4, vI ((-9) : Int32)), (5, vI (0 : Int32))]) (dk D_X11_best 20 rfl) (Nat.le_of_ble_eq_true rfl) rfl ?_
        refine g_iconst (v := (0 : Int32)) (dk D_X11_best 21 rfl) rfl ?_
        refine g_istore (L' := [(0, vA (a0 + 1)), (1, vI x1), (2, vI x2), (3, vI x3), (4, vI ((-9) : Int32)), (5, vI (0 : Int32)), (6, vI (0 : Int32))]) (dk D_X11_best 22 rfl) (Nat.le_of_ble_eq_true rfl) rfl ?_
        refine g_iconst (v := (0 : Int32)) (dk D_X11_best 23 rfl) rfl ?_
        refine g_istore (L' := [(0, vA (a0 + 1)), (1, vI x1), (2, vI x2), (3, vI x3), (4, vI ((-9) : Int32)), (5, vI (0 : Int32)), (6, vI (0 : Int32)), (7, vI (0 : Int32))]) (dk D_X11_best 24 rfl) (Nat.le_of_ble_eq_true rfl) rfl ?_
        exact hl47 fu ((-9) : Int32) (0 : Int32) (0 : Int32) (0 : Int32) I0 trivial
      · refine g_bipush (v := ((-2) : Int32)) (dk D_X11_best 15 rfl) rfl ?_
        exact g_ireturn rfl rfl Sx.rf rfl (by decide) (by decide) (dk D_X11_best 16 rfl)
theorem c_X11_best {E : EV} (fu : Nat) (S0 : Sk) (I0 : II) (a0 : Nat) (x1 : Int32) (x2 : Int32) (x3 : Int32) (r : Int32 × II) (h : f_X11_best fu S0 I0 a0 x1 x2 x3 = some r) (ht0 : tyO S0 11 a0) : MX E yX11_best i_X11_best S0 I0 [vA (a0 + 1), vI x1, vI x2, vI x3] (po_X11_best S0 I0 r) :=
  MX.of h (by decide) rfl rfl (Nat.le_of_ble_eq_true rfl) (gg_X11_best fu S0 I0 a0 x1 x2 x3 ht0)
theorem fl_RX11_308 : FL RX11 308 11 36 := ⟨RX11, TX11, 57, rfl, by decide, rfl, by decide, (gm 1014 (by decide +kernel) (by decide +kernel)), inG11⟩
theorem fp_11_36 : FP 11 36 (tyX11 36) false := ⟨RX11, TX11, 57, tyX11, rfl, tyX11_ok, nmX11, rfl, rfl, rfl⟩
def tb_X11_depot : List (Nat × Instr × Nat) := [(0, .iload_n 1, 1), (1, .i2l, 1), (2, .lconst 0, 1), (3, .ldc2_w 159, 3), (6, .invokestatic 132, 3), (9, .ifCond .eq 27, 3), (12, .iload_n 2, 1), (13, .i2l, 1), (14, .lconst 0, 1), (15, .ldc2_w 159, 3), (18, .invokestatic 132, 3), (21, .ifCond .eq 15, 3), (24, .iload_n 3, 1), (25, .i2l, 1), (26, .lconst 0, 1), (27, .ldc2_w 211, 3), (30, .invokestatic 132, 3), (33, .ifCond .ne 6, 3), (36, .bipush (-2), 2), (38, .ireturn, 1), (39, .aload_n 0, 1), (40, .getfield 308, 3), (43, .iconst 4, 1), (44, .if_icmp .ne 6, 3), (47, .bipush (-4), 2), (49, .ireturn, 1), (50, .aload_n 0, 1), (51, .getfield 85, 3), (54, .aload_n 0, 1), (55, .getfield 308, 3), (58, .iload_n 1, 1), (59, .iastore, 1), (60, .aload_n 0, 1), (61, .getfield 88, 3), (64, .aload_n 0, 1), (65, .getfield 308, 3), (68, .iload_n 2, 1), (69, .iastore, 1), (70, .aload_n 0, 1), (71, .getfield 91, 3), (74, .aload_n 0, 1), (75, .getfield 308, 3), (78, .iload_n 3, 1), (79, .iastore, 1), (80, .aload_n 0, 1), (81, .dup, 1), (82, .getfield 308, 3), (85, .iconst 1, 1), (86, .iadd, 1), (87, .putfield 308, 3), (90, .aload_n 0, 1), (91, .getfield 308, 3), (94, .iconst 1, 1), (95, .isub, 1), (96, .ireturn, 1)]
def i_X11_depot : MI := (RX11, cX11_depot, 4, (some .int), "depot", { frames := 1, cells := 0, slots := 0, locals := 25 })
theorem D_X11_depot : tbOK (i_X11_depot).2.1 tb_X11_depot := by show ∀ q ∈ tb_X11_depot, decode cX11_depot q.1 = .ok (q.2.1, q.2.2); decide +kernel
def po_X11_depot (S : Sk) (I : II) (r : Int32 × II) : Option LV × Sk × II := (some (vI r.1), S, r.2)
def f_X11_depot (fu : Nat) (S : Sk) (I : II) (a0 : Nat) (x1 : Int32) (x2 : Int32) (x3 : Int32) : Option (Int32 × II) :=
  if (t_X11_in x1.toInt64 (0 : Int64) (40 : Int64)) = 0 then some ((((-2) : Int32), I)) else if (t_X11_in x2.toInt64 (0 : Int64) (40 : Int64)) = 0 then some ((((-2) : Int32), I)) else if (t_X11_in x3.toInt64 (0 : Int64) (9 : Int64)) = 0 then some ((((-2) : Int32), I)) else if (I a0 36) = (4 : Int32) then some ((((-4) : Int32), I)) else gd (inb S (S.1 a0 37) (I a0 36)) (lt (wr I (S.1 a0 37) (I a0 36) x1) fun I10 => (gd (inb S (S.1 a0 38) (I10 a0 36)) (lt (wr I10 (S.1 a0 38) (I10 a0 36) x2) fun I13 => (gd (inb S (S.1 a0 39) (I13 a0 36)) (lt (wr I13 (S.1 a0 39) (I13 a0 36) x3) fun I16 => (lt (upI I16 a0 36 ((I16 a0 36) + (1 : Int32))) fun I17 => (some ((((I17 a0 36) - (1 : Int32)), I17)))))))))
set_option maxRecDepth 100000 in
set_option maxHeartbeats 4000000 in
theorem gg_X11_depot {E : EV} (fu : Nat) (S0 : Sk) (I0 : II) (a0 : Nat) (x1 : Int32) (x2 : Int32) (x3 : Int32) (ht0 : tyO S0 11 a0) : GG E i_X11_depot (enM E i_X11_depot S0 (po_X11_depot S0 I0)) S0 I0 (0, 0) 0 [(0, vA (a0 + 1)), (1, vI x1), (2, vI x2), (3, vI x3)] [] (f_X11_depot fu S0 I0 a0 x1 x2 x3) := by
  unfold f_X11_depot
  refine g_iload_n (dk D_X11_depot 0 rfl) rfl ?_
  refine g_i2l (dk D_X11_depot 1 rfl) ?_
  refine g_lconst (v := (0 : Int64)) (dk D_X11_depot 2 rfl) rfl ?_
  refine g_ldc2 (dk D_X11_depot 3 rfl) lk_RX11_159 ?_
  refine h_callS (st := []) (c_X11_in (E := E) S0 I0 x1.toInt64 (0 : Int64) (40 : Int64)) cl_RX11_132 rfl rfl (by decide) (Nat.le_of_ble_eq_true rfl) (dk D_X11_depot 4 rfl) ?_
  refine g_if_eq (tgt := 36) (dk D_X11_depot 5 rfl) rfl (fun hc2 => ?_) (fun hc2 => ?_)
  · refine g_bipush (v := ((-2) : Int32)) (dk D_X11_depot 18 rfl) rfl ?_
    exact g_ireturn rfl rfl Sx.rf rfl (by decide) (by decide) (dk D_X11_depot 19 rfl)
  · refine g_iload_n (dk D_X11_depot 6 rfl) rfl ?_
    refine g_i2l (dk D_X11_depot 7 rfl) ?_
    refine g_lconst (v := (0 : Int64)) (dk D_X11_depot 8 rfl) rfl ?_
    refine g_ldc2 (dk D_X11_depot 9 rfl) lk_RX11_159 ?_
    refine h_callS (st := []) (c_X11_in (E := E) S0 I0 x2.toInt64 (0 : Int64) (40 : Int64)) cl_RX11_132 rfl rfl (by decide) (Nat.le_of_ble_eq_true rfl) (dk D_X11_depot 10 rfl) ?_
    refine g_if_eq (tgt := 36) (dk D_X11_depot 11 rfl) rfl (fun hc4 => ?_) (fun hc4 => ?_)
    · refine g_bipush (v := ((-2) : Int32)) (dk D_X11_depot 18 rfl) rfl ?_
      exact g_ireturn rfl rfl Sx.rf rfl (by decide) (by decide) (dk D_X11_depot 19 rfl)
    · refine g_iload_n (dk D_X11_depot 12 rfl) rfl ?_
      refine g_i2l (dk D_X11_depot 13 rfl) ?_
      refine g_lconst (v := (0 : Int64)) (dk D_X11_depot 14 rfl) rfl ?_
      refine g_ldc2 (dk D_X11_depot 15 rfl) lk_RX11_211 ?_
      refine h_callS (st := []) (c_X11_in (E := E) S0 I0 x3.toInt64 (0 : Int64) (9 : Int64)) cl_RX11_132 rfl rfl (by decide) (Nat.le_of_ble_eq_true rfl) (dk D_X11_depot 16 rfl) ?_
      refine g_if_ne (tgt := 39) (dk D_X11_depot 17 rfl) rfl (fun hc6 => ?_) (fun hc6 => ?_)
      · refine g_aload_n (dk D_X11_depot 20 rfl) rfl ?_
        refine g_getIt fl_RX11_308 (by decide) ht0 (dk D_X11_depot 21 rfl) ?_
        refine g_iconst (v := (4 : Int32)) (dk D_X11_depot 22 rfl) rfl ?_
        refine g_icmp_ne (tgt := 50) (dk D_X11_depot 23 rfl) rfl (fun hc7 => ?_) (fun hc7 => ?_)
        · refine g_aload_n (dk D_X11_depot 26 rfl) rfl ?_
          refine g_getAt (t := 100) fl_RX11_85 rfl ht0 (dk D_X11_depot 27 rfl) (fun ht8 => ?_)
          refine g_aload_n (dk D_X11_depot 28 rfl) rfl ?_
          refine g_getIt fl_RX11_308 (by decide) ht0 (dk D_X11_depot 29 rfl) ?_
          refine g_iload_n (dk D_X11_depot 30 rfl) rfl ?_
          refine g_gd (fun hi9 => ?_)
          refine g_iastore ht8 hi9 (dk D_X11_depot 31 rfl) ?_
          refine g_ltI (fun I10 eI10 => ?_)
          refine g_aload_n (dk D_X11_depot 32 rfl) rfl ?_
          refine g_getAt (t := 100) fl_RX11_88 rfl ht0 (dk D_X11_depot 33 rfl) (fun ht11 => ?_)
          refine g_aload_n (dk D_X11_depot 34 rfl) rfl ?_
          refine g_getIt fl_RX11_308 (by decide) ht0 (dk D_X11_depot 35 rfl) ?_
          refine g_iload_n (dk D_X11_depot 36 rfl) rfl ?_
          refine g_gd (fun hi12 => ?_)
          refine g_iastore ht11 hi12 (dk D_X11_depot 37 rfl) ?_
          refine g_ltI (fun I13 eI13 => ?_)
          refine g_aload_n (dk D_X11_depot 38 rfl) rfl ?_
          refine g_getAt (t := 100) fl_RX11_91 rfl ht0 (dk D_X11_depot 39 rfl) (fun ht14 => ?_)
          refine g_aload_n (dk D_X11_depot 40 rfl) rfl ?_
          refine g_getIt fl_RX11_308 (by decide) ht0 (dk D_X11_depot 41 rfl) ?_
          refine g_iload_n (dk D_X11_depot 42 rfl) rfl ?_
          refine g_gd (fun hi15 => ?_)
          refine g_iastore ht14 hi15 (dk D_X11_depot 43 rfl) ?_
          refine g_ltI (fun I16 eI16 => ?_)
          refine g_aload_n (dk D_X11_depot 44 rfl) rfl ?_
          refine g_dup (dk D_X11_depot 45 rfl) rfl ?_
          refine g_getIt fl_RX11_308 (by decide) ht0 (dk D_X11_depot 46 rfl) ?_
          refine g_iconst (v := (1 : Int32)) (dk D_X11_depot 47 rfl) rfl ?_
          refine g_iadd (dk D_X11_depot 48 rfl) ?_
          refine g_putIt fl_RX11_308 fp_11_36 (fun h => (by cases h)) (by decide) rfl rfl ht0 (dk D_X11_depot 49 rfl) ?_
          refine g_ltI (fun I17 eI17 => ?_)
          refine g_aload_n (dk D_X11_depot 50 rfl) rfl ?_
          refine g_getIt fl_RX11_308 (by decide) ht0 (dk D_X11_depot 51 rfl) ?_
          refine g_iconst (v := (1 : Int32)) (dk D_X11_depot 52 rfl) rfl ?_
          refine g_isub (dk D_X11_depot 53 rfl) ?_
          exact g_ireturn rfl rfl Sx.rf rfl (by decide) (by decide) (dk D_X11_depot 54 rfl)
        · refine g_bipush (v := ((-4) : Int32)) (dk D_X11_depot 24 rfl) rfl ?_
          exact g_ireturn rfl rfl Sx.rf rfl (by decide) (by decide) (dk D_X11_depot 25 rfl)
      · refine g_bipush (v := ((-2) : Int32)) (dk D_X11_depot 18 rfl) rfl ?_
        exact g_ireturn rfl rfl Sx.rf rfl (by decide) (by decide) (dk D_X11_depot 19 rfl)
theorem c_X11_depot {E : EV} (fu : Nat) (S0 : Sk) (I0 : II) (a0 : Nat) (x1 : Int32) (x2 : Int32) (x3 : Int32) (r : Int32 × II) (h : f_X11_depot fu S0 I0 a0 x1 x2 x3 = some r) (ht0 : tyO S0 11 a0) : MX E yX11_depot i_X11_depot S0 I0 [vA (a0 + 1), vI x1, vI x2, vI x3] (po_X11_depot S0 I0 r) :=
  MX.of h (by decide) rfl rfl (Nat.le_of_ble_eq_true rfl) (gg_X11_depot fu S0 I0 a0 x1 x2 x3 ht0)
def tb_X11_toDepot : List (Nat × Instr × Nat) := [(0, .aload_n 0, 1), (1, .getfield 7, 3), (4, .iload_n 1, 1), (5, .iaload, 1), (6, .aload_n 0, 1), (7, .getfield 85, 3), (10, .iload_n 2, 1), (11, .iaload, 1), (12, .isub, 1), (13, .invokestatic 161, 3), (16, .aload_n 0, 1), (17, .getfield 13, 3), (20, .iload_n 1, 1), (21, .iaload, 1), (22, .aload_n 0, 1), (23, .getfield 88, 3), (26, .iload_n 2, 1), (27, .iaload, 1), (28, .isub, 1), (29, .invokestatic 161, 3), (32, .iadd, 1), (33, .ireturn, 1)]
def i_X11_toDepot : MI := (RX11, cX11_toDepot, 3, (some .int), "toDepot", { frames := 1, cells := 0, slots := 0, locals := 20 })
theorem D_X11_toDepot : tbOK (i_X11_toDepot).2.1 tb_X11_toDepot := by show ∀ q ∈ tb_X11_toDepot, decode cX11_toDepot q.1 = .ok (q.2.1, q.2.2); decide +kernel
def po_X11_toDepot (S : Sk) (I : II) (r : Int32) : Option LV × Sk × II := (some (vI r), S, I)
def f_X11_toDepot (fu : Nat) (S : Sk) (I : II) (a0 : Nat) (x1 : Int32) (x2 : Int32) : Option (Int32) :=
  gd (inb S (S.1 a0 2) x1) (gd (inb S (S.1 a0 37) x2) (gd (inb S (S.1 a0 3) x1) (gd (inb S (S.1 a0 38) x2) (some (((t_X11_sizeOf ((rd I (S.1 a0 2) x1) - (rd I (S.1 a0 37) x2))) + (t_X11_sizeOf ((rd I (S.1 a0 3) x1) - (rd I (S.1 a0 38) x2)))))))))
set_option maxRecDepth 100000 in
set_option maxHeartbeats 4000000 in
theorem gg_X11_toDepot {E : EV} (fu : Nat) (S0 : Sk) (I0 : II) (a0 : Nat) (x1 : Int32) (x2 : Int32) (ht0 : tyO S0 11 a0) : GG E i_X11_toDepot (enM E i_X11_toDepot S0 (po_X11_toDepot S0 I0)) S0 I0 (0, 0) 0 [(0, vA (a0 + 1)), (1, vI x1), (2, vI x2)] [] (f_X11_toDepot fu S0 I0 a0 x1 x2) := by
  unfold f_X11_toDepot
  refine g_aload_n (dk D_X11_toDepot 0 rfl) rfl ?_
  refine g_getAt (t := 100) fl_RX11_7 rfl ht0 (dk D_X11_toDepot 1 rfl) (fun ht1 => ?_)
  refine g_iload_n (dk D_X11_toDepot 2 rfl) rfl ?_
  refine g_gd (fun hi2 => ?_)
  refine g_iaload ht1 hi2 (dk D_X11_toDepot 3 rfl) ?_
  refine g_aload_n (dk D_X11_toDepot 4 rfl) rfl ?_
  refine g_getAt (t := 100) fl_RX11_85 rfl ht0 (dk D_X11_toDepot 5 rfl) (fun ht3 => ?_)
  refine g_iload_n (dk D_X11_toDepot 6 rfl) rfl ?_
  refine g_gd (fun hi4 => ?_)
  refine g_iaload ht3 hi4 (dk D_X11_toDepot 7 rfl) ?_
  refine g_isub (dk D_X11_toDepot 8 rfl) ?_
  refine h_callS (st := []) (c_X11_sizeOf (E := E) S0 I0 ((rd I0 (S0.1 a0 2) x1) - (rd I0 (S0.1 a0 37) x2))) cl_RX11_161 rfl rfl (by decide) (Nat.le_of_ble_eq_true rfl) (dk D_X11_toDepot 9 rfl) ?_
  refine g_aload_n (dk D_X11_toDepot 10 rfl) rfl ?_
  refine g_getAt (t := 100) fl_RX11_13 rfl ht0 (dk D_X11_toDepot 11 rfl) (fun ht6 => ?_)
  refine g_iload_n (dk D_X11_toDepot 12 rfl) rfl ?_
  refine g_gd (fun hi7 => ?_)
  refine g_iaload ht6 hi7 (dk D_X11_toDepot 13 rfl) ?_
  refine g_aload_n (dk D_X11_toDepot 14 rfl) rfl ?_
  refine g_getAt (t := 100) fl_RX11_88 rfl ht0 (dk D_X11_toDepot 15 rfl) (fun ht8 => ?_)
  refine g_iload_n (dk D_X11_toDepot 16 rfl) rfl ?_
  refine g_gd (fun hi9 => ?_)
  refine g_iaload ht8 hi9 (dk D_X11_toDepot 17 rfl) ?_
  refine g_isub (dk D_X11_toDepot 18 rfl) ?_
  refine h_callS (st := [vI (t_X11_sizeOf ((rd I0 (S0.1 a0 2) x1) - (rd I0 (S0.1 a0 37) x2)))]) (c_X11_sizeOf (E := E) S0 I0 ((rd I0 (S0.1 a0 3) x1) - (rd I0 (S0.1 a0 38) x2))) cl_RX11_161 rfl rfl (by decide) (Nat.le_of_ble_eq_true rfl) (dk D_X11_toDepot 19 rfl) ?_
  refine g_iadd (dk D_X11_toDepot 20 rfl) ?_
  exact g_ireturn rfl rfl Sx.rf rfl (by decide) (by decide) (dk D_X11_toDepot 21 rfl)
theorem c_X11_toDepot {E : EV} (fu : Nat) (S0 : Sk) (I0 : II) (a0 : Nat) (x1 : Int32) (x2 : Int32) (r : Int32) (h : f_X11_toDepot fu S0 I0 a0 x1 x2 = some r) (ht0 : tyO S0 11 a0) : MX E yX11_toDepot i_X11_toDepot S0 I0 [vA (a0 + 1), vI x1, vI x2] (po_X11_toDepot S0 I0 r) :=
  MX.of h (by decide) rfl rfl (Nat.le_of_ble_eq_true rfl) (gg_X11_toDepot fu S0 I0 a0 x1 x2 ht0)
theorem cl_RX11_311 : CV0 RX11 311 yX11_toDepot i_X11_toDepot 2 11 := ⟨⟨(gm 1373 (by decide +kernel) (by decide +kernel)), (gm 72 (by decide +kernel) (by decide +kernel)), ((gm 1376 (by decide +kernel) (by decide +kernel))), by decide +kernel, by decide +kernel, by decide +kernel⟩, ⟨(gm 1375 (by decide +kernel) (by decide +kernel)), (gm 50 (by decide +kernel) (by decide +kernel))⟩, rfl, by decide⟩
def tb_X11_emptyOf : List (Nat × Instr × Nat) := [(0, .aload_n 0, 1), (1, .aload_n 0, 1), (2, .getfield 22, 3), (5, .bipush 8, 2), (7, .iload_n 1, 1), (8, .imul, 1), (9, .iaload, 1), (10, .iload_n 2, 1), (11, .invokevirtual 311, 3), (14, .aload_n 0, 1), (15, .aload_n 0, 1), (16, .getfield 22, 3), (19, .bipush 8, 2), (21, .iload_n 1, 1), (22, .imul, 1), (23, .aload_n 0, 1), (24, .getfield 19, 3), (27, .iload_n 1, 1), (28, .iaload, 1), (29, .iadd, 1), (30, .iconst 1, 1), (31, .isub, 1), (32, .iaload, 1), (33, .iload_n 2, 1), (34, .invokevirtual 311, 3), (37, .iadd, 1), (38, .ireturn, 1)]
def i_X11_emptyOf : MI := (RX11, cX11_emptyOf, 3, (some .int), "emptyOf", { frames := 2, cells := 0, slots := 0, locals := 42 })
theorem D_X11_emptyOf : tbOK (i_X11_emptyOf).2.1 tb_X11_emptyOf := by show ∀ q ∈ tb_X11_emptyOf, decode cX11_emptyOf q.1 = .ok (q.2.1, q.2.2); decide +kernel
def po_X11_emptyOf (S : Sk) (I : II) (r : Int32) : Option LV × Sk × II := (some (vI r), S, I)
def f_X11_emptyOf (fu : Nat) (S : Sk) (I : II) (a0 : Nat) (x1 : Int32) (x2 : Int32) : Option (Int32) :=
  gd (inb S (S.1 a0 7) ((8 : Int32) * x1)) ((f_X11_toDepot fu S I a0 (rd I (S.1 a0 7) ((8 : Int32) * x1)) x2).bind fun q3 => (gd (inb S (S.1 a0 6) x1) (gd (inb S (S.1 a0 7) ((((8 : Int32) * x1) + (rd I (S.1 a0 6) x1)) - (1 : Int32))) ((f_X11_toDepot fu S I a0 (rd I (S.1 a0 7) ((((8 : Int32) * x1) + (rd I (S.1 a0 6) x1)) - (1 : Int32))) x2).bind fun q10 => (some ((q3 + q10)))))))
set_option maxRecDepth 100000 in
set_option maxHeartbeats 4000000 in
theorem gg_X11_emptyOf {E : EV} (fu : Nat) (S0 : Sk) (I0 : II) (a0 : Nat) (x1 : Int32) (x2 : Int32) (ht0 : tyO S0 11 a0) : GG E i_X11_emptyOf (enM E i_X11_emptyOf S0 (po_X11_emptyOf S0 I0)) S0 I0 (0, 0) 0 [(0, vA (a0 + 1)), (1, vI x1), (2, vI x2)] [] (f_X11_emptyOf fu S0 I0 a0 x1 x2) := by
  unfold f_X11_emptyOf
  refine g_aload_n (dk D_X11_emptyOf 0 rfl) rfl ?_
  refine g_aload_n (dk D_X11_emptyOf 1 rfl) rfl ?_
  refine g_getAt (t := 100) fl_RX11_22 rfl ht0 (dk D_X11_emptyOf 2 rfl) (fun ht1 => ?_)
  refine g_bipush (v := (8 : Int32)) (dk D_X11_emptyOf 3 rfl) rfl ?_
  refine g_iload_n (dk D_X11_emptyOf 4 rfl) rfl ?_
  refine g_imul (dk D_X11_emptyOf 5 rfl) ?_
  refine g_gd (fun hi2 => ?_)
  refine g_iaload ht1 hi2 (dk D_X11_emptyOf 6 rfl) ?_
  refine g_iload_n (dk D_X11_emptyOf 7 rfl) rfl ?_
  refine g_bind (fun q3 hq4 => ?_)
  refine h_callVt (st := []) (c_X11_toDepot (E := E) fu S0 I0 a0 (rd I0 (S0.1 a0 7) ((8 : Int32) * x1)) x2 q3 hq4 (ht0)) cl_RX11_311 ht0 rfl rfl (by decide) (Nat.le_of_ble_eq_true rfl) (dk D_X11_emptyOf 8 rfl) ?_
  refine g_aload_n (dk D_X11_emptyOf 9 rfl) rfl ?_
  refine g_aload_n (dk D_X11_emptyOf 10 rfl) rfl ?_
  refine g_getAt (t := 100) fl_RX11_22 rfl ht0 (dk D_X11_emptyOf 11 rfl) (fun ht6 => ?_)
  refine g_bipush (v := (8 : Int32)) (dk D_X11_emptyOf 12 rfl) rfl ?_
  refine g_iload_n (dk D_X11_emptyOf 13 rfl) rfl ?_
  refine g_imul (dk D_X11_emptyOf 14 rfl) ?_
  refine g_aload_n (dk D_X11_emptyOf 15 rfl) rfl ?_
  refine g_getAt (t := 100) fl_RX11_19 rfl ht0 (dk D_X11_emptyOf 16 rfl) (fun ht7 => ?_)
  refine g_iload_n (dk D_X11_emptyOf 17 rfl) rfl ?_
  refine g_gd (fun hi8 => ?_)
  refine g_iaload ht7 hi8 (dk D_X11_emptyOf 18 rfl) ?_
  refine g_iadd (dk D_X11_emptyOf 19 rfl) ?_
  refine g_iconst (v := (1 : Int32)) (dk D_X11_emptyOf 20 rfl) rfl ?_
  refine g_isub (dk D_X11_emptyOf 21 rfl) ?_
  refine g_gd (fun hi9 => ?_)
  refine g_iaload ht1 hi9 (dk D_X11_emptyOf 22 rfl) ?_
  refine g_iload_n (dk D_X11_emptyOf 23 rfl) rfl ?_
  refine g_bind (fun q10 hq11 => ?_)
  refine h_callVt (st := [vI q3]) (c_X11_toDepot (E := E) fu S0 I0 a0 (rd I0 (S0.1 a0 7) ((((8 : Int32) * x1) + (rd I0 (S0.1 a0 6) x1)) - (1 : Int32))) x2 q10 hq11 (ht0)) cl_RX11_311 ht0 rfl rfl (by decide) (Nat.le_of_ble_eq_true rfl) (dk D_X11_emptyOf 24 rfl) ?_
  refine g_iadd (dk D_X11_emptyOf 25 rfl) ?_
  exact g_ireturn rfl rfl Sx.rf rfl (by decide) (by decide) (dk D_X11_emptyOf 26 rfl)
theorem c_X11_emptyOf {E : EV} (fu : Nat) (S0 : Sk) (I0 : II) (a0 : Nat) (x1 : Int32) (x2 : Int32) (r : Int32) (h : f_X11_emptyOf fu S0 I0 a0 x1 x2 = some r) (ht0 : tyO S0 11 a0) : MX E yX11_emptyOf i_X11_emptyOf S0 I0 [vA (a0 + 1), vI x1, vI x2] (po_X11_emptyOf S0 I0 r) :=
  MX.of h (by decide) rfl rfl (Nat.le_of_ble_eq_true rfl) (gg_X11_emptyOf fu S0 I0 a0 x1 x2 ht0)
theorem cl_RX11_314 : CV0 RX11 314 yX11_emptyOf i_X11_emptyOf 2 11 := ⟨⟨(gm 1369 (by decide +kernel) (by decide +kernel)), (gm 72 (by decide +kernel) (by decide +kernel)), ((gm 1372 (by decide +kernel) (by decide +kernel))), by decide +kernel, by decide +kernel, by decide +kernel⟩, ⟨(gm 1371 (by decide +kernel) (by decide +kernel)), (gm 49 (by decide +kernel) (by decide +kernel))⟩, rfl, by decide⟩
def tb_X11_empty : List (Nat × Instr × Nat) := [(0, .aload_n 0, 1), (1, .iload_n 1, 1), (2, .invokevirtual 197, 3), (5, .ifCond .ne 19, 3), (8, .iload_n 2, 1), (9, .i2l, 1), (10, .lconst 0, 1), (11, .aload_n 0, 1), (12, .getfield 308, 3), (15, .i2l, 1), (16, .lconst 1, 1), (17, .lsub, 1), (18, .invokestatic 132, 3), (21, .ifCond .ne 7, 3), (24, .iconst (-1), 1), (25, .goto 9, 3), (28, .aload_n 0, 1), (29, .iload_n 1, 1), (30, .iload_n 2, 1), (31, .invokevirtual 314, 3), (34, .ireturn, 1)]
def i_X11_empty : MI := (RX11, cX11_empty, 3, (some .int), "empty", { frames := 3, cells := 0, slots := 0, locals := 64 })
theorem D_X11_empty : tbOK (i_X11_empty).2.1 tb_X11_empty := by show ∀ q ∈ tb_X11_empty, decode cX11_empty q.1 = .ok (q.2.1, q.2.2); decide +kernel
def po_X11_empty (S : Sk) (I : II) (r : Int32) : Option LV × Sk × II := (some (vI r), S, I)
def f_X11_empty (fu : Nat) (S : Sk) (I : II) (a0 : Nat) (x1 : Int32) (x2 : Int32) : Option (Int32) :=
  if (t_X11_noLine I a0 x1) = 0 then if (t_X11_in x2.toInt64 (0 : Int64) ((((I a0 36)).toInt64) - (1 : Int64))) = 0 then some (((-1) : Int32)) else (f_X11_emptyOf fu S I a0 x1 x2).bind fun q5 => (some (q5)) else some (((-1) : Int32))
set_option maxRecDepth 100000 in
set_option maxHeartbeats 4000000 in
theorem gg_X11_empty {E : EV} (fu : Nat) (S0 : Sk) (I0 : II) (a0 : Nat) (x1 : Int32) (x2 : Int32) (ht0 : tyO S0 11 a0) : GG E i_X11_empty (enM E i_X11_empty S0 (po_X11_empty S0 I0)) S0 I0 (0, 0) 0 [(0, vA (a0 + 1)), (1, vI x1), (2, vI x2)] [] (f_X11_empty fu S0 I0 a0 x1 x2) := by
  unfold f_X11_empty
  refine g_aload_n (dk D_X11_empty 0 rfl) rfl ?_
  refine g_iload_n (dk D_X11_empty 1 rfl) rfl ?_
  refine h_callVt (st := []) (c_X11_noLine (E := E) S0 I0 a0 x1 (ht0)) cl_RX11_197 ht0 rfl rfl (by decide) (Nat.le_of_ble_eq_true rfl) (dk D_X11_empty 2 rfl) ?_
  refine g_if_ne (tgt := 24) (dk D_X11_empty 3 rfl) rfl (fun hc2 => ?_) (fun hc2 => ?_)
  · refine g_iconst (v := ((-1) : Int32)) (dk D_X11_empty 14 rfl) rfl ?_
    refine g_goto (tgt := 34) (dk D_X11_empty 15 rfl) rfl ?_
    exact g_ireturn rfl rfl Sx.rf rfl (by decide) (by decide) (dk D_X11_empty 20 rfl)
  · refine g_iload_n (dk D_X11_empty 4 rfl) rfl ?_
    refine g_i2l (dk D_X11_empty 5 rfl) ?_
    refine g_lconst (v := (0 : Int64)) (dk D_X11_empty 6 rfl) rfl ?_
    refine g_aload_n (dk D_X11_empty 7 rfl) rfl ?_
    refine g_getIt fl_RX11_308 (by decide) ht0 (dk D_X11_empty 8 rfl) ?_
    refine g_i2l (dk D_X11_empty 9 rfl) ?_
    refine g_lconst (v := (1 : Int64)) (dk D_X11_empty 10 rfl) rfl ?_
    refine g_lsub (dk D_X11_empty 11 rfl) ?_
    refine h_callS (st := []) (c_X11_in (E := E) S0 I0 x2.toInt64 (0 : Int64) ((((I0 a0 36)).toInt64) - (1 : Int64))) cl_RX11_132 rfl rfl (by decide) (Nat.le_of_ble_eq_true rfl) (dk D_X11_empty 12 rfl) ?_
    refine g_if_ne (tgt := 28) (dk D_X11_empty 13 rfl) rfl (fun hc4 => ?_) (fun hc4 => ?_)
    · refine g_aload_n (dk D_X11_empty 16 rfl) rfl ?_
      refine g_iload_n (dk D_X11_empty 17 rfl) rfl ?_
      refine g_iload_n (dk D_X11_empty 18 rfl) rfl ?_
      refine g_bind (fun q5 hq6 => ?_)
      refine h_callVt (st := []) (c_X11_emptyOf (E := E) fu S0 I0 a0 x1 x2 q5 hq6 (ht0)) cl_RX11_314 ht0 rfl rfl (by decide) (Nat.le_of_ble_eq_true rfl) (dk D_X11_empty 19 rfl) ?_
      exact g_ireturn rfl rfl Sx.rf rfl (by decide) (by decide) (dk D_X11_empty 20 rfl)
    · refine g_iconst (v := ((-1) : Int32)) (dk D_X11_empty 14 rfl) rfl ?_
      refine g_goto (tgt := 34) (dk D_X11_empty 15 rfl) rfl ?_
      exact g_ireturn rfl rfl Sx.rf rfl (by decide) (by decide) (dk D_X11_empty 20 rfl)
theorem c_X11_empty {E : EV} (fu : Nat) (S0 : Sk) (I0 : II) (a0 : Nat) (x1 : Int32) (x2 : Int32) (r : Int32) (h : f_X11_empty fu S0 I0 a0 x1 x2 = some r) (ht0 : tyO S0 11 a0) : MX E yX11_empty i_X11_empty S0 I0 [vA (a0 + 1), vI x1, vI x2] (po_X11_empty S0 I0 r) :=
  MX.of h (by decide) rfl rfl (Nat.le_of_ble_eq_true rfl) (gg_X11_empty fu S0 I0 a0 x1 x2 ht0)
theorem fl_RX11_317 : FL RX11 317 11 40 := ⟨RX11, TX11, 57, rfl, by decide, rfl, by decide, (gm 1018 (by decide +kernel) (by decide +kernel)), inG11⟩
theorem fp_11_40 : FP 11 40 (tyX11 40) false := ⟨RX11, TX11, 57, tyX11, rfl, tyX11_ok, nmX11, rfl, rfl, rfl⟩
def tb_X11_layRuns : List (Nat × Instr × Nat) := [(0, .aload_n 0, 1), (1, .iconst 0, 1), (2, .putfield 317, 3), (5, .iconst 0, 1), (6, .istore_n 2, 1), (7, .iload_n 2, 1), (8, .aload_n 0, 1), (9, .getfield 172, 3), (12, .if_icmp .ge 38, 3), (15, .aload_n 0, 1), (16, .iload_n 2, 1), (17, .iload_n 1, 1), (18, .invokevirtual 213, 3), (21, .ifCond .eq 23, 3), (24, .aload_n 0, 1), (25, .getfield 94, 3), (28, .aload_n 0, 1), (29, .getfield 317, 3), (32, .iload_n 2, 1), (33, .iastore, 1), (34, .aload_n 0, 1), (35, .dup, 1), (36, .getfield 317, 3), (39, .iconst 1, 1), (40, .iadd, 1), (41, .putfield 317, 3), (44, .iinc 2 1, 3), (47, .goto (-40), 3), (50, .return_, 1)]
def i_X11_layRuns : MI := (RX11, cX11_layRuns, 3, none, "layRuns", { frames := 2, cells := 0, slots := 0, locals := 47 })
theorem D_X11_layRuns : tbOK (i_X11_layRuns).2.1 tb_X11_layRuns := by show ∀ q ∈ tb_X11_layRuns, decode cX11_layRuns q.1 = .ok (q.2.1, q.2.2); decide +kernel
def po_X11_layRuns (S : Sk) (I : II) (r : II) : Option LV × Sk × II := (none, S, r)
def jn_X11_layRuns_44 (fu : Nat) (S : Sk) (I : II) (self7 : Int32 → II → Option (II)) (a0 : Nat) (x1 : Int32) (x2 : Int32) : Option (II) :=
  self7 (x2 + (1 : Int32)) I
def lp_X11_layRuns_7 (fu : Nat) (S : Sk) (a0 : Nat) (x1 : Int32) (self7 : Int32 → II → Option (II)) (x2 : Int32) (I : II) : Option (II) :=
  if (I a0 4) ≤ x2 then some (I) else (f_X11_doesRun fu S I a0 x2 x1).bind fun q2 => (if q2 = 0 then jn_X11_layRuns_44 fu S I self7 a0 x1 x2 else gd (inb S (S.1 a0 41) (I a0 40)) (lt (wr I (S.1 a0 41) (I a0 40) x2) fun I8 => (lt (upI I8 a0 40 ((I8 a0 40) + (1 : Int32))) fun I9 => (jn_X11_layRuns_44 fu S I9 self7 a0 x1 x2))))
def f_X11_layRuns (fu : Nat) (S : Sk) (I : II) (a0 : Nat) (x1 : Int32) : Option (II) :=
  lt (upI I a0 40 (0 : Int32)) fun I10 => (fix2 (lp_X11_layRuns_7 fu S a0 x1) fu (0 : Int32) I10)
set_option maxRecDepth 100000 in
set_option maxHeartbeats 4000000 in
theorem gg_X11_layRuns {E : EV} (fu : Nat) (S0 : Sk) (I0 : II) (a0 : Nat) (x1 : Int32) (ht0 : tyO S0 11 a0) : GG E i_X11_layRuns (enM E i_X11_layRuns S0 (po_X11_layRuns S0 I0)) S0 I0 (0, 0) 0 [(0, vA (a0 + 1)), (1, vI x1)] [] (f_X11_layRuns fu S0 I0 a0 x1) := by
  have hl7 : ∀ (nn : Nat) (x2 : Int32) (I : II), True → GG E i_X11_layRuns (enM E i_X11_layRuns S0 (po_X11_layRuns S0 I0)) S0 I (0, 0) 7 [(0, vA (a0 + 1)), (1, vI x1), (2, vI x2)] [] (fix2 (lp_X11_layRuns_7 fu S0 a0 x1) nn x2 I) := by
    refine g_fix2 (fun _ _ => S0) (fun x2 I => I) (fun x2 I => [(0, vA (a0 + 1)), (1, vI x1), (2, vI x2)]) (fun x2 I => True) ?_
    intro self7 hself7 x2 I hinv
    have hj44 : ∀ (I : II) (x2 : Int32), GG E i_X11_layRuns (enM E i_X11_layRuns S0 (po_X11_layRuns S0 I0)) S0 I (0, 0) 44 [(0, vA (a0 + 1)), (1, vI x1), (2, vI x2)] [] (jn_X11_layRuns_44 fu S0 I self7 a0 x1 x2) := by
      intro I x2 
      unfold jn_X11_layRuns_44
      refine g_iinc (v := (1 : Int32)) (L' := [(0, vA (a0 + 1)), (1, vI x1), (2, vI (x2 + (1 : Int32)))]) (dk D_X11_layRuns 26 rfl) rfl rfl (Nat.le_of_ble_eq_true rfl) rfl ?_
      refine g_goto (tgt := 7) (dk D_X11_layRuns 27 rfl) rfl ?_
      exact hself7 (x2 + (1 : Int32)) I trivial
    unfold lp_X11_layRuns_7
    refine g_iload_n (dk D_X11_layRuns 5 rfl) rfl ?_
    refine g_aload_n (dk D_X11_layRuns 6 rfl) rfl ?_
    refine g_getIt fl_RX11_172 (by decide) ht0 (dk D_X11_layRuns 7 rfl) ?_
    refine g_icmp_ge (tgt := 50) (dk D_X11_layRuns 8 rfl) rfl (fun hc1 => ?_) (fun hc1 => ?_)
    · exact g_return rfl rfl Sx.rf rfl (by decide) (by decide) (dk D_X11_layRuns 28 rfl)
    · refine g_aload_n (dk D_X11_layRuns 9 rfl) rfl ?_
      refine g_iload_n (dk D_X11_layRuns 10 rfl) rfl ?_
      refine g_iload_n (dk D_X11_layRuns 11 rfl) rfl ?_
      refine g_bind (fun q2 hq3 => ?_)
      refine h_callVt (st := []) (c_X11_doesRun (E := E) fu S0 I a0 x2 x1 q2 hq3 (ht0)) cl_RX11_213 ht0 rfl rfl (by decide) (Nat.le_of_ble_eq_true rfl) (dk D_X11_layRuns 12 rfl) ?_
      refine g_if_eq (tgt := 44) (dk D_X11_layRuns 13 rfl) rfl (fun hc5 => ?_) (fun hc5 => ?_)
      · exact hj44 I x2
      · refine g_aload_n (dk D_X11_layRuns 14 rfl) rfl ?_
        refine g_getAt (t := 100) fl_RX11_94 rfl ht0 (dk D_X11_layRuns 15 rfl) (fun ht6 => ?_)
        refine g_aload_n (dk D_X11_layRuns 16 rfl) rfl ?_
        refine g_getIt fl_RX11_317 (by decide) ht0 (dk D_X11_layRuns 17 rfl) ?_
        refine g_iload_n (dk D_X11_layRuns 18 rfl) rfl ?_
        refine g_gd (fun hi7 => ?_)
        refine g_iastore ht6 hi7 (dk D_X11_layRuns 19 rfl) ?_
        refine g_ltI (fun I8 eI8 => ?_)
        refine g_aload_n (dk D_X11_layRuns 20 rfl) rfl ?_
        refine g_dup (dk D_X11_layRuns 21 rfl) rfl ?_
        refine g_getIt fl_RX11_317 (by decide) ht0 (dk D_X11_layRuns 22 rfl) ?_
        refine g_iconst (v := (1 : Int32)) (dk D_X11_layRuns 23 rfl) rfl ?_
        refine g_iadd (dk D_X11_layRuns 24 rfl) ?_
        refine g_putIt fl_RX11_317 fp_11_40 (fun h => (by cases h)) (by decide) rfl rfl ht0 (dk D_X11_layRuns 25 rfl) ?_
        refine g_ltI (fun I9 eI9 => ?_)
        exact hj44 I9 x2
  unfold f_X11_layRuns
  refine g_aload_n (dk D_X11_layRuns 0 rfl) rfl ?_
  refine g_iconst (v := (0 : Int32)) (dk D_X11_layRuns 1 rfl) rfl ?_
  refine g_putIt fl_RX11_317 fp_11_40 (fun h => (by cases h)) (by decide) rfl rfl ht0 (dk D_X11_layRuns 2 rfl) ?_
  refine g_ltI (fun I10 eI10 => ?_)
  refine g_iconst (v := (0 : Int32)) (dk D_X11_layRuns 3 rfl) rfl ?_
  refine g_istore_n (L' := [(0, vA (a0 + 1)), (1, vI x1), (2, vI (0 : Int32))]) (dk D_X11_layRuns 4 rfl) (Nat.le_of_ble_eq_true rfl) rfl ?_
  exact hl7 fu (0 : Int32) I10 trivial
theorem c_X11_layRuns {E : EV} (fu : Nat) (S0 : Sk) (I0 : II) (a0 : Nat) (x1 : Int32) (r : II) (h : f_X11_layRuns fu S0 I0 a0 x1 = some r) (ht0 : tyO S0 11 a0) : MX E yX11_layRuns i_X11_layRuns S0 I0 [vA (a0 + 1), vI x1] (po_X11_layRuns S0 I0 r) :=
  MX.of h (by decide) rfl rfl (Nat.le_of_ble_eq_true rfl) (gg_X11_layRuns fu S0 I0 a0 x1 ht0)
def tb_X11_layRow : List (Nat × Instr × Nat) := [(0, .iload_n 1, 1), (1, .istore_n 3, 1), (2, .aload_n 0, 1), (3, .getfield 317, 3), (6, .iconst 1, 1), (7, .isub, 1), (8, .istore 4, 2), (10, .iload 4, 2), (12, .ifCond .lt 23, 3), (15, .aload_n 0, 1), (16, .getfield 97, 3), (19, .iload 4, 2), (21, .iload_n 3, 1), (22, .iload_n 2, 1), (23, .irem, 1), (24, .iastore, 1), (25, .iload_n 3, 1), (26, .iload_n 2, 1), (27, .idiv, 1), (28, .istore_n 3, 1), (29, .iinc 4 (-1), 3), (32, .goto (-22), 3), (35, .return_, 1)]
def i_X11_layRow : MI := (RX11, cX11_layRow, 5, none, "layRow", { frames := 0, cells := 0, slots := 0, locals := 0 })
theorem D_X11_layRow : tbOK (i_X11_layRow).2.1 tb_X11_layRow := by show ∀ q ∈ tb_X11_layRow, decode cX11_layRow q.1 = .ok (q.2.1, q.2.2); decide +kernel
def po_X11_layRow (S : Sk) (I : II) (r : II) : Option LV × Sk × II := (none, S, r)
def lp_X11_layRow_10 (fu : Nat) (S : Sk) (a0 : Nat) (x2 : Int32) (self10 : Int32 → Int32 → II → Option (II)) (x3 : Int32) (x4 : Int32) (I : II) : Option (II) :=
  if x4 < 0 then some (I) else gd (¬ x2 = 0) (gd (inb S (S.1 a0 42) x4) (lt (wr I (S.1 a0 42) x4 (x3 - x3 / x2 * x2)) fun I5 => (gd (¬ x2 = 0) (lt (x3 / x2) fun x3_7 => (self10 x3_7 (x4 + ((-1) : Int32)) I5)))))
def f_X11_layRow (fu : Nat) (S : Sk) (I : II) (a0 : Nat) (x1 : Int32) (x2 : Int32) : Option (II) :=
  lt ((I a0 40) - (1 : Int32)) fun x4_8 => (fix3 (lp_X11_layRow_10 fu S a0 x2) fu x1 x4_8 I)
set_option maxRecDepth 100000 in
set_option maxHeartbeats 4000000 in
theorem gg_X11_layRow {E : EV} (fu : Nat) (S0 : Sk) (I0 : II) (a0 : Nat) (x1 : Int32) (x2 : Int32) (ht0 : tyO S0 11 a0) : GG E i_X11_layRow (enM E i_X11_layRow S0 (po_X11_layRow S0 I0)) S0 I0 (0, 0) 0 [(0, vA (a0 + 1)), (1, vI x1), (2, vI x2)] [] (f_X11_layRow fu S0 I0 a0 x1 x2) := by
  have hl10 : ∀ (nn : Nat) (x3 : Int32) (x4 : Int32) (I : II), True → GG E i_X11_layRow (enM E i_X11_layRow S0 (po_X11_layRow S0 I0)) S0 I (0, 0) 10 [(0, vA (a0 + 1)), (2, vI x2), (3, vI x3), (4, vI x4)] [] (fix3 (lp_X11_layRow_10 fu S0 a0 x2) nn x3 x4 I) := by
    refine g_fix3 (fun _ _ _ => S0) (fun x3 x4 I => I) (fun x3 x4 I => [(0, vA (a0 + 1)), (2, vI x2), (3, vI x3), (4, vI x4)]) (fun x3 x4 I => True) ?_
    intro self10 hself10 x3 x4 I hinv
    unfold lp_X11_layRow_10
    refine g_iload (dk D_X11_layRow 7 rfl) rfl ?_
    refine g_if_lt (tgt := 35) (dk D_X11_layRow 8 rfl) rfl (fun hc1 => ?_) (fun hc1 => ?_)
    · exact g_return rfl rfl Sx.rf rfl (by decide) (by decide) (dk D_X11_layRow 22 rfl)
    · refine g_aload_n (dk D_X11_layRow 9 rfl) rfl ?_
      refine g_getAt (t := 100) fl_RX11_97 rfl ht0 (dk D_X11_layRow 10 rfl) (fun ht2 => ?_)
      refine g_iload (dk D_X11_layRow 11 rfl) rfl ?_
      refine g_iload_n (dk D_X11_layRow 12 rfl) rfl ?_
      refine g_iload_n (dk D_X11_layRow 13 rfl) rfl ?_
      refine g_gd (fun hz3 => ?_)
      refine g_irem (dk D_X11_layRow 14 rfl) hz3 ?_
      refine g_gd (fun hi4 => ?_)
      refine g_iastore ht2 hi4 (dk D_X11_layRow 15 rfl) ?_
      refine g_ltI (fun I5 eI5 => ?_)
      refine g_iload_n (dk D_X11_layRow 16 rfl) rfl ?_
      refine g_iload_n (dk D_X11_layRow 17 rfl) rfl ?_
      refine g_gd (fun hz6 => ?_)
      refine g_idiv (dk D_X11_layRow 18 rfl) hz6 ?_
      refine g_ltV (fun x3_7 ex3_7 => ?_)
      refine g_istore_n (L' := [(0, vA (a0 + 1)), (2, vI x2), (3, vI x3_7), (4, vI x4)]) (dk D_X11_layRow 19 rfl) (Nat.le_of_ble_eq_true rfl) rfl ?_
      refine g_iinc (v := ((-1) : Int32)) (L' := [(0, vA (a0 + 1)), (2, vI x2), (3, vI x3_7), (4, vI (x4 + ((-1) : Int32)))]) (dk D_X11_layRow 20 rfl) rfl rfl (Nat.le_of_ble_eq_true rfl) rfl ?_
      refine g_goto (tgt := 10) (dk D_X11_layRow 21 rfl) rfl ?_
      exact hself10 x3_7 (x4 + ((-1) : Int32)) I5 trivial
  unfold f_X11_layRow
  refine g_iload_n (dk D_X11_layRow 0 rfl) rfl ?_
  refine g_istore_n (L' := [(0, vA (a0 + 1)), (1, vI x1), (2, vI x2), (3, vI x1)]) (dk D_X11_layRow 1 rfl) (Nat.le_of_ble_eq_true rfl) rfl ?_
  refine g_aload_n (dk D_X11_layRow 2 rfl) rfl ?_
  refine g_getIt fl_RX11_317 (by decide) ht0 (dk D_X11_layRow 3 rfl) ?_
  refine g_iconst (v := (1 : Int32)) (dk D_X11_layRow 4 rfl) rfl ?_
  refine g_isub (dk D_X11_layRow 5 rfl) ?_
  refine g_ltV (fun x4_8 ex4_8 => ?_)
  refine g_istore (L' := [(0, vA (a0 + 1)), (1, vI x1), (2, vI x2), (3, vI x1), (4, vI x4_8)]) (dk D_X11_layRow 6 rfl) (Nat.le_of_ble_eq_true rfl) rfl ?_
  refine g_Lp [0, 2, 3, 4] rfl ?_
  exact hl10 fu x1 x4_8 I0 trivial
theorem c_X11_layRow {E : EV} (fu : Nat) (S0 : Sk) (I0 : II) (a0 : Nat) (x1 : Int32) (x2 : Int32) (r : II) (h : f_X11_layRow fu S0 I0 a0 x1 x2 = some r) (ht0 : tyO S0 11 a0) : MX E yX11_layRow i_X11_layRow S0 I0 [vA (a0 + 1), vI x1, vI x2] (po_X11_layRow S0 I0 r) :=
  MX.of h (by decide) rfl rfl (Nat.le_of_ble_eq_true rfl) (gg_X11_layRow fu S0 I0 a0 x1 x2 ht0)
def tb_X11_power : List (Nat × Instr × Nat) := [(0, .iconst 1, 1), (1, .istore_n 2, 1), (2, .iconst 0, 1), (3, .istore_n 3, 1), (4, .iload_n 3, 1), (5, .iload_n 1, 1), (6, .if_icmp .ge 13, 3), (9, .iload_n 2, 1), (10, .iload_n 0, 1), (11, .imul, 1), (12, .istore_n 2, 1), (13, .iinc 3 1, 3), (16, .goto (-12), 3), (19, .iload_n 2, 1), (20, .ireturn, 1)]
def i_X11_power : MI := (RX11, cX11_power, 4, (some .int), "power", { frames := 0, cells := 0, slots := 0, locals := 0 })
theorem D_X11_power : tbOK (i_X11_power).2.1 tb_X11_power := by show ∀ q ∈ tb_X11_power, decode cX11_power q.1 = .ok (q.2.1, q.2.2); decide +kernel
def po_X11_power (S : Sk) (I : II) (r : Int32) : Option LV × Sk × II := (some (vI r), S, I)
def lp_X11_power_4 (fu : Nat) (S : Sk) (I : II) (x0 : Int32) (x1 : Int32) (self4 : Int32 → Int32 → Option (Int32)) (x2 : Int32) (x3 : Int32) : Option (Int32) :=
  if x1 ≤ x3 then some (x2) else lt (x2 * x0) fun x2_2 => (self4 x2_2 (x3 + (1 : Int32)))
def f_X11_power (fu : Nat) (S : Sk) (I : II) (x0 : Int32) (x1 : Int32) : Option (Int32) :=
  fix2 (lp_X11_power_4 fu S I x0 x1) fu (1 : Int32) (0 : Int32)
set_option maxRecDepth 100000 in
set_option maxHeartbeats 4000000 in
theorem gg_X11_power {E : EV} (fu : Nat) (S0 : Sk) (I0 : II) (x0 : Int32) (x1 : Int32) : GG E i_X11_power (enM E i_X11_power S0 (po_X11_power S0 I0)) S0 I0 (0, 0) 0 [(0, vI x0), (1, vI x1)] [] (f_X11_power fu S0 I0 x0 x1) := by
  have hl4 : ∀ (nn : Nat) (x2 : Int32) (x3 : Int32), True → GG E i_X11_power (enM E i_X11_power S0 (po_X11_power S0 I0)) S0 I0 (0, 0) 4 [(0, vI x0), (1, vI x1), (2, vI x2), (3, vI x3)] [] (fix2 (lp_X11_power_4 fu S0 I0 x0 x1) nn x2 x3) := by
    refine g_fix2 (fun _ _ => S0) (fun _ _ => I0) (fun x2 x3 => [(0, vI x0), (1, vI x1), (2, vI x2), (3, vI x3)]) (fun x2 x3 => True) ?_
    intro self4 hself4 x2 x3 hinv
    unfold lp_X11_power_4
    refine g_iload_n (dk D_X11_power 4 rfl) rfl ?_
    refine g_iload_n (dk D_X11_power 5 rfl) rfl ?_
    refine g_icmp_ge (tgt := 19) (dk D_X11_power 6 rfl) rfl (fun hc1 => ?_) (fun hc1 => ?_)
    · refine g_iload_n (dk D_X11_power 13 rfl) rfl ?_
      exact g_ireturn rfl rfl Sx.rf rfl (by decide) (by decide) (dk D_X11_power 14 rfl)
    · refine g_iload_n (dk D_X11_power 7 rfl) rfl ?_
      refine g_iload_n (dk D_X11_power 8 rfl) rfl ?_
      refine g_imul (dk D_X11_power 9 rfl) ?_
      refine g_ltV (fun x2_2 ex2_2 => ?_)
      refine g_istore_n (L' := [(0, vI x0), (1, vI x1), (2, vI x2_2), (3, vI x3)]) (dk D_X11_power 10 rfl) (Nat.le_of_ble_eq_true rfl) rfl ?_
      refine g_iinc (v := (1 : Int32)) (L' := [(0, vI x0), (1, vI x1), (2, vI x2_2), (3, vI (x3 + (1 : Int32)))]) (dk D_X11_power 11 rfl) rfl rfl (Nat.le_of_ble_eq_true rfl) rfl ?_
      refine g_goto (tgt := 4) (dk D_X11_power 12 rfl) rfl ?_
      exact hself4 x2_2 (x3 + (1 : Int32)) trivial
  unfold f_X11_power
  refine g_iconst (v := (1 : Int32)) (dk D_X11_power 0 rfl) rfl ?_
  refine g_istore_n (L' := [(0, vI x0), (1, vI x1), (2, vI (1 : Int32))]) (dk D_X11_power 1 rfl) (Nat.le_of_ble_eq_true rfl) rfl ?_
  refine g_iconst (v := (0 : Int32)) (dk D_X11_power 2 rfl) rfl ?_
  refine g_istore_n (L' := [(0, vI x0), (1, vI x1), (2, vI (1 : Int32)), (3, vI (0 : Int32))]) (dk D_X11_power 3 rfl) (Nat.le_of_ble_eq_true rfl) rfl ?_
  exact hl4 fu (1 : Int32) (0 : Int32) trivial
theorem c_X11_power {E : EV} (fu : Nat) (S0 : Sk) (I0 : II) (x0 : Int32) (x1 : Int32) (r : Int32) (h : f_X11_power fu S0 I0 x0 x1 = some r) : MX E yX11_power i_X11_power S0 I0 [vI x0, vI x1] (po_X11_power S0 I0 r) :=
  MX.of h (by decide) rfl rfl (Nat.le_of_ble_eq_true rfl) (gg_X11_power fu S0 I0 x0 x1)
def tb_X11_doFit : List (Nat × Instr × Nat) := [(0, .iconst 1, 1), (1, .istore_n 1, 1), (2, .iconst 0, 1), (3, .istore_n 2, 1), (4, .iload_n 2, 1), (5, .aload_n 0, 1), (6, .getfield 308, 3), (9, .if_icmp .ge 68, 3), (12, .iconst 0, 1), (13, .istore_n 3, 1), (14, .iconst 0, 1), (15, .istore 4, 2), (17, .iload 4, 2), (19, .aload_n 0, 1), (20, .getfield 317, 3), (23, .if_icmp .ge 28, 3), (26, .iload_n 3, 1), (27, .aload_n 0, 1), (28, .getfield 97, 3), (31, .iload 4, 2), (33, .iaload, 1), (34, .iload_n 2, 1), (35, .if_icmp .ne 7, 3), (38, .iconst 1, 1), (39, .goto 4, 3), (42, .iconst 0, 1), (43, .iadd, 1), (44, .istore_n 3, 1), (45, .iinc 4 1, 3), (48, .goto (-31), 3), (51, .iload_n 1, 1), (52, .ifCond .eq 17, 3), (55, .iload_n 3, 1), (56, .aload_n 0, 1), (57, .getfield 91, 3), (60, .iload_n 2, 1), (61, .iaload, 1), (62, .if_icmp .gt 7, 3), (65, .iconst 1, 1), (66, .goto 4, 3), (69, .iconst 0, 1), (70, .istore_n 1, 1), (71, .iinc 2 1, 3), (74, .goto (-70), 3), (77, .iload_n 1, 1), (78, .ireturn, 1)]
def i_X11_doFit : MI := (RX11, cX11_doFit, 5, (some .boolean), "doFit", { frames := 0, cells := 0, slots := 0, locals := 0 })
theorem D_X11_doFit : tbOK (i_X11_doFit).2.1 tb_X11_doFit := by show ∀ q ∈ tb_X11_doFit, decode cX11_doFit q.1 = .ok (q.2.1, q.2.2); decide +kernel
def po_X11_doFit (S : Sk) (I : II) (r : Int32) : Option LV × Sk × II := (some (vI r), S, I)
def jn_X11_doFit_70 (fu : Nat) (S : Sk) (I : II) (self4 : Int32 → Int32 → Option (Int32)) (a0 : Nat) (x2 : Int32) (s0 : Int32) : Option (Int32) :=
  self4 s0 (x2 + (1 : Int32))
def jn_X11_doFit_69 (fu : Nat) (S : Sk) (I : II) (self4 : Int32 → Int32 → Option (Int32)) (a0 : Nat) (x2 : Int32) : Option (Int32) :=
  jn_X11_doFit_70 fu S I self4 a0 x2 (0 : Int32)
def jn_X11_doFit_43 (fu : Nat) (S : Sk) (I : II) (self4 : Int32 → Int32 → Option (Int32)) (self17 : Int32 → Int32 → Option (Int32)) (a0 : Nat) (x1 : Int32) (x2 : Int32) (x4 : Int32) (s0 : Int32) (s1 : Int32) : Option (Int32) :=
  lt (s0 + s1) fun x3_1 => (self17 x3_1 (x4 + (1 : Int32)))
def lp_X11_doFit_17 (fu : Nat) (S : Sk) (I : II) (self4 : Int32 → Int32 → Option (Int32)) (a0 : Nat) (x1 : Int32) (x2 : Int32) (self17 : Int32 → Int32 → Option (Int32)) (x3 : Int32) (x4 : Int32) : Option (Int32) :=
  if (I a0 40) ≤ x4 then if x1 = 0 then jn_X11_doFit_69 fu S I self4 a0 x2 else gd (inb S (S.1 a0 39) x2) (if (rd I (S.1 a0 39) x2) < x3 then jn_X11_doFit_69 fu S I self4 a0 x2 else jn_X11_doFit_70 fu S I self4 a0 x2 (1 : Int32)) else gd (inb S (S.1 a0 42) x4) (if (rd I (S.1 a0 42) x4) = x2 then jn_X11_doFit_43 fu S I self4 self17 a0 x1 x2 x4 x3 (1 : Int32) else jn_X11_doFit_43 fu S I self4 self17 a0 x1 x2 x4 x3 (0 : Int32))
def lp_X11_doFit_4 (fu : Nat) (S : Sk) (I : II) (a0 : Nat) (self4 : Int32 → Int32 → Option (Int32)) (x1 : Int32) (x2 : Int32) : Option (Int32) :=
  if (I a0 36) ≤ x2 then gd (x1 = 0 ∨ x1 = 1) (some (x1)) else fix2 (lp_X11_doFit_17 fu S I self4 a0 x1 x2) fu (0 : Int32) (0 : Int32)
def f_X11_doFit (fu : Nat) (S : Sk) (I : II) (a0 : Nat) : Option (Int32) :=
  fix2 (lp_X11_doFit_4 fu S I a0) fu (1 : Int32) (0 : Int32)
set_option maxRecDepth 100000 in
set_option maxHeartbeats 4000000 in
theorem gg_X11_doFit {E : EV} (fu : Nat) (S0 : Sk) (I0 : II) (a0 : Nat) (ht0 : tyO S0 11 a0) : GG E i_X11_doFit (enM E i_X11_doFit S0 (po_X11_doFit S0 I0)) S0 I0 (0, 0) 0 [(0, vA (a0 + 1))] [] (f_X11_doFit fu S0 I0 a0) := by
  have hl4 : ∀ (nn : Nat) (x1 : Int32) (x2 : Int32), True → GG E i_X11_doFit (enM E i_X11_doFit S0 (po_X11_doFit S0 I0)) S0 I0 (0, 0) 4 [(0, vA (a0 + 1)), (1, vI x1), (2, vI x2)] [] (fix2 (lp_X11_doFit_4 fu S0 I0 a0) nn x1 x2) := by
    refine g_fix2 (fun _ _ => S0) (fun _ _ => I0) (fun x1 x2 => [(0, vA (a0 + 1)), (1, vI x1), (2, vI x2)]) (fun x1 x2 => True) ?_
    intro self4 hself4 x1 x2 hinv
    have hj70 : ∀ (x2 : Int32) (s0 : Int32), GG E i_X11_doFit (enM E i_X11_doFit S0 (po_X11_doFit S0 I0)) S0 I0 (0, 0) 70 [(0, vA (a0 + 1)), (2, vI x2)] [vI s0] (jn_X11_doFit_70 fu S0 I0 self4 a0 x2 s0) := by
      intro x2 s0 
      unfold jn_X11_doFit_70
      refine g_istore_n (L' := [(0, vA (a0 + 1)), (1, vI s0), (2, vI x2)]) (dk D_X11_doFit 41 rfl) (Nat.le_of_ble_eq_true rfl) rfl ?_
      refine g_iinc (v := (1 : Int32)) (L' := [(0, vA (a0 + 1)), (1, vI s0), (2, vI (x2 + (1 : Int32)))]) (dk D_X11_doFit 42 rfl) rfl rfl (Nat.le_of_ble_eq_true rfl) rfl ?_
      refine g_goto (tgt := 4) (dk D_X11_doFit 43 rfl) rfl ?_
      exact hself4 s0 (x2 + (1 : Int32)) trivial
    have hj69 : ∀ (x2 : Int32), GG E i_X11_doFit (enM E i_X11_doFit S0 (po_X11_doFit S0 I0)) S0 I0 (0, 0) 69 [(0, vA (a0 + 1)), (2, vI x2)] [] (jn_X11_doFit_69 fu S0 I0 self4 a0 x2) := by
      intro x2 
      unfold jn_X11_doFit_69
      refine g_iconst (v := (0 : Int32)) (dk D_X11_doFit 40 rfl) rfl ?_
      exact hj70 x2 (0 : Int32)
    have hl17 : ∀ (x1 : Int32) (x2 : Int32) (nn : Nat) (x3 : Int32) (x4 : Int32), True → GG E i_X11_doFit (enM E i_X11_doFit S0 (po_X11_doFit S0 I0)) S0 I0 (0, 0) 17 [(0, vA (a0 + 1)), (1, vI x1), (2, vI x2), (3, vI x3), (4, vI x4)] [] (fix2 (lp_X11_doFit_17 fu S0 I0 self4 a0 x1 x2) nn x3 x4) := by
      intro x1 x2 
      refine g_fix2 (fun _ _ => S0) (fun _ _ => I0) (fun x3 x4 => [(0, vA (a0 + 1)), (1, vI x1), (2, vI x2), (3, vI x3), (4, vI x4)]) (fun x3 x4 => True) ?_
      intro self17 hself17 x3 x4 hinv
      have hj43 : ∀ (x4 : Int32) (s0 : Int32) (s1 : Int32), GG E i_X11_doFit (enM E i_X11_doFit S0 (po_X11_doFit S0 I0)) S0 I0 (0, 0) 43 [(0, vA (a0 + 1)), (1, vI x1), (2, vI x2), (4, vI x4)] [vI s1, vI s0] (jn_X11_doFit_43 fu S0 I0 self4 self17 a0 x1 x2 x4 s0 s1) := by
        intro x4 s0 s1 
        unfold jn_X11_doFit_43
        refine g_iadd (dk D_X11_doFit 26 rfl) ?_
        refine g_ltV (fun x3_1 ex3_1 => ?_)
        refine g_istore_n (L' := [(0, vA (a0 + 1)), (1, vI x1), (2, vI x2), (3, vI x3_1), (4, vI x4)]) (dk D_X11_doFit 27 rfl) (Nat.le_of_ble_eq_true rfl) rfl ?_
        refine g_iinc (v := (1 : Int32)) (L' := [(0, vA (a0 + 1)), (1, vI x1), (2, vI x2), (3, vI x3_1), (4, vI (x4 + (1 : Int32)))]) (dk D_X11_doFit 28 rfl) rfl rfl (Nat.le_of_ble_eq_true rfl) rfl ?_
        refine g_goto (tgt := 17) (dk D_X11_doFit 29 rfl) rfl ?_
        exact hself17 x3_1 (x4 + (1 : Int32)) trivial
      unfold lp_X11_doFit_17
      refine g_iload (dk D_X11_doFit 12 rfl) rfl ?_
      refine g_aload_n (dk D_X11_doFit 13 rfl) rfl ?_
      refine g_getIt fl_RX11_317 (by decide) ht0 (dk D_X11_doFit 14 rfl) ?_
      refine g_icmp_ge (tgt := 51) (dk D_X11_doFit 15 rfl) rfl (fun hc2 => ?_) (fun hc2 => ?_)
      · refine g_iload_n (dk D_X11_doFit 30 rfl) rfl ?_
        refine g_if_eq (tgt := 69) (dk D_X11_doFit 31 rfl) rfl (fun hc3 => ?_) (fun hc3 => ?_)
        · refine g_Lp [0, 2] rfl ?_
          exact hj69 x2
        · refine g_iload_n (dk D_X11_doFit 32 rfl) rfl ?_
          refine g_aload_n (dk D_X11_doFit 33 rfl) rfl ?_
          refine g_getAt (t := 100) fl_RX11_91 rfl ht0 (dk D_X11_doFit 34 rfl) (fun ht4 => ?_)
          refine g_iload_n (dk D_X11_doFit 35 rfl) rfl ?_
          refine g_gd (fun hi5 => ?_)
          refine g_iaload ht4 hi5 (dk D_X11_doFit 36 rfl) ?_
          refine g_icmp_gt (tgt := 69) (dk D_X11_doFit 37 rfl) rfl (fun hc6 => ?_) (fun hc6 => ?_)
          · refine g_Lp [0, 2] rfl ?_
            exact hj69 x2
          · refine g_iconst (v := (1 : Int32)) (dk D_X11_doFit 38 rfl) rfl ?_
            refine g_goto (tgt := 70) (dk D_X11_doFit 39 rfl) rfl ?_
            refine g_Lp [0, 2] rfl ?_
            exact hj70 x2 (1 : Int32)
      · refine g_iload_n (dk D_X11_doFit 16 rfl) rfl ?_
        refine g_aload_n (dk D_X11_doFit 17 rfl) rfl ?_
        refine g_getAt (t := 100) fl_RX11_97 rfl ht0 (dk D_X11_doFit 18 rfl) (fun ht7 => ?_)
        refine g_iload (dk D_X11_doFit 19 rfl) rfl ?_
        refine g_gd (fun hi8 => ?_)
        refine g_iaload ht7 hi8 (dk D_X11_doFit 20 rfl) ?_
        refine g_iload_n (dk D_X11_doFit 21 rfl) rfl ?_
        refine g_icmp_ne (tgt := 42) (dk D_X11_doFit 22 rfl) rfl (fun hc9 => ?_) (fun hc9 => ?_)
        · refine g_iconst (v := (0 : Int32)) (dk D_X11_doFit 25 rfl) rfl ?_
          refine g_Lp [0, 1, 2, 4] rfl ?_
          exact hj43 x4 x3 (0 : Int32)
        · refine g_iconst (v := (1 : Int32)) (dk D_X11_doFit 23 rfl) rfl ?_
          refine g_goto (tgt := 43) (dk D_X11_doFit 24 rfl) rfl ?_
          refine g_Lp [0, 1, 2, 4] rfl ?_
          exact hj43 x4 x3 (1 : Int32)
    unfold lp_X11_doFit_4
    refine g_iload_n (dk D_X11_doFit 4 rfl) rfl ?_
    refine g_aload_n (dk D_X11_doFit 5 rfl) rfl ?_
    refine g_getIt fl_RX11_308 (by decide) ht0 (dk D_X11_doFit 6 rfl) ?_
    refine g_icmp_ge (tgt := 77) (dk D_X11_doFit 7 rfl) rfl (fun hc10 => ?_) (fun hc10 => ?_)
    · refine g_iload_n (dk D_X11_doFit 44 rfl) rfl ?_
      refine g_gd (fun hb11 => ?_)
      exact g_zreturn rfl rfl hb11 Sx.rf rfl (by decide) (by decide) (dk D_X11_doFit 45 rfl)
    · refine g_iconst (v := (0 : Int32)) (dk D_X11_doFit 8 rfl) rfl ?_
      refine g_istore_n (L' := [(0, vA (a0 + 1)), (1, vI x1), (2, vI x2), (3, vI (0 : Int32))]) (dk D_X11_doFit 9 rfl) (Nat.le_of_ble_eq_true rfl) rfl ?_
      refine g_iconst (v := (0 : Int32)) (dk D_X11_doFit 10 rfl) rfl ?_
      refine g_istore (L' := [(0, vA (a0 + 1)), (1, vI x1), (2, vI x2), (3, vI (0 : Int32)), (4, vI (0 : Int32))]) (dk D_X11_doFit 11 rfl) (Nat.le_of_ble_eq_true rfl) rfl ?_
      exact hl17 x1 x2 fu (0 : Int32) (0 : Int32) trivial
  unfold f_X11_doFit
  refine g_iconst (v := (1 : Int32)) (dk D_X11_doFit 0 rfl) rfl ?_
  refine g_istore_n (L' := [(0, vA (a0 + 1)), (1, vI (1 : Int32))]) (dk D_X11_doFit 1 rfl) (Nat.le_of_ble_eq_true rfl) rfl ?_
  refine g_iconst (v := (0 : Int32)) (dk D_X11_doFit 2 rfl) rfl ?_
  refine g_istore_n (L' := [(0, vA (a0 + 1)), (1, vI (1 : Int32)), (2, vI (0 : Int32))]) (dk D_X11_doFit 3 rfl) (Nat.le_of_ble_eq_true rfl) rfl ?_
  exact hl4 fu (1 : Int32) (0 : Int32) trivial
theorem c_X11_doFit {E : EV} (fu : Nat) (S0 : Sk) (I0 : II) (a0 : Nat) (r : Int32) (h : f_X11_doFit fu S0 I0 a0 = some r) (ht0 : tyO S0 11 a0) : MX E yX11_doFit i_X11_doFit S0 I0 [vA (a0 + 1)] (po_X11_doFit S0 I0 r) :=
  MX.of h (by decide) rfl rfl (Nat.le_of_ble_eq_true rfl) (gg_X11_doFit fu S0 I0 a0 ht0)
def tb_X11_areAllUnlike : List (Nat × Instr × Nat) := [(0, .iconst 1, 1), (1, .istore_n 1, 1), (2, .iconst 0, 1), (3, .istore_n 2, 1), (4, .iload_n 2, 1), (5, .aload_n 0, 1), (6, .getfield 317, 3), (9, .if_icmp .ge 47, 3), (12, .iconst 0, 1), (13, .istore_n 3, 1), (14, .iload_n 3, 1), (15, .iload_n 2, 1), (16, .if_icmp .ge 34, 3), (19, .iload_n 1, 1), (20, .ifCond .eq 22, 3), (23, .aload_n 0, 1), (24, .getfield 97, 3), (27, .iload_n 2, 1), (28, .iaload, 1), (29, .aload_n 0, 1), (30, .getfield 97, 3), (33, .iload_n 3, 1), (34, .iaload, 1), (35, .if_icmp .eq 7, 3), (38, .iconst 1, 1), (39, .goto 4, 3), (42, .iconst 0, 1), (43, .istore_n 1, 1), (44, .iinc 3 1, 3), (47, .goto (-33), 3), (50, .iinc 2 1, 3), (53, .goto (-49), 3), (56, .iload_n 1, 1), (57, .ireturn, 1)]
def i_X11_areAllUnlike : MI := (RX11, cX11_areAllUnlike, 4, (some .boolean), "areAllUnlike", { frames := 0, cells := 0, slots := 0, locals := 0 })
theorem D_X11_areAllUnlike : tbOK (i_X11_areAllUnlike).2.1 tb_X11_areAllUnlike := by show ∀ q ∈ tb_X11_areAllUnlike, decode cX11_areAllUnlike q.1 = .ok (q.2.1, q.2.2); decide +kernel
def po_X11_areAllUnlike (S : Sk) (I : II) (r : Int32) : Option LV × Sk × II := (some (vI r), S, I)
def jn_X11_areAllUnlike_43 (fu : Nat) (S : Sk) (I : II) (self4 : Int32 → Int32 → Option (Int32)) (self14 : Int32 → Int32 → Option (Int32)) (a0 : Nat) (x2 : Int32) (x3 : Int32) (s0 : Int32) : Option (Int32) :=
  self14 s0 (x3 + (1 : Int32))
def jn_X11_areAllUnlike_42 (fu : Nat) (S : Sk) (I : II) (self4 : Int32 → Int32 → Option (Int32)) (self14 : Int32 → Int32 → Option (Int32)) (a0 : Nat) (x2 : Int32) (x3 : Int32) : Option (Int32) :=
  jn_X11_areAllUnlike_43 fu S I self4 self14 a0 x2 x3 (0 : Int32)
def lp_X11_areAllUnlike_14 (fu : Nat) (S : Sk) (I : II) (self4 : Int32 → Int32 → Option (Int32)) (a0 : Nat) (x2 : Int32) (self14 : Int32 → Int32 → Option (Int32)) (x1 : Int32) (x3 : Int32) : Option (Int32) :=
  if x2 ≤ x3 then self4 x1 (x2 + (1 : Int32)) else if x1 = 0 then jn_X11_areAllUnlike_42 fu S I self4 self14 a0 x2 x3 else gd (inb S (S.1 a0 42) x2) (gd (inb S (S.1 a0 42) x3) (if (rd I (S.1 a0 42) x2) = (rd I (S.1 a0 42) x3) then jn_X11_areAllUnlike_42 fu S I self4 self14 a0 x2 x3 else jn_X11_areAllUnlike_43 fu S I self4 self14 a0 x2 x3 (1 : Int32)))
def lp_X11_areAllUnlike_4 (fu : Nat) (S : Sk) (I : II) (a0 : Nat) (self4 : Int32 → Int32 → Option (Int32)) (x1 : Int32) (x2 : Int32) : Option (Int32) :=
  if (I a0 40) ≤ x2 then gd (x1 = 0 ∨ x1 = 1) (some (x1)) else fix2 (lp_X11_areAllUnlike_14 fu S I self4 a0 x2) fu x1 (0 : Int32)
def f_X11_areAllUnlike (fu : Nat) (S : Sk) (I : II) (a0 : Nat) : Option (Int32) :=
  fix2 (lp_X11_areAllUnlike_4 fu S I a0) fu (1 : Int32) (0 : Int32)
set_option maxRecDepth 100000 in
set_option maxHeartbeats 4000000 in
theorem gg_X11_areAllUnlike {E : EV} (fu : Nat) (S0 : Sk) (I0 : II) (a0 : Nat) (ht0 : tyO S0 11 a0) : GG E i_X11_areAllUnlike (enM E i_X11_areAllUnlike S0 (po_X11_areAllUnlike S0 I0)) S0 I0 (0, 0) 0 [(0, vA (a0 + 1))] [] (f_X11_areAllUnlike fu S0 I0 a0) := by
  have hl4 : ∀ (nn : Nat) (x1 : Int32) (x2 : Int32), True → GG E i_X11_areAllUnlike (enM E i_X11_areAllUnlike S0 (po_X11_areAllUnlike S0 I0)) S0 I0 (0, 0) 4 [(0, vA (a0 + 1)), (1, vI x1), (2, vI x2)] [] (fix2 (lp_X11_areAllUnlike_4 fu S0 I0 a0) nn x1 x2) := by
    refine g_fix2 (fun _ _ => S0) (fun _ _ => I0) (fun x1 x2 => [(0, vA (a0 + 1)), (1, vI x1), (2, vI x2)]) (fun x1 x2 => True) ?_
    intro self4 hself4 x1 x2 hinv
    have hl14 : ∀ (x2 : Int32) (nn : Nat) (x1 : Int32) (x3 : Int32), True → GG E i_X11_areAllUnlike (enM E i_X11_areAllUnlike S0 (po_X11_areAllUnlike S0 I0)) S0 I0 (0, 0) 14 [(0, vA (a0 + 1)), (1, vI x1), (2, vI x2), (3, vI x3)] [] (fix2 (lp_X11_areAllUnlike_14 fu S0 I0 self4 a0 x2) nn x1 x3) := by
      intro x2 
      refine g_fix2 (fun _ _ => S0) (fun _ _ => I0) (fun x1 x3 => [(0, vA (a0 + 1)), (1, vI x1), (2, vI x2), (3, vI x3)]) (fun x1 x3 => True) ?_
      intro self14 hself14 x1 x3 hinv
      have hj43 : ∀ (x3 : Int32) (s0 : Int32), GG E i_X11_areAllUnlike (enM E i_X11_areAllUnlike S0 (po_X11_areAllUnlike S0 I0)) S0 I0 (0, 0) 43 [(0, vA (a0 + 1)), (2, vI x2), (3, vI x3)] [vI s0] (jn_X11_areAllUnlike_43 fu S0 I0 self4 self14 a0 x2 x3 s0) := by
        intro x3 s0 
        unfold jn_X11_areAllUnlike_43
        refine g_istore_n (L' := [(0, vA (a0 + 1)), (1, vI s0), (2, vI x2), (3, vI x3)]) (dk D_X11_areAllUnlike 27 rfl) (Nat.le_of_ble_eq_true rfl) rfl ?_
        refine g_iinc (v := (1 : Int32)) (L' := [(0, vA (a0 + 1)), (1, vI s0), (2, vI x2), (3, vI (x3 + (1 : Int32)))]) (dk D_X11_areAllUnlike 28 rfl) rfl rfl (Nat.le_of_ble_eq_true rfl) rfl ?_
        refine g_goto (tgt := 14) (dk D_X11_areAllUnlike 29 rfl) rfl ?_
        exact hself14 s0 (x3 + (1 : Int32)) trivial
      have hj42 : ∀ (x3 : Int32), GG E i_X11_areAllUnlike (enM E i_X11_areAllUnlike S0 (po_X11_areAllUnlike S0 I0)) S0 I0 (0, 0) 42 [(0, vA (a0 + 1)), (2, vI x2), (3, vI x3)] [] (jn_X11_areAllUnlike_42 fu S0 I0 self4 self14 a0 x2 x3) := by
        intro x3 
        unfold jn_X11_areAllUnlike_42
        refine g_iconst (v := (0 : Int32)) (dk D_X11_areAllUnlike 26 rfl) rfl ?_
        exact hj43 x3 (0 : Int32)
      unfold lp_X11_areAllUnlike_14
      refine g_iload_n (dk D_X11_areAllUnlike 10 rfl) rfl ?_
      refine g_iload_n (dk D_X11_areAllUnlike 11 rfl) rfl ?_
      refine g_icmp_ge (tgt := 50) (dk D_X11_areAllUnlike 12 rfl) rfl (fun hc1 => ?_) (fun hc1 => ?_)
      · refine g_iinc (v := (1 : Int32)) (L' := [(0, vA (a0 + 1)), (1, vI x1), (2, vI (x2 + (1 : Int32))), (3, vI x3)]) (dk D_X11_areAllUnlike 30 rfl) rfl rfl (Nat.le_of_ble_eq_true rfl) rfl ?_
        refine g_goto (tgt := 4) (dk D_X11_areAllUnlike 31 rfl) rfl ?_
        refine g_Lp [0, 1, 2] rfl ?_
        exact hself4 x1 (x2 + (1 : Int32)) trivial
      · refine g_iload_n (dk D_X11_areAllUnlike 13 rfl) rfl ?_
        refine g_if_eq (tgt := 42) (dk D_X11_areAllUnlike 14 rfl) rfl (fun hc2 => ?_) (fun hc2 => ?_)
        · refine g_Lp [0, 2, 3] rfl ?_
          exact hj42 x3
        · refine g_aload_n (dk D_X11_areAllUnlike 15 rfl) rfl ?_
          refine g_getAt (t := 100) fl_RX11_97 rfl ht0 (dk D_X11_areAllUnlike 16 rfl) (fun ht3 => ?_)
          refine g_iload_n (dk D_X11_areAllUnlike 17 rfl) rfl ?_
          refine g_gd (fun hi4 => ?_)
          refine g_iaload ht3 hi4 (dk D_X11_areAllUnlike 18 rfl) ?_
          refine g_aload_n (dk D_X11_areAllUnlike 19 rfl) rfl ?_
          refine g_getAt (t := 100) fl_RX11_97 rfl ht0 (dk D_X11_areAllUnlike 20 rfl) (fun ht5 => ?_)
          refine g_iload_n (dk D_X11_areAllUnlike 21 rfl) rfl ?_
          refine g_gd (fun hi6 => ?_)
          refine g_iaload ht3 hi6 (dk D_X11_areAllUnlike 22 rfl) ?_
          refine g_icmp_eq (tgt := 42) (dk D_X11_areAllUnlike 23 rfl) rfl (fun hc7 => ?_) (fun hc7 => ?_)
          · refine g_Lp [0, 2, 3] rfl ?_
            exact hj42 x3
          · refine g_iconst (v := (1 : Int32)) (dk D_X11_areAllUnlike 24 rfl) rfl ?_
            refine g_goto (tgt := 43) (dk D_X11_areAllUnlike 25 rfl) rfl ?_
            refine g_Lp [0, 2, 3] rfl ?_
            exact hj43 x3 (1 : Int32)
    unfold lp_X11_areAllUnlike_4
    refine g_iload_n (dk D_X11_areAllUnlike 4 rfl) rfl ?_
    refine g_aload_n (dk D_X11_areAllUnlike 5 rfl) rfl ?_
    refine g_getIt fl_RX11_317 (by decide) ht0 (dk D_X11_areAllUnlike 6 rfl) ?_
    refine g_icmp_ge (tgt := 56) (dk D_X11_areAllUnlike 7 rfl) rfl (fun hc8 => ?_) (fun hc8 => ?_)
    · refine g_iload_n (dk D_X11_areAllUnlike 32 rfl) rfl ?_
      refine g_gd (fun hb9 => ?_)
      exact g_zreturn rfl rfl hb9 Sx.rf rfl (by decide) (by decide) (dk D_X11_areAllUnlike 33 rfl)
    · refine g_iconst (v := (0 : Int32)) (dk D_X11_areAllUnlike 8 rfl) rfl ?_
      refine g_istore_n (L' := [(0, vA (a0 + 1)), (1, vI x1), (2, vI x2), (3, vI (0 : Int32))]) (dk D_X11_areAllUnlike 9 rfl) (Nat.le_of_ble_eq_true rfl) rfl ?_
      exact hl14 x2 fu x1 (0 : Int32) trivial
  unfold f_X11_areAllUnlike
  refine g_iconst (v := (1 : Int32)) (dk D_X11_areAllUnlike 0 rfl) rfl ?_
  refine g_istore_n (L' := [(0, vA (a0 + 1)), (1, vI (1 : Int32))]) (dk D_X11_areAllUnlike 1 rfl) (Nat.le_of_ble_eq_true rfl) rfl ?_
  refine g_iconst (v := (0 : Int32)) (dk D_X11_areAllUnlike 2 rfl) rfl ?_
  refine g_istore_n (L' := [(0, vA (a0 + 1)), (1, vI (1 : Int32)), (2, vI (0 : Int32))]) (dk D_X11_areAllUnlike 3 rfl) (Nat.le_of_ble_eq_true rfl) rfl ?_
  exact hl4 fu (1 : Int32) (0 : Int32) trivial
theorem c_X11_areAllUnlike {E : EV} (fu : Nat) (S0 : Sk) (I0 : II) (a0 : Nat) (r : Int32) (h : f_X11_areAllUnlike fu S0 I0 a0 = some r) (ht0 : tyO S0 11 a0) : MX E yX11_areAllUnlike i_X11_areAllUnlike S0 I0 [vA (a0 + 1)] (po_X11_areAllUnlike S0 I0 r) :=
  MX.of h (by decide) rfl rfl (Nat.le_of_ble_eq_true rfl) (gg_X11_areAllUnlike fu S0 I0 a0 ht0)
def tb_X11_taught : List (Nat × Instr × Nat) := [(0, .aload_n 0, 1), (1, .getfield 100, 3), (4, .iload_n 2, 1), (5, .iaload, 1), (6, .iload_n 1, 1), (7, .invokestatic 263, 3), (10, .ifCond .eq 7, 3), (13, .iconst 0, 1), (14, .goto 9, 3), (17, .aload_n 0, 1), (18, .getfield 19, 3), (21, .iload_n 1, 1), (22, .iaload, 1), (23, .ireturn, 1)]
def i_X11_taught : MI := (RX11, cX11_taught, 3, (some .int), "taught", { frames := 1, cells := 0, slots := 0, locals := 21 })
theorem D_X11_taught : tbOK (i_X11_taught).2.1 tb_X11_taught := by show ∀ q ∈ tb_X11_taught, decode cX11_taught q.1 = .ok (q.2.1, q.2.2); decide +kernel
def po_X11_taught (S : Sk) (I : II) (r : Int32) : Option LV × Sk × II := (some (vI r), S, I)
def f_X11_taught (fu : Nat) (S : Sk) (I : II) (a0 : Nat) (x1 : Int32) (x2 : Int32) : Option (Int32) :=
  gd (inb S (S.1 a0 46) x2) (if (t_X11_hasBit (rd I (S.1 a0 46) x2) x1) = 0 then gd (inb S (S.1 a0 6) x1) (some ((rd I (S.1 a0 6) x1))) else some ((0 : Int32)))
set_option maxRecDepth 100000 in
set_option maxHeartbeats 4000000 in
theorem gg_X11_taught {E : EV} (fu : Nat) (S0 : Sk) (I0 : II) (a0 : Nat) (x1 : Int32) (x2 : Int32) (ht0 : tyO S0 11 a0) : GG E i_X11_taught (enM E i_X11_taught S0 (po_X11_taught S0 I0)) S0 I0 (0, 0) 0 [(0, vA (a0 + 1)), (1, vI x1), (2, vI x2)] [] (f_X11_taught fu S0 I0 a0 x1 x2) := by
  unfold f_X11_taught
  refine g_aload_n (dk D_X11_taught 0 rfl) rfl ?_
  refine g_getAt (t := 100) fl_RX11_100 rfl ht0 (dk D_X11_taught 1 rfl) (fun ht1 => ?_)
  refine g_iload_n (dk D_X11_taught 2 rfl) rfl ?_
  refine g_gd (fun hi2 => ?_)
  refine g_iaload ht1 hi2 (dk D_X11_taught 3 rfl) ?_
  refine g_iload_n (dk D_X11_taught 4 rfl) rfl ?_
  refine h_callS (st := []) (c_X11_hasBit (E := E) S0 I0 (rd I0 (S0.1 a0 46) x2) x1) cl_RX11_263 rfl rfl (by decide) (Nat.le_of_ble_eq_true rfl) (dk D_X11_taught 5 rfl) ?_
  refine g_if_eq (tgt := 17) (dk D_X11_taught 6 rfl) rfl (fun hc4 => ?_) (fun hc4 => ?_)
  · refine g_aload_n (dk D_X11_taught 9 rfl) rfl ?_
    refine g_getAt (t := 100) fl_RX11_19 rfl ht0 (dk D_X11_taught 10 rfl) (fun ht5 => ?_)
    refine g_iload_n (dk D_X11_taught 11 rfl) rfl ?_
    refine g_gd (fun hi6 => ?_)
    refine g_iaload ht5 hi6 (dk D_X11_taught 12 rfl) ?_
    exact g_ireturn rfl rfl Sx.rf rfl (by decide) (by decide) (dk D_X11_taught 13 rfl)
  · refine g_iconst (v := (0 : Int32)) (dk D_X11_taught 7 rfl) rfl ?_
    refine g_goto (tgt := 23) (dk D_X11_taught 8 rfl) rfl ?_
    exact g_ireturn rfl rfl Sx.rf rfl (by decide) (by decide) (dk D_X11_taught 13 rfl)
theorem c_X11_taught {E : EV} (fu : Nat) (S0 : Sk) (I0 : II) (a0 : Nat) (x1 : Int32) (x2 : Int32) (r : Int32) (h : f_X11_taught fu S0 I0 a0 x1 x2 = some r) (ht0 : tyO S0 11 a0) : MX E yX11_taught i_X11_taught S0 I0 [vA (a0 + 1), vI x1, vI x2] (po_X11_taught S0 I0 r) :=
  MX.of h (by decide) rfl rfl (Nat.le_of_ble_eq_true rfl) (gg_X11_taught fu S0 I0 a0 x1 x2 ht0)
theorem fl_RX11_320 : FL RX11 320 11 43 := ⟨RX11, TX11, 57, rfl, by decide, rfl, by decide, (gm 1021 (by decide +kernel) (by decide +kernel)), inG11⟩
theorem fp_11_43 : FP 11 43 (tyX11 43) false := ⟨RX11, TX11, 57, tyX11, rfl, tyX11_ok, nmX11, rfl, rfl, rfl⟩
theorem fl_RX11_323 : FL RX11 323 11 44 := ⟨RX11, TX11, 57, rfl, by decide, rfl, by decide, (gm 1022 (by decide +kernel) (by decide +kernel)), inG11⟩
theorem fp_11_44 : FP 11 44 (tyX11 44) false := ⟨RX11, TX11, 57, tyX11, rfl, tyX11_ok, nmX11, rfl, rfl, rfl⟩
theorem cl_RX11_339 : CV0 RX11 339 yX11_taught i_X11_taught 2 11 := ⟨⟨(gm 1405 (by decide +kernel) (by decide +kernel)), (gm 72 (by decide +kernel) (by decide +kernel)), ((gm 1408 (by decide +kernel) (by decide +kernel))), by decide +kernel, by decide +kernel, by decide +kernel⟩, ⟨(gm 1407 (by decide +kernel) (by decide +kernel)), (gm 56 (by decide +kernel) (by decide +kernel))⟩, rfl, by decide⟩
theorem cl_RX11_329 : CV0 RX11 329 yX11_layRow i_X11_layRow 2 11 := ⟨⟨(gm 1393 (by decide +kernel) (by decide +kernel)), (gm 72 (by decide +kernel) (by decide +kernel)), ((gm 1396 (by decide +kernel) (by decide +kernel))), by decide +kernel, by decide +kernel, by decide +kernel⟩, ⟨(gm 1395 (by decide +kernel) (by decide +kernel)), (gm 53 (by decide +kernel) (by decide +kernel))⟩, rfl, by decide⟩
theorem cl_RX11_336 : CV0 RX11 336 yX11_doFit i_X11_doFit 0 11 := ⟨⟨(gm 1401 (by decide +kernel) (by decide +kernel)), (gm 72 (by decide +kernel) (by decide +kernel)), ((gm 1404 (by decide +kernel) (by decide +kernel))), by decide +kernel, by decide +kernel, by decide +kernel⟩, ⟨(gm 1403 (by decide +kernel) (by decide +kernel)), (gm 55 (by decide +kernel) (by decide +kernel))⟩, rfl, by decide⟩
theorem cl_RX11_332 : CV0 RX11 332 yX11_areAllUnlike i_X11_areAllUnlike 0 11 := ⟨⟨(gm 1397 (by decide +kernel) (by decide +kernel)), (gm 72 (by decide +kernel) (by decide +kernel)), ((gm 1400 (by decide +kernel) (by decide +kernel))), by decide +kernel, by decide +kernel, by decide +kernel⟩, ⟨(gm 1399 (by decide +kernel) (by decide +kernel)), (gm 54 (by decide +kernel) (by decide +kernel))⟩, rfl, by decide⟩
theorem cl_RX11_326 : CS0 RX11 326 yX11_power i_X11_power 2 := ⟨⟨(gm 1390 (by decide +kernel) (by decide +kernel)), (gm 72 (by decide +kernel) (by decide +kernel)), (gm 1392 (by decide +kernel) (by decide +kernel)), by decide +kernel, by decide +kernel, by decide +kernel⟩, (gm 1391 (by decide +kernel) (by decide +kernel))⟩
def tb_X11_findRow : List (Nat × Instr × Nat) := [(0, .aload_n 0, 1), (1, .bipush (-9), 2), (3, .putfield 320, 3), (6, .aload_n 0, 1), (7, .iconst 0, 1), (8, .putfield 323, 3), (11, .iload_n 2, 1), (12, .aload_n 0, 1), (13, .getfield 317, 3), (16, .invokestatic 326, 3), (19, .istore_n 3, 1), (20, .iconst 0, 1), (21, .istore 4, 2), (23, .iload 4, 2), (25, .iload_n 3, 1), (26, .if_icmp .ge 134, 3), (29, .aload_n 0, 1), (30, .iload 4, 2), (32, .iload_n 2, 1), (33, .invokevirtual 329, 3), (36, .iload_n 1, 1), (37, .ifCond .eq 13, 3), (40, .aload_n 0, 1), (41, .invokevirtual 332, 3), (44, .ifCond .eq 110, 3), (47, .goto 10, 3), (50, .aload_n 0, 1), (51, .invokevirtual 336, 3), (54, .ifCond .eq 100, 3), (57, .iconst 0, 1), (58, .istore 5, 2), (60, .iconst 0, 1), (61, .istore 6, 2), (63, .iload 6, 2), (65, .aload_n 0, 1), (66, .getfield 317, 3), (69, .if_icmp .ge 57, 3), (72, .iload 5, 2), (74, .iload_n 1, 1), (75, .ifCond .eq 24, 3), (78, .aload_n 0, 1), (79, .aload_n 0, 1), (80, .getfield 94, 3), (83, .iload 6, 2), (85, .iaload, 1), (86, .aload_n 0, 1), (87, .getfield 97, 3), (90, .iload 6, 2), (92, .iaload, 1), (93, .invokevirtual 339, 3), (96, .goto 21, 3), (99, .aload_n 0, 1), (100, .aload_n 0, 1), (101, .getfield 94, 3), (104, .iload 6, 2), (106, .iaload, 1), (107, .aload_n 0, 1), (108, .getfield 97, 3), (111, .iload 6, 2), (113, .iaload, 1), (114, .invokevirtual 314, 3), (117, .iadd, 1), (118, .istore 5, 2), (120, .iinc 6 1, 3), (123, .goto (-60), 3), (126, .aload_n 0, 1), (127, .getfield 320, 3), (130, .ifCond .lt 12, 3), (133, .iload 5, 2), (135, .aload_n 0, 1), (136, .getfield 323, 3), (139, .if_icmp .ge 15, 3), (142, .aload_n 0, 1), (143, .iload 4, 2), (145, .putfield 320, 3), (148, .aload_n 0, 1), (149, .iload 5, 2), (151, .putfield 323, 3), (154, .iinc 4 1, 3), (157, .goto (-134), 3), (160, .return_, 1)]
def i_X11_findRow : MI := (RX11, cX11_findRow, 7, none, "findRow", { frames := 3, cells := 0, slots := 0, locals := 64 })
theorem D_X11_findRow : tbOK (i_X11_findRow).2.1 tb_X11_findRow := by show ∀ q ∈ tb_X11_findRow, decode cX11_findRow q.1 = .ok (q.2.1, q.2.2); decide +kernel
def po_X11_findRow (S : Sk) (I : II) (r : II) : Option LV × Sk × II := (none, S, r)
def jn_X11_findRow_154 (fu : Nat) (S : Sk) (I : II) (self23 : Int32 → II → Option (II)) (a0 : Nat) (x1 : Int32) (x2 : Int32) (x3 : Int32) (x4 : Int32) : Option (II) :=
  self23 (x4 + (1 : Int32)) I
def jn_X11_findRow_142 (fu : Nat) (S : Sk) (I : II) (self23 : Int32 → II → Option (II)) (a0 : Nat) (x1 : Int32) (x2 : Int32) (x3 : Int32) (x4 : Int32) (x5 : Int32) : Option (II) :=
  lt (upI I a0 43 x4) fun I1 => (lt (upI I1 a0 44 x5) fun I2 => (jn_X11_findRow_154 fu S I2 self23 a0 x1 x2 x3 x4))
def jn_X11_findRow_117 (fu : Nat) (S : Sk) (I : II) (self23 : Int32 → II → Option (II)) (self63 : Int32 → Int32 → Option (II)) (a0 : Nat) (x1 : Int32) (x2 : Int32) (x3 : Int32) (x4 : Int32) (x6 : Int32) (s0 : Int32) (s1 : Int32) : Option (II) :=
  lt (s0 + s1) fun x5_3 => (self63 x5_3 (x6 + (1 : Int32)))
def lp_X11_findRow_63 (fu : Nat) (S : Sk) (I : II) (self23 : Int32 → II → Option (II)) (a0 : Nat) (x1 : Int32) (x2 : Int32) (x3 : Int32) (x4 : Int32) (self63 : Int32 → Int32 → Option (II)) (x5 : Int32) (x6 : Int32) : Option (II) :=
  if (I a0 40) ≤ x6 then if (I a0 43) < 0 then jn_X11_findRow_142 fu S I self23 a0 x1 x2 x3 x4 x5 else if (I a0 44) ≤ x5 then jn_X11_findRow_154 fu S I self23 a0 x1 x2 x3 x4 else jn_X11_findRow_142 fu S I self23 a0 x1 x2 x3 x4 x5 else if x1 = 0 then gd (inb S (S.1 a0 41) x6) (gd (inb S (S.1 a0 42) x6) ((f_X11_emptyOf fu S I a0 (rd I (S.1 a0 41) x6) (rd I (S.1 a0 42) x6)).bind fun q12 => (jn_X11_findRow_117 fu S I self23 self63 a0 x1 x2 x3 x4 x6 x5 q12))) else gd (inb S (S.1 a0 41) x6) (gd (inb S (S.1 a0 42) x6) ((f_X11_taught fu S I a0 (rd I (S.1 a0 41) x6) (rd I (S.1 a0 42) x6)).bind fun q19 => (jn_X11_findRow_117 fu S I self23 self63 a0 x1 x2 x3 x4 x6 x5 q19)))
def jn_X11_findRow_57 (fu : Nat) (S : Sk) (I : II) (self23 : Int32 → II → Option (II)) (a0 : Nat) (x1 : Int32) (x2 : Int32) (x3 : Int32) (x4 : Int32) : Option (II) :=
  fix2 (lp_X11_findRow_63 fu S I self23 a0 x1 x2 x3 x4) fu (0 : Int32) (0 : Int32)
def lp_X11_findRow_23 (fu : Nat) (S : Sk) (a0 : Nat) (x1 : Int32) (x2 : Int32) (x3 : Int32) (self23 : Int32 → II → Option (II)) (x4 : Int32) (I : II) : Option (II) :=
  if x3 ≤ x4 then some (I) else (f_X11_layRow fu S I a0 x4 x2).bind fun q23 => (if x1 = 0 then (f_X11_doFit fu S q23 a0).bind fun q27 => (if q27 = 0 then jn_X11_findRow_154 fu S q23 self23 a0 x1 x2 x3 x4 else jn_X11_findRow_57 fu S q23 self23 a0 x1 x2 x3 x4) else (f_X11_areAllUnlike fu S q23 a0).bind fun q31 => (if q31 = 0 then jn_X11_findRow_154 fu S q23 self23 a0 x1 x2 x3 x4 else jn_X11_findRow_57 fu S q23 self23 a0 x1 x2 x3 x4))
def f_X11_findRow (fu : Nat) (S : Sk) (I : II) (a0 : Nat) (x1 : Int32) (x2 : Int32) : Option (II) :=
  lt (upI I a0 43 ((-9) : Int32)) fun I35 => (lt (upI I35 a0 44 (0 : Int32)) fun I36 => ((f_X11_power fu S I36 x2 (I36 a0 40)).bind fun q37 => (fix2 (lp_X11_findRow_23 fu S a0 x1 x2 q37) fu (0 : Int32) I36)))
set_option maxRecDepth 100000 in
set_option maxHeartbeats 4000000 in
theorem gg_X11_findRow {E : EV} (fu : Nat) (S0 : Sk) (I0 : II) (a0 : Nat) (x1 : Int32) (x2 : Int32) (ht0 : tyO S0 11 a0) : GG E i_X11_findRow (enM E i_X11_findRow S0 (po_X11_findRow S0 I0)) S0 I0 (0, 0) 0 [(0, vA (a0 + 1)), (1, vI x1), (2, vI x2)] [] (f_X11_findRow fu S0 I0 a0 x1 x2) := by
  have hl23 : ∀ (x3 : Int32) (nn : Nat) (x4 : Int32) (I : II), True → GG E i_X11_findRow (enM E i_X11_findRow S0 (po_X11_findRow S0 I0)) S0 I (0, 0) 23 [(0, vA (a0 + 1)), (1, vI x1), (2, vI x2), (3, vI x3), (4, vI x4)] [] (fix2 (lp_X11_findRow_23 fu S0 a0 x1 x2 x3) nn x4 I) := by
    intro x3 
    refine g_fix2 (fun _ _ => S0) (fun x4 I => I) (fun x4 I => [(0, vA (a0 + 1)), (1, vI x1), (2, vI x2), (3, vI x3), (4, vI x4)]) (fun x4 I => True) ?_
    intro self23 hself23 x4 I hinv
    have hj154 : ∀ (I : II) (x4 : Int32), GG E i_X11_findRow (enM E i_X11_findRow S0 (po_X11_findRow S0 I0)) S0 I (0, 0) 154 [(0, vA (a0 + 1)), (1, vI x1), (2, vI x2), (3, vI x3), (4, vI x4)] [] (jn_X11_findRow_154 fu S0 I self23 a0 x1 x2 x3 x4) := by
      intro I x4 
      unfold jn_X11_findRow_154
      refine g_iinc (v := (1 : Int32)) (L' := [(0, vA (a0 + 1)), (1, vI x1), (2, vI x2), (3, vI x3), (4, vI (x4 + (1 : Int32)))]) (dk D_X11_findRow 78 rfl) rfl rfl (Nat.le_of_ble_eq_true rfl) rfl ?_
      refine g_goto (tgt := 23) (dk D_X11_findRow 79 rfl) rfl ?_
      exact hself23 (x4 + (1 : Int32)) I trivial
    have hj142 : ∀ (I : II) (x4 : Int32) (x5 : Int32), GG E i_X11_findRow (enM E i_X11_findRow S0 (po_X11_findRow S0 I0)) S0 I (0, 0) 142 [(0, vA (a0 + 1)), (1, vI x1), (2, vI x2), (3, vI x3), (4, vI x4), (5, vI x5)] [] (jn_X11_findRow_142 fu S0 I self23 a0 x1 x2 x3 x4 x5) := by
      intro I x4 x5 
      unfold jn_X11_findRow_142
      refine g_aload_n (dk D_X11_findRow 72 rfl) rfl ?_
      refine g_iload (dk D_X11_findRow 73 rfl) rfl ?_
      refine g_putIt fl_RX11_320 fp_11_43 (fun h => (by cases h)) (by decide) rfl rfl ht0 (dk D_X11_findRow 74 rfl) ?_
      refine g_ltI (fun I1 eI1 => ?_)
      refine g_aload_n (dk D_X11_findRow 75 rfl) rfl ?_
      refine g_iload (dk D_X11_findRow 76 rfl) rfl ?_
      refine g_putIt fl_RX11_323 fp_11_44 (fun h => (by cases h)) (by decide) rfl rfl ht0 (dk D_X11_findRow 77 rfl) ?_
      refine g_ltI (fun I2 eI2 => ?_)
      refine g_Lp [0, 1, 2, 3, 4] rfl ?_
      exact hj154 I2 x4
    have hl63 : ∀ (I : II) (x4 : Int32) (nn : Nat) (x5 : Int32) (x6 : Int32), True → GG E i_X11_findRow (enM E i_X11_findRow S0 (po_X11_findRow S0 I0)) S0 I (0, 0) 63 [(0, vA (a0 + 1)), (1, vI x1), (2, vI x2), (3, vI x3), (4, vI x4), (5, vI x5), (6, vI x6)] [] (fix2 (lp_X11_findRow_63 fu S0 I self23 a0 x1 x2 x3 x4) nn x5 x6) := by
      intro I x4 
      refine g_fix2 (fun _ _ => S0) (fun _ _ => I) (fun x5 x6 => [(0, vA (a0 + 1)), (1, vI x1), (2, vI x2), (3, vI x3), (4, vI x4), (5, vI x5), (6, vI x6)]) (fun x5 x6 => True) ?_
      intro self63 hself63 x5 x6 hinv
      have hj117 : ∀ (x6 : Int32) (s0 : Int32) (s1 : Int32), GG E i_X11_findRow (enM E i_X11_findRow S0 (po_X11_findRow S0 I0)) S0 I (0, 0) 117 [(0, vA (a0 + 1)), (1, vI x1), (2, vI x2), (3, vI x3), (4, vI x4), (6, vI x6)] [vI s1, vI s0] (jn_X11_findRow_117 fu S0 I self23 self63 a0 x1 x2 x3 x4 x6 s0 s1) := by
        intro x6 s0 s1 
        unfold jn_X11_findRow_117
        refine g_iadd (dk D_X11_findRow 61 rfl) ?_
        refine g_ltV (fun x5_3 ex5_3 => ?_)
        refine g_istore (L' := [(0, vA (a0 + 1)), (1, vI x1), (2, vI x2), (3, vI x3), (4, vI x4), (5, vI x5_3), (6, vI x6)]) (dk D_X11_findRow 62 rfl) (Nat.le_of_ble_eq_true rfl) rfl ?_
        refine g_iinc (v := (1 : Int32)) (L' := [(0, vA (a0 + 1)), (1, vI x1), (2, vI x2), (3, vI x3), (4, vI x4), (5, vI x5_3), (6, vI (x6 + (1 : Int32)))]) (dk D_X11_findRow 63 rfl) rfl rfl (Nat.le_of_ble_eq_true rfl) rfl ?_
        refine g_goto (tgt := 63) (dk D_X11_findRow 64 rfl) rfl ?_
        exact hself63 x5_3 (x6 + (1 : Int32)) trivial
      unfold lp_X11_findRow_63
      refine g_iload (dk D_X11_findRow 33 rfl) rfl ?_
      refine g_aload_n (dk D_X11_findRow 34 rfl) rfl ?_
      refine g_getIt fl_RX11_317 (by decide) ht0 (dk D_X11_findRow 35 rfl) ?_
      refine g_icmp_ge (tgt := 126) (dk D_X11_findRow 36 rfl) rfl (fun hc4 => ?_) (fun hc4 => ?_)
      · refine g_aload_n (dk D_X11_findRow 65 rfl) rfl ?_
        refine g_getIt fl_RX11_320 (by decide) ht0 (dk D_X11_findRow 66 rfl) ?_
        refine g_if_lt (tgt := 142) (dk D_X11_findRow 67 rfl) rfl (fun hc5 => ?_) (fun hc5 => ?_)
        · refine g_Lp [0, 1, 2, 3, 4, 5] rfl ?_
          exact hj142 I x4 x5
        · refine g_iload (dk D_X11_findRow 68 rfl) rfl ?_
          refine g_aload_n (dk D_X11_findRow 69 rfl) rfl ?_
          refine g_getIt fl_RX11_323 (by decide) ht0 (dk D_X11_findRow 70 rfl) ?_
          refine g_icmp_ge (tgt := 154) (dk D_X11_findRow 71 rfl) rfl (fun hc6 => ?_) (fun hc6 => ?_)
          · refine g_Lp [0, 1, 2, 3, 4] rfl ?_
            exact hj154 I x4
          · refine g_Lp [0, 1, 2, 3, 4, 5] rfl ?_
            exact hj142 I x4 x5
      · refine g_iload (dk D_X11_findRow 37 rfl) rfl ?_
        refine g_iload_n (dk D_X11_findRow 38 rfl) rfl ?_
        refine g_if_eq (tgt := 99) (dk D_X11_findRow 39 rfl) rfl (fun hc7 => ?_) (fun hc7 => ?_)
        · refine g_aload_n (dk D_X11_findRow 51 rfl) rfl ?_
          refine g_aload_n (dk D_X11_findRow 52 rfl) rfl ?_
          refine g_getAt (t := 100) fl_RX11_94 rfl ht0 (dk D_X11_findRow 53 rfl) (fun ht8 => ?_)
          refine g_iload (dk D_X11_findRow 54 rfl) rfl ?_
          refine g_gd (fun hi9 => ?_)
          refine g_iaload ht8 hi9 (dk D_X11_findRow 55 rfl) ?_
          refine g_aload_n (dk D_X11_findRow 56 rfl) rfl ?_
          refine g_getAt (t := 100) fl_RX11_97 rfl ht0 (dk D_X11_findRow 57 rfl) (fun ht10 => ?_)
          refine g_iload (dk D_X11_findRow 58 rfl) rfl ?_
          refine g_gd (fun hi11 => ?_)
          refine g_iaload ht10 hi11 (dk D_X11_findRow 59 rfl) ?_
          refine g_bind (fun q12 hq13 => ?_)
          refine h_callVt (st := [vI x5]) (c_X11_emptyOf (E := E) fu S0 I a0 (rd I (S0.1 a0 41) x6) (rd I (S0.1 a0 42) x6) q12 hq13 (ht0)) cl_RX11_314 ht0 rfl rfl (by decide) (Nat.le_of_ble_eq_true rfl) (dk D_X11_findRow 60 rfl) ?_
          refine g_Lp [0, 1, 2, 3, 4, 6] rfl ?_
          exact hj117 x6 x5 q12
        · refine g_aload_n (dk D_X11_findRow 40 rfl) rfl ?_
          refine g_aload_n (dk D_X11_findRow 41 rfl) rfl ?_
          refine g_getAt (t := 100) fl_RX11_94 rfl ht0 (dk D_X11_findRow 42 rfl) (fun ht15 => ?_)
          refine g_iload (dk D_X11_findRow 43 rfl) rfl ?_
          refine g_gd (fun hi16 => ?_)
          refine g_iaload ht15 hi16 (dk D_X11_findRow 44 rfl) ?_
          refine g_aload_n (dk D_X11_findRow 45 rfl) rfl ?_
          refine g_getAt (t := 100) fl_RX11_97 rfl ht0 (dk D_X11_findRow 46 rfl) (fun ht17 => ?_)
          refine g_iload (dk D_X11_findRow 47 rfl) rfl ?_
          refine g_gd (fun hi18 => ?_)
          refine g_iaload ht17 hi18 (dk D_X11_findRow 48 rfl) ?_
          refine g_bind (fun q19 hq20 => ?_)
          refine h_callVt (st := [vI x5]) (c_X11_taught (E := E) fu S0 I a0 (rd I (S0.1 a0 41) x6) (rd I (S0.1 a0 42) x6) q19 hq20 (ht0)) cl_RX11_339 ht0 rfl rfl (by decide) (Nat.le_of_ble_eq_true rfl) (dk D_X11_findRow 49 rfl) ?_
          refine g_goto (tgt := 117) (dk D_X11_findRow 50 rfl) rfl ?_
          refine g_Lp [0, 1, 2, 3, 4, 6] rfl ?_
          exact hj117 x6 x5 q19
    have hj57 : ∀ (I : II) (x4 : Int32), GG E i_X11_findRow (enM E i_X11_findRow S0 (po_X11_findRow S0 I0)) S0 I (0, 0) 57 [(0, vA (a0 + 1)), (1, vI x1), (2, vI x2), (3, vI x3), (4, vI x4)] [] (jn_X11_findRow_57 fu S0 I self23 a0 x1 x2 x3 x4) := by
      intro I x4 
      unfold jn_X11_findRow_57
      refine g_iconst (v := (0 : Int32)) (dk D_X11_findRow 29 rfl) rfl ?_
      refine g_istore (L' := [(0, vA (a0 + 1)), (1, vI x1), (2, vI x2), (3, vI x3), (4, vI x4), (5, vI (0 : Int32))]) (dk D_X11_findRow 30 rfl) (Nat.le_of_ble_eq_true rfl) rfl ?_
      refine g_iconst (v := (0 : Int32)) (dk D_X11_findRow 31 rfl) rfl ?_
      refine g_istore (L' := [(0, vA (a0 + 1)), (1, vI x1), (2, vI x2), (3, vI x3), (4, vI x4), (5, vI (0 : Int32)), (6, vI (0 : Int32))]) (dk D_X11_findRow 32 rfl) (Nat.le_of_ble_eq_true rfl) rfl ?_
      exact hl63 I x4 fu (0 : Int32) (0 : Int32) trivial
    unfold lp_X11_findRow_23
    refine g_iload (dk D_X11_findRow 13 rfl) rfl ?_
    refine g_iload_n (dk D_X11_findRow 14 rfl) rfl ?_
    refine g_icmp_ge (tgt := 160) (dk D_X11_findRow 15 rfl) rfl (fun hc22 => ?_) (fun hc22 => ?_)
    · exact g_return rfl rfl Sx.rf rfl (by decide) (by decide) (dk D_X11_findRow 80 rfl)
    · refine g_aload_n (dk D_X11_findRow 16 rfl) rfl ?_
      refine g_iload (dk D_X11_findRow 17 rfl) rfl ?_
      refine g_iload_n (dk D_X11_findRow 18 rfl) rfl ?_
      refine g_bind (fun q23 hq24 => ?_)
      refine h_callVt (st := []) (c_X11_layRow (E := E) fu S0 I a0 x4 x2 q23 hq24 (ht0)) cl_RX11_329 ht0 rfl rfl (by decide) (Nat.le_of_ble_eq_true rfl) (dk D_X11_findRow 19 rfl) ?_
      refine g_iload_n (dk D_X11_findRow 20 rfl) rfl ?_
      refine g_if_eq (tgt := 50) (dk D_X11_findRow 21 rfl) rfl (fun hc26 => ?_) (fun hc26 => ?_)
      · refine g_aload_n (dk D_X11_findRow 26 rfl) rfl ?_
        refine g_bind (fun q27 hq28 => ?_)
        refine h_callVt (st := []) (c_X11_doFit (E := E) fu S0 q23 a0 q27 hq28 (ht0)) cl_RX11_336 ht0 rfl rfl (by decide) (Nat.le_of_ble_eq_true rfl) (dk D_X11_findRow 27 rfl) ?_
        refine g_if_eq (tgt := 154) (dk D_X11_findRow 28 rfl) rfl (fun hc30 => ?_) (fun hc30 => ?_)
        · exact hj154 q23 x4
        · exact hj57 q23 x4
      · refine g_aload_n (dk D_X11_findRow 22 rfl) rfl ?_
        refine g_bind (fun q31 hq32 => ?_)
        refine h_callVt (st := []) (c_X11_areAllUnlike (E := E) fu S0 q23 a0 q31 hq32 (ht0)) cl_RX11_332 ht0 rfl rfl (by decide) (Nat.le_of_ble_eq_true rfl) (dk D_X11_findRow 23 rfl) ?_
        refine g_if_eq (tgt := 154) (dk D_X11_findRow 24 rfl) rfl (fun hc34 => ?_) (fun hc34 => ?_)
        · exact hj154 q23 x4
        · refine g_goto (tgt := 57) (dk D_X11_findRow 25 rfl) rfl ?_
          exact hj57 q23 x4
  unfold f_X11_findRow
  refine g_aload_n (dk D_X11_findRow 0 rfl) rfl ?_
  refine g_bipush (v := ((-9) : Int32)) (dk D_X11_findRow 1 rfl) rfl ?_
  refine g_putIt fl_RX11_320 fp_11_43 (fun h => (by cases h)) (by decide) rfl rfl ht0 (dk D_X11_findRow 2 rfl) ?_
  refine g_ltI (fun I35 eI35 => ?_)
  refine g_aload_n (dk D_X11_findRow 3 rfl) rfl ?_
  refine g_iconst (v := (0 : Int32)) (dk D_X11_findRow 4 rfl) rfl ?_
  refine g_putIt fl_RX11_323 fp_11_44 (fun h => (by cases h)) (by decide) rfl rfl ht0 (dk D_X11_findRow 5 rfl) ?_
  refine g_ltI (fun I36 eI36 => ?_)
  refine g_iload_n (dk D_X11_findRow 6 rfl) rfl ?_
  refine g_aload_n (dk D_X11_findRow 7 rfl) rfl ?_
  refine g_getIt fl_RX11_317 (by decide) ht0 (dk D_X11_findRow 8 rfl) ?_
  refine g_bind (fun q37 hq38 => ?_)
  refine h_callS (st := []) (c_X11_power (E := E) fu S0 I36 x2 (I36 a0 40) q37 hq38) cl_RX11_326 rfl rfl (by decide) (Nat.le_of_ble_eq_true rfl) (dk D_X11_findRow 9 rfl) ?_
  refine g_istore_n (L' := [(0, vA (a0 + 1)), (1, vI x1), (2, vI x2), (3, vI q37)]) (dk D_X11_findRow 10 rfl) (Nat.le_of_ble_eq_true rfl) rfl ?_
  refine g_iconst (v := (0 : Int32)) (dk D_X11_findRow 11 rfl) rfl ?_
  refine g_istore (L' := [(0, vA (a0 + 1)), (1, vI x1), (2, vI x2), (3, vI q37), (4, vI (0 : Int32))]) (dk D_X11_findRow 12 rfl) (Nat.le_of_ble_eq_true rfl) rfl ?_
  exact hl23 q37 fu (0 : Int32) I36 trivial
theorem c_X11_findRow {E : EV} (fu : Nat) (S0 : Sk) (I0 : II) (a0 : Nat) (x1 : Int32) (x2 : Int32) (r : II) (h : f_X11_findRow fu S0 I0 a0 x1 x2 = some r) (ht0 : tyO S0 11 a0) : MX E yX11_findRow i_X11_findRow S0 I0 [vA (a0 + 1), vI x1, vI x2] (po_X11_findRow S0 I0 r) :=
  MX.of h (by decide) rfl rfl (Nat.le_of_ble_eq_true rfl) (gg_X11_findRow fu S0 I0 a0 x1 x2 ht0)
def tb_X11_rowTold : List (Nat × Instr × Nat) := [(0, .aload_n 0, 1), (1, .getfield 320, 3), (4, .ifCond .lt 7, 3), (7, .iload_n 1, 1), (8, .ifCond .ge 20, 3), (11, .aload_n 0, 1), (12, .getfield 320, 3), (15, .ifCond .ge 8, 3), (18, .bipush (-9), 2), (20, .goto 7, 3), (23, .aload_n 0, 1), (24, .getfield 323, 3), (27, .ireturn, 1), (28, .aload_n 0, 1), (29, .aload_n 0, 1), (30, .getfield 320, 3), (33, .iload_n 2, 1), (34, .invokevirtual 329, 3), (37, .iconst 0, 1), (38, .istore_n 3, 1), (39, .iload_n 3, 1), (40, .aload_n 0, 1), (41, .getfield 317, 3), (44, .if_icmp .ge 26, 3), (47, .aload_n 0, 1), (48, .getfield 94, 3), (51, .iload_n 3, 1), (52, .iaload, 1), (53, .iload_n 1, 1), (54, .if_icmp .ne 10, 3), (57, .aload_n 0, 1), (58, .getfield 97, 3), (61, .iload_n 3, 1), (62, .iaload, 1), (63, .ireturn, 1), (64, .iinc 3 1, 3), (67, .goto (-28), 3), (70, .bipush (-9), 2), (72, .ireturn, 1)]
def i_X11_rowTold : MI := (RX11, cX11_rowTold, 4, (some .int), "rowTold", { frames := 1, cells := 0, slots := 0, locals := 24 })
theorem D_X11_rowTold : tbOK (i_X11_rowTold).2.1 tb_X11_rowTold := by show ∀ q ∈ tb_X11_rowTold, decode cX11_rowTold q.1 = .ok (q.2.1, q.2.2); decide +kernel
def po_X11_rowTold (S : Sk) (I : II) (r : Int32 × II) : Option LV × Sk × II := (some (vI r.1), S, r.2)
def jn_X11_rowTold_11 (fu : Nat) (S : Sk) (I : II) (a0 : Nat) : Option (Int32 × II) :=
  if 0 ≤ (I a0 43) then some (((I a0 44), I)) else some ((((-9) : Int32), I))
def lp_X11_rowTold_39 (fu : Nat) (S : Sk) (I : II) (a0 : Nat) (x1 : Int32) (self39 : Int32 → Option (Int32 × II)) (x3 : Int32) : Option (Int32 × II) :=
  if (I a0 40) ≤ x3 then some ((((-9) : Int32), I)) else gd (inb S (S.1 a0 41) x3) (if (rd I (S.1 a0 41) x3) = x1 then gd (inb S (S.1 a0 42) x3) (some (((rd I (S.1 a0 42) x3), I))) else self39 (x3 + (1 : Int32)))
def f_X11_rowTold (fu : Nat) (S : Sk) (I : II) (a0 : Nat) (x1 : Int32) (x2 : Int32) : Option (Int32 × II) :=
  if (I a0 43) < 0 then jn_X11_rowTold_11 fu S I a0 else if 0 ≤ x1 then (f_X11_layRow fu S I a0 (I a0 43) x2).bind fun q10 => (fix1 (lp_X11_rowTold_39 fu S q10 a0 x1) fu (0 : Int32)) else jn_X11_rowTold_11 fu S I a0
set_option maxRecDepth 100000 in
set_option maxHeartbeats 4000000 in
theorem gg_X11_rowTold {E : EV} (fu : Nat) (S0 : Sk) (I0 : II) (a0 : Nat) (x1 : Int32) (x2 : Int32) (ht0 : tyO S0 11 a0) : GG E i_X11_rowTold (enM E i_X11_rowTold S0 (po_X11_rowTold S0 I0)) S0 I0 (0, 0) 0 [(0, vA (a0 + 1)), (1, vI x1), (2, vI x2)] [] (f_X11_rowTold fu S0 I0 a0 x1 x2) := by
  have hj11 : ∀ (I : II), GG E i_X11_rowTold (enM E i_X11_rowTold S0 (po_X11_rowTold S0 I0)) S0 I (0, 0) 11 [(0, vA (a0 + 1))] [] (jn_X11_rowTold_11 fu S0 I a0) := by
    intro I  
    unfold jn_X11_rowTold_11
    refine g_aload_n (dk D_X11_rowTold 5 rfl) rfl ?_
    refine g_getIt fl_RX11_320 (by decide) ht0 (dk D_X11_rowTold 6 rfl) ?_
    refine g_if_ge (tgt := 23) (dk D_X11_rowTold 7 rfl) rfl (fun hc1 => ?_) (fun hc1 => ?_)
    · refine g_aload_n (dk D_X11_rowTold 10 rfl) rfl ?_
      refine g_getIt fl_RX11_323 (by decide) ht0 (dk D_X11_rowTold 11 rfl) ?_
      exact g_ireturn rfl rfl Sx.rf rfl (by decide) (by decide) (dk D_X11_rowTold 12 rfl)
    · refine g_bipush (v := ((-9) : Int32)) (dk D_X11_rowTold 8 rfl) rfl ?_
      refine g_goto (tgt := 27) (dk D_X11_rowTold 9 rfl) rfl ?_
      exact g_ireturn rfl rfl Sx.rf rfl (by decide) (by decide) (dk D_X11_rowTold 12 rfl)
  have hl39 : ∀ (I : II) (nn : Nat) (x3 : Int32), True → GG E i_X11_rowTold (enM E i_X11_rowTold S0 (po_X11_rowTold S0 I0)) S0 I (0, 0) 39 [(0, vA (a0 + 1)), (1, vI x1), (3, vI x3)] [] (fix1 (lp_X11_rowTold_39 fu S0 I a0 x1) nn x3) := by
    intro I  
    refine g_fix1 (fun _ => S0) (fun _ => I) (fun x3 => [(0, vA (a0 + 1)), (1, vI x1), (3, vI x3)]) (fun x3 => True) ?_
    intro self39 hself39 x3 hinv
    unfold lp_X11_rowTold_39
    refine g_iload_n (dk D_X11_rowTold 20 rfl) rfl ?_
    refine g_aload_n (dk D_X11_rowTold 21 rfl) rfl ?_
    refine g_getIt fl_RX11_317 (by decide) ht0 (dk D_X11_rowTold 22 rfl) ?_
    refine g_icmp_ge (tgt := 70) (dk D_X11_rowTold 23 rfl) rfl (fun hc2 => ?_) (fun hc2 => ?_)
    · refine g_bipush (v := ((-9) : Int32)) (dk D_X11_rowTold 37 rfl) rfl ?_
      exact g_ireturn rfl rfl Sx.rf rfl (by decide) (by decide) (dk D_X11_rowTold 38 rfl)
    · refine g_aload_n (dk D_X11_rowTold 24 rfl) rfl ?_
      refine g_getAt (t := 100) fl_RX11_94 rfl ht0 (dk D_X11_rowTold 25 rfl) (fun ht3 => ?_)
      refine g_iload_n (dk D_X11_rowTold 26 rfl) rfl ?_
      refine g_gd (fun hi4 => ?_)
      refine g_iaload ht3 hi4 (dk D_X11_rowTold 27 rfl) ?_
      refine g_iload_n (dk D_X11_rowTold 28 rfl) rfl ?_
      refine g_icmp_ne (tgt := 64) (dk D_X11_rowTold 29 rfl) rfl (fun hc5 => ?_) (fun hc5 => ?_)
      · refine g_iinc (v := (1 : Int32)) (L' := [(0, vA (a0 + 1)), (1, vI x1), (3, vI (x3 + (1 : Int32)))]) (dk D_X11_rowTold 35 rfl) rfl rfl (Nat.le_of_ble_eq_true rfl) rfl ?_
        refine g_goto (tgt := 39) (dk D_X11_rowTold 36 rfl) rfl ?_
        exact hself39 (x3 + (1 : Int32)) trivial
      · refine g_aload_n (dk D_X11_rowTold 30 rfl) rfl ?_
        refine g_getAt (t := 100) fl_RX11_97 rfl ht0 (dk D_X11_rowTold 31 rfl) (fun ht6 => ?_)
        refine g_iload_n (dk D_X11_rowTold 32 rfl) rfl ?_
        refine g_gd (fun hi7 => ?_)
        refine g_iaload ht6 hi7 (dk D_X11_rowTold 33 rfl) ?_
        exact g_ireturn rfl rfl Sx.rf rfl (by decide) (by decide) (dk D_X11_rowTold 34 rfl)
  unfold f_X11_rowTold
  refine g_aload_n (dk D_X11_rowTold 0 rfl) rfl ?_
  refine g_getIt fl_RX11_320 (by decide) ht0 (dk D_X11_rowTold 1 rfl) ?_
  refine g_if_lt (tgt := 11) (dk D_X11_rowTold 2 rfl) rfl (fun hc8 => ?_) (fun hc8 => ?_)
  · refine g_Lp [0] rfl ?_
    exact hj11 I0
  · refine g_iload_n (dk D_X11_rowTold 3 rfl) rfl ?_
    refine g_if_ge (tgt := 28) (dk D_X11_rowTold 4 rfl) rfl (fun hc9 => ?_) (fun hc9 => ?_)
    · refine g_aload_n (dk D_X11_rowTold 13 rfl) rfl ?_
      refine g_aload_n (dk D_X11_rowTold 14 rfl) rfl ?_
      refine g_getIt fl_RX11_320 (by decide) ht0 (dk D_X11_rowTold 15 rfl) ?_
      refine g_iload_n (dk D_X11_rowTold 16 rfl) rfl ?_
      refine g_bind (fun q10 hq11 => ?_)
      refine h_callVt (st := []) (c_X11_layRow (E := E) fu S0 I0 a0 (I0 a0 43) x2 q10 hq11 (ht0)) cl_RX11_329 ht0 rfl rfl (by decide) (Nat.le_of_ble_eq_true rfl) (dk D_X11_rowTold 17 rfl) ?_
      refine g_iconst (v := (0 : Int32)) (dk D_X11_rowTold 18 rfl) rfl ?_
      refine g_istore_n (L' := [(0, vA (a0 + 1)), (1, vI x1), (2, vI x2), (3, vI (0 : Int32))]) (dk D_X11_rowTold 19 rfl) (Nat.le_of_ble_eq_true rfl) rfl ?_
      refine g_Lp [0, 1, 3] rfl ?_
      exact hl39 q10 fu (0 : Int32) trivial
    · refine g_Lp [0] rfl ?_
      exact hj11 I0
theorem c_X11_rowTold {E : EV} (fu : Nat) (S0 : Sk) (I0 : II) (a0 : Nat) (x1 : Int32) (x2 : Int32) (r : Int32 × II) (h : f_X11_rowTold fu S0 I0 a0 x1 x2 = some r) (ht0 : tyO S0 11 a0) : MX E yX11_rowTold i_X11_rowTold S0 I0 [vA (a0 + 1), vI x1, vI x2] (po_X11_rowTold S0 I0 r) :=
  MX.of h (by decide) rfl rfl (Nat.le_of_ble_eq_true rfl) (gg_X11_rowTold fu S0 I0 a0 x1 x2 ht0)
theorem lk_RX11_342 : Cond.constantLong RX11 342 ((-1) : Int64) ∈ lw_good := (gm 1381 (by decide +kernel) (by decide +kernel))
theorem cl_RX11_344 : CV0 RX11 344 yX11_layRuns i_X11_layRuns 1 11 := ⟨⟨(gm 1382 (by decide +kernel) (by decide +kernel)), (gm 72 (by decide +kernel) (by decide +kernel)), ((gm 1385 (by decide +kernel) (by decide +kernel))), by decide +kernel, by decide +kernel, by decide +kernel⟩, ⟨(gm 1384 (by decide +kernel) (by decide +kernel)), (gm 51 (by decide +kernel) (by decide +kernel))⟩, rfl, by decide⟩
theorem cl_RX11_347 : CV0 RX11 347 yX11_findRow i_X11_findRow 2 11 := ⟨⟨(gm 1386 (by decide +kernel) (by decide +kernel)), (gm 72 (by decide +kernel) (by decide +kernel)), ((gm 1389 (by decide +kernel) (by decide +kernel))), by decide +kernel, by decide +kernel, by decide +kernel⟩, ⟨(gm 1388 (by decide +kernel) (by decide +kernel)), (gm 52 (by decide +kernel) (by decide +kernel))⟩, rfl, by decide⟩
theorem cl_RX11_351 : CV0 RX11 351 yX11_rowTold i_X11_rowTold 2 11 := ⟨⟨(gm 1409 (by decide +kernel) (by decide +kernel)), (gm 72 (by decide +kernel) (by decide +kernel)), ((gm 1412 (by decide +kernel) (by decide +kernel))), by decide +kernel, by decide +kernel, by decide +kernel⟩, ⟨(gm 1411 (by decide +kernel) (by decide +kernel)), (gm 57 (by decide +kernel) (by decide +kernel))⟩, rfl, by decide⟩
def tb_X11_fit : List (Nat × Instr × Nat) := [(0, .iload_n 1, 1), (1, .invokestatic 200, 3), (4, .ifCond .ne 6, 3), (7, .bipush (-2), 2), (9, .ireturn, 1), (10, .iload_n 2, 1), (11, .i2l, 1), (12, .ldc2_w 342, 3), (15, .aload_n 0, 1), (16, .getfield 172, 3), (19, .i2l, 1), (20, .lconst 1, 1), (21, .lsub, 1), (22, .invokestatic 132, 3), (25, .ifCond .ne 5, 3), (28, .iconst (-1), 1), (29, .ireturn, 1), (30, .aload_n 0, 1), (31, .iload_n 1, 1), (32, .invokevirtual 344, 3), (35, .aload_n 0, 1), (36, .getfield 317, 3), (39, .bipush 8, 2), (41, .if_icmp .le 6, 3), (44, .bipush (-9), 2), (46, .ireturn, 1), (47, .aload_n 0, 1), (48, .iconst 0, 1), (49, .aload_n 0, 1), (50, .getfield 308, 3), (53, .invokevirtual 347, 3), (56, .aload_n 0, 1), (57, .iload_n 2, 1), (58, .aload_n 0, 1), (59, .getfield 308, 3), (62, .invokevirtual 351, 3), (65, .ireturn, 1)]
def i_X11_fit : MI := (RX11, cX11_fit, 3, (some .int), "fit", { frames := 4, cells := 0, slots := 0, locals := 90 })
theorem D_X11_fit : tbOK (i_X11_fit).2.1 tb_X11_fit := by show ∀ q ∈ tb_X11_fit, decode cX11_fit q.1 = .ok (q.2.1, q.2.2); decide +kernel
def po_X11_fit (S : Sk) (I : II) (r : Int32 × II) : Option LV × Sk × II := (some (vI r.1), S, r.2)
def f_X11_fit (fu : Nat) (S : Sk) (I : II) (a0 : Nat) (x1 : Int32) (x2 : Int32) : Option (Int32 × II) :=
  if (t_X11_isDay x1) = 0 then some ((((-2) : Int32), I)) else if (t_X11_in x2.toInt64 ((-1) : Int64) ((((I a0 4)).toInt64) - (1 : Int64))) = 0 then some ((((-1) : Int32), I)) else (f_X11_layRuns fu S I a0 x1).bind fun q5 => (if (q5 a0 40) ≤ (8 : Int32) then (f_X11_findRow fu S q5 a0 (0 : Int32) (q5 a0 36)).bind fun q9 => ((f_X11_rowTold fu S q9 a0 x2 (q9 a0 36)).bind fun q12 => (some ((q12.1, q12.2)))) else some ((((-9) : Int32), q5)))
set_option maxRecDepth 100000 in
set_option maxHeartbeats 4000000 in
theorem gg_X11_fit {E : EV} (fu : Nat) (S0 : Sk) (I0 : II) (a0 : Nat) (x1 : Int32) (x2 : Int32) (ht0 : tyO S0 11 a0) : GG E i_X11_fit (enM E i_X11_fit S0 (po_X11_fit S0 I0)) S0 I0 (0, 0) 0 [(0, vA (a0 + 1)), (1, vI x1), (2, vI x2)] [] (f_X11_fit fu S0 I0 a0 x1 x2) := by
  unfold f_X11_fit
  refine g_iload_n (dk D_X11_fit 0 rfl) rfl ?_
  refine h_callS (st := []) (c_X11_isDay (E := E) S0 I0 x1) cl_RX11_200 rfl rfl (by decide) (Nat.le_of_ble_eq_true rfl) (dk D_X11_fit 1 rfl) ?_
  refine g_if_ne (tgt := 10) (dk D_X11_fit 2 rfl) rfl (fun hc2 => ?_) (fun hc2 => ?_)
  · refine g_iload_n (dk D_X11_fit 5 rfl) rfl ?_
    refine g_i2l (dk D_X11_fit 6 rfl) ?_
    refine g_ldc2 (dk D_X11_fit 7 rfl) lk_RX11_342 ?_
    refine g_aload_n (dk D_X11_fit 8 rfl) rfl ?_
    refine g_getIt fl_RX11_172 (by decide) ht0 (dk D_X11_fit 9 rfl) ?_
    refine g_i2l (dk D_X11_fit 10 rfl) ?_
    refine g_lconst (v := (1 : Int64)) (dk D_X11_fit 11 rfl) rfl ?_
    refine g_lsub (dk D_X11_fit 12 rfl) ?_
    refine h_callS (st := []) (c_X11_in (E := E) S0 I0 x2.toInt64 ((-1) : Int64) ((((I0 a0 4)).toInt64) - (1 : Int64))) cl_RX11_132 rfl rfl (by decide) (Nat.le_of_ble_eq_true rfl) (dk D_X11_fit 13 rfl) ?_
    refine g_if_ne (tgt := 30) (dk D_X11_fit 14 rfl) rfl (fun hc4 => ?_) (fun hc4 => ?_)
    · refine g_aload_n (dk D_X11_fit 17 rfl) rfl ?_
      refine g_iload_n (dk D_X11_fit 18 rfl) rfl ?_
      refine g_bind (fun q5 hq6 => ?_)
      refine h_callVt (st := []) (c_X11_layRuns (E := E) fu S0 I0 a0 x1 q5 hq6 (ht0)) cl_RX11_344 ht0 rfl rfl (by decide) (Nat.le_of_ble_eq_true rfl) (dk D_X11_fit 19 rfl) ?_
      refine g_aload_n (dk D_X11_fit 20 rfl) rfl ?_
      refine g_getIt fl_RX11_317 (by decide) ht0 (dk D_X11_fit 21 rfl) ?_
      refine g_bipush (v := (8 : Int32)) (dk D_X11_fit 22 rfl) rfl ?_
      refine g_icmp_le (tgt := 47) (dk D_X11_fit 23 rfl) rfl (fun hc8 => ?_) (fun hc8 => ?_)
      · refine g_aload_n (dk D_X11_fit 26 rfl) rfl ?_
        refine g_iconst (v := (0 : Int32)) (dk D_X11_fit 27 rfl) rfl ?_
        refine g_aload_n (dk D_X11_fit 28 rfl) rfl ?_
        refine g_getIt fl_RX11_308 (by decide) ht0 (dk D_X11_fit 29 rfl) ?_
        refine g_bind (fun q9 hq10 => ?_)
        refine h_callVt (st := []) (c_X11_findRow (E := E) fu S0 q5 a0 (0 : Int32) (q5 a0 36) q9 hq10 (ht0)) cl_RX11_347 ht0 rfl rfl (by decide) (Nat.le_of_ble_eq_true rfl) (dk D_X11_fit 30 rfl) ?_
        refine g_aload_n (dk D_X11_fit 31 rfl) rfl ?_
        refine g_iload_n (dk D_X11_fit 32 rfl) rfl ?_
        refine g_aload_n (dk D_X11_fit 33 rfl) rfl ?_
        refine g_getIt fl_RX11_308 (by decide) ht0 (dk D_X11_fit 34 rfl) ?_
        refine g_bind (fun q12 hq13 => ?_)
        refine h_callVt (st := []) (c_X11_rowTold (E := E) fu S0 q9 a0 x2 (q9 a0 36) q12 hq13 (ht0)) cl_RX11_351 ht0 rfl rfl (by decide) (Nat.le_of_ble_eq_true rfl) (dk D_X11_fit 35 rfl) ?_
        exact g_ireturn rfl rfl Sx.rf rfl (by decide) (by decide) (dk D_X11_fit 36 rfl)
      · refine g_bipush (v := ((-9) : Int32)) (dk D_X11_fit 24 rfl) rfl ?_
        exact g_ireturn rfl rfl Sx.rf rfl (by decide) (by decide) (dk D_X11_fit 25 rfl)
    · refine g_iconst (v := ((-1) : Int32)) (dk D_X11_fit 15 rfl) rfl ?_
      exact g_ireturn rfl rfl Sx.rf rfl (by decide) (by decide) (dk D_X11_fit 16 rfl)
  · refine g_bipush (v := ((-2) : Int32)) (dk D_X11_fit 3 rfl) rfl ?_
    exact g_ireturn rfl rfl Sx.rf rfl (by decide) (by decide) (dk D_X11_fit 4 rfl)
theorem c_X11_fit {E : EV} (fu : Nat) (S0 : Sk) (I0 : II) (a0 : Nat) (x1 : Int32) (x2 : Int32) (r : Int32 × II) (h : f_X11_fit fu S0 I0 a0 x1 x2 = some r) (ht0 : tyO S0 11 a0) : MX E yX11_fit i_X11_fit S0 I0 [vA (a0 + 1), vI x1, vI x2] (po_X11_fit S0 I0 r) :=
  MX.of h (by decide) rfl rfl (Nat.le_of_ble_eq_true rfl) (gg_X11_fit fu S0 I0 a0 x1 x2 ht0)
theorem fl_RX11_354 : FL RX11 354 11 45 := ⟨RX11, TX11, 57, rfl, by decide, rfl, by decide, (gm 1023 (by decide +kernel) (by decide +kernel)), inG11⟩
theorem fp_11_45 : FP 11 45 (tyX11 45) false := ⟨RX11, TX11, 57, tyX11, rfl, tyX11_ok, nmX11, rfl, rfl, rfl⟩
def tb_X11_driver : List (Nat × Instr × Nat) := [(0, .aload_n 0, 1), (1, .getfield 354, 3), (4, .bipush 6, 2), (6, .if_icmp .ne 6, 3), (9, .bipush (-4), 2), (11, .ireturn, 1), (12, .aload_n 0, 1), (13, .dup, 1), (14, .getfield 354, 3), (17, .iconst 1, 1), (18, .iadd, 1), (19, .putfield 354, 3), (22, .aload_n 0, 1), (23, .getfield 354, 3), (26, .iconst 1, 1), (27, .isub, 1), (28, .ireturn, 1)]
def i_X11_driver : MI := (RX11, cX11_driver, 1, (some .int), "driver", { frames := 0, cells := 0, slots := 0, locals := 0 })
theorem D_X11_driver : tbOK (i_X11_driver).2.1 tb_X11_driver := by show ∀ q ∈ tb_X11_driver, decode cX11_driver q.1 = .ok (q.2.1, q.2.2); decide +kernel
def po_X11_driver (S : Sk) (I : II) (r : Int32 × II) : Option LV × Sk × II := (some (vI r.1), S, r.2)
def f_X11_driver (fu : Nat) (S : Sk) (I : II) (a0 : Nat) : Option (Int32 × II) :=
  if (I a0 45) = (6 : Int32) then some ((((-4) : Int32), I)) else lt (upI I a0 45 ((I a0 45) + (1 : Int32))) fun I2 => (some ((((I2 a0 45) - (1 : Int32)), I2)))
set_option maxRecDepth 100000 in
set_option maxHeartbeats 4000000 in
theorem gg_X11_driver {E : EV} (fu : Nat) (S0 : Sk) (I0 : II) (a0 : Nat) (ht0 : tyO S0 11 a0) : GG E i_X11_driver (enM E i_X11_driver S0 (po_X11_driver S0 I0)) S0 I0 (0, 0) 0 [(0, vA (a0 + 1))] [] (f_X11_driver fu S0 I0 a0) := by
  unfold f_X11_driver
  refine g_aload_n (dk D_X11_driver 0 rfl) rfl ?_
  refine g_getIt fl_RX11_354 (by decide) ht0 (dk D_X11_driver 1 rfl) ?_
  refine g_bipush (v := (6 : Int32)) (dk D_X11_driver 2 rfl) rfl ?_
  refine g_icmp_ne (tgt := 12) (dk D_X11_driver 3 rfl) rfl (fun hc1 => ?_) (fun hc1 => ?_)
  · refine g_aload_n (dk D_X11_driver 6 rfl) rfl ?_
    refine g_dup (dk D_X11_driver 7 rfl) rfl ?_
    refine g_getIt fl_RX11_354 (by decide) ht0 (dk D_X11_driver 8 rfl) ?_
    refine g_iconst (v := (1 : Int32)) (dk D_X11_driver 9 rfl) rfl ?_
    refine g_iadd (dk D_X11_driver 10 rfl) ?_
    refine g_putIt fl_RX11_354 fp_11_45 (fun h => (by cases h)) (by decide) rfl rfl ht0 (dk D_X11_driver 11 rfl) ?_
    refine g_ltI (fun I2 eI2 => ?_)
    refine g_aload_n (dk D_X11_driver 12 rfl) rfl ?_
    refine g_getIt fl_RX11_354 (by decide) ht0 (dk D_X11_driver 13 rfl) ?_
    refine g_iconst (v := (1 : Int32)) (dk D_X11_driver 14 rfl) rfl ?_
    refine g_isub (dk D_X11_driver 15 rfl) ?_
    exact g_ireturn rfl rfl Sx.rf rfl (by decide) (by decide) (dk D_X11_driver 16 rfl)
  · refine g_bipush (v := ((-4) : Int32)) (dk D_X11_driver 4 rfl) rfl ?_
    exact g_ireturn rfl rfl Sx.rf rfl (by decide) (by decide) (dk D_X11_driver 5 rfl)
theorem c_X11_driver {E : EV} (fu : Nat) (S0 : Sk) (I0 : II) (a0 : Nat) (r : Int32 × II) (h : f_X11_driver fu S0 I0 a0 = some r) (ht0 : tyO S0 11 a0) : MX E yX11_driver i_X11_driver S0 I0 [vA (a0 + 1)] (po_X11_driver S0 I0 r) :=
  MX.of h (by decide) rfl rfl (Nat.le_of_ble_eq_true rfl) (gg_X11_driver fu S0 I0 a0 ht0)
def tb_X11_know : List (Nat × Instr × Nat) := [(0, .iload_n 1, 1), (1, .i2l, 1), (2, .lconst 0, 1), (3, .aload_n 0, 1), (4, .getfield 354, 3), (7, .i2l, 1), (8, .lconst 1, 1), (9, .lsub, 1), (10, .invokestatic 132, 3), (13, .ifCond .eq 11, 3), (16, .aload_n 0, 1), (17, .iload_n 2, 1), (18, .invokevirtual 197, 3), (21, .ifCond .eq 5, 3), (24, .iconst (-1), 1), (25, .ireturn, 1), (26, .aload_n 0, 1), (27, .getfield 100, 3), (30, .iload_n 1, 1), (31, .iaload, 1), (32, .iload_n 2, 1), (33, .invokestatic 263, 3), (36, .istore 4, 2), (38, .aload_n 0, 1), (39, .getfield 100, 3), (42, .iload_n 1, 1), (43, .iload_n 3, 1), (44, .ifCond .eq 16, 3), (47, .aload_n 0, 1), (48, .getfield 100, 3), (51, .iload_n 1, 1), (52, .iaload, 1), (53, .iconst 1, 1), (54, .iload_n 2, 1), (55, .ishl, 1), (56, .ior, 1), (57, .goto 15, 3), (60, .aload_n 0, 1), (61, .getfield 100, 3), (64, .iload_n 1, 1), (65, .iaload, 1), (66, .iconst 1, 1), (67, .iload_n 2, 1), (68, .ishl, 1), (69, .iconst (-1), 1), (70, .ixor, 1), (71, .iand, 1), (72, .iastore, 1), (73, .iload 4, 2), (75, .iload_n 3, 1), (76, .if_icmp .ne 7, 3), (79, .iconst 0, 1), (80, .goto 4, 3), (83, .iconst 1, 1), (84, .ireturn, 1)]
def i_X11_know : MI := (RX11, cX11_know, 5, (some .int), "know", { frames := 2, cells := 0, slots := 0, locals := 46 })
theorem D_X11_know : tbOK (i_X11_know).2.1 tb_X11_know := by show ∀ q ∈ tb_X11_know, decode cX11_know q.1 = .ok (q.2.1, q.2.2); decide +kernel
def po_X11_know (S : Sk) (I : II) (r : Int32 × II) : Option LV × Sk × II := (some (vI r.1), S, r.2)
def jn_X11_know_72 (fu : Nat) (S : Sk) (I : II) (a0 : Nat) (x3 : Int32) (x4 : Int32) (q0 : Nat) (s1 : Int32) (s2 : Int32) : Option (Int32 × II) :=
  gd (inb S q0 s1) (lt (wr I q0 s1 s2) fun I2 => (if x4 = x3 then some (((0 : Int32), I2)) else some (((1 : Int32), I2))))
def f_X11_know (fu : Nat) (S : Sk) (I : II) (a0 : Nat) (x1 : Int32) (x2 : Int32) (x3 : Int32) : Option (Int32 × II) :=
  if (t_X11_in x1.toInt64 (0 : Int64) ((((I a0 45)).toInt64) - (1 : Int64))) = 0 then some ((((-1) : Int32), I)) else if (t_X11_noLine I a0 x2) = 0 then gd (inb S (S.1 a0 46) x1) (lt (t_X11_hasBit (rd I (S.1 a0 46) x1) x2) fun x4_11 => (if x3 = 0 then jn_X11_know_72 fu S I a0 x3 x4_11 (S.1 a0 46) x1 ((rd I (S.1 a0 46) x1) &&& (((1 : Int32) <<< (x2 &&& 31)) ^^^ ((-1) : Int32))) else jn_X11_know_72 fu S I a0 x3 x4_11 (S.1 a0 46) x1 ((rd I (S.1 a0 46) x1) ||| ((1 : Int32) <<< (x2 &&& 31))))) else some ((((-1) : Int32), I))
set_option maxRecDepth 100000 in
set_option maxHeartbeats 4000000 in
theorem gg_X11_know {E : EV} (fu : Nat) (S0 : Sk) (I0 : II) (a0 : Nat) (x1 : Int32) (x2 : Int32) (x3 : Int32) (ht0 : tyO S0 11 a0) : GG E i_X11_know (enM E i_X11_know S0 (po_X11_know S0 I0)) S0 I0 (0, 0) 0 [(0, vA (a0 + 1)), (1, vI x1), (2, vI x2), (3, vI x3)] [] (f_X11_know fu S0 I0 a0 x1 x2 x3) := by
  have hj72 : ∀ (I : II) (x4 : Int32) (q0 : Nat) (s1 : Int32) (s2 : Int32) (h_q0 : tyR S0 100 q0), GG E i_X11_know (enM E i_X11_know S0 (po_X11_know S0 I0)) S0 I (0, 0) 72 [(3, vI x3), (4, vI x4)] [vI s2, vI s1, vA q0] (jn_X11_know_72 fu S0 I a0 x3 x4 q0 s1 s2) := by
    intro I x4 q0 s1 s2 h_q0
    unfold jn_X11_know_72
    refine g_gd (fun hi1 => ?_)
    refine g_iastore h_q0 hi1 (dk D_X11_know 47 rfl) ?_
    refine g_ltI (fun I2 eI2 => ?_)
    refine g_iload (dk D_X11_know 48 rfl) rfl ?_
    refine g_iload_n (dk D_X11_know 49 rfl) rfl ?_
    refine g_icmp_ne (tgt := 83) (dk D_X11_know 50 rfl) rfl (fun hc3 => ?_) (fun hc3 => ?_)
    · refine g_iconst (v := (1 : Int32)) (dk D_X11_know 53 rfl) rfl ?_
      exact g_ireturn rfl rfl Sx.rf rfl (by decide) (by decide) (dk D_X11_know 54 rfl)
    · refine g_iconst (v := (0 : Int32)) (dk D_X11_know 51 rfl) rfl ?_
      refine g_goto (tgt := 84) (dk D_X11_know 52 rfl) rfl ?_
      exact g_ireturn rfl rfl Sx.rf rfl (by decide) (by decide) (dk D_X11_know 54 rfl)
  unfold f_X11_know
  refine g_iload_n (dk D_X11_know 0 rfl) rfl ?_
  refine g_i2l (dk D_X11_know 1 rfl) ?_
  refine g_lconst (v := (0 : Int64)) (dk D_X11_know 2 rfl) rfl ?_
  refine g_aload_n (dk D_X11_know 3 rfl) rfl ?_
  refine g_getIt fl_RX11_354 (by decide) ht0 (dk D_X11_know 4 rfl) ?_
  refine g_i2l (dk D_X11_know 5 rfl) ?_
  refine g_lconst (v := (1 : Int64)) (dk D_X11_know 6 rfl) rfl ?_
  refine g_lsub (dk D_X11_know 7 rfl) ?_
  refine h_callS (st := []) (c_X11_in (E := E) S0 I0 x1.toInt64 (0 : Int64) ((((I0 a0 45)).toInt64) - (1 : Int64))) cl_RX11_132 rfl rfl (by decide) (Nat.le_of_ble_eq_true rfl) (dk D_X11_know 8 rfl) ?_
  refine g_if_eq (tgt := 24) (dk D_X11_know 9 rfl) rfl (fun hc5 => ?_) (fun hc5 => ?_)
  · refine g_iconst (v := ((-1) : Int32)) (dk D_X11_know 14 rfl) rfl ?_
    exact g_ireturn rfl rfl Sx.rf rfl (by decide) (by decide) (dk D_X11_know 15 rfl)
  · refine g_aload_n (dk D_X11_know 10 rfl) rfl ?_
    refine g_iload_n (dk D_X11_know 11 rfl) rfl ?_
    refine h_callVt (st := []) (c_X11_noLine (E := E) S0 I0 a0 x2 (ht0)) cl_RX11_197 ht0 rfl rfl (by decide) (Nat.le_of_ble_eq_true rfl) (dk D_X11_know 12 rfl) ?_
    refine g_if_eq (tgt := 26) (dk D_X11_know 13 rfl) rfl (fun hc7 => ?_) (fun hc7 => ?_)
    · refine g_aload_n (dk D_X11_know 16 rfl) rfl ?_
      refine g_getAt (t := 100) fl_RX11_100 rfl ht0 (dk D_X11_know 17 rfl) (fun ht8 => ?_)
      refine g_iload_n (dk D_X11_know 18 rfl) rfl ?_
      refine g_gd (fun hi9 => ?_)
      refine g_iaload ht8 hi9 (dk D_X11_know 19 rfl) ?_
      refine g_iload_n (dk D_X11_know 20 rfl) rfl ?_
      refine h_callS (st := []) (c_X11_hasBit (E := E) S0 I0 (rd I0 (S0.1 a0 46) x1) x2) cl_RX11_263 rfl rfl (by decide) (Nat.le_of_ble_eq_true rfl) (dk D_X11_know 21 rfl) ?_
      refine g_ltV (fun x4_11 ex4_11 => ?_)
      refine g_istore (L' := [(0, vA (a0 + 1)), (1, vI x1), (2, vI x2), (3, vI x3), (4, vI x4_11)]) (dk D_X11_know 22 rfl) (Nat.le_of_ble_eq_true rfl) rfl ?_
      refine g_aload_n (dk D_X11_know 23 rfl) rfl ?_
      refine g_getAt (t := 100) fl_RX11_100 rfl ht0 (dk D_X11_know 24 rfl) (fun ht12 => ?_)
      refine g_iload_n (dk D_X11_know 25 rfl) rfl ?_
      refine g_iload_n (dk D_X11_know 26 rfl) rfl ?_
      refine g_if_eq (tgt := 60) (dk D_X11_know 27 rfl) rfl (fun hc13 => ?_) (fun hc13 => ?_)
      · refine g_aload_n (dk D_X11_know 37 rfl) rfl ?_
        refine g_getAt (t := 100) fl_RX11_100 rfl ht0 (dk D_X11_know 38 rfl) (fun ht14 => ?_)
        refine g_iload_n (dk D_X11_know 39 rfl) rfl ?_
        refine g_iaload ht8 hi9 (dk D_X11_know 40 rfl) ?_
        refine g_iconst (v := (1 : Int32)) (dk D_X11_know 41 rfl) rfl ?_
        refine g_iload_n (dk D_X11_know 42 rfl) rfl ?_
        refine g_ishl (dk D_X11_know 43 rfl) ?_
        refine g_iconst (v := ((-1) : Int32)) (dk D_X11_know 44 rfl) rfl ?_
        refine g_ixor (dk D_X11_know 45 rfl) ?_
        refine g_iand (dk D_X11_know 46 rfl) ?_
        refine g_Lp [3, 4] rfl ?_
        exact hj72 I0 x4_11 (S0.1 a0 46) x1 ((rd I0 (S0.1 a0 46) x1) &&& (((1 : Int32) <<< (x2 &&& 31)) ^^^ ((-1) : Int32))) ht8
      · refine g_aload_n (dk D_X11_know 28 rfl) rfl ?_
        refine g_getAt (t := 100) fl_RX11_100 rfl ht0 (dk D_X11_know 29 rfl) (fun ht15 => ?_)
        refine g_iload_n (dk D_X11_know 30 rfl) rfl ?_
        refine g_iaload ht8 hi9 (dk D_X11_know 31 rfl) ?_
        refine g_iconst (v := (1 : Int32)) (dk D_X11_know 32 rfl) rfl ?_
        refine g_iload_n (dk D_X11_know 33 rfl) rfl ?_
        refine g_ishl (dk D_X11_know 34 rfl) ?_
        refine g_ior (dk D_X11_know 35 rfl) ?_
        refine g_goto (tgt := 72) (dk D_X11_know 36 rfl) rfl ?_
        refine g_Lp [3, 4] rfl ?_
        exact hj72 I0 x4_11 (S0.1 a0 46) x1 ((rd I0 (S0.1 a0 46) x1) ||| ((1 : Int32) <<< (x2 &&& 31))) ht8
    · refine g_iconst (v := ((-1) : Int32)) (dk D_X11_know 14 rfl) rfl ?_
      exact g_ireturn rfl rfl Sx.rf rfl (by decide) (by decide) (dk D_X11_know 15 rfl)
theorem c_X11_know {E : EV} (fu : Nat) (S0 : Sk) (I0 : II) (a0 : Nat) (x1 : Int32) (x2 : Int32) (x3 : Int32) (r : Int32 × II) (h : f_X11_know fu S0 I0 a0 x1 x2 x3 = some r) (ht0 : tyO S0 11 a0) : MX E yX11_know i_X11_know S0 I0 [vA (a0 + 1), vI x1, vI x2, vI x3] (po_X11_know S0 I0 r) :=
  MX.of h (by decide) rfl rfl (Nat.le_of_ble_eq_true rfl) (gg_X11_know fu S0 I0 a0 x1 x2 x3 ht0)
def tb_X11_roster : List (Nat × Instr × Nat) := [(0, .iload_n 1, 1), (1, .invokestatic 200, 3), (4, .ifCond .ne 6, 3), (7, .bipush (-2), 2), (9, .ireturn, 1), (10, .iload_n 2, 1), (11, .i2l, 1), (12, .ldc2_w 342, 3), (15, .aload_n 0, 1), (16, .getfield 172, 3), (19, .i2l, 1), (20, .lconst 1, 1), (21, .lsub, 1), (22, .invokestatic 132, 3), (25, .ifCond .ne 5, 3), (28, .iconst (-1), 1), (29, .ireturn, 1), (30, .aload_n 0, 1), (31, .iload_n 1, 1), (32, .invokevirtual 344, 3), (35, .aload_n 0, 1), (36, .getfield 317, 3), (39, .aload_n 0, 1), (40, .getfield 354, 3), (43, .if_icmp .le 6, 3), (46, .bipush (-9), 2), (48, .ireturn, 1), (49, .aload_n 0, 1), (50, .iconst 1, 1), (51, .aload_n 0, 1), (52, .getfield 354, 3), (55, .invokevirtual 347, 3), (58, .aload_n 0, 1), (59, .iload_n 2, 1), (60, .aload_n 0, 1), (61, .getfield 354, 3), (64, .invokevirtual 351, 3), (67, .ireturn, 1)]
def i_X11_roster : MI := (RX11, cX11_roster, 3, (some .int), "roster", { frames := 4, cells := 0, slots := 0, locals := 90 })
theorem D_X11_roster : tbOK (i_X11_roster).2.1 tb_X11_roster := by show ∀ q ∈ tb_X11_roster, decode cX11_roster q.1 = .ok (q.2.1, q.2.2); decide +kernel
def po_X11_roster (S : Sk) (I : II) (r : Int32 × II) : Option LV × Sk × II := (some (vI r.1), S, r.2)
def f_X11_roster (fu : Nat) (S : Sk) (I : II) (a0 : Nat) (x1 : Int32) (x2 : Int32) : Option (Int32 × II) :=
  if (t_X11_isDay x1) = 0 then some ((((-2) : Int32), I)) else if (t_X11_in x2.toInt64 ((-1) : Int64) ((((I a0 4)).toInt64) - (1 : Int64))) = 0 then some ((((-1) : Int32), I)) else (f_X11_layRuns fu S I a0 x1).bind fun q5 => (if (q5 a0 40) ≤ (q5 a0 45) then (f_X11_findRow fu S q5 a0 (1 : Int32) (q5 a0 45)).bind fun q9 => ((f_X11_rowTold fu S q9 a0 x2 (q9 a0 45)).bind fun q12 => (some ((q12.1, q12.2)))) else some ((((-9) : Int32), q5)))
set_option maxRecDepth 100000 in
set_option maxHeartbeats 4000000 in
theorem gg_X11_roster {E : EV} (fu : Nat) (S0 : Sk) (I0 : II) (a0 : Nat) (x1 : Int32) (x2 : Int32) (ht0 : tyO S0 11 a0) : GG E i_X11_roster (enM E i_X11_roster S0 (po_X11_roster S0 I0)) S0 I0 (0, 0) 0 [(0, vA (a0 + 1)), (1, vI x1), (2, vI x2)] [] (f_X11_roster fu S0 I0 a0 x1 x2) := by
  unfold f_X11_roster
  refine g_iload_n (dk D_X11_roster 0 rfl) rfl ?_
  refine h_callS (st := []) (c_X11_isDay (E := E) S0 I0 x1) cl_RX11_200 rfl rfl (by decide) (Nat.le_of_ble_eq_true rfl) (dk D_X11_roster 1 rfl) ?_
  refine g_if_ne (tgt := 10) (dk D_X11_roster 2 rfl) rfl (fun hc2 => ?_) (fun hc2 => ?_)
  · refine g_iload_n (dk D_X11_roster 5 rfl) rfl ?_
    refine g_i2l (dk D_X11_roster 6 rfl) ?_
    refine g_ldc2 (dk D_X11_roster 7 rfl) lk_RX11_342 ?_
    refine g_aload_n (dk D_X11_roster 8 rfl) rfl ?_
    refine g_getIt fl_RX11_172 (by decide) ht0 (dk D_X11_roster 9 rfl) ?_
    refine g_i2l (dk D_X11_roster 10 rfl) ?_
    refine g_lconst (v := (1 : Int64)) (dk D_X11_roster 11 rfl) rfl ?_
    refine g_lsub (dk D_X11_roster 12 rfl) ?_
    refine h_callS (st := []) (c_X11_in (E := E) S0 I0 x2.toInt64 ((-1) : Int64) ((((I0 a0 4)).toInt64) - (1 : Int64))) cl_RX11_132 rfl rfl (by decide) (Nat.le_of_ble_eq_true rfl) (dk D_X11_roster 13 rfl) ?_
    refine g_if_ne (tgt := 30) (dk D_X11_roster 14 rfl) rfl (fun hc4 => ?_) (fun hc4 => ?_)
    · refine g_aload_n (dk D_X11_roster 17 rfl) rfl ?_
      refine g_iload_n (dk D_X11_roster 18 rfl) rfl ?_
      refine g_bind (fun q5 hq6 => ?_)
      refine h_callVt (st := []) (c_X11_layRuns (E := E) fu S0 I0 a0 x1 q5 hq6 (ht0)) cl_RX11_344 ht0 rfl rfl (by decide) (Nat.le_of_ble_eq_true rfl) (dk D_X11_roster 19 rfl) ?_
      refine g_aload_n (dk D_X11_roster 20 rfl) rfl ?_
      refine g_getIt fl_RX11_317 (by decide) ht0 (dk D_X11_roster 21 rfl) ?_
      refine g_aload_n (dk D_X11_roster 22 rfl) rfl ?_
      refine g_getIt fl_RX11_354 (by decide) ht0 (dk D_X11_roster 23 rfl) ?_
      refine g_icmp_le (tgt := 49) (dk D_X11_roster 24 rfl) rfl (fun hc8 => ?_) (fun hc8 => ?_)
      · refine g_aload_n (dk D_X11_roster 27 rfl) rfl ?_
        refine g_iconst (v := (1 : Int32)) (dk D_X11_roster 28 rfl) rfl ?_
        refine g_aload_n (dk D_X11_roster 29 rfl) rfl ?_
        refine g_getIt fl_RX11_354 (by decide) ht0 (dk D_X11_roster 30 rfl) ?_
        refine g_bind (fun q9 hq10 => ?_)
        refine h_callVt (st := []) (c_X11_findRow (E := E) fu S0 q5 a0 (1 : Int32) (q5 a0 45) q9 hq10 (ht0)) cl_RX11_347 ht0 rfl rfl (by decide) (Nat.le_of_ble_eq_true rfl) (dk D_X11_roster 31 rfl) ?_
        refine g_aload_n (dk D_X11_roster 32 rfl) rfl ?_
        refine g_iload_n (dk D_X11_roster 33 rfl) rfl ?_
        refine g_aload_n (dk D_X11_roster 34 rfl) rfl ?_
        refine g_getIt fl_RX11_354 (by decide) ht0 (dk D_X11_roster 35 rfl) ?_
        refine g_bind (fun q12 hq13 => ?_)
        refine h_callVt (st := []) (c_X11_rowTold (E := E) fu S0 q9 a0 x2 (q9 a0 45) q12 hq13 (ht0)) cl_RX11_351 ht0 rfl rfl (by decide) (Nat.le_of_ble_eq_true rfl) (dk D_X11_roster 36 rfl) ?_
        exact g_ireturn rfl rfl Sx.rf rfl (by decide) (by decide) (dk D_X11_roster 37 rfl)
      · refine g_bipush (v := ((-9) : Int32)) (dk D_X11_roster 25 rfl) rfl ?_
        exact g_ireturn rfl rfl Sx.rf rfl (by decide) (by decide) (dk D_X11_roster 26 rfl)
    · refine g_iconst (v := ((-1) : Int32)) (dk D_X11_roster 15 rfl) rfl ?_
      exact g_ireturn rfl rfl Sx.rf rfl (by decide) (by decide) (dk D_X11_roster 16 rfl)
  · refine g_bipush (v := ((-2) : Int32)) (dk D_X11_roster 3 rfl) rfl ?_
    exact g_ireturn rfl rfl Sx.rf rfl (by decide) (by decide) (dk D_X11_roster 4 rfl)
theorem c_X11_roster {E : EV} (fu : Nat) (S0 : Sk) (I0 : II) (a0 : Nat) (x1 : Int32) (x2 : Int32) (r : Int32 × II) (h : f_X11_roster fu S0 I0 a0 x1 x2 = some r) (ht0 : tyO S0 11 a0) : MX E yX11_roster i_X11_roster S0 I0 [vA (a0 + 1), vI x1, vI x2] (po_X11_roster S0 I0 r) :=
  MX.of h (by decide) rfl rfl (Nat.le_of_ble_eq_true rfl) (gg_X11_roster fu S0 I0 a0 x1 x2 ht0)
theorem fl_RX11_357 : FL RX11 357 11 47 := ⟨RX11, TX11, 57, rfl, by decide, rfl, by decide, (gm 1025 (by decide +kernel) (by decide +kernel)), inG11⟩
def tb_X11_boardMany : List (Nat × Instr × Nat) := [(0, .iconst 0, 1), (1, .istore_n 1, 1), (2, .iconst 0, 1), (3, .istore_n 2, 1), (4, .iload_n 2, 1), (5, .bipush 16, 2), (7, .if_icmp .ge 20, 3), (10, .iload_n 1, 1), (11, .aload_n 0, 1), (12, .getfield 357, 3), (15, .iload_n 2, 1), (16, .ishr, 1), (17, .iconst 1, 1), (18, .iand, 1), (19, .iadd, 1), (20, .istore_n 1, 1), (21, .iinc 2 1, 3), (24, .goto (-20), 3), (27, .iload_n 1, 1), (28, .ireturn, 1)]
def i_X11_boardMany : MI := (RX11, cX11_boardMany, 3, (some .int), "boardMany", { frames := 0, cells := 0, slots := 0, locals := 0 })
theorem D_X11_boardMany : tbOK (i_X11_boardMany).2.1 tb_X11_boardMany := by show ∀ q ∈ tb_X11_boardMany, decode cX11_boardMany q.1 = .ok (q.2.1, q.2.2); decide +kernel
def po_X11_boardMany (S : Sk) (I : II) (r : Int32) : Option LV × Sk × II := (some (vI r), S, I)
def lp_X11_boardMany_4 (fu : Nat) (S : Sk) (I : II) (a0 : Nat) (self4 : Int32 → Int32 → Option (Int32)) (x1 : Int32) (x2 : Int32) : Option (Int32) :=
  if (16 : Int32) ≤ x2 then some (x1) else lt (x1 + (((I a0 47) >>> (x2 &&& 31)) &&& (1 : Int32))) fun x1_2 => (self4 x1_2 (x2 + (1 : Int32)))
def f_X11_boardMany (fu : Nat) (S : Sk) (I : II) (a0 : Nat) : Option (Int32) :=
  fix2 (lp_X11_boardMany_4 fu S I a0) fu (0 : Int32) (0 : Int32)
set_option maxRecDepth 100000 in
set_option maxHeartbeats 4000000 in
theorem gg_X11_boardMany {E : EV} (fu : Nat) (S0 : Sk) (I0 : II) (a0 : Nat) (ht0 : tyO S0 11 a0) : GG E i_X11_boardMany (enM E i_X11_boardMany S0 (po_X11_boardMany S0 I0)) S0 I0 (0, 0) 0 [(0, vA (a0 + 1))] [] (f_X11_boardMany fu S0 I0 a0) := by
  have hl4 : ∀ (nn : Nat) (x1 : Int32) (x2 : Int32), True → GG E i_X11_boardMany (enM E i_X11_boardMany S0 (po_X11_boardMany S0 I0)) S0 I0 (0, 0) 4 [(0, vA (a0 + 1)), (1, vI x1), (2, vI x2)] [] (fix2 (lp_X11_boardMany_4 fu S0 I0 a0) nn x1 x2) := by
    refine g_fix2 (fun _ _ => S0) (fun _ _ => I0) (fun x1 x2 => [(0, vA (a0 + 1)), (1, vI x1), (2, vI x2)]) (fun x1 x2 => True) ?_
    intro self4 hself4 x1 x2 hinv
    unfold lp_X11_boardMany_4
    refine g_iload_n (dk D_X11_boardMany 4 rfl) rfl ?_
    refine g_bipush (v := (16 : Int32)) (dk D_X11_boardMany 5 rfl) rfl ?_
    refine g_icmp_ge (tgt := 27) (dk D_X11_boardMany 6 rfl) rfl (fun hc1 => ?_) (fun hc1 => ?_)
    · refine g_iload_n (dk D_X11_boardMany 18 rfl) rfl ?_
      exact g_ireturn rfl rfl Sx.rf rfl (by decide) (by decide) (dk D_X11_boardMany 19 rfl)
    · refine g_iload_n (dk D_X11_boardMany 7 rfl) rfl ?_
      refine g_aload_n (dk D_X11_boardMany 8 rfl) rfl ?_
      refine g_getIt fl_RX11_357 (by decide) ht0 (dk D_X11_boardMany 9 rfl) ?_
      refine g_iload_n (dk D_X11_boardMany 10 rfl) rfl ?_
      refine g_ishr (dk D_X11_boardMany 11 rfl) ?_
      refine g_iconst (v := (1 : Int32)) (dk D_X11_boardMany 12 rfl) rfl ?_
      refine g_iand (dk D_X11_boardMany 13 rfl) ?_
      refine g_iadd (dk D_X11_boardMany 14 rfl) ?_
      refine g_ltV (fun x1_2 ex1_2 => ?_)
      refine g_istore_n (L' := [(0, vA (a0 + 1)), (1, vI x1_2), (2, vI x2)]) (dk D_X11_boardMany 15 rfl) (Nat.le_of_ble_eq_true rfl) rfl ?_
      refine g_iinc (v := (1 : Int32)) (L' := [(0, vA (a0 + 1)), (1, vI x1_2), (2, vI (x2 + (1 : Int32)))]) (dk D_X11_boardMany 16 rfl) rfl rfl (Nat.le_of_ble_eq_true rfl) rfl ?_
      refine g_goto (tgt := 4) (dk D_X11_boardMany 17 rfl) rfl ?_
      exact hself4 x1_2 (x2 + (1 : Int32)) trivial
  unfold f_X11_boardMany
  refine g_iconst (v := (0 : Int32)) (dk D_X11_boardMany 0 rfl) rfl ?_
  refine g_istore_n (L' := [(0, vA (a0 + 1)), (1, vI (0 : Int32))]) (dk D_X11_boardMany 1 rfl) (Nat.le_of_ble_eq_true rfl) rfl ?_
  refine g_iconst (v := (0 : Int32)) (dk D_X11_boardMany 2 rfl) rfl ?_
  refine g_istore_n (L' := [(0, vA (a0 + 1)), (1, vI (0 : Int32)), (2, vI (0 : Int32))]) (dk D_X11_boardMany 3 rfl) (Nat.le_of_ble_eq_true rfl) rfl ?_
  exact hl4 fu (0 : Int32) (0 : Int32) trivial
theorem c_X11_boardMany {E : EV} (fu : Nat) (S0 : Sk) (I0 : II) (a0 : Nat) (r : Int32) (h : f_X11_boardMany fu S0 I0 a0 = some r) (ht0 : tyO S0 11 a0) : MX E yX11_boardMany i_X11_boardMany S0 I0 [vA (a0 + 1)] (po_X11_boardMany S0 I0 r) :=
  MX.of h (by decide) rfl rfl (Nat.le_of_ble_eq_true rfl) (gg_X11_boardMany fu S0 I0 a0 ht0)
theorem fp_11_47 : FP 11 47 (tyX11 47) false := ⟨RX11, TX11, 57, tyX11, rfl, tyX11_ok, nmX11, rfl, rfl, rfl⟩
theorem cl_RX11_360 : CV0 RX11 360 yX11_boardMany i_X11_boardMany 0 11 := ⟨⟨(gm 1429 (by decide +kernel) (by decide +kernel)), (gm 72 (by decide +kernel) (by decide +kernel)), ((gm 1432 (by decide +kernel) (by decide +kernel))), by decide +kernel, by decide +kernel, by decide +kernel⟩, ⟨(gm 1431 (by decide +kernel) (by decide +kernel)), (gm 58 (by decide +kernel) (by decide +kernel))⟩, rfl, by decide⟩
def tb_X11_board : List (Nat × Instr × Nat) := [(0, .aload_n 0, 1), (1, .iload_n 1, 1), (2, .invokevirtual 164, 3), (5, .ifCond .eq 5, 3), (8, .iconst (-1), 1), (9, .ireturn, 1), (10, .aload_n 0, 1), (11, .getfield 357, 3), (14, .iload_n 1, 1), (15, .invokestatic 263, 3), (18, .iload_n 2, 1), (19, .if_icmp .ne 5, 3), (22, .iconst 0, 1), (23, .ireturn, 1), (24, .iload_n 2, 1), (25, .ifCond .eq 15, 3), (28, .aload_n 0, 1), (29, .invokevirtual 360, 3), (32, .bipush 6, 2), (34, .if_icmp .ne 6, 3), (37, .bipush (-4), 2), (39, .ireturn, 1), (40, .aload_n 0, 1), (41, .dup, 1), (42, .getfield 357, 3), (45, .iconst 1, 1), (46, .iload_n 1, 1), (47, .ishl, 1), (48, .ixor, 1), (49, .putfield 357, 3), (52, .iconst 1, 1), (53, .ireturn, 1)]
def i_X11_board : MI := (RX11, cX11_board, 3, (some .int), "board", { frames := 2, cells := 0, slots := 0, locals := 46 })
theorem D_X11_board : tbOK (i_X11_board).2.1 tb_X11_board := by show ∀ q ∈ tb_X11_board, decode cX11_board q.1 = .ok (q.2.1, q.2.2); decide +kernel
def po_X11_board (S : Sk) (I : II) (r : Int32 × II) : Option LV × Sk × II := (some (vI r.1), S, r.2)
def jn_X11_board_40 (fu : Nat) (S : Sk) (I : II) (a0 : Nat) (x1 : Int32) : Option (Int32 × II) :=
  lt (upI I a0 47 ((I a0 47) ^^^ ((1 : Int32) <<< (x1 &&& 31)))) fun I1 => (some (((1 : Int32), I1)))
def f_X11_board (fu : Nat) (S : Sk) (I : II) (a0 : Nat) (x1 : Int32) (x2 : Int32) : Option (Int32 × II) :=
  if (t_X11_noStop I a0 x1) = 0 then if (t_X11_hasBit (I a0 47) x1) = x2 then some (((0 : Int32), I)) else if x2 = 0 then jn_X11_board_40 fu S I a0 x1 else (f_X11_boardMany fu S I a0).bind fun q7 => (if q7 = (6 : Int32) then some ((((-4) : Int32), I)) else jn_X11_board_40 fu S I a0 x1) else some ((((-1) : Int32), I))
set_option maxRecDepth 100000 in
set_option maxHeartbeats 4000000 in
theorem gg_X11_board {E : EV} (fu : Nat) (S0 : Sk) (I0 : II) (a0 : Nat) (x1 : Int32) (x2 : Int32) (ht0 : tyO S0 11 a0) : GG E i_X11_board (enM E i_X11_board S0 (po_X11_board S0 I0)) S0 I0 (0, 0) 0 [(0, vA (a0 + 1)), (1, vI x1), (2, vI x2)] [] (f_X11_board fu S0 I0 a0 x1 x2) := by
  have hj40 : ∀ (I : II), GG E i_X11_board (enM E i_X11_board S0 (po_X11_board S0 I0)) S0 I (0, 0) 40 [(0, vA (a0 + 1)), (1, vI x1)] [] (jn_X11_board_40 fu S0 I a0 x1) := by
    intro I  
    unfold jn_X11_board_40
    refine g_aload_n (dk D_X11_board 22 rfl) rfl ?_
    refine g_dup (dk D_X11_board 23 rfl) rfl ?_
    refine g_getIt fl_RX11_357 (by decide) ht0 (dk D_X11_board 24 rfl) ?_
    refine g_iconst (v := (1 : Int32)) (dk D_X11_board 25 rfl) rfl ?_
    refine g_iload_n (dk D_X11_board 26 rfl) rfl ?_
    refine g_ishl (dk D_X11_board 27 rfl) ?_
    refine g_ixor (dk D_X11_board 28 rfl) ?_
    refine g_putIt fl_RX11_357 fp_11_47 (fun h => (by cases h)) (by decide) rfl rfl ht0 (dk D_X11_board 29 rfl) ?_
    refine g_ltI (fun I1 eI1 => ?_)
    refine g_iconst (v := (1 : Int32)) (dk D_X11_board 30 rfl) rfl ?_
    exact g_ireturn rfl rfl Sx.rf rfl (by decide) (by decide) (dk D_X11_board 31 rfl)
  unfold f_X11_board
  refine g_aload_n (dk D_X11_board 0 rfl) rfl ?_
  refine g_iload_n (dk D_X11_board 1 rfl) rfl ?_
  refine h_callVt (st := []) (c_X11_noStop (E := E) S0 I0 a0 x1 (ht0)) cl_RX11_164 ht0 rfl rfl (by decide) (Nat.le_of_ble_eq_true rfl) (dk D_X11_board 2 rfl) ?_
  refine g_if_eq (tgt := 10) (dk D_X11_board 3 rfl) rfl (fun hc3 => ?_) (fun hc3 => ?_)
  · refine g_aload_n (dk D_X11_board 6 rfl) rfl ?_
    refine g_getIt fl_RX11_357 (by decide) ht0 (dk D_X11_board 7 rfl) ?_
    refine g_iload_n (dk D_X11_board 8 rfl) rfl ?_
    refine h_callS (st := []) (c_X11_hasBit (E := E) S0 I0 (I0 a0 47) x1) cl_RX11_263 rfl rfl (by decide) (Nat.le_of_ble_eq_true rfl) (dk D_X11_board 9 rfl) ?_
    refine g_iload_n (dk D_X11_board 10 rfl) rfl ?_
    refine g_icmp_ne (tgt := 24) (dk D_X11_board 11 rfl) rfl (fun hc5 => ?_) (fun hc5 => ?_)
    · refine g_iload_n (dk D_X11_board 14 rfl) rfl ?_
      refine g_if_eq (tgt := 40) (dk D_X11_board 15 rfl) rfl (fun hc6 => ?_) (fun hc6 => ?_)
      · refine g_Lp [0, 1] rfl ?_
        exact hj40 I0
      · refine g_aload_n (dk D_X11_board 16 rfl) rfl ?_
        refine g_bind (fun q7 hq8 => ?_)
        refine h_callVt (st := []) (c_X11_boardMany (E := E) fu S0 I0 a0 q7 hq8 (ht0)) cl_RX11_360 ht0 rfl rfl (by decide) (Nat.le_of_ble_eq_true rfl) (dk D_X11_board 17 rfl) ?_
        refine g_bipush (v := (6 : Int32)) (dk D_X11_board 18 rfl) rfl ?_
        refine g_icmp_ne (tgt := 40) (dk D_X11_board 19 rfl) rfl (fun hc10 => ?_) (fun hc10 => ?_)
        · refine g_Lp [0, 1] rfl ?_
          exact hj40 I0
        · refine g_bipush (v := ((-4) : Int32)) (dk D_X11_board 20 rfl) rfl ?_
          exact g_ireturn rfl rfl Sx.rf rfl (by decide) (by decide) (dk D_X11_board 21 rfl)
    · refine g_iconst (v := (0 : Int32)) (dk D_X11_board 12 rfl) rfl ?_
      exact g_ireturn rfl rfl Sx.rf rfl (by decide) (by decide) (dk D_X11_board 13 rfl)
  · refine g_iconst (v := ((-1) : Int32)) (dk D_X11_board 4 rfl) rfl ?_
    exact g_ireturn rfl rfl Sx.rf rfl (by decide) (by decide) (dk D_X11_board 5 rfl)
theorem c_X11_board {E : EV} (fu : Nat) (S0 : Sk) (I0 : II) (a0 : Nat) (x1 : Int32) (x2 : Int32) (r : Int32 × II) (h : f_X11_board fu S0 I0 a0 x1 x2 = some r) (ht0 : tyO S0 11 a0) : MX E yX11_board i_X11_board S0 I0 [vA (a0 + 1), vI x1, vI x2] (po_X11_board S0 I0 r) :=
  MX.of h (by decide) rfl rfl (Nat.le_of_ble_eq_true rfl) (gg_X11_board fu S0 I0 a0 x1 x2 ht0)
def tb_X11_layBoards : List (Nat × Instr × Nat) := [(0, .iconst 0, 1), (1, .istore_n 2, 1), (2, .iconst 0, 1), (3, .istore_n 3, 1), (4, .iload_n 3, 1), (5, .aload_n 0, 1), (6, .getfield 156, 3), (9, .if_icmp .ge 242, 3), (12, .aload_n 0, 1), (13, .getfield 357, 3), (16, .iload_n 3, 1), (17, .invokestatic 263, 3), (20, .ifCond .eq 225, 3), (23, .aload_n 0, 1), (24, .getfield 103, 3), (27, .iload_n 2, 1), (28, .iload_n 3, 1), (29, .iastore, 1), (30, .aload_n 0, 1), (31, .getfield 106, 3), (34, .iload_n 2, 1), (35, .iconst 0, 1), (36, .iastore, 1), (37, .aload_n 0, 1), (38, .getfield 109, 3), (41, .iload_n 2, 1), (42, .ldc 216, 2), (44, .iastore, 1), (45, .iconst 0, 1), (46, .istore 4, 2), (48, .iload 4, 2), (50, .aload_n 0, 1), (51, .getfield 172, 3), (54, .if_icmp .ge 188, 3), (57, .iconst 0, 1), (58, .istore 5, 2), (60, .iload 5, 2), (62, .aload_n 0, 1), (63, .getfield 19, 3), (66, .iload 4, 2), (68, .iaload, 1), (69, .if_icmp .ge 167, 3), (72, .aload_n 0, 1), (73, .getfield 22, 3), (76, .bipush 8, 2), (78, .iload 4, 2), (80, .imul, 1), (81, .iload 5, 2), (83, .iadd, 1), (84, .iaload, 1), (85, .iload_n 3, 1), (86, .if_icmp .ne 144, 3), (89, .aload_n 0, 1), (90, .getfield 28, 3), (93, .iload 4, 2), (95, .iaload, 1), (96, .aload_n 0, 1), (97, .iload 4, 2), (99, .invokevirtual 206, 3), (102, .iconst 1, 1), (103, .isub, 1), (104, .aload_n 0, 1), (105, .getfield 31, 3), (108, .iload 4, 2), (110, .iaload, 1), (111, .imul, 1), (112, .iadd, 1), (113, .aload_n 0, 1), (114, .getfield 25, 3), (117, .bipush 8, 2), (119, .iload 4, 2), (121, .imul, 1), (122, .iload 5, 2), (124, .iadd, 1), (125, .iaload, 1), (126, .iadd, 1), (127, .istore 6, 2), (129, .sipush 1440, 3), (132, .aload_n 0, 1), (133, .getfield 28, 3), (136, .iload 4, 2), (138, .iaload, 1), (139, .iadd, 1), (140, .aload_n 0, 1), (141, .getfield 25, 3), (144, .bipush 8, 2), (146, .iload 4, 2), (148, .imul, 1), (149, .iload 5, 2), (151, .iadd, 1), (152, .iaload, 1), (153, .iadd, 1), (154, .istore 7, 2), (156, .aload_n 0, 1), (157, .getfield 106, 3), (160, .iload_n 2, 1), (161, .aload_n 0, 1), (162, .iload 4, 2), (164, .iload_n 1, 1), (165, .invokevirtual 213, 3), (168, .ifCond .eq 17, 3), (171, .aload_n 0, 1), (172, .getfield 106, 3), (175, .iload_n 2, 1), (176, .iaload, 1), (177, .iload 6, 2), (179, .invokestatic 194, 3), (182, .goto 9, 3), (185, .aload_n 0, 1), (186, .getfield 106, 3), (189, .iload_n 2, 1), (190, .iaload, 1), (191, .iastore, 1), (192, .aload_n 0, 1), (193, .getfield 109, 3), (196, .iload_n 2, 1), (197, .aload_n 0, 1), (198, .iload 4, 2), (200, .iload_n 1, 1), (201, .iconst 1, 1), (202, .iadd, 1), (203, .invokevirtual 213, 3), (206, .ifCond .eq 17, 3), (209, .aload_n 0, 1), (210, .getfield 109, 3), (213, .iload_n 2, 1), (214, .iaload, 1), (215, .iload 7, 2), (217, .invokestatic 257, 3), (220, .goto 9, 3), (223, .aload_n 0, 1), (224, .getfield 109, 3), (227, .iload_n 2, 1), (228, .iaload, 1), (229, .iastore, 1), (230, .iinc 5 1, 3), (233, .goto (-173), 3), (236, .iinc 4 1, 3), (239, .goto (-191), 3), (242, .iinc 2 1, 3), (245, .iinc 3 1, 3), (248, .goto (-244), 3), (251, .return_, 1)]
def i_X11_layBoards : MI := (RX11, cX11_layBoards, 8, none, "layBoards", { frames := 2, cells := 0, slots := 0, locals := 47 })
theorem D_X11_layBoards : tbOK (i_X11_layBoards).2.1 tb_X11_layBoards := by show ∀ q ∈ tb_X11_layBoards, decode cX11_layBoards q.1 = .ok (q.2.1, q.2.2); decide +kernel
def po_X11_layBoards (S : Sk) (I : II) (r : II) : Option LV × Sk × II := (none, S, r)
def jn_X11_layBoards_245 (fu : Nat) (S : Sk) (I : II) (self4 : Int32 → Int32 → II → Option (II)) (a0 : Nat) (x1 : Int32) (x2 : Int32) (x3 : Int32) : Option (II) :=
  self4 x2 (x3 + (1 : Int32)) I
def jn_X11_layBoards_230 (fu : Nat) (S : Sk) (I : II) (self4 : Int32 → Int32 → II → Option (II)) (self48 : Int32 → II → Option (II)) (self60 : Int32 → II → Option (II)) (a0 : Nat) (x1 : Int32) (x2 : Int32) (x3 : Int32) (x4 : Int32) (x5 : Int32) : Option (II) :=
  self60 (x5 + (1 : Int32)) I
def jn_X11_layBoards_229 (fu : Nat) (S : Sk) (I : II) (self4 : Int32 → Int32 → II → Option (II)) (self48 : Int32 → II → Option (II)) (self60 : Int32 → II → Option (II)) (a0 : Nat) (x1 : Int32) (x2 : Int32) (x3 : Int32) (x4 : Int32) (x5 : Int32) (q0 : Nat) (s1 : Int32) (s2 : Int32) : Option (II) :=
  gd (inb S q0 s1) (lt (wr I q0 s1 s2) fun I2 => (jn_X11_layBoards_230 fu S I2 self4 self48 self60 a0 x1 x2 x3 x4 x5))
def jn_X11_layBoards_191 (fu : Nat) (S : Sk) (I : II) (self4 : Int32 → Int32 → II → Option (II)) (self48 : Int32 → II → Option (II)) (self60 : Int32 → II → Option (II)) (a0 : Nat) (x1 : Int32) (x2 : Int32) (x3 : Int32) (x4 : Int32) (x5 : Int32) (x7 : Int32) (q0 : Nat) (s1 : Int32) (s2 : Int32) : Option (II) :=
  gd (inb S q0 s1) (lt (wr I q0 s1 s2) fun I4 => ((f_X11_doesRun fu S I4 a0 x4 (x1 + (1 : Int32))).bind fun q6 => (if q6 = 0 then gd (inb S (S.1 a0 50) x2) (jn_X11_layBoards_229 fu S I4 self4 self48 self60 a0 x1 x2 x3 x4 x5 (S.1 a0 50) x2 (rd I4 (S.1 a0 50) x2)) else gd (inb S (S.1 a0 50) x2) (jn_X11_layBoards_229 fu S I4 self4 self48 self60 a0 x1 x2 x3 x4 x5 (S.1 a0 50) x2 (t_X11_lesser (rd I4 (S.1 a0 50) x2) x7)))))
def lp_X11_layBoards_60 (fu : Nat) (S : Sk) (self4 : Int32 → Int32 → II → Option (II)) (self48 : Int32 → II → Option (II)) (a0 : Nat) (x1 : Int32) (x2 : Int32) (x3 : Int32) (x4 : Int32) (self60 : Int32 → II → Option (II)) (x5 : Int32) (I : II) : Option (II) :=
  gd (inb S (S.1 a0 6) x4) (if (rd I (S.1 a0 6) x4) ≤ x5 then self48 (x4 + (1 : Int32)) I else gd (inb S (S.1 a0 7) (((8 : Int32) * x4) + x5)) (if (rd I (S.1 a0 7) (((8 : Int32) * x4) + x5)) = x3 then gd (inb S (S.1 a0 9) x4) ((f_X11_buses fu S I a0 x4).bind fun q23 => (gd (inb S (S.1 a0 10) x4) (gd (inb S (S.1 a0 8) (((8 : Int32) * x4) + x5)) (lt (((rd I (S.1 a0 9) x4) + ((q23 - (1 : Int32)) * (rd I (S.1 a0 10) x4))) + (rd I (S.1 a0 8) (((8 : Int32) * x4) + x5))) fun x6_30 => (lt (((1440 : Int32) + (rd I (S.1 a0 9) x4)) + (rd I (S.1 a0 8) (((8 : Int32) * x4) + x5))) fun x7_33 => ((f_X11_doesRun fu S I a0 x4 x1).bind fun q35 => (if q35 = 0 then gd (inb S (S.1 a0 49) x2) (jn_X11_layBoards_191 fu S I self4 self48 self60 a0 x1 x2 x3 x4 x5 x7_33 (S.1 a0 49) x2 (rd I (S.1 a0 49) x2)) else gd (inb S (S.1 a0 49) x2) (jn_X11_layBoards_191 fu S I self4 self48 self60 a0 x1 x2 x3 x4 x5 x7_33 (S.1 a0 49) x2 (t_X11_greater (rd I (S.1 a0 49) x2) x6_30))))))))) else jn_X11_layBoards_230 fu S I self4 self48 self60 a0 x1 x2 x3 x4 x5))
def lp_X11_layBoards_48 (fu : Nat) (S : Sk) (self4 : Int32 → Int32 → II → Option (II)) (a0 : Nat) (x1 : Int32) (x2 : Int32) (x3 : Int32) (self48 : Int32 → II → Option (II)) (x4 : Int32) (I : II) : Option (II) :=
  if (I a0 4) ≤ x4 then jn_X11_layBoards_245 fu S I self4 a0 x1 (x2 + (1 : Int32)) x3 else fix2 (lp_X11_layBoards_60 fu S self4 self48 a0 x1 x2 x3 x4) fu (0 : Int32) I
def lp_X11_layBoards_4 (fu : Nat) (S : Sk) (a0 : Nat) (x1 : Int32) (self4 : Int32 → Int32 → II → Option (II)) (x2 : Int32) (x3 : Int32) (I : II) : Option (II) :=
  if (I a0 1) ≤ x3 then some (I) else if (t_X11_hasBit (I a0 47) x3) = 0 then jn_X11_layBoards_245 fu S I self4 a0 x1 x2 x3 else gd (inb S (S.1 a0 48) x2) (lt (wr I (S.1 a0 48) x2 x3) fun I50 => (gd (inb S (S.1 a0 49) x2) (lt (wr I50 (S.1 a0 49) x2 (0 : Int32)) fun I53 => (gd (inb S (S.1 a0 50) x2) (lt (wr I53 (S.1 a0 50) x2 (1000000 : Int32)) fun I56 => (fix2 (lp_X11_layBoards_48 fu S self4 a0 x1 x2 x3) fu (0 : Int32) I56))))))
def f_X11_layBoards (fu : Nat) (S : Sk) (I : II) (a0 : Nat) (x1 : Int32) : Option (II) :=
  fix3 (lp_X11_layBoards_4 fu S a0 x1) fu (0 : Int32) (0 : Int32) I
set_option maxRecDepth 100000 in
set_option maxHeartbeats 4000000 in
theorem gg_X11_layBoards {E : EV} (fu : Nat) (S0 : Sk) (I0 : II) (a0 : Nat) (x1 : Int32) (ht0 : tyO S0 11 a0) : GG E i_X11_layBoards (enM E i_X11_layBoards S0 (po_X11_layBoards S0 I0)) S0 I0 (0, 0) 0 [(0, vA (a0 + 1)), (1, vI x1)] [] (f_X11_layBoards fu S0 I0 a0 x1) := by
  have hl4 : ∀ (nn : Nat) (x2 : Int32) (x3 : Int32) (I : II), True → GG E i_X11_layBoards (enM E i_X11_layBoards S0 (po_X11_layBoards S0 I0)) S0 I (0, 0) 4 [(0, vA (a0 + 1)), (1, vI x1), (2, vI x2), (3, vI x3)] [] (fix3 (lp_X11_layBoards_4 fu S0 a0 x1) nn x2 x3 I) := by
    refine g_fix3 (fun _ _ _ => S0) (fun x2 x3 I => I) (fun x2 x3 I => [(0, vA (a0 + 1)), (1, vI x1), (2, vI x2), (3, vI x3)]) (fun x2 x3 I => True) ?_
    intro self4 hself4 x2 x3 I hinv
    have hj245 : ∀ (I : II) (x2 : Int32) (x3 : Int32), GG E i_X11_layBoards (enM E i_X11_layBoards S0 (po_X11_layBoards S0 I0)) S0 I (0, 0) 245 [(0, vA (a0 + 1)), (1, vI x1), (2, vI x2), (3, vI x3)] [] (jn_X11_layBoards_245 fu S0 I self4 a0 x1 x2 x3) := by
      intro I x2 x3 
      unfold jn_X11_layBoards_245
      refine g_iinc (v := (1 : Int32)) (L' := [(0, vA (a0 + 1)), (1, vI x1), (2, vI x2), (3, vI (x3 + (1 : Int32)))]) (dk D_X11_layBoards 140 rfl) rfl rfl (Nat.le_of_ble_eq_true rfl) rfl ?_
      refine g_goto (tgt := 4) (dk D_X11_layBoards 141 rfl) rfl ?_
      exact hself4 x2 (x3 + (1 : Int32)) I trivial
    have hl48 : ∀ (x2 : Int32) (x3 : Int32) (nn : Nat) (x4 : Int32) (I : II), True → GG E i_X11_layBoards (enM E i_X11_layBoards S0 (po_X11_layBoards S0 I0)) S0 I (0, 0) 48 [(0, vA (a0 + 1)), (1, vI x1), (2, vI x2), (3, vI x3), (4, vI x4)] [] (fix2 (lp_X11_layBoards_48 fu S0 self4 a0 x1 x2 x3) nn x4 I) := by
      intro x2 x3 
      refine g_fix2 (fun _ _ => S0) (fun x4 I => I) (fun x4 I => [(0, vA (a0 + 1)), (1, vI x1), (2, vI x2), (3, vI x3), (4, vI x4)]) (fun x4 I => True) ?_
      intro self48 hself48 x4 I hinv
      have hl60 : ∀ (x4 : Int32) (nn : Nat) (x5 : Int32) (I : II), True → GG E i_X11_layBoards (enM E i_X11_layBoards S0 (po_X11_layBoards S0 I0)) S0 I (0, 0) 60 [(0, vA (a0 + 1)), (1, vI x1), (2, vI x2), (3, vI x3), (4, vI x4), (5, vI x5)] [] (fix2 (lp_X11_layBoards_60 fu S0 self4 self48 a0 x1 x2 x3 x4) nn x5 I) := by
        intro x4 
        refine g_fix2 (fun _ _ => S0) (fun x5 I => I) (fun x5 I => [(0, vA (a0 + 1)), (1, vI x1), (2, vI x2), (3, vI x3), (4, vI x4), (5, vI x5)]) (fun x5 I => True) ?_
        intro self60 hself60 x5 I hinv
        have hj230 : ∀ (I : II) (x5 : Int32), GG E i_X11_layBoards (enM E i_X11_layBoards S0 (po_X11_layBoards S0 I0)) S0 I (0, 0) 230 [(0, vA (a0 + 1)), (1, vI x1), (2, vI x2), (3, vI x3), (4, vI x4), (5, vI x5)] [] (jn_X11_layBoards_230 fu S0 I self4 self48 self60 a0 x1 x2 x3 x4 x5) := by
          intro I x5 
          unfold jn_X11_layBoards_230
          refine g_iinc (v := (1 : Int32)) (L' := [(0, vA (a0 + 1)), (1, vI x1), (2, vI x2), (3, vI x3), (4, vI x4), (5, vI (x5 + (1 : Int32)))]) (dk D_X11_layBoards 135 rfl) rfl rfl (Nat.le_of_ble_eq_true rfl) rfl ?_
          refine g_goto (tgt := 60) (dk D_X11_layBoards 136 rfl) rfl ?_
          exact hself60 (x5 + (1 : Int32)) I trivial
        have hj229 : ∀ (I : II) (x5 : Int32) (q0 : Nat) (s1 : Int32) (s2 : Int32) (h_q0 : tyR S0 100 q0), GG E i_X11_layBoards (enM E i_X11_layBoards S0 (po_X11_layBoards S0 I0)) S0 I (0, 0) 229 [(0, vA (a0 + 1)), (1, vI x1), (2, vI x2), (3, vI x3), (4, vI x4), (5, vI x5)] [vI s2, vI s1, vA q0] (jn_X11_layBoards_229 fu S0 I self4 self48 self60 a0 x1 x2 x3 x4 x5 q0 s1 s2) := by
          intro I x5 q0 s1 s2 h_q0
          unfold jn_X11_layBoards_229
          refine g_gd (fun hi1 => ?_)
          refine g_iastore h_q0 hi1 (dk D_X11_layBoards 134 rfl) ?_
          refine g_ltI (fun I2 eI2 => ?_)
          exact hj230 I2 x5
        have hj191 : ∀ (I : II) (x5 : Int32) (x7 : Int32) (q0 : Nat) (s1 : Int32) (s2 : Int32) (h_q0 : tyR S0 100 q0), GG E i_X11_layBoards (enM E i_X11_layBoards S0 (po_X11_layBoards S0 I0)) S0 I (0, 0) 191 [(0, vA (a0 + 1)), (1, vI x1), (2, vI x2), (3, vI x3), (4, vI x4), (5, vI x5), (7, vI x7)] [vI s2, vI s1, vA q0] (jn_X11_layBoards_191 fu S0 I self4 self48 self60 a0 x1 x2 x3 x4 x5 x7 q0 s1 s2) := by
          intro I x5 x7 q0 s1 s2 h_q0
          unfold jn_X11_layBoards_191
          refine g_gd (fun hi3 => ?_)
          refine g_iastore h_q0 hi3 (dk D_X11_layBoards 112 rfl) ?_
          refine g_ltI (fun I4 eI4 => ?_)
          refine g_aload_n (dk D_X11_layBoards 113 rfl) rfl ?_
          refine g_getAt (t := 100) fl_RX11_109 rfl ht0 (dk D_X11_layBoards 114 rfl) (fun ht5 => ?_)
          refine g_iload_n (dk D_X11_layBoards 115 rfl) rfl ?_
          refine g_aload_n (dk D_X11_layBoards 116 rfl) rfl ?_
          refine g_iload (dk D_X11_layBoards 117 rfl) rfl ?_
          refine g_iload_n (dk D_X11_layBoards 118 rfl) rfl ?_
          refine g_iconst (v := (1 : Int32)) (dk D_X11_layBoards 119 rfl) rfl ?_
          refine g_iadd (dk D_X11_layBoards 120 rfl) ?_
          refine g_bind (fun q6 hq7 => ?_)
          refine h_callVt (st := [vI x2, vA (S0.1 a0 50)]) (c_X11_doesRun (E := E) fu S0 I4 a0 x4 (x1 + (1 : Int32)) q6 hq7 (ht0)) cl_RX11_213 ht0 rfl rfl (by decide) (Nat.le_of_ble_eq_true rfl) (dk D_X11_layBoards 121 rfl) ?_
          refine g_if_eq (tgt := 223) (dk D_X11_layBoards 122 rfl) rfl (fun hc9 => ?_) (fun hc9 => ?_)
          · refine g_aload_n (dk D_X11_layBoards 130 rfl) rfl ?_
            refine g_getAt (t := 100) fl_RX11_109 rfl ht0 (dk D_X11_layBoards 131 rfl) (fun ht10 => ?_)
            refine g_iload_n (dk D_X11_layBoards 132 rfl) rfl ?_
            refine g_gd (fun hi11 => ?_)
            refine g_iaload ht5 hi11 (dk D_X11_layBoards 133 rfl) ?_
            refine g_Lp [0, 1, 2, 3, 4, 5] rfl ?_
            exact hj229 I4 x5 (S0.1 a0 50) x2 (rd I4 (S0.1 a0 50) x2) ht5
          · refine g_aload_n (dk D_X11_layBoards 123 rfl) rfl ?_
            refine g_getAt (t := 100) fl_RX11_109 rfl ht0 (dk D_X11_layBoards 124 rfl) (fun ht12 => ?_)
            refine g_iload_n (dk D_X11_layBoards 125 rfl) rfl ?_
            refine g_gd (fun hi13 => ?_)
            refine g_iaload ht5 hi13 (dk D_X11_layBoards 126 rfl) ?_
            refine g_iload (dk D_X11_layBoards 127 rfl) rfl ?_
            refine h_callS (st := [vI x2, vA (S0.1 a0 50)]) (c_X11_lesser (E := E) S0 I4 (rd I4 (S0.1 a0 50) x2) x7) cl_RX11_257 rfl rfl (by decide) (Nat.le_of_ble_eq_true rfl) (dk D_X11_layBoards 128 rfl) ?_
            refine g_goto (tgt := 229) (dk D_X11_layBoards 129 rfl) rfl ?_
            refine g_Lp [0, 1, 2, 3, 4, 5] rfl ?_
            exact hj229 I4 x5 (S0.1 a0 50) x2 (t_X11_lesser (rd I4 (S0.1 a0 50) x2) x7) ht5
        unfold lp_X11_layBoards_60
        refine g_iload (dk D_X11_layBoards 36 rfl) rfl ?_
        refine g_aload_n (dk D_X11_layBoards 37 rfl) rfl ?_
        refine g_getAt (t := 100) fl_RX11_19 rfl ht0 (dk D_X11_layBoards 38 rfl) (fun ht15 => ?_)
        refine g_iload (dk D_X11_layBoards 39 rfl) rfl ?_
        refine g_gd (fun hi16 => ?_)
        refine g_iaload ht15 hi16 (dk D_X11_layBoards 40 rfl) ?_
        refine g_icmp_ge (tgt := 236) (dk D_X11_layBoards 41 rfl) rfl (fun hc17 => ?_) (fun hc17 => ?_)
        · refine g_iinc (v := (1 : Int32)) (L' := [(0, vA (a0 + 1)), (1, vI x1), (2, vI x2), (3, vI x3), (4, vI (x4 + (1 : Int32))), (5, vI x5)]) (dk D_X11_layBoards 137 rfl) rfl rfl (Nat.le_of_ble_eq_true rfl) rfl ?_
          refine g_goto (tgt := 48) (dk D_X11_layBoards 138 rfl) rfl ?_
          refine g_Lp [0, 1, 2, 3, 4] rfl ?_
          exact hself48 (x4 + (1 : Int32)) I trivial
        · refine g_aload_n (dk D_X11_layBoards 42 rfl) rfl ?_
          refine g_getAt (t := 100) fl_RX11_22 rfl ht0 (dk D_X11_layBoards 43 rfl) (fun ht18 => ?_)
          refine g_bipush (v := (8 : Int32)) (dk D_X11_layBoards 44 rfl) rfl ?_
          refine g_iload (dk D_X11_layBoards 45 rfl) rfl ?_
          refine g_imul (dk D_X11_layBoards 46 rfl) ?_
          refine g_iload (dk D_X11_layBoards 47 rfl) rfl ?_
          refine g_iadd (dk D_X11_layBoards 48 rfl) ?_
          refine g_gd (fun hi19 => ?_)
          refine g_iaload ht18 hi19 (dk D_X11_layBoards 49 rfl) ?_
          refine g_iload_n (dk D_X11_layBoards 50 rfl) rfl ?_
          refine g_icmp_ne (tgt := 230) (dk D_X11_layBoards 51 rfl) rfl (fun hc20 => ?_) (fun hc20 => ?_)
          · exact hj230 I x5
          · refine g_aload_n (dk D_X11_layBoards 52 rfl) rfl ?_
            refine g_getAt (t := 100) fl_RX11_28 rfl ht0 (dk D_X11_layBoards 53 rfl) (fun ht21 => ?_)
            refine g_iload (dk D_X11_layBoards 54 rfl) rfl ?_
            refine g_gd (fun hi22 => ?_)
            refine g_iaload ht21 hi22 (dk D_X11_layBoards 55 rfl) ?_
            refine g_aload_n (dk D_X11_layBoards 56 rfl) rfl ?_
            refine g_iload (dk D_X11_layBoards 57 rfl) rfl ?_
            refine g_bind (fun q23 hq24 => ?_)
            refine h_callVt (st := [vI (rd I (S0.1 a0 9) x4)]) (c_X11_buses (E := E) fu S0 I a0 x4 q23 hq24 (ht0)) cl_RX11_206 ht0 rfl rfl (by decide) (Nat.le_of_ble_eq_true rfl) (dk D_X11_layBoards 58 rfl) ?_
            refine g_iconst (v := (1 : Int32)) (dk D_X11_layBoards 59 rfl) rfl ?_
            refine g_isub (dk D_X11_layBoards 60 rfl) ?_
            refine g_aload_n (dk D_X11_layBoards 61 rfl) rfl ?_
            refine g_getAt (t := 100) fl_RX11_31 rfl ht0 (dk D_X11_layBoards 62 rfl) (fun ht26 => ?_)
            refine g_iload (dk D_X11_layBoards 63 rfl) rfl ?_
            refine g_gd (fun hi27 => ?_)
            refine g_iaload ht26 hi27 (dk D_X11_layBoards 64 rfl) ?_
            refine g_imul (dk D_X11_layBoards 65 rfl) ?_
            refine g_iadd (dk D_X11_layBoards 66 rfl) ?_
            refine g_aload_n (dk D_X11_layBoards 67 rfl) rfl ?_
            refine g_getAt (t := 100) fl_RX11_25 rfl ht0 (dk D_X11_layBoards 68 rfl) (fun ht28 => ?_)
            refine g_bipush (v := (8 : Int32)) (dk D_X11_layBoards 69 rfl) rfl ?_
            refine g_iload (dk D_X11_layBoards 70 rfl) rfl ?_
            refine g_imul (dk D_X11_layBoards 71 rfl) ?_
            refine g_iload (dk D_X11_layBoards 72 rfl) rfl ?_
            refine g_iadd (dk D_X11_layBoards 73 rfl) ?_
            refine g_gd (fun hi29 => ?_)
            refine g_iaload ht28 hi29 (dk D_X11_layBoards 74 rfl) ?_
            refine g_iadd (dk D_X11_layBoards 75 rfl) ?_
            refine g_ltV (fun x6_30 ex6_30 => ?_)
            refine g_istore (L' := [(0, vA (a0 + 1)), (1, vI x1), (2, vI x2), (3, vI x3), (4, vI x4), (5, vI x5), (6, vI x6_30)]) (dk D_X11_layBoards 76 rfl) (Nat.le_of_ble_eq_true rfl) rfl ?_
            refine g_sipush (v := (1440 : Int32)) (dk D_X11_layBoards 77 rfl) rfl ?_
            refine g_aload_n (dk D_X11_layBoards 78 rfl) rfl ?_
            refine g_getAt (t := 100) fl_RX11_28 rfl ht0 (dk D_X11_layBoards 79 rfl) (fun ht31 => ?_)
            refine g_iload (dk D_X11_layBoards 80 rfl) rfl ?_
            refine g_iaload ht21 hi22 (dk D_X11_layBoards 81 rfl) ?_
            refine g_iadd (dk D_X11_layBoards 82 rfl) ?_
            refine g_aload_n (dk D_X11_layBoards 83 rfl) rfl ?_
            refine g_getAt (t := 100) fl_RX11_25 rfl ht0 (dk D_X11_layBoards 84 rfl) (fun ht32 => ?_)
            refine g_bipush (v := (8 : Int32)) (dk D_X11_layBoards 85 rfl) rfl ?_
            refine g_iload (dk D_X11_layBoards 86 rfl) rfl ?_
            refine g_imul (dk D_X11_layBoards 87 rfl) ?_
            refine g_iload (dk D_X11_layBoards 88 rfl) rfl ?_
            refine g_iadd (dk D_X11_layBoards 89 rfl) ?_
            refine g_iaload ht28 hi29 (dk D_X11_layBoards 90 rfl) ?_
            refine g_iadd (dk D_X11_layBoards 91 rfl) ?_
            refine g_ltV (fun x7_33 ex7_33 => ?_)
            refine g_istore (L' := [(0, vA (a0 + 1)), (1, vI x1), (2, vI x2), (3, vI x3), (4, vI x4), (5, vI x5), (6, vI x6_30), (7, vI x7_33)]) (dk D_X11_layBoards 92 rfl) (Nat.le_of_ble_eq_true rfl) rfl ?_
            refine g_aload_n (dk D_X11_layBoards 93 rfl) rfl ?_
            refine g_getAt (t := 100) fl_RX11_106 rfl ht0 (dk D_X11_layBoards 94 rfl) (fun ht34 => ?_)
            refine g_iload_n (dk D_X11_layBoards 95 rfl) rfl ?_
            refine g_aload_n (dk D_X11_layBoards 96 rfl) rfl ?_
            refine g_iload (dk D_X11_layBoards 97 rfl) rfl ?_
            refine g_iload_n (dk D_X11_layBoards 98 rfl) rfl ?_
            refine g_bind (fun q35 hq36 => ?_)
            refine h_callVt (st := [vI x2, vA (S0.1 a0 49)]) (c_X11_doesRun (E := E) fu S0 I a0 x4 x1 q35 hq36 (ht0)) cl_RX11_213 ht0 rfl rfl (by decide) (Nat.le_of_ble_eq_true rfl) (dk D_X11_layBoards 99 rfl) ?_
            refine g_if_eq (tgt := 185) (dk D_X11_layBoards 100 rfl) rfl (fun hc38 => ?_) (fun hc38 => ?_)
            · refine g_aload_n (dk D_X11_layBoards 108 rfl) rfl ?_
              refine g_getAt (t := 100) fl_RX11_106 rfl ht0 (dk D_X11_layBoards 109 rfl) (fun ht39 => ?_)
              refine g_iload_n (dk D_X11_layBoards 110 rfl) rfl ?_
              refine g_gd (fun hi40 => ?_)
              refine g_iaload ht34 hi40 (dk D_X11_layBoards 111 rfl) ?_
              refine g_Lp [0, 1, 2, 3, 4, 5, 7] rfl ?_
              exact hj191 I x5 x7_33 (S0.1 a0 49) x2 (rd I (S0.1 a0 49) x2) ht34
            · refine g_aload_n (dk D_X11_layBoards 101 rfl) rfl ?_
              refine g_getAt (t := 100) fl_RX11_106 rfl ht0 (dk D_X11_layBoards 102 rfl) (fun ht41 => ?_)
              refine g_iload_n (dk D_X11_layBoards 103 rfl) rfl ?_
              refine g_gd (fun hi42 => ?_)
              refine g_iaload ht34 hi42 (dk D_X11_layBoards 104 rfl) ?_
              refine g_iload (dk D_X11_layBoards 105 rfl) rfl ?_
              refine h_callS (st := [vI x2, vA (S0.1 a0 49)]) (c_X11_greater (E := E) S0 I (rd I (S0.1 a0 49) x2) x6_30) cl_RX11_194 rfl rfl (by decide) (Nat.le_of_ble_eq_true rfl) (dk D_X11_layBoards 106 rfl) ?_
              refine g_goto (tgt := 191) (dk D_X11_layBoards 107 rfl) rfl ?_
              refine g_Lp [0, 1, 2, 3, 4, 5, 7] rfl ?_
              exact hj191 I x5 x7_33 (S0.1 a0 49) x2 (t_X11_greater (rd I (S0.1 a0 49) x2) x6_30) ht34
      unfold lp_X11_layBoards_48
      refine g_iload (dk D_X11_layBoards 30 rfl) rfl ?_
      refine g_aload_n (dk D_X11_layBoards 31 rfl) rfl ?_
      refine g_getIt fl_RX11_172 (by decide) ht0 (dk D_X11_layBoards 32 rfl) ?_
      refine g_icmp_ge (tgt := 242) (dk D_X11_layBoards 33 rfl) rfl (fun hc44 => ?_) (fun hc44 => ?_)
      · refine g_iinc (v := (1 : Int32)) (L' := [(0, vA (a0 + 1)), (1, vI x1), (2, vI (x2 + (1 : Int32))), (3, vI x3), (4, vI x4)]) (dk D_X11_layBoards 139 rfl) rfl rfl (Nat.le_of_ble_eq_true rfl) rfl ?_
        refine g_Lp [0, 1, 2, 3] rfl ?_
        exact hj245 I (x2 + (1 : Int32)) x3
      · refine g_iconst (v := (0 : Int32)) (dk D_X11_layBoards 34 rfl) rfl ?_
        refine g_istore (L' := [(0, vA (a0 + 1)), (1, vI x1), (2, vI x2), (3, vI x3), (4, vI x4), (5, vI (0 : Int32))]) (dk D_X11_layBoards 35 rfl) (Nat.le_of_ble_eq_true rfl) rfl ?_
        exact hl60 x4 fu (0 : Int32) I trivial
    unfold lp_X11_layBoards_4
    refine g_iload_n (dk D_X11_layBoards 4 rfl) rfl ?_
    refine g_aload_n (dk D_X11_layBoards 5 rfl) rfl ?_
    refine g_getIt fl_RX11_156 (by decide) ht0 (dk D_X11_layBoards 6 rfl) ?_
    refine g_icmp_ge (tgt := 251) (dk D_X11_layBoards 7 rfl) rfl (fun hc45 => ?_) (fun hc45 => ?_)
    · exact g_return rfl rfl Sx.rf rfl (by decide) (by decide) (dk D_X11_layBoards 142 rfl)
    · refine g_aload_n (dk D_X11_layBoards 8 rfl) rfl ?_
      refine g_getIt fl_RX11_357 (by decide) ht0 (dk D_X11_layBoards 9 rfl) ?_
      refine g_iload_n (dk D_X11_layBoards 10 rfl) rfl ?_
      refine h_callS (st := []) (c_X11_hasBit (E := E) S0 I (I a0 47) x3) cl_RX11_263 rfl rfl (by decide) (Nat.le_of_ble_eq_true rfl) (dk D_X11_layBoards 11 rfl) ?_
      refine g_if_eq (tgt := 245) (dk D_X11_layBoards 12 rfl) rfl (fun hc47 => ?_) (fun hc47 => ?_)
      · exact hj245 I x2 x3
      · refine g_aload_n (dk D_X11_layBoards 13 rfl) rfl ?_
        refine g_getAt (t := 100) fl_RX11_103 rfl ht0 (dk D_X11_layBoards 14 rfl) (fun ht48 => ?_)
        refine g_iload_n (dk D_X11_layBoards 15 rfl) rfl ?_
        refine g_iload_n (dk D_X11_layBoards 16 rfl) rfl ?_
        refine g_gd (fun hi49 => ?_)
        refine g_iastore ht48 hi49 (dk D_X11_layBoards 17 rfl) ?_
        refine g_ltI (fun I50 eI50 => ?_)
        refine g_aload_n (dk D_X11_layBoards 18 rfl) rfl ?_
        refine g_getAt (t := 100) fl_RX11_106 rfl ht0 (dk D_X11_layBoards 19 rfl) (fun ht51 => ?_)
        refine g_iload_n (dk D_X11_layBoards 20 rfl) rfl ?_
        refine g_iconst (v := (0 : Int32)) (dk D_X11_layBoards 21 rfl) rfl ?_
        refine g_gd (fun hi52 => ?_)
        refine g_iastore ht51 hi52 (dk D_X11_layBoards 22 rfl) ?_
        refine g_ltI (fun I53 eI53 => ?_)
        refine g_aload_n (dk D_X11_layBoards 23 rfl) rfl ?_
        refine g_getAt (t := 100) fl_RX11_109 rfl ht0 (dk D_X11_layBoards 24 rfl) (fun ht54 => ?_)
        refine g_iload_n (dk D_X11_layBoards 25 rfl) rfl ?_
        refine g_ldc (dk D_X11_layBoards 26 rfl) lk_RX11_216 ?_
        refine g_gd (fun hi55 => ?_)
        refine g_iastore ht54 hi55 (dk D_X11_layBoards 27 rfl) ?_
        refine g_ltI (fun I56 eI56 => ?_)
        refine g_iconst (v := (0 : Int32)) (dk D_X11_layBoards 28 rfl) rfl ?_
        refine g_istore (L' := [(0, vA (a0 + 1)), (1, vI x1), (2, vI x2), (3, vI x3), (4, vI (0 : Int32))]) (dk D_X11_layBoards 29 rfl) (Nat.le_of_ble_eq_true rfl) rfl ?_
        exact hl48 x2 x3 fu (0 : Int32) I56 trivial
  unfold f_X11_layBoards
  refine g_iconst (v := (0 : Int32)) (dk D_X11_layBoards 0 rfl) rfl ?_
  refine g_istore_n (L' := [(0, vA (a0 + 1)), (1, vI x1), (2, vI (0 : Int32))]) (dk D_X11_layBoards 1 rfl) (Nat.le_of_ble_eq_true rfl) rfl ?_
  refine g_iconst (v := (0 : Int32)) (dk D_X11_layBoards 2 rfl) rfl ?_
  refine g_istore_n (L' := [(0, vA (a0 + 1)), (1, vI x1), (2, vI (0 : Int32)), (3, vI (0 : Int32))]) (dk D_X11_layBoards 3 rfl) (Nat.le_of_ble_eq_true rfl) rfl ?_
  exact hl4 fu (0 : Int32) (0 : Int32) I0 trivial
theorem c_X11_layBoards {E : EV} (fu : Nat) (S0 : Sk) (I0 : II) (a0 : Nat) (x1 : Int32) (r : II) (h : f_X11_layBoards fu S0 I0 a0 x1 = some r) (ht0 : tyO S0 11 a0) : MX E yX11_layBoards i_X11_layBoards S0 I0 [vA (a0 + 1), vI x1] (po_X11_layBoards S0 I0 r) :=
  MX.of h (by decide) rfl rfl (Nat.le_of_ble_eq_true rfl) (gg_X11_layBoards fu S0 I0 a0 x1 ht0)
