def tb_X11_in : List (Nat × Instr × Nat) := [(0, .lload_n 0, 1), (1, .lload_n 2, 1), (2, .lcmp, 1), (3, .ifCond .lt 14, 3), (6, .lload_n 0, 1), (7, .lload 4, 2), (9, .lcmp, 1), (10, .ifCond .gt 7, 3), (13, .iconst 1, 1), (14, .goto 4, 3), (17, .iconst 0, 1), (18, .ireturn, 1)]
def i_X11_in : MI := (RX11, cX11_in, 6, (some .boolean), "in", { frames := 0, cells := 0, slots := 0, locals := 0 })
theorem D_X11_in : tbOK (i_X11_in).2.1 tb_X11_in := by show ∀ q ∈ tb_X11_in, decode cX11_in q.1 = .ok (q.2.1, q.2.2); decide +kernel
def po_X11_in (S : Sk) (I : II) (r : Int32) : Option LV × Sk × II := (some (vI r), S, I)
def f_X11_in (fu : Nat) (S : Sk) (I : II) (n0 : Int64) (n2 : Int64) (n4 : Int64) : Option (Int32) :=
  if (lg_cmp n0 n2) < 0 then some ((0 : Int32)) else if 0 < (lg_cmp n0 n4) then some ((0 : Int32)) else some ((1 : Int32))
set_option maxRecDepth 100000 in
set_option maxHeartbeats 4000000 in
theorem gg_X11_in {E : EV} (fu : Nat) (S0 : Sk) (I0 : II) (n0 : Int64) (n2 : Int64) (n4 : Int64) : GG E i_X11_in (enM E i_X11_in S0 (po_X11_in S0 I0)) S0 I0 (0, 0) 0 [(0, vL n0), (2, vL n2), (4, vL n4)] [] (f_X11_in fu S0 I0 n0 n2 n4) := by
  unfold f_X11_in
  refine g_lload_n (dk D_X11_in 0 rfl) rfl ?_
  refine g_lload_n (dk D_X11_in 1 rfl) rfl ?_
  refine g_lcmp (dk D_X11_in 2 rfl) ?_
  refine g_if_lt (tgt := 17) (dk D_X11_in 3 rfl) rfl (fun hc1 => ?_) (fun hc1 => ?_)
  · refine g_iconst (v := (0 : Int32)) (dk D_X11_in 10 rfl) rfl ?_
    exact g_zreturn rfl rfl (Or.inl rfl) Sx.rf rfl (by decide) (by decide) (dk D_X11_in 11 rfl)
  · refine g_lload_n (dk D_X11_in 4 rfl) rfl ?_
    refine g_lload (dk D_X11_in 5 rfl) rfl ?_
    refine g_lcmp (dk D_X11_in 6 rfl) ?_
    refine g_if_gt (tgt := 17) (dk D_X11_in 7 rfl) rfl (fun hc2 => ?_) (fun hc2 => ?_)
    · refine g_iconst (v := (0 : Int32)) (dk D_X11_in 10 rfl) rfl ?_
      exact g_zreturn rfl rfl (Or.inl rfl) Sx.rf rfl (by decide) (by decide) (dk D_X11_in 11 rfl)
    · refine g_iconst (v := (1 : Int32)) (dk D_X11_in 8 rfl) rfl ?_
      refine g_goto (tgt := 18) (dk D_X11_in 9 rfl) rfl ?_
      exact g_zreturn rfl rfl (Or.inr rfl) Sx.rf rfl (by decide) (by decide) (dk D_X11_in 11 rfl)
def t_X11_in (n0 : Int64) (n2 : Int64) (n4 : Int64) : Int32 :=
  if (lg_cmp n0 n2) < 0 then (0 : Int32) else if 0 < (lg_cmp n0 n4) then (0 : Int32) else (1 : Int32)
theorem ft_X11_in (fu : Nat) (S : Sk) (I0 : II) (n0 : Int64) (n2 : Int64) (n4 : Int64) : f_X11_in fu S I0 n0 n2 n4 = some (t_X11_in n0 n2 n4) := by
  simp only [f_X11_in, t_X11_in, lt, apply_ite some]
theorem z_X11_in (n0 : Int64) (n2 : Int64) (n4 : Int64) : t_X11_in n0 n2 n4 = 0 ∨ t_X11_in n0 n2 n4 = 1 := by
  unfold t_X11_in
  (repeat' split) <;> first | exact Or.inl rfl | exact Or.inr rfl
theorem c_X11_in {E : EV} (S0 : Sk) (I0 : II) (n0 : Int64) (n2 : Int64) (n4 : Int64) : MX E yX11_in i_X11_in S0 I0 [vL n0, vL n2, vL n4] (po_X11_in S0 I0 (t_X11_in n0 n2 n4)) :=
  MX.of (ft_X11_in 0 S0 I0 n0 n2 n4) (by decide) rfl rfl (Nat.le_of_ble_eq_true rfl) (gg_X11_in 0 S0 I0 n0 n2 n4)
theorem lk_RX11_128 : Cond.constantLong RX11 128 ((-9223372036854775808) : Int64) ∈ lw_good := (gm 1491 (by decide +kernel) (by decide +kernel))
def tb_X11_lost : List (Nat × Instr × Nat) := [(0, .ldc2_w 128, 3), (3, .lreturn, 1)]
def i_X11_lost : MI := (RX11, cX11_lost, 0, (some .long), "lost", { frames := 0, cells := 0, slots := 0, locals := 0 })
theorem D_X11_lost : tbOK (i_X11_lost).2.1 tb_X11_lost := by show ∀ q ∈ tb_X11_lost, decode cX11_lost q.1 = .ok (q.2.1, q.2.2); decide +kernel
def po_X11_lost (S : Sk) (I : II) (r : Int64) : Option LV × Sk × II := (some (vL r), S, I)
def f_X11_lost (fu : Nat) (S : Sk) (I : II) : Option (Int64) :=
  some (((-9223372036854775808) : Int64))
set_option maxRecDepth 100000 in
set_option maxHeartbeats 4000000 in
theorem gg_X11_lost {E : EV} (fu : Nat) (S0 : Sk) (I0 : II) : GG E i_X11_lost (enM E i_X11_lost S0 (po_X11_lost S0 I0)) S0 I0 (0, 0) 0 [] [] (f_X11_lost fu S0 I0) := by
  unfold f_X11_lost
  refine g_ldc2 (dk D_X11_lost 0 rfl) lk_RX11_128 ?_
  exact g_lreturn rfl rfl Sx.rf rfl (by decide) (by decide) (dk D_X11_lost 1 rfl)
def t_X11_lost : Int64 :=
  ((-9223372036854775808) : Int64)
theorem ft_X11_lost (fu : Nat) (S : Sk) (I0 : II) : f_X11_lost fu S I0 = some (t_X11_lost) := by
  simp only [f_X11_lost, t_X11_lost, lt, apply_ite some]
theorem c_X11_lost {E : EV} (S0 : Sk) (I0 : II) : MX E yX11_lost i_X11_lost S0 I0 [] (po_X11_lost S0 I0 (t_X11_lost)) :=
  MX.of (ft_X11_lost 0 S0 I0) (by decide) rfl rfl (Nat.le_of_ble_eq_true rfl) (gg_X11_lost 0 S0 I0)
def tb_X11_hasBit : List (Nat × Instr × Nat) := [(0, .iload_n 0, 1), (1, .iload_n 1, 1), (2, .ishr, 1), (3, .iconst 1, 1), (4, .iand, 1), (5, .iconst 1, 1), (6, .if_icmp .ne 7, 3), (9, .iconst 1, 1), (10, .goto 4, 3), (13, .iconst 0, 1), (14, .ireturn, 1)]
def i_X11_hasBit : MI := (RX11, cX11_hasBit, 2, (some .boolean), "hasBit", { frames := 0, cells := 0, slots := 0, locals := 0 })
theorem D_X11_hasBit : tbOK (i_X11_hasBit).2.1 tb_X11_hasBit := by show ∀ q ∈ tb_X11_hasBit, decode cX11_hasBit q.1 = .ok (q.2.1, q.2.2); decide +kernel
def po_X11_hasBit (S : Sk) (I : II) (r : Int32) : Option LV × Sk × II := (some (vI r), S, I)
def f_X11_hasBit (fu : Nat) (S : Sk) (I : II) (x0 : Int32) (x1 : Int32) : Option (Int32) :=
  if ((x0 >>> (x1 &&& 31)) &&& (1 : Int32)) = (1 : Int32) then some ((1 : Int32)) else some ((0 : Int32))
set_option maxRecDepth 100000 in
set_option maxHeartbeats 4000000 in
theorem gg_X11_hasBit {E : EV} (fu : Nat) (S0 : Sk) (I0 : II) (x0 : Int32) (x1 : Int32) : GG E i_X11_hasBit (enM E i_X11_hasBit S0 (po_X11_hasBit S0 I0)) S0 I0 (0, 0) 0 [(0, vI x0), (1, vI x1)] [] (f_X11_hasBit fu S0 I0 x0 x1) := by
  unfold f_X11_hasBit
  refine g_iload_n (dk D_X11_hasBit 0 rfl) rfl ?_
  refine g_iload_n (dk D_X11_hasBit 1 rfl) rfl ?_
  refine g_ishr (dk D_X11_hasBit 2 rfl) ?_
  refine g_iconst (v := (1 : Int32)) (dk D_X11_hasBit 3 rfl) rfl ?_
  refine g_iand (dk D_X11_hasBit 4 rfl) ?_
  refine g_iconst (v := (1 : Int32)) (dk D_X11_hasBit 5 rfl) rfl ?_
  refine g_icmp_ne (tgt := 13) (dk D_X11_hasBit 6 rfl) rfl (fun hc1 => ?_) (fun hc1 => ?_)
  · refine g_iconst (v := (0 : Int32)) (dk D_X11_hasBit 9 rfl) rfl ?_
    exact g_zreturn rfl rfl (Or.inl rfl) Sx.rf rfl (by decide) (by decide) (dk D_X11_hasBit 10 rfl)
  · refine g_iconst (v := (1 : Int32)) (dk D_X11_hasBit 7 rfl) rfl ?_
    refine g_goto (tgt := 14) (dk D_X11_hasBit 8 rfl) rfl ?_
    exact g_zreturn rfl rfl (Or.inr rfl) Sx.rf rfl (by decide) (by decide) (dk D_X11_hasBit 10 rfl)
def t_X11_hasBit (x0 : Int32) (x1 : Int32) : Int32 :=
  if ((x0 >>> (x1 &&& 31)) &&& (1 : Int32)) = (1 : Int32) then (1 : Int32) else (0 : Int32)
theorem ft_X11_hasBit (fu : Nat) (S : Sk) (I0 : II) (x0 : Int32) (x1 : Int32) : f_X11_hasBit fu S I0 x0 x1 = some (t_X11_hasBit x0 x1) := by
  simp only [f_X11_hasBit, t_X11_hasBit, lt, apply_ite some]
theorem z_X11_hasBit (x0 : Int32) (x1 : Int32) : t_X11_hasBit x0 x1 = 0 ∨ t_X11_hasBit x0 x1 = 1 := by
  unfold t_X11_hasBit
  (repeat' split) <;> first | exact Or.inl rfl | exact Or.inr rfl
theorem c_X11_hasBit {E : EV} (S0 : Sk) (I0 : II) (x0 : Int32) (x1 : Int32) : MX E yX11_hasBit i_X11_hasBit S0 I0 [vI x0, vI x1] (po_X11_hasBit S0 I0 (t_X11_hasBit x0 x1)) :=
  MX.of (ft_X11_hasBit 0 S0 I0 x0 x1) (by decide) rfl rfl (Nat.le_of_ble_eq_true rfl) (gg_X11_hasBit 0 S0 I0 x0 x1)
def tb_X11_sizeOf : List (Nat × Instr × Nat) := [(0, .iload_n 0, 1), (1, .ifCond .ge 8, 3), (4, .iload_n 0, 1), (5, .ineg, 1), (6, .goto 4, 3), (9, .iload_n 0, 1), (10, .ireturn, 1)]
def i_X11_sizeOf : MI := (RX11, cX11_sizeOf, 1, (some .int), "sizeOf", { frames := 0, cells := 0, slots := 0, locals := 0 })
theorem D_X11_sizeOf : tbOK (i_X11_sizeOf).2.1 tb_X11_sizeOf := by show ∀ q ∈ tb_X11_sizeOf, decode cX11_sizeOf q.1 = .ok (q.2.1, q.2.2); decide +kernel
def po_X11_sizeOf (S : Sk) (I : II) (r : Int32) : Option LV × Sk × II := (some (vI r), S, I)
def f_X11_sizeOf (fu : Nat) (S : Sk) (I : II) (x0 : Int32) : Option (Int32) :=
  if 0 ≤ x0 then some (x0) else some ((-x0))
set_option maxRecDepth 100000 in
set_option maxHeartbeats 4000000 in
theorem gg_X11_sizeOf {E : EV} (fu : Nat) (S0 : Sk) (I0 : II) (x0 : Int32) : GG E i_X11_sizeOf (enM E i_X11_sizeOf S0 (po_X11_sizeOf S0 I0)) S0 I0 (0, 0) 0 [(0, vI x0)] [] (f_X11_sizeOf fu S0 I0 x0) := by
  unfold f_X11_sizeOf
  refine g_iload_n (dk D_X11_sizeOf 0 rfl) rfl ?_
  refine g_if_ge (tgt := 9) (dk D_X11_sizeOf 1 rfl) rfl (fun hc1 => ?_) (fun hc1 => ?_)
  · refine g_iload_n (dk D_X11_sizeOf 5 rfl) rfl ?_
    exact g_ireturn rfl rfl Sx.rf rfl (by decide) (by decide) (dk D_X11_sizeOf 6 rfl)
  · refine g_iload_n (dk D_X11_sizeOf 2 rfl) rfl ?_
    refine g_ineg (dk D_X11_sizeOf 3 rfl) ?_
    refine g_goto (tgt := 10) (dk D_X11_sizeOf 4 rfl) rfl ?_
    exact g_ireturn rfl rfl Sx.rf rfl (by decide) (by decide) (dk D_X11_sizeOf 6 rfl)
def t_X11_sizeOf (x0 : Int32) : Int32 :=
  if 0 ≤ x0 then x0 else (-x0)
theorem ft_X11_sizeOf (fu : Nat) (S : Sk) (I0 : II) (x0 : Int32) : f_X11_sizeOf fu S I0 x0 = some (t_X11_sizeOf x0) := by
  simp only [f_X11_sizeOf, t_X11_sizeOf, lt, apply_ite some]
theorem c_X11_sizeOf {E : EV} (S0 : Sk) (I0 : II) (x0 : Int32) : MX E yX11_sizeOf i_X11_sizeOf S0 I0 [vI x0] (po_X11_sizeOf S0 I0 (t_X11_sizeOf x0)) :=
  MX.of (ft_X11_sizeOf 0 S0 I0 x0) (by decide) rfl rfl (Nat.le_of_ble_eq_true rfl) (gg_X11_sizeOf 0 S0 I0 x0)
def tb_X11_lesser : List (Nat × Instr × Nat) := [(0, .iload_n 0, 1), (1, .iload_n 1, 1), (2, .if_icmp .ge 7, 3), (5, .iload_n 0, 1), (6, .goto 4, 3), (9, .iload_n 1, 1), (10, .ireturn, 1)]
def i_X11_lesser : MI := (RX11, cX11_lesser, 2, (some .int), "lesser", { frames := 0, cells := 0, slots := 0, locals := 0 })
theorem D_X11_lesser : tbOK (i_X11_lesser).2.1 tb_X11_lesser := by show ∀ q ∈ tb_X11_lesser, decode cX11_lesser q.1 = .ok (q.2.1, q.2.2); decide +kernel
def po_X11_lesser (S : Sk) (I : II) (r : Int32) : Option LV × Sk × II := (some (vI r), S, I)
def f_X11_lesser (fu : Nat) (S : Sk) (I : II) (x0 : Int32) (x1 : Int32) : Option (Int32) :=
  if x1 ≤ x0 then some (x1) else some (x0)
set_option maxRecDepth 100000 in
set_option maxHeartbeats 4000000 in
theorem gg_X11_lesser {E : EV} (fu : Nat) (S0 : Sk) (I0 : II) (x0 : Int32) (x1 : Int32) : GG E i_X11_lesser (enM E i_X11_lesser S0 (po_X11_lesser S0 I0)) S0 I0 (0, 0) 0 [(0, vI x0), (1, vI x1)] [] (f_X11_lesser fu S0 I0 x0 x1) := by
  unfold f_X11_lesser
  refine g_iload_n (dk D_X11_lesser 0 rfl) rfl ?_
  refine g_iload_n (dk D_X11_lesser 1 rfl) rfl ?_
  refine g_icmp_ge (tgt := 9) (dk D_X11_lesser 2 rfl) rfl (fun hc1 => ?_) (fun hc1 => ?_)
  · refine g_iload_n (dk D_X11_lesser 5 rfl) rfl ?_
    exact g_ireturn rfl rfl Sx.rf rfl (by decide) (by decide) (dk D_X11_lesser 6 rfl)
  · refine g_iload_n (dk D_X11_lesser 3 rfl) rfl ?_
    refine g_goto (tgt := 10) (dk D_X11_lesser 4 rfl) rfl ?_
    exact g_ireturn rfl rfl Sx.rf rfl (by decide) (by decide) (dk D_X11_lesser 6 rfl)
def t_X11_lesser (x0 : Int32) (x1 : Int32) : Int32 :=
  if x1 ≤ x0 then x1 else x0
theorem ft_X11_lesser (fu : Nat) (S : Sk) (I0 : II) (x0 : Int32) (x1 : Int32) : f_X11_lesser fu S I0 x0 x1 = some (t_X11_lesser x0 x1) := by
  simp only [f_X11_lesser, t_X11_lesser, lt, apply_ite some]
theorem c_X11_lesser {E : EV} (S0 : Sk) (I0 : II) (x0 : Int32) (x1 : Int32) : MX E yX11_lesser i_X11_lesser S0 I0 [vI x0, vI x1] (po_X11_lesser S0 I0 (t_X11_lesser x0 x1)) :=
  MX.of (ft_X11_lesser 0 S0 I0 x0 x1) (by decide) rfl rfl (Nat.le_of_ble_eq_true rfl) (gg_X11_lesser 0 S0 I0 x0 x1)
def tb_X11_greater : List (Nat × Instr × Nat) := [(0, .iload_n 0, 1), (1, .iload_n 1, 1), (2, .if_icmp .le 7, 3), (5, .iload_n 0, 1), (6, .goto 4, 3), (9, .iload_n 1, 1), (10, .ireturn, 1)]
def i_X11_greater : MI := (RX11, cX11_greater, 2, (some .int), "greater", { frames := 0, cells := 0, slots := 0, locals := 0 })
theorem D_X11_greater : tbOK (i_X11_greater).2.1 tb_X11_greater := by show ∀ q ∈ tb_X11_greater, decode cX11_greater q.1 = .ok (q.2.1, q.2.2); decide +kernel
def po_X11_greater (S : Sk) (I : II) (r : Int32) : Option LV × Sk × II := (some (vI r), S, I)
def f_X11_greater (fu : Nat) (S : Sk) (I : II) (x0 : Int32) (x1 : Int32) : Option (Int32) :=
  if x0 ≤ x1 then some (x1) else some (x0)
set_option maxRecDepth 100000 in
set_option maxHeartbeats 4000000 in
theorem gg_X11_greater {E : EV} (fu : Nat) (S0 : Sk) (I0 : II) (x0 : Int32) (x1 : Int32) : GG E i_X11_greater (enM E i_X11_greater S0 (po_X11_greater S0 I0)) S0 I0 (0, 0) 0 [(0, vI x0), (1, vI x1)] [] (f_X11_greater fu S0 I0 x0 x1) := by
  unfold f_X11_greater
  refine g_iload_n (dk D_X11_greater 0 rfl) rfl ?_
  refine g_iload_n (dk D_X11_greater 1 rfl) rfl ?_
  refine g_icmp_le (tgt := 9) (dk D_X11_greater 2 rfl) rfl (fun hc1 => ?_) (fun hc1 => ?_)
  · refine g_iload_n (dk D_X11_greater 5 rfl) rfl ?_
    exact g_ireturn rfl rfl Sx.rf rfl (by decide) (by decide) (dk D_X11_greater 6 rfl)
  · refine g_iload_n (dk D_X11_greater 3 rfl) rfl ?_
    refine g_goto (tgt := 10) (dk D_X11_greater 4 rfl) rfl ?_
    exact g_ireturn rfl rfl Sx.rf rfl (by decide) (by decide) (dk D_X11_greater 6 rfl)
def t_X11_greater (x0 : Int32) (x1 : Int32) : Int32 :=
  if x0 ≤ x1 then x1 else x0
theorem ft_X11_greater (fu : Nat) (S : Sk) (I0 : II) (x0 : Int32) (x1 : Int32) : f_X11_greater fu S I0 x0 x1 = some (t_X11_greater x0 x1) := by
  simp only [f_X11_greater, t_X11_greater, lt, apply_ite some]
theorem c_X11_greater {E : EV} (S0 : Sk) (I0 : II) (x0 : Int32) (x1 : Int32) : MX E yX11_greater i_X11_greater S0 I0 [vI x0, vI x1] (po_X11_greater S0 I0 (t_X11_greater x0 x1)) :=
  MX.of (ft_X11_greater 0 S0 I0 x0 x1) (by decide) rfl rfl (Nat.le_of_ble_eq_true rfl) (gg_X11_greater 0 S0 I0 x0 x1)
theorem lk_RX11_130 : Cond.constantLong RX11 130 (59 : Int64) ∈ lw_good := (gm 1219 (by decide +kernel) (by decide +kernel))
theorem cl_RX11_132 : CS0 RX11 132 yX11_in i_X11_in 3 := ⟨⟨(gm 1155 (by decide +kernel) (by decide +kernel)), (gm 72 (by decide +kernel) (by decide +kernel)), (gm 1157 (by decide +kernel) (by decide +kernel)), by decide +kernel, by decide +kernel, by decide +kernel⟩, (gm 1156 (by decide +kernel) (by decide +kernel))⟩
def tb_X11_isDay : List (Nat × Instr × Nat) := [(0, .iload_n 0, 1), (1, .i2l, 1), (2, .lconst 0, 1), (3, .ldc2_w 130, 3), (6, .invokestatic 132, 3), (9, .ireturn, 1)]
def i_X11_isDay : MI := (RX11, cX11_isDay, 1, (some .boolean), "isDay", { frames := 1, cells := 0, slots := 0, locals := 25 })
theorem D_X11_isDay : tbOK (i_X11_isDay).2.1 tb_X11_isDay := by show ∀ q ∈ tb_X11_isDay, decode cX11_isDay q.1 = .ok (q.2.1, q.2.2); decide +kernel
def po_X11_isDay (S : Sk) (I : II) (r : Int32) : Option LV × Sk × II := (some (vI r), S, I)
def f_X11_isDay (fu : Nat) (S : Sk) (I : II) (x0 : Int32) : Option (Int32) :=
  some ((t_X11_in x0.toInt64 (0 : Int64) (59 : Int64)))
set_option maxRecDepth 100000 in
set_option maxHeartbeats 4000000 in
theorem gg_X11_isDay {E : EV} (fu : Nat) (S0 : Sk) (I0 : II) (x0 : Int32) : GG E i_X11_isDay (enM E i_X11_isDay S0 (po_X11_isDay S0 I0)) S0 I0 (0, 0) 0 [(0, vI x0)] [] (f_X11_isDay fu S0 I0 x0) := by
  unfold f_X11_isDay
  refine g_iload_n (dk D_X11_isDay 0 rfl) rfl ?_
  refine g_i2l (dk D_X11_isDay 1 rfl) ?_
  refine g_lconst (v := (0 : Int64)) (dk D_X11_isDay 2 rfl) rfl ?_
  refine g_ldc2 (dk D_X11_isDay 3 rfl) lk_RX11_130 ?_
  refine h_callS (st := []) (c_X11_in (E := E) S0 I0 x0.toInt64 (0 : Int64) (59 : Int64)) cl_RX11_132 rfl rfl (by decide) (Nat.le_of_ble_eq_true rfl) (dk D_X11_isDay 4 rfl) ?_
  exact g_zreturn rfl rfl (z_X11_in x0.toInt64 (0 : Int64) (59 : Int64)) Sx.rf rfl (by decide) (by decide) (dk D_X11_isDay 5 rfl)
def t_X11_isDay (x0 : Int32) : Int32 :=
  (t_X11_in x0.toInt64 (0 : Int64) (59 : Int64))
theorem ft_X11_isDay (fu : Nat) (S : Sk) (I0 : II) (x0 : Int32) : f_X11_isDay fu S I0 x0 = some (t_X11_isDay x0) := by
  simp only [f_X11_isDay, t_X11_isDay, lt, apply_ite some]
theorem z_X11_isDay (x0 : Int32) : t_X11_isDay x0 = 0 ∨ t_X11_isDay x0 = 1 := z_X11_in x0.toInt64 (0 : Int64) (59 : Int64)
theorem c_X11_isDay {E : EV} (S0 : Sk) (I0 : II) (x0 : Int32) : MX E yX11_isDay i_X11_isDay S0 I0 [vI x0] (po_X11_isDay S0 I0 (t_X11_isDay x0)) :=
  MX.of (ft_X11_isDay 0 S0 I0 x0) (by decide) rfl rfl (Nat.le_of_ble_eq_true rfl) (gg_X11_isDay 0 S0 I0 x0)
theorem fl_RX11_136 : FL RX11 136 11 0 := ⟨RX11, TX11, 57, rfl, by decide, rfl, by decide, (gm 978 (by decide +kernel) (by decide +kernel)), inG11⟩
theorem fp_11_0 : FP 11 0 (tyX11 0) false := ⟨RX11, TX11, 57, tyX11, rfl, tyX11_ok, nmX11, rfl, rfl, rfl⟩
def tb_X11_refused : List (Nat × Instr × Nat) := [(0, .aload_n 0, 1), (1, .iconst 0, 1), (2, .putfield 136, 3), (5, .iload_n 1, 1), (6, .ireturn, 1)]
def i_X11_refused : MI := (RX11, cX11_refused, 2, (some .int), "refused", { frames := 0, cells := 0, slots := 0, locals := 0 })
theorem D_X11_refused : tbOK (i_X11_refused).2.1 tb_X11_refused := by show ∀ q ∈ tb_X11_refused, decode cX11_refused q.1 = .ok (q.2.1, q.2.2); decide +kernel
def po_X11_refused (S : Sk) (I : II) (r : Int32 × II) : Option LV × Sk × II := (some (vI r.1), S, r.2)
def f_X11_refused (fu : Nat) (S : Sk) (I : II) (a0 : Nat) (x1 : Int32) : Option (Int32 × II) :=
  lt (upI I a0 0 (0 : Int32)) fun I1 => (some ((x1, I1)))
set_option maxRecDepth 100000 in
set_option maxHeartbeats 4000000 in
theorem gg_X11_refused {E : EV} (fu : Nat) (S0 : Sk) (I0 : II) (a0 : Nat) (x1 : Int32) (ht0 : tyO S0 11 a0) : GG E i_X11_refused (enM E i_X11_refused S0 (po_X11_refused S0 I0)) S0 I0 (0, 0) 0 [(0, vA (a0 + 1)), (1, vI x1)] [] (f_X11_refused fu S0 I0 a0 x1) := by
  unfold f_X11_refused
  refine g_aload_n (dk D_X11_refused 0 rfl) rfl ?_
  refine g_iconst (v := (0 : Int32)) (dk D_X11_refused 1 rfl) rfl ?_
  refine g_putIt fl_RX11_136 fp_11_0 (fun h => (by cases h)) (by decide) rfl rfl ht0 (dk D_X11_refused 2 rfl) ?_
  refine g_ltI (fun I1 eI1 => ?_)
  refine g_iload_n (dk D_X11_refused 3 rfl) rfl ?_
  exact g_ireturn rfl rfl Sx.rf rfl (by decide) (by decide) (dk D_X11_refused 4 rfl)
theorem c_X11_refused {E : EV} (fu : Nat) (S0 : Sk) (I0 : II) (a0 : Nat) (x1 : Int32) (r : Int32 × II) (h : f_X11_refused fu S0 I0 a0 x1 = some r) (ht0 : tyO S0 11 a0) : MX E yX11_refused i_X11_refused S0 I0 [vA (a0 + 1), vI x1] (po_X11_refused S0 I0 r) :=
  MX.of h (by decide) rfl rfl (Nat.le_of_ble_eq_true rfl) (gg_X11_refused fu S0 I0 a0 x1 ht0)
def tb_X11_failed : List (Nat × Instr × Nat) := [(0, .aload_n 0, 1), (1, .iload_n 1, 1), (2, .putfield 136, 3), (5, .bipush (-10), 2), (7, .iload_n 1, 1), (8, .isub, 1), (9, .ireturn, 1)]
def i_X11_failed : MI := (RX11, cX11_failed, 2, (some .int), "failed", { frames := 0, cells := 0, slots := 0, locals := 0 })
theorem D_X11_failed : tbOK (i_X11_failed).2.1 tb_X11_failed := by show ∀ q ∈ tb_X11_failed, decode cX11_failed q.1 = .ok (q.2.1, q.2.2); decide +kernel
def po_X11_failed (S : Sk) (I : II) (r : Int32 × II) : Option LV × Sk × II := (some (vI r.1), S, r.2)
def f_X11_failed (fu : Nat) (S : Sk) (I : II) (a0 : Nat) (x1 : Int32) : Option (Int32 × II) :=
  lt (upI I a0 0 x1) fun I1 => (some (((((-10) : Int32) - x1), I1)))
set_option maxRecDepth 100000 in
set_option maxHeartbeats 4000000 in
theorem gg_X11_failed {E : EV} (fu : Nat) (S0 : Sk) (I0 : II) (a0 : Nat) (x1 : Int32) (ht0 : tyO S0 11 a0) : GG E i_X11_failed (enM E i_X11_failed S0 (po_X11_failed S0 I0)) S0 I0 (0, 0) 0 [(0, vA (a0 + 1)), (1, vI x1)] [] (f_X11_failed fu S0 I0 a0 x1) := by
  unfold f_X11_failed
  refine g_aload_n (dk D_X11_failed 0 rfl) rfl ?_
  refine g_iload_n (dk D_X11_failed 1 rfl) rfl ?_
  refine g_putIt fl_RX11_136 fp_11_0 (fun h => (by cases h)) (by decide) rfl rfl ht0 (dk D_X11_failed 2 rfl) ?_
  refine g_ltI (fun I1 eI1 => ?_)
  refine g_bipush (v := ((-10) : Int32)) (dk D_X11_failed 3 rfl) rfl ?_
  refine g_iload_n (dk D_X11_failed 4 rfl) rfl ?_
  refine g_isub (dk D_X11_failed 5 rfl) ?_
  exact g_ireturn rfl rfl Sx.rf rfl (by decide) (by decide) (dk D_X11_failed 6 rfl)
theorem c_X11_failed {E : EV} (fu : Nat) (S0 : Sk) (I0 : II) (a0 : Nat) (x1 : Int32) (r : Int32 × II) (h : f_X11_failed fu S0 I0 a0 x1 = some r) (ht0 : tyO S0 11 a0) : MX E yX11_failed i_X11_failed S0 I0 [vA (a0 + 1), vI x1] (po_X11_failed S0 I0 r) :=
  MX.of h (by decide) rfl rfl (Nat.le_of_ble_eq_true rfl) (gg_X11_failed fu S0 I0 a0 x1 ht0)
theorem cl_RX11_139 : CS0 RX11 139 yX11_lost i_X11_lost 0 := ⟨⟨(gm 1488 (by decide +kernel) (by decide +kernel)), (gm 72 (by decide +kernel) (by decide +kernel)), (gm 1490 (by decide +kernel) (by decide +kernel)), by decide +kernel, by decide +kernel, by decide +kernel⟩, (gm 1489 (by decide +kernel) (by decide +kernel))⟩
def tb_X11_failedLong : List (Nat × Instr × Nat) := [(0, .aload_n 0, 1), (1, .iload_n 1, 1), (2, .putfield 136, 3), (5, .invokestatic 139, 3), (8, .lreturn, 1)]
def i_X11_failedLong : MI := (RX11, cX11_failedLong, 2, (some .long), "failedLong", { frames := 1, cells := 0, slots := 0, locals := 19 })
theorem D_X11_failedLong : tbOK (i_X11_failedLong).2.1 tb_X11_failedLong := by show ∀ q ∈ tb_X11_failedLong, decode cX11_failedLong q.1 = .ok (q.2.1, q.2.2); decide +kernel
def po_X11_failedLong (S : Sk) (I : II) (r : Int64 × II) : Option LV × Sk × II := (some (vL r.1), S, r.2)
def f_X11_failedLong (fu : Nat) (S : Sk) (I : II) (a0 : Nat) (x1 : Int32) : Option (Int64 × II) :=
  lt (upI I a0 0 x1) fun I1 => (some (((t_X11_lost), I1)))
set_option maxRecDepth 100000 in
set_option maxHeartbeats 4000000 in
theorem gg_X11_failedLong {E : EV} (fu : Nat) (S0 : Sk) (I0 : II) (a0 : Nat) (x1 : Int32) (ht0 : tyO S0 11 a0) : GG E i_X11_failedLong (enM E i_X11_failedLong S0 (po_X11_failedLong S0 I0)) S0 I0 (0, 0) 0 [(0, vA (a0 + 1)), (1, vI x1)] [] (f_X11_failedLong fu S0 I0 a0 x1) := by
  unfold f_X11_failedLong
  refine g_aload_n (dk D_X11_failedLong 0 rfl) rfl ?_
  refine g_iload_n (dk D_X11_failedLong 1 rfl) rfl ?_
  refine g_putIt fl_RX11_136 fp_11_0 (fun h => (by cases h)) (by decide) rfl rfl ht0 (dk D_X11_failedLong 2 rfl) ?_
  refine g_ltI (fun I1 eI1 => ?_)
  refine h_callS (st := []) (c_X11_lost (E := E) S0 I1) cl_RX11_139 rfl rfl (by decide) (Nat.le_of_ble_eq_true rfl) (dk D_X11_failedLong 3 rfl) ?_
  exact g_lreturn rfl rfl Sx.rf rfl (by decide) (by decide) (dk D_X11_failedLong 4 rfl)
theorem c_X11_failedLong {E : EV} (fu : Nat) (S0 : Sk) (I0 : II) (a0 : Nat) (x1 : Int32) (r : Int64 × II) (h : f_X11_failedLong fu S0 I0 a0 x1 = some r) (ht0 : tyO S0 11 a0) : MX E yX11_failedLong i_X11_failedLong S0 I0 [vA (a0 + 1), vI x1] (po_X11_failedLong S0 I0 r) :=
  MX.of h (by decide) rfl rfl (Nat.le_of_ble_eq_true rfl) (gg_X11_failedLong fu S0 I0 a0 x1 ht0)
def tb_X11_isBeyond : List (Nat × Instr × Nat) := [(0, .iload_n 0, 1), (1, .ifCond .lt 19, 3), (4, .lload_n 1, 1), (5, .lconst 0, 1), (6, .lcmp, 1), (7, .ifCond .lt 13, 3), (10, .iload_n 0, 1), (11, .i2l, 1), (12, .lload_n 1, 1), (13, .ladd, 1), (14, .iload_n 3, 1), (15, .i2l, 1), (16, .lcmp, 1), (17, .ifCond .le 7, 3), (20, .iconst 1, 1), (21, .goto 4, 3), (24, .iconst 0, 1), (25, .ireturn, 1)]
def i_X11_isBeyond : MI := (RX11, cX11_isBeyond, 4, (some .boolean), "isBeyond", { frames := 0, cells := 0, slots := 0, locals := 0 })
theorem D_X11_isBeyond : tbOK (i_X11_isBeyond).2.1 tb_X11_isBeyond := by show ∀ q ∈ tb_X11_isBeyond, decode cX11_isBeyond q.1 = .ok (q.2.1, q.2.2); decide +kernel
def po_X11_isBeyond (S : Sk) (I : II) (r : Int32) : Option LV × Sk × II := (some (vI r), S, I)
def f_X11_isBeyond (fu : Nat) (S : Sk) (I : II) (x0 : Int32) (n1 : Int64) (x3 : Int32) : Option (Int32) :=
  if x0 < 0 then some ((1 : Int32)) else if (lg_cmp n1 (0 : Int64)) < 0 then some ((1 : Int32)) else if (lg_cmp (x0.toInt64 + n1) x3.toInt64) ≤ 0 then some ((0 : Int32)) else some ((1 : Int32))
set_option maxRecDepth 100000 in
set_option maxHeartbeats 4000000 in
theorem gg_X11_isBeyond {E : EV} (fu : Nat) (S0 : Sk) (I0 : II) (x0 : Int32) (n1 : Int64) (x3 : Int32) : GG E i_X11_isBeyond (enM E i_X11_isBeyond S0 (po_X11_isBeyond S0 I0)) S0 I0 (0, 0) 0 [(0, vI x0), (1, vL n1), (3, vI x3)] [] (f_X11_isBeyond fu S0 I0 x0 n1 x3) := by
  unfold f_X11_isBeyond
  refine g_iload_n (dk D_X11_isBeyond 0 rfl) rfl ?_
  refine g_if_lt (tgt := 20) (dk D_X11_isBeyond 1 rfl) rfl (fun hc1 => ?_) (fun hc1 => ?_)
  · refine g_iconst (v := (1 : Int32)) (dk D_X11_isBeyond 14 rfl) rfl ?_
    refine g_goto (tgt := 25) (dk D_X11_isBeyond 15 rfl) rfl ?_
    exact g_zreturn rfl rfl (Or.inr rfl) Sx.rf rfl (by decide) (by decide) (dk D_X11_isBeyond 17 rfl)
  · refine g_lload_n (dk D_X11_isBeyond 2 rfl) rfl ?_
    refine g_lconst (v := (0 : Int64)) (dk D_X11_isBeyond 3 rfl) rfl ?_
    refine g_lcmp (dk D_X11_isBeyond 4 rfl) ?_
    refine g_if_lt (tgt := 20) (dk D_X11_isBeyond 5 rfl) rfl (fun hc2 => ?_) (fun hc2 => ?_)
    · refine g_iconst (v := (1 : Int32)) (dk D_X11_isBeyond 14 rfl) rfl ?_
      refine g_goto (tgt := 25) (dk D_X11_isBeyond 15 rfl) rfl ?_
      exact g_zreturn rfl rfl (Or.inr rfl) Sx.rf rfl (by decide) (by decide) (dk D_X11_isBeyond 17 rfl)
    · refine g_iload_n (dk D_X11_isBeyond 6 rfl) rfl ?_
      refine g_i2l (dk D_X11_isBeyond 7 rfl) ?_
      refine g_lload_n (dk D_X11_isBeyond 8 rfl) rfl ?_
      refine g_ladd (dk D_X11_isBeyond 9 rfl) ?_
      refine g_iload_n (dk D_X11_isBeyond 10 rfl) rfl ?_
      refine g_i2l (dk D_X11_isBeyond 11 rfl) ?_
      refine g_lcmp (dk D_X11_isBeyond 12 rfl) ?_
      refine g_if_le (tgt := 24) (dk D_X11_isBeyond 13 rfl) rfl (fun hc3 => ?_) (fun hc3 => ?_)
      · refine g_iconst (v := (0 : Int32)) (dk D_X11_isBeyond 16 rfl) rfl ?_
        exact g_zreturn rfl rfl (Or.inl rfl) Sx.rf rfl (by decide) (by decide) (dk D_X11_isBeyond 17 rfl)
      · refine g_iconst (v := (1 : Int32)) (dk D_X11_isBeyond 14 rfl) rfl ?_
        refine g_goto (tgt := 25) (dk D_X11_isBeyond 15 rfl) rfl ?_
        exact g_zreturn rfl rfl (Or.inr rfl) Sx.rf rfl (by decide) (by decide) (dk D_X11_isBeyond 17 rfl)
def t_X11_isBeyond (x0 : Int32) (n1 : Int64) (x3 : Int32) : Int32 :=
  if x0 < 0 then (1 : Int32) else if (lg_cmp n1 (0 : Int64)) < 0 then (1 : Int32) else if (lg_cmp (x0.toInt64 + n1) x3.toInt64) ≤ 0 then (0 : Int32) else (1 : Int32)
theorem ft_X11_isBeyond (fu : Nat) (S : Sk) (I0 : II) (x0 : Int32) (n1 : Int64) (x3 : Int32) : f_X11_isBeyond fu S I0 x0 n1 x3 = some (t_X11_isBeyond x0 n1 x3) := by
  simp only [f_X11_isBeyond, t_X11_isBeyond, lt, apply_ite some]
theorem z_X11_isBeyond (x0 : Int32) (n1 : Int64) (x3 : Int32) : t_X11_isBeyond x0 n1 x3 = 0 ∨ t_X11_isBeyond x0 n1 x3 = 1 := by
  unfold t_X11_isBeyond
  (repeat' split) <;> first | exact Or.inl rfl | exact Or.inr rfl
theorem c_X11_isBeyond {E : EV} (S0 : Sk) (I0 : II) (x0 : Int32) (n1 : Int64) (x3 : Int32) : MX E yX11_isBeyond i_X11_isBeyond S0 I0 [vI x0, vL n1, vI x3] (po_X11_isBeyond S0 I0 (t_X11_isBeyond x0 n1 x3)) :=
  MX.of (ft_X11_isBeyond 0 S0 I0 x0 n1 x3) (by decide) rfl rfl (Nat.le_of_ble_eq_true rfl) (gg_X11_isBeyond 0 S0 I0 x0 n1 x3)
theorem cl_RX11_152 : CS0 RX11 152 yX11_isBeyond i_X11_isBeyond 3 := ⟨⟨(gm 1196 (by decide +kernel) (by decide +kernel)), (gm 72 (by decide +kernel) (by decide +kernel)), (gm 1198 (by decide +kernel) (by decide +kernel)), by decide +kernel, by decide +kernel, by decide +kernel⟩, (gm 1197 (by decide +kernel) (by decide +kernel))⟩
theorem cl_RX11_149 : CV0 RX11 149 yX11_failed i_X11_failed 1 11 := ⟨⟨(gm 1192 (by decide +kernel) (by decide +kernel)), (gm 72 (by decide +kernel) (by decide +kernel)), ((gm 1195 (by decide +kernel) (by decide +kernel))), by decide +kernel, by decide +kernel, by decide +kernel⟩, ⟨(gm 1194 (by decide +kernel) (by decide +kernel)), (gm 29 (by decide +kernel) (by decide +kernel))⟩, rfl, by decide⟩
theorem lk_RX11_143 : Cond.constantLong RX11 143 (2 : Int64) ∈ lw_good := (gm 1185 (by decide +kernel) (by decide +kernel))
theorem cl_RX11_145 : CV0 RX11 145 yX11_refused i_X11_refused 1 11 := ⟨⟨(gm 1181 (by decide +kernel) (by decide +kernel)), (gm 72 (by decide +kernel) (by decide +kernel)), ((gm 1184 (by decide +kernel) (by decide +kernel))), by decide +kernel, by decide +kernel, by decide +kernel⟩, ⟨(gm 1183 (by decide +kernel) (by decide +kernel)), (gm 27 (by decide +kernel) (by decide +kernel))⟩, rfl, by decide⟩
def tb_X11_barred : List (Nat × Instr × Nat) := [(0, .iload_n 2, 1), (1, .i2l, 1), (2, .lconst 0, 1), (3, .ldc2_w 143, 3), (6, .invokestatic 132, 3), (9, .ifCond .ne 10, 3), (12, .aload_n 0, 1), (13, .bipush (-2), 2), (15, .invokevirtual 145, 3), (18, .ireturn, 1), (19, .aload_n 0, 1), (20, .getfield 112, 3), (23, .iload_n 1, 1), (24, .iaload, 1), (25, .ifCond .lt 19, 3), (28, .aload_n 0, 1), (29, .getfield 115, 3), (32, .iload_n 1, 1), (33, .iaload, 1), (34, .iload_n 2, 1), (35, .if_icmp .eq 9, 3), (38, .aload_n 0, 1), (39, .iconst 2, 1), (40, .invokevirtual 149, 3), (43, .ireturn, 1), (44, .aload_n 0, 1), (45, .getfield 112, 3), (48, .iload_n 1, 1), (49, .iaload, 1), (50, .ifCond .ge 9, 3), (53, .aload_n 0, 1), (54, .iconst 1, 1), (55, .invokevirtual 149, 3), (58, .ireturn, 1), (59, .lload 4, 2), (61, .lconst 0, 1), (62, .lcmp, 1), (63, .ifCond .ge 9, 3), (66, .aload_n 0, 1), (67, .iconst 4, 1), (68, .invokevirtual 149, 3), (71, .ireturn, 1), (72, .iload_n 3, 1), (73, .lload 4, 2), (75, .aload_n 0, 1), (76, .getfield 112, 3), (79, .iload_n 1, 1), (80, .iaload, 1), (81, .invokestatic 152, 3), (84, .ifCond .eq 11, 3), (87, .aload_n 0, 1), (88, .iconst 3, 1), (89, .invokevirtual 149, 3), (92, .goto 4, 3), (95, .iconst 0, 1), (96, .ireturn, 1)]
def i_X11_barred : MI := (RX11, cX11_barred, 6, (some .int), "barred", { frames := 1, cells := 0, slots := 0, locals := 25 })
theorem D_X11_barred : tbOK (i_X11_barred).2.1 tb_X11_barred := by show ∀ q ∈ tb_X11_barred, decode cX11_barred q.1 = .ok (q.2.1, q.2.2); decide +kernel
def po_X11_barred (S : Sk) (I : II) (r : Int32 × II) : Option LV × Sk × II := (some (vI r.1), S, r.2)
def jn_X11_barred_44 (fu : Nat) (S : Sk) (I : II) (a0 : Nat) (x1 : Int32) (x3 : Int32) (n4 : Int64) : Option (Int32 × II) :=
  gd (inb S (S.1 a0 52) x1) (if 0 ≤ (rd I (S.1 a0 52) x1) then if 0 ≤ (lg_cmp n4 (0 : Int64)) then if (t_X11_isBeyond x3 n4 (rd I (S.1 a0 52) x1)) = 0 then some (((0 : Int32), I)) else (f_X11_failed fu S I a0 (3 : Int32)).bind fun q8 => (some ((q8.1, q8.2))) else (f_X11_failed fu S I a0 (4 : Int32)).bind fun q11 => (some ((q11.1, q11.2))) else (f_X11_failed fu S I a0 (1 : Int32)).bind fun q14 => (some ((q14.1, q14.2))))
def f_X11_barred (fu : Nat) (S : Sk) (I : II) (a0 : Nat) (x1 : Int32) (x2 : Int32) (x3 : Int32) (n4 : Int64) : Option (Int32 × II) :=
  if (t_X11_in x2.toInt64 (0 : Int64) (2 : Int64)) = 0 then (f_X11_refused fu S I a0 ((-2) : Int32)).bind fun q28 => (some ((q28.1, q28.2))) else gd (inb S (S.1 a0 52) x1) (if (rd I (S.1 a0 52) x1) < 0 then jn_X11_barred_44 fu S I a0 x1 x3 n4 else gd (inb S (S.1 a0 53) x1) (if (rd I (S.1 a0 53) x1) = x2 then jn_X11_barred_44 fu S I a0 x1 x3 n4 else (f_X11_failed fu S I a0 (2 : Int32)).bind fun q25 => (some ((q25.1, q25.2)))))
set_option maxRecDepth 100000 in
set_option maxHeartbeats 4000000 in
theorem gg_X11_barred {E : EV} (fu : Nat) (S0 : Sk) (I0 : II) (a0 : Nat) (x1 : Int32) (x2 : Int32) (x3 : Int32) (n4 : Int64) (ht0 : tyO S0 11 a0) : GG E i_X11_barred (enM E i_X11_barred S0 (po_X11_barred S0 I0)) S0 I0 (0, 0) 0 [(0, vA (a0 + 1)), (1, vI x1), (2, vI x2), (3, vI x3), (4, vL n4)] [] (f_X11_barred fu S0 I0 a0 x1 x2 x3 n4) := by
  have hj44 : ∀ (I : II), GG E i_X11_barred (enM E i_X11_barred S0 (po_X11_barred S0 I0)) S0 I (0, 0) 44 [(0, vA (a0 + 1)), (1, vI x1), (3, vI x3), (4, vL n4)] [] (jn_X11_barred_44 fu S0 I a0 x1 x3 n4) := by
    intro I  
    unfold jn_X11_barred_44
    refine g_aload_n (dk D_X11_barred 25 rfl) rfl ?_
    refine g_getAt (t := 100) fl_RX11_112 rfl ht0 (dk D_X11_barred 26 rfl) (fun ht1 => ?_)
    refine g_iload_n (dk D_X11_barred 27 rfl) rfl ?_
    refine g_gd (fun hi2 => ?_)
    refine g_iaload ht1 hi2 (dk D_X11_barred 28 rfl) ?_
    refine g_if_ge (tgt := 59) (dk D_X11_barred 29 rfl) rfl (fun hc3 => ?_) (fun hc3 => ?_)
    · refine g_lload (dk D_X11_barred 34 rfl) rfl ?_
      refine g_lconst (v := (0 : Int64)) (dk D_X11_barred 35 rfl) rfl ?_
      refine g_lcmp (dk D_X11_barred 36 rfl) ?_
      refine g_if_ge (tgt := 72) (dk D_X11_barred 37 rfl) rfl (fun hc4 => ?_) (fun hc4 => ?_)
      · refine g_iload_n (dk D_X11_barred 42 rfl) rfl ?_
        refine g_lload (dk D_X11_barred 43 rfl) rfl ?_
        refine g_aload_n (dk D_X11_barred 44 rfl) rfl ?_
        refine g_getAt (t := 100) fl_RX11_112 rfl ht0 (dk D_X11_barred 45 rfl) (fun ht5 => ?_)
        refine g_iload_n (dk D_X11_barred 46 rfl) rfl ?_
        refine g_iaload ht1 hi2 (dk D_X11_barred 47 rfl) ?_
        refine h_callS (st := []) (c_X11_isBeyond (E := E) S0 I x3 n4 (rd I (S0.1 a0 52) x1)) cl_RX11_152 rfl rfl (by decide) (Nat.le_of_ble_eq_true rfl) (dk D_X11_barred 48 rfl) ?_
        refine g_if_eq (tgt := 95) (dk D_X11_barred 49 rfl) rfl (fun hc7 => ?_) (fun hc7 => ?_)
        · refine g_iconst (v := (0 : Int32)) (dk D_X11_barred 54 rfl) rfl ?_
          exact g_ireturn rfl rfl Sx.rf rfl (by decide) (by decide) (dk D_X11_barred 55 rfl)
        · refine g_aload_n (dk D_X11_barred 50 rfl) rfl ?_
          refine g_iconst (v := (3 : Int32)) (dk D_X11_barred 51 rfl) rfl ?_
          refine g_bind (fun q8 hq9 => ?_)
          refine h_callVt (st := []) (c_X11_failed (E := E) fu S0 I a0 (3 : Int32) q8 hq9 (ht0)) cl_RX11_149 ht0 rfl rfl (by decide) (Nat.le_of_ble_eq_true rfl) (dk D_X11_barred 52 rfl) ?_
          refine g_goto (tgt := 96) (dk D_X11_barred 53 rfl) rfl ?_
          exact g_ireturn rfl rfl Sx.rf rfl (by decide) (by decide) (dk D_X11_barred 55 rfl)
      · refine g_aload_n (dk D_X11_barred 38 rfl) rfl ?_
        refine g_iconst (v := (4 : Int32)) (dk D_X11_barred 39 rfl) rfl ?_
        refine g_bind (fun q11 hq12 => ?_)
        refine h_callVt (st := []) (c_X11_failed (E := E) fu S0 I a0 (4 : Int32) q11 hq12 (ht0)) cl_RX11_149 ht0 rfl rfl (by decide) (Nat.le_of_ble_eq_true rfl) (dk D_X11_barred 40 rfl) ?_
        exact g_ireturn rfl rfl Sx.rf rfl (by decide) (by decide) (dk D_X11_barred 41 rfl)
    · refine g_aload_n (dk D_X11_barred 30 rfl) rfl ?_
      refine g_iconst (v := (1 : Int32)) (dk D_X11_barred 31 rfl) rfl ?_
      refine g_bind (fun q14 hq15 => ?_)
      refine h_callVt (st := []) (c_X11_failed (E := E) fu S0 I a0 (1 : Int32) q14 hq15 (ht0)) cl_RX11_149 ht0 rfl rfl (by decide) (Nat.le_of_ble_eq_true rfl) (dk D_X11_barred 32 rfl) ?_
      exact g_ireturn rfl rfl Sx.rf rfl (by decide) (by decide) (dk D_X11_barred 33 rfl)
  unfold f_X11_barred
  refine g_iload_n (dk D_X11_barred 0 rfl) rfl ?_
  refine g_i2l (dk D_X11_barred 1 rfl) ?_
  refine g_lconst (v := (0 : Int64)) (dk D_X11_barred 2 rfl) rfl ?_
  refine g_ldc2 (dk D_X11_barred 3 rfl) lk_RX11_143 ?_
  refine h_callS (st := []) (c_X11_in (E := E) S0 I0 x2.toInt64 (0 : Int64) (2 : Int64)) cl_RX11_132 rfl rfl (by decide) (Nat.le_of_ble_eq_true rfl) (dk D_X11_barred 4 rfl) ?_
  refine g_if_ne (tgt := 19) (dk D_X11_barred 5 rfl) rfl (fun hc18 => ?_) (fun hc18 => ?_)
  · refine g_aload_n (dk D_X11_barred 10 rfl) rfl ?_
    refine g_getAt (t := 100) fl_RX11_112 rfl ht0 (dk D_X11_barred 11 rfl) (fun ht19 => ?_)
    refine g_iload_n (dk D_X11_barred 12 rfl) rfl ?_
    refine g_gd (fun hi20 => ?_)
    refine g_iaload ht19 hi20 (dk D_X11_barred 13 rfl) ?_
    refine g_if_lt (tgt := 44) (dk D_X11_barred 14 rfl) rfl (fun hc21 => ?_) (fun hc21 => ?_)
    · refine g_Lp [0, 1, 3, 4] rfl ?_
      exact hj44 I0
    · refine g_aload_n (dk D_X11_barred 15 rfl) rfl ?_
      refine g_getAt (t := 100) fl_RX11_115 rfl ht0 (dk D_X11_barred 16 rfl) (fun ht22 => ?_)
      refine g_iload_n (dk D_X11_barred 17 rfl) rfl ?_
      refine g_gd (fun hi23 => ?_)
      refine g_iaload ht22 hi23 (dk D_X11_barred 18 rfl) ?_
      refine g_iload_n (dk D_X11_barred 19 rfl) rfl ?_
      refine g_icmp_eq (tgt := 44) (dk D_X11_barred 20 rfl) rfl (fun hc24 => ?_) (fun hc24 => ?_)
      · refine g_Lp [0, 1, 3, 4] rfl ?_
        exact hj44 I0
      · refine g_aload_n (dk D_X11_barred 21 rfl) rfl ?_
        refine g_iconst (v := (2 : Int32)) (dk D_X11_barred 22 rfl) rfl ?_
        refine g_bind (fun q25 hq26 => ?_)
        refine h_callVt (st := []) (c_X11_failed (E := E) fu S0 I0 a0 (2 : Int32) q25 hq26 (ht0)) cl_RX11_149 ht0 rfl rfl (by decide) (Nat.le_of_ble_eq_true rfl) (dk D_X11_barred 23 rfl) ?_
        exact g_ireturn rfl rfl Sx.rf rfl (by decide) (by decide) (dk D_X11_barred 24 rfl)
  · refine g_aload_n (dk D_X11_barred 6 rfl) rfl ?_
    refine g_bipush (v := ((-2) : Int32)) (dk D_X11_barred 7 rfl) rfl ?_
    refine g_bind (fun q28 hq29 => ?_)
    refine h_callVt (st := []) (c_X11_refused (E := E) fu S0 I0 a0 ((-2) : Int32) q28 hq29 (ht0)) cl_RX11_145 ht0 rfl rfl (by decide) (Nat.le_of_ble_eq_true rfl) (dk D_X11_barred 8 rfl) ?_
    exact g_ireturn rfl rfl Sx.rf rfl (by decide) (by decide) (dk D_X11_barred 9 rfl)
theorem c_X11_barred {E : EV} (fu : Nat) (S0 : Sk) (I0 : II) (a0 : Nat) (x1 : Int32) (x2 : Int32) (x3 : Int32) (n4 : Int64) (r : Int32 × II) (h : f_X11_barred fu S0 I0 a0 x1 x2 x3 n4 = some r) (ht0 : tyO S0 11 a0) : MX E yX11_barred i_X11_barred S0 I0 [vA (a0 + 1), vI x1, vI x2, vI x3, vL n4] (po_X11_barred S0 I0 r) :=
  MX.of h (by decide) rfl rfl (Nat.le_of_ble_eq_true rfl) (gg_X11_barred fu S0 I0 a0 x1 x2 x3 n4 ht0)
theorem fl_RX11_156 : FL RX11 156 11 1 := ⟨RX11, TX11, 57, rfl, by decide, rfl, by decide, (gm 979 (by decide +kernel) (by decide +kernel)), inG11⟩
def tb_X11_noStop : List (Nat × Instr × Nat) := [(0, .iload_n 1, 1), (1, .i2l, 1), (2, .lconst 0, 1), (3, .aload_n 0, 1), (4, .getfield 156, 3), (7, .i2l, 1), (8, .lconst 1, 1), (9, .lsub, 1), (10, .invokestatic 132, 3), (13, .ifCond .ne 7, 3), (16, .iconst 1, 1), (17, .goto 4, 3), (20, .iconst 0, 1), (21, .ireturn, 1)]
def i_X11_noStop : MI := (RX11, cX11_noStop, 2, (some .boolean), "noStop", { frames := 1, cells := 0, slots := 0, locals := 25 })
theorem D_X11_noStop : tbOK (i_X11_noStop).2.1 tb_X11_noStop := by show ∀ q ∈ tb_X11_noStop, decode cX11_noStop q.1 = .ok (q.2.1, q.2.2); decide +kernel
def po_X11_noStop (S : Sk) (I : II) (r : Int32) : Option LV × Sk × II := (some (vI r), S, I)
def f_X11_noStop (fu : Nat) (S : Sk) (I : II) (a0 : Nat) (x1 : Int32) : Option (Int32) :=
  if (t_X11_in x1.toInt64 (0 : Int64) ((((I a0 1)).toInt64) - (1 : Int64))) = 0 then some ((1 : Int32)) else some ((0 : Int32))
set_option maxRecDepth 100000 in
set_option maxHeartbeats 4000000 in
theorem gg_X11_noStop {E : EV} (fu : Nat) (S0 : Sk) (I0 : II) (a0 : Nat) (x1 : Int32) (ht0 : tyO S0 11 a0) : GG E i_X11_noStop (enM E i_X11_noStop S0 (po_X11_noStop S0 I0)) S0 I0 (0, 0) 0 [(0, vA (a0 + 1)), (1, vI x1)] [] (f_X11_noStop fu S0 I0 a0 x1) := by
  unfold f_X11_noStop
  refine g_iload_n (dk D_X11_noStop 0 rfl) rfl ?_
  refine g_i2l (dk D_X11_noStop 1 rfl) ?_
  refine g_lconst (v := (0 : Int64)) (dk D_X11_noStop 2 rfl) rfl ?_
  refine g_aload_n (dk D_X11_noStop 3 rfl) rfl ?_
  refine g_getIt fl_RX11_156 (by decide) ht0 (dk D_X11_noStop 4 rfl) ?_
  refine g_i2l (dk D_X11_noStop 5 rfl) ?_
  refine g_lconst (v := (1 : Int64)) (dk D_X11_noStop 6 rfl) rfl ?_
  refine g_lsub (dk D_X11_noStop 7 rfl) ?_
  refine h_callS (st := []) (c_X11_in (E := E) S0 I0 x1.toInt64 (0 : Int64) ((((I0 a0 1)).toInt64) - (1 : Int64))) cl_RX11_132 rfl rfl (by decide) (Nat.le_of_ble_eq_true rfl) (dk D_X11_noStop 8 rfl) ?_
  refine g_if_ne (tgt := 20) (dk D_X11_noStop 9 rfl) rfl (fun hc2 => ?_) (fun hc2 => ?_)
  · refine g_iconst (v := (0 : Int32)) (dk D_X11_noStop 12 rfl) rfl ?_
    exact g_zreturn rfl rfl (Or.inl rfl) Sx.rf rfl (by decide) (by decide) (dk D_X11_noStop 13 rfl)
  · refine g_iconst (v := (1 : Int32)) (dk D_X11_noStop 10 rfl) rfl ?_
    refine g_goto (tgt := 21) (dk D_X11_noStop 11 rfl) rfl ?_
    exact g_zreturn rfl rfl (Or.inr rfl) Sx.rf rfl (by decide) (by decide) (dk D_X11_noStop 13 rfl)
def t_X11_noStop (I : II) (a0 : Nat) (x1 : Int32) : Int32 :=
  if (t_X11_in x1.toInt64 (0 : Int64) ((((I a0 1)).toInt64) - (1 : Int64))) = 0 then (1 : Int32) else (0 : Int32)
theorem ft_X11_noStop (fu : Nat) (S : Sk) (I0 : II) (a0 : Nat) (x1 : Int32) : f_X11_noStop fu S I0 a0 x1 = some (t_X11_noStop I0 a0 x1) := by
  simp only [f_X11_noStop, t_X11_noStop, lt, apply_ite some]
theorem z_X11_noStop (I : II) (a0 : Nat) (x1 : Int32) : t_X11_noStop I a0 x1 = 0 ∨ t_X11_noStop I a0 x1 = 1 := by
  unfold t_X11_noStop
  (repeat' split) <;> first | exact Or.inl rfl | exact Or.inr rfl
theorem c_X11_noStop {E : EV} (S0 : Sk) (I0 : II) (a0 : Nat) (x1 : Int32) (ht0 : tyO S0 11 a0) : MX E yX11_noStop i_X11_noStop S0 I0 [vA (a0 + 1), vI x1] (po_X11_noStop S0 I0 (t_X11_noStop I0 a0 x1)) :=
  MX.of (ft_X11_noStop 0 S0 I0 a0 x1) (by decide) rfl rfl (Nat.le_of_ble_eq_true rfl) (gg_X11_noStop 0 S0 I0 a0 x1 ht0)
theorem lk_RX11_159 : Cond.constantLong RX11 159 (40 : Int64) ∈ lw_good := (gm 1154 (by decide +kernel) (by decide +kernel))
theorem fp_11_1 : FP 11 1 (tyX11 1) false := ⟨RX11, TX11, 57, tyX11, rfl, tyX11_ok, nmX11, rfl, rfl, rfl⟩
def tb_X11_stop : List (Nat × Instr × Nat) := [(0, .iload_n 1, 1), (1, .i2l, 1), (2, .lconst 0, 1), (3, .ldc2_w 159, 3), (6, .invokestatic 132, 3), (9, .ifCond .eq 15, 3), (12, .iload_n 2, 1), (13, .i2l, 1), (14, .lconst 0, 1), (15, .ldc2_w 159, 3), (18, .invokestatic 132, 3), (21, .ifCond .ne 6, 3), (24, .bipush (-2), 2), (26, .ireturn, 1), (27, .aload_n 0, 1), (28, .getfield 156, 3), (31, .bipush 16, 2), (33, .if_icmp .ne 6, 3), (36, .bipush (-4), 2), (38, .ireturn, 1), (39, .aload_n 0, 1), (40, .getfield 7, 3), (43, .aload_n 0, 1), (44, .getfield 156, 3), (47, .iload_n 1, 1), (48, .iastore, 1), (49, .aload_n 0, 1), (50, .getfield 13, 3), (53, .aload_n 0, 1), (54, .getfield 156, 3), (57, .iload_n 2, 1), (58, .iastore, 1), (59, .aload_n 0, 1), (60, .dup, 1), (61, .getfield 156, 3), (64, .iconst 1, 1), (65, .iadd, 1), (66, .putfield 156, 3), (69, .aload_n 0, 1), (70, .getfield 156, 3), (73, .iconst 1, 1), (74, .isub, 1), (75, .ireturn, 1)]
def i_X11_stop : MI := (RX11, cX11_stop, 3, (some .int), "stop", { frames := 1, cells := 0, slots := 0, locals := 25 })
theorem D_X11_stop : tbOK (i_X11_stop).2.1 tb_X11_stop := by show ∀ q ∈ tb_X11_stop, decode cX11_stop q.1 = .ok (q.2.1, q.2.2); decide +kernel
def po_X11_stop (S : Sk) (I : II) (r : Int32 × II) : Option LV × Sk × II := (some (vI r.1), S, r.2)
def f_X11_stop (fu : Nat) (S : Sk) (I : II) (a0 : Nat) (x1 : Int32) (x2 : Int32) : Option (Int32 × II) :=
  if (t_X11_in x1.toInt64 (0 : Int64) (40 : Int64)) = 0 then some ((((-2) : Int32), I)) else if (t_X11_in x2.toInt64 (0 : Int64) (40 : Int64)) = 0 then some ((((-2) : Int32), I)) else if (I a0 1) = (16 : Int32) then some ((((-4) : Int32), I)) else gd (inb S (S.1 a0 2) (I a0 1)) (lt (wr I (S.1 a0 2) (I a0 1) x1) fun I8 => (gd (inb S (S.1 a0 3) (I8 a0 1)) (lt (wr I8 (S.1 a0 3) (I8 a0 1) x2) fun I11 => (lt (upI I11 a0 1 ((I11 a0 1) + (1 : Int32))) fun I12 => (some ((((I12 a0 1) - (1 : Int32)), I12)))))))
set_option maxRecDepth 100000 in
set_option maxHeartbeats 4000000 in
theorem gg_X11_stop {E : EV} (fu : Nat) (S0 : Sk) (I0 : II) (a0 : Nat) (x1 : Int32) (x2 : Int32) (ht0 : tyO S0 11 a0) : GG E i_X11_stop (enM E i_X11_stop S0 (po_X11_stop S0 I0)) S0 I0 (0, 0) 0 [(0, vA (a0 + 1)), (1, vI x1), (2, vI x2)] [] (f_X11_stop fu S0 I0 a0 x1 x2) := by
  unfold f_X11_stop
  refine g_iload_n (dk D_X11_stop 0 rfl) rfl ?_
  refine g_i2l (dk D_X11_stop 1 rfl) ?_
  refine g_lconst (v := (0 : Int64)) (dk D_X11_stop 2 rfl) rfl ?_
  refine g_ldc2 (dk D_X11_stop 3 rfl) lk_RX11_159 ?_
  refine h_callS (st := []) (c_X11_in (E := E) S0 I0 x1.toInt64 (0 : Int64) (40 : Int64)) cl_RX11_132 rfl rfl (by decide) (Nat.le_of_ble_eq_true rfl) (dk D_X11_stop 4 rfl) ?_
  refine g_if_eq (tgt := 24) (dk D_X11_stop 5 rfl) rfl (fun hc2 => ?_) (fun hc2 => ?_)
  · refine g_bipush (v := ((-2) : Int32)) (dk D_X11_stop 12 rfl) rfl ?_
    exact g_ireturn rfl rfl Sx.rf rfl (by decide) (by decide) (dk D_X11_stop 13 rfl)
  · refine g_iload_n (dk D_X11_stop 6 rfl) rfl ?_
    refine g_i2l (dk D_X11_stop 7 rfl) ?_
    refine g_lconst (v := (0 : Int64)) (dk D_X11_stop 8 rfl) rfl ?_
    refine g_ldc2 (dk D_X11_stop 9 rfl) lk_RX11_159 ?_
    refine h_callS (st := []) (c_X11_in (E := E) S0 I0 x2.toInt64 (0 : Int64) (40 : Int64)) cl_RX11_132 rfl rfl (by decide) (Nat.le_of_ble_eq_true rfl) (dk D_X11_stop 10 rfl) ?_
    refine g_if_ne (tgt := 27) (dk D_X11_stop 11 rfl) rfl (fun hc4 => ?_) (fun hc4 => ?_)
    · refine g_aload_n (dk D_X11_stop 14 rfl) rfl ?_
      refine g_getIt fl_RX11_156 (by decide) ht0 (dk D_X11_stop 15 rfl) ?_
      refine g_bipush (v := (16 : Int32)) (dk D_X11_stop 16 rfl) rfl ?_
      refine g_icmp_ne (tgt := 39) (dk D_X11_stop 17 rfl) rfl (fun hc5 => ?_) (fun hc5 => ?_)
      · refine g_aload_n (dk D_X11_stop 20 rfl) rfl ?_
        refine g_getAt (t := 100) fl_RX11_7 rfl ht0 (dk D_X11_stop 21 rfl) (fun ht6 => ?_)
        refine g_aload_n (dk D_X11_stop 22 rfl) rfl ?_
        refine g_getIt fl_RX11_156 (by decide) ht0 (dk D_X11_stop 23 rfl) ?_
        refine g_iload_n (dk D_X11_stop 24 rfl) rfl ?_
        refine g_gd (fun hi7 => ?_)
        refine g_iastore ht6 hi7 (dk D_X11_stop 25 rfl) ?_
        refine g_ltI (fun I8 eI8 => ?_)
        refine g_aload_n (dk D_X11_stop 26 rfl) rfl ?_
        refine g_getAt (t := 100) fl_RX11_13 rfl ht0 (dk D_X11_stop 27 rfl) (fun ht9 => ?_)
        refine g_aload_n (dk D_X11_stop 28 rfl) rfl ?_
        refine g_getIt fl_RX11_156 (by decide) ht0 (dk D_X11_stop 29 rfl) ?_
        refine g_iload_n (dk D_X11_stop 30 rfl) rfl ?_
        refine g_gd (fun hi10 => ?_)
        refine g_iastore ht9 hi10 (dk D_X11_stop 31 rfl) ?_
        refine g_ltI (fun I11 eI11 => ?_)
        refine g_aload_n (dk D_X11_stop 32 rfl) rfl ?_
        refine g_dup (dk D_X11_stop 33 rfl) rfl ?_
        refine g_getIt fl_RX11_156 (by decide) ht0 (dk D_X11_stop 34 rfl) ?_
        refine g_iconst (v := (1 : Int32)) (dk D_X11_stop 35 rfl) rfl ?_
        refine g_iadd (dk D_X11_stop 36 rfl) ?_
        refine g_putIt fl_RX11_156 fp_11_1 (fun h => (by cases h)) (by decide) rfl rfl ht0 (dk D_X11_stop 37 rfl) ?_
        refine g_ltI (fun I12 eI12 => ?_)
        refine g_aload_n (dk D_X11_stop 38 rfl) rfl ?_
        refine g_getIt fl_RX11_156 (by decide) ht0 (dk D_X11_stop 39 rfl) ?_
        refine g_iconst (v := (1 : Int32)) (dk D_X11_stop 40 rfl) rfl ?_
        refine g_isub (dk D_X11_stop 41 rfl) ?_
        exact g_ireturn rfl rfl Sx.rf rfl (by decide) (by decide) (dk D_X11_stop 42 rfl)
      · refine g_bipush (v := ((-4) : Int32)) (dk D_X11_stop 18 rfl) rfl ?_
        exact g_ireturn rfl rfl Sx.rf rfl (by decide) (by decide) (dk D_X11_stop 19 rfl)
    · refine g_bipush (v := ((-2) : Int32)) (dk D_X11_stop 12 rfl) rfl ?_
      exact g_ireturn rfl rfl Sx.rf rfl (by decide) (by decide) (dk D_X11_stop 13 rfl)
theorem c_X11_stop {E : EV} (fu : Nat) (S0 : Sk) (I0 : II) (a0 : Nat) (x1 : Int32) (x2 : Int32) (r : Int32 × II) (h : f_X11_stop fu S0 I0 a0 x1 x2 = some r) (ht0 : tyO S0 11 a0) : MX E yX11_stop i_X11_stop S0 I0 [vA (a0 + 1), vI x1, vI x2] (po_X11_stop S0 I0 r) :=
  MX.of h (by decide) rfl rfl (Nat.le_of_ble_eq_true rfl) (gg_X11_stop fu S0 I0 a0 x1 x2 ht0)
theorem cl_RX11_161 : CS0 RX11 161 yX11_sizeOf i_X11_sizeOf 1 := ⟨⟨(gm 1170 (by decide +kernel) (by decide +kernel)), (gm 72 (by decide +kernel) (by decide +kernel)), (gm 1172 (by decide +kernel) (by decide +kernel)), by decide +kernel, by decide +kernel, by decide +kernel⟩, (gm 1171 (by decide +kernel) (by decide +kernel))⟩
def tb_X11_farOf : List (Nat × Instr × Nat) := [(0, .aload_n 0, 1), (1, .getfield 7, 3), (4, .iload_n 1, 1), (5, .iaload, 1), (6, .aload_n 0, 1), (7, .getfield 7, 3), (10, .iload_n 2, 1), (11, .iaload, 1), (12, .isub, 1), (13, .invokestatic 161, 3), (16, .aload_n 0, 1), (17, .getfield 13, 3), (20, .iload_n 1, 1), (21, .iaload, 1), (22, .aload_n 0, 1), (23, .getfield 13, 3), (26, .iload_n 2, 1), (27, .iaload, 1), (28, .isub, 1), (29, .invokestatic 161, 3), (32, .iadd, 1), (33, .ireturn, 1)]
def i_X11_farOf : MI := (RX11, cX11_farOf, 3, (some .int), "farOf", { frames := 1, cells := 0, slots := 0, locals := 20 })
theorem D_X11_farOf : tbOK (i_X11_farOf).2.1 tb_X11_farOf := by show ∀ q ∈ tb_X11_farOf, decode cX11_farOf q.1 = .ok (q.2.1, q.2.2); decide +kernel
def po_X11_farOf (S : Sk) (I : II) (r : Int32) : Option LV × Sk × II := (some (vI r), S, I)
def f_X11_farOf (fu : Nat) (S : Sk) (I : II) (a0 : Nat) (x1 : Int32) (x2 : Int32) : Option (Int32) :=
  gd (inb S (S.1 a0 2) x1) (gd (inb S (S.1 a0 2) x2) (gd (inb S (S.1 a0 3) x1) (gd (inb S (S.1 a0 3) x2) (some (((t_X11_sizeOf ((rd I (S.1 a0 2) x1) - (rd I (S.1 a0 2) x2))) + (t_X11_sizeOf ((rd I (S.1 a0 3) x1) - (rd I (S.1 a0 3) x2)))))))))
set_option maxRecDepth 100000 in
set_option maxHeartbeats 4000000 in
theorem gg_X11_farOf {E : EV} (fu : Nat) (S0 : Sk) (I0 : II) (a0 : Nat) (x1 : Int32) (x2 : Int32) (ht0 : tyO S0 11 a0) : GG E i_X11_farOf (enM E i_X11_farOf S0 (po_X11_farOf S0 I0)) S0 I0 (0, 0) 0 [(0, vA (a0 + 1)), (1, vI x1), (2, vI x2)] [] (f_X11_farOf fu S0 I0 a0 x1 x2) := by
  unfold f_X11_farOf
  refine g_aload_n (dk D_X11_farOf 0 rfl) rfl ?_
  refine g_getAt (t := 100) fl_RX11_7 rfl ht0 (dk D_X11_farOf 1 rfl) (fun ht1 => ?_)
  refine g_iload_n (dk D_X11_farOf 2 rfl) rfl ?_
  refine g_gd (fun hi2 => ?_)
  refine g_iaload ht1 hi2 (dk D_X11_farOf 3 rfl) ?_
  refine g_aload_n (dk D_X11_farOf 4 rfl) rfl ?_
  refine g_getAt (t := 100) fl_RX11_7 rfl ht0 (dk D_X11_farOf 5 rfl) (fun ht3 => ?_)
  refine g_iload_n (dk D_X11_farOf 6 rfl) rfl ?_
  refine g_gd (fun hi4 => ?_)
  refine g_iaload ht1 hi4 (dk D_X11_farOf 7 rfl) ?_
  refine g_isub (dk D_X11_farOf 8 rfl) ?_
  refine h_callS (st := []) (c_X11_sizeOf (E := E) S0 I0 ((rd I0 (S0.1 a0 2) x1) - (rd I0 (S0.1 a0 2) x2))) cl_RX11_161 rfl rfl (by decide) (Nat.le_of_ble_eq_true rfl) (dk D_X11_farOf 9 rfl) ?_
  refine g_aload_n (dk D_X11_farOf 10 rfl) rfl ?_
  refine g_getAt (t := 100) fl_RX11_13 rfl ht0 (dk D_X11_farOf 11 rfl) (fun ht6 => ?_)
  refine g_iload_n (dk D_X11_farOf 12 rfl) rfl ?_
  refine g_gd (fun hi7 => ?_)
  refine g_iaload ht6 hi7 (dk D_X11_farOf 13 rfl) ?_
  refine g_aload_n (dk D_X11_farOf 14 rfl) rfl ?_
  refine g_getAt (t := 100) fl_RX11_13 rfl ht0 (dk D_X11_farOf 15 rfl) (fun ht8 => ?_)
  refine g_iload_n (dk D_X11_farOf 16 rfl) rfl ?_
  refine g_gd (fun hi9 => ?_)
  refine g_iaload ht6 hi9 (dk D_X11_farOf 17 rfl) ?_
  refine g_isub (dk D_X11_farOf 18 rfl) ?_
  refine h_callS (st := [vI (t_X11_sizeOf ((rd I0 (S0.1 a0 2) x1) - (rd I0 (S0.1 a0 2) x2)))]) (c_X11_sizeOf (E := E) S0 I0 ((rd I0 (S0.1 a0 3) x1) - (rd I0 (S0.1 a0 3) x2))) cl_RX11_161 rfl rfl (by decide) (Nat.le_of_ble_eq_true rfl) (dk D_X11_farOf 19 rfl) ?_
  refine g_iadd (dk D_X11_farOf 20 rfl) ?_
  exact g_ireturn rfl rfl Sx.rf rfl (by decide) (by decide) (dk D_X11_farOf 21 rfl)
theorem c_X11_farOf {E : EV} (fu : Nat) (S0 : Sk) (I0 : II) (a0 : Nat) (x1 : Int32) (x2 : Int32) (r : Int32) (h : f_X11_farOf fu S0 I0 a0 x1 x2 = some r) (ht0 : tyO S0 11 a0) : MX E yX11_farOf i_X11_farOf S0 I0 [vA (a0 + 1), vI x1, vI x2] (po_X11_farOf S0 I0 r) :=
  MX.of h (by decide) rfl rfl (Nat.le_of_ble_eq_true rfl) (gg_X11_farOf fu S0 I0 a0 x1 x2 ht0)
theorem cl_RX11_164 : CV0 RX11 164 yX11_noStop i_X11_noStop 1 11 := ⟨⟨(gm 1162 (by decide +kernel) (by decide +kernel)), (gm 72 (by decide +kernel) (by decide +kernel)), ((gm 1165 (by decide +kernel) (by decide +kernel))), by decide +kernel, by decide +kernel, by decide +kernel⟩, ⟨(gm 1164 (by decide +kernel) (by decide +kernel)), (gm 25 (by decide +kernel) (by decide +kernel))⟩, rfl, by decide⟩
theorem cl_RX11_168 : CV0 RX11 168 yX11_farOf i_X11_farOf 2 11 := ⟨⟨(gm 1166 (by decide +kernel) (by decide +kernel)), (gm 72 (by decide +kernel) (by decide +kernel)), ((gm 1169 (by decide +kernel) (by decide +kernel))), by decide +kernel, by decide +kernel, by decide +kernel⟩, ⟨(gm 1168 (by decide +kernel) (by decide +kernel)), (gm 26 (by decide +kernel) (by decide +kernel))⟩, rfl, by decide⟩
def tb_X11_far : List (Nat × Instr × Nat) := [(0, .aload_n 0, 1), (1, .iload_n 1, 1), (2, .invokevirtual 164, 3), (5, .ifCond .ne 11, 3), (8, .aload_n 0, 1), (9, .iload_n 2, 1), (10, .invokevirtual 164, 3), (13, .ifCond .eq 7, 3), (16, .iconst (-1), 1), (17, .goto 9, 3), (20, .aload_n 0, 1), (21, .iload_n 1, 1), (22, .iload_n 2, 1), (23, .invokevirtual 168, 3), (26, .ireturn, 1)]
def i_X11_far : MI := (RX11, cX11_far, 3, (some .int), "far", { frames := 2, cells := 0, slots := 0, locals := 46 })
theorem D_X11_far : tbOK (i_X11_far).2.1 tb_X11_far := by show ∀ q ∈ tb_X11_far, decode cX11_far q.1 = .ok (q.2.1, q.2.2); decide +kernel
def po_X11_far (S : Sk) (I : II) (r : Int32) : Option LV × Sk × II := (some (vI r), S, I)
def f_X11_far (fu : Nat) (S : Sk) (I : II) (a0 : Nat) (x1 : Int32) (x2 : Int32) : Option (Int32) :=
  if (t_X11_noStop I a0 x1) = 0 then if (t_X11_noStop I a0 x2) = 0 then (f_X11_farOf fu S I a0 x1 x2).bind fun q5 => (some (q5)) else some (((-1) : Int32)) else some (((-1) : Int32))
set_option maxRecDepth 100000 in
set_option maxHeartbeats 4000000 in
theorem gg_X11_far {E : EV} (fu : Nat) (S0 : Sk) (I0 : II) (a0 : Nat) (x1 : Int32) (x2 : Int32) (ht0 : tyO S0 11 a0) : GG E i_X11_far (enM E i_X11_far S0 (po_X11_far S0 I0)) S0 I0 (0, 0) 0 [(0, vA (a0 + 1)), (1, vI x1), (2, vI x2)] [] (f_X11_far fu S0 I0 a0 x1 x2) := by
  unfold f_X11_far
  refine g_aload_n (dk D_X11_far 0 rfl) rfl ?_
  refine g_iload_n (dk D_X11_far 1 rfl) rfl ?_
  refine h_callVt (st := []) (c_X11_noStop (E := E) S0 I0 a0 x1 (ht0)) cl_RX11_164 ht0 rfl rfl (by decide) (Nat.le_of_ble_eq_true rfl) (dk D_X11_far 2 rfl) ?_
  refine g_if_ne (tgt := 16) (dk D_X11_far 3 rfl) rfl (fun hc2 => ?_) (fun hc2 => ?_)
  · refine g_iconst (v := ((-1) : Int32)) (dk D_X11_far 8 rfl) rfl ?_
    refine g_goto (tgt := 26) (dk D_X11_far 9 rfl) rfl ?_
    exact g_ireturn rfl rfl Sx.rf rfl (by decide) (by decide) (dk D_X11_far 14 rfl)
  · refine g_aload_n (dk D_X11_far 4 rfl) rfl ?_
    refine g_iload_n (dk D_X11_far 5 rfl) rfl ?_
    refine h_callVt (st := []) (c_X11_noStop (E := E) S0 I0 a0 x2 (ht0)) cl_RX11_164 ht0 rfl rfl (by decide) (Nat.le_of_ble_eq_true rfl) (dk D_X11_far 6 rfl) ?_
    refine g_if_eq (tgt := 20) (dk D_X11_far 7 rfl) rfl (fun hc4 => ?_) (fun hc4 => ?_)
    · refine g_aload_n (dk D_X11_far 10 rfl) rfl ?_
      refine g_iload_n (dk D_X11_far 11 rfl) rfl ?_
      refine g_iload_n (dk D_X11_far 12 rfl) rfl ?_
      refine g_bind (fun q5 hq6 => ?_)
      refine h_callVt (st := []) (c_X11_farOf (E := E) fu S0 I0 a0 x1 x2 q5 hq6 (ht0)) cl_RX11_168 ht0 rfl rfl (by decide) (Nat.le_of_ble_eq_true rfl) (dk D_X11_far 13 rfl) ?_
      exact g_ireturn rfl rfl Sx.rf rfl (by decide) (by decide) (dk D_X11_far 14 rfl)
    · refine g_iconst (v := ((-1) : Int32)) (dk D_X11_far 8 rfl) rfl ?_
      refine g_goto (tgt := 26) (dk D_X11_far 9 rfl) rfl ?_
      exact g_ireturn rfl rfl Sx.rf rfl (by decide) (by decide) (dk D_X11_far 14 rfl)
theorem c_X11_far {E : EV} (fu : Nat) (S0 : Sk) (I0 : II) (a0 : Nat) (x1 : Int32) (x2 : Int32) (r : Int32) (h : f_X11_far fu S0 I0 a0 x1 x2 = some r) (ht0 : tyO S0 11 a0) : MX E yX11_far i_X11_far S0 I0 [vA (a0 + 1), vI x1, vI x2] (po_X11_far S0 I0 r) :=
  MX.of h (by decide) rfl rfl (Nat.le_of_ble_eq_true rfl) (gg_X11_far fu S0 I0 a0 x1 x2 ht0)
theorem fl_RX11_172 : FL RX11 172 11 4 := ⟨RX11, TX11, 57, rfl, by decide, rfl, by decide, (gm 982 (by decide +kernel) (by decide +kernel)), inG11⟩
def tb_X11_noLine : List (Nat × Instr × Nat) := [(0, .iload_n 1, 1), (1, .i2l, 1), (2, .lconst 0, 1), (3, .aload_n 0, 1), (4, .getfield 172, 3), (7, .i2l, 1), (8, .lconst 1, 1), (9, .lsub, 1), (10, .invokestatic 132, 3), (13, .ifCond .ne 7, 3), (16, .iconst 1, 1), (17, .goto 4, 3), (20, .iconst 0, 1), (21, .ireturn, 1)]
def i_X11_noLine : MI := (RX11, cX11_noLine, 2, (some .boolean), "noLine", { frames := 1, cells := 0, slots := 0, locals := 25 })
theorem D_X11_noLine : tbOK (i_X11_noLine).2.1 tb_X11_noLine := by show ∀ q ∈ tb_X11_noLine, decode cX11_noLine q.1 = .ok (q.2.1, q.2.2); decide +kernel
def po_X11_noLine (S : Sk) (I : II) (r : Int32) : Option LV × Sk × II := (some (vI r), S, I)
def f_X11_noLine (fu : Nat) (S : Sk) (I : II) (a0 : Nat) (x1 : Int32) : Option (Int32) :=
  if (t_X11_in x1.toInt64 (0 : Int64) ((((I a0 4)).toInt64) - (1 : Int64))) = 0 then some ((1 : Int32)) else some ((0 : Int32))
set_option maxRecDepth 100000 in
set_option maxHeartbeats 4000000 in
theorem gg_X11_noLine {E : EV} (fu : Nat) (S0 : Sk) (I0 : II) (a0 : Nat) (x1 : Int32) (ht0 : tyO S0 11 a0) : GG E i_X11_noLine (enM E i_X11_noLine S0 (po_X11_noLine S0 I0)) S0 I0 (0, 0) 0 [(0, vA (a0 + 1)), (1, vI x1)] [] (f_X11_noLine fu S0 I0 a0 x1) := by
  unfold f_X11_noLine
  refine g_iload_n (dk D_X11_noLine 0 rfl) rfl ?_
  refine g_i2l (dk D_X11_noLine 1 rfl) ?_
  refine g_lconst (v := (0 : Int64)) (dk D_X11_noLine 2 rfl) rfl ?_
  refine g_aload_n (dk D_X11_noLine 3 rfl) rfl ?_
  refine g_getIt fl_RX11_172 (by decide) ht0 (dk D_X11_noLine 4 rfl) ?_
  refine g_i2l (dk D_X11_noLine 5 rfl) ?_
  refine g_lconst (v := (1 : Int64)) (dk D_X11_noLine 6 rfl) rfl ?_
  refine g_lsub (dk D_X11_noLine 7 rfl) ?_
  refine h_callS (st := []) (c_X11_in (E := E) S0 I0 x1.toInt64 (0 : Int64) ((((I0 a0 4)).toInt64) - (1 : Int64))) cl_RX11_132 rfl rfl (by decide) (Nat.le_of_ble_eq_true rfl) (dk D_X11_noLine 8 rfl) ?_
  refine g_if_ne (tgt := 20) (dk D_X11_noLine 9 rfl) rfl (fun hc2 => ?_) (fun hc2 => ?_)
  · refine g_iconst (v := (0 : Int32)) (dk D_X11_noLine 12 rfl) rfl ?_
    exact g_zreturn rfl rfl (Or.inl rfl) Sx.rf rfl (by decide) (by decide) (dk D_X11_noLine 13 rfl)
  · refine g_iconst (v := (1 : Int32)) (dk D_X11_noLine 10 rfl) rfl ?_
    refine g_goto (tgt := 21) (dk D_X11_noLine 11 rfl) rfl ?_
    exact g_zreturn rfl rfl (Or.inr rfl) Sx.rf rfl (by decide) (by decide) (dk D_X11_noLine 13 rfl)
def t_X11_noLine (I : II) (a0 : Nat) (x1 : Int32) : Int32 :=
  if (t_X11_in x1.toInt64 (0 : Int64) ((((I a0 4)).toInt64) - (1 : Int64))) = 0 then (1 : Int32) else (0 : Int32)
theorem ft_X11_noLine (fu : Nat) (S : Sk) (I0 : II) (a0 : Nat) (x1 : Int32) : f_X11_noLine fu S I0 a0 x1 = some (t_X11_noLine I0 a0 x1) := by
  simp only [f_X11_noLine, t_X11_noLine, lt, apply_ite some]
theorem z_X11_noLine (I : II) (a0 : Nat) (x1 : Int32) : t_X11_noLine I a0 x1 = 0 ∨ t_X11_noLine I a0 x1 = 1 := by
  unfold t_X11_noLine
  (repeat' split) <;> first | exact Or.inl rfl | exact Or.inr rfl
theorem c_X11_noLine {E : EV} (S0 : Sk) (I0 : II) (a0 : Nat) (x1 : Int32) (ht0 : tyO S0 11 a0) : MX E yX11_noLine i_X11_noLine S0 I0 [vA (a0 + 1), vI x1] (po_X11_noLine S0 I0 (t_X11_noLine I0 a0 x1)) :=
  MX.of (ft_X11_noLine 0 S0 I0 a0 x1) (by decide) rfl rfl (Nat.le_of_ble_eq_true rfl) (gg_X11_noLine 0 S0 I0 a0 x1 ht0)
def tb_X11_areUnlike : List (Nat × Instr × Nat) := [(0, .iconst 1, 1), (1, .istore_n 3, 1), (2, .iconst 0, 1), (3, .istore 4, 2), (5, .iload 4, 2), (7, .iload_n 2, 1), (8, .if_icmp .ge 60, 3), (11, .iconst 0, 1), (12, .istore 5, 2), (14, .iload 5, 2), (16, .iload 4, 2), (18, .if_icmp .ge 44, 3), (21, .iload_n 3, 1), (22, .ifCond .eq 32, 3), (25, .aload_n 0, 1), (26, .getfield 118, 3), (29, .iload_n 1, 1), (30, .iconst 2, 1), (31, .iload 4, 2), (33, .imul, 1), (34, .iadd, 1), (35, .iaload, 1), (36, .aload_n 0, 1), (37, .getfield 118, 3), (40, .iload_n 1, 1), (41, .iconst 2, 1), (42, .iload 5, 2), (44, .imul, 1), (45, .iadd, 1), (46, .iaload, 1), (47, .if_icmp .eq 7, 3), (50, .iconst 1, 1), (51, .goto 4, 3), (54, .iconst 0, 1), (55, .istore_n 3, 1), (56, .iinc 5 1, 3), (59, .goto (-45), 3), (62, .iinc 4 1, 3), (65, .goto (-60), 3), (68, .iload_n 3, 1), (69, .ireturn, 1)]
def i_X11_areUnlike : MI := (RX11, cX11_areUnlike, 6, (some .boolean), "areUnlike", { frames := 0, cells := 0, slots := 0, locals := 0 })
theorem D_X11_areUnlike : tbOK (i_X11_areUnlike).2.1 tb_X11_areUnlike := by show ∀ q ∈ tb_X11_areUnlike, decode cX11_areUnlike q.1 = .ok (q.2.1, q.2.2); decide +kernel
def po_X11_areUnlike (S : Sk) (I : II) (r : Int32) : Option LV × Sk × II := (some (vI r), S, I)
def jn_X11_areUnlike_55 (fu : Nat) (S : Sk) (I : II) (self5 : Int32 → Int32 → Option (Int32)) (self14 : Int32 → Int32 → Option (Int32)) (a0 : Nat) (x1 : Int32) (x2 : Int32) (x4 : Int32) (x5 : Int32) (s0 : Int32) : Option (Int32) :=
  self14 s0 (x5 + (1 : Int32))
def jn_X11_areUnlike_54 (fu : Nat) (S : Sk) (I : II) (self5 : Int32 → Int32 → Option (Int32)) (self14 : Int32 → Int32 → Option (Int32)) (a0 : Nat) (x1 : Int32) (x2 : Int32) (x4 : Int32) (x5 : Int32) : Option (Int32) :=
  jn_X11_areUnlike_55 fu S I self5 self14 a0 x1 x2 x4 x5 (0 : Int32)
def lp_X11_areUnlike_14 (fu : Nat) (S : Sk) (I : II) (self5 : Int32 → Int32 → Option (Int32)) (a0 : Nat) (x1 : Int32) (x2 : Int32) (x4 : Int32) (self14 : Int32 → Int32 → Option (Int32)) (x3 : Int32) (x5 : Int32) : Option (Int32) :=
  if x4 ≤ x5 then self5 x3 (x4 + (1 : Int32)) else if x3 = 0 then jn_X11_areUnlike_54 fu S I self5 self14 a0 x1 x2 x4 x5 else gd (inb S (S.1 a0 54) (x1 + ((2 : Int32) * x4))) (gd (inb S (S.1 a0 54) (x1 + ((2 : Int32) * x5))) (if (rd I (S.1 a0 54) (x1 + ((2 : Int32) * x4))) = (rd I (S.1 a0 54) (x1 + ((2 : Int32) * x5))) then jn_X11_areUnlike_54 fu S I self5 self14 a0 x1 x2 x4 x5 else jn_X11_areUnlike_55 fu S I self5 self14 a0 x1 x2 x4 x5 (1 : Int32)))
def lp_X11_areUnlike_5 (fu : Nat) (S : Sk) (I : II) (a0 : Nat) (x1 : Int32) (x2 : Int32) (self5 : Int32 → Int32 → Option (Int32)) (x3 : Int32) (x4 : Int32) : Option (Int32) :=
  if x2 ≤ x4 then gd (x3 = 0 ∨ x3 = 1) (some (x3)) else fix2 (lp_X11_areUnlike_14 fu S I self5 a0 x1 x2 x4) fu x3 (0 : Int32)
def f_X11_areUnlike (fu : Nat) (S : Sk) (I : II) (a0 : Nat) (x1 : Int32) (x2 : Int32) : Option (Int32) :=
  fix2 (lp_X11_areUnlike_5 fu S I a0 x1 x2) fu (1 : Int32) (0 : Int32)
set_option maxRecDepth 100000 in
set_option maxHeartbeats 4000000 in
theorem gg_X11_areUnlike {E : EV} (fu : Nat) (S0 : Sk) (I0 : II) (a0 : Nat) (x1 : Int32) (x2 : Int32) (ht0 : tyO S0 11 a0) : GG E i_X11_areUnlike (enM E i_X11_areUnlike S0 (po_X11_areUnlike S0 I0)) S0 I0 (0, 0) 0 [(0, vA (a0 + 1)), (1, vI x1), (2, vI x2)] [] (f_X11_areUnlike fu S0 I0 a0 x1 x2) := by
  have hl5 : ∀ (nn : Nat) (x3 : Int32) (x4 : Int32), True → GG E i_X11_areUnlike (enM E i_X11_areUnlike S0 (po_X11_areUnlike S0 I0)) S0 I0 (0, 0) 5 [(0, vA (a0 + 1)), (1, vI x1), (2, vI x2), (3, vI x3), (4, vI x4)] [] (fix2 (lp_X11_areUnlike_5 fu S0 I0 a0 x1 x2) nn x3 x4) := by
    refine g_fix2 (fun _ _ => S0) (fun _ _ => I0) (fun x3 x4 => [(0, vA (a0 + 1)), (1, vI x1), (2, vI x2), (3, vI x3), (4, vI x4)]) (fun x3 x4 => True) ?_
    intro self5 hself5 x3 x4 hinv
    have hl14 : ∀ (x4 : Int32) (nn : Nat) (x3 : Int32) (x5 : Int32), True → GG E i_X11_areUnlike (enM E i_X11_areUnlike S0 (po_X11_areUnlike S0 I0)) S0 I0 (0, 0) 14 [(0, vA (a0 + 1)), (1, vI x1), (2, vI x2), (3, vI x3), (4, vI x4), (5, vI x5)] [] (fix2 (lp_X11_areUnlike_14 fu S0 I0 self5 a0 x1 x2 x4) nn x3 x5) := by
      intro x4 
      refine g_fix2 (fun _ _ => S0) (fun _ _ => I0) (fun x3 x5 => [(0, vA (a0 + 1)), (1, vI x1), (2, vI x2), (3, vI x3), (4, vI x4), (5, vI x5)]) (fun x3 x5 => True) ?_
      intro self14 hself14 x3 x5 hinv
      have hj55 : ∀ (x5 : Int32) (s0 : Int32), GG E i_X11_areUnlike (enM E i_X11_areUnlike S0 (po_X11_areUnlike S0 I0)) S0 I0 (0, 0) 55 [(0, vA (a0 + 1)), (1, vI x1), (2, vI x2), (4, vI x4), (5, vI x5)] [vI s0] (jn_X11_areUnlike_55 fu S0 I0 self5 self14 a0 x1 x2 x4 x5 s0) := by
        intro x5 s0 
        unfold jn_X11_areUnlike_55
        refine g_istore_n (L' := [(0, vA (a0 + 1)), (1, vI x1), (2, vI x2), (3, vI s0), (4, vI x4), (5, vI x5)]) (dk D_X11_areUnlike 34 rfl) (Nat.le_of_ble_eq_true rfl) rfl ?_
        refine g_iinc (v := (1 : Int32)) (L' := [(0, vA (a0 + 1)), (1, vI x1), (2, vI x2), (3, vI s0), (4, vI x4), (5, vI (x5 + (1 : Int32)))]) (dk D_X11_areUnlike 35 rfl) rfl rfl (Nat.le_of_ble_eq_true rfl) rfl ?_
        refine g_goto (tgt := 14) (dk D_X11_areUnlike 36 rfl) rfl ?_
        exact hself14 s0 (x5 + (1 : Int32)) trivial
      have hj54 : ∀ (x5 : Int32), GG E i_X11_areUnlike (enM E i_X11_areUnlike S0 (po_X11_areUnlike S0 I0)) S0 I0 (0, 0) 54 [(0, vA (a0 + 1)), (1, vI x1), (2, vI x2), (4, vI x4), (5, vI x5)] [] (jn_X11_areUnlike_54 fu S0 I0 self5 self14 a0 x1 x2 x4 x5) := by
        intro x5 
        unfold jn_X11_areUnlike_54
        refine g_iconst (v := (0 : Int32)) (dk D_X11_areUnlike 33 rfl) rfl ?_
        exact hj55 x5 (0 : Int32)
      unfold lp_X11_areUnlike_14
      refine g_iload (dk D_X11_areUnlike 9 rfl) rfl ?_
      refine g_iload (dk D_X11_areUnlike 10 rfl) rfl ?_
      refine g_icmp_ge (tgt := 62) (dk D_X11_areUnlike 11 rfl) rfl (fun hc1 => ?_) (fun hc1 => ?_)
      · refine g_iinc (v := (1 : Int32)) (L' := [(0, vA (a0 + 1)), (1, vI x1), (2, vI x2), (3, vI x3), (4, vI (x4 + (1 : Int32))), (5, vI x5)]) (dk D_X11_areUnlike 37 rfl) rfl rfl (Nat.le_of_ble_eq_true rfl) rfl ?_
        refine g_goto (tgt := 5) (dk D_X11_areUnlike 38 rfl) rfl ?_
        refine g_Lp [0, 1, 2, 3, 4] rfl ?_
        exact hself5 x3 (x4 + (1 : Int32)) trivial
      · refine g_iload_n (dk D_X11_areUnlike 12 rfl) rfl ?_
        refine g_if_eq (tgt := 54) (dk D_X11_areUnlike 13 rfl) rfl (fun hc2 => ?_) (fun hc2 => ?_)
        · refine g_Lp [0, 1, 2, 4, 5] rfl ?_
          exact hj54 x5
        · refine g_aload_n (dk D_X11_areUnlike 14 rfl) rfl ?_
          refine g_getAt (t := 100) fl_RX11_118 rfl ht0 (dk D_X11_areUnlike 15 rfl) (fun ht3 => ?_)
          refine g_iload_n (dk D_X11_areUnlike 16 rfl) rfl ?_
          refine g_iconst (v := (2 : Int32)) (dk D_X11_areUnlike 17 rfl) rfl ?_
          refine g_iload (dk D_X11_areUnlike 18 rfl) rfl ?_
          refine g_imul (dk D_X11_areUnlike 19 rfl) ?_
          refine g_iadd (dk D_X11_areUnlike 20 rfl) ?_
          refine g_gd (fun hi4 => ?_)
          refine g_iaload ht3 hi4 (dk D_X11_areUnlike 21 rfl) ?_
          refine g_aload_n (dk D_X11_areUnlike 22 rfl) rfl ?_
          refine g_getAt (t := 100) fl_RX11_118 rfl ht0 (dk D_X11_areUnlike 23 rfl) (fun ht5 => ?_)
          refine g_iload_n (dk D_X11_areUnlike 24 rfl) rfl ?_
          refine g_iconst (v := (2 : Int32)) (dk D_X11_areUnlike 25 rfl) rfl ?_
          refine g_iload (dk D_X11_areUnlike 26 rfl) rfl ?_
          refine g_imul (dk D_X11_areUnlike 27 rfl) ?_
          refine g_iadd (dk D_X11_areUnlike 28 rfl) ?_
          refine g_gd (fun hi6 => ?_)
          refine g_iaload ht3 hi6 (dk D_X11_areUnlike 29 rfl) ?_
          refine g_icmp_eq (tgt := 54) (dk D_X11_areUnlike 30 rfl) rfl (fun hc7 => ?_) (fun hc7 => ?_)
          · refine g_Lp [0, 1, 2, 4, 5] rfl ?_
            exact hj54 x5
          · refine g_iconst (v := (1 : Int32)) (dk D_X11_areUnlike 31 rfl) rfl ?_
            refine g_goto (tgt := 55) (dk D_X11_areUnlike 32 rfl) rfl ?_
            refine g_Lp [0, 1, 2, 4, 5] rfl ?_
            exact hj55 x5 (1 : Int32)
    unfold lp_X11_areUnlike_5
    refine g_iload (dk D_X11_areUnlike 4 rfl) rfl ?_
    refine g_iload_n (dk D_X11_areUnlike 5 rfl) rfl ?_
    refine g_icmp_ge (tgt := 68) (dk D_X11_areUnlike 6 rfl) rfl (fun hc8 => ?_) (fun hc8 => ?_)
    · refine g_iload_n (dk D_X11_areUnlike 39 rfl) rfl ?_
      refine g_gd (fun hb9 => ?_)
      exact g_zreturn rfl rfl hb9 Sx.rf rfl (by decide) (by decide) (dk D_X11_areUnlike 40 rfl)
    · refine g_iconst (v := (0 : Int32)) (dk D_X11_areUnlike 7 rfl) rfl ?_
      refine g_istore (L' := [(0, vA (a0 + 1)), (1, vI x1), (2, vI x2), (3, vI x3), (4, vI x4), (5, vI (0 : Int32))]) (dk D_X11_areUnlike 8 rfl) (Nat.le_of_ble_eq_true rfl) rfl ?_
      exact hl14 x4 fu x3 (0 : Int32) trivial
  unfold f_X11_areUnlike
  refine g_iconst (v := (1 : Int32)) (dk D_X11_areUnlike 0 rfl) rfl ?_
  refine g_istore_n (L' := [(0, vA (a0 + 1)), (1, vI x1), (2, vI x2), (3, vI (1 : Int32))]) (dk D_X11_areUnlike 1 rfl) (Nat.le_of_ble_eq_true rfl) rfl ?_
  refine g_iconst (v := (0 : Int32)) (dk D_X11_areUnlike 2 rfl) rfl ?_
  refine g_istore (L' := [(0, vA (a0 + 1)), (1, vI x1), (2, vI x2), (3, vI (1 : Int32)), (4, vI (0 : Int32))]) (dk D_X11_areUnlike 3 rfl) (Nat.le_of_ble_eq_true rfl) rfl ?_
  exact hl5 fu (1 : Int32) (0 : Int32) trivial
theorem c_X11_areUnlike {E : EV} (fu : Nat) (S0 : Sk) (I0 : II) (a0 : Nat) (x1 : Int32) (x2 : Int32) (r : Int32) (h : f_X11_areUnlike fu S0 I0 a0 x1 x2 = some r) (ht0 : tyO S0 11 a0) : MX E yX11_areUnlike i_X11_areUnlike S0 I0 [vA (a0 + 1), vI x1, vI x2] (po_X11_areUnlike S0 I0 r) :=
  MX.of h (by decide) rfl rfl (Nat.le_of_ble_eq_true rfl) (gg_X11_areUnlike fu S0 I0 a0 x1 x2 ht0)
theorem lk_RX11_252 : Cond.constantLong RX11 252 (3 : Int64) ∈ lw_good := (gm 1180 (by decide +kernel) (by decide +kernel))
def tb_X11_noSheet : List (Nat × Instr × Nat) := [(0, .iload_n 0, 1), (1, .i2l, 1), (2, .lconst 0, 1), (3, .ldc2_w 252, 3), (6, .invokestatic 132, 3), (9, .ifCond .ne 7, 3), (12, .iconst 1, 1), (13, .goto 4, 3), (16, .iconst 0, 1), (17, .ireturn, 1)]
def i_X11_noSheet : MI := (RX11, cX11_noSheet, 1, (some .boolean), "noSheet", { frames := 1, cells := 0, slots := 0, locals := 25 })
theorem D_X11_noSheet : tbOK (i_X11_noSheet).2.1 tb_X11_noSheet := by show ∀ q ∈ tb_X11_noSheet, decode cX11_noSheet q.1 = .ok (q.2.1, q.2.2); decide +kernel
def po_X11_noSheet (S : Sk) (I : II) (r : Int32) : Option LV × Sk × II := (some (vI r), S, I)
def f_X11_noSheet (fu : Nat) (S : Sk) (I : II) (x0 : Int32) : Option (Int32) :=
  if (t_X11_in x0.toInt64 (0 : Int64) (3 : Int64)) = 0 then some ((1 : Int32)) else some ((0 : Int32))
set_option maxRecDepth 100000 in
set_option maxHeartbeats 4000000 in
theorem gg_X11_noSheet {E : EV} (fu : Nat) (S0 : Sk) (I0 : II) (x0 : Int32) : GG E i_X11_noSheet (enM E i_X11_noSheet S0 (po_X11_noSheet S0 I0)) S0 I0 (0, 0) 0 [(0, vI x0)] [] (f_X11_noSheet fu S0 I0 x0) := by
  unfold f_X11_noSheet
  refine g_iload_n (dk D_X11_noSheet 0 rfl) rfl ?_
  refine g_i2l (dk D_X11_noSheet 1 rfl) ?_
  refine g_lconst (v := (0 : Int64)) (dk D_X11_noSheet 2 rfl) rfl ?_
  refine g_ldc2 (dk D_X11_noSheet 3 rfl) lk_RX11_252 ?_
  refine h_callS (st := []) (c_X11_in (E := E) S0 I0 x0.toInt64 (0 : Int64) (3 : Int64)) cl_RX11_132 rfl rfl (by decide) (Nat.le_of_ble_eq_true rfl) (dk D_X11_noSheet 4 rfl) ?_
  refine g_if_ne (tgt := 16) (dk D_X11_noSheet 5 rfl) rfl (fun hc2 => ?_) (fun hc2 => ?_)
  · refine g_iconst (v := (0 : Int32)) (dk D_X11_noSheet 8 rfl) rfl ?_
    exact g_zreturn rfl rfl (Or.inl rfl) Sx.rf rfl (by decide) (by decide) (dk D_X11_noSheet 9 rfl)
  · refine g_iconst (v := (1 : Int32)) (dk D_X11_noSheet 6 rfl) rfl ?_
    refine g_goto (tgt := 17) (dk D_X11_noSheet 7 rfl) rfl ?_
    exact g_zreturn rfl rfl (Or.inr rfl) Sx.rf rfl (by decide) (by decide) (dk D_X11_noSheet 9 rfl)
def t_X11_noSheet (x0 : Int32) : Int32 :=
  if (t_X11_in x0.toInt64 (0 : Int64) (3 : Int64)) = 0 then (1 : Int32) else (0 : Int32)
theorem ft_X11_noSheet (fu : Nat) (S : Sk) (I0 : II) (x0 : Int32) : f_X11_noSheet fu S I0 x0 = some (t_X11_noSheet x0) := by
  simp only [f_X11_noSheet, t_X11_noSheet, lt, apply_ite some]
theorem z_X11_noSheet (x0 : Int32) : t_X11_noSheet x0 = 0 ∨ t_X11_noSheet x0 = 1 := by
  unfold t_X11_noSheet
  (repeat' split) <;> first | exact Or.inl rfl | exact Or.inr rfl
theorem c_X11_noSheet {E : EV} (S0 : Sk) (I0 : II) (x0 : Int32) : MX E yX11_noSheet i_X11_noSheet S0 I0 [vI x0] (po_X11_noSheet S0 I0 (t_X11_noSheet x0)) :=
  MX.of (ft_X11_noSheet 0 S0 I0 x0) (by decide) rfl rfl (Nat.le_of_ble_eq_true rfl) (gg_X11_noSheet 0 S0 I0 x0)
theorem cl_RX11_194 : CS0 RX11 194 yX11_greater i_X11_greater 2 := ⟨⟨(gm 1205 (by decide +kernel) (by decide +kernel)), (gm 72 (by decide +kernel) (by decide +kernel)), (gm 1207 (by decide +kernel) (by decide +kernel)), by decide +kernel, by decide +kernel, by decide +kernel⟩, (gm 1206 (by decide +kernel) (by decide +kernel))⟩
theorem fp_11_4 : FP 11 4 (tyX11 4) false := ⟨RX11, TX11, 57, tyX11, rfl, tyX11_ok, nmX11, rfl, rfl, rfl⟩
theorem cl_RX11_190 : CV0 RX11 190 yX11_areUnlike i_X11_areUnlike 2 11 := ⟨⟨(gm 1201 (by decide +kernel) (by decide +kernel)), (gm 72 (by decide +kernel) (by decide +kernel)), ((gm 1204 (by decide +kernel) (by decide +kernel))), by decide +kernel, by decide +kernel, by decide +kernel⟩, ⟨(gm 1203 (by decide +kernel) (by decide +kernel)), (gm 30 (by decide +kernel) (by decide +kernel))⟩, rfl, by decide⟩
theorem lk_RX11_188 : Cond.constantLong RX11 188 (30 : Int64) ∈ lw_good := (gm 1200 (by decide +kernel) (by decide +kernel))
theorem cl_RX11_175 : CS0 RX11 175 yX11_noSheet i_X11_noSheet 1 := ⟨⟨(gm 1177 (by decide +kernel) (by decide +kernel)), (gm 72 (by decide +kernel) (by decide +kernel)), (gm 1179 (by decide +kernel) (by decide +kernel)), by decide +kernel, by decide +kernel, by decide +kernel⟩, (gm 1178 (by decide +kernel) (by decide +kernel))⟩
theorem lk_RX11_178 : Cond.constantLong RX11 178 (1439 : Int64) ∈ lw_good := (gm 1186 (by decide +kernel) (by decide +kernel))
theorem lk_RX11_180 : Cond.constantLong RX11 180 (240 : Int64) ∈ lw_good := (gm 1187 (by decide +kernel) (by decide +kernel))
theorem cl_RX11_182 : CV0 RX11 182 yX11_barred i_X11_barred 4 11 := ⟨⟨(gm 1188 (by decide +kernel) (by decide +kernel)), (gm 72 (by decide +kernel) (by decide +kernel)), ((gm 1191 (by decide +kernel) (by decide +kernel))), by decide +kernel, by decide +kernel, by decide +kernel⟩, ⟨(gm 1190 (by decide +kernel) (by decide +kernel)), (gm 28 (by decide +kernel) (by decide +kernel))⟩, rfl, by decide⟩
theorem lk_RX11_186 : Cond.constantLong RX11 186 (8 : Int64) ∈ lw_good := (gm 1199 (by decide +kernel) (by decide +kernel))
def tb_X11_line : List (Nat × Instr × Nat) := [(0, .iload 5, 2), (2, .invokestatic 175, 3), (5, .ifCond .eq 9, 3), (8, .aload_n 0, 1), (9, .iconst (-1), 1), (10, .invokevirtual 145, 3), (13, .ireturn, 1), (14, .iload_n 1, 1), (15, .i2l, 1), (16, .lconst 0, 1), (17, .ldc2_w 143, 3), (20, .invokestatic 132, 3), (23, .ifCond .eq 41, 3), (26, .iload_n 2, 1), (27, .i2l, 1), (28, .lconst 0, 1), (29, .ldc2_w 178, 3), (32, .invokestatic 132, 3), (35, .ifCond .eq 29, 3), (38, .iload_n 3, 1), (39, .i2l, 1), (40, .lconst 1, 1), (41, .ldc2_w 180, 3), (44, .invokestatic 132, 3), (47, .ifCond .eq 17, 3), (50, .iload 4, 2), (52, .i2l, 1), (53, .iload_n 2, 1), (54, .i2l, 1), (55, .ldc2_w 178, 3), (58, .invokestatic 132, 3), (61, .ifCond .ne 10, 3), (64, .aload_n 0, 1), (65, .bipush (-2), 2), (67, .invokevirtual 145, 3), (70, .ireturn, 1), (71, .aload_n 0, 1), (72, .iload 5, 2), (74, .iload 6, 2), (76, .iload 7, 2), (78, .ldc2_w 143, 3), (81, .iload 8, 2), (83, .i2l, 1), (84, .lmul, 1), (85, .invokevirtual 182, 3), (88, .istore 9, 2), (90, .iload 9, 2), (92, .ifCond .ge 6, 3), (95, .iload 9, 2), (97, .ireturn, 1), (98, .bipush 60, 2), (100, .iload 5, 2), (102, .imul, 1), (103, .iload 7, 2), (105, .iadd, 1), (106, .istore 10, 2), (108, .iload 8, 2), (110, .i2l, 1), (111, .ldc2_w 143, 3), (114, .ldc2_w 186, 3), (117, .invokestatic 132, 3), (120, .istore 11, 2), (122, .iconst 0, 1), (123, .istore 12, 2), (125, .iload 12, 2), (127, .iload 8, 2), (129, .iconst 1, 1), (130, .isub, 1), (131, .if_icmp .ge 38, 3), (134, .iload 11, 2), (136, .ifCond .eq 33, 3), (139, .aload_n 0, 1), (140, .getfield 118, 3), (143, .iload 10, 2), (145, .iconst 2, 1), (146, .iload 12, 2), (148, .imul, 1), (149, .iadd, 1), (150, .iconst 1, 1), (151, .iadd, 1), (152, .iaload, 1), (153, .i2l, 1), (154, .lconst 1, 1), (155, .ldc2_w 188, 3), (158, .invokestatic 132, 3), (161, .istore 11, 2), (163, .iinc 12 1, 3), (166, .goto (-41), 3), (169, .iload 11, 2), (171, .ifCond .ne 10, 3), (174, .aload_n 0, 1), (175, .bipush (-2), 2), (177, .invokevirtual 145, 3), (180, .ireturn, 1), (181, .iconst 0, 1), (182, .istore 12, 2), (184, .iload 12, 2), (186, .iload 8, 2), (188, .if_icmp .ge 34, 3), (191, .aload_n 0, 1), (192, .aload_n 0, 1), (193, .getfield 118, 3), (196, .iload 10, 2), (198, .iconst 2, 1), (199, .iload 12, 2), (201, .imul, 1), (202, .iadd, 1), (203, .iaload, 1), (204, .invokevirtual 164, 3), (207, .ifCond .eq 9, 3), (210, .aload_n 0, 1), (211, .iconst (-1), 1), (212, .invokevirtual 145, 3), (215, .ireturn, 1), (216, .iinc 12 1, 3), (219, .goto (-35), 3), (222, .aload_n 0, 1), (223, .iload 10, 2), (225, .iload 8, 2), (227, .invokevirtual 190, 3), (230, .ifCond .ne 10, 3), (233, .aload_n 0, 1), (234, .bipush (-3), 2), (236, .invokevirtual 145, 3), (239, .ireturn, 1), (240, .aload_n 0, 1), (241, .getfield 172, 3), (244, .bipush 14, 2), (246, .if_icmp .ne 10, 3), (249, .aload_n 0, 1), (250, .bipush (-4), 2), (252, .invokevirtual 145, 3), (255, .ireturn, 1), (256, .aload_n 0, 1), (257, .getfield 16, 3), (260, .aload_n 0, 1), (261, .getfield 172, 3), (264, .iload_n 1, 1), (265, .iastore, 1), (266, .aload_n 0, 1), (267, .getfield 19, 3), (270, .aload_n 0, 1), (271, .getfield 172, 3), (274, .iload 8, 2), (276, .iastore, 1), (277, .aload_n 0, 1), (278, .getfield 28, 3), (281, .aload_n 0, 1), (282, .getfield 172, 3), (285, .iload_n 2, 1), (286, .iastore, 1), (287, .aload_n 0, 1), (288, .getfield 31, 3), (291, .aload_n 0, 1), (292, .getfield 172, 3), (295, .iload_n 3, 1), (296, .iastore, 1), (297, .aload_n 0, 1), (298, .getfield 34, 3), (301, .aload_n 0, 1), (302, .getfield 172, 3), (305, .iload 4, 2), (307, .iastore, 1), (308, .aload_n 0, 1), (309, .getfield 40, 3), (312, .aload_n 0, 1), (313, .getfield 172, 3), (316, .bipush 59, 2), (318, .iastore, 1), (319, .iconst 0, 1), (320, .istore 12, 2), (322, .iload 12, 2), (324, .iload 8, 2), (326, .if_icmp .ge 107, 3), (329, .aload_n 0, 1), (330, .getfield 22, 3), (333, .bipush 8, 2), (335, .aload_n 0, 1), (336, .getfield 172, 3), (339, .imul, 1), (340, .iload 12, 2), (342, .iadd, 1), (343, .aload_n 0, 1), (344, .getfield 118, 3), (347, .iload 10, 2), (349, .iconst 2, 1), (350, .iload 12, 2), (352, .imul, 1), (353, .iadd, 1), (354, .iaload, 1), (355, .iastore, 1), (356, .aload_n 0, 1), (357, .getfield 25, 3), (360, .bipush 8, 2), (362, .aload_n 0, 1), (363, .getfield 172, 3), (366, .imul, 1), (367, .iload 12, 2), (369, .iadd, 1), (370, .iload 12, 2), (372, .ifCond .ne 7, 3), (375, .iconst 0, 1), (376, .goto 50, 3), (379, .aload_n 0, 1), (380, .getfield 25, 3), (383, .bipush 8, 2), (385, .aload_n 0, 1), (386, .getfield 172, 3), (389, .imul, 1), (390, .iload 12, 2), (392, .iadd, 1), (393, .iconst 1, 1), (394, .isub, 1), (395, .iaload, 1), (396, .iconst 1, 1), (397, .aload_n 0, 1), (398, .getfield 118, 3), (401, .iload 10, 2), (403, .iconst 2, 1), (404, .iload 12, 2), (406, .imul, 1), (407, .iadd, 1), (408, .iconst 1, 1), (409, .isub, 1), (410, .iaload, 1), (411, .iload_n 1, 1), (412, .iconst 2, 1), (413, .if_icmp .ne 7, 3), (416, .iconst 1, 1), (417, .goto 4, 3), (420, .iconst 0, 1), (421, .isub, 1), (422, .invokestatic 194, 3), (425, .iadd, 1), (426, .iastore, 1), (427, .iinc 12 1, 3), (430, .goto (-108), 3), (433, .aload_n 0, 1), (434, .dup, 1), (435, .getfield 172, 3), (438, .iconst 1, 1), (439, .iadd, 1), (440, .putfield 172, 3), (443, .aload_n 0, 1), (444, .aload_n 0, 1), (445, .getfield 172, 3), (448, .iconst 1, 1), (449, .isub, 1), (450, .invokevirtual 145, 3), (453, .ireturn, 1)]
def i_X11_line : MI := (RX11, cX11_line, 13, (some .int), "line", { frames := 2, cells := 0, slots := 0, locals := 50 })
theorem D_X11_line : tbOK (i_X11_line).2.1 tb_X11_line := by show ∀ q ∈ tb_X11_line, decode cX11_line q.1 = .ok (q.2.1, q.2.2); decide +kernel
def po_X11_line (S : Sk) (I : II) (r : Int32 × II) : Option LV × Sk × II := (some (vI r.1), S, r.2)
def jn_X11_line_64 (fu : Nat) (S : Sk) (I : II) (a0 : Nat) : Option (Int32 × II) :=
  (f_X11_refused fu S I a0 ((-2) : Int32)).bind fun q1 => (some ((q1.1, q1.2)))
def jn_X11_line_426 (fu : Nat) (S : Sk) (I : II) (self322 : Int32 → II → Option (Int32 × II)) (a0 : Nat) (x1 : Int32) (x8 : Int32) (x10 : Int32) (x12 : Int32) (q0 : Nat) (s1 : Int32) (s2 : Int32) : Option (Int32 × II) :=
  gd (inb S q0 s1) (lt (wr I q0 s1 s2) fun I5 => (self322 (x12 + (1 : Int32)) I5))
def jn_X11_line_421 (fu : Nat) (S : Sk) (I : II) (self322 : Int32 → II → Option (Int32 × II)) (a0 : Nat) (x1 : Int32) (x8 : Int32) (x10 : Int32) (x12 : Int32) (q0 : Nat) (s1 : Int32) (s2 : Int32) (s3 : Int32) (s4 : Int32) (s5 : Int32) : Option (Int32 × II) :=
  jn_X11_line_426 fu S I self322 a0 x1 x8 x10 x12 q0 s1 (s2 + (t_X11_greater s3 (s4 - s5)))
def lp_X11_line_322 (fu : Nat) (S : Sk) (a0 : Nat) (x1 : Int32) (x8 : Int32) (x10 : Int32) (self322 : Int32 → II → Option (Int32 × II)) (x12 : Int32) (I : II) : Option (Int32 × II) :=
  if x8 ≤ x12 then lt (upI I a0 4 ((I a0 4) + (1 : Int32))) fun I8 => ((f_X11_refused fu S I8 a0 ((I8 a0 4) - (1 : Int32))).bind fun q9 => (some ((q9.1, q9.2)))) else gd (inb S (S.1 a0 54) (x10 + ((2 : Int32) * x12))) (gd (inb S (S.1 a0 7) (((8 : Int32) * (I a0 4)) + x12)) (lt (wr I (S.1 a0 7) (((8 : Int32) * (I a0 4)) + x12) (rd I (S.1 a0 54) (x10 + ((2 : Int32) * x12)))) fun I16 => (if x12 = 0 then jn_X11_line_426 fu S I16 self322 a0 x1 x8 x10 x12 (S.1 a0 8) (((8 : Int32) * (I16 a0 4)) + x12) (0 : Int32) else gd (inb S (S.1 a0 8) ((((8 : Int32) * (I16 a0 4)) + x12) - (1 : Int32))) (gd (inb S (S.1 a0 54) ((x10 + ((2 : Int32) * x12)) - (1 : Int32))) (if x1 = (2 : Int32) then jn_X11_line_421 fu S I16 self322 a0 x1 x8 x10 x12 (S.1 a0 8) (((8 : Int32) * (I16 a0 4)) + x12) (rd I16 (S.1 a0 8) ((((8 : Int32) * (I16 a0 4)) + x12) - (1 : Int32))) (1 : Int32) (rd I16 (S.1 a0 54) ((x10 + ((2 : Int32) * x12)) - (1 : Int32))) (1 : Int32) else jn_X11_line_421 fu S I16 self322 a0 x1 x8 x10 x12 (S.1 a0 8) (((8 : Int32) * (I16 a0 4)) + x12) (rd I16 (S.1 a0 8) ((((8 : Int32) * (I16 a0 4)) + x12) - (1 : Int32))) (1 : Int32) (rd I16 (S.1 a0 54) ((x10 + ((2 : Int32) * x12)) - (1 : Int32))) (0 : Int32))))))
def lp_X11_line_184 (fu : Nat) (S : Sk) (I : II) (a0 : Nat) (x1 : Int32) (x2 : Int32) (x3 : Int32) (x4 : Int32) (x8 : Int32) (x10 : Int32) (self184 : Int32 → Option (Int32 × II)) (x12 : Int32) : Option (Int32 × II) :=
  if x8 ≤ x12 then (f_X11_areUnlike fu S I a0 x10 x8).bind fun q25 => (if q25 = 0 then (f_X11_refused fu S I a0 ((-3) : Int32)).bind fun q51 => (some ((q51.1, q51.2))) else if (I a0 4) = (14 : Int32) then (f_X11_refused fu S I a0 ((-4) : Int32)).bind fun q48 => (some ((q48.1, q48.2))) else gd (inb S (S.1 a0 5) (I a0 4)) (lt (wr I (S.1 a0 5) (I a0 4) x1) fun I32 => (gd (inb S (S.1 a0 6) (I32 a0 4)) (lt (wr I32 (S.1 a0 6) (I32 a0 4) x8) fun I35 => (gd (inb S (S.1 a0 9) (I35 a0 4)) (lt (wr I35 (S.1 a0 9) (I35 a0 4) x2) fun I38 => (gd (inb S (S.1 a0 10) (I38 a0 4)) (lt (wr I38 (S.1 a0 10) (I38 a0 4) x3) fun I41 => (gd (inb S (S.1 a0 11) (I41 a0 4)) (lt (wr I41 (S.1 a0 11) (I41 a0 4) x4) fun I44 => (gd (inb S (S.1 a0 13) (I44 a0 4)) (lt (wr I44 (S.1 a0 13) (I44 a0 4) (59 : Int32)) fun I47 => (fix2 (lp_X11_line_322 fu S a0 x1 x8 x10) fu (0 : Int32) I47))))))))))))) else gd (inb S (S.1 a0 54) (x10 + ((2 : Int32) * x12))) (if (t_X11_noStop I a0 (rd I (S.1 a0 54) (x10 + ((2 : Int32) * x12)))) = 0 then self184 (x12 + (1 : Int32)) else (f_X11_refused fu S I a0 ((-1) : Int32)).bind fun q58 => (some ((q58.1, q58.2))))
def jn_X11_line_169 (fu : Nat) (S : Sk) (I : II) (a0 : Nat) (x1 : Int32) (x2 : Int32) (x3 : Int32) (x4 : Int32) (x8 : Int32) (x10 : Int32) (x11 : Int32) : Option (Int32 × II) :=
  if x11 = 0 then (f_X11_refused fu S I a0 ((-2) : Int32)).bind fun q62 => (some ((q62.1, q62.2))) else fix1 (lp_X11_line_184 fu S I a0 x1 x2 x3 x4 x8 x10) fu (0 : Int32)
def lp_X11_line_125 (fu : Nat) (S : Sk) (I : II) (a0 : Nat) (x1 : Int32) (x2 : Int32) (x3 : Int32) (x4 : Int32) (x8 : Int32) (x10 : Int32) (self125 : Int32 → Int32 → Option (Int32 × II)) (x11 : Int32) (x12 : Int32) : Option (Int32 × II) :=
  if (x8 - (1 : Int32)) ≤ x12 then jn_X11_line_169 fu S I a0 x1 x2 x3 x4 x8 x10 x11 else if x11 = 0 then jn_X11_line_169 fu S I a0 x1 x2 x3 x4 x8 x10 x11 else gd (inb S (S.1 a0 54) ((x10 + ((2 : Int32) * x12)) + (1 : Int32))) (lt (t_X11_in (((rd I (S.1 a0 54) ((x10 + ((2 : Int32) * x12)) + (1 : Int32)))).toInt64) (1 : Int64) (30 : Int64)) fun x11_70 => (self125 x11_70 (x12 + (1 : Int32))))
def f_X11_line (fu : Nat) (S : Sk) (I : II) (a0 : Nat) (x1 : Int32) (x2 : Int32) (x3 : Int32) (x4 : Int32) (x5 : Int32) (x6 : Int32) (x7 : Int32) (x8 : Int32) : Option (Int32 × II) :=
  if (t_X11_noSheet x5) = 0 then if (t_X11_in x1.toInt64 (0 : Int64) (2 : Int64)) = 0 then jn_X11_line_64 fu S I a0 else if (t_X11_in x2.toInt64 (0 : Int64) (1439 : Int64)) = 0 then jn_X11_line_64 fu S I a0 else if (t_X11_in x3.toInt64 (1 : Int64) (240 : Int64)) = 0 then jn_X11_line_64 fu S I a0 else if (t_X11_in x4.toInt64 x2.toInt64 (1439 : Int64)) = 0 then jn_X11_line_64 fu S I a0 else (f_X11_barred fu S I a0 x5 x6 x7 ((2 : Int64) * x8.toInt64)).bind fun q81 => (lt q81.1 fun x9_84 => (if 0 ≤ x9_84 then lt (((60 : Int32) * x5) + x7) fun x10_86 => (lt (t_X11_in x8.toInt64 (2 : Int64) (8 : Int64)) fun x11_88 => (fix2 (lp_X11_line_125 fu S q81.2 a0 x1 x2 x3 x4 x8 x10_86) fu x11_88 (0 : Int32))) else some ((x9_84, q81.2)))) else (f_X11_refused fu S I a0 ((-1) : Int32)).bind fun q89 => (some ((q89.1, q89.2)))
set_option maxRecDepth 100000 in
set_option maxHeartbeats 4000000 in
theorem gg_X11_line {E : EV} (fu : Nat) (S0 : Sk) (I0 : II) (a0 : Nat) (x1 : Int32) (x2 : Int32) (x3 : Int32) (x4 : Int32) (x5 : Int32) (x6 : Int32) (x7 : Int32) (x8 : Int32) (ht0 : tyO S0 11 a0) : GG E i_X11_line (enM E i_X11_line S0 (po_X11_line S0 I0)) S0 I0 (0, 0) 0 [(0, vA (a0 + 1)), (1, vI x1), (2, vI x2), (3, vI x3), (4, vI x4), (5, vI x5), (6, vI x6), (7, vI x7), (8, vI x8)] [] (f_X11_line fu S0 I0 a0 x1 x2 x3 x4 x5 x6 x7 x8) := by
  have hj64 : ∀ (I : II), GG E i_X11_line (enM E i_X11_line S0 (po_X11_line S0 I0)) S0 I (0, 0) 64 [(0, vA (a0 + 1))] [] (jn_X11_line_64 fu S0 I a0) := by
    intro I  
    unfold jn_X11_line_64
    refine g_aload_n (dk D_X11_line 32 rfl) rfl ?_
    refine g_bipush (v := ((-2) : Int32)) (dk D_X11_line 33 rfl) rfl ?_
    refine g_bind (fun q1 hq2 => ?_)
    refine h_callVt (st := []) (c_X11_refused (E := E) fu S0 I a0 ((-2) : Int32) q1 hq2 (ht0)) cl_RX11_145 ht0 rfl rfl (by decide) (Nat.le_of_ble_eq_true rfl) (dk D_X11_line 34 rfl) ?_
    exact g_ireturn rfl rfl Sx.rf rfl (by decide) (by decide) (dk D_X11_line 35 rfl)
  have hl322 : ∀ (x10 : Int32) (nn : Nat) (x12 : Int32) (I : II), True → GG E i_X11_line (enM E i_X11_line S0 (po_X11_line S0 I0)) S0 I (0, 0) 322 [(0, vA (a0 + 1)), (1, vI x1), (8, vI x8), (10, vI x10), (12, vI x12)] [] (fix2 (lp_X11_line_322 fu S0 a0 x1 x8 x10) nn x12 I) := by
    intro x10 
    refine g_fix2 (fun _ _ => S0) (fun x12 I => I) (fun x12 I => [(0, vA (a0 + 1)), (1, vI x1), (8, vI x8), (10, vI x10), (12, vI x12)]) (fun x12 I => True) ?_
    intro self322 hself322 x12 I hinv
    have hj426 : ∀ (I : II) (x12 : Int32) (q0 : Nat) (s1 : Int32) (s2 : Int32) (h_q0 : tyR S0 100 q0), GG E i_X11_line (enM E i_X11_line S0 (po_X11_line S0 I0)) S0 I (0, 0) 426 [(0, vA (a0 + 1)), (1, vI x1), (8, vI x8), (10, vI x10), (12, vI x12)] [vI s2, vI s1, vA q0] (jn_X11_line_426 fu S0 I self322 a0 x1 x8 x10 x12 q0 s1 s2) := by
      intro I x12 q0 s1 s2 h_q0
      unfold jn_X11_line_426
      refine g_gd (fun hi4 => ?_)
      refine g_iastore h_q0 hi4 (dk D_X11_line 234 rfl) ?_
      refine g_ltI (fun I5 eI5 => ?_)
      refine g_iinc (v := (1 : Int32)) (L' := [(0, vA (a0 + 1)), (1, vI x1), (8, vI x8), (10, vI x10), (12, vI (x12 + (1 : Int32)))]) (dk D_X11_line 235 rfl) rfl rfl (Nat.le_of_ble_eq_true rfl) rfl ?_
      refine g_goto (tgt := 322) (dk D_X11_line 236 rfl) rfl ?_
      exact hself322 (x12 + (1 : Int32)) I5 trivial
    have hj421 : ∀ (I : II) (x12 : Int32) (q0 : Nat) (s1 : Int32) (s2 : Int32) (s3 : Int32) (s4 : Int32) (s5 : Int32) (h_q0 : tyR S0 100 q0), GG E i_X11_line (enM E i_X11_line S0 (po_X11_line S0 I0)) S0 I (0, 0) 421 [(0, vA (a0 + 1)), (1, vI x1), (8, vI x8), (10, vI x10), (12, vI x12)] [vI s5, vI s4, vI s3, vI s2, vI s1, vA q0] (jn_X11_line_421 fu S0 I self322 a0 x1 x8 x10 x12 q0 s1 s2 s3 s4 s5) := by
      intro I x12 q0 s1 s2 s3 s4 s5 h_q0
      unfold jn_X11_line_421
      refine g_isub (dk D_X11_line 231 rfl) ?_
      refine h_callS (st := [vI s2, vI s1, vA q0]) (c_X11_greater (E := E) S0 I s3 (s4 - s5)) cl_RX11_194 rfl rfl (by decide) (Nat.le_of_ble_eq_true rfl) (dk D_X11_line 232 rfl) ?_
      refine g_iadd (dk D_X11_line 233 rfl) ?_
      exact hj426 I x12 q0 s1 (s2 + (t_X11_greater s3 (s4 - s5))) h_q0
    unfold lp_X11_line_322
    refine g_iload (dk D_X11_line 171 rfl) rfl ?_
    refine g_iload (dk D_X11_line 172 rfl) rfl ?_
    refine g_icmp_ge (tgt := 433) (dk D_X11_line 173 rfl) rfl (fun hc7 => ?_) (fun hc7 => ?_)
    · refine g_aload_n (dk D_X11_line 237 rfl) rfl ?_
      refine g_dup (dk D_X11_line 238 rfl) rfl ?_
      refine g_getIt fl_RX11_172 (by decide) ht0 (dk D_X11_line 239 rfl) ?_
      refine g_iconst (v := (1 : Int32)) (dk D_X11_line 240 rfl) rfl ?_
      refine g_iadd (dk D_X11_line 241 rfl) ?_
      refine g_putIt fl_RX11_172 fp_11_4 (fun h => (by cases h)) (by decide) rfl rfl ht0 (dk D_X11_line 242 rfl) ?_
      refine g_ltI (fun I8 eI8 => ?_)
      refine g_aload_n (dk D_X11_line 243 rfl) rfl ?_
      refine g_aload_n (dk D_X11_line 244 rfl) rfl ?_
      refine g_getIt fl_RX11_172 (by decide) ht0 (dk D_X11_line 245 rfl) ?_
      refine g_iconst (v := (1 : Int32)) (dk D_X11_line 246 rfl) rfl ?_
      refine g_isub (dk D_X11_line 247 rfl) ?_
      refine g_bind (fun q9 hq10 => ?_)
      refine h_callVt (st := []) (c_X11_refused (E := E) fu S0 I8 a0 ((I8 a0 4) - (1 : Int32)) q9 hq10 (ht0)) cl_RX11_145 ht0 rfl rfl (by decide) (Nat.le_of_ble_eq_true rfl) (dk D_X11_line 248 rfl) ?_
      exact g_ireturn rfl rfl Sx.rf rfl (by decide) (by decide) (dk D_X11_line 249 rfl)
    · refine g_aload_n (dk D_X11_line 174 rfl) rfl ?_
      refine g_getAt (t := 100) fl_RX11_22 rfl ht0 (dk D_X11_line 175 rfl) (fun ht12 => ?_)
      refine g_bipush (v := (8 : Int32)) (dk D_X11_line 176 rfl) rfl ?_
      refine g_aload_n (dk D_X11_line 177 rfl) rfl ?_
      refine g_getIt fl_RX11_172 (by decide) ht0 (dk D_X11_line 178 rfl) ?_
      refine g_imul (dk D_X11_line 179 rfl) ?_
      refine g_iload (dk D_X11_line 180 rfl) rfl ?_
      refine g_iadd (dk D_X11_line 181 rfl) ?_
      refine g_aload_n (dk D_X11_line 182 rfl) rfl ?_
      refine g_getAt (t := 100) fl_RX11_118 rfl ht0 (dk D_X11_line 183 rfl) (fun ht13 => ?_)
      refine g_iload (dk D_X11_line 184 rfl) rfl ?_
      refine g_iconst (v := (2 : Int32)) (dk D_X11_line 185 rfl) rfl ?_
      refine g_iload (dk D_X11_line 186 rfl) rfl ?_
      refine g_imul (dk D_X11_line 187 rfl) ?_
      refine g_iadd (dk D_X11_line 188 rfl) ?_
      refine g_gd (fun hi14 => ?_)
      refine g_iaload ht13 hi14 (dk D_X11_line 189 rfl) ?_
      refine g_gd (fun hi15 => ?_)
      refine g_iastore ht12 hi15 (dk D_X11_line 190 rfl) ?_
      refine g_ltI (fun I16 eI16 => ?_)
      refine g_aload_n (dk D_X11_line 191 rfl) rfl ?_
      refine g_getAt (t := 100) fl_RX11_25 rfl ht0 (dk D_X11_line 192 rfl) (fun ht17 => ?_)
      refine g_bipush (v := (8 : Int32)) (dk D_X11_line 193 rfl) rfl ?_
      refine g_aload_n (dk D_X11_line 194 rfl) rfl ?_
      refine g_getIt fl_RX11_172 (by decide) ht0 (dk D_X11_line 195 rfl) ?_
      refine g_imul (dk D_X11_line 196 rfl) ?_
      refine g_iload (dk D_X11_line 197 rfl) rfl ?_
      refine g_iadd (dk D_X11_line 198 rfl) ?_
      refine g_iload (dk D_X11_line 199 rfl) rfl ?_
      refine g_if_ne (tgt := 379) (dk D_X11_line 200 rfl) rfl (fun hc18 => ?_) (fun hc18 => ?_)
      · refine g_aload_n (dk D_X11_line 203 rfl) rfl ?_
        refine g_getAt (t := 100) fl_RX11_25 rfl ht0 (dk D_X11_line 204 rfl) (fun ht19 => ?_)
        refine g_bipush (v := (8 : Int32)) (dk D_X11_line 205 rfl) rfl ?_
        refine g_aload_n (dk D_X11_line 206 rfl) rfl ?_
        refine g_getIt fl_RX11_172 (by decide) ht0 (dk D_X11_line 207 rfl) ?_
        refine g_imul (dk D_X11_line 208 rfl) ?_
        refine g_iload (dk D_X11_line 209 rfl) rfl ?_
        refine g_iadd (dk D_X11_line 210 rfl) ?_
        refine g_iconst (v := (1 : Int32)) (dk D_X11_line 211 rfl) rfl ?_
        refine g_isub (dk D_X11_line 212 rfl) ?_
        refine g_gd (fun hi20 => ?_)
        refine g_iaload ht17 hi20 (dk D_X11_line 213 rfl) ?_
        refine g_iconst (v := (1 : Int32)) (dk D_X11_line 214 rfl) rfl ?_
        refine g_aload_n (dk D_X11_line 215 rfl) rfl ?_
        refine g_getAt (t := 100) fl_RX11_118 rfl ht0 (dk D_X11_line 216 rfl) (fun ht21 => ?_)
        refine g_iload (dk D_X11_line 217 rfl) rfl ?_
        refine g_iconst (v := (2 : Int32)) (dk D_X11_line 218 rfl) rfl ?_
        refine g_iload (dk D_X11_line 219 rfl) rfl ?_
        refine g_imul (dk D_X11_line 220 rfl) ?_
        refine g_iadd (dk D_X11_line 221 rfl) ?_
        refine g_iconst (v := (1 : Int32)) (dk D_X11_line 222 rfl) rfl ?_
        refine g_isub (dk D_X11_line 223 rfl) ?_
        refine g_gd (fun hi22 => ?_)
        refine g_iaload ht13 hi22 (dk D_X11_line 224 rfl) ?_
        refine g_iload_n (dk D_X11_line 225 rfl) rfl ?_
        refine g_iconst (v := (2 : Int32)) (dk D_X11_line 226 rfl) rfl ?_
        refine g_icmp_ne (tgt := 420) (dk D_X11_line 227 rfl) rfl (fun hc23 => ?_) (fun hc23 => ?_)
        · refine g_iconst (v := (0 : Int32)) (dk D_X11_line 230 rfl) rfl ?_
          exact hj421 I16 x12 (S0.1 a0 8) (((8 : Int32) * (I16 a0 4)) + x12) (rd I16 (S0.1 a0 8) ((((8 : Int32) * (I16 a0 4)) + x12) - (1 : Int32))) (1 : Int32) (rd I16 (S0.1 a0 54) ((x10 + ((2 : Int32) * x12)) - (1 : Int32))) (0 : Int32) ht17
        · refine g_iconst (v := (1 : Int32)) (dk D_X11_line 228 rfl) rfl ?_
          refine g_goto (tgt := 421) (dk D_X11_line 229 rfl) rfl ?_
          exact hj421 I16 x12 (S0.1 a0 8) (((8 : Int32) * (I16 a0 4)) + x12) (rd I16 (S0.1 a0 8) ((((8 : Int32) * (I16 a0 4)) + x12) - (1 : Int32))) (1 : Int32) (rd I16 (S0.1 a0 54) ((x10 + ((2 : Int32) * x12)) - (1 : Int32))) (1 : Int32) ht17
      · refine g_iconst (v := (0 : Int32)) (dk D_X11_line 201 rfl) rfl ?_
        refine g_goto (tgt := 426) (dk D_X11_line 202 rfl) rfl ?_
        exact hj426 I16 x12 (S0.1 a0 8) (((8 : Int32) * (I16 a0 4)) + x12) (0 : Int32) ht17
  have hl184 : ∀ (I : II) (x10 : Int32) (nn : Nat) (x12 : Int32), True → GG E i_X11_line (enM E i_X11_line S0 (po_X11_line S0 I0)) S0 I (0, 0) 184 [(0, vA (a0 + 1)), (1, vI x1), (2, vI x2), (3, vI x3), (4, vI x4), (8, vI x8), (10, vI x10), (12, vI x12)] [] (fix1 (lp_X11_line_184 fu S0 I a0 x1 x2 x3 x4 x8 x10) nn x12) := by
    intro I x10 
    refine g_fix1 (fun _ => S0) (fun _ => I) (fun x12 => [(0, vA (a0 + 1)), (1, vI x1), (2, vI x2), (3, vI x3), (4, vI x4), (8, vI x8), (10, vI x10), (12, vI x12)]) (fun x12 => True) ?_
    intro self184 hself184 x12 hinv
    unfold lp_X11_line_184
    refine g_iload (dk D_X11_line 96 rfl) rfl ?_
    refine g_iload (dk D_X11_line 97 rfl) rfl ?_
    refine g_icmp_ge (tgt := 222) (dk D_X11_line 98 rfl) rfl (fun hc24 => ?_) (fun hc24 => ?_)
    · refine g_aload_n (dk D_X11_line 116 rfl) rfl ?_
      refine g_iload (dk D_X11_line 117 rfl) rfl ?_
      refine g_iload (dk D_X11_line 118 rfl) rfl ?_
      refine g_bind (fun q25 hq26 => ?_)
      refine h_callVt (st := []) (c_X11_areUnlike (E := E) fu S0 I a0 x10 x8 q25 hq26 (ht0)) cl_RX11_190 ht0 rfl rfl (by decide) (Nat.le_of_ble_eq_true rfl) (dk D_X11_line 119 rfl) ?_
      refine g_if_ne (tgt := 240) (dk D_X11_line 120 rfl) rfl (fun hc28 => ?_) (fun hc28 => ?_)
      · refine g_aload_n (dk D_X11_line 125 rfl) rfl ?_
        refine g_getIt fl_RX11_172 (by decide) ht0 (dk D_X11_line 126 rfl) ?_
        refine g_bipush (v := (14 : Int32)) (dk D_X11_line 127 rfl) rfl ?_
        refine g_icmp_ne (tgt := 256) (dk D_X11_line 128 rfl) rfl (fun hc29 => ?_) (fun hc29 => ?_)
        · refine g_aload_n (dk D_X11_line 133 rfl) rfl ?_
          refine g_getAt (t := 100) fl_RX11_16 rfl ht0 (dk D_X11_line 134 rfl) (fun ht30 => ?_)
          refine g_aload_n (dk D_X11_line 135 rfl) rfl ?_
          refine g_getIt fl_RX11_172 (by decide) ht0 (dk D_X11_line 136 rfl) ?_
          refine g_iload_n (dk D_X11_line 137 rfl) rfl ?_
          refine g_gd (fun hi31 => ?_)
          refine g_iastore ht30 hi31 (dk D_X11_line 138 rfl) ?_
          refine g_ltI (fun I32 eI32 => ?_)
          refine g_aload_n (dk D_X11_line 139 rfl) rfl ?_
          refine g_getAt (t := 100) fl_RX11_19 rfl ht0 (dk D_X11_line 140 rfl) (fun ht33 => ?_)
          refine g_aload_n (dk D_X11_line 141 rfl) rfl ?_
          refine g_getIt fl_RX11_172 (by decide) ht0 (dk D_X11_line 142 rfl) ?_
          refine g_iload (dk D_X11_line 143 rfl) rfl ?_
          refine g_gd (fun hi34 => ?_)
          refine g_iastore ht33 hi34 (dk D_X11_line 144 rfl) ?_
          refine g_ltI (fun I35 eI35 => ?_)
          refine g_aload_n (dk D_X11_line 145 rfl) rfl ?_
          refine g_getAt (t := 100) fl_RX11_28 rfl ht0 (dk D_X11_line 146 rfl) (fun ht36 => ?_)
          refine g_aload_n (dk D_X11_line 147 rfl) rfl ?_
          refine g_getIt fl_RX11_172 (by decide) ht0 (dk D_X11_line 148 rfl) ?_
          refine g_iload_n (dk D_X11_line 149 rfl) rfl ?_
          refine g_gd (fun hi37 => ?_)
          refine g_iastore ht36 hi37 (dk D_X11_line 150 rfl) ?_
          refine g_ltI (fun I38 eI38 => ?_)
          refine g_aload_n (dk D_X11_line 151 rfl) rfl ?_
          refine g_getAt (t := 100) fl_RX11_31 rfl ht0 (dk D_X11_line 152 rfl) (fun ht39 => ?_)
          refine g_aload_n (dk D_X11_line 153 rfl) rfl ?_
          refine g_getIt fl_RX11_172 (by decide) ht0 (dk D_X11_line 154 rfl) ?_
          refine g_iload_n (dk D_X11_line 155 rfl) rfl ?_
          refine g_gd (fun hi40 => ?_)
          refine g_iastore ht39 hi40 (dk D_X11_line 156 rfl) ?_
          refine g_ltI (fun I41 eI41 => ?_)
          refine g_aload_n (dk D_X11_line 157 rfl) rfl ?_
          refine g_getAt (t := 100) fl_RX11_34 rfl ht0 (dk D_X11_line 158 rfl) (fun ht42 => ?_)
          refine g_aload_n (dk D_X11_line 159 rfl) rfl ?_
          refine g_getIt fl_RX11_172 (by decide) ht0 (dk D_X11_line 160 rfl) ?_
          refine g_iload (dk D_X11_line 161 rfl) rfl ?_
          refine g_gd (fun hi43 => ?_)
          refine g_iastore ht42 hi43 (dk D_X11_line 162 rfl) ?_
          refine g_ltI (fun I44 eI44 => ?_)
          refine g_aload_n (dk D_X11_line 163 rfl) rfl ?_
          refine g_getAt (t := 100) fl_RX11_40 rfl ht0 (dk D_X11_line 164 rfl) (fun ht45 => ?_)
          refine g_aload_n (dk D_X11_line 165 rfl) rfl ?_
          refine g_getIt fl_RX11_172 (by decide) ht0 (dk D_X11_line 166 rfl) ?_
          refine g_bipush (v := (59 : Int32)) (dk D_X11_line 167 rfl) rfl ?_
          refine g_gd (fun hi46 => ?_)
          refine g_iastore ht45 hi46 (dk D_X11_line 168 rfl) ?_
          refine g_ltI (fun I47 eI47 => ?_)
          refine g_iconst (v := (0 : Int32)) (dk D_X11_line 169 rfl) rfl ?_
          refine g_istore (L' := [(0, vA (a0 + 1)), (1, vI x1), (2, vI x2), (3, vI x3), (4, vI x4), (8, vI x8), (10, vI x10), (12, vI (0 : Int32))]) (dk D_X11_line 170 rfl) (Nat.le_of_ble_eq_true rfl) rfl ?_
          refine g_Lp [0, 1, 5, 6, 7] rfl ?_
          exact hl322 x10 fu (0 : Int32) I47 trivial
        · refine g_aload_n (dk D_X11_line 129 rfl) rfl ?_
          refine g_bipush (v := ((-4) : Int32)) (dk D_X11_line 130 rfl) rfl ?_
          refine g_bind (fun q48 hq49 => ?_)
          refine h_callVt (st := []) (c_X11_refused (E := E) fu S0 I a0 ((-4) : Int32) q48 hq49 (ht0)) cl_RX11_145 ht0 rfl rfl (by decide) (Nat.le_of_ble_eq_true rfl) (dk D_X11_line 131 rfl) ?_
          exact g_ireturn rfl rfl Sx.rf rfl (by decide) (by decide) (dk D_X11_line 132 rfl)
      · refine g_aload_n (dk D_X11_line 121 rfl) rfl ?_
        refine g_bipush (v := ((-3) : Int32)) (dk D_X11_line 122 rfl) rfl ?_
        refine g_bind (fun q51 hq52 => ?_)
        refine h_callVt (st := []) (c_X11_refused (E := E) fu S0 I a0 ((-3) : Int32) q51 hq52 (ht0)) cl_RX11_145 ht0 rfl rfl (by decide) (Nat.le_of_ble_eq_true rfl) (dk D_X11_line 123 rfl) ?_
        exact g_ireturn rfl rfl Sx.rf rfl (by decide) (by decide) (dk D_X11_line 124 rfl)
    · refine g_aload_n (dk D_X11_line 99 rfl) rfl ?_
      refine g_aload_n (dk D_X11_line 100 rfl) rfl ?_
      refine g_getAt (t := 100) fl_RX11_118 rfl ht0 (dk D_X11_line 101 rfl) (fun ht54 => ?_)
      refine g_iload (dk D_X11_line 102 rfl) rfl ?_
      refine g_iconst (v := (2 : Int32)) (dk D_X11_line 103 rfl) rfl ?_
      refine g_iload (dk D_X11_line 104 rfl) rfl ?_
      refine g_imul (dk D_X11_line 105 rfl) ?_
      refine g_iadd (dk D_X11_line 106 rfl) ?_
      refine g_gd (fun hi55 => ?_)
      refine g_iaload ht54 hi55 (dk D_X11_line 107 rfl) ?_
      refine h_callVt (st := []) (c_X11_noStop (E := E) S0 I a0 (rd I (S0.1 a0 54) (x10 + ((2 : Int32) * x12))) (ht0)) cl_RX11_164 ht0 rfl rfl (by decide) (Nat.le_of_ble_eq_true rfl) (dk D_X11_line 108 rfl) ?_
      refine g_if_eq (tgt := 216) (dk D_X11_line 109 rfl) rfl (fun hc57 => ?_) (fun hc57 => ?_)
      · refine g_iinc (v := (1 : Int32)) (L' := [(0, vA (a0 + 1)), (1, vI x1), (2, vI x2), (3, vI x3), (4, vI x4), (8, vI x8), (10, vI x10), (12, vI (x12 + (1 : Int32)))]) (dk D_X11_line 114 rfl) rfl rfl (Nat.le_of_ble_eq_true rfl) rfl ?_
        refine g_goto (tgt := 184) (dk D_X11_line 115 rfl) rfl ?_
        exact hself184 (x12 + (1 : Int32)) trivial
      · refine g_aload_n (dk D_X11_line 110 rfl) rfl ?_
        refine g_iconst (v := ((-1) : Int32)) (dk D_X11_line 111 rfl) rfl ?_
        refine g_bind (fun q58 hq59 => ?_)
        refine h_callVt (st := []) (c_X11_refused (E := E) fu S0 I a0 ((-1) : Int32) q58 hq59 (ht0)) cl_RX11_145 ht0 rfl rfl (by decide) (Nat.le_of_ble_eq_true rfl) (dk D_X11_line 112 rfl) ?_
        exact g_ireturn rfl rfl Sx.rf rfl (by decide) (by decide) (dk D_X11_line 113 rfl)
  have hj169 : ∀ (I : II) (x10 : Int32) (x11 : Int32), GG E i_X11_line (enM E i_X11_line S0 (po_X11_line S0 I0)) S0 I (0, 0) 169 [(0, vA (a0 + 1)), (1, vI x1), (2, vI x2), (3, vI x3), (4, vI x4), (8, vI x8), (10, vI x10), (11, vI x11)] [] (jn_X11_line_169 fu S0 I a0 x1 x2 x3 x4 x8 x10 x11) := by
    intro I x10 x11 
    unfold jn_X11_line_169
    refine g_iload (dk D_X11_line 88 rfl) rfl ?_
    refine g_if_ne (tgt := 181) (dk D_X11_line 89 rfl) rfl (fun hc61 => ?_) (fun hc61 => ?_)
    · refine g_iconst (v := (0 : Int32)) (dk D_X11_line 94 rfl) rfl ?_
      refine g_istore (L' := [(0, vA (a0 + 1)), (1, vI x1), (2, vI x2), (3, vI x3), (4, vI x4), (8, vI x8), (10, vI x10), (11, vI x11), (12, vI (0 : Int32))]) (dk D_X11_line 95 rfl) (Nat.le_of_ble_eq_true rfl) rfl ?_
      refine g_Lp [0, 1, 2, 3, 4, 5, 6, 8] rfl ?_
      exact hl184 I x10 fu (0 : Int32) trivial
    · refine g_aload_n (dk D_X11_line 90 rfl) rfl ?_
      refine g_bipush (v := ((-2) : Int32)) (dk D_X11_line 91 rfl) rfl ?_
      refine g_bind (fun q62 hq63 => ?_)
      refine h_callVt (st := []) (c_X11_refused (E := E) fu S0 I a0 ((-2) : Int32) q62 hq63 (ht0)) cl_RX11_145 ht0 rfl rfl (by decide) (Nat.le_of_ble_eq_true rfl) (dk D_X11_line 92 rfl) ?_
      exact g_ireturn rfl rfl Sx.rf rfl (by decide) (by decide) (dk D_X11_line 93 rfl)
  have hl125 : ∀ (I : II) (x10 : Int32) (nn : Nat) (x11 : Int32) (x12 : Int32), True → GG E i_X11_line (enM E i_X11_line S0 (po_X11_line S0 I0)) S0 I (0, 0) 125 [(0, vA (a0 + 1)), (1, vI x1), (2, vI x2), (3, vI x3), (4, vI x4), (8, vI x8), (10, vI x10), (11, vI x11), (12, vI x12)] [] (fix2 (lp_X11_line_125 fu S0 I a0 x1 x2 x3 x4 x8 x10) nn x11 x12) := by
    intro I x10 
    refine g_fix2 (fun _ _ => S0) (fun _ _ => I) (fun x11 x12 => [(0, vA (a0 + 1)), (1, vI x1), (2, vI x2), (3, vI x3), (4, vI x4), (8, vI x8), (10, vI x10), (11, vI x11), (12, vI x12)]) (fun x11 x12 => True) ?_
    intro self125 hself125 x11 x12 hinv
    unfold lp_X11_line_125
    refine g_iload (dk D_X11_line 64 rfl) rfl ?_
    refine g_iload (dk D_X11_line 65 rfl) rfl ?_
    refine g_iconst (v := (1 : Int32)) (dk D_X11_line 66 rfl) rfl ?_
    refine g_isub (dk D_X11_line 67 rfl) ?_
    refine g_icmp_ge (tgt := 169) (dk D_X11_line 68 rfl) rfl (fun hc65 => ?_) (fun hc65 => ?_)
    · refine g_Lp [0, 1, 2, 3, 4, 5, 6, 7] rfl ?_
      exact hj169 I x10 x11
    · refine g_iload (dk D_X11_line 69 rfl) rfl ?_
      refine g_if_eq (tgt := 169) (dk D_X11_line 70 rfl) rfl (fun hc66 => ?_) (fun hc66 => ?_)
      · refine g_Lp [0, 1, 2, 3, 4, 5, 6, 7] rfl ?_
        exact hj169 I x10 x11
      · refine g_aload_n (dk D_X11_line 71 rfl) rfl ?_
        refine g_getAt (t := 100) fl_RX11_118 rfl ht0 (dk D_X11_line 72 rfl) (fun ht67 => ?_)
        refine g_iload (dk D_X11_line 73 rfl) rfl ?_
        refine g_iconst (v := (2 : Int32)) (dk D_X11_line 74 rfl) rfl ?_
        refine g_iload (dk D_X11_line 75 rfl) rfl ?_
        refine g_imul (dk D_X11_line 76 rfl) ?_
        refine g_iadd (dk D_X11_line 77 rfl) ?_
        refine g_iconst (v := (1 : Int32)) (dk D_X11_line 78 rfl) rfl ?_
        refine g_iadd (dk D_X11_line 79 rfl) ?_
        refine g_gd (fun hi68 => ?_)
        refine g_iaload ht67 hi68 (dk D_X11_line 80 rfl) ?_
        refine g_i2l (dk D_X11_line 81 rfl) ?_
        refine g_lconst (v := (1 : Int64)) (dk D_X11_line 82 rfl) rfl ?_
        refine g_ldc2 (dk D_X11_line 83 rfl) lk_RX11_188 ?_
        refine h_callS (st := []) (c_X11_in (E := E) S0 I (((rd I (S0.1 a0 54) ((x10 + ((2 : Int32) * x12)) + (1 : Int32)))).toInt64) (1 : Int64) (30 : Int64)) cl_RX11_132 rfl rfl (by decide) (Nat.le_of_ble_eq_true rfl) (dk D_X11_line 84 rfl) ?_
        refine g_ltV (fun x11_70 ex11_70 => ?_)
        refine g_istore (L' := [(0, vA (a0 + 1)), (1, vI x1), (2, vI x2), (3, vI x3), (4, vI x4), (8, vI x8), (10, vI x10), (11, vI x11_70), (12, vI x12)]) (dk D_X11_line 85 rfl) (Nat.le_of_ble_eq_true rfl) rfl ?_
        refine g_iinc (v := (1 : Int32)) (L' := [(0, vA (a0 + 1)), (1, vI x1), (2, vI x2), (3, vI x3), (4, vI x4), (8, vI x8), (10, vI x10), (11, vI x11_70), (12, vI (x12 + (1 : Int32)))]) (dk D_X11_line 86 rfl) rfl rfl (Nat.le_of_ble_eq_true rfl) rfl ?_
        refine g_goto (tgt := 125) (dk D_X11_line 87 rfl) rfl ?_
        exact hself125 x11_70 (x12 + (1 : Int32)) trivial
  unfold f_X11_line
  refine g_iload (dk D_X11_line 0 rfl) rfl ?_
  refine h_callS (st := []) (c_X11_noSheet (E := E) S0 I0 x5) cl_RX11_175 rfl rfl (by decide) (Nat.le_of_ble_eq_true rfl) (dk D_X11_line 1 rfl) ?_
  refine g_if_eq (tgt := 14) (dk D_X11_line 2 rfl) rfl (fun hc72 => ?_) (fun hc72 => ?_)
  · refine g_iload_n (dk D_X11_line 7 rfl) rfl ?_
    refine g_i2l (dk D_X11_line 8 rfl) ?_
    refine g_lconst (v := (0 : Int64)) (dk D_X11_line 9 rfl) rfl ?_
    refine g_ldc2 (dk D_X11_line 10 rfl) lk_RX11_143 ?_
    refine h_callS (st := []) (c_X11_in (E := E) S0 I0 x1.toInt64 (0 : Int64) (2 : Int64)) cl_RX11_132 rfl rfl (by decide) (Nat.le_of_ble_eq_true rfl) (dk D_X11_line 11 rfl) ?_
    refine g_if_eq (tgt := 64) (dk D_X11_line 12 rfl) rfl (fun hc74 => ?_) (fun hc74 => ?_)
    · refine g_Lp [0] rfl ?_
      exact hj64 I0
    · refine g_iload_n (dk D_X11_line 13 rfl) rfl ?_
      refine g_i2l (dk D_X11_line 14 rfl) ?_
      refine g_lconst (v := (0 : Int64)) (dk D_X11_line 15 rfl) rfl ?_
      refine g_ldc2 (dk D_X11_line 16 rfl) lk_RX11_178 ?_
      refine h_callS (st := []) (c_X11_in (E := E) S0 I0 x2.toInt64 (0 : Int64) (1439 : Int64)) cl_RX11_132 rfl rfl (by decide) (Nat.le_of_ble_eq_true rfl) (dk D_X11_line 17 rfl) ?_
      refine g_if_eq (tgt := 64) (dk D_X11_line 18 rfl) rfl (fun hc76 => ?_) (fun hc76 => ?_)
      · refine g_Lp [0] rfl ?_
        exact hj64 I0
      · refine g_iload_n (dk D_X11_line 19 rfl) rfl ?_
        refine g_i2l (dk D_X11_line 20 rfl) ?_
        refine g_lconst (v := (1 : Int64)) (dk D_X11_line 21 rfl) rfl ?_
        refine g_ldc2 (dk D_X11_line 22 rfl) lk_RX11_180 ?_
        refine h_callS (st := []) (c_X11_in (E := E) S0 I0 x3.toInt64 (1 : Int64) (240 : Int64)) cl_RX11_132 rfl rfl (by decide) (Nat.le_of_ble_eq_true rfl) (dk D_X11_line 23 rfl) ?_
        refine g_if_eq (tgt := 64) (dk D_X11_line 24 rfl) rfl (fun hc78 => ?_) (fun hc78 => ?_)
        · refine g_Lp [0] rfl ?_
          exact hj64 I0
        · refine g_iload (dk D_X11_line 25 rfl) rfl ?_
          refine g_i2l (dk D_X11_line 26 rfl) ?_
          refine g_iload_n (dk D_X11_line 27 rfl) rfl ?_
          refine g_i2l (dk D_X11_line 28 rfl) ?_
          refine g_ldc2 (dk D_X11_line 29 rfl) lk_RX11_178 ?_
          refine h_callS (st := []) (c_X11_in (E := E) S0 I0 x4.toInt64 x2.toInt64 (1439 : Int64)) cl_RX11_132 rfl rfl (by decide) (Nat.le_of_ble_eq_true rfl) (dk D_X11_line 30 rfl) ?_
          refine g_if_ne (tgt := 71) (dk D_X11_line 31 rfl) rfl (fun hc80 => ?_) (fun hc80 => ?_)
          · refine g_aload_n (dk D_X11_line 36 rfl) rfl ?_
            refine g_iload (dk D_X11_line 37 rfl) rfl ?_
            refine g_iload (dk D_X11_line 38 rfl) rfl ?_
            refine g_iload (dk D_X11_line 39 rfl) rfl ?_
            refine g_ldc2 (dk D_X11_line 40 rfl) lk_RX11_143 ?_
            refine g_iload (dk D_X11_line 41 rfl) rfl ?_
            refine g_i2l (dk D_X11_line 42 rfl) ?_
            refine g_lmul (dk D_X11_line 43 rfl) ?_
            refine g_bind (fun q81 hq82 => ?_)
            refine h_callVt (st := []) (c_X11_barred (E := E) fu S0 I0 a0 x5 x6 x7 ((2 : Int64) * x8.toInt64) q81 hq82 (ht0)) cl_RX11_182 ht0 rfl rfl (by decide) (Nat.le_of_ble_eq_true rfl) (dk D_X11_line 44 rfl) ?_
            refine g_ltV (fun x9_84 ex9_84 => ?_)
            refine g_istore (L' := [(0, vA (a0 + 1)), (1, vI x1), (2, vI x2), (3, vI x3), (4, vI x4), (5, vI x5), (6, vI x6), (7, vI x7), (8, vI x8), (9, vI x9_84)]) (dk D_X11_line 45 rfl) (Nat.le_of_ble_eq_true rfl) rfl ?_
            refine g_iload (dk D_X11_line 46 rfl) rfl ?_
            refine g_if_ge (tgt := 98) (dk D_X11_line 47 rfl) rfl (fun hc85 => ?_) (fun hc85 => ?_)
            · refine g_bipush (v := (60 : Int32)) (dk D_X11_line 50 rfl) rfl ?_
              refine g_iload (dk D_X11_line 51 rfl) rfl ?_
              refine g_imul (dk D_X11_line 52 rfl) ?_
              refine g_iload (dk D_X11_line 53 rfl) rfl ?_
              refine g_iadd (dk D_X11_line 54 rfl) ?_
              refine g_ltV (fun x10_86 ex10_86 => ?_)
              refine g_istore (L' := [(0, vA (a0 + 1)), (1, vI x1), (2, vI x2), (3, vI x3), (4, vI x4), (5, vI x5), (6, vI x6), (7, vI x7), (8, vI x8), (9, vI x9_84), (10, vI x10_86)]) (dk D_X11_line 55 rfl) (Nat.le_of_ble_eq_true rfl) rfl ?_
              refine g_iload (dk D_X11_line 56 rfl) rfl ?_
              refine g_i2l (dk D_X11_line 57 rfl) ?_
              refine g_ldc2 (dk D_X11_line 58 rfl) lk_RX11_143 ?_
              refine g_ldc2 (dk D_X11_line 59 rfl) lk_RX11_186 ?_
              refine h_callS (st := []) (c_X11_in (E := E) S0 q81.2 x8.toInt64 (2 : Int64) (8 : Int64)) cl_RX11_132 rfl rfl (by decide) (Nat.le_of_ble_eq_true rfl) (dk D_X11_line 60 rfl) ?_
              refine g_ltV (fun x11_88 ex11_88 => ?_)
              refine g_istore (L' := [(0, vA (a0 + 1)), (1, vI x1), (2, vI x2), (3, vI x3), (4, vI x4), (5, vI x5), (6, vI x6), (7, vI x7), (8, vI x8), (9, vI x9_84), (10, vI x10_86), (11, vI x11_88)]) (dk D_X11_line 61 rfl) (Nat.le_of_ble_eq_true rfl) rfl ?_
              refine g_iconst (v := (0 : Int32)) (dk D_X11_line 62 rfl) rfl ?_
              refine g_istore (L' := [(0, vA (a0 + 1)), (1, vI x1), (2, vI x2), (3, vI x3), (4, vI x4), (5, vI x5), (6, vI x6), (7, vI x7), (8, vI x8), (9, vI x9_84), (10, vI x10_86), (11, vI x11_88), (12, vI (0 : Int32))]) (dk D_X11_line 63 rfl) (Nat.le_of_ble_eq_true rfl) rfl ?_
              refine g_Lp [0, 1, 2, 3, 4, 8, 10, 11, 12] rfl ?_
              exact hl125 q81.2 x10_86 fu x11_88 (0 : Int32) trivial
            · refine g_iload (dk D_X11_line 48 rfl) rfl ?_
              exact g_ireturn rfl rfl Sx.rf rfl (by decide) (by decide) (dk D_X11_line 49 rfl)
          · refine g_Lp [0] rfl ?_
            exact hj64 I0
  · refine g_aload_n (dk D_X11_line 3 rfl) rfl ?_
    refine g_iconst (v := ((-1) : Int32)) (dk D_X11_line 4 rfl) rfl ?_
    refine g_bind (fun q89 hq90 => ?_)
    refine h_callVt (st := []) (c_X11_refused (E := E) fu S0 I0 a0 ((-1) : Int32) q89 hq90 (ht0)) cl_RX11_145 ht0 rfl rfl (by decide) (Nat.le_of_ble_eq_true rfl) (dk D_X11_line 5 rfl) ?_
    exact g_ireturn rfl rfl Sx.rf rfl (by decide) (by decide) (dk D_X11_line 6 rfl)
theorem c_X11_line {E : EV} (fu : Nat) (S0 : Sk) (I0 : II) (a0 : Nat) (x1 : Int32) (x2 : Int32) (x3 : Int32) (x4 : Int32) (x5 : Int32) (x6 : Int32) (x7 : Int32) (x8 : Int32) (r : Int32 × II) (h : f_X11_line fu S0 I0 a0 x1 x2 x3 x4 x5 x6 x7 x8 = some r) (ht0 : tyO S0 11 a0) : MX E yX11_line i_X11_line S0 I0 [vA (a0 + 1), vI x1, vI x2, vI x3, vI x4, vI x5, vI x6, vI x7, vI x8] (po_X11_line S0 I0 r) :=
  MX.of h (by decide) rfl rfl (Nat.le_of_ble_eq_true rfl) (gg_X11_line fu S0 I0 a0 x1 x2 x3 x4 x5 x6 x7 x8 ht0)
theorem cl_RX11_197 : CV0 RX11 197 yX11_noLine i_X11_noLine 1 11 := ⟨⟨(gm 1212 (by decide +kernel) (by decide +kernel)), (gm 72 (by decide +kernel) (by decide +kernel)), ((gm 1215 (by decide +kernel) (by decide +kernel))), by decide +kernel, by decide +kernel, by decide +kernel⟩, ⟨(gm 1214 (by decide +kernel) (by decide +kernel)), (gm 31 (by decide +kernel) (by decide +kernel))⟩, rfl, by decide⟩
theorem cl_RX11_200 : CS0 RX11 200 yX11_isDay i_X11_isDay 1 := ⟨⟨(gm 1216 (by decide +kernel) (by decide +kernel)), (gm 72 (by decide +kernel) (by decide +kernel)), (gm 1218 (by decide +kernel) (by decide +kernel)), by decide +kernel, by decide +kernel, by decide +kernel⟩, (gm 1217 (by decide +kernel) (by decide +kernel))⟩
def tb_X11_days : List (Nat × Instr × Nat) := [(0, .aload_n 0, 1), (1, .iload_n 1, 1), (2, .invokevirtual 197, 3), (5, .ifCond .eq 5, 3), (8, .iconst (-1), 1), (9, .ireturn, 1), (10, .iload_n 2, 1), (11, .invokestatic 200, 3), (14, .ifCond .eq 16, 3), (17, .iload_n 3, 1), (18, .i2l, 1), (19, .iload_n 2, 1), (20, .i2l, 1), (21, .ldc2_w 130, 3), (24, .invokestatic 132, 3), (27, .ifCond .ne 6, 3), (30, .bipush (-2), 2), (32, .ireturn, 1), (33, .aload_n 0, 1), (34, .getfield 37, 3), (37, .iload_n 1, 1), (38, .iaload, 1), (39, .iload_n 2, 1), (40, .if_icmp .ne 17, 3), (43, .aload_n 0, 1), (44, .getfield 40, 3), (47, .iload_n 1, 1), (48, .iaload, 1), (49, .iload_n 3, 1), (50, .if_icmp .ne 7, 3), (53, .iconst 1, 1), (54, .goto 4, 3), (57, .iconst 0, 1), (58, .istore 4, 2), (60, .aload_n 0, 1), (61, .getfield 37, 3), (64, .iload_n 1, 1), (65, .iload_n 2, 1), (66, .iastore, 1), (67, .aload_n 0, 1), (68, .getfield 40, 3), (71, .iload_n 1, 1), (72, .iload_n 3, 1), (73, .iastore, 1), (74, .iload 4, 2), (76, .ifCond .eq 7, 3), (79, .iconst 0, 1), (80, .goto 4, 3), (83, .iconst 1, 1), (84, .ireturn, 1)]
def i_X11_days : MI := (RX11, cX11_days, 5, (some .int), "days", { frames := 2, cells := 0, slots := 0, locals := 46 })
theorem D_X11_days : tbOK (i_X11_days).2.1 tb_X11_days := by show ∀ q ∈ tb_X11_days, decode cX11_days q.1 = .ok (q.2.1, q.2.2); decide +kernel
def po_X11_days (S : Sk) (I : II) (r : Int32 × II) : Option LV × Sk × II := (some (vI r.1), S, r.2)
def jn_X11_days_58 (fu : Nat) (S : Sk) (I : II) (a0 : Nat) (x1 : Int32) (x2 : Int32) (x3 : Int32) (s0 : Int32) : Option (Int32 × II) :=
  gd (inb S (S.1 a0 12) x1) (lt (wr I (S.1 a0 12) x1 x2) fun I3 => (gd (inb S (S.1 a0 13) x1) (lt (wr I3 (S.1 a0 13) x1 x3) fun I6 => (if s0 = 0 then some (((1 : Int32), I6)) else some (((0 : Int32), I6))))))
def jn_X11_days_57 (fu : Nat) (S : Sk) (I : II) (a0 : Nat) (x1 : Int32) (x2 : Int32) (x3 : Int32) : Option (Int32 × II) :=
  jn_X11_days_58 fu S I a0 x1 x2 x3 (0 : Int32)
def f_X11_days (fu : Nat) (S : Sk) (I : II) (a0 : Nat) (x1 : Int32) (x2 : Int32) (x3 : Int32) : Option (Int32 × II) :=
  if (t_X11_noLine I a0 x1) = 0 then if (t_X11_isDay x2) = 0 then some ((((-2) : Int32), I)) else if (t_X11_in x3.toInt64 x2.toInt64 (59 : Int64)) = 0 then some ((((-2) : Int32), I)) else gd (inb S (S.1 a0 12) x1) (if (rd I (S.1 a0 12) x1) = x2 then gd (inb S (S.1 a0 13) x1) (if (rd I (S.1 a0 13) x1) = x3 then jn_X11_days_58 fu S I a0 x1 x2 x3 (1 : Int32) else jn_X11_days_57 fu S I a0 x1 x2 x3) else jn_X11_days_57 fu S I a0 x1 x2 x3) else some ((((-1) : Int32), I))
set_option maxRecDepth 100000 in
set_option maxHeartbeats 4000000 in
theorem gg_X11_days {E : EV} (fu : Nat) (S0 : Sk) (I0 : II) (a0 : Nat) (x1 : Int32) (x2 : Int32) (x3 : Int32) (ht0 : tyO S0 11 a0) : GG E i_X11_days (enM E i_X11_days S0 (po_X11_days S0 I0)) S0 I0 (0, 0) 0 [(0, vA (a0 + 1)), (1, vI x1), (2, vI x2), (3, vI x3)] [] (f_X11_days fu S0 I0 a0 x1 x2 x3) := by
  have hj58 : ∀ (I : II) (s0 : Int32), GG E i_X11_days (enM E i_X11_days S0 (po_X11_days S0 I0)) S0 I (0, 0) 58 [(0, vA (a0 + 1)), (1, vI x1), (2, vI x2), (3, vI x3)] [vI s0] (jn_X11_days_58 fu S0 I a0 x1 x2 x3 s0) := by
    intro I s0 
    unfold jn_X11_days_58
    refine g_istore (L' := [(0, vA (a0 + 1)), (1, vI x1), (2, vI x2), (3, vI x3), (4, vI s0)]) (dk D_X11_days 33 rfl) (Nat.le_of_ble_eq_true rfl) rfl ?_
    refine g_aload_n (dk D_X11_days 34 rfl) rfl ?_
    refine g_getAt (t := 100) fl_RX11_37 rfl ht0 (dk D_X11_days 35 rfl) (fun ht1 => ?_)
    refine g_iload_n (dk D_X11_days 36 rfl) rfl ?_
    refine g_iload_n (dk D_X11_days 37 rfl) rfl ?_
    refine g_gd (fun hi2 => ?_)
    refine g_iastore ht1 hi2 (dk D_X11_days 38 rfl) ?_
    refine g_ltI (fun I3 eI3 => ?_)
    refine g_aload_n (dk D_X11_days 39 rfl) rfl ?_
    refine g_getAt (t := 100) fl_RX11_40 rfl ht0 (dk D_X11_days 40 rfl) (fun ht4 => ?_)
    refine g_iload_n (dk D_X11_days 41 rfl) rfl ?_
    refine g_iload_n (dk D_X11_days 42 rfl) rfl ?_
    refine g_gd (fun hi5 => ?_)
    refine g_iastore ht4 hi5 (dk D_X11_days 43 rfl) ?_
    refine g_ltI (fun I6 eI6 => ?_)
    refine g_iload (dk D_X11_days 44 rfl) rfl ?_
    refine g_if_eq (tgt := 83) (dk D_X11_days 45 rfl) rfl (fun hc7 => ?_) (fun hc7 => ?_)
    · refine g_iconst (v := (1 : Int32)) (dk D_X11_days 48 rfl) rfl ?_
      exact g_ireturn rfl rfl Sx.rf rfl (by decide) (by decide) (dk D_X11_days 49 rfl)
    · refine g_iconst (v := (0 : Int32)) (dk D_X11_days 46 rfl) rfl ?_
      refine g_goto (tgt := 84) (dk D_X11_days 47 rfl) rfl ?_
      exact g_ireturn rfl rfl Sx.rf rfl (by decide) (by decide) (dk D_X11_days 49 rfl)
  have hj57 : ∀ (I : II), GG E i_X11_days (enM E i_X11_days S0 (po_X11_days S0 I0)) S0 I (0, 0) 57 [(0, vA (a0 + 1)), (1, vI x1), (2, vI x2), (3, vI x3)] [] (jn_X11_days_57 fu S0 I a0 x1 x2 x3) := by
    intro I  
    unfold jn_X11_days_57
    refine g_iconst (v := (0 : Int32)) (dk D_X11_days 32 rfl) rfl ?_
    exact hj58 I (0 : Int32)
  unfold f_X11_days
  refine g_aload_n (dk D_X11_days 0 rfl) rfl ?_
  refine g_iload_n (dk D_X11_days 1 rfl) rfl ?_
  refine h_callVt (st := []) (c_X11_noLine (E := E) S0 I0 a0 x1 (ht0)) cl_RX11_197 ht0 rfl rfl (by decide) (Nat.le_of_ble_eq_true rfl) (dk D_X11_days 2 rfl) ?_
  refine g_if_eq (tgt := 10) (dk D_X11_days 3 rfl) rfl (fun hc9 => ?_) (fun hc9 => ?_)
  · refine g_iload_n (dk D_X11_days 6 rfl) rfl ?_
    refine h_callS (st := []) (c_X11_isDay (E := E) S0 I0 x2) cl_RX11_200 rfl rfl (by decide) (Nat.le_of_ble_eq_true rfl) (dk D_X11_days 7 rfl) ?_
    refine g_if_eq (tgt := 30) (dk D_X11_days 8 rfl) rfl (fun hc11 => ?_) (fun hc11 => ?_)
    · refine g_bipush (v := ((-2) : Int32)) (dk D_X11_days 16 rfl) rfl ?_
      exact g_ireturn rfl rfl Sx.rf rfl (by decide) (by decide) (dk D_X11_days 17 rfl)
    · refine g_iload_n (dk D_X11_days 9 rfl) rfl ?_
      refine g_i2l (dk D_X11_days 10 rfl) ?_
      refine g_iload_n (dk D_X11_days 11 rfl) rfl ?_
      refine g_i2l (dk D_X11_days 12 rfl) ?_
      refine g_ldc2 (dk D_X11_days 13 rfl) lk_RX11_130 ?_
      refine h_callS (st := []) (c_X11_in (E := E) S0 I0 x3.toInt64 x2.toInt64 (59 : Int64)) cl_RX11_132 rfl rfl (by decide) (Nat.le_of_ble_eq_true rfl) (dk D_X11_days 14 rfl) ?_
      refine g_if_ne (tgt := 33) (dk D_X11_days 15 rfl) rfl (fun hc13 => ?_) (fun hc13 => ?_)
      · refine g_aload_n (dk D_X11_days 18 rfl) rfl ?_
        refine g_getAt (t := 100) fl_RX11_37 rfl ht0 (dk D_X11_days 19 rfl) (fun ht14 => ?_)
        refine g_iload_n (dk D_X11_days 20 rfl) rfl ?_
        refine g_gd (fun hi15 => ?_)
        refine g_iaload ht14 hi15 (dk D_X11_days 21 rfl) ?_
        refine g_iload_n (dk D_X11_days 22 rfl) rfl ?_
        refine g_icmp_ne (tgt := 57) (dk D_X11_days 23 rfl) rfl (fun hc16 => ?_) (fun hc16 => ?_)
        · exact hj57 I0
        · refine g_aload_n (dk D_X11_days 24 rfl) rfl ?_
          refine g_getAt (t := 100) fl_RX11_40 rfl ht0 (dk D_X11_days 25 rfl) (fun ht17 => ?_)
          refine g_iload_n (dk D_X11_days 26 rfl) rfl ?_
          refine g_gd (fun hi18 => ?_)
          refine g_iaload ht17 hi18 (dk D_X11_days 27 rfl) ?_
          refine g_iload_n (dk D_X11_days 28 rfl) rfl ?_
          refine g_icmp_ne (tgt := 57) (dk D_X11_days 29 rfl) rfl (fun hc19 => ?_) (fun hc19 => ?_)
          · exact hj57 I0
          · refine g_iconst (v := (1 : Int32)) (dk D_X11_days 30 rfl) rfl ?_
            refine g_goto (tgt := 58) (dk D_X11_days 31 rfl) rfl ?_
            exact hj58 I0 (1 : Int32)
      · refine g_bipush (v := ((-2) : Int32)) (dk D_X11_days 16 rfl) rfl ?_
        exact g_ireturn rfl rfl Sx.rf rfl (by decide) (by decide) (dk D_X11_days 17 rfl)
  · refine g_iconst (v := ((-1) : Int32)) (dk D_X11_days 4 rfl) rfl ?_
    exact g_ireturn rfl rfl Sx.rf rfl (by decide) (by decide) (dk D_X11_days 5 rfl)
theorem c_X11_days {E : EV} (fu : Nat) (S0 : Sk) (I0 : II) (a0 : Nat) (x1 : Int32) (x2 : Int32) (x3 : Int32) (r : Int32 × II) (h : f_X11_days fu S0 I0 a0 x1 x2 x3 = some r) (ht0 : tyO S0 11 a0) : MX E yX11_days i_X11_days S0 I0 [vA (a0 + 1), vI x1, vI x2, vI x3] (po_X11_days S0 I0 r) :=
  MX.of h (by decide) rfl rfl (Nat.le_of_ble_eq_true rfl) (gg_X11_days fu S0 I0 a0 x1 x2 x3 ht0)
def tb_X11_buses : List (Nat × Instr × Nat) := [(0, .aload_n 0, 1), (1, .getfield 34, 3), (4, .iload_n 1, 1), (5, .iaload, 1), (6, .aload_n 0, 1), (7, .getfield 28, 3), (10, .iload_n 1, 1), (11, .iaload, 1), (12, .isub, 1), (13, .aload_n 0, 1), (14, .getfield 31, 3), (17, .iload_n 1, 1), (18, .iaload, 1), (19, .idiv, 1), (20, .iconst 1, 1), (21, .iadd, 1), (22, .ireturn, 1)]
def i_X11_buses : MI := (RX11, cX11_buses, 2, (some .int), "buses", { frames := 0, cells := 0, slots := 0, locals := 0 })
theorem D_X11_buses : tbOK (i_X11_buses).2.1 tb_X11_buses := by show ∀ q ∈ tb_X11_buses, decode cX11_buses q.1 = .ok (q.2.1, q.2.2); decide +kernel
def po_X11_buses (S : Sk) (I : II) (r : Int32) : Option LV × Sk × II := (some (vI r), S, I)
def f_X11_buses (fu : Nat) (S : Sk) (I : II) (a0 : Nat) (x1 : Int32) : Option (Int32) :=
  gd (inb S (S.1 a0 11) x1) (gd (inb S (S.1 a0 9) x1) (gd (inb S (S.1 a0 10) x1) (gd (¬ (rd I (S.1 a0 10) x1) = 0) (some (((((rd I (S.1 a0 11) x1) - (rd I (S.1 a0 9) x1)) / (rd I (S.1 a0 10) x1)) + (1 : Int32)))))))
set_option maxRecDepth 100000 in
set_option maxHeartbeats 4000000 in
theorem gg_X11_buses {E : EV} (fu : Nat) (S0 : Sk) (I0 : II) (a0 : Nat) (x1 : Int32) (ht0 : tyO S0 11 a0) : GG E i_X11_buses (enM E i_X11_buses S0 (po_X11_buses S0 I0)) S0 I0 (0, 0) 0 [(0, vA (a0 + 1)), (1, vI x1)] [] (f_X11_buses fu S0 I0 a0 x1) := by
  unfold f_X11_buses
  refine g_aload_n (dk D_X11_buses 0 rfl) rfl ?_
  refine g_getAt (t := 100) fl_RX11_34 rfl ht0 (dk D_X11_buses 1 rfl) (fun ht1 => ?_)
  refine g_iload_n (dk D_X11_buses 2 rfl) rfl ?_
  refine g_gd (fun hi2 => ?_)
  refine g_iaload ht1 hi2 (dk D_X11_buses 3 rfl) ?_
  refine g_aload_n (dk D_X11_buses 4 rfl) rfl ?_
  refine g_getAt (t := 100) fl_RX11_28 rfl ht0 (dk D_X11_buses 5 rfl) (fun ht3 => ?_)
  refine g_iload_n (dk D_X11_buses 6 rfl) rfl ?_
  refine g_gd (fun hi4 => ?_)
  refine g_iaload ht3 hi4 (dk D_X11_buses 7 rfl) ?_
  refine g_isub (dk D_X11_buses 8 rfl) ?_
  refine g_aload_n (dk D_X11_buses 9 rfl) rfl ?_
  refine g_getAt (t := 100) fl_RX11_31 rfl ht0 (dk D_X11_buses 10 rfl) (fun ht5 => ?_)
  refine g_iload_n (dk D_X11_buses 11 rfl) rfl ?_
  refine g_gd (fun hi6 => ?_)
  refine g_iaload ht5 hi6 (dk D_X11_buses 12 rfl) ?_
  refine g_gd (fun hz7 => ?_)
  refine g_idiv (dk D_X11_buses 13 rfl) hz7 ?_
  refine g_iconst (v := (1 : Int32)) (dk D_X11_buses 14 rfl) rfl ?_
  refine g_iadd (dk D_X11_buses 15 rfl) ?_
  exact g_ireturn rfl rfl Sx.rf rfl (by decide) (by decide) (dk D_X11_buses 16 rfl)
theorem c_X11_buses {E : EV} (fu : Nat) (S0 : Sk) (I0 : II) (a0 : Nat) (x1 : Int32) (r : Int32) (h : f_X11_buses fu S0 I0 a0 x1 = some r) (ht0 : tyO S0 11 a0) : MX E yX11_buses i_X11_buses S0 I0 [vA (a0 + 1), vI x1] (po_X11_buses S0 I0 r) :=
  MX.of h (by decide) rfl rfl (Nat.le_of_ble_eq_true rfl) (gg_X11_buses fu S0 I0 a0 x1 ht0)
def tb_X11_roundOf : List (Nat × Instr × Nat) := [(0, .aload_n 0, 1), (1, .getfield 25, 3), (4, .bipush 8, 2), (6, .iload_n 1, 1), (7, .imul, 1), (8, .aload_n 0, 1), (9, .getfield 19, 3), (12, .iload_n 1, 1), (13, .iaload, 1), (14, .iadd, 1), (15, .iconst 1, 1), (16, .isub, 1), (17, .iaload, 1), (18, .ireturn, 1)]
def i_X11_roundOf : MI := (RX11, cX11_roundOf, 2, (some .int), "roundOf", { frames := 0, cells := 0, slots := 0, locals := 0 })
theorem D_X11_roundOf : tbOK (i_X11_roundOf).2.1 tb_X11_roundOf := by show ∀ q ∈ tb_X11_roundOf, decode cX11_roundOf q.1 = .ok (q.2.1, q.2.2); decide +kernel
def po_X11_roundOf (S : Sk) (I : II) (r : Int32) : Option LV × Sk × II := (some (vI r), S, I)
def f_X11_roundOf (fu : Nat) (S : Sk) (I : II) (a0 : Nat) (x1 : Int32) : Option (Int32) :=
  gd (inb S (S.1 a0 6) x1) (gd (inb S (S.1 a0 8) ((((8 : Int32) * x1) + (rd I (S.1 a0 6) x1)) - (1 : Int32))) (some ((rd I (S.1 a0 8) ((((8 : Int32) * x1) + (rd I (S.1 a0 6) x1)) - (1 : Int32))))))
set_option maxRecDepth 100000 in
set_option maxHeartbeats 4000000 in
theorem gg_X11_roundOf {E : EV} (fu : Nat) (S0 : Sk) (I0 : II) (a0 : Nat) (x1 : Int32) (ht0 : tyO S0 11 a0) : GG E i_X11_roundOf (enM E i_X11_roundOf S0 (po_X11_roundOf S0 I0)) S0 I0 (0, 0) 0 [(0, vA (a0 + 1)), (1, vI x1)] [] (f_X11_roundOf fu S0 I0 a0 x1) := by
  unfold f_X11_roundOf
  refine g_aload_n (dk D_X11_roundOf 0 rfl) rfl ?_
  refine g_getAt (t := 100) fl_RX11_25 rfl ht0 (dk D_X11_roundOf 1 rfl) (fun ht1 => ?_)
  refine g_bipush (v := (8 : Int32)) (dk D_X11_roundOf 2 rfl) rfl ?_
  refine g_iload_n (dk D_X11_roundOf 3 rfl) rfl ?_
  refine g_imul (dk D_X11_roundOf 4 rfl) ?_
  refine g_aload_n (dk D_X11_roundOf 5 rfl) rfl ?_
  refine g_getAt (t := 100) fl_RX11_19 rfl ht0 (dk D_X11_roundOf 6 rfl) (fun ht2 => ?_)
  refine g_iload_n (dk D_X11_roundOf 7 rfl) rfl ?_
  refine g_gd (fun hi3 => ?_)
  refine g_iaload ht2 hi3 (dk D_X11_roundOf 8 rfl) ?_
  refine g_iadd (dk D_X11_roundOf 9 rfl) ?_
  refine g_iconst (v := (1 : Int32)) (dk D_X11_roundOf 10 rfl) rfl ?_
  refine g_isub (dk D_X11_roundOf 11 rfl) ?_
  refine g_gd (fun hi4 => ?_)
  refine g_iaload ht1 hi4 (dk D_X11_roundOf 12 rfl) ?_
  exact g_ireturn rfl rfl Sx.rf rfl (by decide) (by decide) (dk D_X11_roundOf 13 rfl)
theorem c_X11_roundOf {E : EV} (fu : Nat) (S0 : Sk) (I0 : II) (a0 : Nat) (x1 : Int32) (r : Int32) (h : f_X11_roundOf fu S0 I0 a0 x1 = some r) (ht0 : tyO S0 11 a0) : MX E yX11_roundOf i_X11_roundOf S0 I0 [vA (a0 + 1), vI x1] (po_X11_roundOf S0 I0 r) :=
  MX.of h (by decide) rfl rfl (Nat.le_of_ble_eq_true rfl) (gg_X11_roundOf fu S0 I0 a0 x1 ht0)
theorem cl_RX11_203 : CV0 RX11 203 yX11_roundOf i_X11_roundOf 1 11 := ⟨⟨(gm 1224 (by decide +kernel) (by decide +kernel)), (gm 72 (by decide +kernel) (by decide +kernel)), ((gm 1227 (by decide +kernel) (by decide +kernel))), by decide +kernel, by decide +kernel, by decide +kernel⟩, ⟨(gm 1226 (by decide +kernel) (by decide +kernel)), (gm 32 (by decide +kernel) (by decide +kernel))⟩, rfl, by decide⟩
theorem cl_RX11_206 : CV0 RX11 206 yX11_buses i_X11_buses 1 11 := ⟨⟨(gm 1228 (by decide +kernel) (by decide +kernel)), (gm 72 (by decide +kernel) (by decide +kernel)), ((gm 1231 (by decide +kernel) (by decide +kernel))), by decide +kernel, by decide +kernel, by decide +kernel⟩, ⟨(gm 1230 (by decide +kernel) (by decide +kernel)), (gm 33 (by decide +kernel) (by decide +kernel))⟩, rfl, by decide⟩
theorem lk_RX11_209 : Cond.constantLong RX11 209 (10 : Int64) ∈ lw_good := (gm 1232 (by decide +kernel) (by decide +kernel))
theorem lk_RX11_211 : Cond.constantLong RX11 211 (9 : Int64) ∈ lw_good := (gm 1233 (by decide +kernel) (by decide +kernel))
def tb_X11_ofLine : List (Nat × Instr × Nat) := [(0, .aload_n 0, 1), (1, .iload_n 1, 1), (2, .invokevirtual 197, 3), (5, .ifCond .eq 5, 3), (8, .iconst (-1), 1), (9, .ireturn, 1), (10, .iload_n 2, 1), (11, .tableswitch 110 0 8 #[49, 56, 63, 70, 77, 84, 91, 98, 104], 49), (60, .aload_n 0, 1), (61, .getfield 16, 3), (64, .iload_n 1, 1), (65, .iaload, 1), (66, .ireturn, 1), (67, .aload_n 0, 1), (68, .getfield 19, 3), (71, .iload_n 1, 1), (72, .iaload, 1), (73, .ireturn, 1), (74, .aload_n 0, 1), (75, .getfield 28, 3), (78, .iload_n 1, 1), (79, .iaload, 1), (80, .ireturn, 1), (81, .aload_n 0, 1), (82, .getfield 31, 3), (85, .iload_n 1, 1), (86, .iaload, 1), (87, .ireturn, 1), (88, .aload_n 0, 1), (89, .getfield 34, 3), (92, .iload_n 1, 1), (93, .iaload, 1), (94, .ireturn, 1), (95, .aload_n 0, 1), (96, .getfield 37, 3), (99, .iload_n 1, 1), (100, .iaload, 1), (101, .ireturn, 1), (102, .aload_n 0, 1), (103, .getfield 40, 3), (106, .iload_n 1, 1), (107, .iaload, 1), (108, .ireturn, 1), (109, .aload_n 0, 1), (110, .iload_n 1, 1), (111, .invokevirtual 203, 3), (114, .ireturn, 1), (115, .aload_n 0, 1), (116, .iload_n 1, 1), (117, .invokevirtual 206, 3), (120, .ireturn, 1), (121, .iload_n 2, 1), (122, .i2l, 1), (123, .ldc2_w 209, 3), (126, .ldc2_w 211, 3), (129, .aload_n 0, 1), (130, .getfield 19, 3), (133, .iload_n 1, 1), (134, .iaload, 1), (135, .i2l, 1), (136, .ladd, 1), (137, .invokestatic 132, 3), (140, .ifCond .eq 20, 3), (143, .aload_n 0, 1), (144, .getfield 22, 3), (147, .bipush 8, 2), (149, .iload_n 1, 1), (150, .imul, 1), (151, .iload_n 2, 1), (152, .iadd, 1), (153, .bipush 10, 2), (155, .isub, 1), (156, .iaload, 1), (157, .goto 5, 3), (160, .bipush (-2), 2), (162, .ireturn, 1)]
def i_X11_ofLine : MI := (RX11, cX11_ofLine, 3, (some .int), "ofLine", { frames := 2, cells := 0, slots := 0, locals := 46 })
theorem D_X11_ofLine : tbOK (i_X11_ofLine).2.1 tb_X11_ofLine := by show ∀ q ∈ tb_X11_ofLine, decode cX11_ofLine q.1 = .ok (q.2.1, q.2.2); decide +kernel
def po_X11_ofLine (S : Sk) (I : II) (r : Int32) : Option LV × Sk × II := (some (vI r), S, I)
def f_X11_ofLine (fu : Nat) (S : Sk) (I : II) (a0 : Nat) (x1 : Int32) (x2 : Int32) : Option (Int32) :=
  if (t_X11_noLine I a0 x1) = 0 then if x2 = (0 : Int32) then gd (inb S (S.1 a0 5) x1) (some ((rd I (S.1 a0 5) x1))) else (if x2 = (1 : Int32) then gd (inb S (S.1 a0 6) x1) (some ((rd I (S.1 a0 6) x1))) else (if x2 = (2 : Int32) then gd (inb S (S.1 a0 9) x1) (some ((rd I (S.1 a0 9) x1))) else (if x2 = (3 : Int32) then gd (inb S (S.1 a0 10) x1) (some ((rd I (S.1 a0 10) x1))) else (if x2 = (4 : Int32) then gd (inb S (S.1 a0 11) x1) (some ((rd I (S.1 a0 11) x1))) else (if x2 = (5 : Int32) then gd (inb S (S.1 a0 12) x1) (some ((rd I (S.1 a0 12) x1))) else (if x2 = (6 : Int32) then gd (inb S (S.1 a0 13) x1) (some ((rd I (S.1 a0 13) x1))) else (if x2 = (7 : Int32) then (f_X11_roundOf fu S I a0 x1).bind fun q25 => (some (q25)) else (if x2 = (8 : Int32) then (f_X11_buses fu S I a0 x1).bind fun q29 => (some (q29)) else gd (inb S (S.1 a0 6) x1) (if (t_X11_in x2.toInt64 (10 : Int64) ((9 : Int64) + (((rd I (S.1 a0 6) x1)).toInt64))) = 0 then some (((-2) : Int32)) else gd (inb S (S.1 a0 7) ((((8 : Int32) * x1) + x2) - (10 : Int32))) (some ((rd I (S.1 a0 7) ((((8 : Int32) * x1) + x2) - (10 : Int32)))))))))))))) else some (((-1) : Int32))
set_option maxRecDepth 100000 in
set_option maxHeartbeats 4000000 in
theorem gg_X11_ofLine {E : EV} (fu : Nat) (S0 : Sk) (I0 : II) (a0 : Nat) (x1 : Int32) (x2 : Int32) (ht0 : tyO S0 11 a0) : GG E i_X11_ofLine (enM E i_X11_ofLine S0 (po_X11_ofLine S0 I0)) S0 I0 (0, 0) 0 [(0, vA (a0 + 1)), (1, vI x1), (2, vI x2)] [] (f_X11_ofLine fu S0 I0 a0 x1 x2) := by
  unfold f_X11_ofLine
  refine g_aload_n (dk D_X11_ofLine 0 rfl) rfl ?_
  refine g_iload_n (dk D_X11_ofLine 1 rfl) rfl ?_
  refine h_callVt (st := []) (c_X11_noLine (E := E) S0 I0 a0 x1 (ht0)) cl_RX11_197 ht0 rfl rfl (by decide) (Nat.le_of_ble_eq_true rfl) (dk D_X11_ofLine 2 rfl) ?_
  refine g_if_eq (tgt := 10) (dk D_X11_ofLine 3 rfl) rfl (fun hc2 => ?_) (fun hc2 => ?_)
  · refine g_iload_n (dk D_X11_ofLine 6 rfl) rfl ?_
    refine g_ite (fun hc3 => ?_) (fun hc3 => ?_)
    · refine g_tabIn (tgt := 60) (off := 49) (dk D_X11_ofLine 7 rfl) (by rw [hc3] <;> decide +kernel) (by rw [hc3] <;> decide +kernel) (by rw [hc3] <;> decide +kernel) rfl ?_
      refine g_aload_n (dk D_X11_ofLine 8 rfl) rfl ?_
      refine g_getAt (t := 100) fl_RX11_16 rfl ht0 (dk D_X11_ofLine 9 rfl) (fun ht4 => ?_)
      refine g_iload_n (dk D_X11_ofLine 10 rfl) rfl ?_
      refine g_gd (fun hi5 => ?_)
      refine g_iaload ht4 hi5 (dk D_X11_ofLine 11 rfl) ?_
      exact g_ireturn rfl rfl Sx.rf rfl (by decide) (by decide) (dk D_X11_ofLine 12 rfl)
    refine g_ite (fun hc6 => ?_) (fun hc6 => ?_)
    · refine g_tabIn (tgt := 67) (off := 56) (dk D_X11_ofLine 7 rfl) (by rw [hc6] <;> decide +kernel) (by rw [hc6] <;> decide +kernel) (by rw [hc6] <;> decide +kernel) rfl ?_
      refine g_aload_n (dk D_X11_ofLine 13 rfl) rfl ?_
      refine g_getAt (t := 100) fl_RX11_19 rfl ht0 (dk D_X11_ofLine 14 rfl) (fun ht7 => ?_)
      refine g_iload_n (dk D_X11_ofLine 15 rfl) rfl ?_
      refine g_gd (fun hi8 => ?_)
      refine g_iaload ht7 hi8 (dk D_X11_ofLine 16 rfl) ?_
      exact g_ireturn rfl rfl Sx.rf rfl (by decide) (by decide) (dk D_X11_ofLine 17 rfl)
    refine g_ite (fun hc9 => ?_) (fun hc9 => ?_)
    · refine g_tabIn (tgt := 74) (off := 63) (dk D_X11_ofLine 7 rfl) (by rw [hc9] <;> decide +kernel) (by rw [hc9] <;> decide +kernel) (by rw [hc9] <;> decide +kernel) rfl ?_
      refine g_aload_n (dk D_X11_ofLine 18 rfl) rfl ?_
      refine g_getAt (t := 100) fl_RX11_28 rfl ht0 (dk D_X11_ofLine 19 rfl) (fun ht10 => ?_)
      refine g_iload_n (dk D_X11_ofLine 20 rfl) rfl ?_
      refine g_gd (fun hi11 => ?_)
      refine g_iaload ht10 hi11 (dk D_X11_ofLine 21 rfl) ?_
      exact g_ireturn rfl rfl Sx.rf rfl (by decide) (by decide) (dk D_X11_ofLine 22 rfl)
    refine g_ite (fun hc12 => ?_) (fun hc12 => ?_)
    · refine g_tabIn (tgt := 81) (off := 70) (dk D_X11_ofLine 7 rfl) (by rw [hc12] <;> decide +kernel) (by rw [hc12] <;> decide +kernel) (by rw [hc12] <;> decide +kernel) rfl ?_
      refine g_aload_n (dk D_X11_ofLine 23 rfl) rfl ?_
      refine g_getAt (t := 100) fl_RX11_31 rfl ht0 (dk D_X11_ofLine 24 rfl) (fun ht13 => ?_)
      refine g_iload_n (dk D_X11_ofLine 25 rfl) rfl ?_
      refine g_gd (fun hi14 => ?_)
      refine g_iaload ht13 hi14 (dk D_X11_ofLine 26 rfl) ?_
      exact g_ireturn rfl rfl Sx.rf rfl (by decide) (by decide) (dk D_X11_ofLine 27 rfl)
    refine g_ite (fun hc15 => ?_) (fun hc15 => ?_)
    · refine g_tabIn (tgt := 88) (off := 77) (dk D_X11_ofLine 7 rfl) (by rw [hc15] <;> decide +kernel) (by rw [hc15] <;> decide +kernel) (by rw [hc15] <;> decide +kernel) rfl ?_
      refine g_aload_n (dk D_X11_ofLine 28 rfl) rfl ?_
      refine g_getAt (t := 100) fl_RX11_34 rfl ht0 (dk D_X11_ofLine 29 rfl) (fun ht16 => ?_)
      refine g_iload_n (dk D_X11_ofLine 30 rfl) rfl ?_
      refine g_gd (fun hi17 => ?_)
      refine g_iaload ht16 hi17 (dk D_X11_ofLine 31 rfl) ?_
      exact g_ireturn rfl rfl Sx.rf rfl (by decide) (by decide) (dk D_X11_ofLine 32 rfl)
    refine g_ite (fun hc18 => ?_) (fun hc18 => ?_)
    · refine g_tabIn (tgt := 95) (off := 84) (dk D_X11_ofLine 7 rfl) (by rw [hc18] <;> decide +kernel) (by rw [hc18] <;> decide +kernel) (by rw [hc18] <;> decide +kernel) rfl ?_
      refine g_aload_n (dk D_X11_ofLine 33 rfl) rfl ?_
      refine g_getAt (t := 100) fl_RX11_37 rfl ht0 (dk D_X11_ofLine 34 rfl) (fun ht19 => ?_)
      refine g_iload_n (dk D_X11_ofLine 35 rfl) rfl ?_
      refine g_gd (fun hi20 => ?_)
      refine g_iaload ht19 hi20 (dk D_X11_ofLine 36 rfl) ?_
      exact g_ireturn rfl rfl Sx.rf rfl (by decide) (by decide) (dk D_X11_ofLine 37 rfl)
    refine g_ite (fun hc21 => ?_) (fun hc21 => ?_)
    · refine g_tabIn (tgt := 102) (off := 91) (dk D_X11_ofLine 7 rfl) (by rw [hc21] <;> decide +kernel) (by rw [hc21] <;> decide +kernel) (by rw [hc21] <;> decide +kernel) rfl ?_
      refine g_aload_n (dk D_X11_ofLine 38 rfl) rfl ?_
      refine g_getAt (t := 100) fl_RX11_40 rfl ht0 (dk D_X11_ofLine 39 rfl) (fun ht22 => ?_)
      refine g_iload_n (dk D_X11_ofLine 40 rfl) rfl ?_
      refine g_gd (fun hi23 => ?_)
      refine g_iaload ht22 hi23 (dk D_X11_ofLine 41 rfl) ?_
      exact g_ireturn rfl rfl Sx.rf rfl (by decide) (by decide) (dk D_X11_ofLine 42 rfl)
    refine g_ite (fun hc24 => ?_) (fun hc24 => ?_)
    · refine g_tabIn (tgt := 109) (off := 98) (dk D_X11_ofLine 7 rfl) (by rw [hc24] <;> decide +kernel) (by rw [hc24] <;> decide +kernel) (by rw [hc24] <;> decide +kernel) rfl ?_
      refine g_aload_n (dk D_X11_ofLine 43 rfl) rfl ?_
      refine g_iload_n (dk D_X11_ofLine 44 rfl) rfl ?_
      refine g_bind (fun q25 hq26 => ?_)
      refine h_callVt (st := []) (c_X11_roundOf (E := E) fu S0 I0 a0 x1 q25 hq26 (ht0)) cl_RX11_203 ht0 rfl rfl (by decide) (Nat.le_of_ble_eq_true rfl) (dk D_X11_ofLine 45 rfl) ?_
      exact g_ireturn rfl rfl Sx.rf rfl (by decide) (by decide) (dk D_X11_ofLine 46 rfl)
    refine g_ite (fun hc28 => ?_) (fun hc28 => ?_)
    · refine g_tabIn (tgt := 115) (off := 104) (dk D_X11_ofLine 7 rfl) (by rw [hc28] <;> decide +kernel) (by rw [hc28] <;> decide +kernel) (by rw [hc28] <;> decide +kernel) rfl ?_
      refine g_aload_n (dk D_X11_ofLine 47 rfl) rfl ?_
      refine g_iload_n (dk D_X11_ofLine 48 rfl) rfl ?_
      refine g_bind (fun q29 hq30 => ?_)
      refine h_callVt (st := []) (c_X11_buses (E := E) fu S0 I0 a0 x1 q29 hq30 (ht0)) cl_RX11_206 ht0 rfl rfl (by decide) (Nat.le_of_ble_eq_true rfl) (dk D_X11_ofLine 49 rfl) ?_
      exact g_ireturn rfl rfl Sx.rf rfl (by decide) (by decide) (dk D_X11_ofLine 50 rfl)
    refine g_tabOut (tgt := 121) (dk D_X11_ofLine 7 rfl) (tabOut (n := 9) (by decide) (fun k hk => (match k, hk with | 0, _ => hc3 | 1, _ => hc6 | 2, _ => hc9 | 3, _ => hc12 | 4, _ => hc15 | 5, _ => hc18 | 6, _ => hc21 | 7, _ => hc24 | 8, _ => hc28 | k + 9, hk => absurd hk (by omega)))) rfl ?_
    refine g_iload_n (dk D_X11_ofLine 51 rfl) rfl ?_
    refine g_i2l (dk D_X11_ofLine 52 rfl) ?_
    refine g_ldc2 (dk D_X11_ofLine 53 rfl) lk_RX11_209 ?_
    refine g_ldc2 (dk D_X11_ofLine 54 rfl) lk_RX11_211 ?_
    refine g_aload_n (dk D_X11_ofLine 55 rfl) rfl ?_
    refine g_getAt (t := 100) fl_RX11_19 rfl ht0 (dk D_X11_ofLine 56 rfl) (fun ht32 => ?_)
    refine g_iload_n (dk D_X11_ofLine 57 rfl) rfl ?_
    refine g_gd (fun hi33 => ?_)
    refine g_iaload ht32 hi33 (dk D_X11_ofLine 58 rfl) ?_
    refine g_i2l (dk D_X11_ofLine 59 rfl) ?_
    refine g_ladd (dk D_X11_ofLine 60 rfl) ?_
    refine h_callS (st := []) (c_X11_in (E := E) S0 I0 x2.toInt64 (10 : Int64) ((9 : Int64) + (((rd I0 (S0.1 a0 6) x1)).toInt64))) cl_RX11_132 rfl rfl (by decide) (Nat.le_of_ble_eq_true rfl) (dk D_X11_ofLine 61 rfl) ?_
    refine g_if_eq (tgt := 160) (dk D_X11_ofLine 62 rfl) rfl (fun hc35 => ?_) (fun hc35 => ?_)
    · refine g_bipush (v := ((-2) : Int32)) (dk D_X11_ofLine 74 rfl) rfl ?_
      exact g_ireturn rfl rfl Sx.rf rfl (by decide) (by decide) (dk D_X11_ofLine 75 rfl)
    · refine g_aload_n (dk D_X11_ofLine 63 rfl) rfl ?_
      refine g_getAt (t := 100) fl_RX11_22 rfl ht0 (dk D_X11_ofLine 64 rfl) (fun ht36 => ?_)
      refine g_bipush (v := (8 : Int32)) (dk D_X11_ofLine 65 rfl) rfl ?_
      refine g_iload_n (dk D_X11_ofLine 66 rfl) rfl ?_
      refine g_imul (dk D_X11_ofLine 67 rfl) ?_
      refine g_iload_n (dk D_X11_ofLine 68 rfl) rfl ?_
      refine g_iadd (dk D_X11_ofLine 69 rfl) ?_
      refine g_bipush (v := (10 : Int32)) (dk D_X11_ofLine 70 rfl) rfl ?_
      refine g_isub (dk D_X11_ofLine 71 rfl) ?_
      refine g_gd (fun hi37 => ?_)
      refine g_iaload ht36 hi37 (dk D_X11_ofLine 72 rfl) ?_
      refine g_goto (tgt := 162) (dk D_X11_ofLine 73 rfl) rfl ?_
      exact g_ireturn rfl rfl Sx.rf rfl (by decide) (by decide) (dk D_X11_ofLine 75 rfl)
  · refine g_iconst (v := ((-1) : Int32)) (dk D_X11_ofLine 4 rfl) rfl ?_
    exact g_ireturn rfl rfl Sx.rf rfl (by decide) (by decide) (dk D_X11_ofLine 5 rfl)
theorem c_X11_ofLine {E : EV} (fu : Nat) (S0 : Sk) (I0 : II) (a0 : Nat) (x1 : Int32) (x2 : Int32) (r : Int32) (h : f_X11_ofLine fu S0 I0 a0 x1 x2 = some r) (ht0 : tyO S0 11 a0) : MX E yX11_ofLine i_X11_ofLine S0 I0 [vA (a0 + 1), vI x1, vI x2] (po_X11_ofLine S0 I0 r) :=
  MX.of h (by decide) rfl rfl (Nat.le_of_ble_eq_true rfl) (gg_X11_ofLine fu S0 I0 a0 x1 x2 ht0)
def tb_X11_doesRun : List (Nat × Instr × Nat) := [(0, .iload_n 2, 1), (1, .i2l, 1), (2, .aload_n 0, 1), (3, .getfield 37, 3), (6, .iload_n 1, 1), (7, .iaload, 1), (8, .i2l, 1), (9, .aload_n 0, 1), (10, .getfield 40, 3), (13, .iload_n 1, 1), (14, .iaload, 1), (15, .i2l, 1), (16, .invokestatic 132, 3), (19, .ifCond .eq 25, 3), (22, .aload_n 0, 1), (23, .getfield 16, 3), (26, .iload_n 1, 1), (27, .iaload, 1), (28, .iconst 1, 1), (29, .if_icmp .ne 11, 3), (32, .iload_n 2, 1), (33, .bipush 7, 2), (35, .irem, 1), (36, .iconst 5, 1), (37, .if_icmp .ge 7, 3), (40, .iconst 1, 1), (41, .goto 4, 3), (44, .iconst 0, 1), (45, .ireturn, 1)]
def i_X11_doesRun : MI := (RX11, cX11_doesRun, 3, (some .boolean), "doesRun", { frames := 1, cells := 0, slots := 0, locals := 25 })
theorem D_X11_doesRun : tbOK (i_X11_doesRun).2.1 tb_X11_doesRun := by show ∀ q ∈ tb_X11_doesRun, decode cX11_doesRun q.1 = .ok (q.2.1, q.2.2); decide +kernel
def po_X11_doesRun (S : Sk) (I : II) (r : Int32) : Option LV × Sk × II := (some (vI r), S, I)
def f_X11_doesRun (fu : Nat) (S : Sk) (I : II) (a0 : Nat) (x1 : Int32) (x2 : Int32) : Option (Int32) :=
  gd (inb S (S.1 a0 12) x1) (gd (inb S (S.1 a0 13) x1) (if (t_X11_in x2.toInt64 (((rd I (S.1 a0 12) x1)).toInt64) (((rd I (S.1 a0 13) x1)).toInt64)) = 0 then some ((0 : Int32)) else gd (inb S (S.1 a0 5) x1) (if (rd I (S.1 a0 5) x1) = (1 : Int32) then if (5 : Int32) ≤ (x2 - x2 / (7 : Int32) * (7 : Int32)) then some ((0 : Int32)) else some ((1 : Int32)) else some ((1 : Int32)))))
set_option maxRecDepth 100000 in
set_option maxHeartbeats 4000000 in
theorem gg_X11_doesRun {E : EV} (fu : Nat) (S0 : Sk) (I0 : II) (a0 : Nat) (x1 : Int32) (x2 : Int32) (ht0 : tyO S0 11 a0) : GG E i_X11_doesRun (enM E i_X11_doesRun S0 (po_X11_doesRun S0 I0)) S0 I0 (0, 0) 0 [(0, vA (a0 + 1)), (1, vI x1), (2, vI x2)] [] (f_X11_doesRun fu S0 I0 a0 x1 x2) := by
  unfold f_X11_doesRun
  refine g_iload_n (dk D_X11_doesRun 0 rfl) rfl ?_
  refine g_i2l (dk D_X11_doesRun 1 rfl) ?_
  refine g_aload_n (dk D_X11_doesRun 2 rfl) rfl ?_
  refine g_getAt (t := 100) fl_RX11_37 rfl ht0 (dk D_X11_doesRun 3 rfl) (fun ht1 => ?_)
  refine g_iload_n (dk D_X11_doesRun 4 rfl) rfl ?_
  refine g_gd (fun hi2 => ?_)
  refine g_iaload ht1 hi2 (dk D_X11_doesRun 5 rfl) ?_
  refine g_i2l (dk D_X11_doesRun 6 rfl) ?_
  refine g_aload_n (dk D_X11_doesRun 7 rfl) rfl ?_
  refine g_getAt (t := 100) fl_RX11_40 rfl ht0 (dk D_X11_doesRun 8 rfl) (fun ht3 => ?_)
  refine g_iload_n (dk D_X11_doesRun 9 rfl) rfl ?_
  refine g_gd (fun hi4 => ?_)
  refine g_iaload ht3 hi4 (dk D_X11_doesRun 10 rfl) ?_
  refine g_i2l (dk D_X11_doesRun 11 rfl) ?_
  refine h_callS (st := []) (c_X11_in (E := E) S0 I0 x2.toInt64 (((rd I0 (S0.1 a0 12) x1)).toInt64) (((rd I0 (S0.1 a0 13) x1)).toInt64)) cl_RX11_132 rfl rfl (by decide) (Nat.le_of_ble_eq_true rfl) (dk D_X11_doesRun 12 rfl) ?_
  refine g_if_eq (tgt := 44) (dk D_X11_doesRun 13 rfl) rfl (fun hc6 => ?_) (fun hc6 => ?_)
  · refine g_iconst (v := (0 : Int32)) (dk D_X11_doesRun 27 rfl) rfl ?_
    exact g_zreturn rfl rfl (Or.inl rfl) Sx.rf rfl (by decide) (by decide) (dk D_X11_doesRun 28 rfl)
  · refine g_aload_n (dk D_X11_doesRun 14 rfl) rfl ?_
    refine g_getAt (t := 100) fl_RX11_16 rfl ht0 (dk D_X11_doesRun 15 rfl) (fun ht7 => ?_)
    refine g_iload_n (dk D_X11_doesRun 16 rfl) rfl ?_
    refine g_gd (fun hi8 => ?_)
    refine g_iaload ht7 hi8 (dk D_X11_doesRun 17 rfl) ?_
    refine g_iconst (v := (1 : Int32)) (dk D_X11_doesRun 18 rfl) rfl ?_
    refine g_icmp_ne (tgt := 40) (dk D_X11_doesRun 19 rfl) rfl (fun hc9 => ?_) (fun hc9 => ?_)
    · refine g_iconst (v := (1 : Int32)) (dk D_X11_doesRun 25 rfl) rfl ?_
      refine g_goto (tgt := 45) (dk D_X11_doesRun 26 rfl) rfl ?_
      exact g_zreturn rfl rfl (Or.inr rfl) Sx.rf rfl (by decide) (by decide) (dk D_X11_doesRun 28 rfl)
    · refine g_iload_n (dk D_X11_doesRun 20 rfl) rfl ?_
      refine g_bipush (v := (7 : Int32)) (dk D_X11_doesRun 21 rfl) rfl ?_
      refine g_irem (dk D_X11_doesRun 22 rfl) (by decide) ?_
      refine g_iconst (v := (5 : Int32)) (dk D_X11_doesRun 23 rfl) rfl ?_
      refine g_icmp_ge (tgt := 44) (dk D_X11_doesRun 24 rfl) rfl (fun hc10 => ?_) (fun hc10 => ?_)
      · refine g_iconst (v := (0 : Int32)) (dk D_X11_doesRun 27 rfl) rfl ?_
        exact g_zreturn rfl rfl (Or.inl rfl) Sx.rf rfl (by decide) (by decide) (dk D_X11_doesRun 28 rfl)
      · refine g_iconst (v := (1 : Int32)) (dk D_X11_doesRun 25 rfl) rfl ?_
        refine g_goto (tgt := 45) (dk D_X11_doesRun 26 rfl) rfl ?_
        exact g_zreturn rfl rfl (Or.inr rfl) Sx.rf rfl (by decide) (by decide) (dk D_X11_doesRun 28 rfl)
theorem c_X11_doesRun {E : EV} (fu : Nat) (S0 : Sk) (I0 : II) (a0 : Nat) (x1 : Int32) (x2 : Int32) (r : Int32) (h : f_X11_doesRun fu S0 I0 a0 x1 x2 = some r) (ht0 : tyO S0 11 a0) : MX E yX11_doesRun i_X11_doesRun S0 I0 [vA (a0 + 1), vI x1, vI x2] (po_X11_doesRun S0 I0 r) :=
  MX.of h (by decide) rfl rfl (Nat.le_of_ble_eq_true rfl) (gg_X11_doesRun fu S0 I0 a0 x1 x2 ht0)
theorem cl_RX11_213 : CV0 RX11 213 yX11_doesRun i_X11_doesRun 2 11 := ⟨⟨(gm 1238 (by decide +kernel) (by decide +kernel)), (gm 72 (by decide +kernel) (by decide +kernel)), ((gm 1241 (by decide +kernel) (by decide +kernel))), by decide +kernel, by decide +kernel, by decide +kernel⟩, ⟨(gm 1240 (by decide +kernel) (by decide +kernel)), (gm 34 (by decide +kernel) (by decide +kernel))⟩, rfl, by decide⟩
def tb_X11_runs : List (Nat × Instr × Nat) := [(0, .aload_n 0, 1), (1, .iload_n 1, 1), (2, .invokevirtual 197, 3), (5, .ifCond .eq 5, 3), (8, .iconst (-1), 1), (9, .ireturn, 1), (10, .iload_n 2, 1), (11, .invokestatic 200, 3), (14, .ifCond .eq 20, 3), (17, .aload_n 0, 1), (18, .iload_n 1, 1), (19, .iload_n 2, 1), (20, .invokevirtual 213, 3), (23, .ifCond .eq 7, 3), (26, .iconst 1, 1), (27, .goto 9, 3), (30, .iconst 0, 1), (31, .goto 5, 3), (34, .bipush (-2), 2), (36, .ireturn, 1)]
def i_X11_runs : MI := (RX11, cX11_runs, 3, (some .int), "runs", { frames := 2, cells := 0, slots := 0, locals := 47 })
theorem D_X11_runs : tbOK (i_X11_runs).2.1 tb_X11_runs := by show ∀ q ∈ tb_X11_runs, decode cX11_runs q.1 = .ok (q.2.1, q.2.2); decide +kernel
def po_X11_runs (S : Sk) (I : II) (r : Int32) : Option LV × Sk × II := (some (vI r), S, I)
def f_X11_runs (fu : Nat) (S : Sk) (I : II) (a0 : Nat) (x1 : Int32) (x2 : Int32) : Option (Int32) :=
  if (t_X11_noLine I a0 x1) = 0 then if (t_X11_isDay x2) = 0 then some (((-2) : Int32)) else (f_X11_doesRun fu S I a0 x1 x2).bind fun q5 => (if q5 = 0 then some ((0 : Int32)) else some ((1 : Int32))) else some (((-1) : Int32))
set_option maxRecDepth 100000 in
set_option maxHeartbeats 4000000 in
theorem gg_X11_runs {E : EV} (fu : Nat) (S0 : Sk) (I0 : II) (a0 : Nat) (x1 : Int32) (x2 : Int32) (ht0 : tyO S0 11 a0) : GG E i_X11_runs (enM E i_X11_runs S0 (po_X11_runs S0 I0)) S0 I0 (0, 0) 0 [(0, vA (a0 + 1)), (1, vI x1), (2, vI x2)] [] (f_X11_runs fu S0 I0 a0 x1 x2) := by
  unfold f_X11_runs
  refine g_aload_n (dk D_X11_runs 0 rfl) rfl ?_
  refine g_iload_n (dk D_X11_runs 1 rfl) rfl ?_
  refine h_callVt (st := []) (c_X11_noLine (E := E) S0 I0 a0 x1 (ht0)) cl_RX11_197 ht0 rfl rfl (by decide) (Nat.le_of_ble_eq_true rfl) (dk D_X11_runs 2 rfl) ?_
  refine g_if_eq (tgt := 10) (dk D_X11_runs 3 rfl) rfl (fun hc2 => ?_) (fun hc2 => ?_)
  · refine g_iload_n (dk D_X11_runs 6 rfl) rfl ?_
    refine h_callS (st := []) (c_X11_isDay (E := E) S0 I0 x2) cl_RX11_200 rfl rfl (by decide) (Nat.le_of_ble_eq_true rfl) (dk D_X11_runs 7 rfl) ?_
    refine g_if_eq (tgt := 34) (dk D_X11_runs 8 rfl) rfl (fun hc4 => ?_) (fun hc4 => ?_)
    · refine g_bipush (v := ((-2) : Int32)) (dk D_X11_runs 18 rfl) rfl ?_
      exact g_ireturn rfl rfl Sx.rf rfl (by decide) (by decide) (dk D_X11_runs 19 rfl)
    · refine g_aload_n (dk D_X11_runs 9 rfl) rfl ?_
      refine g_iload_n (dk D_X11_runs 10 rfl) rfl ?_
      refine g_iload_n (dk D_X11_runs 11 rfl) rfl ?_
      refine g_bind (fun q5 hq6 => ?_)
      refine h_callVt (st := []) (c_X11_doesRun (E := E) fu S0 I0 a0 x1 x2 q5 hq6 (ht0)) cl_RX11_213 ht0 rfl rfl (by decide) (Nat.le_of_ble_eq_true rfl) (dk D_X11_runs 12 rfl) ?_
      refine g_if_eq (tgt := 30) (dk D_X11_runs 13 rfl) rfl (fun hc8 => ?_) (fun hc8 => ?_)
      · refine g_iconst (v := (0 : Int32)) (dk D_X11_runs 16 rfl) rfl ?_
        refine g_goto (tgt := 36) (dk D_X11_runs 17 rfl) rfl ?_
        exact g_ireturn rfl rfl Sx.rf rfl (by decide) (by decide) (dk D_X11_runs 19 rfl)
      · refine g_iconst (v := (1 : Int32)) (dk D_X11_runs 14 rfl) rfl ?_
        refine g_goto (tgt := 36) (dk D_X11_runs 15 rfl) rfl ?_
        exact g_ireturn rfl rfl Sx.rf rfl (by decide) (by decide) (dk D_X11_runs 19 rfl)
  · refine g_iconst (v := ((-1) : Int32)) (dk D_X11_runs 4 rfl) rfl ?_
    exact g_ireturn rfl rfl Sx.rf rfl (by decide) (by decide) (dk D_X11_runs 5 rfl)
theorem c_X11_runs {E : EV} (fu : Nat) (S0 : Sk) (I0 : II) (a0 : Nat) (x1 : Int32) (x2 : Int32) (r : Int32) (h : f_X11_runs fu S0 I0 a0 x1 x2 = some r) (ht0 : tyO S0 11 a0) : MX E yX11_runs i_X11_runs S0 I0 [vA (a0 + 1), vI x1, vI x2] (po_X11_runs S0 I0 r) :=
  MX.of h (by decide) rfl rfl (Nat.le_of_ble_eq_true rfl) (gg_X11_runs fu S0 I0 a0 x1 x2 ht0)
theorem lk_RX11_216 : Cond.constant RX11 216 (1000000 : Int32) ∈ lw_good := (gm 1251 (by decide +kernel) (by decide +kernel))
def tb_X11_minuteAt : List (Nat × Instr × Nat) := [(0, .iload_n 3, 1), (1, .aload_n 0, 1), (2, .getfield 25, 3), (5, .bipush 8, 2), (7, .iload_n 1, 1), (8, .imul, 1), (9, .iload_n 2, 1), (10, .iadd, 1), (11, .iaload, 1), (12, .isub, 1), (13, .aload_n 0, 1), (14, .getfield 28, 3), (17, .iload_n 1, 1), (18, .iaload, 1), (19, .isub, 1), (20, .istore 4, 2), (22, .iload 4, 2), (24, .ifCond .gt 7, 3), (27, .iconst 0, 1), (28, .goto 21, 3), (31, .iload 4, 2), (33, .aload_n 0, 1), (34, .getfield 31, 3), (37, .iload_n 1, 1), (38, .iaload, 1), (39, .iadd, 1), (40, .iconst 1, 1), (41, .isub, 1), (42, .aload_n 0, 1), (43, .getfield 31, 3), (46, .iload_n 1, 1), (47, .iaload, 1), (48, .idiv, 1), (49, .istore 5, 2), (51, .iload 5, 2), (53, .aload_n 0, 1), (54, .iload_n 1, 1), (55, .invokevirtual 206, 3), (58, .if_icmp .ge 34, 3), (61, .aload_n 0, 1), (62, .getfield 28, 3), (65, .iload_n 1, 1), (66, .iaload, 1), (67, .iload 5, 2), (69, .aload_n 0, 1), (70, .getfield 31, 3), (73, .iload_n 1, 1), (74, .iaload, 1), (75, .imul, 1), (76, .iadd, 1), (77, .aload_n 0, 1), (78, .getfield 25, 3), (81, .bipush 8, 2), (83, .iload_n 1, 1), (84, .imul, 1), (85, .iload_n 2, 1), (86, .iadd, 1), (87, .iaload, 1), (88, .iadd, 1), (89, .goto 5, 3), (92, .ldc 216, 2), (94, .ireturn, 1)]
def i_X11_minuteAt : MI := (RX11, cX11_minuteAt, 6, (some .int), "minuteAt", { frames := 1, cells := 0, slots := 0, locals := 21 })
theorem D_X11_minuteAt : tbOK (i_X11_minuteAt).2.1 tb_X11_minuteAt := by show ∀ q ∈ tb_X11_minuteAt, decode cX11_minuteAt q.1 = .ok (q.2.1, q.2.2); decide +kernel
def po_X11_minuteAt (S : Sk) (I : II) (r : Int32) : Option LV × Sk × II := (some (vI r), S, I)
def jn_X11_minuteAt_49 (fu : Nat) (S : Sk) (I : II) (a0 : Nat) (x1 : Int32) (x2 : Int32) (s0 : Int32) : Option (Int32) :=
  (f_X11_buses fu S I a0 x1).bind fun q1 => (if q1 ≤ s0 then some ((1000000 : Int32)) else gd (inb S (S.1 a0 9) x1) (gd (inb S (S.1 a0 10) x1) (gd (inb S (S.1 a0 8) (((8 : Int32) * x1) + x2)) (some ((((rd I (S.1 a0 9) x1) + (s0 * (rd I (S.1 a0 10) x1))) + (rd I (S.1 a0 8) (((8 : Int32) * x1) + x2))))))))
def f_X11_minuteAt (fu : Nat) (S : Sk) (I : II) (a0 : Nat) (x1 : Int32) (x2 : Int32) (x3 : Int32) : Option (Int32) :=
  gd (inb S (S.1 a0 8) (((8 : Int32) * x1) + x2)) (gd (inb S (S.1 a0 9) x1) (lt ((x3 - (rd I (S.1 a0 8) (((8 : Int32) * x1) + x2))) - (rd I (S.1 a0 9) x1)) fun x4_15 => (if 0 < x4_15 then gd (inb S (S.1 a0 10) x1) (gd (¬ (rd I (S.1 a0 10) x1) = 0) (jn_X11_minuteAt_49 fu S I a0 x1 x2 (((x4_15 + (rd I (S.1 a0 10) x1)) - (1 : Int32)) / (rd I (S.1 a0 10) x1)))) else jn_X11_minuteAt_49 fu S I a0 x1 x2 (0 : Int32))))
set_option maxRecDepth 100000 in
set_option maxHeartbeats 4000000 in
theorem gg_X11_minuteAt {E : EV} (fu : Nat) (S0 : Sk) (I0 : II) (a0 : Nat) (x1 : Int32) (x2 : Int32) (x3 : Int32) (ht0 : tyO S0 11 a0) : GG E i_X11_minuteAt (enM E i_X11_minuteAt S0 (po_X11_minuteAt S0 I0)) S0 I0 (0, 0) 0 [(0, vA (a0 + 1)), (1, vI x1), (2, vI x2), (3, vI x3)] [] (f_X11_minuteAt fu S0 I0 a0 x1 x2 x3) := by
  have hj49 : ∀ (s0 : Int32), GG E i_X11_minuteAt (enM E i_X11_minuteAt S0 (po_X11_minuteAt S0 I0)) S0 I0 (0, 0) 49 [(0, vA (a0 + 1)), (1, vI x1), (2, vI x2)] [vI s0] (jn_X11_minuteAt_49 fu S0 I0 a0 x1 x2 s0) := by
    intro s0 
    unfold jn_X11_minuteAt_49
    refine g_istore (L' := [(0, vA (a0 + 1)), (1, vI x1), (2, vI x2), (5, vI s0)]) (dk D_X11_minuteAt 33 rfl) (Nat.le_of_ble_eq_true rfl) rfl ?_
    refine g_iload (dk D_X11_minuteAt 34 rfl) rfl ?_
    refine g_aload_n (dk D_X11_minuteAt 35 rfl) rfl ?_
    refine g_iload_n (dk D_X11_minuteAt 36 rfl) rfl ?_
    refine g_bind (fun q1 hq2 => ?_)
    refine h_callVt (st := [vI s0]) (c_X11_buses (E := E) fu S0 I0 a0 x1 q1 hq2 (ht0)) cl_RX11_206 ht0 rfl rfl (by decide) (Nat.le_of_ble_eq_true rfl) (dk D_X11_minuteAt 37 rfl) ?_
    refine g_icmp_ge (tgt := 92) (dk D_X11_minuteAt 38 rfl) rfl (fun hc4 => ?_) (fun hc4 => ?_)
    · refine g_ldc (dk D_X11_minuteAt 60 rfl) lk_RX11_216 ?_
      exact g_ireturn rfl rfl Sx.rf rfl (by decide) (by decide) (dk D_X11_minuteAt 61 rfl)
    · refine g_aload_n (dk D_X11_minuteAt 39 rfl) rfl ?_
      refine g_getAt (t := 100) fl_RX11_28 rfl ht0 (dk D_X11_minuteAt 40 rfl) (fun ht5 => ?_)
      refine g_iload_n (dk D_X11_minuteAt 41 rfl) rfl ?_
      refine g_gd (fun hi6 => ?_)
      refine g_iaload ht5 hi6 (dk D_X11_minuteAt 42 rfl) ?_
      refine g_iload (dk D_X11_minuteAt 43 rfl) rfl ?_
      refine g_aload_n (dk D_X11_minuteAt 44 rfl) rfl ?_
      refine g_getAt (t := 100) fl_RX11_31 rfl ht0 (dk D_X11_minuteAt 45 rfl) (fun ht7 => ?_)
      refine g_iload_n (dk D_X11_minuteAt 46 rfl) rfl ?_
      refine g_gd (fun hi8 => ?_)
      refine g_iaload ht7 hi8 (dk D_X11_minuteAt 47 rfl) ?_
      refine g_imul (dk D_X11_minuteAt 48 rfl) ?_
      refine g_iadd (dk D_X11_minuteAt 49 rfl) ?_
      refine g_aload_n (dk D_X11_minuteAt 50 rfl) rfl ?_
      refine g_getAt (t := 100) fl_RX11_25 rfl ht0 (dk D_X11_minuteAt 51 rfl) (fun ht9 => ?_)
      refine g_bipush (v := (8 : Int32)) (dk D_X11_minuteAt 52 rfl) rfl ?_
      refine g_iload_n (dk D_X11_minuteAt 53 rfl) rfl ?_
      refine g_imul (dk D_X11_minuteAt 54 rfl) ?_
      refine g_iload_n (dk D_X11_minuteAt 55 rfl) rfl ?_
      refine g_iadd (dk D_X11_minuteAt 56 rfl) ?_
      refine g_gd (fun hi10 => ?_)
      refine g_iaload ht9 hi10 (dk D_X11_minuteAt 57 rfl) ?_
      refine g_iadd (dk D_X11_minuteAt 58 rfl) ?_
      refine g_goto (tgt := 94) (dk D_X11_minuteAt 59 rfl) rfl ?_
      exact g_ireturn rfl rfl Sx.rf rfl (by decide) (by decide) (dk D_X11_minuteAt 61 rfl)
  unfold f_X11_minuteAt
  refine g_iload_n (dk D_X11_minuteAt 0 rfl) rfl ?_
  refine g_aload_n (dk D_X11_minuteAt 1 rfl) rfl ?_
  refine g_getAt (t := 100) fl_RX11_25 rfl ht0 (dk D_X11_minuteAt 2 rfl) (fun ht11 => ?_)
  refine g_bipush (v := (8 : Int32)) (dk D_X11_minuteAt 3 rfl) rfl ?_
  refine g_iload_n (dk D_X11_minuteAt 4 rfl) rfl ?_
  refine g_imul (dk D_X11_minuteAt 5 rfl) ?_
  refine g_iload_n (dk D_X11_minuteAt 6 rfl) rfl ?_
  refine g_iadd (dk D_X11_minuteAt 7 rfl) ?_
  refine g_gd (fun hi12 => ?_)
  refine g_iaload ht11 hi12 (dk D_X11_minuteAt 8 rfl) ?_
  refine g_isub (dk D_X11_minuteAt 9 rfl) ?_
  refine g_aload_n (dk D_X11_minuteAt 10 rfl) rfl ?_
  refine g_getAt (t := 100) fl_RX11_28 rfl ht0 (dk D_X11_minuteAt 11 rfl) (fun ht13 => ?_)
  refine g_iload_n (dk D_X11_minuteAt 12 rfl) rfl ?_
  refine g_gd (fun hi14 => ?_)
  refine g_iaload ht13 hi14 (dk D_X11_minuteAt 13 rfl) ?_
  refine g_isub (dk D_X11_minuteAt 14 rfl) ?_
  refine g_ltV (fun x4_15 ex4_15 => ?_)
  refine g_istore (L' := [(0, vA (a0 + 1)), (1, vI x1), (2, vI x2), (3, vI x3), (4, vI x4_15)]) (dk D_X11_minuteAt 15 rfl) (Nat.le_of_ble_eq_true rfl) rfl ?_
  refine g_iload (dk D_X11_minuteAt 16 rfl) rfl ?_
  refine g_if_gt (tgt := 31) (dk D_X11_minuteAt 17 rfl) rfl (fun hc16 => ?_) (fun hc16 => ?_)
  · refine g_iload (dk D_X11_minuteAt 20 rfl) rfl ?_
    refine g_aload_n (dk D_X11_minuteAt 21 rfl) rfl ?_
    refine g_getAt (t := 100) fl_RX11_31 rfl ht0 (dk D_X11_minuteAt 22 rfl) (fun ht17 => ?_)
    refine g_iload_n (dk D_X11_minuteAt 23 rfl) rfl ?_
    refine g_gd (fun hi18 => ?_)
    refine g_iaload ht17 hi18 (dk D_X11_minuteAt 24 rfl) ?_
    refine g_iadd (dk D_X11_minuteAt 25 rfl) ?_
    refine g_iconst (v := (1 : Int32)) (dk D_X11_minuteAt 26 rfl) rfl ?_
    refine g_isub (dk D_X11_minuteAt 27 rfl) ?_
    refine g_aload_n (dk D_X11_minuteAt 28 rfl) rfl ?_
    refine g_getAt (t := 100) fl_RX11_31 rfl ht0 (dk D_X11_minuteAt 29 rfl) (fun ht19 => ?_)
    refine g_iload_n (dk D_X11_minuteAt 30 rfl) rfl ?_
    refine g_iaload ht17 hi18 (dk D_X11_minuteAt 31 rfl) ?_
    refine g_gd (fun hz20 => ?_)
    refine g_idiv (dk D_X11_minuteAt 32 rfl) hz20 ?_
    refine g_Lp [0, 1, 2] rfl ?_
    exact hj49 (((x4_15 + (rd I0 (S0.1 a0 10) x1)) - (1 : Int32)) / (rd I0 (S0.1 a0 10) x1))
  · refine g_iconst (v := (0 : Int32)) (dk D_X11_minuteAt 18 rfl) rfl ?_
    refine g_goto (tgt := 49) (dk D_X11_minuteAt 19 rfl) rfl ?_
    refine g_Lp [0, 1, 2] rfl ?_
    exact hj49 (0 : Int32)
theorem c_X11_minuteAt {E : EV} (fu : Nat) (S0 : Sk) (I0 : II) (a0 : Nat) (x1 : Int32) (x2 : Int32) (x3 : Int32) (r : Int32) (h : f_X11_minuteAt fu S0 I0 a0 x1 x2 x3 = some r) (ht0 : tyO S0 11 a0) : MX E yX11_minuteAt i_X11_minuteAt S0 I0 [vA (a0 + 1), vI x1, vI x2, vI x3] (po_X11_minuteAt S0 I0 r) :=
  MX.of h (by decide) rfl rfl (Nat.le_of_ble_eq_true rfl) (gg_X11_minuteAt fu S0 I0 a0 x1 x2 x3 ht0)
theorem lk_RX11_217 : Cond.constantLong RX11 217 (2879 : Int64) ∈ lw_good := (gm 1246 (by decide +kernel) (by decide +kernel))
theorem cl_RX11_219 : CV0 RX11 219 yX11_minuteAt i_X11_minuteAt 3 11 := ⟨⟨(gm 1247 (by decide +kernel) (by decide +kernel)), (gm 72 (by decide +kernel) (by decide +kernel)), ((gm 1250 (by decide +kernel) (by decide +kernel))), by decide +kernel, by decide +kernel, by decide +kernel⟩, ⟨(gm 1249 (by decide +kernel) (by decide +kernel)), (gm 35 (by decide +kernel) (by decide +kernel))⟩, rfl, by decide⟩
def tb_X11_minute : List (Nat × Instr × Nat) := [(0, .aload_n 0, 1), (1, .iload_n 1, 1), (2, .invokevirtual 197, 3), (5, .ifCond .ne 21, 3), (8, .iload_n 2, 1), (9, .i2l, 1), (10, .lconst 0, 1), (11, .aload_n 0, 1), (12, .getfield 19, 3), (15, .iload_n 1, 1), (16, .iaload, 1), (17, .i2l, 1), (18, .lconst 1, 1), (19, .lsub, 1), (20, .invokestatic 132, 3), (23, .ifCond .ne 5, 3), (26, .iconst (-1), 1), (27, .ireturn, 1), (28, .iload_n 3, 1), (29, .i2l, 1), (30, .lconst 0, 1), (31, .ldc2_w 217, 3), (34, .invokestatic 132, 3), (37, .ifCond .ne 6, 3), (40, .bipush (-2), 2), (42, .ireturn, 1), (43, .aload_n 0, 1), (44, .iload_n 1, 1), (45, .iload_n 2, 1), (46, .iload_n 3, 1), (47, .invokevirtual 219, 3), (50, .istore 4, 2), (52, .iload 4, 2), (54, .ldc 216, 2), (56, .if_icmp .ne 8, 3), (59, .bipush (-9), 2), (61, .goto 5, 3), (64, .iload 4, 2), (66, .ireturn, 1)]
def i_X11_minute : MI := (RX11, cX11_minute, 5, (some .int), "minute", { frames := 2, cells := 0, slots := 0, locals := 46 })
theorem D_X11_minute : tbOK (i_X11_minute).2.1 tb_X11_minute := by show ∀ q ∈ tb_X11_minute, decode cX11_minute q.1 = .ok (q.2.1, q.2.2); decide +kernel
def po_X11_minute (S : Sk) (I : II) (r : Int32) : Option LV × Sk × II := (some (vI r), S, I)
def f_X11_minute (fu : Nat) (S : Sk) (I : II) (a0 : Nat) (x1 : Int32) (x2 : Int32) (x3 : Int32) : Option (Int32) :=
  if (t_X11_noLine I a0 x1) = 0 then gd (inb S (S.1 a0 6) x1) (if (t_X11_in x2.toInt64 (0 : Int64) ((((rd I (S.1 a0 6) x1)).toInt64) - (1 : Int64))) = 0 then some (((-1) : Int32)) else if (t_X11_in x3.toInt64 (0 : Int64) (2879 : Int64)) = 0 then some (((-2) : Int32)) else (f_X11_minuteAt fu S I a0 x1 x2 x3).bind fun q9 => (if q9 = (1000000 : Int32) then some (((-9) : Int32)) else some (q9))) else some (((-1) : Int32))
set_option maxRecDepth 100000 in
set_option maxHeartbeats 4000000 in
theorem gg_X11_minute {E : EV} (fu : Nat) (S0 : Sk) (I0 : II) (a0 : Nat) (x1 : Int32) (x2 : Int32) (x3 : Int32) (ht0 : tyO S0 11 a0) : GG E i_X11_minute (enM E i_X11_minute S0 (po_X11_minute S0 I0)) S0 I0 (0, 0) 0 [(0, vA (a0 + 1)), (1, vI x1), (2, vI x2), (3, vI x3)] [] (f_X11_minute fu S0 I0 a0 x1 x2 x3) := by
  unfold f_X11_minute
  refine g_aload_n (dk D_X11_minute 0 rfl) rfl ?_
  refine g_iload_n (dk D_X11_minute 1 rfl) rfl ?_
  refine h_callVt (st := []) (c_X11_noLine (E := E) S0 I0 a0 x1 (ht0)) cl_RX11_197 ht0 rfl rfl (by decide) (Nat.le_of_ble_eq_true rfl) (dk D_X11_minute 2 rfl) ?_
  refine g_if_ne (tgt := 26) (dk D_X11_minute 3 rfl) rfl (fun hc2 => ?_) (fun hc2 => ?_)
  · refine g_iconst (v := ((-1) : Int32)) (dk D_X11_minute 16 rfl) rfl ?_
    exact g_ireturn rfl rfl Sx.rf rfl (by decide) (by decide) (dk D_X11_minute 17 rfl)
  · refine g_iload_n (dk D_X11_minute 4 rfl) rfl ?_
    refine g_i2l (dk D_X11_minute 5 rfl) ?_
    refine g_lconst (v := (0 : Int64)) (dk D_X11_minute 6 rfl) rfl ?_
    refine g_aload_n (dk D_X11_minute 7 rfl) rfl ?_
    refine g_getAt (t := 100) fl_RX11_19 rfl ht0 (dk D_X11_minute 8 rfl) (fun ht3 => ?_)
    refine g_iload_n (dk D_X11_minute 9 rfl) rfl ?_
    refine g_gd (fun hi4 => ?_)
    refine g_iaload ht3 hi4 (dk D_X11_minute 10 rfl) ?_
    refine g_i2l (dk D_X11_minute 11 rfl) ?_
    refine g_lconst (v := (1 : Int64)) (dk D_X11_minute 12 rfl) rfl ?_
    refine g_lsub (dk D_X11_minute 13 rfl) ?_
    refine h_callS (st := []) (c_X11_in (E := E) S0 I0 x2.toInt64 (0 : Int64) ((((rd I0 (S0.1 a0 6) x1)).toInt64) - (1 : Int64))) cl_RX11_132 rfl rfl (by decide) (Nat.le_of_ble_eq_true rfl) (dk D_X11_minute 14 rfl) ?_
    refine g_if_ne (tgt := 28) (dk D_X11_minute 15 rfl) rfl (fun hc6 => ?_) (fun hc6 => ?_)
    · refine g_iload_n (dk D_X11_minute 18 rfl) rfl ?_
      refine g_i2l (dk D_X11_minute 19 rfl) ?_
      refine g_lconst (v := (0 : Int64)) (dk D_X11_minute 20 rfl) rfl ?_
      refine g_ldc2 (dk D_X11_minute 21 rfl) lk_RX11_217 ?_
      refine h_callS (st := []) (c_X11_in (E := E) S0 I0 x3.toInt64 (0 : Int64) (2879 : Int64)) cl_RX11_132 rfl rfl (by decide) (Nat.le_of_ble_eq_true rfl) (dk D_X11_minute 22 rfl) ?_
      refine g_if_ne (tgt := 43) (dk D_X11_minute 23 rfl) rfl (fun hc8 => ?_) (fun hc8 => ?_)
      · refine g_aload_n (dk D_X11_minute 26 rfl) rfl ?_
        refine g_iload_n (dk D_X11_minute 27 rfl) rfl ?_
        refine g_iload_n (dk D_X11_minute 28 rfl) rfl ?_
        refine g_iload_n (dk D_X11_minute 29 rfl) rfl ?_
        refine g_bind (fun q9 hq10 => ?_)
        refine h_callVt (st := []) (c_X11_minuteAt (E := E) fu S0 I0 a0 x1 x2 x3 q9 hq10 (ht0)) cl_RX11_219 ht0 rfl rfl (by decide) (Nat.le_of_ble_eq_true rfl) (dk D_X11_minute 30 rfl) ?_
        refine g_istore (L' := [(0, vA (a0 + 1)), (1, vI x1), (2, vI x2), (3, vI x3), (4, vI q9)]) (dk D_X11_minute 31 rfl) (Nat.le_of_ble_eq_true rfl) rfl ?_
        refine g_iload (dk D_X11_minute 32 rfl) rfl ?_
        refine g_ldc (dk D_X11_minute 33 rfl) lk_RX11_216 ?_
        refine g_icmp_ne (tgt := 64) (dk D_X11_minute 34 rfl) rfl (fun hc12 => ?_) (fun hc12 => ?_)
        · refine g_iload (dk D_X11_minute 37 rfl) rfl ?_
          exact g_ireturn rfl rfl Sx.rf rfl (by decide) (by decide) (dk D_X11_minute 38 rfl)
        · refine g_bipush (v := ((-9) : Int32)) (dk D_X11_minute 35 rfl) rfl ?_
          refine g_goto (tgt := 66) (dk D_X11_minute 36 rfl) rfl ?_
          exact g_ireturn rfl rfl Sx.rf rfl (by decide) (by decide) (dk D_X11_minute 38 rfl)
      · refine g_bipush (v := ((-2) : Int32)) (dk D_X11_minute 24 rfl) rfl ?_
        exact g_ireturn rfl rfl Sx.rf rfl (by decide) (by decide) (dk D_X11_minute 25 rfl)
    · refine g_iconst (v := ((-1) : Int32)) (dk D_X11_minute 16 rfl) rfl ?_
      exact g_ireturn rfl rfl Sx.rf rfl (by decide) (by decide) (dk D_X11_minute 17 rfl)
theorem c_X11_minute {E : EV} (fu : Nat) (S0 : Sk) (I0 : II) (a0 : Nat) (x1 : Int32) (x2 : Int32) (x3 : Int32) (r : Int32) (h : f_X11_minute fu S0 I0 a0 x1 x2 x3 = some r) (ht0 : tyO S0 11 a0) : MX E yX11_minute i_X11_minute S0 I0 [vA (a0 + 1), vI x1, vI x2, vI x3] (po_X11_minute S0 I0 r) :=
  MX.of h (by decide) rfl rfl (Nat.le_of_ble_eq_true rfl) (gg_X11_minute fu S0 I0 a0 x1 x2 x3 ht0)
theorem fl_RX11_223 : FL RX11 223 11 21 := ⟨RX11, TX11, 57, rfl, by decide, rfl, by decide, (gm 999 (by decide +kernel) (by decide +kernel)), inG11⟩
theorem fp_11_21 : FP 11 21 (tyX11 21) false := ⟨RX11, TX11, 57, tyX11, rfl, tyX11_ok, nmX11, rfl, rfl, rfl⟩
theorem lk_RX11_226 : Cond.constantLong RX11 226 (48 : Int64) ∈ lw_good := (gm 1264 (by decide +kernel) (by decide +kernel))
theorem lk_RX11_228 : Cond.constantLong RX11 228 (57 : Int64) ∈ lw_good := (gm 1265 (by decide +kernel) (by decide +kernel))
def tb_X11_readsNumber : List (Nat × Instr × Nat) := [(0, .aload_n 0, 1), (1, .getfield 223, 3), (4, .istore 4, 2), (6, .aload_n 0, 1), (7, .getfield 58, 3), (10, .iload_n 1, 1), (11, .iconst 0, 1), (12, .iastore, 1), (13, .aload_n 0, 1), (14, .getfield 223, 3), (17, .iload_n 3, 1), (18, .if_icmp .ge 81, 3), (21, .aload_n 0, 1), (22, .getfield 223, 3), (25, .iload 4, 2), (27, .iconst 3, 1), (28, .iadd, 1), (29, .if_icmp .ge 70, 3), (32, .aload_n 0, 1), (33, .getfield 118, 3), (36, .iload_n 2, 1), (37, .aload_n 0, 1), (38, .getfield 223, 3), (41, .iadd, 1), (42, .iaload, 1), (43, .i2l, 1), (44, .ldc2_w 226, 3), (47, .ldc2_w 228, 3), (50, .invokestatic 132, 3), (53, .ifCond .eq 46, 3), (56, .aload_n 0, 1), (57, .getfield 58, 3), (60, .iload_n 1, 1), (61, .bipush 10, 2), (63, .aload_n 0, 1), (64, .getfield 58, 3), (67, .iload_n 1, 1), (68, .iaload, 1), (69, .imul, 1), (70, .aload_n 0, 1), (71, .getfield 118, 3), (74, .iload_n 2, 1), (75, .aload_n 0, 1), (76, .getfield 223, 3), (79, .iadd, 1), (80, .iaload, 1), (81, .iadd, 1), (82, .bipush 48, 2), (84, .isub, 1), (85, .iastore, 1), (86, .aload_n 0, 1), (87, .dup, 1), (88, .getfield 223, 3), (91, .iconst 1, 1), (92, .iadd, 1), (93, .putfield 223, 3), (96, .goto (-83), 3), (99, .iload_n 1, 1), (100, .ifCond .ne 24, 3), (103, .aload_n 0, 1), (104, .aload_n 0, 1), (105, .getfield 58, 3), (108, .iconst 0, 1), (109, .iaload, 1), (110, .invokevirtual 164, 3), (113, .ifCond .ne 7, 3), (116, .iconst 1, 1), (117, .goto 60, 3), (120, .iconst 0, 1), (121, .goto 56, 3), (124, .iload_n 1, 1), (125, .iconst 1, 1), (126, .if_icmp .eq 46, 3), (129, .iload_n 1, 1), (130, .iconst 2, 1), (131, .if_icmp .ne 18, 3), (134, .aload_n 0, 1), (135, .getfield 58, 3), (138, .iconst 2, 1), (139, .iaload, 1), (140, .invokestatic 200, 3), (143, .ifCond .eq 33, 3), (146, .goto 26, 3), (149, .aload_n 0, 1), (150, .getfield 58, 3), (153, .iconst 3, 1), (154, .iaload, 1), (155, .i2l, 1), (156, .aload_n 0, 1), (157, .getfield 58, 3), (160, .iconst 2, 1), (161, .iaload, 1), (162, .i2l, 1), (163, .ldc2_w 130, 3), (166, .invokestatic 132, 3), (169, .ifCond .eq 7, 3), (172, .iconst 1, 1), (173, .goto 4, 3), (176, .iconst 0, 1), (177, .istore 5, 2), (179, .aload_n 0, 1), (180, .getfield 223, 3), (183, .iload 4, 2), (185, .if_icmp .le 14, 3), (188, .iload 5, 2), (190, .ifCond .ne 9, 3), (193, .aload_n 0, 1), (194, .iload 4, 2), (196, .putfield 223, 3), (199, .aload_n 0, 1), (200, .getfield 223, 3), (203, .iload 4, 2), (205, .if_icmp .le 7, 3), (208, .iconst 1, 1), (209, .goto 4, 3), (212, .iconst 0, 1), (213, .ireturn, 1)]
def i_X11_readsNumber : MI := (RX11, cX11_readsNumber, 6, (some .boolean), "readsNumber", { frames := 2, cells := 0, slots := 0, locals := 46 })
theorem D_X11_readsNumber : tbOK (i_X11_readsNumber).2.1 tb_X11_readsNumber := by show ∀ q ∈ tb_X11_readsNumber, decode cX11_readsNumber q.1 = .ok (q.2.1, q.2.2); decide +kernel
def po_X11_readsNumber (S : Sk) (I : II) (r : Int32 × II) : Option LV × Sk × II := (some (vI r.1), S, r.2)
def jn_X11_readsNumber_199 (fu : Nat) (S : Sk) (I : II) (a0 : Nat) (x4 : Int32) : Option (Int32 × II) :=
  if (I a0 21) ≤ x4 then some (((0 : Int32), I)) else some (((1 : Int32), I))
def jn_X11_readsNumber_177 (fu : Nat) (S : Sk) (I : II) (a0 : Nat) (x4 : Int32) (s0 : Int32) : Option (Int32 × II) :=
  if (I a0 21) ≤ x4 then jn_X11_readsNumber_199 fu S I a0 x4 else if s0 = 0 then lt (upI I a0 21 x4) fun I4 => (jn_X11_readsNumber_199 fu S I4 a0 x4) else jn_X11_readsNumber_199 fu S I a0 x4
def jn_X11_readsNumber_172 (fu : Nat) (S : Sk) (I : II) (a0 : Nat) (x4 : Int32) : Option (Int32 × II) :=
  jn_X11_readsNumber_177 fu S I a0 x4 (1 : Int32)
def jn_X11_readsNumber_176 (fu : Nat) (S : Sk) (I : II) (a0 : Nat) (x4 : Int32) : Option (Int32 × II) :=
  jn_X11_readsNumber_177 fu S I a0 x4 (0 : Int32)
def jn_X11_readsNumber_99 (fu : Nat) (S : Sk) (I : II) (a0 : Nat) (x1 : Int32) (x4 : Int32) : Option (Int32 × II) :=
  if x1 = 0 then gd (inb S (S.1 a0 20) (0 : Int32)) (if (t_X11_noStop I a0 (rd I (S.1 a0 20) (0 : Int32))) = 0 then jn_X11_readsNumber_177 fu S I a0 x4 (1 : Int32) else jn_X11_readsNumber_177 fu S I a0 x4 (0 : Int32)) else if x1 = (1 : Int32) then jn_X11_readsNumber_172 fu S I a0 x4 else if x1 = (2 : Int32) then gd (inb S (S.1 a0 20) (2 : Int32)) (if (t_X11_isDay (rd I (S.1 a0 20) (2 : Int32))) = 0 then jn_X11_readsNumber_176 fu S I a0 x4 else jn_X11_readsNumber_172 fu S I a0 x4) else gd (inb S (S.1 a0 20) (3 : Int32)) (gd (inb S (S.1 a0 20) (2 : Int32)) (if (t_X11_in (((rd I (S.1 a0 20) (3 : Int32))).toInt64) (((rd I (S.1 a0 20) (2 : Int32))).toInt64) (59 : Int64)) = 0 then jn_X11_readsNumber_176 fu S I a0 x4 else jn_X11_readsNumber_172 fu S I a0 x4))
def lp_X11_readsNumber_13 (fu : Nat) (S : Sk) (a0 : Nat) (x1 : Int32) (x2 : Int32) (x3 : Int32) (x4 : Int32) (self13 : II → Option (Int32 × II)) (I : II) : Option (Int32 × II) :=
  if x3 ≤ (I a0 21) then jn_X11_readsNumber_99 fu S I a0 x1 x4 else if (x4 + (3 : Int32)) ≤ (I a0 21) then jn_X11_readsNumber_99 fu S I a0 x1 x4 else gd (inb S (S.1 a0 54) (x2 + (I a0 21))) (if (t_X11_in (((rd I (S.1 a0 54) (x2 + (I a0 21)))).toInt64) (48 : Int64) (57 : Int64)) = 0 then jn_X11_readsNumber_99 fu S I a0 x1 x4 else gd (inb S (S.1 a0 20) x1) (lt (wr I (S.1 a0 20) x1 ((((10 : Int32) * (rd I (S.1 a0 20) x1)) + (rd I (S.1 a0 54) (x2 + (I a0 21)))) - (48 : Int32))) fun I32 => (lt (upI I32 a0 21 ((I32 a0 21) + (1 : Int32))) fun I33 => (self13 I33))))
def f_X11_readsNumber (fu : Nat) (S : Sk) (I : II) (a0 : Nat) (x1 : Int32) (x2 : Int32) (x3 : Int32) : Option (Int32 × II) :=
  lt (I a0 21) fun x4_34 => (gd (inb S (S.1 a0 20) x1) (lt (wr I (S.1 a0 20) x1 (0 : Int32)) fun I37 => (fix1 (lp_X11_readsNumber_13 fu S a0 x1 x2 x3 x4_34) fu I37)))
set_option maxRecDepth 100000 in
set_option maxHeartbeats 4000000 in
theorem gg_X11_readsNumber {E : EV} (fu : Nat) (S0 : Sk) (I0 : II) (a0 : Nat) (x1 : Int32) (x2 : Int32) (x3 : Int32) (ht0 : tyO S0 11 a0) : GG E i_X11_readsNumber (enM E i_X11_readsNumber S0 (po_X11_readsNumber S0 I0)) S0 I0 (0, 0) 0 [(0, vA (a0 + 1)), (1, vI x1), (2, vI x2), (3, vI x3)] [] (f_X11_readsNumber fu S0 I0 a0 x1 x2 x3) := by
  have hj199 : ∀ (I : II) (x4 : Int32), GG E i_X11_readsNumber (enM E i_X11_readsNumber S0 (po_X11_readsNumber S0 I0)) S0 I (0, 0) 199 [(0, vA (a0 + 1)), (4, vI x4)] [] (jn_X11_readsNumber_199 fu S0 I a0 x4) := by
    intro I x4 
    unfold jn_X11_readsNumber_199
    refine g_aload_n (dk D_X11_readsNumber 109 rfl) rfl ?_
    refine g_getIt fl_RX11_223 (by decide) ht0 (dk D_X11_readsNumber 110 rfl) ?_
    refine g_iload (dk D_X11_readsNumber 111 rfl) rfl ?_
    refine g_icmp_le (tgt := 212) (dk D_X11_readsNumber 112 rfl) rfl (fun hc1 => ?_) (fun hc1 => ?_)
    · refine g_iconst (v := (0 : Int32)) (dk D_X11_readsNumber 115 rfl) rfl ?_
      exact g_zreturn rfl rfl (Or.inl rfl) Sx.rf rfl (by decide) (by decide) (dk D_X11_readsNumber 116 rfl)
    · refine g_iconst (v := (1 : Int32)) (dk D_X11_readsNumber 113 rfl) rfl ?_
      refine g_goto (tgt := 213) (dk D_X11_readsNumber 114 rfl) rfl ?_
      exact g_zreturn rfl rfl (Or.inr rfl) Sx.rf rfl (by decide) (by decide) (dk D_X11_readsNumber 116 rfl)
  have hj177 : ∀ (I : II) (x4 : Int32) (s0 : Int32), GG E i_X11_readsNumber (enM E i_X11_readsNumber S0 (po_X11_readsNumber S0 I0)) S0 I (0, 0) 177 [(0, vA (a0 + 1)), (4, vI x4)] [vI s0] (jn_X11_readsNumber_177 fu S0 I a0 x4 s0) := by
    intro I x4 s0 
    unfold jn_X11_readsNumber_177
    refine g_istore (L' := [(0, vA (a0 + 1)), (4, vI x4), (5, vI s0)]) (dk D_X11_readsNumber 99 rfl) (Nat.le_of_ble_eq_true rfl) rfl ?_
    refine g_aload_n (dk D_X11_readsNumber 100 rfl) rfl ?_
    refine g_getIt fl_RX11_223 (by decide) ht0 (dk D_X11_readsNumber 101 rfl) ?_
    refine g_iload (dk D_X11_readsNumber 102 rfl) rfl ?_
    refine g_icmp_le (tgt := 199) (dk D_X11_readsNumber 103 rfl) rfl (fun hc2 => ?_) (fun hc2 => ?_)
    · refine g_Lp [0, 1] rfl ?_
      exact hj199 I x4
    · refine g_iload (dk D_X11_readsNumber 104 rfl) rfl ?_
      refine g_if_ne (tgt := 199) (dk D_X11_readsNumber 105 rfl) rfl (fun hc3 => ?_) (fun hc3 => ?_)
      · refine g_Lp [0, 1] rfl ?_
        exact hj199 I x4
      · refine g_aload_n (dk D_X11_readsNumber 106 rfl) rfl ?_
        refine g_iload (dk D_X11_readsNumber 107 rfl) rfl ?_
        refine g_putIt fl_RX11_223 fp_11_21 (fun h => (by cases h)) (by decide) rfl rfl ht0 (dk D_X11_readsNumber 108 rfl) ?_
        refine g_ltI (fun I4 eI4 => ?_)
        refine g_Lp [0, 1] rfl ?_
        exact hj199 I4 x4
  have hj172 : ∀ (I : II) (x4 : Int32), GG E i_X11_readsNumber (enM E i_X11_readsNumber S0 (po_X11_readsNumber S0 I0)) S0 I (0, 0) 172 [(0, vA (a0 + 1)), (4, vI x4)] [] (jn_X11_readsNumber_172 fu S0 I a0 x4) := by
    intro I x4 
    unfold jn_X11_readsNumber_172
    refine g_iconst (v := (1 : Int32)) (dk D_X11_readsNumber 96 rfl) rfl ?_
    refine g_goto (tgt := 177) (dk D_X11_readsNumber 97 rfl) rfl ?_
    exact hj177 I x4 (1 : Int32)
  have hj176 : ∀ (I : II) (x4 : Int32), GG E i_X11_readsNumber (enM E i_X11_readsNumber S0 (po_X11_readsNumber S0 I0)) S0 I (0, 0) 176 [(0, vA (a0 + 1)), (4, vI x4)] [] (jn_X11_readsNumber_176 fu S0 I a0 x4) := by
    intro I x4 
    unfold jn_X11_readsNumber_176
    refine g_iconst (v := (0 : Int32)) (dk D_X11_readsNumber 98 rfl) rfl ?_
    exact hj177 I x4 (0 : Int32)
  have hj99 : ∀ (I : II) (x4 : Int32), GG E i_X11_readsNumber (enM E i_X11_readsNumber S0 (po_X11_readsNumber S0 I0)) S0 I (0, 0) 99 [(0, vA (a0 + 1)), (1, vI x1), (4, vI x4)] [] (jn_X11_readsNumber_99 fu S0 I a0 x1 x4) := by
    intro I x4 
    unfold jn_X11_readsNumber_99
    refine g_iload_n (dk D_X11_readsNumber 57 rfl) rfl ?_
    refine g_if_ne (tgt := 124) (dk D_X11_readsNumber 58 rfl) rfl (fun hc5 => ?_) (fun hc5 => ?_)
    · refine g_iload_n (dk D_X11_readsNumber 70 rfl) rfl ?_
      refine g_iconst (v := (1 : Int32)) (dk D_X11_readsNumber 71 rfl) rfl ?_
      refine g_icmp_eq (tgt := 172) (dk D_X11_readsNumber 72 rfl) rfl (fun hc6 => ?_) (fun hc6 => ?_)
      · refine g_Lp [0, 2] rfl ?_
        exact hj172 I x4
      · refine g_iload_n (dk D_X11_readsNumber 73 rfl) rfl ?_
        refine g_iconst (v := (2 : Int32)) (dk D_X11_readsNumber 74 rfl) rfl ?_
        refine g_icmp_ne (tgt := 149) (dk D_X11_readsNumber 75 rfl) rfl (fun hc7 => ?_) (fun hc7 => ?_)
        · refine g_aload_n (dk D_X11_readsNumber 83 rfl) rfl ?_
          refine g_getAt (t := 100) fl_RX11_58 rfl ht0 (dk D_X11_readsNumber 84 rfl) (fun ht8 => ?_)
          refine g_iconst (v := (3 : Int32)) (dk D_X11_readsNumber 85 rfl) rfl ?_
          refine g_gd (fun hi9 => ?_)
          refine g_iaload ht8 hi9 (dk D_X11_readsNumber 86 rfl) ?_
          refine g_i2l (dk D_X11_readsNumber 87 rfl) ?_
          refine g_aload_n (dk D_X11_readsNumber 88 rfl) rfl ?_
          refine g_getAt (t := 100) fl_RX11_58 rfl ht0 (dk D_X11_readsNumber 89 rfl) (fun ht10 => ?_)
          refine g_iconst (v := (2 : Int32)) (dk D_X11_readsNumber 90 rfl) rfl ?_
          refine g_gd (fun hi11 => ?_)
          refine g_iaload ht8 hi11 (dk D_X11_readsNumber 91 rfl) ?_
          refine g_i2l (dk D_X11_readsNumber 92 rfl) ?_
          refine g_ldc2 (dk D_X11_readsNumber 93 rfl) lk_RX11_130 ?_
          refine h_callS (st := []) (c_X11_in (E := E) S0 I (((rd I (S0.1 a0 20) (3 : Int32))).toInt64) (((rd I (S0.1 a0 20) (2 : Int32))).toInt64) (59 : Int64)) cl_RX11_132 rfl rfl (by decide) (Nat.le_of_ble_eq_true rfl) (dk D_X11_readsNumber 94 rfl) ?_
          refine g_if_eq (tgt := 176) (dk D_X11_readsNumber 95 rfl) rfl (fun hc13 => ?_) (fun hc13 => ?_)
          · refine g_Lp [0, 2] rfl ?_
            exact hj176 I x4
          · refine g_Lp [0, 2] rfl ?_
            exact hj172 I x4
        · refine g_aload_n (dk D_X11_readsNumber 76 rfl) rfl ?_
          refine g_getAt (t := 100) fl_RX11_58 rfl ht0 (dk D_X11_readsNumber 77 rfl) (fun ht14 => ?_)
          refine g_iconst (v := (2 : Int32)) (dk D_X11_readsNumber 78 rfl) rfl ?_
          refine g_gd (fun hi15 => ?_)
          refine g_iaload ht14 hi15 (dk D_X11_readsNumber 79 rfl) ?_
          refine h_callS (st := []) (c_X11_isDay (E := E) S0 I (rd I (S0.1 a0 20) (2 : Int32))) cl_RX11_200 rfl rfl (by decide) (Nat.le_of_ble_eq_true rfl) (dk D_X11_readsNumber 80 rfl) ?_
          refine g_if_eq (tgt := 176) (dk D_X11_readsNumber 81 rfl) rfl (fun hc17 => ?_) (fun hc17 => ?_)
          · refine g_Lp [0, 2] rfl ?_
            exact hj176 I x4
          · refine g_goto (tgt := 172) (dk D_X11_readsNumber 82 rfl) rfl ?_
            refine g_Lp [0, 2] rfl ?_
            exact hj172 I x4
    · refine g_aload_n (dk D_X11_readsNumber 59 rfl) rfl ?_
      refine g_aload_n (dk D_X11_readsNumber 60 rfl) rfl ?_
      refine g_getAt (t := 100) fl_RX11_58 rfl ht0 (dk D_X11_readsNumber 61 rfl) (fun ht18 => ?_)
      refine g_iconst (v := (0 : Int32)) (dk D_X11_readsNumber 62 rfl) rfl ?_
      refine g_gd (fun hi19 => ?_)
      refine g_iaload ht18 hi19 (dk D_X11_readsNumber 63 rfl) ?_
      refine h_callVt (st := []) (c_X11_noStop (E := E) S0 I a0 (rd I (S0.1 a0 20) (0 : Int32)) (ht0)) cl_RX11_164 ht0 rfl rfl (by decide) (Nat.le_of_ble_eq_true rfl) (dk D_X11_readsNumber 64 rfl) ?_
      refine g_if_ne (tgt := 120) (dk D_X11_readsNumber 65 rfl) rfl (fun hc21 => ?_) (fun hc21 => ?_)
      · refine g_iconst (v := (0 : Int32)) (dk D_X11_readsNumber 68 rfl) rfl ?_
        refine g_goto (tgt := 177) (dk D_X11_readsNumber 69 rfl) rfl ?_
        refine g_Lp [0, 2] rfl ?_
        exact hj177 I x4 (0 : Int32)
      · refine g_iconst (v := (1 : Int32)) (dk D_X11_readsNumber 66 rfl) rfl ?_
        refine g_goto (tgt := 177) (dk D_X11_readsNumber 67 rfl) rfl ?_
        refine g_Lp [0, 2] rfl ?_
        exact hj177 I x4 (1 : Int32)
  have hl13 : ∀ (x4 : Int32) (nn : Nat) (I : II), True → GG E i_X11_readsNumber (enM E i_X11_readsNumber S0 (po_X11_readsNumber S0 I0)) S0 I (0, 0) 13 [(0, vA (a0 + 1)), (1, vI x1), (2, vI x2), (3, vI x3), (4, vI x4)] [] (fix1 (lp_X11_readsNumber_13 fu S0 a0 x1 x2 x3 x4) nn I) := by
    intro x4 
    refine g_fix1 (fun _ => S0) (fun I => I) (fun I => [(0, vA (a0 + 1)), (1, vI x1), (2, vI x2), (3, vI x3), (4, vI x4)]) (fun I => True) ?_
    intro self13 hself13 I hinv
    unfold lp_X11_readsNumber_13
    refine g_aload_n (dk D_X11_readsNumber 8 rfl) rfl ?_
    refine g_getIt fl_RX11_223 (by decide) ht0 (dk D_X11_readsNumber 9 rfl) ?_
    refine g_iload_n (dk D_X11_readsNumber 10 rfl) rfl ?_
    refine g_icmp_ge (tgt := 99) (dk D_X11_readsNumber 11 rfl) rfl (fun hc22 => ?_) (fun hc22 => ?_)
    · refine g_Lp [0, 1, 4] rfl ?_
      exact hj99 I x4
    · refine g_aload_n (dk D_X11_readsNumber 12 rfl) rfl ?_
      refine g_getIt fl_RX11_223 (by decide) ht0 (dk D_X11_readsNumber 13 rfl) ?_
      refine g_iload (dk D_X11_readsNumber 14 rfl) rfl ?_
      refine g_iconst (v := (3 : Int32)) (dk D_X11_readsNumber 15 rfl) rfl ?_
      refine g_iadd (dk D_X11_readsNumber 16 rfl) ?_
      refine g_icmp_ge (tgt := 99) (dk D_X11_readsNumber 17 rfl) rfl (fun hc23 => ?_) (fun hc23 => ?_)
      · refine g_Lp [0, 1, 4] rfl ?_
        exact hj99 I x4
      · refine g_aload_n (dk D_X11_readsNumber 18 rfl) rfl ?_
        refine g_getAt (t := 100) fl_RX11_118 rfl ht0 (dk D_X11_readsNumber 19 rfl) (fun ht24 => ?_)
        refine g_iload_n (dk D_X11_readsNumber 20 rfl) rfl ?_
        refine g_aload_n (dk D_X11_readsNumber 21 rfl) rfl ?_
        refine g_getIt fl_RX11_223 (by decide) ht0 (dk D_X11_readsNumber 22 rfl) ?_
        refine g_iadd (dk D_X11_readsNumber 23 rfl) ?_
        refine g_gd (fun hi25 => ?_)
        refine g_iaload ht24 hi25 (dk D_X11_readsNumber 24 rfl) ?_
        refine g_i2l (dk D_X11_readsNumber 25 rfl) ?_
        refine g_ldc2 (dk D_X11_readsNumber 26 rfl) lk_RX11_226 ?_
        refine g_ldc2 (dk D_X11_readsNumber 27 rfl) lk_RX11_228 ?_
        refine h_callS (st := []) (c_X11_in (E := E) S0 I (((rd I (S0.1 a0 54) (x2 + (I a0 21)))).toInt64) (48 : Int64) (57 : Int64)) cl_RX11_132 rfl rfl (by decide) (Nat.le_of_ble_eq_true rfl) (dk D_X11_readsNumber 28 rfl) ?_
        refine g_if_eq (tgt := 99) (dk D_X11_readsNumber 29 rfl) rfl (fun hc27 => ?_) (fun hc27 => ?_)
        · refine g_Lp [0, 1, 4] rfl ?_
          exact hj99 I x4
        · refine g_aload_n (dk D_X11_readsNumber 30 rfl) rfl ?_
          refine g_getAt (t := 100) fl_RX11_58 rfl ht0 (dk D_X11_readsNumber 31 rfl) (fun ht28 => ?_)
          refine g_iload_n (dk D_X11_readsNumber 32 rfl) rfl ?_
          refine g_bipush (v := (10 : Int32)) (dk D_X11_readsNumber 33 rfl) rfl ?_
          refine g_aload_n (dk D_X11_readsNumber 34 rfl) rfl ?_
          refine g_getAt (t := 100) fl_RX11_58 rfl ht0 (dk D_X11_readsNumber 35 rfl) (fun ht29 => ?_)
          refine g_iload_n (dk D_X11_readsNumber 36 rfl) rfl ?_
          refine g_gd (fun hi30 => ?_)
          refine g_iaload ht28 hi30 (dk D_X11_readsNumber 37 rfl) ?_
          refine g_imul (dk D_X11_readsNumber 38 rfl) ?_
          refine g_aload_n (dk D_X11_readsNumber 39 rfl) rfl ?_
          refine g_getAt (t := 100) fl_RX11_118 rfl ht0 (dk D_X11_readsNumber 40 rfl) (fun ht31 => ?_)
          refine g_iload_n (dk D_X11_readsNumber 41 rfl) rfl ?_
          refine g_aload_n (dk D_X11_readsNumber 42 rfl) rfl ?_
          refine g_getIt fl_RX11_223 (by decide) ht0 (dk D_X11_readsNumber 43 rfl) ?_
          refine g_iadd (dk D_X11_readsNumber 44 rfl) ?_
          refine g_iaload ht24 hi25 (dk D_X11_readsNumber 45 rfl) ?_
          refine g_iadd (dk D_X11_readsNumber 46 rfl) ?_
          refine g_bipush (v := (48 : Int32)) (dk D_X11_readsNumber 47 rfl) rfl ?_
          refine g_isub (dk D_X11_readsNumber 48 rfl) ?_
          refine g_iastore ht28 hi30 (dk D_X11_readsNumber 49 rfl) ?_
          refine g_ltI (fun I32 eI32 => ?_)
          refine g_aload_n (dk D_X11_readsNumber 50 rfl) rfl ?_
          refine g_dup (dk D_X11_readsNumber 51 rfl) rfl ?_
          refine g_getIt fl_RX11_223 (by decide) ht0 (dk D_X11_readsNumber 52 rfl) ?_
          refine g_iconst (v := (1 : Int32)) (dk D_X11_readsNumber 53 rfl) rfl ?_
          refine g_iadd (dk D_X11_readsNumber 54 rfl) ?_
          refine g_putIt fl_RX11_223 fp_11_21 (fun h => (by cases h)) (by decide) rfl rfl ht0 (dk D_X11_readsNumber 55 rfl) ?_
          refine g_ltI (fun I33 eI33 => ?_)
          refine g_goto (tgt := 13) (dk D_X11_readsNumber 56 rfl) rfl ?_
          exact hself13 I33 trivial
  unfold f_X11_readsNumber
  refine g_aload_n (dk D_X11_readsNumber 0 rfl) rfl ?_
  refine g_getIt fl_RX11_223 (by decide) ht0 (dk D_X11_readsNumber 1 rfl) ?_
  refine g_ltV (fun x4_34 ex4_34 => ?_)
  refine g_istore (L' := [(0, vA (a0 + 1)), (1, vI x1), (2, vI x2), (3, vI x3), (4, vI x4_34)]) (dk D_X11_readsNumber 2 rfl) (Nat.le_of_ble_eq_true rfl) rfl ?_
  refine g_aload_n (dk D_X11_readsNumber 3 rfl) rfl ?_
  refine g_getAt (t := 100) fl_RX11_58 rfl ht0 (dk D_X11_readsNumber 4 rfl) (fun ht35 => ?_)
  refine g_iload_n (dk D_X11_readsNumber 5 rfl) rfl ?_
  refine g_iconst (v := (0 : Int32)) (dk D_X11_readsNumber 6 rfl) rfl ?_
  refine g_gd (fun hi36 => ?_)
  refine g_iastore ht35 hi36 (dk D_X11_readsNumber 7 rfl) ?_
  refine g_ltI (fun I37 eI37 => ?_)
  exact hl13 x4_34 fu I37 trivial
theorem c_X11_readsNumber {E : EV} (fu : Nat) (S0 : Sk) (I0 : II) (a0 : Nat) (x1 : Int32) (x2 : Int32) (x3 : Int32) (r : Int32 × II) (h : f_X11_readsNumber fu S0 I0 a0 x1 x2 x3 = some r) (ht0 : tyO S0 11 a0) : MX E yX11_readsNumber i_X11_readsNumber S0 I0 [vA (a0 + 1), vI x1, vI x2, vI x3] (po_X11_readsNumber S0 I0 r) :=
  MX.of h (by decide) rfl rfl (Nat.le_of_ble_eq_true rfl) (gg_X11_readsNumber fu S0 I0 a0 x1 x2 x3 ht0)
