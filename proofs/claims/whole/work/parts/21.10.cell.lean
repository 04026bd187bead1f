/-! cell, sheet -/
theorem p_cell (fu : Nat) {D : Dn} {I : II} (g : Inv D I) (x i v : Int32) : ∃ r I1 I2, Rf_X10_cell fu (mkS D) I x i v = some (r, I1) ∧ Rf_X11_cell fu (mkS D) I1 x i v = some (r, I2) ∧ Inv D I2 := by
  have hfl : ∀ (J : II) (u : Int32), Rf_X11_failedLong fu (mkS D) J u = some (-9223372036854775808, upI J 38 0 u) := fun J u => rfl
  have hlost : t_X11_lost = -9223372036854775808 := rfl
  unfold Rf_X10_cell Rf_X11_cell Rj_X10_cell_19 Rj_X11_cell_24 Rj_X11_cell_53
  simp only [lt, hfl, hlost, Option.bind_some, upI_twice, lane_eq]
  rcases sheet_cases x with ⟨h1, h2⟩ | ⟨k, hk, rfl, h1, h2⟩
  · exact ⟨_, _, _, by rw [if_pos h1], by rw [h2, if_neg (by decide)], g.fault 0⟩
  · have e := nx_nI (k := k) (by omega)
    obtain ⟨p1, p2, p3⟩ := mk_sheet (D := D) hk
    have hi : ∀ a, a ≠ 0 → inbL a 4 (nI k) := fun a ha => ⟨ha, nI_nn (by omega), by rw [e]; omega⟩
    simp only [h1, h2, e, p1, m_noCell fu hk, Option.bind_some, rdN]
    rw [if_neg (by decide), show 31 + 2 * k - 1 = 30 + 2 * k by omega, p2]
    simp only [if_true]
    by_cases hl : t_X10_isLane v = 0
    · exact ⟨_, _, _, by rw [if_pos hl], by rw [if_pos hl], g.fault 0⟩
    · rw [if_neg hl, gd_pos (hi _ (by decide)), gd_pos (by omega)]
      have e73 : ∀ u w : Int32, upI (upI I 0 18 u) 38 0 w 73 k = I 73 k := fun u w => by rw [upI_row (by decide), upI_row (by decide)]
      have e74 : ∀ u w : Int32, upI (upI I 0 18 u) 38 0 w 74 k = I 74 k := fun u w => by rw [upI_row (by decide), upI_row (by decide)]
      rcases g.2.2.2.2.2.2.2.2 k hk with ⟨y1, y2⟩ | ⟨y1, ⟨y2, y3⟩, ⟨y4, y5⟩, y6⟩
      · have hw : t_X5_rowFault (upI I 0 18 0) (30 + 2 * k) v i 1 1 = 1 := by
          unfold t_X5_rowFault
          rw [upI_row (by omega), if_pos y1]
        refine ⟨-9223372036854775808, upI I 0 18 1, _, by rw [hw, if_neg (by decide)], ?_, g.fault 1⟩
        have c : ¬ ((0 : Int32) ≤ -1) := by decide
        rw [if_neg hl, gd_pos (hi _ (by decide)), e73, y2, if_pos (by decide)]
        simp only [if_neg c]
        rw [if_neg (by decide)]
      · have hn := y2.2
        have hnn : ¬ I 73 k < 0 := by rw [y2.1]; exact nI_nn (nx_bd _)
        by_cases q : I 74 k = v
        · have e0 : upI I 0 18 0 (30 + 2 * k) 2 = nI (nx (I 73 k)) := by rw [upI_row (by omega), y3]; exact y2.1
          have hrf : t_X5_rowFault (upI I 0 18 0) (30 + 2 * k) v i 1 1 = if t_X5_holds (upI I 0 18 0) (30 + 2 * k) i 1 = 0 then 3 else 0 := by
            unfold t_X5_rowFault
            rw [upI_row (by omega), y1, if_neg (by decide), y5, if_pos q, if_pos (by decide)]
            rfl
          rcases holds1 hn e0 i with ⟨q1, q2⟩ | ⟨j, hj, rfl, q1, q2, q3⟩
          · refine ⟨-9223372036854775808, upI I 0 18 3, _, by rw [hrf, if_pos q1, if_neg (by decide)], ?_, g.fault 3⟩
            rw [if_neg hl, gd_pos (hi _ (by decide)), e73, if_neg hnn, gd_pos (hi _ (by decide)), e74, if_pos q, y2.1, if_pos (nonneg_nI (nx_bd _)), w_up_no (nx_bd _) q2, if_pos rfl, if_neg (by decide)]
          · have ej := nx_nI (k := j) (by omega)
            have e60 := nx_nI (k := 60 * k + j) (by omega)
            refine ⟨(I 75 (60 * k + j)).toInt64, upI I 0 18 0, _, ?_, ?_, g.fault 0⟩
            · rw [hrf, q1, if_neg i1ne, if_pos rfl, gd_pos ⟨by omega, nI_nn (by omega), by rw [ej, show 32 + 2 * k - 1 = 31 + 2 * k by omega, p3]; omega⟩]
              unfold rd
              rw [ej, show 32 + 2 * k - 1 = 31 + 2 * k by omega, upI_row (by omega), y6 j hj]
            · rw [if_neg hl, gd_pos (hi _ (by decide)), e73, if_neg hnn, gd_pos (hi _ (by decide)), e74, if_pos q, y2.1, if_pos (nonneg_nI (nx_bd _)), w_up_yes (nx_bd _) q2 q3, if_neg i1ne, if_pos (Int32.le_refl 0), ix60, gd_pos ⟨by decide, nI_nn (by omega), by rw [e60]; omega⟩, e60, upI_row (by decide), upI_row (by decide)]
        · have hw : t_X5_rowFault (upI I 0 18 0) (30 + 2 * k) v i 1 1 = 2 := by
            unfold t_X5_rowFault
            rw [upI_row (by omega), y1, if_neg (by decide), y5, if_neg q]
          refine ⟨-9223372036854775808, upI I 0 18 2, _, by rw [hw, if_neg (by decide)], ?_, g.fault 2⟩
          rw [if_neg hl, gd_pos (hi _ (by decide)), e73, if_neg hnn, gd_pos (hi _ (by decide)), e74, if_neg q]
/-- Arrays.fill over a row of the class -/
theorem x_fill (fu : Nat) {D : Dn} {I : II} {a n : Nat} (v : Int32) (hn : (mkS D).2.2.1 a = n) (hb : n < 100000) (hfu : n < fu) : f_J7_fill_53178 fu (mkS D) I (a + 1) v = some (fun b k => if b = a ∧ k < n then v else I b k) := by
  unfold f_J7_fill_53178
  rw [gd_pos (Nat.succ_ne_zero a), Nat.add_sub_cancel, hn]
  simp only [lt]
  have hz : n.toInt32 = nI n := rfl
  rw [hz]
  have := fix2_run (F := lp_J7_fill_53178_5 fu (mkS D) (a + 1) v (nI n)) (out := some (fun b k => if b = a ∧ k < n then v else I b k)) (fun i => nI i) (fun i => (fun b k => if b = a ∧ k < i then v else I b k)) n (fun i hi self => ?_) (fun self => ?_) fu hfu
  · have e : (fun b k => if b = a ∧ k < 0 then v else I b k) = I := by funext b k; simp
    rw [e] at this
    exact this
  · have ei := nx_nI (k := i) (by omega)
    unfold lp_J7_fill_53178_5
    rw [if_neg, gd_pos ⟨Nat.succ_ne_zero a, nI_nn (by omega), by rw [ei, Nat.add_sub_cancel, hn]; exact hi⟩]
    · simp only [lt, wr, ei, Nat.add_sub_cancel]
      rw [show (1 : Int32) = nI 1 from rfl, nI_add]
      congr 1
      funext b k
      unfold upI
      by_cases h1 : b = a
      · subst h1
        by_cases h2 : k = i
        · subst h2; simp
        · by_cases h3 : k < i
          · simp [h2, h3, Nat.lt_succ_of_lt h3]
          · have : ¬ k < i + 1 := by omega
            simp [h2, h3, this]
      · simp [h1]
    · rw [nI_le_iff (by omega) (by omega)]; omega
  · unfold lp_J7_fill_53178_5
    rw [if_pos (by rw [nI_le_iff (by omega) (by omega)]; omega)]
theorem p_sheet (fu : Nat) (hfu : 100 < fu) {D : Dn} {I : II} (g : Inv D I) (x y n : Int32) : ∃ r I1 I2, Rf_X10_sheet fu (mkS D) I x y n = some (r, I1) ∧ Rf_X11_sheet fu (mkS D) I1 x y n = some (r, I2) ∧ Inv D I2 := by
  unfold Rf_X10_sheet Rf_X11_sheet Rj_X11_sheet_31
  simp only [lt, x_fail, m_failed, m_refused, Option.bind_some, upI_twice, lane_eq]
  rcases sheet_cases x with ⟨h1, h2⟩ | ⟨k, hk, rfl, h1, h2⟩
  · exact ⟨_, _, _, by rw [if_pos h1], by rw [h2, if_neg (by decide)], g.fault 0⟩
  · have e := nx_nI (k := k) (by omega)
    obtain ⟨p1, p2, p3⟩ := mk_sheet (D := D) hk
    have hi : ∀ a, a ≠ 0 → inbL a 4 (nI k) := fun a ha => ⟨ha, nI_nn (by omega), by rw [e]; omega⟩
    rw [h2, h1, if_neg (by decide)]
    simp only [if_true, e, p1]
    rcases within_cases y 0 2 with hl | ⟨hl, hl1, hl2⟩
    · have hl' : t_X10_isLane y = 0 := hl
      exact ⟨_, _, _, by rw [if_pos hl'], by rw [if_pos hl'], g.fault 0⟩
    · have hl' : ¬ t_X10_isLane y = 0 := by
        have : t_X10_isLane y = 1 := hl
        rw [this]; decide
      rw [if_neg hl']
      by_cases q1 : n ≤ 60
      · rw [if_pos q1]
        by_cases q2 : 0 ≤ n
        · have hn0 : ¬ n < 0 := Int32.not_lt.mpr q2
          have en := nI_nx hn0
          have hnl := nx_le hn0 (n := 60) (by decide) q1
          have ey := nI_nx (le0 hl1)
          have hyl := nx_le (le0 hl1) (n := 2) (by decide) hl2
          rw [if_pos q2, gd_pos (hi _ (by decide)), gd_pos (by omega), show 31 + 2 * k - 1 = 30 + 2 * k by omega]
          have hren : f_X5_renew fu (mkS D) (upI I 0 18 0) (30 + 2 * k) y n = some (fun b j => if b = 31 + 2 * k ∧ j < 60 then 0 else upI (upI (upI (upI I 0 18 0) (30 + 2 * k) 0 1) (30 + 2 * k) 1 y) (30 + 2 * k) 2 n b j) := by
            unfold f_X5_renew
            rw [p2]
            simp only [lt]
            rw [show 32 + 2 * k = (31 + 2 * k) + 1 by omega, x_fill fu 0 p3 (by decide) (by omega)]
            rfl
          rw [hren]
          generalize hJ : (fun b j => if b = 31 + 2 * k ∧ j < 60 then (0 : Int32) else upI (upI (upI (upI I 0 18 0) (30 + 2 * k) 0 1) (30 + 2 * k) 1 y) (30 + 2 * k) 2 n b j) = J
          have j0 : ∀ a j, a ≠ 31 + 2 * k → a ≠ 30 + 2 * k → J a j = upI I 0 18 0 a j := fun a j z1 z2 => by
            rw [← hJ]
            show (if a = 31 + 2 * k ∧ j < 60 then (0 : Int32) else _) = _
            rw [if_neg (fun z => z1 z.1), upI_row z2, upI_row z2, upI_row z2]
          have j30 : ∀ j, J (30 + 2 * k) j = upI (upI (upI (upI I 0 18 0) (30 + 2 * k) 0 1) (30 + 2 * k) 1 y) (30 + 2 * k) 2 n (30 + 2 * k) j := fun j => by
            rw [← hJ]
            exact if_neg (fun z => by omega)
          have j31 : ∀ j, j < 60 → J (31 + 2 * k) j = 0 := fun j hj => by
            rw [← hJ]
            exact if_pos ⟨rfl, hj⟩
          -- the reference
          have href : ∀ J0 : II, fix2 (Rl_X11_sheet_65 fu (mkS D) (nI k) n) fu (0 : Int32) J0 = some (1, upI (fun b j => if b = 75 ∧ 60 * k ≤ j ∧ j < 60 * k + nx n then 0 else J0 b j) 38 0 0) := by
            intro J0
            have := fix2_run (F := Rl_X11_sheet_65 fu (mkS D) (nI k) n) (out := some (1, upI (fun b j => if b = 75 ∧ 60 * k ≤ j ∧ j < 60 * k + nx n then 0 else J0 b j) 38 0 0)) (fun i => nI i) (fun i => (fun b j => if b = 75 ∧ 60 * k ≤ j ∧ j < 60 * k + i then 0 else J0 b j)) (nx n) (fun i hi2 self => ?_) (fun self => ?_) fu (by omega)
            · have e0 : (fun b j => if b = 75 ∧ 60 * k ≤ j ∧ j < 60 * k + 0 then (0 : Int32) else J0 b j) = J0 := by
                funext b j
                rw [if_neg (by omega)]
              rw [e0] at this
              exact this
            · have ei := nx_nI (k := 60 * k + i) (by omega)
              unfold Rl_X11_sheet_65
              rw [if_neg, ix60, gd_pos ⟨by decide, nI_nn (by omega), by rw [ei]; omega⟩]
              · simp only [lt, wrN, ei]
                rw [show (1 : Int32) = nI 1 from rfl, nI_add]
                congr 1
                funext b j
                unfold upI
                by_cases z1 : b = 75
                · subst z1
                  by_cases z2 : j = 60 * k + i
                  · subst z2
                    rw [if_pos ⟨rfl, rfl⟩, if_pos (by omega)]
                  · rw [if_neg (by omega)]
                    by_cases z3 : 60 * k ≤ j ∧ j < 60 * k + i
                    · show (if 75 = 75 ∧ 60 * k ≤ j ∧ j < 60 * k + i then (0 : Int32) else J0 75 j) = _
                      rw [if_pos ⟨rfl, z3⟩, if_pos (by omega)]
                    · show (if 75 = 75 ∧ 60 * k ≤ j ∧ j < 60 * k + i then (0 : Int32) else J0 75 j) = _
                      rw [if_neg (by omega), if_neg (by omega)]
                · show (if _ then _ else if b = 75 ∧ 60 * k ≤ j ∧ j < 60 * k + i then (0 : Int32) else J0 b j) = _
                  rw [if_neg (by omega), if_neg (by omega), if_neg (by omega)]
              · rw [en, nI_le_iff (nx_bd _) (by omega)]; omega
            · unfold Rl_X11_sheet_65
              rw [if_pos (by rw [en, nI_le_iff (nx_bd _) (nx_bd _), ← en]; omega), m_refused]
              rfl
          refine ⟨1, J, upI (fun b j => if b = 75 ∧ 60 * k ≤ j ∧ j < 60 * k + nx n then 0 else upI (upI J 73 k n) 74 k y b j) 38 0 0, rfl, ?_, ?_⟩
          · rw [if_pos q1, if_pos q2, gd_pos (hi _ (by decide)), gd_pos (hi _ (by decide)), href, if_neg hl']
            unfold wrN
            rw [e]
          · have k0 : ∀ a j, a ≠ 38 → a ≠ 75 → a ≠ 73 → a ≠ 74 → upI (fun b j => if b = 75 ∧ 60 * k ≤ j ∧ j < 60 * k + nx n then 0 else upI (upI J 73 k n) 74 k y b j) 38 0 0 a j = J a j := fun a j z1 z2 z3 z4 => by
              rw [upI_row z1]
              show (if a = 75 ∧ _ then (0 : Int32) else _) = _
              rw [if_neg (fun z => z2 z.1), upI_row z4, upI_row z3]
            have kk : ∀ a j, a ≠ 38 → a ≠ 75 → upI (fun b j => if b = 75 ∧ 60 * k ≤ j ∧ j < 60 * k + nx n then 0 else upI (upI J 73 k n) 74 k y b j) 38 0 0 a j = upI (upI J 73 k n) 74 k y a j := fun a j z1 z2 => by
              rw [upI_row z1]
              show (if a = 75 ∧ _ then (0 : Int32) else _) = _
              rw [if_neg (fun z => z2 z.1)]
            have e73 : upI (fun b j => if b = 75 ∧ 60 * k ≤ j ∧ j < 60 * k + nx n then 0 else upI (upI J 73 k n) 74 k y b j) 38 0 0 73 k = n := by
              rw [kk _ _ (by decide) (by decide), upI_row (by decide), upI_at]
            have e74 : upI (fun b j => if b = 75 ∧ 60 * k ≤ j ∧ j < 60 * k + nx n then 0 else upI (upI J 73 k n) 74 k y b j) 38 0 0 74 k = y := by
              rw [kk _ _ (by decide) (by decide), upI_at]
            refine g.sheet hk (fun a j q _ => ?_) ?_ (Or.inr ⟨?_, ⟨?_, ?_⟩, ⟨?_, ?_⟩, fun b hb => ?_⟩)
            · by_cases z : a = 38
              · subst z
                rw [upI_cell (by omega)]
                show (if 38 = 75 ∧ _ then (0 : Int32) else _) = _
                rw [if_neg (by omega), upI_row (by decide), upI_row (by decide), j0 _ _ (by omega) (by omega), upI_row (by decide)]
              · by_cases z2 : a = 75
                · subst z2
                  rw [upI_row (by decide)]
                  show (if 75 = 75 ∧ _ then (0 : Int32) else _) = _
                  rw [if_neg (by omega), upI_row (by decide), upI_row (by decide), j0 _ _ (by omega) (by omega), upI_row (by decide)]
                · rw [kk a j z z2]
                  have : upI (upI J 73 k n) 74 k y a j = J a j := by
                    simp only [upI]
                    rw [if_neg (by omega), if_neg (by omega)]
                  rw [this, j0 _ _ (by omega) (by omega)]
                  simp only [upI]
                  rw [if_neg (by omega)]
            · rw [k0 _ _ (by decide) (by decide) (by decide) (by decide), upI_at, j0 _ _ (by omega) (by omega), upI_at]
            · rw [k0 _ _ (by omega) (by omega) (by omega) (by omega), j30, upI_cell (by decide), upI_cell (by decide), upI_at]
            · rw [e73]; exact ⟨en, hnl⟩
            · rw [k0 _ _ (by omega) (by omega) (by omega) (by omega), j30, upI_at, e73]
            · rw [e74]; exact ⟨ey, hyl⟩
            · rw [k0 _ _ (by omega) (by omega) (by omega) (by omega), j30, upI_cell (by decide), upI_at, e74]
            · rw [e73] at hb
              rw [k0 _ _ (by omega) (by omega) (by omega) (by omega), j31 b (by omega), upI_row (by decide)]
              exact (if_pos ⟨rfl, by omega, by omega⟩).symm
        · rw [if_neg q2]
          exact ⟨_, upI I 0 18 4, _, rfl, by rw [if_neg hl', if_pos q1, if_neg q2], g.fault 4⟩
      · rw [if_neg q1]
        exact ⟨_, upI I 0 18 0, _, rfl, by rw [if_neg hl', if_neg q1], g.fault 0⟩
