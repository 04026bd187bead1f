/-! put, cell -/
theorem holds_beyond (I : II) (a : Nat) (x : Int32) (n : Int64) : (t_X5_holds I a x n = 0 ∧ t_X11_isBeyond x n (I a 2) = 1) ∨ (t_X5_holds I a x n = 1 ∧ t_X11_isBeyond x n (I a 2) = 0 ∧ ¬ x < 0 ∧ ¬ n < 0 ∧ x.toInt64 + n ≤ (I a 2).toInt64) := by
  unfold t_X5_holds t_X11_isBeyond
  simp only [lg_cmp_lt, lg_cmp_gt, lg_cmp_le]
  by_cases h1 : x < 0
  · left; rw [if_pos h1, if_pos h1]; exact ⟨rfl, rfl⟩
  · rw [if_neg h1, if_neg h1]
    by_cases h2 : n < 0
    · left; rw [if_pos h2, if_pos h2]; exact ⟨rfl, rfl⟩
    · rw [if_neg h2, if_neg h2]
      by_cases h3 : x.toInt64 + n ≤ (I a 2).toInt64
      · right; rw [if_neg (Int64.not_lt.mpr h3), if_pos h3]; exact ⟨rfl, rfl, h1, h2, h3⟩
      · left; rw [if_pos (Int64.not_le.mp h3), if_neg h3]; exact ⟨rfl, rfl⟩
theorem i64_sum {x y : Int32} : (x.toInt64 + y.toInt64).toInt = x.toInt + y.toInt := by
  have h1 := Int32.toInt_lt x
  have h2 := Int32.toInt_lt y
  have h3 := Int32.le_toInt x
  have h4 := Int32.le_toInt y
  rw [Int64.toInt_add, Int32.toInt_toInt64, Int32.toInt_toInt64]
  exact Int.bmod_eq_of_le (by omega) (by omega)
/-- so many cells from a place on lie within a row of a length -/
theorem sum_le {x y : Int32} {n : Nat} (hn : n < 2147483648) (hx : ¬ x < 0) (hy : ¬ y < 0) : x.toInt64 + y.toInt64 ≤ (nI n).toInt64 ↔ nx x + nx y ≤ n := by
  rw [Int64.le_iff_toInt_le, i64_sum, Int32.toInt_toInt64, toInt_nI hn, nn32 hx, nn32 hy]
  omega
theorem holds1 {I : II} {a n : Nat} (hn : n ≤ 60) (e : I a 2 = nI n) (x : Int32) : (t_X5_holds I a x 1 = 0 ∧ (x < 0 ∨ nI n ≤ x)) ∨ ∃ i, i < n ∧ x = nI i ∧ t_X5_holds I a x 1 = 1 ∧ ¬ x < 0 ∧ ¬ nI n ≤ x := by
  rcases cnt_cases x (n := n) (by omega) with h | ⟨i, h1, h2, h3, h4⟩
  · left
    refine ⟨?_, h⟩
    rcases holds_beyond I a x 1 with ⟨q, -⟩ | ⟨-, -, q1, q2, q3⟩
    · exact q
    · exfalso
      rw [e, show (1 : Int64) = (1 : Int32).toInt64 from rfl, sum_le (by omega) q1 (by decide)] at q3
      have h1 : nx (1 : Int32) = 1 := by decide
      rcases h with h | h
      · exact q1 h
      · rw [nI_nx q1, nI_le_iff (by omega) (nx_bd x)] at h
        omega
  · right
    refine ⟨i, h1, h2, ?_, h3, h4⟩
    rcases holds_beyond I a x 1 with ⟨q, q2⟩ | ⟨q, -⟩
    · exfalso
      unfold t_X11_isBeyond at q2
      simp only [lg_cmp_lt, lg_cmp_le] at q2
      rw [if_neg h3, if_neg (by decide), if_pos] at q2
      · exact absurd q2 (by decide)
      · rw [e, show (1 : Int64) = (1 : Int32).toInt64 from rfl, sum_le (by omega) h3 (by decide), h2, nx_nI (by omega)]
        have h1 : nx (1 : Int32) = 1 := by decide
        omega
    · exact q
theorem ix60 {k i : Nat} : (60 : Int32) * nI k + nI i = nI (60 * k + i) := by
  rw [show (60 : Int32) = nI 60 from rfl, nI_mul, nI_add]
theorem nonneg_nI {n : Nat} (h : n < 2147483648) : (0 : Int32) ≤ nI n := by
  rw [show (0 : Int32) = nI 0 from rfl, nI_le_iff (by decide) h]; omega
theorem m_noCell (fu : Nat) {D : Dn} {I : II} {k : Nat} (hk : k < 4) (x : Int32) : Rf_X11_noCell fu (mkS D) I (nI k) x = some (if 0 ≤ I 73 k then if t_X11_in x.toInt64 0 ((I 73 k).toInt64 - 1) = 0 then 3 else 0 else 1) := by
  have e := nx_nI (k := k) (by omega)
  unfold Rf_X11_noCell rdN
  rw [gd_pos ⟨by decide, nI_nn (by omega), by rw [e]; omega⟩, e]
  split
  · split <;> rfl
  · rfl
theorem p_put (fu : Nat) {D : Dn} {I : II} (g : Inv D I) (x i v : Int32) : ∃ r I1 I2, Rf_X10_put fu (mkS D) I x i v = some (r, I1) ∧ Rf_X11_put fu (mkS D) I1 x i v = some (r, I2) ∧ Inv D I2 := by
  unfold Rf_X10_put Rf_X11_put Rj_X11_put_73
  simp only [lt, x_fail, m_failed, m_refused, Option.bind_some, upI_twice]
  rcases sheet_cases x with ⟨h1, h2⟩ | ⟨k, hk, rfl, h1, h2⟩
  · exact ⟨_, _, _, by rw [if_pos h1], by rw [h2, if_neg (by decide)], g.fault 0⟩
  · have e := nx_nI (k := k) (by omega)
    obtain ⟨p1, p2, p3⟩ := mk_sheet (D := D) hk
    have hi : ∀ a, a ≠ 0 → inbL a 4 (nI k) := fun a ha => ⟨ha, nI_nn (by omega), by rw [e]; omega⟩
    simp only [h1, h2, e, p1, m_noCell fu hk, Option.bind_some]
    rw [if_neg (by decide), gd_pos (hi _ (by decide)), gd_pos (by omega), show 31 + 2 * k - 1 = 30 + 2 * k by omega, upI_row (by omega), p2]
    simp only [if_true]
    have hfl := g.2.2.2.2.2.2.2.1.2.2.2.2.2
    rcases g.2.2.2.2.2.2.2.2 k hk with ⟨y1, y2⟩ | ⟨y1, ⟨y2, y3⟩, ⟨y4, y5⟩, y6⟩
    · refine ⟨-11, upI I 0 18 1, _, by rw [if_pos y1]; rfl, ?_, g.fault 1⟩
      have c : ¬ ((0 : Int32) ≤ -1) := by decide
      rw [upI_row (by decide), y2]
      simp only [if_neg c]
      rw [if_neg (by decide)]
      rfl
    · rw [if_neg (by rw [y1]; decide)]
      have hn := y2.2
      have e0 : upI I 0 18 0 (30 + 2 * k) 2 = nI (nx (I 73 k)) := by rw [upI_row (by omega), y3]; exact y2.1
      rcases holds1 hn e0 i with ⟨q1, q2⟩ | ⟨j, hj, rfl, q1, q2, q3⟩
      · refine ⟨-13, upI I 0 18 3, _, by rw [if_pos q1]; rfl, ?_, g.fault 3⟩
        rw [upI_row (by decide), y2.1, if_pos (nonneg_nI (nx_bd _)), w_up_no (nx_bd _) q2, if_pos rfl, if_neg (by decide)]
        rfl
      · have ej := nx_nI (k := j) (by omega)
        have e60 := nx_nI (k := 60 * k + j) (by omega)
        have hcut : t_X5_cut (upI I 0 18 0) (30 + 2 * k) v = if I 74 k = 0 then v.toInt8.toInt32 else if I 74 k = 1 then v.toInt16.toInt32 else v := by
          unfold t_X5_cut
          rw [upI_row (by omega), y5]
        rw [if_neg (by rw [q1]; decide), hcut]
        generalize hw : (if I 74 k = 0 then v.toInt8.toInt32 else if I 74 k = 1 then v.toInt16.toInt32 else v) = w
        refine ⟨1, upI (upI I 0 18 0) (31 + 2 * k) j w, upI (upI (upI (upI I 0 18 0) (31 + 2 * k) j w) 75 (60 * k + j) w) 38 0 0, ?_, ?_, ?_⟩
        · rw [gd_pos ⟨by omega, nI_nn (by omega), by rw [ej, show 32 + 2 * k - 1 = 31 + 2 * k by omega, p3]; omega⟩]
          unfold wr
          rw [ej, show 32 + 2 * k - 1 = 31 + 2 * k by omega]
        · rw [upI_row (by omega), upI_row (by decide), y2.1, if_pos (nonneg_nI (nx_bd _)), w_up_yes (nx_bd _) q2 q3, if_neg i1ne, if_pos (Int32.le_refl 0), gd_pos (hi _ (by decide))]
          unfold rdN
          rw [e, upI_row (by omega), upI_row (by decide), ix60]
          have hw2 : ∀ u, gd (inb (mkS D) 76 (nI (60 * k + j))) (some ((1 : Int32), upI (wr (upI (upI I 0 18 0) (31 + 2 * k) j w) 76 (nI (60 * k + j)) u) 38 0 0)) = some (1, upI (upI (upI (upI I 0 18 0) (31 + 2 * k) j w) 75 (60 * k + j) u) 38 0 0) := by
            intro u
            rw [gd_pos ⟨by decide, nI_nn (by omega), by rw [e60]; show 60 * k + j < 240; omega⟩]
            unfold wr
            rw [e60]
          simp only [hw2]
          rw [← hw]
          split
          · rfl
          · split <;> rfl
        · refine g.sheet hk (fun a b q _ => ?_) ?_ (Or.inr ⟨?_, ⟨?_, ?_⟩, ⟨?_, ?_⟩, fun b hb => ?_⟩)
          · simp only [upI]
            rw [if_neg (by omega), if_neg (by omega), if_neg (by omega), if_neg (by omega)]
          · rw [upI_row (by decide), upI_row (by decide), upI_row (by omega), upI_at, upI_at]
          · rw [upI_row (by omega), upI_row (by omega), upI_row (by omega), upI_row (by omega)]; exact y1
          · rw [upI_row (by decide), upI_row (by decide), upI_row (by omega), upI_row (by decide)]; exact y2
          · rw [upI_row (by omega), upI_row (by omega), upI_row (by omega), upI_row (by omega), upI_row (by decide), upI_row (by decide), upI_row (by omega), upI_row (by decide)]; exact y3
          · rw [upI_row (by decide), upI_row (by decide), upI_row (by omega), upI_row (by decide)]; exact y4
          · rw [upI_row (by omega), upI_row (by omega), upI_row (by omega), upI_row (by omega), upI_row (by decide), upI_row (by decide), upI_row (by omega), upI_row (by decide)]; exact y5
          · have e73 : upI (upI (upI (upI I 0 18 0) (31 + 2 * k) j w) 75 (60 * k + j) w) 38 0 0 73 k = I 73 k := by rw [upI_row (by decide), upI_row (by decide), upI_row (by omega), upI_row (by decide)]
            rw [e73] at hb
            by_cases hbj : b = j
            · subst hbj
              have L : upI (upI (upI (upI I 0 18 0) (31 + 2 * k) b w) 75 (60 * k + b) w) 38 0 0 (31 + 2 * k) b = w := by rw [upI_row (by omega), upI_row (by omega), upI_at]
              have R : upI (upI (upI (upI I 0 18 0) (31 + 2 * k) b w) 75 (60 * k + b) w) 38 0 0 75 (60 * k + b) = w := by rw [upI_row (by decide), upI_at]
              rw [L, R]
            · have L : upI (upI (upI (upI I 0 18 0) (31 + 2 * k) j w) 75 (60 * k + j) w) 38 0 0 (31 + 2 * k) b = I (31 + 2 * k) b := by rw [upI_row (by omega), upI_row (by omega), upI_cell hbj, upI_row (by omega)]
              have R : upI (upI (upI (upI I 0 18 0) (31 + 2 * k) j w) 75 (60 * k + j) w) 38 0 0 75 (60 * k + b) = I 75 (60 * k + b) := by rw [upI_row (by decide), upI_cell (by omega), upI_row (by omega), upI_row (by decide)]
              rw [L, R]
              exact y6 b hb
