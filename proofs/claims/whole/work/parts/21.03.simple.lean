/-! the calls that are soon told: seats, trace, fault, driver, runs, far, days .. -/
theorem p_seats (fu : Nat) {D : Dn} {I : II} (g : Inv D I) (x : Int32) : ∃ r I1 I2, Rf_X10_seats fu (mkS D) I x = some (r, I1) ∧ Rf_X11_seats fu (mkS D) I1 x = some (r, I2) ∧ Inv D I2 := by
  have e : t_X11_in x.toInt64 1 99 = t_X10_isWithin x 1 99 := w_in32 (lo := 1) (hi := 99)
  unfold Rf_X10_seats Rf_X11_seats
  rw [e]
  rcases within_cases x 1 99 with h | ⟨h, h1, h2⟩
  · exact ⟨_, _, _, by rw [if_pos h], by rw [if_pos h], g⟩
  · have h0 : ¬ x < 0 := le0 (Int32.le_trans (by decide) h1)
    have hx := nI_nx h0
    have hle := nx_le h0 (n := 99) (by decide) h2
    have h1' : 1 ≤ nx x := by
      rw [hx, show (1 : Int32) = nI 1 from rfl, nI_le_iff (by decide) (by omega)] at h1
      exact h1
    have gR := g.2.2.2.2.2.2.2.1
    refine ⟨I 0 15, upI I 0 15 x, upI (upI I 0 15 x) 38 51 x, by rw [if_neg (by rw [h]; decide)], ?_, ?_⟩
    · rw [if_neg (by rw [h]; decide)]
      have : upI I 0 15 x 38 51 = I 38 51 := by rw [upI_row (by decide)]
      simp only [lt, this, gR.2.2.2.1.2.2]
    · refine g.updRH (fun a k q _ => ?_) ?_ (g.2.2.2.2.2.2.2.2.co (fun a k q => ?_))
      · unfold wRH at q
        simp only [upI]
        rw [if_neg (by omega), if_neg (by omega)]
      · obtain ⟨r1, r2, r3, r4, r5, r6⟩ := gR
        unfold GR nS at *
        simp only [upI]
        simp
        exact ⟨r1, r2, r3, ⟨⟨hx, hle⟩, h1'⟩, r5, r6⟩
      · unfold rdH at q
        simp only [upI]
        rw [if_neg (by omega), if_neg (by omega)]
theorem p_trace {D : Dn} {I : II} (g : Inv D I) : t_X10_trace I 0 = t_X11_trace I 38 := g.2.2.2.2.2.2.2.1.2.2.2.2.1
theorem p_fault {D : Dn} {I : II} (g : Inv D I) : t_X10_fault I 0 = t_X11_fault I 38 := g.2.2.2.2.2.2.2.1.2.2.2.2.2
theorem i1ne : ¬ (1 : Int32) = 0 := by decide
theorem p_runs_aux (fu : Nat) {D : Dn} {I : II} {l : Nat} (hl : l < 14) (hX : XLn D I l) (d : Int32) : Rf_X11_doesRun fu (mkS D) I (nI l) d = some (t_X1_goesOn I (la D l) d) := by
  have hk : nx (nI l) = l := nx_nI (by omega)
  obtain ⟨-, -, ⟨x0, x1, x2, x3, x4, x5, x9, x10⟩, -⟩ := hX
  unfold Rf_X11_doesRun t_X1_goesOn rdN
  rw [gd_pos ⟨by decide, nI_nn (by omega), by rw [hk]; omega⟩, gd_pos ⟨by decide, nI_nn (by omega), by rw [hk]; omega⟩, gd_pos ⟨by decide, nI_nn (by omega), by rw [hk]; omega⟩, hk, w_in, x1, x9, x10]
  simp only [i64_le]
  by_cases h1 : I 48 l ≤ d
  · by_cases h2 : d ≤ I 49 l
    · have c : I 48 l ≤ d ∧ d ≤ I 49 l := ⟨h1, h2⟩
      simp only [if_pos c, if_neg (Int32.not_lt.mpr h1), if_neg (Int32.not_lt.mpr h2), if_neg i1ne]
      split
      · split <;> rfl
      · rfl
    · have c : ¬ (I 48 l ≤ d ∧ d ≤ I 49 l) := fun h => h2 h.2
      simp only [if_neg c, if_neg (Int32.not_lt.mpr h1), if_pos (Int32.not_le.mp h2), if_true]
  · have c : ¬ (I 48 l ≤ d ∧ d ≤ I 49 l) := fun h => h1 h.1
    simp only [if_neg c, if_pos (Int32.not_le.mp h1), if_true]
theorem p_runs (fu : Nat) {D : Dn} {I : II} (g : Inv D I) (x d : Int32) : ∃ r, Rf_X10_runs fu (mkS D) I x d = some r ∧ Rf_X11_runs fu (mkS D) I x d = some r := by
  have gL := g.2.2.1
  have hn : nL I ≤ 14 := gL.1.1.2
  unfold Rf_X10_runs Rf_X11_runs
  rw [day_eq]
  rcases line_cases fu gL x with ⟨h1, h2⟩ | ⟨l, hl, rfl, h1, h2⟩
  · rw [h1, h2]; exact ⟨_, rfl, rfl⟩
  · rw [h1, h2]
    obtain ⟨hR, hX⟩ := gL.2.1 l hl
    obtain ⟨a1, a2, a3⟩ := hX.at
    rw [p_runs_aux fu (by omega) hX]
    simp only [Option.bind_some, if_neg a1, a2]
    rcases day_cases d with h | ⟨d', -, -, h⟩
    · rw [h]; exact ⟨_, rfl, rfl⟩
    · rw [h]
      simp only [if_neg i1ne]
      split
      · exact ⟨_, rfl, rfl⟩
      · exact ⟨_, rfl, rfl⟩
