/-! hail, as, tell -/
theorem Inv.trace {D : Dn} {I : II} (g : Inv D I) (v : Int32) : Inv D (upI (upI I 0 17 v) 38 56 v) := by
  refine g.updRH (fun a k q _ => ?_) ?_ (g.2.2.2.2.2.2.2.2.co (fun a k q => ?_))
  · unfold wRH at q
    simp only [upI]
    rw [if_neg (by omega), if_neg (by omega)]
  · obtain ⟨r1, r2, r3, r4, r5, r6⟩ := g.2.2.2.2.2.2.2.1
    unfold GR nS at *
    simp only [upI]
    simp
    exact ⟨r1, r2, r3, r4, r6⟩
  · unfold rdH at q
    simp only [upI]
    rw [if_neg (by omega), if_neg (by omega)]
theorem x_leave (fu : Nat) (S : Sk) (I : II) (v : Int32) : Rf_X10_leave fu S I v = some (upI I 0 17 (31 * I 0 17 + v)) := rfl
theorem m_traced (fu : Nat) (S : Sk) (I : II) (v : Int32) : Rf_X11_traced fu S I v = some (upI I 38 56 (31 * I 38 56 + v)) := rfl
theorem noLine_co {I I1 : II} (h : I1 38 4 = I 38 4) (x : Int32) : t_X11_noLine I1 38 x = t_X11_noLine I 38 x := by unfold t_X11_noLine; rw [h]
theorem p_hail (fu : Nat) {D : Dn} {I : II} (g : Inv D I) (x : Int32) : ∃ r I1 I2, Rf_X10_hail fu (mkS D) I x = some (r, I1) ∧ Rf_X11_hail fu (mkS D) I1 x = some (r, I2) ∧ Inv D I2 := by
  have gL := g.2.2.1
  have hn : nL I ≤ 14 := gL.1.1.2
  have htr : I 0 17 = I 38 56 := g.2.2.2.2.2.2.2.1.2.2.2.2.1
  unfold Rf_X10_hail Rf_X11_hail Rj_X11_hail_26
  simp only [x_leave, m_traced, Option.bind_some]
  rcases line_cases fu gL x with ⟨h1, h2⟩ | ⟨l, hl, rfl, h1, h2⟩
  · exact ⟨-1, I, I, by rw [h1]; rfl, by rw [h2]; rfl, g⟩
  · obtain ⟨r, hX⟩ := gL.2.1 l hl
    obtain ⟨a1, a2, a3⟩ := hX.at
    have hk := nx_nI (k := l) (by omega)
    have hi : ∀ a, a ≠ 0 → inbL a 14 (nI l) := fun a ha => ⟨ha, nI_nn (by omega), by rw [hk]; omega⟩
    have e1 : I (la D l) 1 = I 41 l := hX.2.2.1.2.1
    have e0 : I (la D l) 0 = nI l := hX.2.2.1.1
    rw [h1]
    simp only [Option.bind_some, if_neg a1, a2, e1, rdN, hk]
    by_cases q : I 41 l = 2
    · refine ⟨90, upI I 0 17 (31 * I 0 17 + 5), upI (upI I 0 17 (31 * I 0 17 + 5)) 38 56 (31 * I 0 17 + 5), by rw [if_pos q], ?_, g.trace _⟩
      rw [noLine_co (by rw [upI_row (by decide)]), h2, if_pos rfl, gd_pos (hi _ (by decide)), upI_row (by decide), if_pos q, gd_pos (hi _ (by decide)), upI_row (by decide), upI_row (by decide), upI_row (by decide), if_pos q, htr]
    · refine ⟨nI l, upI I 0 17 (31 * I 0 17 + 4), upI (upI I 0 17 (31 * I 0 17 + 4)) 38 56 (31 * I 0 17 + 4), ?_, ?_, g.trace _⟩
      · rw [if_neg q, upI_row (by omega), e0]
      · rw [noLine_co (by rw [upI_row (by decide)]), h2, if_pos rfl, gd_pos (hi _ (by decide)), upI_row (by decide), if_neg q, gd_pos (hi _ (by decide)), upI_row (by decide), upI_row (by decide), upI_row (by decide), if_neg q, htr]
theorem p_as (fu : Nat) {D : Dn} {I : II} (g : Inv D I) (x y : Int32) : ∃ r I1 I2, Rf_X10_as fu (mkS D) I x y = some (r, I1) ∧ Rf_X11_as fu (mkS D) I1 x y = some (r, I2) ∧ Inv D I2 := by
  have gL := g.2.2.1
  have hn : nL I ≤ 14 := gL.1.1.2
  have hq : ∀ v : Int32, Rf_X2_lineAt fu (mkS D) (upI I 0 18 v) x = Rf_X2_lineAt fu (mkS D) I x := fun v => by
    unfold Rf_X2_lineAt
    rw [upI_row (by decide)]
  have ey : t_X11_in y.toInt64 0 2 = t_X10_isKind y := by unfold t_X10_isKind; exact w_in32 (lo := 0) (hi := 2)
  unfold Rf_X10_as Rf_X11_as
  simp only [lt, x_fail, m_failed, m_refused, Option.bind_some, upI_twice, hq, ey]
  have hnl : ∀ v : Int32, t_X11_noLine (upI I 0 18 v) 38 x = t_X11_noLine I 38 x := fun v => noLine_co (by rw [upI_row (by decide)]) x
  rcases line_cases fu gL x with ⟨h1, h2⟩ | ⟨l, hl, rfl, h1, h2⟩
  · refine ⟨-1, upI I 0 18 0, _, by rw [h1]; rfl, by rw [hnl, h2]; rfl, g.fault 0⟩
  · obtain ⟨r, hX⟩ := gL.2.1 l hl
    obtain ⟨a1, a2, a3⟩ := hX.at
    have hk := nx_nI (k := l) (by omega)
    have hi : ∀ a, a ≠ 0 → inbL a 14 (nI l) := fun a ha => ⟨ha, nI_nn (by omega), by rw [hk]; omega⟩
    have e1 : I (la D l) 1 = I 41 l := hX.2.2.1.2.1
    rw [h1]
    simp only [Option.bind_some, if_neg a1, a2, hnl, h2, if_true, rdN, hk]
    by_cases q : t_X10_isKind y = 0
    · exact ⟨-2, upI I 0 18 0, _, by rw [if_pos q], by rw [if_pos q, hnl, h2, if_pos rfl], g.fault 0⟩
    · rw [if_neg q, upI_row (by omega), e1]
      by_cases q2 : I 41 l < y
      · refine ⟨-12, upI I 0 18 2, _, by rw [if_pos q2]; rfl, ?_, g.fault 2⟩
        rw [if_neg q, gd_pos (hi _ (by decide)), upI_row (by decide), if_pos q2, hnl, h2, if_pos rfl]
        rfl
      · refine ⟨1, upI I 0 18 0, _, by rw [if_neg q2], ?_, g.fault 0⟩
        rw [if_neg q, gd_pos (hi _ (by decide)), upI_row (by decide), if_neg q2, hnl, h2, if_pos rfl]
theorem p_tell (fu : Nat) {D : Dn} {I : II} (g : Inv D I) (x : Int32) : ∃ r I1 I2, Rf_X10_tell fu (mkS D) I x = some (r, I1) ∧ Rf_X11_tell fu (mkS D) I1 x = some (r, I2) ∧ Inv D I2 := by
  have gL := g.2.2.1
  have hn : nL I ≤ 14 := gL.1.1.2
  have htr : I 0 17 = I 38 56 := g.2.2.2.2.2.2.2.1.2.2.2.2.1
  unfold Rf_X10_tell Rf_X11_tell Rf_X10_toldByNight Rf_X10_toldBySchool Rf_X10_toldByLine Rj_X11_tell_27 Rj_X11_tell_36 Rj_X11_tell_51 Rj_X11_tell_71
  simp only [x_leave, m_traced, Option.bind_some, lt, upI_twice, upI_at]
  rcases line_cases fu gL x with ⟨h1, h2⟩ | ⟨l, hl, rfl, h1, h2⟩
  · exact ⟨-1, I, I, by rw [h1]; rfl, by rw [h2]; rfl, g⟩
  · obtain ⟨r, hX⟩ := gL.2.1 l hl
    obtain ⟨a1, a2, a3⟩ := hX.at
    obtain ⟨n1, n2, n3, n4, n5⟩ := r.nums
    obtain ⟨b1, b2, b3, b4, b5, b6, b7⟩ := r.bds
    have hk := nx_nI (k := l) (by omega)
    have hi : ∀ a, a ≠ 0 → inbL a 14 (nI l) := fun a ha => ⟨ha, nI_nn (by omega), by rw [hk]; omega⟩
    have e1 : I (la D l) 1 = I 41 l := hX.2.2.1.2.1
    have e5 : I (la D l) 5 = I 42 l := hX.2.2.1.2.2.2.2.2.1
    have e2 : I (la D l) 2 = I 45 l := hX.2.2.1.2.2.1
    have hnl : ∀ v : Int32, t_X11_noLine (upI I 0 17 v) 38 (nI l) = 0 := fun v => (noLine_co (by rw [upI_row (by decide)]) _).trans h2
    have r0 : ∀ (v : Int32) (a k : Nat), a ≠ 0 → upI I 0 17 v a k = I a k := fun v a k h => by rw [upI_row h]
    have r38 : ∀ (u v : Int32) (a k : Nat), a ≠ 0 → a ≠ 38 → upI (upI I 0 17 u) 38 56 v a k = I a k := fun u v a k h h' => by rw [upI_row h', upI_row h]
    have g1 : ∀ {ρ : Type} (y : Option ρ), gd (D.1 5 l ≠ 0) y = y := fun y => gd_pos a1
    have g2 : ∀ {ρ : Type} (a : Nat) (y : Option ρ), a ≠ 0 → gd (inbL a 14 (nI l)) y = y := fun a y h => gd_pos (hi a h)
    rw [h1]
    simp only [Option.bind_some, if_neg a1, a2, g1, r0 _ (la D l) _ (by omega), e1, e5, e2]
    have hkind : I 41 l = 0 ∨ I 41 l = 1 ∨ I 41 l = 2 := by
      rw [n1]
      have : lK I l = 0 ∨ lK I l = 1 ∨ lK I l = 2 := by omega
      rcases this with h | h | h <;> rw [h]
      · exact Or.inl rfl
      · exact Or.inr (Or.inl rfl)
      · exact Or.inr (Or.inr rfl)
    rcases hkind with q | q | q
    · refine ⟨I 42 l, upI I 0 17 (31 * I 0 17 + 1), upI (upI I 0 17 (31 * I 0 17 + 1)) 38 56 (31 * I 0 17 + 1), ?_, ?_, g.trace _⟩
      · rw [q, if_neg (by decide), if_neg (by decide)]
      · simp only [hnl, if_true, rdN, hk, r0 _ 41 _ (by decide), q, r0 _ 38 _ (by decide), r38 _ _ 42 _ (by decide) (by decide), g2 42 _ (by decide), g2 43 _ (by decide)]
        simp [htr]
    · refine ⟨I 42 l + I 45 l, upI I 0 17 (31 * (31 * I 0 17 + 2) + 1), upI (upI I 0 17 (31 * (31 * I 0 17 + 2) + 1)) 38 56 (31 * (31 * I 0 17 + 2) + 1), ?_, ?_, g.trace _⟩
      · rw [q, if_pos rfl]
      · simp only [hnl, if_true, rdN, hk, r0 _ 41 _ (by decide), q, r0 _ 38 _ (by decide), r38 _ _ 42 _ (by decide) (by decide), r38 _ _ 45 _ (by decide) (by decide), g2 42 _ (by decide), g2 43 _ (by decide), g2 46 _ (by decide)]
        simp [htr]
    · refine ⟨I 42 l + I 45 l + I 42 l, upI I 0 17 (31 * (31 * (31 * (31 * I 0 17 + 3) + 2) + 1) + 1), upI (upI I 0 17 (31 * (31 * (31 * (31 * I 0 17 + 3) + 2) + 1) + 1)) 38 56 (31 * (31 * (31 * (31 * I 0 17 + 3) + 2) + 1) + 1), ?_, ?_, g.trace _⟩
      · rw [q, if_neg (by decide), if_pos rfl]
        simp only [upI_twice, upI_at, r0 _ (la D l) _ (by omega), e5]
      · simp only [hnl, if_true, rdN, hk, r0 _ 41 _ (by decide), q, r0 _ 38 _ (by decide), r38 _ _ 42 _ (by decide) (by decide), r38 _ _ 45 _ (by decide) (by decide), g2 42 _ (by decide), g2 43 _ (by decide), g2 46 _ (by decide)]
        simp [htr]
