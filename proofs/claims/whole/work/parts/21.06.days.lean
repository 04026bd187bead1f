/-! days, waiting: a line's own cells change -/
/-- the lines when one cell of a line and its twin have changed -/
theorem GL.other {D : Dn} {I : II} (g : GL D I) {j l : Nat} (hj : j < nL I) (hl : l < nL I) (h : j ≠ l) : la D j + 4 ≤ la D l ∨ la D l + 4 ≤ la D j := by
  rcases Nat.lt_or_gt_of_ne h with q | q
  · exact Or.inl (g.2.2.1 j l q hl)
  · exact Or.inr (g.2.2.1 l j q hj)
theorem GL.days {D : Dn} {I I' : II} (g : GL D I) {l : Nat} (hl : l < nL I) {f t : Int32} (hf : isN f 59) (ht : isN t 59) (e1 : I' 48 l = f) (e2 : I' 49 l = t) (e3 : I' (la D l) 9 = f) (e4 : I' (la D l) 10 = t)
    (h : ∀ a k, ¬ ((a = 48 ∧ k = l) ∨ (a = 49 ∧ k = l) ∨ (a = la D l ∧ (k = 9 ∨ k = 10))) → I' a k = I a k) : GL D I' := by
  have hA : 77 ≤ la D l := ((g.2.1 l hl).2).at.2.2
  have c1 : I' 38 1 = I 38 1 := h _ _ (by omega)
  have c2 : I' 38 4 = I 38 4 := h _ _ (by omega)
  have c3 : I' 1 5 = I 1 5 := h _ _ (by omega)
  have e41 : ∀ k, I' 41 k = I 41 k := fun k => h _ _ (by omega)
  have e42 : ∀ k, I' 42 k = I 42 k := fun k => h _ _ (by omega)
  have e43 : ∀ k, I' 43 k = I 43 k := fun k => h _ _ (by omega)
  have e44 : ∀ k, I' 44 k = I 44 k := fun k => h _ _ (by omega)
  have e45 : ∀ k, I' 45 k = I 45 k := fun k => h _ _ (by omega)
  have e46 : ∀ k, I' 46 k = I 46 k := fun k => h _ _ (by omega)
  have e47 : ∀ k, I' 47 k = I 47 k := fun k => h _ _ (by omega)
  have e50 : ∀ k, I' 50 k = I 50 k := fun k => h _ _ (by omega)
  have hn : nL I' = nL I := by unfold nL; rw [c2]
  have go := fun {j : Nat} (hj : j < nL I) (q : j ≠ l) => g.other hj hl q
  obtain ⟨g1, g2, g3, g4, g5⟩ := g
  refine ⟨by rw [c2, c3]; exact g1, fun j hj => ?_, by rw [hn]; exact g3, fun j h1 h2 => ?_, by rw [hn]; simp only [e50]; exact g5⟩
  · rw [hn] at hj
    obtain ⟨r, x⟩ := g2 j hj
    have hAj := x.at.2.2
    by_cases q : j = l
    · subst q
      obtain ⟨⟨r1, r2, r3, r4, r5, r6, r7, r8, r9, r10⟩, r11, r12⟩ := r
      obtain ⟨x1, x2, ⟨y0, y1, y2, y3, y4, y5, y9, y10⟩, x4⟩ := x
      refine ⟨?_, ?_⟩
      · unfold RLn lZ lE lF lL lS lO nS at *
        simp only [c1, e41, e42, e43, e44, e45, e46, e47, e50, e1, e2]
        exact ⟨⟨r1, r2, r3, r4, r5, r6, r7, r8, hf, ht⟩, r11, r12⟩
      · unfold XLn lZ at *
        have d1 : ∀ k, I' (la D j + 1) k = I (la D j + 1) k := fun k => h _ _ (by omega)
        have d2 : ∀ k, I' (la D j + 2) k = I (la D j + 2) k := fun k => h _ _ (by omega)
        have d3 : ∀ k, I' (la D j + 3) k = I (la D j + 3) k := fun k => h _ _ (by omega)
        have d0 : ∀ k, k ≠ 9 → k ≠ 10 → I' (la D j) k = I (la D j) k := fun k h1 h2 => h _ _ (by omega)
        simp only [e41, e42, e43, e44, e45, e46, e47, e50, e1, e2, e3, e4, d1, d2, d3, d0 0 (by decide) (by decide), d0 1 (by decide) (by decide), d0 2 (by decide) (by decide), d0 3 (by decide) (by decide), d0 4 (by decide) (by decide), d0 5 (by decide) (by decide)]
        exact ⟨x1, x2, ⟨y0, y1, y2, y3, y4, y5, trivial, trivial⟩, x4⟩
    · have hap := go hj q
      have e48 : I' 48 j = I 48 j := h _ _ (by omega)
      have e49 : I' 49 j = I 49 j := h _ _ (by omega)
      have d0 : ∀ k, I' (la D j) k = I (la D j) k := fun k => h _ _ (by omega)
      have d1 : ∀ k, I' (la D j + 1) k = I (la D j + 1) k := fun k => h _ _ (by omega)
      have d2 : ∀ k, I' (la D j + 2) k = I (la D j + 2) k := fun k => h _ _ (by omega)
      have d3 : ∀ k, I' (la D j + 3) k = I (la D j + 3) k := fun k => h _ _ (by omega)
      refine ⟨?_, ?_⟩
      · unfold RLn lZ lE lF lL lS lO nS at *
        simp only [c1, e41, e42, e43, e44, e45, e46, e47, e50, e48, e49]
        exact r
      · unfold XLn lZ at *
        simp only [e41, e42, e43, e44, e45, e46, e47, e50, e48, e49, d0, d1, d2, d3]
        exact x
  · rw [hn] at h1
    rw [h 48 j (by omega)]
    exact g4 j h1 h2
theorem Inv.days {D : Dn} {I I' : II} (g : Inv D I) {l : Nat} (hl : l < nL I) {f t : Int32} (hf : isN f 59) (ht : isN t 59) (e1 : I' 48 l = f) (e2 : I' 49 l = t) (e3 : I' (la D l) 9 = f) (e4 : I' (la D l) 10 = t)
    (h : ∀ a k, ¬ ((a = 48 ∧ k = l) ∨ (a = 49 ∧ k = l) ∨ (a = la D l ∧ (k = 9 ∨ k = 10))) → I' a k = I a k) : Inv D I' := by
  obtain ⟨g0, g1, g2, g3, g4, g5, g6, g7, g8⟩ := g
  have hX := (g2.2.1 l hl).2
  have hA : 77 ≤ la D l := hX.at.2.2
  have htag : D.2.1 (la D l) = 1 := hX.1.2.2.1
  refine ⟨g0, g1.co (fun a k q => h a k ?_), g2.days hl hf ht e1 e2 e3 e4 h, g3.co (fun a k q => h a k ?_), g4.co (fun a k q => h a k ?_), g5.co (fun a k q => h a k ?_), g6.co (fun a k q => h a k ?_), g7.co (fun a k q => h a k ?_), g8.co (fun a k q => h a k ?_)⟩
  · unfold rdS at q; omega
  · unfold rdT at q
    rintro (z | z | ⟨rfl, z⟩)
    · omega
    · omega
    · omega
  · unfold rdP at q
    rintro (z | z | ⟨rfl, z⟩)
    · omega
    · omega
    · omega
  · unfold rdO at q; omega
  · unfold rdD at q
    rintro (z | z | ⟨rfl, z⟩)
    · omega
    · omega
    · omega
  · unfold rdR at q; omega
  · unfold rdH at q; omega
theorem isDay0 {t : Int32} (h : t_X10_isDay t = 0) {f : Nat} (hf : f ≤ 59) : ¬ (nI f ≤ t ∧ t ≤ 59) := by
  unfold t_X10_isDay at h
  rw [w_within] at h
  rintro ⟨h1, h2⟩
  rw [if_pos ⟨Int32.le_trans (by rw [show (0 : Int32) = nI 0 from rfl, nI_le_iff (by decide) (by omega)]; omega) h1, h2⟩] at h
  exact absurd h (by decide)
theorem p_days (fu : Nat) {D : Dn} {I : II} (g : Inv D I) (x f t : Int32) : ∃ r I1 I2, Rf_X10_days fu (mkS D) I x f t = some (r, I1) ∧ Rf_X11_days fu (mkS D) I1 x f t = some (r, I2) ∧ Inv D I2 := by
  have gL := g.2.2.1
  have hn : nL I ≤ 14 := gL.1.1.2
  have hfix : ∀ I1 : II, I1 38 4 = I 38 4 → t_X11_noLine I1 38 x = t_X11_noLine I 38 x := fun I1 h => by unfold t_X11_noLine; rw [h]
  unfold Rf_X10_days Rf_X11_days
  simp only [day_eq]
  rcases line_cases fu gL x with ⟨h1, h2⟩ | ⟨l, hl, rfl, h1, h2⟩
  · refine ⟨-1, I, I, by rw [h1]; rfl, by rw [h2]; rfl, g⟩
  · obtain ⟨r, hX⟩ := gL.2.1 l hl
    obtain ⟨a1, a2, a3⟩ := hX.at
    have hk := nx_nI (k := l) (by omega)
    have hi : ∀ a, a ≠ 0 → inbL a 14 (nI l) := fun a ha => ⟨ha, nI_nn (by omega), by rw [hk]; omega⟩
    rw [h1]
    simp only [Option.bind_some, if_neg a1, a2]
    rcases day_cases f with h | ⟨f', hf', rfl, h⟩
    · refine ⟨-2, I, I, by rw [if_pos h], by rw [h2, if_pos rfl, if_pos h], g⟩
    · have hf0 : isN (nI f') 59 := isN_nI hf' (by decide)
      rw [if_neg (by rw [h]; decide)]
      rw [show t_X11_in t.toInt64 (nI f').toInt64 59 = t_X10_isWithin t (nI f') 59 from w_in32 (lo := nI f') (hi := 59), w_within]
      rcases day_cases t with h3 | ⟨t', ht', rfl, h3⟩
      · refine ⟨-2, I, I, by rw [if_pos h3], ?_, g⟩
        rw [h2, if_pos rfl, if_neg (by rw [h]; decide), if_neg (isDay0 h3 hf'), if_pos rfl]
      · rw [if_neg (by rw [h3]; decide)]
        by_cases q : nI f' ≤ nI t'
        · have hle : nI t' ≤ (59 : Int32) := by rw [show (59 : Int32) = nI 59 from rfl, nI_le_iff (by omega) (by decide)]; exact ht'
          have ht0 : isN (nI t') 59 := isN_nI ht' (by decide)
          rw [if_pos q]
          have e9 : I (la D l) 9 = I 48 l := hX.2.2.1.2.2.2.2.2.2.1
          have e10 : I (la D l) 10 = I 49 l := hX.2.2.1.2.2.2.2.2.2.2
          -- the reference's two writes
          have href : ∀ I1 : II, I1 38 4 = I 38 4 → I1 48 l = I 48 l → I1 49 l = I 49 l → (if t_X11_noLine I1 38 (nI l) = 0 then if t_X10_isDay (nI f') = 0 then some (((-2) : Int32), I1) else if (if nI f' ≤ nI t' ∧ nI t' ≤ 59 then (1 : Int32) else 0) = 0 then some (((-2) : Int32), I1) else gd (inbL 49 14 (nI l)) (if (rdN I1 48 (nI l)) = nI f' then gd (inbL 50 14 (nI l)) (if (rdN I1 49 (nI l)) = nI t' then Rj_X11_days_58 fu (mkS D) I1 (nI l) (nI f') (nI t') (1 : Int32) else Rj_X11_days_57 fu (mkS D) I1 (nI l) (nI f') (nI t')) else Rj_X11_days_57 fu (mkS D) I1 (nI l) (nI f') (nI t')) else some (((-1) : Int32), I1)) = some (if I 48 l = nI f' ∧ I 49 l = nI t' then 0 else 1, upI (upI I1 48 l (nI f')) 49 l (nI t')) := by
            intro I1 z1 z2 z3
            have c : nI f' ≤ nI t' ∧ nI t' ≤ 59 := ⟨q, hle⟩
            rw [hfix I1 z1, h2, if_pos rfl, if_neg (by rw [h]; decide), if_pos c, if_neg i1ne, gd_pos (hi _ (by decide))]
            unfold Rj_X11_days_57 Rj_X11_days_58 rdN wrN
            simp only [hk, z2, z3, lt]
            rw [gd_pos (hi _ (by decide)), gd_pos (hi _ (by decide)), gd_pos (hi _ (by decide))]
            by_cases y1 : I 48 l = nI f'
            · by_cases y2 : I 49 l = nI t'
              · have c : I 48 l = nI f' ∧ I 49 l = nI t' := ⟨y1, y2⟩
                rw [if_pos y1, if_pos y2, if_pos c, if_neg i1ne]
              · have c : ¬ (I 48 l = nI f' ∧ I 49 l = nI t') := fun z => y2 z.2
                rw [if_pos y1, if_neg y2, if_neg c, gd_pos (hi _ (by decide)), gd_pos (hi _ (by decide)), if_pos trivial]
            · have c : ¬ (I 48 l = nI f' ∧ I 49 l = nI t') := fun z => y1 z.1
              rw [if_neg y1, if_neg c, gd_pos (hi _ (by decide)), gd_pos (hi _ (by decide)), if_pos trivial]
          by_cases y : I 48 l = nI f' ∧ I 49 l = nI t'
          · refine ⟨0, I, upI (upI I 48 l (nI f')) 49 l (nI t'), ?_, ?_, ?_⟩
            · rw [e9, e10, if_pos y.1, if_pos y.2]
            · rw [href I rfl rfl rfl, if_pos y]
            · refine g.days hl hf0 ht0 ?_ ?_ ?_ ?_ (fun a k z => ?_)
              · rw [upI_row (by decide), upI_at]
              · rw [upI_at]
              · rw [upI_row (by omega), upI_row (by omega), e9, y.1]
              · rw [upI_row (by omega), upI_row (by omega), e10, y.2]
              · simp only [upI]
                rw [if_neg (by omega), if_neg (by omega)]
          · have hj : Rj_X10_days_59 fu (mkS D) I (nI f') (nI t') (D.1 5 l) = some (1, upI (upI I (la D l) 9 (nI f')) (la D l) 10 (nI t')) := by
              unfold Rj_X10_days_59
              rw [gd_pos a1, a2]
            refine ⟨1, upI (upI I (la D l) 9 (nI f')) (la D l) 10 (nI t'), upI (upI (upI (upI I (la D l) 9 (nI f')) (la D l) 10 (nI t')) 48 l (nI f')) 49 l (nI t'), ?_, ?_, ?_⟩
            · rw [hj, e9, e10]
              by_cases y1 : I 48 l = nI f'
              · rw [if_pos y1, if_neg (fun z => y ⟨y1, z⟩)]
              · rw [if_neg y1]
            · rw [href _ (by rw [upI_row (by omega), upI_row (by omega)]) (by rw [upI_row (by omega), upI_row (by omega)]) (by rw [upI_row (by omega), upI_row (by omega)]), if_neg y]
            · refine g.days hl hf0 ht0 ?_ ?_ ?_ ?_ (fun a k z => ?_)
              · rw [upI_row (by decide), upI_at]
              · rw [upI_at]
              · rw [upI_row (by omega), upI_row (by omega), upI_cell (by decide), upI_at]
              · rw [upI_row (by omega), upI_row (by omega), upI_at]
              · simp only [upI]
                rw [if_neg (by omega), if_neg (by omega), if_neg (by omega), if_neg (by omega)]
        · refine ⟨-2, I, I, by rw [if_neg q], ?_, g⟩
          have c : ¬ (nI f' ≤ nI t' ∧ nI t' ≤ 59) := fun z => q z.1
          rw [h2, if_pos rfl, if_neg (by rw [h]; decide), if_neg c, if_pos rfl]
