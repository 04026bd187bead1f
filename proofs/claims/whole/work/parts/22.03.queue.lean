/-! ofLine, waiting, standing, extra -/
theorem i64_nadd {a b : Nat} (h : a + b < 2147483648) : (nI a).toInt64 + (nI b).toInt64 = (nI (a + b)).toInt64 := by
  apply Int64.toInt_inj.mp
  rw [i64_sum, Int32.toInt_toInt64, toInt_nI (by omega), toInt_nI (by omega), toInt_nI h]
  omega
theorem i64_nsub {a b : Nat} (ha : a < 2147483648) (h : b ≤ a) : (nI a).toInt64 - (nI b).toInt64 = (nI (a - b)).toInt64 := by
  have := i64_nadd (a := a - b) (b := b) (by omega)
  rw [Nat.sub_add_cancel h] at this
  rw [← this, Int64.add_sub_cancel]
theorem p_ofLine (fu : Nat) {D : Dn} {I : II} (g : Inv D I) (x y : Int32) : ∃ r, Rf_X10_ofLine fu (mkS D) I x y = some r ∧ Rf_X11_ofLine fu (mkS D) I x y = some r := by
  have gL := g.2.2.1
  have hn : nL I ≤ 14 := gL.1.1.2
  unfold Rf_X10_ofLine Rf_X11_ofLine
  rcases line_cases fu gL x with ⟨h1, h2⟩ | ⟨l, hl, rfl, h1, h2⟩
  · rw [h1, h2]; exact ⟨_, rfl, rfl⟩
  · rw [h1, h2]
    obtain ⟨r, hX⟩ := gL.2.1 l hl
    obtain ⟨a1, a2, a3⟩ := hX.at
    have hk := nx_nI (k := l) (by omega)
    obtain ⟨e1, e2, e3, e4, e5⟩ := r.nums
    obtain ⟨b1, b2, b3, b4, b5, b6, b7⟩ := r.bds
    obtain ⟨-, -, p5, p6, -⟩ := x_after D hX
    have xk := hX.2.2.2
    obtain ⟨x0, x1, x2, x3, x4, x5, x9, x10⟩ := hX.2.2.1
    have g14 : ∀ {ρ : Type} (a : Nat) (y : Option ρ), a ≠ 0 → gd (inbL a 14 (nI l)) y = y := fun a y h => gd_pos ⟨h, nI_nn (by omega), by rw [hk]; omega⟩
    simp only [Option.bind_some, if_neg a1, a2, if_true, rdN, hk, g14 42 _ (by decide), g14 43 _ (by decide), g14 46 _ (by decide), g14 47 _ (by decide), g14 48 _ (by decide), g14 49 _ (by decide), g14 50 _ (by decide), x_round fu r hX, m_round fu (show l < 14 by omega) r, x_buses fu r hX, m_buses fu (show l < 14 by omega) r]
    refine ite_pair (fun _ => ⟨_, rfl, by rw [x1]⟩) (fun _ => ?_)
    refine ite_pair (fun _ => ⟨_, rfl, by rw [x5]⟩) (fun _ => ?_)
    refine ite_pair (fun _ => ⟨_, rfl, by rw [x2]⟩) (fun _ => ?_)
    refine ite_pair (fun _ => ⟨_, rfl, by rw [x3]⟩) (fun _ => ?_)
    refine ite_pair (fun _ => ⟨_, rfl, by rw [x4]⟩) (fun _ => ?_)
    refine ite_pair (fun _ => ⟨_, rfl, by rw [x9]⟩) (fun _ => ?_)
    refine ite_pair (fun _ => ⟨_, rfl, by rw [x10]⟩) (fun _ => ?_)
    refine ite_pair (fun _ => ⟨_, rfl, rfl⟩) (fun _ => ?_)
    refine ite_pair (fun _ => ⟨_, rfl, rfl⟩) (fun _ => ?_)
    have ew : t_X11_in y.toInt64 10 (9 + (I 42 l).toInt64) = t_X10_isWithin y (nI 10) (nI (9 + lZ I l)) := by
      rw [e2, show (9 : Int64) = (nI 9).toInt64 from rfl, i64_nadd (by omega), show (10 : Int64) = (nI 10).toInt64 from rfl]
      exact w_in32 (lo := nI 10) (hi := nI (9 + lZ I l))
    rw [ew, w_within]
    by_cases q : y < 10
    · have c : ¬ (nI 10 ≤ y ∧ y ≤ nI (9 + lZ I l)) := fun h => absurd q (Int32.not_lt.mpr h.1)
      rw [if_pos q, if_neg c, if_pos rfl]
      exact ⟨_, rfl, rfl⟩
    · have hy0 : ¬ y < 0 := fun h => q (Int32.lt_trans h (by decide))
      have ey := nI_nx hy0
      have h10 : 10 ≤ nx y := by
        have : nI 10 ≤ y := Int32.not_lt.mp q
        rw [ey, nI_le_iff (by decide) (nx_bd y)] at this
        exact this
      obtain ⟨k, hk2⟩ : ∃ k, nx y = 10 + k := ⟨nx y - 10, by omega⟩
      have hyb := nx_bd y
      rw [if_neg q, ey, hk2]
      have e10 : nI (10 + k) - 10 = nI k := by
        rw [show (10 : Int32) = nI 10 from rfl, nI_sub (by omega), Nat.add_sub_cancel_left]
      have e8 : (8 : Int32) * nI l + nI (10 + k) - 10 = nI (8 * l + k) := by
        rw [ix8, show (10 : Int32) = nI 10 from rfl, nI_sub (by omega)]
        congr 1
        omega
      rw [e10, e8]
      have hx5 : I (la D l) 5 = nI (lZ I l) := x5.trans e2
      rcases place_cases b3 hx5 (nI k) with ⟨h3, h4⟩ | ⟨k', hk', ek, h3, h4, h5⟩
      · have c : ¬ (nI 10 ≤ nI (10 + k) ∧ nI (10 + k) ≤ nI (9 + lZ I l)) := by
          rintro ⟨-, h⟩
          rw [nI_le_iff (by omega) (by omega)] at h
          rcases h4 with h4 | h4
          · exact nI_nn (by omega) h4
          · rw [nI_le_iff (by omega) (by omega)] at h4
            omega
        rw [h3, if_pos rfl, if_neg c, if_pos rfl]
        exact ⟨_, rfl, rfl⟩
      · have hkk : k = k' := (nI_eq_iff (by omega) (by omega)).mp ek
        subst hkk
        have c : nI 10 ≤ nI (10 + k) ∧ nI (10 + k) ≤ nI (9 + lZ I l) := by
          rw [nI_le_iff (by omega) (by omega), nI_le_iff (by omega) (by omega)]
          omega
        have k1 := nx_nI (k := k) (by omega)
        have k2 := nx_nI (k := 8 * l + k) (by omega)
        rw [h3, if_neg i1ne, if_pos c, if_neg i1ne, gd_pos ⟨by rw [p5]; omega, nI_nn (by omega), by rw [p5, p6, k1]; omega⟩, gd_pos ⟨by decide, nI_nn (by omega), by rw [k2]; omega⟩]
        refine ⟨_, rfl, ?_⟩
        unfold rd
        rw [p5, k1, k2, show la D l + 2 - 1 = la D l + 1 from rfl, (xk k hk').1]
theorem leave_cases {I : II} {a : Nat} {z : Nat} (hz2 : 2 ≤ z) (hz : z ≤ 8) (e : I a 5 = nI z) (x : Int32) : (t_X1_leavesFrom I a x = 0 ∧ t_X11_in x.toInt64 0 ((nI z).toInt64 - 2) = 0) ∨ ∃ k, k < z - 1 ∧ x = nI k ∧ t_X1_leavesFrom I a x = 1 ∧ t_X11_in x.toInt64 0 ((nI z).toInt64 - 2) = 1 := by
  have e1 : (nI z).toInt64 - 2 = (nI (z - 1)).toInt64 - 1 := by
    rw [show (2 : Int64) = (nI 2).toInt64 from rfl, i64_nsub (by omega) hz2, show (1 : Int64) = (nI 1).toInt64 from rfl, i64_nsub (by omega) (by omega)]
    congr 2
  have e2 : nI z - 1 = nI (z - 1) := by rw [show (1 : Int32) = nI 1 from rfl, nI_sub (by omega)]
  unfold t_X1_leavesFrom
  rw [e, e1, e2]
  rcases cnt_cases x (n := z - 1) (by omega) with h | ⟨k, h1, h2, h3, h4⟩
  · left
    refine ⟨?_, w_up_no (by omega) h⟩
    rcases h with h | h
    · rw [if_pos h]
    · split
      · rfl
      · rfl
  · right
    exact ⟨k, h1, h2, by rw [if_neg h3, if_neg h4], w_up_yes (by omega) h3 h4⟩
theorem GL.queue {D : Dn} {I I' : II} (g : GL D I) {l k : Nat} (hl : l < nL I) (hk : k < lZ I l) {v : Int32} (hv : isN v 999) (e1 : I' 50 (8 * l + k) = v) (e2 : I' (la D l + 3) k = v)
    (h : ∀ a j, ¬ ((a = 50 ∧ j = 8 * l + k) ∨ (a = la D l + 3 ∧ j = k)) → I' a j = I a j) : GL D I' := by
  have hA : 77 ≤ la D l := ((g.2.1 l hl).2).at.2.2
  have hz8 : lZ I l ≤ 8 := (g.2.1 l hl).1.bds.2.2.1
  have c1 : I' 38 1 = I 38 1 := h _ _ (by omega)
  have c2 : I' 38 4 = I 38 4 := h _ _ (by omega)
  have c3 : I' 1 5 = I 1 5 := h _ _ (by omega)
  have e41 : ∀ k, I' 41 k = I 41 k := fun k => h _ _ (by omega)
  have e42 : ∀ k, I' 42 k = I 42 k := fun k => h _ _ (by omega)
  have e43 : ∀ k, I' 43 k = I 43 k := fun k => h _ _ (by omega)
  have e44 : ∀ k, I' 44 k = I 44 k := fun k => h _ _ (by omega)
  have e45 : ∀ k, I' 45 k = I 45 k := fun k => h _ _ (by omega)
  have e46 : ∀ k, I' 46 k = I 46 k := fun k => h _ _ (by omega)
  have e47 : ∀ k, I' 47 k = I 47 k := fun k => h _ _ (by omega)
  have e48 : ∀ k, I' 48 k = I 48 k := fun k => h _ _ (by omega)
  have e49 : ∀ k, I' 49 k = I 49 k := fun k => h _ _ (by omega)
  have hn : nL I' = nL I := by unfold nL; rw [c2]
  have go := fun {j : Nat} (hj : j < nL I) (q : j ≠ l) => g.other hj hl q
  obtain ⟨g1, g2, g3, g4, g5⟩ := g
  refine ⟨by rw [c2, c3]; exact g1, fun j hj => ?_, by rw [hn]; exact g3, by rw [hn]; simp only [e48]; exact g4, fun j h1 h2 => ?_⟩
  · rw [hn] at hj
    obtain ⟨r, x⟩ := g2 j hj
    have hAj := x.at.2.2
    have hzj : lZ I j ≤ 8 := r.bds.2.2.1
    have hap : la D j = la D l ∨ la D j + 4 ≤ la D l ∨ la D l + 4 ≤ la D j := by
      by_cases q : j = l
      · subst q; exact Or.inl rfl
      · exact Or.inr (go hj q)
    have d0 : ∀ i, I' (la D j) i = I (la D j) i := fun i => h _ _ (by omega)
    have d1 : ∀ i, I' (la D j + 1) i = I (la D j + 1) i := fun i => h _ _ (by omega)
    have d2 : ∀ i, I' (la D j + 2) i = I (la D j + 2) i := fun i => h _ _ (by omega)
    have d50 : ∀ i, i < lZ I j → (j = l ∧ i = k) ∨ (I' 50 (8 * j + i) = I 50 (8 * j + i) ∧ I' (la D j + 3) i = I (la D j + 3) i) := fun i hi => by
      by_cases q : j = l
      · subst q
        by_cases q2 : i = k
        · exact Or.inl ⟨rfl, q2⟩
        · exact Or.inr ⟨h _ _ (by omega), h _ _ (by omega)⟩
      · have := go hj q
        exact Or.inr ⟨h _ _ (by omega), h _ _ (by omega)⟩
    obtain ⟨r1, r2, r3⟩ := r
    obtain ⟨x1, x2, x3, x4⟩ := x
    refine ⟨⟨?_, ?_, ?_⟩, ⟨x1, x2, ?_, ?_⟩⟩
    · unfold lZ lE lF lL at *
      simp only [e41, e42, e45, e46, e47, e48, e49]
      exact r1
    · intro i hi
      have hi' : i < lZ I j := by unfold lZ at hi ⊢; rw [e42] at hi; exact hi
      unfold lS nS at *
      rw [e43, e44, c1]
      obtain ⟨q1, q2, q3, q4⟩ := r2 i hi'
      refine ⟨q1, q2, q3, ?_⟩
      rcases d50 i hi' with ⟨rfl, rfl⟩ | ⟨q, -⟩
      · rw [e1]; exact hv
      · rw [q]; exact q4
    · unfold lZ lS lO at *
      simp only [e42, e43, e44]
      exact r3
    · simp only [e41, e42, e45, e46, e47, e48, e49, d0]
      exact x3
    · intro i hi
      have hi' : i < lZ I j := by unfold lZ at hi ⊢; rw [e42] at hi; exact hi
      obtain ⟨q1, q2, q3⟩ := x4 i hi'
      rw [d1, d2, e43, e44]
      refine ⟨q1, q2, ?_⟩
      rcases d50 i hi' with ⟨rfl, rfl⟩ | ⟨q, q'⟩
      · rw [e1, e2]
      · rw [q, q']; exact q3
  · rw [hn] at h1
    rw [h 50 j (by omega)]
    exact g5 j h1 h2
theorem Inv.queue {D : Dn} {I I' : II} (g : Inv D I) {l k : Nat} (hl : l < nL I) (hk : k < lZ I l) {v : Int32} (hv : isN v 999) (e1 : I' 50 (8 * l + k) = v) (e2 : I' (la D l + 3) k = v)
    (h : ∀ a j, ¬ ((a = 50 ∧ j = 8 * l + k) ∨ (a = la D l + 3 ∧ j = k)) → I' a j = I a j) : Inv D I' := by
  obtain ⟨g0, g1, g2, g3, g4, g5, g6, g7, g8⟩ := g
  have hX := (g2.2.1 l hl).2
  have hA : 77 ≤ la D l := hX.at.2.2
  have t2 : D.2.1 (la D l + 2) = 100 := hX.1.2.2.2.2.1
  have t3 : D.2.1 (la D l + 3) = 100 := hX.1.2.2.2.2.2
  refine ⟨g0, g1.co (fun a k q => h a k ?_), g2.queue hl hk hv e1 e2 h, g3.co (fun a k q => h a k ?_), g4.co (fun a k q => h a k ?_), g5.co (fun a k q => h a k ?_), g6.co (fun a k q => h a k ?_), g7.co (fun a k q => h a k ?_), g8.co (fun a k q => h a k ?_)⟩
  · unfold rdS at q; omega
  · unfold rdT at q
    rintro (z | ⟨rfl, z⟩)
    · omega
    · rw [show la D l + 3 - 1 = la D l + 2 from rfl, t2] at q; omega
  · unfold rdP at q
    rintro (z | ⟨rfl, z⟩)
    · omega
    · rw [t3] at q; omega
  · unfold rdO at q; omega
  · unfold rdD at q
    rintro (z | ⟨rfl, z⟩)
    · omega
    · rw [t3] at q; omega
  · unfold rdR at q; omega
  · unfold rdH at q; omega
theorem p_waiting (fu : Nat) {D : Dn} {I : II} (g : Inv D I) (x k w : Int32) : ∃ r I1 I2, Rf_X10_waiting fu (mkS D) I x k w = some (r, I1) ∧ Rf_X11_waiting fu (mkS D) I1 x k w = some (r, I2) ∧ Inv D I2 := by
  have gL := g.2.2.1
  have hn : nL I ≤ 14 := gL.1.1.2
  unfold Rf_X10_waiting
  rcases line_cases fu gL x with ⟨h1, h2⟩ | ⟨l, hl, rfl, h1, h2⟩
  · refine ⟨-1, I, I, by rw [h1]; rfl, ?_, g⟩
    unfold Rf_X11_waiting Rf_X11_noQueue
    rw [h2]; rfl
  · obtain ⟨r, hX⟩ := gL.2.1 l hl
    obtain ⟨a1, a2, a3⟩ := hX.at
    have hk := nx_nI (k := l) (by omega)
    obtain ⟨e1, e2, e3, e4, e5⟩ := r.nums
    obtain ⟨b1, b2, b3, b4, b5, b6, b7⟩ := r.bds
    obtain ⟨-, -, -, -, p7, p8⟩ := x_after D hX
    have xk := hX.2.2.2
    have hx5 : I (la D l) 5 = nI (lZ I l) := hX.2.2.1.2.2.2.2.2.1.trans e2
    have g14 : ∀ {ρ : Type} (a : Nat) (y : Option ρ), a ≠ 0 → gd (inbL a 14 (nI l)) y = y := fun a y h => gd_pos ⟨h, nI_nn (by omega), by rw [hk]; omega⟩
    have hnq : ∀ I1 : II, I1 38 4 = I 38 4 → I1 42 l = I 42 l → Rf_X11_noQueue fu (mkS D) I1 (nI l) k = some (if t_X11_in k.toInt64 0 ((nI (lZ I l)).toInt64 - 2) = 0 then 1 else 0) := fun I1 z1 z2 => by
      unfold Rf_X11_noQueue
      rw [noLine_co z1, h2, if_pos rfl, g14 _ _ (by decide)]
      unfold rdN
      rw [hk, z2, e2]
      split <;> rfl
    rw [h1]
    simp only [Option.bind_some, if_neg a1, a2]
    rcases leave_cases b2 b3 hx5 k with ⟨h3, h4⟩ | ⟨k, hk2, rfl, h3, h4⟩
    · refine ⟨-1, I, I, by rw [if_pos h3], ?_, g⟩
      unfold Rf_X11_waiting
      rw [hnq I rfl rfl, h4]; rfl
    · have k1 := nx_nI (k := k) (by omega)
      have k2 := nx_nI (k := 8 * l + k) (by omega)
      rw [h3, if_neg i1ne]
      rcases within_cases w 0 999 with hw | ⟨hw, hw1, hw2⟩
      · refine ⟨-2, I, I, by rw [if_pos hw], ?_, g⟩
        unfold Rf_X11_waiting
        rw [hnq I rfl rfl, h4, Option.bind_some, if_neg i1ne, if_pos rfl, show t_X11_in w.toInt64 0 999 = t_X10_isWithin w 0 999 from w_in32 (lo := 0) (hi := 999), if_pos hw]
      · have hwN : isN w 999 := ⟨nI_nx (le0 hw1), nx_le (le0 hw1) (n := 999) (by decide) hw2⟩
        refine ⟨I 50 (8 * l + k), upI I (la D l + 3) k w, upI (upI I (la D l + 3) k w) 50 (8 * l + k) w, ?_, ?_, g.queue (k := k) hl (by omega) hwN ?_ ?_ (fun a j z => ?_)⟩
        · rw [hw, if_neg i1ne, p7, gd_pos ⟨by omega, nI_nn (by omega), by rw [k1, p8]; omega⟩]
          simp only [lt, rd, wr, k1, show la D l + 4 - 1 = la D l + 3 from rfl, (xk k (by omega)).2.2]
        · unfold Rf_X11_waiting
          rw [hnq _ (by rw [upI_row (by omega)]) (by rw [upI_row (by omega)]), h4, Option.bind_some, if_neg i1ne, if_pos rfl, show t_X11_in w.toInt64 0 999 = t_X10_isWithin w 0 999 from w_in32 (lo := 0) (hi := 999), hw, if_neg i1ne, ix8, gd_pos ⟨by decide, nI_nn (by omega), by rw [k2]; omega⟩]
          simp only [lt, rdN, wrN, k2]
          rw [upI_row (by omega)]
        · rw [upI_at]
        · rw [upI_row (by omega), upI_at]
        · simp only [upI]; rw [if_neg (by omega), if_neg (by omega)]
