/-! best: the reference's loop, and the call -/
theorem m_bestL (fu : Nat) (hfu : 2100 < fu) {D : Dn} {I : II} (g : Inv D I) (d : Int32) {mi : Nat} (hmi : mi ≤ 99999) (x3 : Int32) : ∃ J, Keep I J ∧ fix5 (Rl_X11_best_47 fu (mkS D) d (nI mi) x3) fu (-9) 0 0 0 I = some (ansB I d mi x3, J) := by
  have gO := g.2.2.2.2.2.1
  have hnO : nO I ≤ 4 := gO.1.1.2
  have eO : I 38 34 = nI (nO I) := gO.1.1.1
  have hnP : nP I ≤ 6 := g.2.2.2.2.1.1.1.2
  have h2 : 2 ^ nO I ≤ 16 := by
    have := Nat.pow_le_pow_right (n := 2) (by decide) hnO
    exact this
  have hpos : 0 < 2 ^ nO I := Nat.pow_pos (by decide)
  have main := fix5_ex (K := Unit) (F := fun _ => Rl_X11_best_47 fu (mkS D) d (nI mi) x3) (fun i => nI i) (fun i u v w J => Keep I J ∧ ((i = 0 ∧ u = -9 ∧ v = 0 ∧ w = 0) ∨ (i ≠ 0 ∧ u = nI (bst I d mi i).1 ∧ v = nI (bst I d mi i).2.1 ∧ w = nI (bst I d mi i).2.2))) (fun _ u v w J => some (ansB I d mi x3, J)) (2 ^ nO I) (fun i u v w J hi hP => ?_) (fun u v w J hP κ self => ?_) (2 ^ nO I) 0 (-9) 0 0 I (by omega) ⟨Keep.rf, Or.inl ⟨rfl, rfl, rfl, rfl⟩⟩ fu (by omega)
  · obtain ⟨u, v, w, J, ⟨hK, -⟩, hrun⟩ := main
    exact ⟨J, hK, hrun ()⟩
  · obtain ⟨hK, hst⟩ := hP
    have gJ := g.keep hK
    have hS := hK.ks
    obtain ⟨e1, e2, e3, e4, e5, e6, e7, e8⟩ := ks_net hS
    have e34 : J 38 34 = nI (nO I) := by rw [hK 38 34 (by unfold scr; omega)]; exact eO
    obtain ⟨bA, bB⟩ := m_busM fu (by omega) gJ (set := i) (by omega) d
    rw [ks_bm hS, e4, e6] at bA bB
    simp only [e7] at bA bB
    have hc0 : ¬ nI (2 ^ nO I) ≤ nI i := by rw [nI_le_iff (by omega) (by omega)]; omega
    by_cases hok : okS I d mi i
    · have hbm := bA hok.1 (by have := hok.2; simp only [MM]; omega)
      obtain ⟨J1, n1, n2, n3⟩ := m_net fu (by omega) g hK (set := i) (by omega) d
      rw [rn_eq g d i hok.1] at n3
      obtain ⟨l1, l2, l3⟩ := alw_lt g d i
      obtain ⟨J2, t1, t2⟩ := m_tallyR fu hfu g n2 (mask := alw I d ||| lsS I i) (by omega) n3 d (nI mi) x3 u v w (nI i)
      have htg := tg_le fu hfu g (mask := alw I d ||| lsS I i) (by omega) (nP I) (Nat.le_refl _)
      have hpre : ∀ self, Rl_X11_best_47 fu (mkS D) d (nI mi) x3 self u v w (nI i) J = if u < 0 ∨ v < nI (tg I (alw I d ||| lsS I i) (nP I)) ∨ (nI (tg I (alw I d ||| lsS I i) (nP I)) = v ∧ ¬ w ≤ nI (ts I (alw I d ||| lsS I i) (nP I))) then self (nI i) (nI (tg I (alw I d ||| lsS I i) (nP I))) (nI (ts I (alw I d ||| lsS I i) (nP I))) (nI (i + 1)) J2 else self u v w (nI (i + 1)) J2 := by
        intro self
        have := hok.2
        unfold Rl_X11_best_47
        rw [e34, nI_one (by omega), if_neg hc0, hbm, Option.bind_some, if_neg (by rw [nI_lt_iff (by omega) (by omega)]; omega), n1, Option.bind_some, t2 self, nI_p1]
      by_cases q : u < 0 ∨ v < nI (tg I (alw I d ||| lsS I i) (nP I)) ∨ (nI (tg I (alw I d ||| lsS I i) (nP I)) = v ∧ ¬ w ≤ nI (ts I (alw I d ||| lsS I i) (nP I)))
      · have hb : bst I d mi (i + 1) = (i, tg I (alw I d ||| lsS I i) (nP I), ts I (alw I d ||| lsS I i) (nP I)) := by
          rcases hst with ⟨rfl, -⟩ | ⟨hi0, rfl, rfl, rfl⟩
          · exact if_pos rfl
          · obtain ⟨i', rfl⟩ : ∃ i', i = i' + 1 := ⟨i - 1, by omega⟩
            have bd := bst_bd fu hfu g d mi i'
            rw [bst_s hi0, if_pos]
            refine ⟨hok, ?_⟩
            rcases q with q | q | ⟨q1, q2⟩
            · exact absurd q (nI_nn (by omega))
            · rw [nI_lt_iff (by omega) (by omega)] at q; exact Or.inl q
            · rw [nI_eq_iff (by omega) (by omega)] at q1
              rw [nI_le_iff (by omega) (by omega)] at q2
              exact Or.inr ⟨q1, by omega⟩
        refine ⟨_, _, _, J2, ⟨t1, Or.inr ⟨Nat.succ_ne_zero i, ?_, ?_, ?_⟩⟩, fun _ self => (hpre self).trans (if_pos q)⟩
        · rw [hb]
        · rw [hb]
        · rw [hb]
      · have hb : i ≠ 0 ∧ bst I d mi (i + 1) = bst I d mi i := by
          rcases hst with ⟨rfl, rfl, -, -⟩ | ⟨hi0, rfl, rfl, rfl⟩
          · exact absurd (Or.inl (by decide)) q
          · obtain ⟨i', rfl⟩ : ∃ i', i = i' + 1 := ⟨i - 1, by omega⟩
            have bd := bst_bd fu hfu g d mi i'
            refine ⟨hi0, ?_⟩
            rw [bst_s hi0, if_neg]
            rintro ⟨-, z | ⟨z1, z2⟩⟩
            · exact q (Or.inr (Or.inl (by rw [nI_lt_iff (by omega) (by omega)]; exact z)))
            · exact q (Or.inr (Or.inr ⟨by rw [z1], by rw [nI_le_iff (by omega) (by omega)]; omega⟩))
        refine ⟨u, v, w, J2, ⟨t1, ?_⟩, fun _ self => (hpre self).trans (if_neg q)⟩
        rcases hst with ⟨z, -⟩ | ⟨hi0, z⟩
        · exact absurd z hb.1
        · exact Or.inr ⟨Nat.succ_ne_zero i, by rw [hb.2]; exact z⟩
    · have hi0 : i ≠ 0 := fun z => hok (by rw [z]; exact ok_0 I d mi)
      obtain ⟨i', rfl⟩ : ∃ i', i = i' + 1 := ⟨i - 1, by omega⟩
      have hb : bst I d mi (i' + 1 + 1) = bst I d mi (i' + 1) := by
        rw [bst_s hi0, if_neg (fun y => hok y.1)]
      have hgt : ∃ q20, Rf_X11_busMinutes fu (mkS D) J (nI (i' + 1)) d = some q20 ∧ nI mi < q20 := by
        by_cases z : (∀ k, k < nO I → (i' + 1).testBit k = true → gn I (oL I k) d ≠ 0) ∧ bmS I (i' + 1).testBit (nO I) < MM
        · refine ⟨_, bA z.1 z.2, ?_⟩
          have hz2 := z.2
          rw [nI_lt_iff (by omega) (by simp only [MM] at hz2; omega)]
          have : ¬ bmS I (i' + 1).testBit (nO I) ≤ mi := fun y => hok ⟨z.1, y⟩
          omega
        · refine ⟨_, bB z, ?_⟩
          rw [show (1000000 : Int32) = nI 1000000 from rfl, nI_lt_iff (by omega) (by decide)]
          omega
      obtain ⟨q20, g1, g2⟩ := hgt
      refine ⟨u, v, w, J, ⟨hK, ?_⟩, fun _ self => ?_⟩
      · rcases hst with ⟨z, -⟩ | ⟨-, z⟩
        · exact absurd z hi0
        · exact Or.inr ⟨Nat.succ_ne_zero _, by rw [hb]; exact z⟩
      · show Rl_X11_best_47 fu (mkS D) d (nI mi) x3 self u v w (nI (i' + 1)) J = _
        unfold Rl_X11_best_47 Rj_X11_best_185
        rw [e34, nI_one (by omega), if_neg hc0, g1, Option.bind_some, if_pos g2, nI_p1]
  · obtain ⟨hK, hst⟩ := hP
    have gJ := g.keep hK
    have hS := hK.ks
    obtain ⟨e1, e2, e3, e4, e5, e6, e7, e8⟩ := ks_net hS
    have e34 : J 38 34 = nI (nO I) := by rw [hK 38 34 (by unfold scr; omega)]; exact eO
    rcases hst with ⟨z, -⟩ | ⟨-, rfl, rfl, rfl⟩
    · omega
    obtain ⟨b, eb⟩ : ∃ b, 2 ^ nO I = b + 1 := ⟨2 ^ nO I - 1, by omega⟩
    have hB := bst_ok I d mi b
    rw [← eb] at hB
    have hok := hB.2.1
    obtain ⟨bA, -⟩ := m_busM fu (by omega) gJ (set := (bst I d mi (2 ^ nO I)).1) (by have := hB.1; omega) d
    rw [ks_bm hS, e4, e6] at bA
    simp only [e7] at bA
    have hbm := bA hok.1 (by have := hok.2; simp only [MM]; omega)
    show Rl_X11_best_47 fu (mkS D) d (nI mi) x3 self _ _ _ (nI (2 ^ nO I)) J = _
    unfold Rl_X11_best_47 ansB
    rw [e34, nI_one (by omega), if_pos (Int32.le_refl _), hbm, Option.bind_some]
    by_cases q0 : x3 = 0
    · rw [if_pos q0, if_pos q0]
    · rw [if_neg q0, if_neg q0]
      by_cases q1 : x3 = 1
      · rw [if_pos q1, if_pos q1]
      · rw [if_neg q1, if_neg q1]
        by_cases q2 : x3 = 2
        · rw [if_pos q2, if_pos q2]
        · rw [if_neg q2, if_neg q2]
theorem p_best (fu : Nat) (hfu : 2100 < fu) {D : Dn} {I : II} (g : Inv D I) (d y x3 : Int32) : ∃ r D' I1 I2, f_X10_best fu (mkS D) I 0 d y x3 = some (r, mkS D', I1) ∧ Rf_X11_best fu (mkS D') I1 d y x3 = some (r, I2) ∧ Inv D' I2 := by
  have ey : t_X11_in y.toInt64 0 99999 = t_X10_isWithin y 0 99999 := w_in32 (lo := 0) (hi := 99999)
  have ex : t_X11_in x3.toInt64 0 3 = t_X10_isWithin x3 0 3 := w_in32 (lo := 0) (hi := 3)
  by_cases hd : t_X10_isDay d = 0
  · refine ⟨-2, D, I, I, ?_, ?_, g⟩
    · unfold f_X10_best
      rw [if_pos hd]
    · unfold Rf_X11_best
      rw [day_eq, if_pos hd]
  rcases within_cases y 0 99999 with hy | ⟨hy, y1, y2⟩
  · refine ⟨-2, D, I, I, ?_, ?_, g⟩
    · unfold f_X10_best
      rw [if_neg hd, if_pos hy]
    · unfold Rf_X11_best
      rw [day_eq, if_neg hd, ey, if_pos hy]
  by_cases hx : t_X10_isWithin x3 0 3 = 0
  · refine ⟨-2, D, I, I, ?_, ?_, g⟩
    · unfold f_X10_best
      rw [if_neg hd, hy, if_neg i1ne, if_pos hx]
    · unfold Rf_X11_best
      rw [day_eq, if_neg hd, ey, hy, if_neg i1ne, ex, if_pos hx]
  obtain ⟨mi, hmi, rfl⟩ : ∃ mi, mi ≤ 99999 ∧ y = nI mi := ⟨nx y, nx_le (le0 y1) (n := 99999) (by decide) y2, nI_nx (le0 y1)⟩
  have hnO : nO I ≤ 4 := g.2.2.2.2.2.1.1.1.2
  have hN : 77 ≤ D.2.2.2 := g.1
  have hnL : nL I ≤ 14 := g.2.2.1.1.1.2
  have hm14 := rs_14 g d
  have hoa := ofs_lt g.2.2.2.2.2.1 hnL (fun _ => true) (nO I) (Nat.le_refl _)
  have hx32 : ofs I (fun _ => true) (nO I) ^^^ 4294967295 < 4294967296 := Nat.xor_lt_two_pow (n := 32) (by omega) (by decide)
  have ha := (alw_lt g d 0).1
  have el0 : lsS I 0 = 0 := by
    apply Nat.eq_of_testBit_eq
    intro i
    rw [Nat.zero_testBit]
    cases q : (lsS I 0).testBit i with
    | false => rfl
    | true =>
      obtain ⟨k, -, h2, -⟩ := (ofs_bit I _ _ _).mp q
      rw [Nat.zero_testBit] at h2
      exact absurd h2 (by decide)
  obtain ⟨D1, J1, t1, t2, t3, t4, t5, t6, t7, t8⟩ := x_tally fu hfu g (mask := alw I d) (by omega) 0
  have h2 : 2 ^ nO I ≤ 16 := by
    have := Nat.pow_le_pow_right (n := 2) (by decide) hnO
    exact this
  have hpos : 0 < 2 ^ nO I := Nat.pow_pos (by decide)
  have hb1 : bst I d mi 1 = (0, tg I (alw I d) (nP I), ts I (alw I d) (nP I)) := by
    have : bst I d mi 1 = (0, tg I (alw I d ||| lsS I 0) (nP I), ts I (alw I d ||| lsS I 0) (nP I)) := if_pos rfl
    rw [el0, Nat.or_zero] at this
    exact this
  obtain ⟨D2, J2, u1, u2, u3⟩ := x_bestL fu hfu (I := I) (d := d) hmi x3 (2 ^ nO I - 1) 1 D1 J1 D.2.2.2 (by omega) (by omega) t2 t4 hN (by omega) (by rw [hb1]; exact ⟨t6, t7, t8⟩) 17 (by omega)
  obtain ⟨K, v1, v2⟩ := m_bestL fu hfu u1 d hmi x3
  rw [ks_ans u2] at v2
  refine ⟨ansB I d mi x3, D2, J2, K, ?_, ?_, u1.keep v1⟩
  · unfold f_X10_best
    rw [if_neg hd, hy, if_neg i1ne, if_neg hx, show (mkS D).1 0 0 = 2 from rfl, gd_pos (by decide), show (2 : Nat) - 1 = 1 from rfl, re_X2_running, x_running fu (by omega) g Keep.rf, Option.bind_some, re_X10_offeredLines, x_offered fu (by omega) g (-1) (fun _ => true) has_m1, Option.bind_some]
    simp only [lt]
    rw [nI_m1, nI_xor (by omega) (by decide), nI_and (by omega) (by omega), re_X10_tallyOf]
    show (Rf_X10_tallyOf fu (mkS D) I 0 (nI (alw I d))).bind _ = _
    rw [t1, Option.bind_some]
    exact u3
  · unfold Rf_X11_best
    rw [day_eq, if_neg hd, ey, hy, if_neg i1ne, ex, if_neg hx]
    exact v2
