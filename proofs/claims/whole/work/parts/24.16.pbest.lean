/-! best: both loops -/
theorem ks_bm {I J : II} (h : KS I J) (sel : Nat → Bool) : ∀ n, bmS J sel n = bmS I sel n
  | 0 => rfl
  | n + 1 => by
    unfold bmS
    rw [ks_bm h sel n, (ks_net h).2.2.2.2.2.1, (ks_net h).2.2.2.2.2.2.2]
theorem ks_ok {I J : II} (h : KS I J) (d : Int32) (mi set : Nat) : okS J d mi set ↔ okS I d mi set := by
  obtain ⟨e1, e2, e3, e4, e5, e6, e7, e8⟩ := ks_net h
  unfold okS
  rw [ks_bm h, e4, e6]
  simp only [e7]
theorem ks_alw {I J : II} (h : KS I J) (d : Int32) (set : Nat) : alw J d ||| lsS J set = alw I d ||| lsS I set := by
  obtain ⟨e1, e2, e3, e4, e5, e6, e7, e8⟩ := ks_net h
  unfold alw lsS
  rw [ks_rs h, ks_ofs h, ks_ofs h, e2, e4]
theorem ks_bst {I J : II} (h : KS I J) (d : Int32) (mi : Nat) : ∀ k, bst J d mi k = bst I d mi k
  | 0 => rfl
  | k + 1 => by
    have ih := ks_bst h d mi k
    obtain ⟨e1, e2, e3, e4, e5, e6, e7, e8⟩ := ks_net h
    unfold bst
    rw [ih, ks_alw h, ks_alw h, e3, (ks_tg h _ _).1, (ks_tg h _ _).2, (ks_tg h _ _).1, (ks_tg h _ _).2]
    by_cases q : k = 0
    · rw [if_pos q, if_pos q]
    · rw [if_neg q, if_neg q]
      by_cases z : okS I d mi k ∧ ((bst I d mi k).2.1 < tg I (alw I d ||| lsS I k) (nP I) ∨ (tg I (alw I d ||| lsS I k) (nP I) = (bst I d mi k).2.1 ∧ ts I (alw I d ||| lsS I k) (nP I) < (bst I d mi k).2.2))
      · rw [if_pos z, if_pos ⟨(ks_ok h d mi k).mpr z.1, z.2⟩]
      · rw [if_neg z, if_neg (fun y => z ⟨(ks_ok h d mi k).mp y.1, y.2⟩)]
theorem bst_s {I : II} {d : Int32} {mi k : Nat} (hk : k ≠ 0) : bst I d mi (k + 1) = @ite _ (okS I d mi k ∧ ((bst I d mi k).2.1 < tg I (alw I d ||| lsS I k) (nP I) ∨ (tg I (alw I d ||| lsS I k) (nP I) = (bst I d mi k).2.1 ∧ ts I (alw I d ||| lsS I k) (nP I) < (bst I d mi k).2.2))) (Classical.propDecidable _) (k, tg I (alw I d ||| lsS I k) (nP I), ts I (alw I d ||| lsS I k) (nP I)) (bst I d mi k) := if_neg hk
theorem alw_lt {D : Dn} {I : II} (g : Inv D I) (d : Int32) (set : Nat) : alw I d < 2 ^ 14 ∧ lsS I set < 2 ^ 14 ∧ alw I d ||| lsS I set < 2 ^ 14 := by
  have hnL : nL I ≤ 14 := g.2.2.1.1.1.2
  have h1 : alw I d < 2 ^ 14 := andn_lt (rs_14 g d)
  have h2 : lsS I set < 2 ^ 14 := ofs_lt g.2.2.2.2.2.1 hnL _ _ (Nat.le_refl _)
  exact ⟨h1, h2, Nat.or_lt_two_pow h1 h2⟩
theorem bst_bd (fu : Nat) (hfu : 2100 < fu) {D : Dn} {I : II} (g : Inv D I) (d : Int32) (mi k : Nat) : (bst I d mi (k + 1)).1 ≤ k ∧ (bst I d mi (k + 1)).2.1 ≤ 6 ∧ (bst I d mi (k + 1)).2.2 ≤ 12000 := by
  obtain ⟨h1, h2, h3, h4⟩ := bst_ok I d mi k
  have hnP : nP I ≤ 6 := g.2.2.2.2.1.1.1.2
  have ha := (alw_lt g d (bst I d mi (k + 1)).1).2.2
  have := tg_le fu hfu g (mask := alw I d ||| lsS I (bst I d mi (k + 1)).1) (by omega) (nP I) (Nat.le_refl _)
  omega
/-- what is asked of the best -/
noncomputable def ansB (I : II) (d : Int32) (mi : Nat) (x3 : Int32) : Int32 := if x3 = 0 then nI (bst I d mi (2 ^ nO I)).1 else if x3 = 1 then nI (bst I d mi (2 ^ nO I)).2.1 else if x3 = 2 then nI (bst I d mi (2 ^ nO I)).2.2 else nI (bmS I (bst I d mi (2 ^ nO I)).1.testBit (nO I))
theorem ks_ans {I J : II} (h : KS I J) (d : Int32) (mi : Nat) (x3 : Int32) : ansB J d mi x3 = ansB I d mi x3 := by
  unfold ansB
  rw [(ks_net h).2.2.2.1, ks_bst h, ks_bm h]
theorem x_offS (fu : Nat) (hfu : 100 < fu) {D : Dn} {I : II} (g : Inv D I) {set : Nat} (hs : set < 2147483648) : Rf_X10_offeredLines fu (mkS D) I (nI set) = some (nI (lsS I set)) := x_offered fu hfu g (nI set) set.testBit (fun k hk => has_at hs (by omega))
theorem x_bestL (fu : Nat) (hfu : 2100 < fu) {I : II} {d : Int32} {mi : Nat} (hmi : mi ≤ 99999) (x3 : Int32) : ∀ j i (D : Dn) (J : II) (a : Nat), i + j = 2 ^ nO I → 1 ≤ i → Inv D J → KS I J → 77 ≤ a → a < D.2.2.2 → (J a 0 = nI (bst I d mi i).1 ∧ J a 1 = nI (bst I d mi i).2.1 ∧ J a 2 = nI (bst I d mi i).2.2) → ∀ n, j < n → ∃ D2 J2, Inv D2 J2 ∧ KS I J2 ∧ fix4 (lp_X10_best_64 fu 0 (nI mi) x3 (nI (rs I d (nL I))) (nI (alw I d))) n (a + 1) (nI i) (mkS D) J = some (ansB I d mi x3, mkS D2, J2) := by
  intro j
  induction j with
  | zero =>
    intro i D J a hij hi g hS ha haN ⟨c0, c1, c2⟩ n hn
    obtain ⟨n, rfl⟩ : ∃ m, n = m + 1 := ⟨n - 1, by omega⟩
    obtain ⟨e1, e2, e3, e4, e5, e6, e7, e8⟩ := ks_net hS
    have hnO : nO J ≤ 4 := g.2.2.2.2.2.1.1.1.2
    have eO : J 0 7 = nI (nO I) := by rw [← e4]; exact g.2.2.2.2.2.1.1.2.trans g.2.2.2.2.2.1.1.1.1
    have h2 : 2 ^ nO I ≤ 16 := by
      have := Nat.pow_le_pow_right (n := 2) (by decide) (show nO I ≤ 4 by omega)
      exact this
    have ei : i = 2 ^ nO I := by omega
    subst ei
    obtain ⟨b, eb⟩ : ∃ b, 2 ^ nO I = b + 1 := ⟨2 ^ nO I - 1, by omega⟩
    have bd := bst_bd fu hfu g d mi b
    rw [ks_bst hS, ← eb] at bd
    refine ⟨D, J, g, hS, ?_⟩
    show lp_X10_best_64 fu 0 (nI mi) x3 _ _ _ (a + 1) (nI (2 ^ nO I)) (mkS D) J = _
    have hoff := x_offS fu (by omega) g (set := (bst I d mi (2 ^ nO I)).1) (by omega)
    have hls := (alw_lt g d (bst I d mi (2 ^ nO I)).1).2.1
    have hbm := x_busM fu (by omega) g (m := lsS J (bst I d mi (2 ^ nO I)).1) (by omega)
    have hbe : sL J (lsS J (bst I d mi (2 ^ nO I)).1) (nL J) = bmS I (bst I d mi (2 ^ nO I)).1.testBit (nO I) := by
      rw [← ks_bm hS, ← e4]
      exact bm_eq g _ (nO J) (Nat.le_refl _)
    rw [hbe] at hbm
    unfold lp_X10_best_64 ansB
    rw [eO, nI_one (by omega), if_pos (Int32.le_refl _), gd_pos (Nat.succ_ne_zero a), gd_pos (Nat.succ_ne_zero a), gd_pos (Nat.succ_ne_zero a), gd_pos (Nat.succ_ne_zero a), Nat.add_sub_cancel, c0, c1, c2, re_X10_offeredLines, hoff, Option.bind_some, show (mkS D).1 0 0 = 2 from rfl, gd_pos (by decide), show (2 : Nat) - 1 = 1 from rfl, re_X2_busMinutes, hbm, Option.bind_some]
    by_cases q0 : x3 = 0
    · rw [if_pos q0, if_pos q0]
    · rw [if_neg q0, if_neg q0]
      by_cases q1 : x3 = 1
      · rw [if_pos q1, if_pos q1]
      · rw [if_neg q1, if_neg q1]
        by_cases q2 : x3 = 2
        · rw [if_pos q2, if_pos q2]
        · rw [if_neg q2, if_neg q2]
  | succ j ih =>
    intro i D J a hij hi g hS ha haN ⟨c0, c1, c2⟩ n hn
    obtain ⟨n, rfl⟩ : ∃ m, n = m + 1 := ⟨n - 1, by omega⟩
    obtain ⟨e1, e2, e3, e4, e5, e6, e7, e8⟩ := ks_net hS
    have hnO : nO J ≤ 4 := g.2.2.2.2.2.1.1.1.2
    have eO : J 0 7 = nI (nO I) := by rw [← e4]; exact g.2.2.2.2.2.1.1.2.trans g.2.2.2.2.2.1.1.1.1
    have h2 : 2 ^ nO I ≤ 16 := by
      have := Nat.pow_le_pow_right (n := 2) (by decide) (show nO I ≤ 4 by omega)
      exact this
    have hoff := x_offS fu (by omega) g (set := i) (by omega)
    have els : lsS J i = lsS I i := by unfold lsS; rw [ks_ofs hS, e4]
    have ers : rs J d (nL J) = rs I d (nL I) := by rw [ks_rs hS, e2]
    have eal : alw J d = alw I d := by unfold alw; rw [ers, ks_ofs hS, e4]
    obtain ⟨l1, l2, l3⟩ := alw_lt g d i
    rw [eal] at l1 l3
    rw [els] at l2 l3 hoff
    have hm14 : rs I d (nL I) < 16384 := by rw [← ers]; exact rs_14 g d
    have hsub := ls_sub g d i
    rw [els, ers] at hsub
    have hbm := x_busM fu (by omega) g (m := lsS I i) (by omega)
    have hbe : sL J (lsS I i) (nL J) = bmS I i.testBit (nO I) := by
      rw [← els, ← ks_bm hS, ← e4]
      exact bm_eq g _ (nO J) (Nat.le_refl _)
    have hble : sL J (lsS I i) (nL J) ≤ 302400 * 14 := by
      have h1 := sL_le g (lsS I i) (nL J) (Nat.le_refl _)
      have : nL J ≤ 14 := g.2.2.1.1.1.2
      omega
    rw [hbe] at hbm hble
    obtain ⟨i', rfl⟩ : ∃ i', i = i' + 1 := ⟨i - 1, by omega⟩
    have bd := bst_bd fu hfu g d mi i'
    rw [ks_bst hS] at bd
    have hx : rs I d (nL I) ^^^ 4294967295 < 4294967296 := Nat.xor_lt_two_pow (n := 32) (by omega) (by decide)
    have hand : lsS I (i' + 1) &&& (rs I d (nL I) ^^^ 4294967295) < 2 ^ 14 := andn_lt l2
    show ∃ D2 J2, Inv D2 J2 ∧ KS I J2 ∧ lp_X10_best_64 fu 0 (nI mi) x3 _ _ (fix4 (lp_X10_best_64 fu 0 (nI mi) x3 (nI (rs I d (nL I))) (nI (alw I d))) n) (a + 1) (nI (i' + 1)) (mkS D) J = _
    have hgo : lp_X10_best_64 fu 0 (nI mi) x3 (nI (rs I d (nL I))) (nI (alw I d)) (fix4 (lp_X10_best_64 fu 0 (nI mi) x3 (nI (rs I d (nL I))) (nI (alw I d))) n) (a + 1) (nI (i' + 1)) (mkS D) J = if lsS I (i' + 1) &&& (rs I d (nL I) ^^^ 4294967295) = 0 then (if mi < bmS I (i' + 1).testBit (nO I) then fix4 (lp_X10_best_64 fu 0 (nI mi) x3 (nI (rs I d (nL I))) (nI (alw I d))) n (a + 1) (nI (i' + 1 + 1)) (mkS D) J else (Rf_X10_tallyOf fu (mkS D) J (nI (i' + 1)) (nI (alw I d ||| lsS I (i' + 1)))).bind fun q27 => (gd (q27.1 ≠ 0) ((f_X6_beats fu q27.2.1 q27.2.2 (q27.1 - 1) (a + 1)).bind fun q36 => (if q36 = 0 then fix4 (lp_X10_best_64 fu 0 (nI mi) x3 (nI (rs I d (nL I))) (nI (alw I d))) n (a + 1) (nI (i' + 1 + 1)) q27.2.1 q27.2.2 else fix4 (lp_X10_best_64 fu 0 (nI mi) x3 (nI (rs I d (nL I))) (nI (alw I d))) n q27.1 (nI (i' + 1 + 1)) q27.2.1 q27.2.2)))) else fix4 (lp_X10_best_64 fu 0 (nI mi) x3 (nI (rs I d (nL I))) (nI (alw I d))) n (a + 1) (nI (i' + 1 + 1)) (mkS D) J := by
      generalize fix4 (lp_X10_best_64 fu 0 (nI mi) x3 (nI (rs I d (nL I))) (nI (alw I d))) n = self
      unfold lp_X10_best_64 jn_X10_best_133
      rw [eO, nI_one (by omega), if_neg (by rw [nI_le_iff (by omega) (by omega)]; omega), re_X10_offeredLines, hoff, Option.bind_some, nI_m1, nI_xor (by omega) (by decide), nI_and (by omega) (by omega), show (mkS D).1 0 0 = 2 from rfl, gd_pos (by decide), show (2 : Nat) - 1 = 1 from rfl, re_X2_busMinutes, hbm, Option.bind_some, nI_or (by omega) (by omega), re_X10_tallyOf, nI_p1]
      have c0 : nI (lsS I (i' + 1) &&& (rs I d (nL I) ^^^ 4294967295)) = 0 ↔ lsS I (i' + 1) &&& (rs I d (nL I) ^^^ 4294967295) = 0 := nI_eq_iff (b := 0) (by omega) (by decide)
      have c1 : nI mi < nI (bmS I (i' + 1).testBit (nO I)) ↔ mi < bmS I (i' + 1).testBit (nO I) := nI_lt_iff (by omega) (by omega)
      by_cases q : lsS I (i' + 1) &&& (rs I d (nL I) ^^^ 4294967295) = 0
      · rw [if_pos (c0.mpr q), if_pos q]
        by_cases q2 : mi < bmS I (i' + 1).testBit (nO I)
        · rw [if_pos (c1.mpr q2), if_pos q2]
        · rw [if_neg (fun z => q2 (c1.mp z)), if_neg q2]
      · rw [if_neg (fun z => q (c0.mp z)), if_neg q]
    rw [hgo]
    have hskip : ¬ okS I d mi (i' + 1) → bst I d mi (i' + 1 + 1) = bst I d mi (i' + 1) := fun z => by
      rw [bst_s (Nat.succ_ne_zero i'), if_neg (fun y => z y.1)]
    have eok : okS I d mi (i' + 1) ↔ (lsS I (i' + 1) &&& (rs I d (nL I) ^^^ 4294967295) = 0 ∧ ¬ mi < bmS I (i' + 1).testBit (nO I)) := by
      unfold okS
      rw [hsub, e4, e6]
      simp only [e7]
      rw [Nat.not_lt]
    by_cases q : lsS I (i' + 1) &&& (rs I d (nL I) ^^^ 4294967295) = 0
    · rw [if_pos q]
      by_cases q2 : mi < bmS I (i' + 1).testBit (nO I)
      · rw [if_pos q2]
        have hs := hskip (fun z => (eok.mp z).2 q2)
        exact ih (i' + 1 + 1) D J a (by omega) (by omega) g hS ha haN (by rw [hs]; exact ⟨c0, c1, c2⟩) n (by omega)
      · rw [if_neg q2]
        have hok := eok.mpr ⟨q, q2⟩
        obtain ⟨D2, J2, t1, t2, t3, t4, t5, t6, t7, t8⟩ := x_tally fu hfu g (mask := alw I d ||| lsS I (i' + 1)) (by omega) (nI (i' + 1))
        have hS2 : KS I J2 := hS.tr t4
        rw [(ks_tg hS _ _).1, e3] at t7
        rw [(ks_tg hS _ _).2, e3] at t8
        have htg := tg_le fu hfu g (mask := alw I d ||| lsS I (i' + 1)) (by omega) (nP J) (Nat.le_refl _)
        rw [(ks_tg hS _ _).1, (ks_tg hS _ _).2, e3] at htg
        have hnP : nP I ≤ 6 := by rw [← e3]; exact g.2.2.2.2.1.1.1.2
        have d0 : J2 a 0 = nI (bst I d mi (i' + 1)).1 := by rw [t5 a 0 ha haN]; exact c0
        have d1 : J2 a 1 = nI (bst I d mi (i' + 1)).2.1 := by rw [t5 a 1 ha haN]; exact c1
        have d2 : J2 a 2 = nI (bst I d mi (i' + 1)).2.2 := by rw [t5 a 2 ha haN]; exact c2
        rw [t1, Option.bind_some]
        simp only
        rw [gd_pos (Nat.succ_ne_zero _), Nat.add_sub_cancel]
        have hbts : f_X6_beats fu (mkS D2) J2 D.2.2.2 (a + 1) = some (if (bst I d mi (i' + 1)).2.1 < tg I (alw I d ||| lsS I (i' + 1)) (nP I) ∨ (tg I (alw I d ||| lsS I (i' + 1)) (nP I) = (bst I d mi (i' + 1)).2.1 ∧ ts I (alw I d ||| lsS I (i' + 1)) (nP I) < (bst I d mi (i' + 1)).2.2) then 1 else 0) := by
          unfold f_X6_beats
          rw [gd_pos (Nat.succ_ne_zero a), Nat.add_sub_cancel, d1, d2, t7, t8]
          generalize tg I (alw I d ||| lsS I (i' + 1)) (nP I) = G at *
          generalize ts I (alw I d ||| lsS I (i' + 1)) (nP I) = Z at *
          generalize bst I d mi (i' + 1) = B at *
          have k1 : nI B.2.1 < nI G ↔ B.2.1 < G := nI_lt_iff (by omega) (by omega)
          have k2 : nI G = nI B.2.1 ↔ G = B.2.1 := nI_eq_iff (by omega) (by omega)
          have k3 : nI B.2.2 ≤ nI Z ↔ B.2.2 ≤ Z := nI_le_iff (by omega) (by omega)
          by_cases z1 : B.2.1 < G
          · rw [if_pos (k1.mpr z1), if_pos (Or.inl z1)]
          · rw [if_neg (fun y => z1 (k1.mp y))]
            by_cases z2 : G = B.2.1
            · rw [if_pos (k2.mpr z2)]
              by_cases z3 : B.2.2 ≤ Z
              · rw [if_pos (k3.mpr z3), if_neg (by omega)]
              · rw [if_neg (fun y => z3 (k3.mp y)), if_pos (Or.inr ⟨z2, by omega⟩)]
            · rw [if_neg (fun y => z2 (k2.mp y)), if_neg (by omega)]
        rw [hbts, Option.bind_some]
        have hbs := bst_s (I := I) (d := d) (mi := mi) (Nat.succ_ne_zero i')
        by_cases z : (bst I d mi (i' + 1)).2.1 < tg I (alw I d ||| lsS I (i' + 1)) (nP I) ∨ (tg I (alw I d ||| lsS I (i' + 1)) (nP I) = (bst I d mi (i' + 1)).2.1 ∧ ts I (alw I d ||| lsS I (i' + 1)) (nP I) < (bst I d mi (i' + 1)).2.2)
        · rw [if_pos ⟨hok, z⟩] at hbs
          rw [if_pos z, if_neg i1ne]
          exact ih (i' + 1 + 1) D2 J2 D.2.2.2 (by omega) (by omega) t2 hS2 (by omega) (by omega) (by rw [hbs]; exact ⟨t6, t7, t8⟩) n (by omega)
        · rw [if_neg (fun y => z y.2)] at hbs
          rw [if_neg z, if_pos rfl]
          exact ih (i' + 1 + 1) D2 J2 a (by omega) (by omega) t2 hS2 ha (by omega) (by rw [hbs]; exact ⟨d0, d1, d2⟩) n (by omega)
    · rw [if_neg q]
      have hs := hskip (fun z => q (eok.mp z).1)
      exact ih (i' + 1 + 1) D J a (by omega) (by omega) g hS ha haN (by rw [hs]; exact ⟨c0, c1, c2⟩) n (by omega)
