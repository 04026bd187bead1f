/-! trip -/
theorem p_trip (fu : Nat) {D : Dn} {I : II} (g : Inv D I) (x y s m r : Int32) : ∃ w D' I1 I2, f_X10_trip fu (mkS D) I 0 x y s m r = some (w, mkS D', I1) ∧ Rf_X11_trip fu (mkS D') I1 x y s m r = some (w, I2) ∧ Inv D' I2 := by
  have gP := g.2.2.2.2.1
  have gS := g.2.1
  have hn2 : nP I ≤ 6 := gP.1.1.2
  have hnS : nS I ≤ 16 := gS.1.1.2
  have e : I 38 22 = nI (nP I) := gP.1.1.1
  have e' : I 0 4 = nI (nP I) := gP.1.2.trans e
  have hN : 77 ≤ D.2.2.2 := g.1
  have c1 : nI (nP I) < (6 : Int32) ↔ nP I < 6 := nI_lt_iff (b := 6) (by omega) (by decide)
  have c2 : nI (nP I) = (6 : Int32) ↔ nP I = 6 := nI_eq_iff (b := 6) (by omega) (by decide)
  have es : t_X11_in s.toInt64 0 1439 = t_X10_isWithin s 0 1439 := w_in32 (lo := 0) (hi := 1439)
  have em : t_X11_in m.toInt64 0 30 = t_X10_isWithin m 0 30 := w_in32 (lo := 0) (hi := 30)
  have er : t_X11_in r.toInt64 0 3 = t_X10_isWithin r 0 3 := w_in32 (lo := 0) (hi := 3)
  have hst : (mkS D).1 0 0 = 2 := rfl
  unfold f_X10_trip
  rw [hst, gd_pos (by decide), show 2 - 1 = 1 from rfl]
  rcases stop_cases gS x with ⟨h1, h2⟩ | ⟨a, ha, ea, h1, h2⟩
  · refine ⟨-1, D, I, I, by rw [h1]; rfl, ?_, g⟩
    unfold Rf_X11_trip
    rw [h2, if_neg i1ne]
  rcases stop_cases gS y with ⟨h3, h4⟩ | ⟨b, hb, eb, h3, h4⟩
  · refine ⟨-1, D, I, I, by rw [h1, h3]; rfl, ?_, g⟩
    unfold Rf_X11_trip
    rw [h2, h4, if_pos rfl, if_neg i1ne]
  rw [h1, h3, if_neg i1ne, if_neg i1ne]
  rcases within_cases s 0 1439 with h5 | ⟨h5, s1, s2⟩
  · refine ⟨-2, D, I, I, by rw [h5]; rfl, ?_, g⟩
    unfold Rf_X11_trip
    rw [h2, h4, if_pos rfl, if_pos rfl, es, h5, if_pos rfl]
  rcases within_cases m 0 30 with h6 | ⟨h6, m1, m2⟩
  · refine ⟨-2, D, I, I, by rw [h5, h6]; rfl, ?_, g⟩
    unfold Rf_X11_trip
    rw [h2, h4, if_pos rfl, if_pos rfl, es, h5, if_neg i1ne, em, h6, if_pos rfl]
  rcases within_cases r 0 3 with h7 | ⟨h7, r1, r2⟩
  · refine ⟨-2, D, I, I, by rw [h5, h6, h7]; rfl, ?_, g⟩
    unfold Rf_X11_trip
    rw [h2, h4, if_pos rfl, if_pos rfl, es, h5, if_neg i1ne, em, h6, if_neg i1ne, er, h7, if_pos rfl]
  rw [h5, h6, h7, if_neg i1ne, if_neg i1ne, if_neg i1ne, e']
  by_cases q : nP I = 6
  · refine ⟨-4, D, I, I, by rw [if_neg (fun z => by have := c1.mp z; omega)], ?_, g⟩
    unfold Rf_X11_trip
    rw [h2, h4, if_pos rfl, if_pos rfl, es, h5, if_neg i1ne, em, h6, if_neg i1ne, er, h7, if_neg i1ne, e, if_pos (c2.mpr q)]
  · rw [if_pos (c1.mpr (by omega))]
    obtain ⟨N, eN⟩ : ∃ N, D.2.2.2 = N := ⟨_, rfl⟩
    obtain ⟨n, en⟩ : ∃ n, nP I = n := ⟨_, rfl⟩
    have kn := nx_nI (k := n) (by omega)
    have hin : inb (nwS (mkS D) 8 0) 8 (nI n) := by
      rw [mk_nw hN]
      exact ⟨by decide, nI_nn (by omega), by rw [kn]; show n < 6; omega⟩
    refine ⟨nI n, adD D 8 7 n, upI (upI (upI (upI (upI (upI (nwI (mkS D) I) N 0 x) N 1 y) N 2 s) N 3 m) N 4 r) 0 4 (nI (n + 1)), upI (upI (upI (upI (upI (upI (upI (upI (upI (upI (upI (upI (nwI (mkS D) I) N 0 x) N 1 y) N 2 s) N 3 m) N 4 r) 0 4 (nI (n + 1))) 56 n x) 57 n y) 58 n s) 59 n m) 60 n r) 38 22 (nI (n + 1)), ?_, ?_, ?_⟩
    · have h14 : (mkS D).1 0 3 = 8 := rfl
      have hNN : (mkS D).2.2.2 = N := eN
      have k9 : upI (upI (upI (upI (upI (nwI (mkS D) I) N 0 x) N 1 y) N 2 s) N 3 m) N 4 r 0 4 = nI n := by
        rw [upI_row (by omega), upI_row (by omega), upI_row (by omega), upI_row (by omega), upI_row (by omega)]
        show (if 0 = (mkS D).2.2.2 then 0 else I 0 4) = _
        rw [hNN, if_neg (by omega), e', en]
      unfold f_X8_init
      simp only [lt, Option.bind_some, hNN, h14, en]
      rw [gd_pos hin, k9, nI_1, upI_at, ← nI_1, Int32.add_sub_cancel, kn, mk_nw hN, mk_up rfl, ← eN]
      rfl
    · have kJ : upI (upI (upI (upI (upI (upI (nwI (mkS D) I) N 0 x) N 1 y) N 2 s) N 3 m) N 4 r) 0 4 (nI (n + 1)) 38 22 = nI n := by
        rw [upI_row (by omega), upI_row (by omega), upI_row (by omega), upI_row (by omega), upI_row (by omega), upI_row (by omega)]
        show (if 38 = (mkS D).2.2.2 then 0 else I 38 22) = _
        rw [show (mkS D).2.2.2 = N from eN, if_neg (by omega), e, en]
      have kS : upI (upI (upI (upI (upI (upI (nwI (mkS D) I) N 0 x) N 1 y) N 2 s) N 3 m) N 4 r) 0 4 (nI (n + 1)) 38 1 = I 38 1 := by
        rw [upI_row (by omega), upI_row (by omega), upI_row (by omega), upI_row (by omega), upI_row (by omega), upI_row (by omega)]
        show (if 38 = (mkS D).2.2.2 then 0 else I 38 1) = _
        rw [show (mkS D).2.2.2 = N from eN, if_neg (by omega)]
      generalize upI (upI (upI (upI (upI (upI (nwI (mkS D) I) N 0 x) N 1 y) N 2 s) N 3 m) N 4 r) 0 4 (nI (n + 1)) = J at kJ kS
      have i4 : ∀ a, a ≠ 0 → inbL a 6 (nI n) := fun a ha => ⟨ha, nI_nn (by omega), by rw [kn]; omega⟩
      have ns : ∀ z, t_X11_noStop J 38 z = t_X11_noStop I 38 z := fun z => by unfold t_X11_noStop; rw [kS]
      have t0 : upI J 56 n x 38 22 = nI n := by rw [upI_row (by decide), kJ]
      have t1 : upI (upI J 56 n x) 57 n y 38 22 = nI n := by rw [upI_row (by decide), t0]
      have t2 : upI (upI (upI J 56 n x) 57 n y) 58 n s 38 22 = nI n := by rw [upI_row (by decide), t1]
      have t3 : upI (upI (upI (upI J 56 n x) 57 n y) 58 n s) 59 n m 38 22 = nI n := by rw [upI_row (by decide), t2]
      have t4 : upI (upI (upI (upI (upI J 56 n x) 57 n y) 58 n s) 59 n m) 60 n r 38 22 = nI n := by rw [upI_row (by decide), t3]
      unfold Rf_X11_trip wrN
      simp only [lt]
      rw [ns, ns, h2, h4, if_pos rfl, if_pos rfl, es, h5, if_neg i1ne, em, h6, if_neg i1ne, er, h7, if_neg i1ne, kJ, if_neg (fun z => q (c2.mp (by rw [en]; exact z))), gd_pos (i4 _ (by decide)), kn, t0, gd_pos (i4 _ (by decide)), kn, t1, gd_pos (i4 _ (by decide)), kn, t2, gd_pos (i4 _ (by decide)), kn, t3, gd_pos (i4 _ (by decide)), kn, t4, upI_at, nI_1, ← nI_1, Int32.add_sub_cancel]
    · have hK : ∀ a k, ¬ (a = N ∨ (a = 0 ∧ k = 4) ∨ (a = 38 ∧ k = 22) ∨ ((56 ≤ a ∧ a ≤ 60) ∧ k = n)) → upI (upI (upI (upI (upI (upI (upI (upI (upI (upI (upI (upI (nwI (mkS D) I) N 0 x) N 1 y) N 2 s) N 3 m) N 4 r) 0 4 (nI (n + 1))) 56 n x) 57 n y) 58 n s) 59 n m) 60 n r) 38 22 (nI (n + 1)) a k = I a k := by
        intro a k z
        simp only [upI, nwI, show (mkS D).2.2.2 = N from eN]
        rw [if_neg (by omega), if_neg (by omega), if_neg (by omega), if_neg (by omega), if_neg (by omega), if_neg (by omega), if_neg (by omega), if_neg (by omega), if_neg (by omega), if_neg (by omega), if_neg (by omega), if_neg (by omega), if_neg (by omega)]
      have v1 : upI (upI (upI (upI (upI (upI (upI (upI (upI (upI (upI (upI (nwI (mkS D) I) N 0 x) N 1 y) N 2 s) N 3 m) N 4 r) 0 4 (nI (n + 1))) 56 n x) 57 n y) 58 n s) 59 n m) 60 n r) 38 22 (nI (n + 1)) 38 22 = nI (n + 1) := upI_at
      have v2 : upI (upI (upI (upI (upI (upI (upI (upI (upI (upI (upI (upI (nwI (mkS D) I) N 0 x) N 1 y) N 2 s) N 3 m) N 4 r) 0 4 (nI (n + 1))) 56 n x) 57 n y) 58 n s) 59 n m) 60 n r) 38 22 (nI (n + 1)) 0 4 = nI (n + 1) := by
        rw [upI_row (by omega), upI_row (by omega), upI_row (by omega), upI_row (by omega), upI_row (by omega), upI_row (by omega), upI_at]
      have c56 : upI (upI (upI (upI (upI (upI (upI (upI (upI (upI (upI (upI (nwI (mkS D) I) N 0 x) N 1 y) N 2 s) N 3 m) N 4 r) 0 4 (nI (n + 1))) 56 n x) 57 n y) 58 n s) 59 n m) 60 n r) 38 22 (nI (n + 1)) 56 n = x := by
        rw [upI_row (by omega), upI_row (by omega), upI_row (by omega), upI_row (by omega), upI_row (by omega), upI_at]
      have c57 : upI (upI (upI (upI (upI (upI (upI (upI (upI (upI (upI (upI (nwI (mkS D) I) N 0 x) N 1 y) N 2 s) N 3 m) N 4 r) 0 4 (nI (n + 1))) 56 n x) 57 n y) 58 n s) 59 n m) 60 n r) 38 22 (nI (n + 1)) 57 n = y := by
        rw [upI_row (by omega), upI_row (by omega), upI_row (by omega), upI_row (by omega), upI_at]
      have c58 : upI (upI (upI (upI (upI (upI (upI (upI (upI (upI (upI (upI (nwI (mkS D) I) N 0 x) N 1 y) N 2 s) N 3 m) N 4 r) 0 4 (nI (n + 1))) 56 n x) 57 n y) 58 n s) 59 n m) 60 n r) 38 22 (nI (n + 1)) 58 n = s := by
        rw [upI_row (by omega), upI_row (by omega), upI_row (by omega), upI_at]
      have c59 : upI (upI (upI (upI (upI (upI (upI (upI (upI (upI (upI (upI (nwI (mkS D) I) N 0 x) N 1 y) N 2 s) N 3 m) N 4 r) 0 4 (nI (n + 1))) 56 n x) 57 n y) 58 n s) 59 n m) 60 n r) 38 22 (nI (n + 1)) 59 n = m := by
        rw [upI_row (by omega), upI_row (by omega), upI_at]
      have c60 : upI (upI (upI (upI (upI (upI (upI (upI (upI (upI (upI (upI (nwI (mkS D) I) N 0 x) N 1 y) N 2 s) N 3 m) N 4 r) 0 4 (nI (n + 1))) 56 n x) 57 n y) 58 n s) 59 n m) 60 n r) 38 22 (nI (n + 1)) 60 n = r := by
        rw [upI_row (by omega), upI_at]
      have w0 : upI (upI (upI (upI (upI (upI (upI (upI (upI (upI (upI (upI (nwI (mkS D) I) N 0 x) N 1 y) N 2 s) N 3 m) N 4 r) 0 4 (nI (n + 1))) 56 n x) 57 n y) 58 n s) 59 n m) 60 n r) 38 22 (nI (n + 1)) N 0 = x := by
        rw [upI_row (by omega), upI_row (by omega), upI_row (by omega), upI_row (by omega), upI_row (by omega), upI_row (by omega), upI_row (by omega), upI_cell (by decide), upI_cell (by decide), upI_cell (by decide), upI_cell (by decide), upI_at]
      have w1 : upI (upI (upI (upI (upI (upI (upI (upI (upI (upI (upI (upI (nwI (mkS D) I) N 0 x) N 1 y) N 2 s) N 3 m) N 4 r) 0 4 (nI (n + 1))) 56 n x) 57 n y) 58 n s) 59 n m) 60 n r) 38 22 (nI (n + 1)) N 1 = y := by
        rw [upI_row (by omega), upI_row (by omega), upI_row (by omega), upI_row (by omega), upI_row (by omega), upI_row (by omega), upI_row (by omega), upI_cell (by decide), upI_cell (by decide), upI_cell (by decide), upI_at]
      have w2 : upI (upI (upI (upI (upI (upI (upI (upI (upI (upI (upI (upI (nwI (mkS D) I) N 0 x) N 1 y) N 2 s) N 3 m) N 4 r) 0 4 (nI (n + 1))) 56 n x) 57 n y) 58 n s) 59 n m) 60 n r) 38 22 (nI (n + 1)) N 2 = s := by
        rw [upI_row (by omega), upI_row (by omega), upI_row (by omega), upI_row (by omega), upI_row (by omega), upI_row (by omega), upI_row (by omega), upI_cell (by decide), upI_cell (by decide), upI_at]
      have w3 : upI (upI (upI (upI (upI (upI (upI (upI (upI (upI (upI (upI (nwI (mkS D) I) N 0 x) N 1 y) N 2 s) N 3 m) N 4 r) 0 4 (nI (n + 1))) 56 n x) 57 n y) 58 n s) 59 n m) 60 n r) 38 22 (nI (n + 1)) N 3 = m := by
        rw [upI_row (by omega), upI_row (by omega), upI_row (by omega), upI_row (by omega), upI_row (by omega), upI_row (by omega), upI_row (by omega), upI_cell (by decide), upI_at]
      have w4 : upI (upI (upI (upI (upI (upI (upI (upI (upI (upI (upI (upI (nwI (mkS D) I) N 0 x) N 1 y) N 2 s) N 3 m) N 4 r) 0 4 (nI (n + 1))) 56 n x) 57 n y) 58 n s) 59 n m) 60 n r) 38 22 (nI (n + 1)) N 4 = r := by
        rw [upI_row (by omega), upI_row (by omega), upI_row (by omega), upI_row (by omega), upI_row (by omega), upI_row (by omega), upI_row (by omega), upI_at]
      generalize upI (upI (upI (upI (upI (upI (upI (upI (upI (upI (upI (upI (nwI (mkS D) I) N 0 x) N 1 y) N 2 s) N 3 m) N 4 r) 0 4 (nI (n + 1))) 56 n x) 57 n y) 58 n s) 59 n m) 60 n r) 38 22 (nI (n + 1)) = K at hK v1 v2 c56 c57 c58 c59 c60 w0 w1 w2 w3 w4
      have hold : Old D (adD D 8 7 n) := adD_old (by decide)
      have hrow : ∀ a j, a < 77 → a ≠ 7 → (adD D 8 7 n).1 a j = D.1 a j := fun a j z1 z2 => adD_row (by omega) (by omega)
      have k1 : nx (nI (n + 1)) = n + 1 := nx_nI (by omega)
      have kS : K 38 1 = I 38 1 := hK _ _ (by omega)
      obtain ⟨g0, g1, g2, g3, g4, g5, g6, g7, g8⟩ := g
      refine ⟨by show 77 ≤ D.2.2.2 + 1; omega, g1.co (fun a k z => hK a k (by unfold rdS at z; omega)), g2.ce hold (fun l _ => hrow 5 l (by decide) (by decide)) (fun a k z z2 => hK a k (by unfold rdL at z; omega)), g3.ce hold (fun l _ => hrow 6 l (by decide) (by decide)) (fun a k z z2 => hK a k (by unfold rdT at z; omega)), ?_, g5.ce (fun l _ => hrow 5 l (by decide) (by decide)) (fun l _ => hrow 12 l (by decide) (by decide)) (fun a k z => hK a k (by unfold rdO at z; omega)), g6.ce hold (fun l _ => hrow 13 l (by decide) (by decide)) (fun a k z z2 => hK a k (by unfold rdD at z; omega)), g7.co (fun a k z => hK a k (by unfold rdR at z; omega)), g8.co (fun a k z => hK a k (by unfold rdH at z; omega))⟩
      refine ⟨by rw [v1, v2]; exact ⟨isN_nI (by omega) (by decide), rfl⟩, fun t ht => ?_⟩
      have ht' : t < n + 1 := by unfold nP at ht; rw [v1, k1] at ht; exact ht
      by_cases qt : t = n
      · subst qt
        have hpa : pa (adD D 8 7 t) t = N := by unfold pa; rw [adD_new, eN, Nat.add_sub_cancel]
        have xa : nx x = a := by rw [ea]; exact nx_nI (by omega)
        have yb : nx y = b := by rw [eb]; exact nx_nI (by omega)
        unfold nS at *
        rw [hpa, adD_new, c56, c57, c58, c59, c60, w0, w1, w2, w3, w4, kS, xa, yb]
        refine ⟨⟨by omega, by show N < D.2.2.2 + 1; omega, by rw [← eN]; exact adD_tag⟩, ⟨⟨by rw [xa]; exact ea, by omega⟩, ha, ⟨by rw [yb]; exact eb, by omega⟩, hb, ⟨nI_nx (le0 s1), nx_le (le0 s1) (n := 1439) (by decide) s2⟩, ⟨nI_nx (le0 m1), nx_le (le0 m1) (n := 30) (by decide) m2⟩, ⟨nI_nx (le0 r1), nx_le (le0 r1) (n := 3) (by decide) r2⟩⟩, rfl, rfl, rfl, rfl, rfl⟩
      · obtain ⟨⟨x1, x2, x3⟩, x4, x5⟩ := g4.2 t (by omega)
        have hA : 77 ≤ pa D t := by unfold pa; omega
        have hr : (adD D 8 7 n).1 7 t = D.1 7 t := adD_row (by omega) (by omega)
        have hpa : pa (adD D 8 7 n) t = pa D t := by unfold pa; rw [hr]
        unfold nS at *
        rw [hpa, hr, (hold.2.1 (pa D t) x2).1, kS, hK 56 t (by omega), hK 57 t (by omega), hK 58 t (by omega), hK 59 t (by omega), hK 60 t (by omega), hK (pa D t) 0 (by omega), hK (pa D t) 1 (by omega), hK (pa D t) 2 (by omega), hK (pa D t) 3 (by omega), hK (pa D t) 4 (by omega)]
        exact ⟨⟨x1, by show pa D t < D.2.2.2 + 1; omega, x3⟩, x4, x5⟩
