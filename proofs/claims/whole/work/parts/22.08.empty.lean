/-! empty -/
def td (I : II) (s d : Nat) : Nat := adf (nx (I 39 s)) (nx (I 64 d)) + adf (nx (I 40 s)) (nx (I 65 d))
def em (I : II) (l d : Nat) : Nat := td I (lS I l 0) d + td I (lS I l (lZ I l - 1)) d
theorem x_walkFrom (fu : Nat) {D : Dn} {I : II} (g : GS I) {s a b : Nat} (hs : s < nS I) (ha : a ≤ 40) (hb : b ≤ 40) : Rf_X2_walkFrom fu (mkS D) I (nI s) (nI a) (nI b) = some (nI (adf (nx (I 39 s)) a + adf (nx (I 40 s)) b)) := by
  have hn : nS I ≤ 16 := g.1.1.2
  obtain ⟨⟨s1, s2⟩, s3, s4⟩ := g.2.1 s hs
  have e := nx_nI (k := s) (by omega)
  have h1 := s1.2
  have h2 := s2.2
  unfold Rf_X2_walkFrom rdN
  rw [gd_pos ⟨by decide, nI_nn (by omega), by rw [e]; omega⟩, gd_pos ⟨by decide, nI_nn (by omega), by rw [e]; omega⟩, e, s3, s4]
  conv => lhs; rw [s1.1, s2.1]
  rw [jabs_adf (by omega) (by omega), jabs_adf (by omega) (by omega), nI_add]
theorem m_toDepot (fu : Nat) {D : Dn} {I : II} (g : GS I) (gd' : GD D I) {s d : Nat} (hs : s < nS I) (hd : d < nD I) : Rf_X11_toDepot fu (mkS D) I (nI s) (nI d) = some (nI (td I s d)) := by
  have hn : nS I ≤ 16 := g.1.1.2
  have hn2 : nD I ≤ 4 := gd'.1.1.2
  obtain ⟨⟨s1, s2⟩, -⟩ := g.2.1 s hs
  obtain ⟨-, ⟨d1, d2, -⟩, -⟩ := gd'.2 d hd
  have e := nx_nI (k := s) (by omega)
  have e2 := nx_nI (k := d) (by omega)
  have h1 := s1.2
  have h2 := s2.2
  have h3 := d1.2
  have h4 := d2.2
  unfold Rf_X11_toDepot rdN td
  rw [gd_pos ⟨by decide, nI_nn (by omega), by rw [e]; omega⟩, gd_pos ⟨by decide, nI_nn (by omega), by rw [e2]; omega⟩, gd_pos ⟨by decide, nI_nn (by omega), by rw [e]; omega⟩, gd_pos ⟨by decide, nI_nn (by omega), by rw [e2]; omega⟩, e, e2]
  conv => lhs; rw [s1.1, s2.1, d1.1, d2.1]
  rw [size_adf (by omega) (by omega), size_adf (by omega) (by omega), nI_add]
theorem m_emptyOf (fu : Nat) {D : Dn} {I : II} (g : GS I) (gd' : GD D I) {l d : Nat} (hl : l < 14) (r : RLn I l) (hd : d < nD I) : Rf_X11_emptyOf fu (mkS D) I (nI l) (nI d) = some (nI (em I l d)) := by
  obtain ⟨e1, e2, e3, e4, e5⟩ := r.nums
  obtain ⟨b1, b2, b3, b4, b5, b6, b7⟩ := r.bds
  have hk := nx_nI (k := l) (by omega)
  have e8 : (8 : Int32) * nI l = nI (8 * l) := by rw [show (8 : Int32) = nI 8 from rfl, nI_mul]
  have k0 := nx_nI (k := 8 * l) (by omega)
  have k1 := nx_nI (k := 8 * l + (lZ I l - 1)) (by omega)
  obtain ⟨u1, u2, -⟩ := r.2.1 0 (by omega)
  obtain ⟨v1, v2, -⟩ := r.2.1 (lZ I l - 1) (by omega)
  have es : I 43 (8 * l) = nI (lS I l 0) := u1.1
  have es2 : I 43 (8 * l + (lZ I l - 1)) = nI (lS I l (lZ I l - 1)) := v1.1
  have e9 : nI (8 * l) + nI (lZ I l) - 1 = nI (8 * l + (lZ I l - 1)) := by
    rw [nI_add, show (1 : Int32) = nI 1 from rfl, nI_sub (by omega)]
    congr 1
    omega
  unfold Rf_X11_emptyOf rdN
  rw [e8, gd_pos ⟨by decide, nI_nn (by omega), by rw [k0]; omega⟩, k0, es, m_toDepot fu g gd' u2 hd, Option.bind_some, gd_pos ⟨by decide, nI_nn (by omega), by rw [hk]; omega⟩, hk, e2, e9, gd_pos ⟨by decide, nI_nn (by omega), by rw [k1]; omega⟩, k1, es2, m_toDepot fu g gd' v2 hd, Option.bind_some, nI_add]
  rfl
theorem x_depot {D : Dn} {I : II} (g : GD D I) {d : Nat} (hd : d < nD I) : D.1 13 d ≠ 0 ∧ D.1 13 d - 1 = da D d ∧ (mkS D).1 13 d = D.1 13 d ∧ 77 ≤ da D d := by
  obtain ⟨⟨y1, y2, y3⟩, -⟩ := g.2 d hd
  exact ⟨by omega, rfl, rfl, by unfold da; omega⟩
theorem x_emptyOf (fu : Nat) {D : Dn} {I : II} (g : GS I) (gd' : GD D I) {l d : Nat} (r : RLn I l) (x : XLn D I l) (hd : d < nD I) : Rf_X10_emptyMinutes fu (mkS D) I (D.1 5 l) (D.1 13 d) = some (nI (em I l d)) := by
  obtain ⟨e1, e2, e3, e4, e5⟩ := r.nums
  obtain ⟨b1, b2, b3, b4, b5, b6, b7⟩ := r.bds
  obtain ⟨-, -, p5, p6, -⟩ := x_after D x
  obtain ⟨a1, a2, a3⟩ := x.at
  obtain ⟨c1, c2, c3, c4⟩ := x_depot gd' hd
  obtain ⟨-, ⟨d1, d2, -⟩, z1, z2, -⟩ := gd'.2 d hd
  have xk := x.2.2.2
  have x5 : I (la D l) 5 = nI (lZ I l) := x.2.2.1.2.2.2.2.2.1.trans e2
  have e21 : nI (lZ I l) - 1 = nI (lZ I l - 1) := by rw [show (1 : Int32) = nI 1 from rfl, nI_sub (by omega)]
  have k1 := nx_nI (k := lZ I l - 1) (by omega)
  obtain ⟨u1, u2, -⟩ := r.2.1 0 (by omega)
  obtain ⟨v1, v2, -⟩ := r.2.1 (lZ I l - 1) (by omega)
  have es : I (la D l + 1) 0 = nI (lS I l 0) := (xk 0 (by omega)).1.trans u1.1
  have es2 : I (la D l + 1) (lZ I l - 1) = nI (lS I l (lZ I l - 1)) := (xk (lZ I l - 1) (by omega)).1.trans v1.1
  have w1 : I (da D d) 0 = nI (nx (I 64 d)) := z1.trans d1.1
  have w2 : I (da D d) 1 = nI (nx (I 65 d)) := z2.trans d2.1
  unfold Rf_X10_emptyMinutes rd
  rw [gd_pos a1, a2, gd_pos c1, c2, p5, gd_pos ⟨by omega, by decide, by rw [p6]; decide⟩, x5, e21, show nx (0 : Int32) = 0 from rfl, w1, w2, show I (la D l + 2 - 1) 0 = nI (lS I l 0) from es, x_walkFrom fu g u2 d1.2 d2.2, Option.bind_some, gd_pos ⟨by omega, nI_nn (by omega), by rw [p6, k1]; omega⟩, k1, show I (la D l + 2 - 1) (lZ I l - 1) = nI (lS I l (lZ I l - 1)) from es2, x_walkFrom fu g v2 d1.2 d2.2, Option.bind_some, nI_add]
  rfl
theorem p_empty (fu : Nat) {D : Dn} {I : II} (g : Inv D I) (x y : Int32) : ∃ r, Rf_X10_empty fu (mkS D) I x y = some r ∧ Rf_X11_empty fu (mkS D) I x y = some r := by
  have gL := g.2.2.1
  have hn : nL I ≤ 14 := gL.1.1.2
  have gD := g.2.2.2.2.2.2.1
  have hn2 : nD I ≤ 4 := gD.1.1.2
  have e : I 38 36 = nI (nD I) := gD.1.1.1
  have e' : I 0 9 = nI (nD I) := gD.1.2.trans e
  unfold Rf_X10_empty Rf_X11_empty
  rcases line_cases fu gL x with ⟨h1, h2⟩ | ⟨l, hl, rfl, h1, h2⟩
  · rw [h1, h2]; exact ⟨_, rfl, rfl⟩
  · obtain ⟨r, hX⟩ := gL.2.1 l hl
    obtain ⟨a1, a2, a3⟩ := hX.at
    rw [h1, h2, e, e']
    simp only [Option.bind_some, if_neg a1, if_true]
    rcases cnt_cases y (n := nD I) (by omega) with h | ⟨d, hd, rfl, h3, h4⟩
    · rw [w_up_no (by omega) h, if_pos rfl]
      rcases h with h | h
      · rw [if_pos h]; exact ⟨_, rfl, rfl⟩
      · refine ⟨-1, ?_, rfl⟩
        split
        · rfl
        · rw [if_neg (Int32.not_lt.mpr h)]
    · have ed := nx_nI (k := d) (by omega)
      obtain ⟨c1, c2, c3, c4⟩ := x_depot gD hd
      rw [w_up_yes (by omega) h3 h4, if_neg h3, if_pos (Int32.not_le.mp h4), if_neg i1ne, gd_pos ⟨by decide, nI_nn (by omega), by rw [ed]; omega⟩, ed, c3, x_emptyOf fu g.2.1 gD r hX hd, m_emptyOf fu g.2.1 gD (by omega) r hd]
      exact ⟨_, rfl, rfl⟩
