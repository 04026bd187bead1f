/-! calls on lines: ofLine, minute, far, days, hail, as, tell -/
theorem size_adf {p q : Nat} (hp : p < 1000000) (hq : q < 1000000) : t_X11_sizeOf (nI p - nI q) = nI (adf p q) := by
  unfold t_X11_sizeOf adf
  by_cases h : q ≤ p
  · rw [nI_sub h, if_pos, show p - q + (q - p) = p - q by omega]
    rw [show (0 : Int32) = nI 0 from rfl, nI_le_iff (by decide) (by omega)]
    omega
  · have e : nI p - nI q = -nI (q - p) := by
      rw [← nI_sub (a := q) (b := p) (by omega), Int32.neg_sub]
    have e2 : (nI p - nI q).toInt = (p : Int) - q := by
      rw [i32_sub] <;> rw [toInt_nI (by omega), toInt_nI (by omega)] <;> omega
    rw [if_neg, e, Int32.neg_neg, show p - q + (q - p) = q - p by omega]
    rw [Int32.le_iff_toInt_le, e2, Int32.toInt_zero]
    omega
theorem jabs_adf {p q : Nat} (hp : p < 1000000) (hq : q < 1000000) : jabs (nI p - nI q) = nI (adf p q) := by
  rw [← size_adf hp hq]
  unfold jabs t_X11_sizeOf
  split
  · rfl
  · exact Int32.zero_sub _
theorem far_le {I : II} (g : GS I) {a b : Nat} (ha : a < nS I) (hb : b < nS I) : far I a b ≤ 80 := by
  obtain ⟨⟨a1, a2⟩, -⟩ := g.2.1 a ha
  obtain ⟨⟨b1, b2⟩, -⟩ := g.2.1 b hb
  have h1 := a1.2
  have h2 := a2.2
  have h3 := b1.2
  have h4 := b2.2
  unfold far adf
  omega
theorem m_far (fu : Nat) {D : Dn} {I : II} (g : GS I) {a b : Nat} (ha : a < nS I) (hb : b < nS I) : Rf_X11_farOf fu (mkS D) I (nI a) (nI b) = some (nI (far I a b)) := by
  obtain ⟨⟨a1, a2⟩, -⟩ := g.2.1 a ha
  obtain ⟨⟨b1, b2⟩, -⟩ := g.2.1 b hb
  have hn : nS I ≤ 16 := g.1.1.2
  have h1 := a1.2
  have h2 := a2.2
  have h3 := b1.2
  have h4 := b2.2
  have ea := nx_nI (k := a) (by omega)
  have eb := nx_nI (k := b) (by omega)
  have hia : ∀ q, q ≠ 0 → inbL q 16 (nI a) := fun q hq => ⟨hq, nI_nn (by omega), by rw [ea]; omega⟩
  have hib : ∀ q, q ≠ 0 → inbL q 16 (nI b) := fun q hq => ⟨hq, nI_nn (by omega), by rw [eb]; omega⟩
  unfold Rf_X11_farOf rdN
  rw [gd_pos (hia _ (by decide)), gd_pos (hib _ (by decide)), gd_pos (hia _ (by decide)), gd_pos (hib _ (by decide)), ea, eb, a1.1, a2.1, b1.1, b2.1, size_adf (by omega) (by omega), size_adf (by omega) (by omega), nI_add]
  rfl
theorem ix16 {a b : Nat} : nI a * (16 : Int32) + nI b = nI (16 * a + b) := by
  rw [show (16 : Int32) = nI 16 from rfl, nI_mul, nI_add, Nat.mul_comm]
theorem x_walk (fu : Nat) {D : Dn} {I : II} (g : GS I) {a b : Nat} (ha : a < nS I) (hb : b < nS I) : Rf_X2_walk fu (mkS D) I (nI a) (nI b) = some (nI (far I a b)) := by
  have hn : nS I ≤ 16 := g.1.1.2
  have e := nx_nI (k := 16 * a + b) (by omega)
  unfold Rf_X2_walk rdN
  rw [ix16, gd_pos ⟨by decide, nI_nn (by omega), by rw [e]; omega⟩, e, g.2.2 a b ha hb]
theorem p_far (fu : Nat) {D : Dn} {I : II} (g : Inv D I) (x y : Int32) : ∃ r, Rf_X10_far fu (mkS D) I x y = some r ∧ Rf_X11_far fu (mkS D) I x y = some r := by
  have gS := g.2.1
  unfold Rf_X10_far Rf_X11_far
  rcases stop_cases gS x with ⟨h1, h2⟩ | ⟨a, ha, rfl, h1, h2⟩
  · rw [h1, h2]; exact ⟨_, rfl, rfl⟩
  · rw [h1, h2]
    rcases stop_cases gS y with ⟨h3, h4⟩ | ⟨b, hb, rfl, h3, h4⟩
    · rw [h3, h4]; exact ⟨_, rfl, rfl⟩
    · rw [h3, h4, x_walk fu gS ha hb, m_far fu gS ha hb]
      exact ⟨_, rfl, rfl⟩
theorem place_cases {I : II} {a : Nat} {z : Nat} (hz : z ≤ 8) (e : I a 5 = nI z) (x : Int32) : (t_X1_hasPlace I a x = 0 ∧ (x < 0 ∨ nI z ≤ x)) ∨ ∃ k, k < z ∧ x = nI k ∧ t_X1_hasPlace I a x = 1 ∧ ¬ x < 0 ∧ ¬ nI z ≤ x := by
  unfold t_X1_hasPlace
  rw [e]
  rcases cnt_cases x (n := z) (by omega) with h | ⟨k, h1, h2, h3, h4⟩
  · left
    refine ⟨?_, h⟩
    rcases h with h | h
    · rw [if_pos h]
    · split
      · rfl
      · rfl
  · right
    exact ⟨k, h1, h2, by rw [if_neg h3, if_neg h4], h3, h4⟩
theorem p_minute (fu : Nat) {D : Dn} {I : II} (g : Inv D I) (x k m : Int32) : ∃ r, Rf_X10_minute fu (mkS D) I x k m = some r ∧ Rf_X11_minute fu (mkS D) I x k m = some r := by
  have gL := g.2.2.1
  have hn : nL I ≤ 14 := gL.1.1.2
  unfold Rf_X10_minute Rf_X11_minute
  rcases line_cases fu gL x with ⟨h1, h2⟩ | ⟨l, hl, rfl, h1, h2⟩
  · rw [h1, h2]; exact ⟨_, rfl, rfl⟩
  · rw [h1, h2]
    obtain ⟨r, hX⟩ := gL.2.1 l hl
    obtain ⟨a1, a2, a3⟩ := hX.at
    have hk := nx_nI (k := l) (by omega)
    obtain ⟨e1, e2, e3, e4, e5⟩ := r.nums
    obtain ⟨b1, b2, b3, b4, b5, b6, b7⟩ := r.bds
    simp only [Option.bind_some, if_neg a1, a2, rdN, hk, e2]
    rw [gd_pos ⟨by decide, nI_nn (by omega), by omega⟩, if_pos trivial]
    have hx5 : I (la D l) 5 = nI (lZ I l) := hX.2.2.1.2.2.2.2.2.1.trans e2
    rcases place_cases b3 hx5 k with ⟨h3, h4⟩ | ⟨k, hk2, rfl, h3, h4, h5⟩
    · rw [h3, w_up_no (by omega) h4]; exact ⟨_, rfl, rfl⟩
    · rw [h3, w_up_yes (by omega) h4 h5]
      simp only [if_neg i1ne]
      rw [show t_X11_in m.toInt64 0 2879 = t_X10_isWithin m 0 2879 from w_in32 (lo := 0) (hi := 2879), w_within]
      by_cases q1 : m < 0
      · have c : ¬ ((0 : Int32) ≤ m ∧ m ≤ 2879) := fun h => absurd q1 (Int32.not_lt.mpr h.1)
        rw [if_pos q1, if_neg c, if_pos rfl]; exact ⟨_, rfl, rfl⟩
      · rw [if_neg q1]
        by_cases q2 : m < 2880
        · have hm : nx m < 2880 := nx_lt q1 (n := 2880) (by decide) q2
          have em := nI_nx q1
          have hle : m ≤ 2879 := by
            rw [em, show (2879 : Int32) = nI 2879 from rfl, nI_le_iff (by omega) (by decide)]
            omega
          have h0 : (0 : Int32) ≤ m := Int32.not_lt.mp q1
          have c : (0 : Int32) ≤ m ∧ m ≤ 2879 := ⟨h0, hle⟩
          rw [if_pos q2, if_pos c, if_neg i1ne, em, x_sob fu r hX hk2 (by omega), m_minAt fu (by omega) r hk2 (by omega)]
          obtain ⟨p1, p2, -⟩ := x_after D hX
          have ho := (r.2.1 k hk2).2.2.1
          have ho2 : lO I l k ≤ 30 * k := ho.2
          have hkk := nx_nI (k := k) (by omega)
          simp only [Option.bind_some, p1, rd, hkk, show la D l + 3 - 1 = la D l + 2 from rfl, (hX.2.2.2 k hk2).2.1, show I 44 (8 * l + k) = nI (lO I l k) from ho.1]
          by_cases q3 : bidx I l k (nx m) < nb I l
          · have hb := (bus_in (b := bidx I l k (nx m)) r).mpr q3
            rw [if_pos q3, if_pos q3, if_neg, if_neg, gd_pos ⟨by omega, nI_nn (by omega), by rw [hkk, p2]; omega⟩, nI_add]
            · exact ⟨_, rfl, rfl⟩
            · rw [show (1000000 : Int32) = nI 1000000 from rfl, nI_eq_iff (by show _ < _; have : lO I l k = nx (I 44 (8 * l + k)) := rfl; omega) (by decide)]
              have : lO I l k = nx (I 44 (8 * l + k)) := rfl
              omega
            · rw [show (1073741824 : Int32) = nI 1073741824 from rfl, nI_eq_iff (by omega) (by decide)]
              omega
          · rw [if_neg q3, if_neg q3, if_pos rfl, if_pos rfl]
            exact ⟨_, rfl, rfl⟩
        · have c : ¬ ((0 : Int32) ≤ m ∧ m ≤ 2879) := by
            rintro ⟨-, h⟩
            apply q2
            have em := nI_nx q1
            have := nx_le q1 (n := 2879) (by decide) h
            rw [em, show (2880 : Int32) = nI 2880 from rfl, nI_lt_iff (nx_bd m) (by decide)]
            omega
          rw [if_neg q2, if_neg c, if_pos rfl]
          exact ⟨_, rfl, rfl⟩
