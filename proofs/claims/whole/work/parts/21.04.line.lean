/-! a line's numbers: buses, the way round, the bus behind a minute -/
theorem i32_sub {x y : Int32} (h1 : -2147483648 ≤ x.toInt - y.toInt) (h2 : x.toInt - y.toInt < 2147483648) : (x - y).toInt = x.toInt - y.toInt := by
  rw [Int32.toInt_sub]
  exact Int.bmod_eq_of_le (by omega) (by omega)
theorem i32_add {x y : Int32} (h1 : -2147483648 ≤ x.toInt + y.toInt) (h2 : x.toInt + y.toInt < 2147483648) : (x + y).toInt = x.toInt + y.toInt := by
  rw [Int32.toInt_add]
  exact Int.bmod_eq_of_le (by omega) (by omega)
def nb (I : II) (l : Nat) : Nat := (lL I l - lF I l) / lE I l + 1
def rnd (I : II) (l : Nat) : Nat := lO I l (lZ I l - 1)
/-- which bus of the line is the first at its k-th stop at or behind a minute -/
def bidx (I : II) (l k m : Nat) : Nat := (m - (lO I l k + lF I l) + (lE I l - 1)) / lE I l
theorem RLn.nums {I : II} {l : Nat} (r : RLn I l) : I 41 l = nI (lK I l) ∧ I 42 l = nI (lZ I l) ∧ I 45 l = nI (lF I l) ∧ I 46 l = nI (lE I l) ∧ I 47 l = nI (lL I l) := by
  obtain ⟨⟨a1, a2, a3, a4, a5, a6, a7, a8, a9, a10⟩, -⟩ := r
  exact ⟨a1.1, a2.1, a4.1, a5.1, a7.1⟩
theorem RLn.bds {I : II} {l : Nat} (r : RLn I l) : lK I l ≤ 2 ∧ 2 ≤ lZ I l ∧ lZ I l ≤ 8 ∧ lF I l ≤ lL I l ∧ lL I l ≤ 1439 ∧ 1 ≤ lE I l ∧ lE I l ≤ 240 := by
  obtain ⟨⟨a1, a2, a3, a4, a5, a6, a7, a8, a9, a10⟩, -⟩ := r
  exact ⟨a1.2, a3, a2.2, a8, a7.2, a6, a5.2⟩
theorem nb_le {I : II} {l : Nat} (r : RLn I l) : nb I l ≤ 1440 := by
  obtain ⟨h1, h2, h3, h4, h5, h6, h7⟩ := r.bds
  unfold nb
  have : (lL I l - lF I l) / lE I l ≤ lL I l - lF I l := Nat.div_le_self _ _
  omega
theorem m_buses (fu : Nat) {D : Dn} {I : II} {l : Nat} (hl : l < 14) (r : RLn I l) : Rf_X11_buses fu (mkS D) I (nI l) = some (nI (nb I l)) := by
  obtain ⟨e1, e2, e3, e4, e5⟩ := r.nums
  obtain ⟨h1, h2, h3, h4, h5, h6, h7⟩ := r.bds
  have hk : nx (nI l) = l := nx_nI (by omega)
  unfold Rf_X11_buses rdN
  have hi : ∀ a, a ≠ 0 → inbL a 14 (nI l) := fun a ha => ⟨ha, nI_nn (by omega), by rw [hk]; omega⟩
  rw [gd_pos (hi _ (by decide)), gd_pos (hi _ (by decide)), gd_pos (hi _ (by decide)), hk, e3, e4, e5, gd_pos]
  · rw [nI_sub h4, nI_div (by omega) (by omega), show (1 : Int32) = nI 1 from rfl, nI_add]
    rfl
  · rw [show (0 : Int32) = nI 0 from rfl, nI_eq_iff (by omega) (by omega)]
    omega
theorem x_buses (fu : Nat) {D : Dn} {I : II} {l : Nat} (r : RLn I l) (x : XLn D I l) : f_X1_buses fu (mkS D) I (la D l) = some (nI (nb I l)) := by
  obtain ⟨e1, e2, e3, e4, e5⟩ := r.nums
  obtain ⟨h1, h2, h3, h4, h5, h6, h7⟩ := r.bds
  obtain ⟨-, -, ⟨x0, x1, x2, x3, x4, x5, x9, x10⟩, -⟩ := x
  unfold f_X1_buses
  rw [x2, x3, x4, e3, e4, e5, gd_pos]
  · rw [nI_sub h4, nI_div (by omega) (by omega), show (1 : Int32) = nI 1 from rfl, nI_add]
    rfl
  · rw [show (0 : Int32) = nI 0 from rfl, nI_eq_iff (by omega) (by omega)]
    omega
theorem ix8 {l k : Nat} : (8 : Int32) * nI l + nI k = nI (8 * l + k) := by
  rw [show (8 : Int32) = nI 8 from rfl, nI_mul, nI_add]
theorem m_round (fu : Nat) {D : Dn} {I : II} {l : Nat} (hl : l < 14) (r : RLn I l) : Rf_X11_roundOf fu (mkS D) I (nI l) = some (nI (rnd I l)) := by
  obtain ⟨e1, e2, e3, e4, e5⟩ := r.nums
  obtain ⟨h1, h2, h3, h4, h5, h6, h7⟩ := r.bds
  have hk : nx (nI l) = l := nx_nI (by omega)
  have e : (8 : Int32) * nI l + nI (lZ I l) - 1 = nI (8 * l + (lZ I l - 1)) := by
    rw [ix8, show (1 : Int32) = nI 1 from rfl, nI_sub (by omega)]
    congr 1
    omega
  have h8 : nx (nI (8 * l + (lZ I l - 1))) = 8 * l + (lZ I l - 1) := nx_nI (by omega)
  unfold Rf_X11_roundOf rdN
  rw [gd_pos ⟨by decide, nI_nn (by omega), by rw [hk]; omega⟩, hk, e2, e, gd_pos ⟨by decide, nI_nn (by omega), by rw [h8]; omega⟩, h8]
  rw [(r.2.1 (lZ I l - 1) (by omega)).2.2.1.1]
  rfl
theorem x_after (D : Dn) {I : II} {l : Nat} (x : XLn D I l) : (mkS D).1 (la D l) 7 = la D l + 3 ∧ (mkS D).2.2.1 (la D l + 3 - 1) = 8 ∧ (mkS D).1 (la D l) 6 = la D l + 2 ∧ (mkS D).2.2.1 (la D l + 2 - 1) = 8 ∧ (mkS D).1 (la D l) 8 = la D l + 4 ∧ (mkS D).2.2.1 (la D l + 4 - 1) = 8 := by
  obtain ⟨-, -, hA⟩ := x.at
  obtain ⟨-, ⟨y1, y2, y3, y4, y5, y6⟩, -⟩ := x
  rw [mk_dyn hA, mk_dyn hA, mk_dyn hA, show la D l + 3 - 1 = la D l + 2 from rfl, mk_len (a := la D l + 2) (by omega), show la D l + 2 - 1 = la D l + 1 from rfl, mk_len (a := la D l + 1) (by omega), show la D l + 4 - 1 = la D l + 3 from rfl, mk_len (a := la D l + 3) (by omega)]
  exact ⟨y2, y5, y1, y4, y3, y6⟩
theorem x_round (fu : Nat) {D : Dn} {I : II} {l : Nat} (r : RLn I l) (x : XLn D I l) : f_X1_roundMinutes fu (mkS D) I (la D l) = some (nI (rnd I l)) := by
  obtain ⟨e1, e2, e3, e4, e5⟩ := r.nums
  obtain ⟨h1, h2, h3, h4, h5, h6, h7⟩ := r.bds
  obtain ⟨p1, p2, -⟩ := x_after D x
  obtain ⟨-, -, ⟨x0, x1, x2, x3, x4, x5, x9, x10⟩, xk⟩ := x
  have e : nI (lZ I l) - 1 = nI (lZ I l - 1) := by rw [show (1 : Int32) = nI 1 from rfl, nI_sub (by omega)]
  have h8 : nx (nI (lZ I l - 1)) = lZ I l - 1 := nx_nI (by omega)
  unfold f_X1_roundMinutes rd
  rw [p1, x5, e2, e, gd_pos ⟨by omega, nI_nn (by omega), by rw [h8, p2]; omega⟩, h8]
  rw [show la D l + 3 - 1 = la D l + 2 from rfl, (xk (lZ I l - 1) (by omega)).2.1, (r.2.1 (lZ I l - 1) (by omega)).2.2.1.1]
  rfl
/-- behind how many EVERYs the bus comes, as the code counts it -/
theorem late_cases {m o f : Nat} (hm : m < 100000000) (ho : o < 100000000) (hf : f < 100000000) : (m ≤ o + f ∧ ¬ (0 : Int32) < nI m - nI o - nI f) ∨ (o + f < m ∧ (0 : Int32) < nI m - nI o - nI f ∧ nI m - nI o - nI f = nI (m - (o + f))) := by
  have e1 : (nI m - nI o).toInt = (m : Int) - o := by
    rw [i32_sub] <;> rw [toInt_nI (by omega), toInt_nI (by omega)] <;> omega
  have e2 : (nI m - nI o - nI f).toInt = (m : Int) - o - f := by
    rw [i32_sub] <;> rw [e1, toInt_nI (by omega)] <;> omega
  by_cases h : m ≤ o + f
  · left
    refine ⟨h, ?_⟩
    rw [Int32.lt_iff_toInt_lt, e2, Int32.toInt_zero]
    omega
  · right
    refine ⟨by omega, ?_, ?_⟩
    · rw [Int32.lt_iff_toInt_lt, e2, Int32.toInt_zero]
      omega
    · apply Int32.toInt_inj.mp
      rw [e2, toInt_nI (by omega)]
      omega
theorem bidx_0 {I : II} {l k m : Nat} (r : RLn I l) (h : m ≤ lO I l k + lF I l) : bidx I l k m = 0 := by
  obtain ⟨h1, h2, h3, h4, h5, h6, h7⟩ := r.bds
  unfold bidx
  rw [show m - (lO I l k + lF I l) = 0 by omega]
  exact Nat.div_eq_of_lt (by omega)
theorem bidx_le {I : II} {l k m : Nat} (r : RLn I l) : bidx I l k m ≤ m := by
  obtain ⟨h1, h2, h3, h4, h5, h6, h7⟩ := r.bds
  unfold bidx
  rcases Nat.eq_zero_or_pos (m - (lO I l k + lF I l)) with h | h
  · rw [h]
    have : (0 + (lE I l - 1)) / lE I l = 0 := Nat.div_eq_of_lt (by omega)
    omega
  · refine Nat.div_le_of_le_mul ?_
    have h8 : m - (lO I l k + lF I l) ≤ m := Nat.sub_le _ _
    have : m * 1 ≤ lE I l * m := by rw [Nat.mul_comm]; exact Nat.mul_le_mul_right m h6
    have h9 : lE I l - 1 + m ≤ lE I l * m := by
      have : (lE I l - 1) * 1 ≤ (lE I l - 1) * m := Nat.mul_le_mul_left _ (by omega)
      have e : lE I l * m = (lE I l - 1) * m + m := by
        conv => lhs; rw [show lE I l = (lE I l - 1) + 1 by omega]
        rw [Nat.add_mul, Nat.one_mul]
      omega
    omega
theorem bus_in {I : II} {l b : Nat} (r : RLn I l) : lF I l + b * lE I l ≤ lL I l ↔ b < nb I l := by
  obtain ⟨h1, h2, h3, h4, h5, h6, h7⟩ := r.bds
  unfold nb
  rw [Nat.lt_succ_iff, Nat.le_div_iff_mul_le (by omega)]
  omega
theorem m_minAt (fu : Nat) {D : Dn} {I : II} {l k m : Nat} (hl : l < 14) (r : RLn I l) (hk : k < lZ I l) (hm : m < 1000000) : Rf_X11_minuteAt fu (mkS D) I (nI l) (nI k) (nI m) = some (if bidx I l k m < nb I l then nI (lF I l + bidx I l k m * lE I l + lO I l k) else 1000000) := by
  obtain ⟨e1, e2, e3, e4, e5⟩ := r.nums
  obtain ⟨h1, h2, h3, h4, h5, h6, h7⟩ := r.bds
  have hn := nx_nI (k := l) (by omega)
  have ho := (r.2.1 k hk).2.2.1
  have ho2 : lO I l k ≤ 30 * k := ho.2
  have h8 : nx (nI (8 * l + k)) = 8 * l + k := nx_nI (by omega)
  have hb := bidx_le (k := k) (m := m) r
  have hi : ∀ a, a ≠ 0 → inbL a 14 (nI l) := fun a ha => ⟨ha, nI_nn (by omega), by rw [hn]; omega⟩
  have hi8 : ∀ a, a ≠ 0 → inbL a 112 (nI (8 * l + k)) := fun a ha => ⟨ha, nI_nn (by omega), by rw [h8]; omega⟩
  have eo : I 44 (8 * l + k) = nI (lO I l k) := ho.1
  have hz : ¬ nI (lE I l) = 0 := by
    rw [show (0 : Int32) = nI 0 from rfl, nI_eq_iff (by omega) (by omega)]
    omega
  have hbe : bidx I l k m < nb I l → bidx I l k m * lE I l ≤ 1439 := fun q => by have := (bus_in (b := bidx I l k m) r).mpr q; omega
  have hj : ∀ b : Nat, b = bidx I l k m → Rj_X11_minuteAt_49 fu (mkS D) I (nI l) (nI k) (nI b) = some (if bidx I l k m < nb I l then nI (lF I l + bidx I l k m * lE I l + lO I l k) else 1000000) := by
    intro b hbb
    subst hbb
    unfold Rj_X11_minuteAt_49 rdN
    have hnb := nb_le r
    rw [m_buses fu hl r, Option.bind_some, ix8]
    have hc : nI (nb I l) ≤ nI (bidx I l k m) ↔ nb I l ≤ bidx I l k m := nI_le_iff (by omega) (by omega)
    simp only [hc, h8, hn, e3, e4, eo]
    by_cases q : bidx I l k m < nb I l
    · rw [if_neg (by omega), if_pos q, gd_pos (hi _ (by decide)), gd_pos (hi _ (by decide)), gd_pos (hi8 _ (by decide)), nI_mul, nI_add, nI_add]
    · rw [if_pos (by omega), if_neg q]
  unfold Rf_X11_minuteAt rdN
  rw [ix8, gd_pos (hi8 _ (by decide)), gd_pos (hi _ (by decide))]
  simp only [lt, h8, hn, eo, e3, e4]
  rcases late_cases (m := m) (o := lO I l k) (f := lF I l) (by omega) (by omega) (by omega) with ⟨q1, q2⟩ | ⟨q1, q2, q3⟩
  · rw [if_neg q2]
    exact hj 0 (bidx_0 r q1).symm
  · rw [if_pos q2, gd_pos (hi _ (by decide)), gd_pos hz, q3, nI_add, show (1 : Int32) = nI 1 from rfl, nI_sub (by omega), nI_div (by omega) (by omega)]
    refine hj _ ?_
    unfold bidx
    congr 1
    omega
theorem x_sob (fu : Nat) {D : Dn} {I : II} {l k m : Nat} (r : RLn I l) (x : XLn D I l) (hk : k < lZ I l) (hm : m < 1000000) : f_X1_startOfBus fu (mkS D) I (la D l) (nI k) (nI m) = some (if bidx I l k m < nb I l then nI (lF I l + bidx I l k m * lE I l) else 1073741824) := by
  obtain ⟨e1, e2, e3, e4, e5⟩ := r.nums
  obtain ⟨h1, h2, h3, h4, h5, h6, h7⟩ := r.bds
  have ho := (r.2.1 k hk).2.2.1
  have ho2 : lO I l k ≤ 30 * k := ho.2
  have hn := nx_nI (k := k) (by omega)
  have hb := bidx_le (k := k) (m := m) r
  obtain ⟨p1, p2, -⟩ := x_after D x
  obtain ⟨-, -, ⟨x0, x1, x2, x3, x4, x5, x9, x10⟩, xk⟩ := x
  have eo : I (la D l + 2) k = nI (lO I l k) := ((xk k hk).2.1).trans ho.1
  have hz : ¬ nI (lE I l) = 0 := by
    rw [show (0 : Int32) = nI 0 from rfl, nI_eq_iff (by omega) (by omega)]
    omega
  have hmul : bidx I l k m * lE I l ≤ m + 240 := by
    unfold bidx
    have := Nat.div_mul_le_self (m - (lO I l k + lF I l) + (lE I l - 1)) (lE I l)
    omega
  have hj : ∀ b : Nat, b = bidx I l k m → jn_X1_startOfBus_48 fu (mkS D) I (la D l) (nI (lF I l + b * lE I l)) = some (if bidx I l k m < nb I l then nI (lF I l + bidx I l k m * lE I l) else 1073741824) := by
    intro b hbb
    subst hbb
    unfold jn_X1_startOfBus_48
    have hc : nI (lF I l + bidx I l k m * lE I l) ≤ nI (lL I l) ↔ bidx I l k m < nb I l := (nI_le_iff (by omega) (by omega)).trans (bus_in r)
    simp only [x4, e5, hc]
    split <;> rfl
  unfold f_X1_startOfBus rd
  rw [p1, gd_pos ⟨by omega, nI_nn (by omega), by rw [hn, p2]; omega⟩]
  simp only [lt, hn, show la D l + 3 - 1 = la D l + 2 from rfl, eo, x2, x3, e3, e4]
  rcases late_cases (m := m) (o := lO I l k) (f := lF I l) (by omega) (by omega) (by omega) with ⟨q1, q2⟩ | ⟨q1, q2, q3⟩
  · rw [if_neg q2]
    have := hj 0 (bidx_0 r q1).symm
    rw [Nat.zero_mul, Nat.add_zero] at this
    exact this
  · rw [if_pos q2, gd_pos hz, q3, nI_add, show (1 : Int32) = nI 1 from rfl, nI_sub (by omega), nI_div (by omega) (by omega), nI_mul, nI_add]
    refine hj _ ?_
    unfold bidx
    congr 1
    omega
