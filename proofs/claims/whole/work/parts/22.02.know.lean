/-! know, board -/
theorem p_know (fu : Nat) {D : Dn} {I : II} (g : Inv D I) (x y b : Int32) (hbb : b = 0 ∨ b = 1) : ∃ r I1 I2, Rf_X10_know fu (mkS D) I x y b = some (r, I1) ∧ Rf_X11_know fu (mkS D) I1 x y b = some (r, I2) ∧ Inv D I2 := by
  have gR := g.2.2.2.2.2.2.2.1
  have gL := g.2.2.1
  have hle : nR I ≤ 6 := gR.1.1.2
  have hn : nL I ≤ 14 := gL.1.1.2
  have e : I 38 45 = nI (nR I) := gR.1.1.1
  have e' : I 0 11 = nI (nR I) := gR.1.2.trans e
  unfold Rf_X10_know
  rcases cnt_cases x (n := nR I) (by omega) with h | ⟨d, hd, rfl, h3, h4⟩
  · refine ⟨-1, I, I, ?_, ?_, g⟩
    · rw [e']
      rcases h with h | h
      · rw [if_pos h]
      · by_cases q : x < 0
        · rw [if_pos q]
        · rw [if_neg q, if_pos h]
    · unfold Rf_X11_know
      rw [e, w_up_no (by omega) h, if_pos rfl]
  · have hd6 : d < 6 := by omega
    have kd := nx_nI (k := d) (by omega)
    have i6 : ∀ a, a ≠ 0 → inbL a 6 (nI d) := fun a ha => ⟨ha, nI_nn (by omega), by rw [kd]; omega⟩
    have gd6 : ∀ {ρ : Type} (a : Nat) (y : Option ρ), a ≠ 0 → gd (inbL a 6 (nI d)) y = y := fun a y h => gd_pos (i6 a h)
    have gi : ∀ {ρ : Type} (y : Option ρ), gd (inb (mkS D) 70 (nI d)) y = y := fun y => gd_pos ⟨by decide, nI_nn (by omega), by rw [kd]; exact hd6⟩
    rw [e', if_neg h3, if_neg h4]
    rcases line_cases fu gL y with ⟨h1, h2⟩ | ⟨l, hl, rfl, h1, h2⟩
    · refine ⟨-1, I, I, by rw [h1]; rfl, ?_, g⟩
      unfold Rf_X11_know
      rw [e, w_up_yes (by omega) h3 h4, h2, if_neg i1ne, if_neg i1ne]
    · obtain ⟨r, hX⟩ := gL.2.1 l hl
      obtain ⟨a1, a2, a3⟩ := hX.at
      obtain ⟨m1, m2⟩ := gR.2.1 d hd6
      have hm : nx (I 69 d) ≤ 16383 := m2.2
      obtain ⟨m, em⟩ : ∃ m, nx (I 69 d) = m := ⟨_, rfl⟩
      rw [em] at hm
      have m3 : I 69 d = nI m := by rw [← em]; exact m2.1
      have m4 : I 14 d = nI m := m1.trans m3
      have p14 : 2 ^ l < 16384 := Nat.pow_lt_pow_right (m := l) (n := 14) (by decide) (by omega)
      have hone := nI_one (s := l) (by omega)
      have hx : m ^^^ 2 ^ l < 16384 := Nat.xor_lt_two_pow (n := 14) (by omega) p14
      -- the reference, on an object whose row of drivers is this one
      have href : ∀ I1 : II, I1 38 45 = I 38 45 → I1 38 4 = I 38 4 → I1 69 d = I 69 d → Rf_X11_know fu (mkS D) I1 (nI d) (nI l) b = if (if m.testBit l then (1 : Int32) else 0) = b then some (0, upI I1 69 d (nI m)) else some (1, upI I1 69 d (nI (m ^^^ 2 ^ l))) := by
        intro I1 z1 z2 z3
        unfold Rf_X11_know Rj_X11_know_72
        simp only [hasBit_has]
        rw [z1, e, w_up_yes (by omega) h3 h4, noLine_co z2, h2, if_neg i1ne, if_pos rfl, gd6 _ _ (by decide)]
        simp only [lt, rdN, wr, kd, z3, m3, gi, has_at (show m < 2147483648 by omega) (show l < 32 by omega), hone]
        rw [show (-1 : Int32) = nI 4294967295 from rfl, nI_xor (by omega) (by decide)]
        have hq : 2 ^ l ^^^ 4294967295 < 4294967296 := Nat.xor_lt_two_pow (n := 32) (by omega) (by decide)
        rw [nI_and (by omega) hq, nI_or (by omega) (by omega)]
        rcases hbb with rfl | rfl
        · rw [if_pos rfl]
          cases hb : m.testBit l with
          | true => rw [andn_xor (by omega) hb]; rfl
          | false => rw [andn_clear (by omega) hb]; rfl
        · rw [if_neg i1ne]
          cases hb : m.testBit l with
          | true => rw [or_set hb]; rfl
          | false => rw [or_xor hb]; rfl
      rw [h1]
      simp only [Option.bind_some, if_neg a1, gd6 15 _ (by decide), rdN, wrN, kd, m4, lt, has_at (show m < 2147483648 by omega) (show l < 32 by omega), hone]
      rw [nI_xor (by omega) (by omega)]
      have hInv : ∀ (I' : II) (w : Nat), w < 16384 → (∀ a k, ¬ ((a = 14 ∨ a = 69) ∧ k = d) → I' a k = I a k) → I' 14 d = nI w → I' 69 d = nI w → Inv D I' := by
        intro I' w hw hI h14 h69
        refine g.updRH (fun a k q _ => hI a k (by unfold wRH at q; omega)) ?_ (g.2.2.2.2.2.2.2.2.co (fun a k q => hI a k (by unfold rdH at q; omega)))
        obtain ⟨r1, r2, r3, r4, r5, r6⟩ := gR
        refine ⟨by rw [hI _ _ (by omega), hI _ _ (by omega)]; exact r1, fun j hj => ?_, ?_, ?_, ?_, ?_⟩
        · by_cases q : j = d
          · subst q; rw [h14, h69]; exact ⟨rfl, isN_nI (by omega) (by decide)⟩
          · rw [hI _ _ (by omega), hI _ _ (by omega)]; exact r2 j hj
        · unfold nS at *; rw [hI _ _ (by omega), hI _ _ (by omega), hI _ _ (by omega)]; exact r3
        · rw [hI _ _ (by omega), hI _ _ (by omega)]; exact r4
        · rw [hI _ _ (by omega), hI _ _ (by omega)]; exact r5
        · rw [hI _ _ (by omega), hI _ _ (by omega)]; exact r6
      by_cases q : (if m.testBit l then (1 : Int32) else 0) = b
      · refine ⟨0, I, upI I 69 d (nI m), by rw [if_pos q], (href I rfl rfl rfl).trans (by rw [if_pos q]), hInv _ m (by omega) (fun a k z => ?_) ?_ ?_⟩
        · simp only [upI]; rw [if_neg (by omega)]
        · rw [upI_row (by decide)]; exact m4
        · rw [upI_at]
      · refine ⟨1, upI I 14 d (nI (m ^^^ 2 ^ l)), upI (upI I 14 d (nI (m ^^^ 2 ^ l))) 69 d (nI (m ^^^ 2 ^ l)), by rw [if_neg q], (href _ (by rw [upI_row (by decide)]) (by rw [upI_row (by decide)]) (by rw [upI_row (by decide)])).trans (by rw [if_neg q]), hInv _ _ hx (fun a k z => ?_) ?_ ?_⟩
        · simp only [upI]; rw [if_neg (by omega), if_neg (by omega)]
        · rw [upI_row (by decide), upI_at]
        · rw [upI_at]
theorem p_board (fu : Nat) (hfu : 100 < fu) {D : Dn} {I : II} (g : Inv D I) (x b : Int32) (hbb : b = 0 ∨ b = 1) : ∃ r I1 I2, Rf_X10_board fu (mkS D) I x b = some (r, I1) ∧ Rf_X11_board fu (mkS D) I1 x b = some (r, I2) ∧ Inv D I2 := by
  have gR := g.2.2.2.2.2.2.2.1
  have gS := g.2.1
  have hn : nS I ≤ 16 := gS.1.1.2
  obtain ⟨c1, c2, c3, c4⟩ := gR.2.2.1
  obtain ⟨m, em⟩ : ∃ m, nx (I 38 47) = m := ⟨_, rfl⟩
  have hm : nx (I 38 47) ≤ 65535 := c2.2
  have m3 : I 38 47 = nI m := by rw [← em]; exact c2.1
  have m4 : I 0 13 = nI m := c1.trans m3
  rw [em] at hm c3 c4
  unfold Rf_X10_board Rf_X11_board Rj_X10_board_46 Rj_X11_board_40
  simp only [hasBit_has, lt]
  rcases stop_cases gS x with ⟨h1, h2⟩ | ⟨s, hs, rfl, h1, h2⟩
  · refine ⟨-1, I, I, by rw [if_pos h1], ?_, g⟩
    rw [h2, if_neg i1ne]
  · have ns : ∀ I1 : II, I1 38 1 = I 38 1 → t_X11_noStop I1 38 (nI s) = 0 := fun I1 z => by
      have : t_X11_noStop I1 38 (nI s) = t_X11_noStop I 38 (nI s) := by unfold t_X11_noStop; rw [z]
      rw [this, h2]
    have p16 : 2 ^ s < 2 ^ nS I := Nat.pow_lt_pow_right (by decide) hs
    have p17 : 2 ^ nS I ≤ 65536 := Nat.pow_le_pow_right (n := 2) (by decide) hn
    have hx : m ^^^ 2 ^ s < 2 ^ nS I := Nat.xor_lt_two_pow c3 p16
    have hone := nI_one (s := s) (by omega)
    have hpx := pcn_xor (m := m) (s := s) 16 (by omega)
    rw [h1, m4, has_at (by omega) (by omega), bitCount_at (by omega), hone, nI_xor (by omega) (by omega), if_neg i1ne]
    have c6 : nI (pcn m 16) < (6 : Int32) ↔ pcn m 16 < 6 := nI_lt_iff (b := 6) (by omega) (by decide)
    have c7 : nI (pcn m 16) = (6 : Int32) ↔ pcn m 16 = 6 := nI_eq_iff (b := 6) (by omega) (by decide)
    have hInv : pcn (m ^^^ 2 ^ s) 16 ≤ 6 → Inv D (upI (upI I 0 13 (nI (m ^^^ 2 ^ s))) 38 47 (nI (m ^^^ 2 ^ s))) := by
      intro hp
      refine g.updRH (fun a k q _ => ?_) ?_ (g.2.2.2.2.2.2.2.2.co (fun a k q => ?_))
      · unfold wRH at q; simp only [upI]; rw [if_neg (by omega), if_neg (by omega)]
      · obtain ⟨r1, r2, r3, r4, r5, r6⟩ := gR
        have hN : isN (nI (m ^^^ 2 ^ s)) 65535 := isN_nI (by omega) (by decide)
        have hnx : nx (nI (m ^^^ 2 ^ s)) = m ^^^ 2 ^ s := nx_nI (by omega)
        have k1 : nx (nI (m ^^^ 2 ^ s)) < 2 ^ nS I := by rw [hnx]; exact hx
        have k2 : pcn (nx (nI (m ^^^ 2 ^ s))) 16 ≤ 6 := by rw [hnx]; exact hp
        unfold GR nS at *
        simp only [upI]
        simp
        exact ⟨r1, r2, ⟨hN, k1, k2⟩, r4, r5, r6⟩
      · unfold rdH at q; simp only [upI]; rw [if_neg (by omega), if_neg (by omega)]
    have hw : ∀ I1 : II, I1 38 47 = nI m → (upI I1 38 47 (I1 38 47 ^^^ (1 : Int32) <<< (nI s &&& 31))) = upI I1 38 47 (nI (m ^^^ 2 ^ s)) := fun I1 z => by
      rw [z, hone, nI_xor (by omega) (by omega)]
    have k47 : ∀ v, upI I 0 13 v 38 47 = nI m := fun v => by rw [upI_row (by decide)]; exact m3
    by_cases q : (if m.testBit s then (1 : Int32) else 0) = b
    · refine ⟨0, I, I, by rw [if_pos q], ?_, g⟩
      rw [h2, if_pos rfl, m3, has_at (by omega) (by omega), if_pos q]
    · rw [if_neg q]
      rcases hbb with rfl | rfl
      · rw [if_pos rfl]
        have hb : m.testBit s = true := by cases h : m.testBit s with
          | true => rfl
          | false => rw [h] at q; exact absurd rfl q
        refine ⟨1, _, _, rfl, ?_, hInv ?_⟩
        · rw [ns _ (by rw [upI_row (by decide)]), if_pos rfl, k47, has_at (by omega) (by omega), if_neg q, if_pos rfl, nI_xor (by omega) (by omega)]
        · rw [hb] at hpx
          have : pcn (m ^^^ 2 ^ s) 16 + 1 = pcn m 16 + 0 := hpx
          omega
      · rw [if_neg i1ne]
        have hb : m.testBit s = false := by cases h : m.testBit s with
          | false => rfl
          | true => rw [h] at q; exact absurd rfl q
        by_cases q6 : pcn m 16 = 6
        · refine ⟨-4, I, I, by rw [if_neg (fun z => by have := c6.mp z; omega)], ?_, g⟩
          rw [h2, if_pos rfl, m3, has_at (by omega) (by omega), if_neg q, if_neg i1ne, m_boardMany fu hfu (by omega) m3, Option.bind_some, if_pos (c7.mpr q6)]
        · rw [if_pos (c6.mpr (by omega))]
          refine ⟨1, _, _, rfl, ?_, hInv ?_⟩
          · rw [ns _ (by rw [upI_row (by decide)]), if_pos rfl, k47, has_at (by omega) (by omega), if_neg q, if_neg i1ne, nI_xor (by omega) (by omega), m_boardMany fu hfu (by omega) (k47 _), Option.bind_some, if_neg (fun z => q6 (c7.mp z))]
          · rw [hb] at hpx
            have : pcn (m ^^^ 2 ^ s) 16 + 0 = pcn m 16 + 1 := hpx
            omega
