/-! many, driver, know, board -/
theorem ite_pair {α : Type} {c : Prop} [Decidable c] {a b a' b' : Option α} (h1 : c → ∃ r, a = some r ∧ a' = some r) (h2 : ¬ c → ∃ r, b = some r ∧ b' = some r) : ∃ r, (if c then a else b) = some r ∧ (if c then a' else b') = some r := by
  by_cases h : c
  · rw [if_pos h, if_pos h]; exact h1 h
  · rw [if_neg h, if_neg h]; exact h2 h
theorem m_boardMany (fu : Nat) (hfu : 100 < fu) {D : Dn} {I : II} {m : Nat} (hm : m < 65536) (e : I 38 47 = nI m) : Rf_X11_boardMany fu (mkS D) I = some (nI (pcn m 16)) := by
  unfold Rf_X11_boardMany
  refine fix2_run (F := Rl_X11_boardMany_4 fu (mkS D) I) (fun i => nI (pcn m i)) (fun i => nI i) 16 (fun i hi self => ?_) (fun self => ?_) fu (by omega)
  · unfold Rl_X11_boardMany_4
    rw [if_neg, e, bit_at (by omega) (by omega), nI_add, show (1 : Int32) = nI 1 from rfl, nI_add]
    · rfl
    · rw [show (16 : Int32) = nI 16 from rfl, nI_le_iff (by decide) (by omega)]; omega
  · unfold Rl_X11_boardMany_4
    rw [if_pos (by decide)]
theorem p_many (fu : Nat) (hfu : 100 < fu) {D : Dn} {I : II} (g : Inv D I) (x : Int32) : ∃ r, Rf_X10_many fu (mkS D) I x = some r ∧ Rf_X11_many fu (mkS D) I x = some r := by
  obtain ⟨-, gS, gL, gT, gP, gO, gD, gR, -⟩ := g
  unfold Rf_X10_many Rf_X11_many
  refine ite_pair (fun _ => ⟨_, rfl, by rw [gS.1.2]⟩) (fun _ => ?_)
  refine ite_pair (fun _ => ⟨_, rfl, by rw [gL.1.2]⟩) (fun _ => ?_)
  refine ite_pair (fun _ => ⟨_, rfl, by rw [gT.1.2]⟩) (fun _ => ?_)
  refine ite_pair (fun _ => ⟨_, rfl, by rw [gP.1.2]⟩) (fun _ => ?_)
  refine ite_pair (fun _ => ⟨_, rfl, by rw [gO.1.2]⟩) (fun _ => ?_)
  refine ite_pair (fun _ => ⟨_, rfl, by rw [gD.1.2]⟩) (fun _ => ?_)
  refine ite_pair (fun _ => ⟨_, rfl, by rw [gR.1.2]⟩) (fun _ => ?_)
  refine ite_pair (fun _ => ?_) (fun _ => ⟨_, rfl, rfl⟩)
  obtain ⟨b1, b2, b3, b4⟩ := gR.2.2.1
  have h65 : nx (I 38 47) ≤ 65535 := b2.2
  have hbc : t_J6_bitCount_0f7a4 (I 0 13) = nI (pcn (nx (I 38 47)) 16) := by
    rw [b1]
    conv => lhs; rw [b2.1]
    exact bitCount_at (by omega)
  rw [m_boardMany fu hfu (m := nx (I 38 47)) (by omega) b2.1, hbc]
  exact ⟨_, rfl, rfl⟩
theorem p_driver (fu : Nat) {D : Dn} {I : II} (g : Inv D I) : ∃ r I1 I2, Rf_X10_driver fu (mkS D) I = some (r, I1) ∧ Rf_X11_driver fu (mkS D) I1 = some (r, I2) ∧ Inv D I2 := by
  have gR := g.2.2.2.2.2.2.2.1
  have hle : nR I ≤ 6 := gR.1.1.2
  have e : I 38 45 = nI (nR I) := gR.1.1.1
  have e' : I 0 11 = nI (nR I) := gR.1.2.trans e
  unfold Rf_X10_driver Rf_X11_driver
  have c1 : nI (nR I) < (6 : Int32) ↔ nR I < 6 := nI_lt_iff (b := 6) (by omega) (by decide)
  have c2 : nI (nR I) = (6 : Int32) ↔ nR I = 6 := nI_eq_iff (b := 6) (by omega) (by decide)
  by_cases h : nR I = 6
  · refine ⟨-4, I, I, ?_, ?_, g⟩
    · rw [e', if_neg (fun z => by have := c1.mp z; omega)]
    · rw [e, if_pos (c2.mpr h)]
  · refine ⟨nI (nR I), upI I 0 11 (nI (nR I + 1)), upI (upI I 0 11 (nI (nR I + 1))) 38 45 (nI (nR I + 1)), ?_, ?_, ?_⟩
    · rw [e', if_pos (c1.mpr (by omega))]
      simp only [lt, upI_at]
      rw [Int32.add_sub_cancel, show (1 : Int32) = nI 1 from rfl, nI_add]
    · rw [upI_row (by decide), e, if_neg (fun z => h (c2.mp z))]
      simp only [lt, upI_at]
      rw [Int32.add_sub_cancel, show (1 : Int32) = nI 1 from rfl, nI_add]
    · refine g.updRH (fun a k q _ => ?_) ?_ (g.2.2.2.2.2.2.2.2.co (fun a k q => ?_))
      · unfold wRH at q
        simp only [upI]
        rw [if_neg (by omega), if_neg (by omega)]
      · obtain ⟨r1, r2, r3, r4, r5, r6⟩ := gR
        have hN : isN (nI (nR I + 1)) 6 := isN_nI (by omega) (by decide)
        unfold GR nS at *
        simp only [upI]
        simp
        exact ⟨hN, r2, r3, r4, r5, r6⟩
      · unfold rdH at q
        simp only [upI]
        rw [if_neg (by omega), if_neg (by omega)]
/-- a bit set, or struck out, or turned -/
theorem or_set {m s : Nat} (h : m.testBit s = true) : m ||| 2 ^ s = m := by
  apply Nat.eq_of_testBit_eq; intro i
  rw [Nat.testBit_or, Nat.testBit_two_pow]
  by_cases q : s = i
  · subst q; rw [h]; rfl
  · simp [q]
theorem or_xor {m s : Nat} (h : m.testBit s = false) : m ||| 2 ^ s = m ^^^ 2 ^ s := by
  apply Nat.eq_of_testBit_eq; intro i
  rw [Nat.testBit_or, Nat.testBit_xor, Nat.testBit_two_pow]
  by_cases q : s = i
  · subst q; rw [h]; simp
  · simp [q]
theorem andn_eq {m s n : Nat} (hm : m < 2 ^ n) : ∀ i, (m &&& (2 ^ s ^^^ (2 ^ n - 1))).testBit i = (m.testBit i && !decide (s = i)) := by
  intro i
  rw [Nat.testBit_and, Nat.testBit_xor, Nat.testBit_two_pow, Nat.testBit_two_pow_sub_one]
  by_cases q : i < n
  · simp [q]
  · have : m.testBit i = false := Nat.testBit_lt_two_pow (Nat.lt_of_lt_of_le hm (Nat.pow_le_pow_right (by decide) (by omega)))
    rw [this]; rfl
theorem andn_clear {m s : Nat} (hm : m < 2 ^ 32) (h : m.testBit s = false) : m &&& (2 ^ s ^^^ 4294967295) = m := by
  apply Nat.eq_of_testBit_eq; intro i
  rw [show (4294967295 : Nat) = 2 ^ 32 - 1 from rfl, andn_eq hm]
  by_cases q : s = i
  · subst q; rw [h]; rfl
  · simp [q]
theorem andn_xor {m s : Nat} (hm : m < 2 ^ 32) (h : m.testBit s = true) : m &&& (2 ^ s ^^^ 4294967295) = m ^^^ 2 ^ s := by
  apply Nat.eq_of_testBit_eq; intro i
  rw [show (4294967295 : Nat) = 2 ^ 32 - 1 from rfl, andn_eq hm, Nat.testBit_xor, Nat.testBit_two_pow]
  by_cases q : s = i
  · subst q; rw [h]; simp
  · simp [q]
theorem pcn_xor {m s : Nat} : ∀ n, s < n → pcn (m ^^^ 2 ^ s) n + (m.testBit s).toNat = pcn m n + (!m.testBit s).toNat := by
  have lo : ∀ n, n ≤ s → pcn (m ^^^ 2 ^ s) n = pcn m n := by
    intro n
    induction n with
    | zero => intro _; rfl
    | succ n ih =>
      intro h
      show pcn (m ^^^ 2 ^ s) n + ((m ^^^ 2 ^ s) >>> n) % 2 = pcn m n + (m >>> n) % 2
      rw [ih (by omega), mod2_bit, mod2_bit, Nat.testBit_xor, Nat.testBit_two_pow]
      have : ¬ s = n := by omega
      simp [this]
  intro n
  induction n with
  | zero => intro h; omega
  | succ n ih =>
    intro h
    show pcn (m ^^^ 2 ^ s) n + ((m ^^^ 2 ^ s) >>> n) % 2 + _ = pcn m n + (m >>> n) % 2 + _
    rw [mod2_bit, mod2_bit, Nat.testBit_xor, Nat.testBit_two_pow]
    by_cases q : s = n
    · subst q
      rw [lo s (Nat.le_refl s)]
      cases m.testBit s <;> simp
    · have := ih (by omega)
      simp only [q, decide_false, Bool.xor_false]
      omega
