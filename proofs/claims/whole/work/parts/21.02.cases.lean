/-! arguments: both sides take the same ones -/
theorem isN.e {v : Int32} {n : Nat} (h : isN v n) : v = nI (nx v) := h.1
theorem isN.le {v : Int32} {n : Nat} (h : isN v n) : nx v ≤ n := h.2
theorem isN_nI {k n : Nat} (h : k ≤ n) (hn : n < 2147483648) : isN (nI k) n := by
  unfold isN; rw [nx_nI (by omega)]; exact ⟨rfl, h⟩
theorem isN.mono {v : Int32} {n m : Nat} (h : isN v n) (hm : n ≤ m) : isN v m := ⟨h.1, Nat.le_trans h.2 hm⟩
/-- a number of things: below it, or not -/
theorem cnt_cases (x : Int32) {n : Nat} (hn : n < 2147483648) : (x < 0 ∨ nI n ≤ x) ∨ ∃ k, k < n ∧ x = nI k ∧ ¬ x < 0 ∧ ¬ nI n ≤ x := by
  by_cases h : x < 0
  · exact Or.inl (Or.inl h)
  · by_cases h2 : nI n ≤ x
    · exact Or.inl (Or.inr h2)
    · exact Or.inr ⟨nx x, nx_lt h hn (Int32.not_le.mp h2), nI_nx h, h, h2⟩
theorem w_up_no {x : Int32} {n : Nat} (hn : n < 2147483648) (h : x < 0 ∨ nI n ≤ x) : t_X11_in x.toInt64 0 ((nI n).toInt64 - 1) = 0 := by
  rw [w_up hn, if_neg]
  rintro ⟨h1, h2⟩
  rcases h with h | h
  · exact h1 h
  · exact absurd h2 (Int32.not_lt.mpr h)
theorem w_up_yes {x : Int32} {n : Nat} (hn : n < 2147483648) (h1 : ¬ x < 0) (h2 : ¬ nI n ≤ x) : t_X11_in x.toInt64 0 ((nI n).toInt64 - 1) = 1 := by
  rw [w_up hn, if_pos ⟨h1, Int32.not_le.mp h2⟩]
theorem stop_cases {I : II} (g : GS I) (x : Int32) : (t_X2_hasStop I 1 x = 0 ∧ t_X11_noStop I 38 x = 1) ∨ ∃ s, s < nS I ∧ x = nI s ∧ t_X2_hasStop I 1 x = 1 ∧ t_X11_noStop I 38 x = 0 := by
  obtain ⟨⟨g1, g2⟩, -⟩ := g
  have hn : nS I ≤ 16 := g1.2
  have e1 : I 38 1 = nI (nS I) := g1.1
  unfold t_X2_hasStop t_X11_noStop
  rw [g2, e1]
  rcases cnt_cases x (n := nS I) (by omega) with h | ⟨k, h1, h2, h3, h4⟩
  · left
    rw [w_up_no (by omega) h]
    refine ⟨?_, rfl⟩
    rcases h with h | h
    · rw [if_pos h]
    · split
      · rfl
      · rfl
  · right
    refine ⟨k, h1, h2, ?_, ?_⟩
    · rw [if_neg h3, if_neg h4]
    · rw [w_up_yes (by omega) h3 h4]; rfl
theorem line_cases {D : Dn} {I : II} (fu : Nat) (g : GL D I) (x : Int32) : (Rf_X2_lineAt fu (mkS D) I x = some 0 ∧ t_X11_noLine I 38 x = 1) ∨ ∃ l, l < nL I ∧ x = nI l ∧ Rf_X2_lineAt fu (mkS D) I x = some (D.1 5 l) ∧ t_X11_noLine I 38 x = 0 := by
  obtain ⟨⟨g1, g2⟩, -⟩ := g
  have hn : nL I ≤ 14 := g1.2
  have e1 : I 38 4 = nI (nL I) := g1.1
  unfold Rf_X2_lineAt t_X11_noLine
  rw [g2, e1]
  rcases cnt_cases x (n := nL I) (by omega) with h | ⟨k, h1, h2, h3, h4⟩
  · left
    rw [w_up_no (by omega) h]
    refine ⟨?_, rfl⟩
    rcases h with h | h
    · rw [if_pos h]
    · split
      · rfl
      · rfl
  · right
    have hk : nx (nI k) = k := nx_nI (by omega)
    refine ⟨k, h1, h2, ?_, ?_⟩
    · rw [if_neg h3, if_neg h4, h2, gd_pos ⟨by decide, nI_nn (by omega), by rw [hk]; omega⟩, hk]
      have : (mkS D).1 5 k = D.1 5 k := by
        show stPf 5 k (D.1 5 k) = D.1 5 k
        rfl
      rw [this]
    · rw [w_up_yes (by omega) h3 h4]; rfl
theorem within_cases (x : Int32) (lo hi : Int32) : t_X10_isWithin x lo hi = 0 ∨ (t_X10_isWithin x lo hi = 1 ∧ lo ≤ x ∧ x ≤ hi) := by
  rw [w_within]
  by_cases h : lo ≤ x ∧ x ≤ hi
  · right; rw [if_pos h]; exact ⟨rfl, h⟩
  · left; rw [if_neg h]
theorem le0 {x : Int32} (h : (0 : Int32) ≤ x) : ¬ x < 0 := Int32.not_lt.mpr h
theorem day_eq (x : Int32) : t_X11_isDay x = t_X10_isDay x := by
  unfold t_X11_isDay t_X10_isDay
  exact w_in32 (lo := 0) (hi := 59)
theorem day_cases (x : Int32) : t_X10_isDay x = 0 ∨ ∃ d, d ≤ 59 ∧ x = nI d ∧ t_X10_isDay x = 1 := by
  unfold t_X10_isDay
  rcases within_cases x 0 59 with h | ⟨h, h1, h2⟩
  · exact Or.inl h
  · exact Or.inr ⟨nx x, nx_le (le0 h1) (n := 59) (by decide) h2, nI_nx (le0 h1), h⟩
theorem sheet_eq (x : Int32) : t_X11_noSheet x = if t_X10_isSheet x = 0 then 1 else 0 := by
  unfold t_X11_noSheet t_X10_isSheet
  rw [show t_X11_in x.toInt64 0 3 = t_X10_isWithin x 0 3 from w_in32 (lo := 0) (hi := 3)]
theorem sheet_cases (x : Int32) : (t_X10_isSheet x = 0 ∧ t_X11_noSheet x = 1) ∨ ∃ k, k < 4 ∧ x = nI k ∧ t_X10_isSheet x = 1 ∧ t_X11_noSheet x = 0 := by
  rw [sheet_eq]
  unfold t_X10_isSheet
  rcases within_cases x 0 3 with h | ⟨h, h1, h2⟩
  · left; rw [h]; exact ⟨rfl, rfl⟩
  · right
    have := nx_le (le0 h1) (n := 3) (by decide) h2
    refine ⟨nx x, by omega, nI_nx (le0 h1), h, ?_⟩
    rw [h]; rfl
/-- cells of the sheets, of any object that came later -/
theorem mk_dyn {D : Dn} {a k : Nat} (h : 77 ≤ a) : (mkS D).1 a k = D.1 a k := by
  show stPf a k (D.1 a k) = D.1 a k
  unfold stPf
  have : stT.getD a [] = [] := by
    rw [List.getD_eq_getElem?_getD, List.getElem?_eq_none (by show stT.length ≤ a; exact h)]
    rfl
  rw [this]
  rfl
theorem mk_len {D : Dn} {a : Nat} (h : 77 ≤ a) : (mkS D).2.2.1 a = D.2.2.1 a := by
  show stNf a (D.2.2.1 a) = D.2.2.1 a
  unfold stNf
  have : stLn.getD a 0 = 0 := by
    rw [List.getD_eq_getElem?_getD, List.getElem?_eq_none (by show stLn.length ≤ a; exact h)]
    rfl
  rw [this]
theorem mk_sheet {D : Dn} {k : Nat} (h : k < 4) : (mkS D).1 29 k = 31 + 2 * k ∧ (mkS D).1 (30 + 2 * k) 3 = 32 + 2 * k ∧ (mkS D).2.2.1 (31 + 2 * k) = 60 := by
  have : k = 0 ∨ k = 1 ∨ k = 2 ∨ k = 3 := by omega
  rcases this with rfl | rfl | rfl | rfl <;> exact ⟨rfl, rfl, rfl⟩
theorem XLn.at {D : Dn} {I : II} {l : Nat} (h : XLn D I l) : D.1 5 l ≠ 0 ∧ D.1 5 l - 1 = la D l ∧ 77 ≤ la D l := by
  have := h.1.1
  refine ⟨by omega, rfl, by unfold la; omega⟩
