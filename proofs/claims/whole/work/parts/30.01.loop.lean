/-! the law's loop -/
theorem law_loop {fu : Nat} (hfu : 70000 < fu) {sL : Nat} {sx : Nat → Int32} (hL : sL ≤ 4608) : ∀ m i D I n, Inv D I → i ≤ sL + 9 → sL < i + 9 * m + 9 → m < n → ∃ S' I', fix3 (lp_L_law_18 fu sL sx 1 39) n (nI i) (mkS D) I = some (1, S', I') := by
  have stop : ∀ i D I n, i ≤ sL + 9 → sL < i + 9 → 0 < n → ∃ S' I', fix3 (lp_L_law_18 fu sL sx 1 39) n (nI i) (mkS D) I = some (1, S', I') := by
    intro i D I n h1 h2 hn
    obtain ⟨n, rfl⟩ : ∃ j, n = j + 1 := ⟨n - 1, by omega⟩
    refine ⟨mkS D, I, ?_⟩
    show lp_L_law_18 fu sL sx 1 39 _ (nI i) (mkS D) I = _
    unfold lp_L_law_18
    have c : sL.toInt32 - 9 < nI i := by
      rw [show sL.toInt32 = nI sL from rfl, Int32.lt_iff_toInt_lt, i32_sub (by rw [toInt_nI (by omega), show (9 : Int32).toInt = 9 from rfl]; omega) (by rw [toInt_nI (by omega), show (9 : Int32).toInt = 9 from rfl]; omega), toInt_nI (by omega), toInt_nI (by omega), show (9 : Int32).toInt = 9 from rfl]
      omega
    rw [if_pos c]
  intro m
  induction m with
  | zero =>
    intro i D I n g h1 h2 hn
    exact stop i D I n h1 (by omega) (by omega)
  | succ m ih =>
    intro i D I n g h1 h2 hn
    by_cases q : i + 9 ≤ sL
    · obtain ⟨n, rfl⟩ : ∃ j, n = j + 1 := ⟨n - 1, by omega⟩
      obtain ⟨D', I', g', hs⟩ := law_step hfu (sx := sx) q hL g
      obtain ⟨S2, I2, h3⟩ := ih (i + 9) D' I' n g' (by omega) (by omega) (by omega)
      refine ⟨S2, I2, ?_⟩
      rw [← h3]
      exact hs _
    · exact stop i D I n h1 (by omega) (by omega)
