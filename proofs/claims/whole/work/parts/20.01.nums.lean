/-! numbers: small ones as nI k; loops that run N rounds -/
theorem gd_pos {ρ : Type} {c : Prop} [Decidable c] {x : Option ρ} (h : c) : gd c x = x := if_pos h
theorem nI_def (n : Nat) : Int32.ofNat n = nI n := rfl
theorem nI_mul (a b : Nat) : nI a * nI b = nI (a * b) := by unfold nI; exact (Int32.ofNat_mul a b).symm
theorem nx_nI {k : Nat} (h : k < 2147483648) : nx (nI k) = k := nI_clamp h
theorem toInt_nI {k : Nat} (h : k < 2147483648) : (nI k).toInt = (k : Int) := nI_toInt h
theorem nI_sub {a b : Nat} (h : b ≤ a) : nI a - nI b = nI (a - b) := by
  have : nI a = nI (a - b) + nI b := by rw [nI_add, Nat.sub_add_cancel h]
  rw [this, Int32.add_sub_cancel]
theorem nI_lt_iff {a b : Nat} (ha : a < 2147483648) (hb : b < 2147483648) : nI a < nI b ↔ a < b := by
  rw [Int32.lt_iff_toInt_lt, toInt_nI ha, toInt_nI hb]; omega
theorem nI_le_iff {a b : Nat} (ha : a < 2147483648) (hb : b < 2147483648) : nI a ≤ nI b ↔ a ≤ b := by
  rw [Int32.le_iff_toInt_le, toInt_nI ha, toInt_nI hb]; omega
theorem nI_eq_iff {a b : Nat} (ha : a < 2147483648) (hb : b < 2147483648) : nI a = nI b ↔ a = b := by
  constructor
  · intro h
    have := congrArg Int32.toInt h
    rw [toInt_nI ha, toInt_nI hb] at this
    omega
  · exact fun h => by rw [h]
theorem nI_nn {k : Nat} (h : k < 2147483648) : ¬ nI k < 0 := nI_pos h
theorem nI_nx {x : Int32} (h : ¬ x < 0) : x = nI (nx x) := by
  apply Int32.toInt_inj.mp
  have h1 := nn32 h
  have h2 : x.toInt < 2147483648 := Int32.toInt_lt x
  rw [toInt_nI (by omega), h1]
theorem nx_lt {x : Int32} {n : Nat} (h : ¬ x < 0) (hn : n < 2147483648) (h2 : x < nI n) : nx x < n := by
  have h1 := nn32 h
  rw [Int32.lt_iff_toInt_lt, toInt_nI hn] at h2
  omega
theorem nx_le {x : Int32} {n : Nat} (h : ¬ x < 0) (hn : n < 2147483648) (h2 : x ≤ nI n) : nx x ≤ n := by
  have h1 := nn32 h
  rw [Int32.le_iff_toInt_le, toInt_nI hn] at h2
  omega
theorem nx_bd (x : Int32) : nx x < 2147483648 := by
  have h2 : x.toInt < 2147483648 := Int32.toInt_lt x
  unfold nx
  show x.toInt.toNat < _
  omega
theorem nI_div {a b : Nat} (ha : a < 2147483648) (hb : b < 2147483648) : nI a / nI b = nI (a / b) := by
  apply Int32.toInt_inj.mp
  have h3 : a / b ≤ a := Nat.div_le_self a b
  rw [toInt_nI (by omega), Int32.toInt_div_of_ne_left]
  · rw [toInt_nI ha, toInt_nI hb, Int.ofNat_tdiv]
  · intro h
    have := congrArg Int32.toInt h
    rw [toInt_nI ha] at this
    have h4 : (Int32.minValue).toInt = -2147483648 := by decide
    omega

theorem fix1_run {α1 ρ : Type} {F : (α1 → Option ρ) → α1 → Option ρ} {out : Option ρ} (s1 : Nat → α1) (N : Nat) (h : ∀ i, i < N → ∀ self, F self (s1 i) = self (s1 (i + 1))) (hN : ∀ self, F self (s1 N) = out) : ∀ n, N < n → fix1 F n (s1 0) = out := by
  have key : ∀ j, j ≤ N → ∀ n, j < n → fix1 F n (s1 (N - j)) = out := by
    intro j
    induction j with
    | zero =>
      intro _ n hn
      obtain ⟨m, rfl⟩ : ∃ m, n = m + 1 := ⟨n - 1, by omega⟩
      exact hN _
    | succ j ih =>
      intro hj n hn
      obtain ⟨m, rfl⟩ : ∃ m, n = m + 1 := ⟨n - 1, by omega⟩
      show F (fix1 F m) (s1 (N - (j + 1))) = out
      rw [h (N - (j + 1)) (by omega)]
      have e : N - (j + 1) + 1 = N - j := by omega
      rw [e]
      exact ih (by omega) m (by omega)
  intro n hn
  have := key N (Nat.le_refl N) n hn
  rw [Nat.sub_self] at this
  exact this
theorem fix2_run {α1 α2 ρ : Type} {F : (α1 → α2 → Option ρ) → α1 → α2 → Option ρ} {out : Option ρ} (s1 : Nat → α1) (s2 : Nat → α2) (N : Nat) (h : ∀ i, i < N → ∀ self, F self (s1 i) (s2 i) = self (s1 (i + 1)) (s2 (i + 1))) (hN : ∀ self, F self (s1 N) (s2 N) = out) : ∀ n, N < n → fix2 F n (s1 0) (s2 0) = out := by
  have key : ∀ j, j ≤ N → ∀ n, j < n → fix2 F n (s1 (N - j)) (s2 (N - j)) = out := by
    intro j
    induction j with
    | zero =>
      intro _ n hn
      obtain ⟨m, rfl⟩ : ∃ m, n = m + 1 := ⟨n - 1, by omega⟩
      exact hN _
    | succ j ih =>
      intro hj n hn
      obtain ⟨m, rfl⟩ : ∃ m, n = m + 1 := ⟨n - 1, by omega⟩
      show F (fix2 F m) (s1 (N - (j + 1))) (s2 (N - (j + 1))) = out
      rw [h (N - (j + 1)) (by omega)]
      have e : N - (j + 1) + 1 = N - j := by omega
      rw [e]
      exact ih (by omega) m (by omega)
  intro n hn
  have := key N (Nat.le_refl N) n hn
  rw [Nat.sub_self] at this
  exact this
theorem fix3_run {α1 α2 α3 ρ : Type} {F : (α1 → α2 → α3 → Option ρ) → α1 → α2 → α3 → Option ρ} {out : Option ρ} (s1 : Nat → α1) (s2 : Nat → α2) (s3 : Nat → α3) (N : Nat) (h : ∀ i, i < N → ∀ self, F self (s1 i) (s2 i) (s3 i) = self (s1 (i + 1)) (s2 (i + 1)) (s3 (i + 1))) (hN : ∀ self, F self (s1 N) (s2 N) (s3 N) = out) : ∀ n, N < n → fix3 F n (s1 0) (s2 0) (s3 0) = out := by
  have key : ∀ j, j ≤ N → ∀ n, j < n → fix3 F n (s1 (N - j)) (s2 (N - j)) (s3 (N - j)) = out := by
    intro j
    induction j with
    | zero =>
      intro _ n hn
      obtain ⟨m, rfl⟩ : ∃ m, n = m + 1 := ⟨n - 1, by omega⟩
      exact hN _
    | succ j ih =>
      intro hj n hn
      obtain ⟨m, rfl⟩ : ∃ m, n = m + 1 := ⟨n - 1, by omega⟩
      show F (fix3 F m) (s1 (N - (j + 1))) (s2 (N - (j + 1))) (s3 (N - (j + 1))) = out
      rw [h (N - (j + 1)) (by omega)]
      have e : N - (j + 1) + 1 = N - j := by omega
      rw [e]
      exact ih (by omega) m (by omega)
  intro n hn
  have := key N (Nat.le_refl N) n hn
  rw [Nat.sub_self] at this
  exact this
theorem fix4_run {α1 α2 α3 α4 ρ : Type} {F : (α1 → α2 → α3 → α4 → Option ρ) → α1 → α2 → α3 → α4 → Option ρ} {out : Option ρ} (s1 : Nat → α1) (s2 : Nat → α2) (s3 : Nat → α3) (s4 : Nat → α4) (N : Nat) (h : ∀ i, i < N → ∀ self, F self (s1 i) (s2 i) (s3 i) (s4 i) = self (s1 (i + 1)) (s2 (i + 1)) (s3 (i + 1)) (s4 (i + 1))) (hN : ∀ self, F self (s1 N) (s2 N) (s3 N) (s4 N) = out) : ∀ n, N < n → fix4 F n (s1 0) (s2 0) (s3 0) (s4 0) = out := by
  have key : ∀ j, j ≤ N → ∀ n, j < n → fix4 F n (s1 (N - j)) (s2 (N - j)) (s3 (N - j)) (s4 (N - j)) = out := by
    intro j
    induction j with
    | zero =>
      intro _ n hn
      obtain ⟨m, rfl⟩ : ∃ m, n = m + 1 := ⟨n - 1, by omega⟩
      exact hN _
    | succ j ih =>
      intro hj n hn
      obtain ⟨m, rfl⟩ : ∃ m, n = m + 1 := ⟨n - 1, by omega⟩
      show F (fix4 F m) (s1 (N - (j + 1))) (s2 (N - (j + 1))) (s3 (N - (j + 1))) (s4 (N - (j + 1))) = out
      rw [h (N - (j + 1)) (by omega)]
      have e : N - (j + 1) + 1 = N - j := by omega
      rw [e]
      exact ih (by omega) m (by omega)
  intro n hn
  have := key N (Nat.le_refl N) n hn
  rw [Nat.sub_self] at this
  exact this
theorem fix5_run {α1 α2 α3 α4 α5 ρ : Type} {F : (α1 → α2 → α3 → α4 → α5 → Option ρ) → α1 → α2 → α3 → α4 → α5 → Option ρ} {out : Option ρ} (s1 : Nat → α1) (s2 : Nat → α2) (s3 : Nat → α3) (s4 : Nat → α4) (s5 : Nat → α5) (N : Nat) (h : ∀ i, i < N → ∀ self, F self (s1 i) (s2 i) (s3 i) (s4 i) (s5 i) = self (s1 (i + 1)) (s2 (i + 1)) (s3 (i + 1)) (s4 (i + 1)) (s5 (i + 1))) (hN : ∀ self, F self (s1 N) (s2 N) (s3 N) (s4 N) (s5 N) = out) : ∀ n, N < n → fix5 F n (s1 0) (s2 0) (s3 0) (s4 0) (s5 0) = out := by
  have key : ∀ j, j ≤ N → ∀ n, j < n → fix5 F n (s1 (N - j)) (s2 (N - j)) (s3 (N - j)) (s4 (N - j)) (s5 (N - j)) = out := by
    intro j
    induction j with
    | zero =>
      intro _ n hn
      obtain ⟨m, rfl⟩ : ∃ m, n = m + 1 := ⟨n - 1, by omega⟩
      exact hN _
    | succ j ih =>
      intro hj n hn
      obtain ⟨m, rfl⟩ : ∃ m, n = m + 1 := ⟨n - 1, by omega⟩
      show F (fix5 F m) (s1 (N - (j + 1))) (s2 (N - (j + 1))) (s3 (N - (j + 1))) (s4 (N - (j + 1))) (s5 (N - (j + 1))) = out
      rw [h (N - (j + 1)) (by omega)]
      have e : N - (j + 1) + 1 = N - j := by omega
      rw [e]
      exact ih (by omega) m (by omega)
  intro n hn
  have := key N (Nat.le_refl N) n hn
  rw [Nat.sub_self] at this
  exact this
theorem fix6_run {α1 α2 α3 α4 α5 α6 ρ : Type} {F : (α1 → α2 → α3 → α4 → α5 → α6 → Option ρ) → α1 → α2 → α3 → α4 → α5 → α6 → Option ρ} {out : Option ρ} (s1 : Nat → α1) (s2 : Nat → α2) (s3 : Nat → α3) (s4 : Nat → α4) (s5 : Nat → α5) (s6 : Nat → α6) (N : Nat) (h : ∀ i, i < N → ∀ self, F self (s1 i) (s2 i) (s3 i) (s4 i) (s5 i) (s6 i) = self (s1 (i + 1)) (s2 (i + 1)) (s3 (i + 1)) (s4 (i + 1)) (s5 (i + 1)) (s6 (i + 1))) (hN : ∀ self, F self (s1 N) (s2 N) (s3 N) (s4 N) (s5 N) (s6 N) = out) : ∀ n, N < n → fix6 F n (s1 0) (s2 0) (s3 0) (s4 0) (s5 0) (s6 0) = out := by
  have key : ∀ j, j ≤ N → ∀ n, j < n → fix6 F n (s1 (N - j)) (s2 (N - j)) (s3 (N - j)) (s4 (N - j)) (s5 (N - j)) (s6 (N - j)) = out := by
    intro j
    induction j with
    | zero =>
      intro _ n hn
      obtain ⟨m, rfl⟩ : ∃ m, n = m + 1 := ⟨n - 1, by omega⟩
      exact hN _
    | succ j ih =>
      intro hj n hn
      obtain ⟨m, rfl⟩ : ∃ m, n = m + 1 := ⟨n - 1, by omega⟩
      show F (fix6 F m) (s1 (N - (j + 1))) (s2 (N - (j + 1))) (s3 (N - (j + 1))) (s4 (N - (j + 1))) (s5 (N - (j + 1))) (s6 (N - (j + 1))) = out
      rw [h (N - (j + 1)) (by omega)]
      have e : N - (j + 1) + 1 = N - j := by omega
      rw [e]
      exact ih (by omega) m (by omega)
  intro n hn
  have := key N (Nat.le_refl N) n hn
  rw [Nat.sub_self] at this
  exact this
theorem fix7_run {α1 α2 α3 α4 α5 α6 α7 ρ : Type} {F : (α1 → α2 → α3 → α4 → α5 → α6 → α7 → Option ρ) → α1 → α2 → α3 → α4 → α5 → α6 → α7 → Option ρ} {out : Option ρ} (s1 : Nat → α1) (s2 : Nat → α2) (s3 : Nat → α3) (s4 : Nat → α4) (s5 : Nat → α5) (s6 : Nat → α6) (s7 : Nat → α7) (N : Nat) (h : ∀ i, i < N → ∀ self, F self (s1 i) (s2 i) (s3 i) (s4 i) (s5 i) (s6 i) (s7 i) = self (s1 (i + 1)) (s2 (i + 1)) (s3 (i + 1)) (s4 (i + 1)) (s5 (i + 1)) (s6 (i + 1)) (s7 (i + 1))) (hN : ∀ self, F self (s1 N) (s2 N) (s3 N) (s4 N) (s5 N) (s6 N) (s7 N) = out) : ∀ n, N < n → fix7 F n (s1 0) (s2 0) (s3 0) (s4 0) (s5 0) (s6 0) (s7 0) = out := by
  have key : ∀ j, j ≤ N → ∀ n, j < n → fix7 F n (s1 (N - j)) (s2 (N - j)) (s3 (N - j)) (s4 (N - j)) (s5 (N - j)) (s6 (N - j)) (s7 (N - j)) = out := by
    intro j
    induction j with
    | zero =>
      intro _ n hn
      obtain ⟨m, rfl⟩ : ∃ m, n = m + 1 := ⟨n - 1, by omega⟩
      exact hN _
    | succ j ih =>
      intro hj n hn
      obtain ⟨m, rfl⟩ : ∃ m, n = m + 1 := ⟨n - 1, by omega⟩
      show F (fix7 F m) (s1 (N - (j + 1))) (s2 (N - (j + 1))) (s3 (N - (j + 1))) (s4 (N - (j + 1))) (s5 (N - (j + 1))) (s6 (N - (j + 1))) (s7 (N - (j + 1))) = out
      rw [h (N - (j + 1)) (by omega)]
      have e : N - (j + 1) + 1 = N - j := by omega
      rw [e]
      exact ih (by omega) m (by omega)
  intro n hn
  have := key N (Nat.le_refl N) n hn
  rw [Nat.sub_self] at this
  exact this
theorem upI_at {I : II} {a k : Nat} {v : Int32} : upI I a k v a k = v := by unfold upI; simp
theorem upI_row {I : II} {a k b : Nat} {v : Int32} (h : b ≠ a) : upI I a k v b = I b := upI_ne h
theorem upI_cell {I : II} {a k j : Nat} {v : Int32} (h : j ≠ k) : upI I a k v a j = I a j := by unfold upI; simp [h]
/-- the checks of both sides -/
theorem w_in (n0 n2 n4 : Int64) : t_X11_in n0 n2 n4 = if n2 ≤ n0 ∧ n0 ≤ n4 then 1 else 0 := by
  unfold t_X11_in
  simp only [lg_cmp_lt, lg_cmp_gt]
  by_cases h1 : n2 ≤ n0
  · by_cases h2 : n0 ≤ n4
    · rw [if_neg (Int64.not_lt.mpr h1), if_neg (Int64.not_lt.mpr h2), if_pos ⟨h1, h2⟩]
    · rw [if_neg (Int64.not_lt.mpr h1), if_pos (Int64.not_le.mp h2), if_neg (fun h => h2 h.2)]
  · rw [if_pos (Int64.not_le.mp h1), if_neg (fun h => h1 h.1)]
theorem w_within {x lo hi : Int32} : t_X10_isWithin x lo hi = if lo ≤ x ∧ x ≤ hi then 1 else 0 := by
  unfold t_X10_isWithin
  by_cases h1 : lo ≤ x
  · by_cases h2 : x ≤ hi
    · rw [if_neg (Int32.not_lt.mpr h1), if_neg (Int32.not_lt.mpr h2), if_pos ⟨h1, h2⟩]
    · rw [if_neg (Int32.not_lt.mpr h1), if_pos (Int32.not_le.mp h2), if_neg (fun h => h2 h.2)]
  · rw [if_pos (Int32.not_le.mp h1), if_neg (fun h => h1 h.1)]
theorem i64_le {x y : Int32} : x.toInt64 ≤ y.toInt64 ↔ x ≤ y := by
  rw [Int64.le_iff_toInt_le, Int32.le_iff_toInt_le, Int32.toInt_toInt64, Int32.toInt_toInt64]
theorem i64_lt {x y : Int32} : x.toInt64 < y.toInt64 ↔ x < y := by
  rw [Int64.lt_iff_toInt_lt, Int32.lt_iff_toInt_lt, Int32.toInt_toInt64, Int32.toInt_toInt64]
theorem w_in32 {x lo hi : Int32} : t_X11_in x.toInt64 lo.toInt64 hi.toInt64 = t_X10_isWithin x lo hi := by
  rw [w_in, w_within]; simp only [i64_le]
theorem i64_pred {n : Nat} (hn : n < 2147483648) : ((nI n).toInt64 - 1).toInt = (n : Int) - 1 := by
  rw [Int64.toInt_sub, Int32.toInt_toInt64, toInt_nI hn]
  have : (1 : Int64).toInt = 1 := by decide
  rw [this]
  exact Int.bmod_eq_of_le (by omega) (by omega)
theorem w_up {x : Int32} {n : Nat} (hn : n < 2147483648) : t_X11_in x.toInt64 0 ((nI n).toInt64 - 1) = if ¬ x < 0 ∧ x < nI n then 1 else 0 := by
  rw [w_in]
  have h0 : (0 : Int64).toInt = 0 := by decide
  have e : ((0 : Int64) ≤ x.toInt64 ∧ x.toInt64 ≤ (nI n).toInt64 - 1) ↔ (¬ x < 0 ∧ x < nI n) := by
    rw [Int64.le_iff_toInt_le, Int64.le_iff_toInt_le, Int32.toInt_toInt64, i64_pred hn, h0, Int32.lt_iff_toInt_lt, Int32.lt_iff_toInt_lt, toInt_nI hn, Int32.toInt_zero]
    omega
  by_cases q : ¬ x < 0 ∧ x < nI n
  · rw [if_pos q, if_pos (e.mpr q)]
  · rw [if_neg q, if_neg (fun z => q (e.mp z))]
