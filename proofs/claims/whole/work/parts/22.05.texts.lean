/-! owed, why -/
def foB (I : II) (s d : Int32) (t : Nat) : Bool := decide (I 51 t = s ∧ I 53 t ≤ d ∧ d ≤ I 54 t)
/-- the last number below n of which p holds -/
def lastP (p : Nat → Bool) : Nat → Int32
  | 0 => -9
  | n + 1 => if p n then nI n else lastP p n
theorem lastP_cases (p : Nat → Bool) : ∀ n, lastP p n = -9 ∨ ∃ k, k < n ∧ lastP p n = nI k
  | 0 => Or.inl rfl
  | n + 1 => by
    unfold lastP
    cases p n with
    | true => exact Or.inr ⟨n, by omega, rfl⟩
    | false =>
      rcases lastP_cases p n with h | ⟨k, hk, h⟩
      · exact Or.inl h
      · exact Or.inr ⟨k, by omega, h⟩
theorem m_textFor (fu : Nat) (hfu : 100 < fu) {D : Dn} {I : II} (g : GT D I) (s d : Int32) : Rf_X11_textFor fu (mkS D) I s d = some (lastP (foB I s d) (nT I)) := by
  have hn : nT I ≤ 12 := g.1.1.2
  have e : I 38 15 = nI (nT I) := g.1.1.1
  unfold Rf_X11_textFor
  refine fix2_run (F := Rl_X11_textFor_6 fu (mkS D) I s d) (fun i => lastP (foB I s d) i) (fun i => nI i) (nT I) (fun i hi self => ?_) (fun self => ?_) fu (by omega)
  · have ei := nx_nI (k := i) (by omega)
    have h12 : ∀ a, a ≠ 0 → inbL a 12 (nI i) := fun a ha => ⟨ha, nI_nn (by omega), by rw [ei]; omega⟩
    have hc : ¬ nI (nT I) ≤ nI i := by rw [nI_le_iff (by omega) (by omega)]; omega
    unfold Rl_X11_textFor_6 Rj_X11_textFor_55 Rj_X11_textFor_56 rdN
    rw [e, if_neg hc, gd_pos (h12 _ (by decide)), gd_pos (h12 _ (by decide)), gd_pos (h12 _ (by decide)), ei, nI_1, w_in]
    simp only [i64_le]
    have hl : lastP (foB I s d) (i + 1) = if foB I s d i then nI i else lastP (foB I s d) i := rfl
    rw [hl]
    unfold foB
    by_cases q1 : I 51 i = s
    · rw [if_pos q1]
      by_cases q2 : I 53 i ≤ d ∧ d ≤ I 54 i
      · have c : decide (I 51 i = s ∧ I 53 i ≤ d ∧ d ≤ I 54 i) = true := decide_eq_true ⟨q1, q2⟩
        rw [if_pos q2, if_neg i1ne, c]; rfl
      · have c : decide (I 51 i = s ∧ I 53 i ≤ d ∧ d ≤ I 54 i) = false := decide_eq_false (fun z => q2 z.2)
        rw [if_neg q2, if_pos rfl, c]; rfl
    · have c : decide (I 51 i = s ∧ I 53 i ≤ d ∧ d ≤ I 54 i) = false := decide_eq_false (fun z => q1 z.1)
      rw [if_neg q1, c]; rfl
  · unfold Rl_X11_textFor_6
    rw [e, if_pos (Int32.le_refl _)]
theorem x_text {D : Dn} {I : II} (g : GT D I) {t : Nat} (ht : t < nT I) : D.1 6 t ≠ 0 ∧ D.1 6 t - 1 = ta D t ∧ (mkS D).1 6 t = D.1 6 t ∧ (mkS D).1 (ta D t) 0 = ta D t + 2 ∧ (mkS D).2.2.1 (ta D t + 1) = 4 := by
  obtain ⟨⟨⟨y1, y2, y3, y4⟩, y5, y6⟩, -⟩ := g.2 t ht
  have hA : 77 ≤ ta D t := by unfold ta; omega
  refine ⟨by omega, rfl, rfl, ?_, ?_⟩
  · rw [mk_dyn hA]; exact y5
  · rw [mk_len (by omega)]; exact y6
theorem x_force (fu : Nat) {D : Dn} {I : II} (g : GT D I) {t : Nat} (ht : t < nT I) (s d : Int32) : f_X7_isInForce fu (mkS D) I (ta D t) s d = some (if foB I s d t then 1 else 0) := by
  obtain ⟨a1, a2, a3, a4, a5⟩ := x_text g ht
  obtain ⟨-, -, c1, c2, c3, c4⟩ := g.2 t ht
  have i0 : ∀ j : Int32, ¬ j < 0 → nx j < 4 → inb (mkS D) (ta D t + 2) j := fun j h1 h2 => ⟨by omega, h1, by rw [show ta D t + 2 - 1 = ta D t + 1 from rfl, a5]; exact h2⟩
  unfold f_X7_isInForce rd
  rw [a4, gd_pos (i0 0 (by decide) (by decide)), gd_pos (i0 2 (by decide) (by decide)), gd_pos (i0 3 (by decide) (by decide)), show ta D t + 2 - 1 = ta D t + 1 from rfl, show nx (0 : Int32) = 0 from rfl, show nx (2 : Int32) = 2 from rfl, show nx (3 : Int32) = 3 from rfl, c1, c3, c4, w_within]
  unfold foB
  by_cases q1 : I 51 t = s
  · rw [if_pos q1]
    by_cases q2 : I 53 t ≤ d ∧ d ≤ I 54 t
    · have c : decide (I 51 t = s ∧ I 53 t ≤ d ∧ d ≤ I 54 t) = true := decide_eq_true ⟨q1, q2⟩
      rw [if_pos q2, if_neg i1ne, c]; rfl
    · have c : decide (I 51 t = s ∧ I 53 t ≤ d ∧ d ≤ I 54 t) = false := decide_eq_false (fun z => q2 z.2)
      rw [if_neg q2, if_pos rfl, c]; rfl
  · have c : decide (I 51 t = s ∧ I 53 t ≤ d ∧ d ≤ I 54 t) = false := decide_eq_false (fun z => q1 z.1)
    rw [if_neg q1, c]; rfl
theorem x_textFor (fu : Nat) (hfu : 100 < fu) {D : Dn} {I : II} (g : GT D I) (s d : Int32) : Rf_X10_textFor fu (mkS D) I s d = some (lastP (foB I s d) (nT I)) := by
  have hn : nT I ≤ 12 := g.1.1.2
  have e : I 0 2 = nI (nT I) := g.1.2.trans g.1.1.1
  unfold Rf_X10_textFor
  simp only [lt]
  rw [e]
  have key : ∀ n, n ≤ nT I → ∀ m, n < m → fix1 (Rl_X10_textFor_7 fu (mkS D) I s d) m (nI n - 1) = some (lastP (foB I s d) n) := by
    intro n
    induction n with
    | zero =>
      intro _ m hm
      obtain ⟨m, rfl⟩ : ∃ k, m = k + 1 := ⟨m - 1, by omega⟩
      show Rl_X10_textFor_7 fu (mkS D) I s d _ (nI 0 - 1) = _
      unfold Rl_X10_textFor_7
      rw [if_pos (by decide)]
      rfl
    | succ n ih =>
      intro hn2 m hm
      obtain ⟨m, rfl⟩ : ∃ k, m = k + 1 := ⟨m - 1, by omega⟩
      obtain ⟨a1, a2, a3, a4, a5⟩ := x_text g (t := n) (by omega)
      have e1 : nI (n + 1) - 1 = nI n := by rw [← nI_1, Int32.add_sub_cancel]
      have ei := nx_nI (k := n) (by omega)
      rw [e1]
      show Rl_X10_textFor_7 fu (mkS D) I s d (fix1 (Rl_X10_textFor_7 fu (mkS D) I s d) m) (nI n) = _
      unfold Rl_X10_textFor_7
      rw [if_neg (nI_nn (by omega)), gd_pos ⟨by decide, nI_nn (by omega), by rw [ei]; omega⟩, ei, a3, gd_pos a1, a2, x_force fu g (by omega), Option.bind_some]
      have hl : lastP (foB I s d) (n + 1) = if foB I s d n then nI n else lastP (foB I s d) n := rfl
      rw [hl]
      cases foB I s d n with
      | true => rfl
      | false =>
        have : nI n + (-1 : Int32) = nI n - 1 := (Int32.sub_eq_add_neg _ _).symm
        show (if (0 : Int32) = 0 then fix1 _ m (nI n + -1) else some (nI n)) = _
        rw [if_pos rfl, this]
        exact ih (by omega) m (by omega)
  exact key (nT I) (Nat.le_refl _) fu (by omega)
/-- what is owed -/
def owd (I : II) (s d : Int32) : Int32 := if lastP (foB I s d) (nT I) = -9 then 0 else I 52 (nx (lastP (foB I s d) (nT I)))
theorem x_owedTo (fu : Nat) (hfu : 100 < fu) {D : Dn} {I : II} (g : GT D I) (s d : Int32) : Rf_X10_owedTo fu (mkS D) I s d = some (owd I s d) := by
  have hn : nT I ≤ 12 := g.1.1.2
  unfold Rf_X10_owedTo owd
  rw [x_textFor fu hfu g, Option.bind_some]
  rcases lastP_cases (foB I s d) (nT I) with h | ⟨k, hk, h⟩
  · rw [h, if_pos rfl, if_pos rfl]
  · have ek := nx_nI (k := k) (by omega)
    have hne : ¬ nI k = (-9 : Int32) := fun z => nI_nn (k := k) (by omega) (by rw [z]; decide)
    obtain ⟨a1, a2, a3, a4, a5⟩ := x_text g hk
    obtain ⟨-, -, c1, c2, c3, c4⟩ := g.2 k hk
    rw [h, if_neg hne, if_neg hne, gd_pos ⟨by decide, nI_nn (by omega), by rw [ek]; omega⟩, ek, a3, gd_pos a1, a2]
    unfold f_X7_least rd
    rw [a4, gd_pos ⟨by omega, by decide, by rw [show ta D k + 2 - 1 = ta D k + 1 from rfl, a5]; decide⟩, show ta D k + 2 - 1 = ta D k + 1 from rfl, show nx (1 : Int32) = 1 from rfl, c2]
    rfl
theorem m_owedTo (fu : Nat) (hfu : 100 < fu) {D : Dn} {I : II} (g : GT D I) (s d : Int32) : Rf_X11_owedTo fu (mkS D) I s d = some (owd I s d) := by
  have hn : nT I ≤ 12 := g.1.1.2
  unfold Rf_X11_owedTo owd
  rw [m_textFor fu hfu g, Option.bind_some]
  rcases lastP_cases (foB I s d) (nT I) with h | ⟨k, hk, h⟩
  · rw [h, if_pos rfl, if_neg (by decide)]
  · have ek := nx_nI (k := k) (by omega)
    have hne : ¬ nI k = (-9 : Int32) := fun z => nI_nn (k := k) (by omega) (by rw [z]; decide)
    rw [h, if_neg hne, if_pos (nonneg_nI (by omega)), gd_pos ⟨by decide, nI_nn (by omega), by rw [ek]; omega⟩]
    unfold rdN
    rfl
theorem p_owed (fu : Nat) (hfu : 100 < fu) {D : Dn} {I : II} (g : Inv D I) (x d : Int32) : ∃ r, Rf_X10_owed fu (mkS D) I x d = some r ∧ Rf_X11_owed fu (mkS D) I x d = some r := by
  unfold Rf_X10_owed Rf_X11_owed
  rw [day_eq, x_owedTo fu hfu g.2.2.2.1, m_owedTo fu hfu g.2.2.2.1]
  rcases stop_cases g.2.1 x with ⟨h1, h2⟩ | ⟨s, hs, rfl, h1, h2⟩
  · rw [h1, h2]; exact ⟨_, rfl, rfl⟩
  · rw [h1, h2, if_neg i1ne, if_pos rfl]
    exact ite_pair (fun _ => ⟨_, rfl, rfl⟩) (fun _ => ⟨_, rfl, rfl⟩)
theorem p_why (fu : Nat) (hfu : 100 < fu) {D : Dn} {I : II} (g : Inv D I) (x d : Int32) : ∃ r, Rf_X10_why fu (mkS D) I x d = some r ∧ Rf_X11_why fu (mkS D) I x d = some r := by
  unfold Rf_X10_why Rf_X11_why
  rw [day_eq, x_textFor fu hfu g.2.2.2.1, m_textFor fu hfu g.2.2.2.1]
  rcases stop_cases g.2.1 x with ⟨h1, h2⟩ | ⟨s, hs, rfl, h1, h2⟩
  · rw [h1, h2]; exact ⟨_, rfl, rfl⟩
  · rw [h1, h2, if_neg i1ne, if_pos rfl]
    exact ite_pair (fun _ => ⟨_, rfl, rfl⟩) (fun _ => ⟨_, rfl, rfl⟩)
