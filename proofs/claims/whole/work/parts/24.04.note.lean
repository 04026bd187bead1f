/-! the class's tables: noteArrival, remember -/
theorem x_note (fu : Nat) (hfu : 100 < fu) {S : Sk} {J : II} {p ns most d r bb : Nat} (hp : 77 ≤ p) (hns : ns ≤ 16) (hm : most ≤ 30) (hd : d < ns) (e3 : J p 3 = nI most) (e1 : J p 1 = nI d) (e4 : J 8 4 = nI bb) (hbb : bb ≤ NB) (hr : Row 496 NB J 10) :
    ∃ J', Rf_X9_noteArrival fu S J (p + 1) (nI r) = some J' ∧ (∀ b, b ≠ 8 → J' b = J b) ∧ ((J' 8 4 = J 8 4 ∧ J' 8 5 = J 8 5 ∧ J' 8 6 = J 8 6 ∧ ∀ w, w ≤ most → bb ≤ tb J 10 d w) ∨ ∃ w1, w1 ≤ most ∧ J' 8 4 = nI (tb J 10 d w1) ∧ tb J 10 d w1 < bb ∧ J' 8 5 = nI r ∧ J' 8 6 = nI w1 ∧ (∀ w, w ≤ most → tb J 10 d w1 ≤ tb J 10 d w) ∧ ∀ w, w < w1 → tb J 10 d w1 < tb J 10 d w) := by
  let P : Nat → II → Prop := fun i J' => (∀ b, b ≠ 8 → J' b = J b) ∧ ((J' 8 4 = J 8 4 ∧ J' 8 5 = J 8 5 ∧ J' 8 6 = J 8 6 ∧ ∀ w, w < i → bb ≤ tb J 10 d w) ∨ ∃ w1, w1 < i ∧ J' 8 4 = nI (tb J 10 d w1) ∧ tb J 10 d w1 < bb ∧ J' 8 5 = nI r ∧ J' 8 6 = nI w1 ∧ (∀ w, w < i → tb J 10 d w1 ≤ tb J 10 d w) ∧ ∀ w, w < w1 → tb J 10 d w1 < tb J 10 d w)
  have main := fix2_ex (K := Unit) (F := fun _ => Rl_X9_noteArrival_2 fu S (p + 1) (nI r)) (fun i => nI i) P (fun _ J' => some J') (most + 1) (fun i J' hi hP => ?_) (fun J' hP κ self => ?_) (most + 1) 0 J (by omega) ⟨fun _ _ => rfl, Or.inl ⟨rfl, rfl, rfl, fun w h => absurd h (Nat.not_lt_zero _)⟩⟩ fu (by omega)
  · obtain ⟨J', ⟨p1, p2⟩, hrun⟩ := main
    refine ⟨J', hrun (), p1, ?_⟩
    rcases p2 with ⟨z1, z2, z3, z4⟩ | ⟨w1, z0, z1, z2, z3, z4, z5, z6⟩
    · exact Or.inl ⟨z1, z2, z3, fun w hw => z4 w (by omega)⟩
    · exact Or.inr ⟨w1, by omega, z1, z2, z3, z4, fun w hw => z5 w (by omega), z6⟩
  · obtain ⟨p1, p2⟩ := hP
    have kj := nx_nI (k := 31 * d + i) (by omega)
    have r10 : rdN J' 10 (nI (31 * d + i)) = nI (tb J 10 d i) := by
      unfold rdN
      rw [kj, p1 10 (by decide)]
      exact (hr _ (by omega)).1
    have hle : tb J 10 d i ≤ NB := (hr _ (by omega)).2
    have f3 : J' p 3 = nI most := by rw [p1 p (by omega)]; exact e3
    have f1 : J' p 1 = nI d := by rw [p1 p (by omega)]; exact e1
    have hgo : ∀ self, Rl_X9_noteArrival_2 fu S (p + 1) (nI r) self (nI i) J' = if J' 8 4 ≤ nI (tb J 10 d i) then self (nI (i + 1)) J' else self (nI (i + 1)) (upI (upI (upI J' 8 4 (nI (tb J 10 d i))) 8 5 (nI r)) 8 6 (nI i)) := by
      intro self
      unfold Rl_X9_noteArrival_2 Rj_X9_noteArrival_51
      rw [gd_pos (Nat.succ_ne_zero p), Nat.add_sub_cancel, f3, if_neg (by rw [nI_lt_iff (by omega) (by omega)]; omega), f1, ix31, gd_pos ⟨by decide, nI_nn (by omega), by rw [kj]; omega⟩, r10, nI_p1]
    have hb4 : ∀ v, v ≤ NB → J' 8 4 = nI v → (J' 8 4 ≤ nI (tb J 10 d i) ↔ v ≤ tb J 10 d i) := fun v hv e => by
      rw [e, nI_le_iff (by simp only [NB] at *; omega) (by simp only [NB] at *; omega)]
    have upd : ∀ b, b ≠ 8 → upI (upI (upI J' 8 4 (nI (tb J 10 d i))) 8 5 (nI r)) 8 6 (nI i) b = J b := fun b hb => by
      rw [upI_row hb, upI_row hb, upI_row hb]; exact p1 b hb
    have u4 : upI (upI (upI J' 8 4 (nI (tb J 10 d i))) 8 5 (nI r)) 8 6 (nI i) 8 4 = nI (tb J 10 d i) := by rw [upI_cell (by decide), upI_cell (by decide), upI_at]
    have u5 : upI (upI (upI J' 8 4 (nI (tb J 10 d i))) 8 5 (nI r)) 8 6 (nI i) 8 5 = nI r := by rw [upI_cell (by decide), upI_at]
    have u6 : upI (upI (upI J' 8 4 (nI (tb J 10 d i))) 8 5 (nI r)) 8 6 (nI i) 8 6 = nI i := upI_at
    rcases p2 with ⟨z1, z2, z3, z4⟩ | ⟨w1, z0, z1, z2, z3, z4, z5, z6⟩
    · have hq := hb4 bb hbb (z1.trans e4)
      by_cases q : bb ≤ tb J 10 d i
      · refine ⟨J', ⟨p1, Or.inl ⟨z1, z2, z3, fun w hw => ?_⟩⟩, fun _ self => (hgo self).trans (if_pos (hq.mpr q))⟩
        by_cases e : w = i
        · subst e; exact q
        · exact z4 w (by omega)
      · refine ⟨_, ⟨upd, Or.inr ⟨i, by omega, u4, by omega, u5, u6, fun w hw => ?_, fun w hw => ?_⟩⟩, fun _ self => (hgo self).trans (if_neg (fun y => q (hq.mp y)))⟩
        · by_cases e : w = i
          · subst e; exact Nat.le_refl _
          · have := z4 w (by omega); omega
        · have := z4 w hw; omega
    · have hq := hb4 (tb J 10 d w1) (by omega) z1
      by_cases q : tb J 10 d w1 ≤ tb J 10 d i
      · refine ⟨J', ⟨p1, Or.inr ⟨w1, by omega, z1, z2, z3, z4, fun w hw => ?_, z6⟩⟩, fun _ self => (hgo self).trans (if_pos (hq.mpr q))⟩
        by_cases e : w = i
        · subst e; exact q
        · exact z5 w (by omega)
      · refine ⟨_, ⟨upd, Or.inr ⟨i, by omega, u4, by omega, u5, u6, fun w hw => ?_, fun w hw => ?_⟩⟩, fun _ self => (hgo self).trans (if_neg (fun y => q (hq.mp y)))⟩
        · by_cases e : w = i
          · subst e; exact Nat.le_refl _
          · have := z5 w (by omega); omega
        · have := z5 w hw; omega
  · obtain ⟨p1, -⟩ := hP
    show Rl_X9_noteArrival_2 fu S (p + 1) (nI r) self (nI (most + 1)) J' = _
    unfold Rl_X9_noteArrival_2
    rw [gd_pos (Nat.succ_ne_zero p), Nat.add_sub_cancel, p1 p (by omega), e3, if_pos (by rw [nI_lt_iff (by omega) (by omega)]; omega)]
theorem x_rem (fu : Nat) (hfu : 100 < fu) {S : Sk} {J : II} {ns most : Nat} (e3 : J 1 3 = nI ns) (hns : ns ≤ 16) (hm : most ≤ 30) (hr : Row 496 NB J 10) (hS : Row 496 NB J 11) :
    ∃ m J', Rf_X9_remember fu S J (nI most) = some (nI m, J') ∧ m < 2147483648 ∧ (∀ w, m.testBit w = true ↔ w ≤ most ∧ ∃ s, s < ns ∧ tb J 10 s w ≠ NB) ∧ (∀ b, b ≠ 11 → J' b = J b) ∧ Row 496 NB J' 11 ∧ Rem ns most (tb J 10) (tb J 11) (tb J' 11) := by
  let P : Nat → Int32 → II → Prop := fun s v J' => (∃ m, v = nI m ∧ m < 2147483648 ∧ ∀ w, m.testBit w = true ↔ w ≤ most ∧ ∃ s', s' < s ∧ tb J 10 s' w ≠ NB) ∧ (∀ b, b ≠ 11 → J' b = J b) ∧ (∀ s' w, s' < s → w ≤ most → J' 11 (31 * s' + w) = nI (if tb J 10 s' w = NB then tb J 11 s' w else tb J 10 s' w)) ∧ ∀ j, ¬ (∃ s' w, s' < s ∧ w ≤ most ∧ j = 31 * s' + w) → J' 11 j = J 11 j
  have hle : ∀ s w, s < ns → w ≤ most → (if tb J 10 s w = NB then tb J 11 s w else tb J 10 s w) ≤ NB := by
    intro s w hs hw
    have h1 : tb J 11 s w ≤ NB := (hS (31 * s + w) (by omega)).2
    have h2 : tb J 10 s w ≤ NB := (hr (31 * s + w) (by omega)).2
    split <;> assumption
  have main := fix3_ex (K := Unit) (F := fun _ => Rl_X9_remember_4 fu S (nI most)) (fun i => nI i) P (fun _ v J' => some (v, J')) ns (fun s v J' hs hP => ?_) (fun v J' hP κ self => ?_) ns 0 0 J (by omega) ⟨⟨0, rfl, by decide, fun w => by rw [Nat.zero_testBit]; exact ⟨fun z => absurd z (by decide), fun ⟨_, s', z, _⟩ => absurd z (Nat.not_lt_zero _)⟩⟩, fun _ _ => rfl, fun s' w h => absurd h (Nat.not_lt_zero _), fun _ _ => rfl⟩ fu (by omega)
  · obtain ⟨v, J', ⟨⟨m, rfl, m1, m2⟩, p1, p2, p3⟩, hrun⟩ := main
    refine ⟨m, J', hrun (), m1, m2, p1, fun j hj => ?_, fun s w hs hw => ?_⟩
    · by_cases q : ∃ s' w, s' < ns ∧ w ≤ most ∧ j = 31 * s' + w
      · obtain ⟨s', w, q1, q2, rfl⟩ := q
        have e := p2 s' w q1 q2
        have hl := hle s' w q1 q2
        unfold rw_
        rw [e, nx_nI (Nat.lt_of_le_of_lt hl (by decide))]
        exact ⟨rfl, hl⟩
      · have e := p3 j q
        have := hS j hj
        unfold rw_ at this ⊢
        rw [e]
        exact this
    · have hl := hle s w hs hw
      show nx (J' 11 (31 * s + w)) = _
      rw [p2 s w hs hw, nx_nI (Nat.lt_of_le_of_lt hl (by decide))]
  · obtain ⟨⟨m, rfl, m1, m2⟩, p1, p2, p3⟩ := hP
    let Q : Nat → Int32 → II → Prop := fun i v J2 => (∃ m, v = nI m ∧ m < 2147483648 ∧ ∀ w, m.testBit w = true ↔ w ≤ most ∧ ((∃ s', s' < s ∧ tb J 10 s' w ≠ NB) ∨ (w < i ∧ tb J 10 s w ≠ NB))) ∧ (∀ b, b ≠ 11 → J2 b = J b) ∧ (∀ w, w < i → J2 11 (31 * s + w) = nI (if tb J 10 s w = NB then tb J 11 s w else tb J 10 s w)) ∧ ∀ j, ¬ (31 * s ≤ j ∧ j < 31 * s + i) → J2 11 j = J' 11 j
    have inner := fix3_ex (K := Int32 → Int32 → II → Option (Int32 × II)) (F := fun κ => Rl_X9_remember_18 fu S κ (nI most) (nI s)) (fun i => nI i) Q (fun κ v J2 => κ v (nI (s + 1)) J2) (most + 1) (fun i v J2 hi hQ => ?_) (fun v J2 hQ κ self => ?_) (most + 1) 0 (nI m) J' (by omega) ⟨⟨m, rfl, m1, fun w => by rw [m2 w]; exact ⟨fun ⟨a, b⟩ => ⟨a, Or.inl b⟩, fun ⟨a, b⟩ => ⟨a, b.resolve_right (fun z => absurd z.1 (Nat.not_lt_zero _))⟩⟩⟩, p1, fun w hw => absurd hw (Nat.not_lt_zero _), fun _ _ => rfl⟩ fu (by omega)
    · obtain ⟨v', J2, ⟨⟨m', rfl, m1', m2'⟩, q1, q2, q3⟩, hrun⟩ := inner
      refine ⟨nI m', J2, ⟨⟨m', rfl, m1', fun w => ?_⟩, q1, fun s' w hs' hw => ?_, fun j hj => ?_⟩, fun _ self => ?_⟩
      · rw [m2' w]
        constructor
        · rintro ⟨a, ⟨s', b1, b2⟩ | ⟨b1, b2⟩⟩
          · exact ⟨a, s', by omega, b2⟩
          · exact ⟨a, s, by omega, b2⟩
        · rintro ⟨a, s', b1, b2⟩
          by_cases e : s' = s
          · subst e; exact ⟨a, Or.inr ⟨by omega, b2⟩⟩
          · exact ⟨a, Or.inl ⟨s', by omega, b2⟩⟩
      · by_cases e : s' = s
        · subst e; exact q2 w (by omega)
        · rw [q3 _ (by omega)]; exact p2 s' w (by omega) hw
      · rw [q3 j (fun z => hj ⟨s, j - 31 * s, by omega, by omega, by omega⟩)]
        exact p3 j (fun ⟨s', w, z1, z2, z3⟩ => hj ⟨s', w, by omega, z2, z3⟩)
      · show Rl_X9_remember_4 fu S (nI most) self (nI m) (nI s) J' = _
        unfold Rl_X9_remember_4
        rw [p1 1 (by decide), e3, if_neg (by rw [nI_le_iff (by omega) (by omega)]; omega)]
        exact hrun self
    · obtain ⟨⟨m', rfl, m1', m2'⟩, q1, q2, q3⟩ := hQ
      have hj : 31 * s + i < 496 := by omega
      have kj := nx_nI (k := 31 * s + i) (by omega)
      have r10 : rdN J2 10 (nI (31 * s + i)) = nI (tb J 10 s i) := by
        unfold rdN
        rw [kj, q1 10 (by decide)]
        exact (hr _ hj).1
      have hl10 : tb J 10 s i ≤ NB := (hr _ hj).2
      have hNB : nI (tb J 10 s i) = (1073741824 : Int32) ↔ tb J 10 s i = NB := nI_eq_iff (b := 1073741824) (by simp only [NB] at *; omega) (by decide)
      have hin : ∀ a : Nat, a ≠ 0 → inbL a 496 (nI (31 * s + i)) := fun a ha => ⟨ha, nI_nn (by omega), by rw [kj]; exact hj⟩
      have hc1 : ¬ nI most < nI i := by rw [nI_lt_iff (by omega) (by omega)]; omega
      by_cases q : tb J 10 s i = NB
      · refine ⟨nI m', J2, ⟨⟨m', rfl, m1', fun w => ?_⟩, q1, fun w hw => ?_, fun j hj2 => q3 j (by omega)⟩, fun κ self => ?_⟩
        · rw [m2' w]
          constructor
          · rintro ⟨a, b | ⟨b1, b2⟩⟩
            · exact ⟨a, Or.inl b⟩
            · exact ⟨a, Or.inr ⟨by omega, b2⟩⟩
          · rintro ⟨a, b | ⟨b1, b2⟩⟩
            · exact ⟨a, Or.inl b⟩
            · by_cases e : w = i
              · subst e; exact absurd q b2
              · exact ⟨a, Or.inr ⟨by omega, b2⟩⟩
        · by_cases e : w = i
          · subst e
            rw [q3 _ (by omega), p3 _ (fun ⟨s', w', z1, z2, z3⟩ => by omega), if_pos q]
            exact (hS _ hj).1
          · exact q2 w (by omega)
        · show Rl_X9_remember_18 fu S κ (nI most) (nI s) self (nI m') (nI i) J2 = _
          unfold Rl_X9_remember_18 Rj_X9_remember_66
          simp only [lt]
          rw [if_neg hc1, ix31, gd_pos (hin _ (by decide)), r10, if_pos (hNB.mpr q), nI_p1]
      · have h2i : 2 ^ i < 2147483648 := by
          have := Nat.pow_lt_pow_right (a := 2) (by decide) (show i < 31 by omega)
          exact this
        refine ⟨nI (m' ||| 2 ^ i), upI J2 11 (31 * s + i) (nI (tb J 10 s i)), ⟨⟨m' ||| 2 ^ i, rfl, Nat.or_lt_two_pow (n := 31) m1' h2i, fun w => ?_⟩, fun b hb => by rw [upI_row hb]; exact q1 b hb, fun w hw => ?_, fun j hj2 => by rw [upI_cell (by omega)]; exact q3 j (by omega)⟩, fun κ self => ?_⟩
        · rw [Nat.testBit_or, Bool.or_eq_true, m2' w, Nat.testBit_two_pow]
          constructor
          · rintro (⟨a, b | ⟨b1, b2⟩⟩ | b)
            · exact ⟨a, Or.inl b⟩
            · exact ⟨a, Or.inr ⟨by omega, b2⟩⟩
            · have := of_decide_eq_true b
              subst this
              exact ⟨by omega, Or.inr ⟨by omega, q⟩⟩
          · rintro ⟨a, b | ⟨b1, b2⟩⟩
            · exact Or.inl ⟨a, Or.inl b⟩
            · by_cases e : w = i
              · subst e; exact Or.inr (decide_eq_true rfl)
              · exact Or.inl ⟨a, Or.inr ⟨by omega, b2⟩⟩
        · by_cases e : w = i
          · subst e
            rw [upI_at, if_neg q]
          · rw [upI_cell (by omega)]; exact q2 w (by omega)
        · show Rl_X9_remember_18 fu S κ (nI most) (nI s) self (nI m') (nI i) J2 = _
          unfold Rl_X9_remember_18 Rj_X9_remember_66
          simp only [lt]
          rw [if_neg hc1, ix31, gd_pos (hin _ (by decide)), r10, if_neg (fun z => q (hNB.mp z)), gd_pos (hin _ (by decide)), nI_one (by omega), nI_or (by omega) (by omega), nI_p1]
          unfold wrN
          rw [kj]
    · obtain ⟨⟨m', rfl, m1', m2'⟩, q1, q2, q3⟩ := hQ
      show Rl_X9_remember_18 fu S κ (nI most) (nI s) self (nI m') (nI (most + 1)) J2 = _
      unfold Rl_X9_remember_18
      rw [if_pos (by rw [nI_lt_iff (by omega) (by omega)]; omega), nI_p1]
  · obtain ⟨-, p1, -⟩ := hP
    show Rl_X9_remember_4 fu S (nI most) self v (nI ns) J' = _
    unfold Rl_X9_remember_4
    rw [p1 1 (by decide), e3, if_pos (Int32.le_refl _)]
