/-! the class's tables: thin, walkOn -/
theorem ix31 {s w : Nat} : nI s * (31 : Int32) + nI w = nI (31 * s + w) := by
  rw [show (31 : Int32) = nI 31 from rfl, nI_mul, nI_add, Nat.mul_comm]
theorem ix31b {s : Nat} : nI s * (31 : Int32) = nI (31 * s) := by
  rw [show (31 : Int32) = nI 31 from rfl, nI_mul, Nat.mul_comm]
def tb (J : II) (a s w : Nat) : Nat := rw_ J a (31 * s + w)
def lb (bb : Nat) (so row : Nat → Nat) : Nat → Nat
  | 0 => bb
  | i + 1 => min (min (lb bb so row i) (so i)) (row i)
def tnv (bb : Nat) (so row : Nat → Nat) (i : Nat) : Nat := if row i < min (lb bb so row i) (so i) then row i else NB
theorem lb_le (bb : Nat) (so row : Nat → Nat) : ∀ i, lb bb so row i ≤ bb
  | 0 => Nat.le_refl _
  | i + 1 => by
    have := lb_le bb so row i
    show min (min (lb bb so row i) (so i)) (row i) ≤ bb
    omega
theorem lb_ex (bb : Nat) (so row : Nat → Nat) (t : Nat) : ∀ i, lb bb so row i ≤ t → bb ≤ t ∨ (∃ w, w < i ∧ so w ≤ t) ∨ ∃ w, w < i ∧ row w ≤ t
  | 0, h => Or.inl h
  | i + 1, h => by
    have h' : min (min (lb bb so row i) (so i)) (row i) ≤ t := h
    rcases (by omega : lb bb so row i ≤ t ∨ so i ≤ t ∨ row i ≤ t) with z | z | z
    · rcases lb_ex bb so row t i z with y | ⟨w, y1, y2⟩ | ⟨w, y1, y2⟩
      · exact Or.inl y
      · exact Or.inr (Or.inl ⟨w, by omega, y2⟩)
      · exact Or.inr (Or.inr ⟨w, by omega, y2⟩)
    · exact Or.inr (Or.inl ⟨i, by omega, z⟩)
    · exact Or.inr (Or.inr ⟨i, by omega, z⟩)
theorem tnv_thn {ns most bb : Nat} {so A A1 : Nat → Nat → Nat} (hbb : bb ≤ NB) (h : ∀ s w, s < ns → w ≤ most → A1 s w = tnv bb (so s) (A s) w) : Thn ns most so bb A A1 := by
  refine ⟨fun s w hs hw => ?_, fun s w hs hw => ?_⟩
  · rw [h s w hs hw]
    unfold tnv
    have := lb_le bb (so s) (A s) w
    by_cases q : A s w < min (lb bb (so s) (A s) w) (so s w)
    · rw [if_pos q]; exact Or.inr ⟨rfl, by omega, by omega, by omega⟩
    · rw [if_neg q]; exact Or.inl rfl
  · induction w using Nat.strongRecOn with
    | _ w ih =>
      intro hlt
      by_cases q : A s w < min (lb bb (so s) (A s) w) (so s w)
      · refine Or.inl ⟨w, Nat.le_refl _, ?_⟩
        rw [h s w hs hw]
        unfold tnv
        rw [if_pos q]
        exact Nat.le_refl _
      · rcases (by omega : so s w ≤ A s w ∨ lb bb (so s) (A s) w ≤ A s w) with z | z
        · exact Or.inr (Or.inl ⟨w, Nat.le_refl _, z⟩)
        · rcases lb_ex bb (so s) (A s) (A s w) w z with y | ⟨w', y1, y2⟩ | ⟨w', y1, y2⟩
          · exact Or.inr (Or.inr y)
          · exact Or.inr (Or.inl ⟨w', by omega, y2⟩)
          · rcases ih w' y1 (by omega) (by omega) with ⟨w2, x1, x2⟩ | x
            · exact Or.inl ⟨w2, by omega, by omega⟩
            · exact Or.inr (x.up (by omega) y2)
theorem x_thin (fu : Nat) (hfu : 100 < fu) {D : Dn} {J : II} {a ns most bb : Nat} (ha : a = 9 ∨ a = 10) (e3 : J 1 3 = nI ns) (hns : ns ≤ 16) (hm : most ≤ 30) (e4 : J 8 4 = nI bb) (hbb : bb ≤ NB) (hA : Row 496 NB J a) (hS : Row 496 NB J 11) :
    ∃ J', Rf_X9_thin fu (mkS D) J (a + 1) (nI most) = some J' ∧ (∀ b, b ≠ a → J' b = J b) ∧ Row 496 NB J' a ∧ (∀ s w, s < ns → w ≤ most → tb J' a s w = tnv bb (tb J 11 s) (tb J a s) w) := by
  have hlen : (mkS D).2.2.1 a = 496 := by rcases ha with rfl | rfl <;> rfl
  let P : Nat → II → Prop := fun s J' => (∀ b, b ≠ a → J' b = J b) ∧ (∀ s' w, s' < s → w ≤ most → J' a (31 * s' + w) = nI (tnv bb (tb J 11 s') (tb J a s') w)) ∧ ∀ j, ¬ (∃ s' w, s' < s ∧ w ≤ most ∧ j = 31 * s' + w) → J' a j = J a j
  have main := fix2_ex (K := Unit) (F := fun _ => Rl_X9_thin_2 fu (mkS D) (a + 1) (nI most)) (fun i => nI i) P (fun _ J' => some J') ns (fun s J' hs hP => ?_) (fun J' hP κ self => ?_) ns 0 J (by omega) ⟨fun _ _ => rfl, fun s' w h => absurd h (Nat.not_lt_zero _), fun _ _ => rfl⟩ fu (by omega)
  · obtain ⟨J', ⟨p1, p2, p3⟩, hrun⟩ := main
    refine ⟨J', hrun (), p1, fun j hj => ?_, fun s w hs hw => ?_⟩
    · by_cases q : ∃ s' w, s' < ns ∧ w ≤ most ∧ j = 31 * s' + w
      · obtain ⟨s', w, q1, q2, rfl⟩ := q
        have e := p2 s' w q1 q2
        have hle : tnv bb (tb J 11 s') (tb J a s') w ≤ NB := by
          unfold tnv
          split
          · have := (hA (31 * s' + w) hj).2
            unfold tb
            omega
          · exact Nat.le_refl _
        unfold rw_
        rw [e, nx_nI (by simp only [NB] at hle; omega)]
        exact ⟨rfl, hle⟩
      · have e := p3 j q
        have := hA j hj
        unfold rw_ at this ⊢
        rw [e]
        exact this
    · have e := p2 s w hs hw
      have hle : tnv bb (tb J 11 s) (tb J a s) w ≤ NB := by
        unfold tnv
        split
        · have := (hA (31 * s + w) (by omega)).2
          unfold tb
          omega
        · exact Nat.le_refl _
      show nx (J' a (31 * s + w)) = _
      rw [e, nx_nI (by simp only [NB] at hle; omega)]
  · obtain ⟨p1, p2, p3⟩ := hP
    have f3 : J' 1 3 = nI ns := by rw [p1 1 (by omega)]; exact e3
    have f4 : J' 8 4 = nI bb := by rw [p1 8 (by omega)]; exact e4
    let Q : Nat → Int32 → II → Prop := fun i v J2 => v = nI (lb bb (tb J 11 s) (tb J a s) i) ∧ (∀ b, b ≠ a → J2 b = J b) ∧ (∀ w, w < i → J2 a (31 * s + w) = nI (tnv bb (tb J 11 s) (tb J a s) w)) ∧ ∀ j, ¬ (31 * s ≤ j ∧ j < 31 * s + i) → J2 a j = J' a j
    have inner := fix3_ex (K := Int32 → II → Option II) (F := fun κ => Rl_X9_thin_25 fu (mkS D) κ (a + 1) (nI most) (nI s)) (fun i => nI (31 * s + i)) Q (fun κ _ J2 => κ (nI (s + 1)) J2) (most + 1) (fun i v J2 hi hQ => ?_) (fun v J2 hQ κ self => ?_) (most + 1) 0 (nI bb) J' (by omega) ⟨rfl, p1, fun w hw => absurd hw (Nat.not_lt_zero _), fun _ _ => rfl⟩ fu (by omega)
    · obtain ⟨v', J2, ⟨-, q1, q2, q3⟩, hrun⟩ := inner
      refine ⟨J2, ⟨q1, fun s' w hs' hw => ?_, fun j hj => ?_⟩, fun _ self => ?_⟩
      · by_cases e : s' = s
        · subst e; exact q2 w (by omega)
        · rw [q3 _ (by omega)]; exact p2 s' w (by omega) hw
      · rw [q3 j (fun z => hj ⟨s, j - 31 * s, by omega, by omega, by omega⟩)]
        exact p3 j (fun ⟨s', w, z1, z2, z3⟩ => hj ⟨s', w, by omega, z2, z3⟩)
      · show Rl_X9_thin_2 fu (mkS D) (a + 1) (nI most) self (nI s) J' = _
        unfold Rl_X9_thin_2
        simp only [lt]
        rw [f3, if_neg (by rw [nI_le_iff (by omega) (by omega)]; omega), f4, ix31b]
        exact hrun self
    · obtain ⟨rfl, q1, q2, q3⟩ := hQ
      have hj : 31 * s + i < 496 := by omega
      have kj := nx_nI (k := 31 * s + i) (by omega)
      have hlb := lb_le bb (tb J 11 s) (tb J a s) i
      have r11 : rdN J2 11 (nI (31 * s + i)) = nI (tb J 11 s i) := by
        unfold rdN
        rw [kj, q1 11 (by omega)]
        exact (hS _ hj).1
      have ra : rd J2 (a + 1) (nI (31 * s + i)) = nI (tb J a s i) := by
        unfold rd
        rw [kj, Nat.add_sub_cancel, q3 _ (by omega), p3 _ (fun ⟨s', w, z1, z2, z3⟩ => by omega)]
        exact (hA _ hj).1
      have b1 := (hS _ hj).2
      have b2 := (hA _ hj).2
      have e1 : tb J 11 s i ≤ NB := b1
      have e2 : tb J a s i ≤ NB := b2
      have hin1 : inbL 12 496 (nI (31 * s + i)) := ⟨by decide, nI_nn (by omega), by rw [kj]; exact hj⟩
      have hin2 : inb (mkS D) (a + 1) (nI (31 * s + i)) := ⟨Nat.succ_ne_zero a, nI_nn (by omega), by rw [kj, Nat.add_sub_cancel, hlen]; exact hj⟩
      have hc1 : ¬ nI s * (31 : Int32) + nI most < nI (31 * s + i) := by rw [ix31, nI_lt_iff (by omega) (by omega)]; omega
      have hmin : jmin (nI (lb bb (tb J 11 s) (tb J a s) i)) (nI (tb J 11 s i)) = nI (min (lb bb (tb J 11 s) (tb J a s) i) (tb J 11 s i)) := jmin_nI (by simp only [NB] at *; omega) (by simp only [NB] at *; omega)
      have hnext : lb bb (tb J 11 s) (tb J a s) (i + 1) = min (min (lb bb (tb J 11 s) (tb J a s) i) (tb J 11 s i)) (tb J a s i) := rfl
      by_cases z : tb J a s i < min (lb bb (tb J 11 s) (tb J a s) i) (tb J 11 s i)
      · refine ⟨nI (tb J a s i), J2, ⟨by rw [hnext]; congr 1; omega, q1, fun w hw => ?_, fun j hj2 => q3 j (by omega)⟩, fun κ self => ?_⟩
        · by_cases e : w = i
          · subst e
            have ra' := ra
            unfold rd at ra'
            rw [kj, Nat.add_sub_cancel] at ra'
            rw [ra']
            unfold tnv
            rw [if_pos z]
          · exact q2 w (by omega)
        · show Rl_X9_thin_25 fu (mkS D) κ (a + 1) (nI most) (nI s) self _ (nI (31 * s + i)) J2 = _
          unfold Rl_X9_thin_25 Rj_X9_thin_74
          simp only [lt]
          rw [if_neg hc1, gd_pos hin1, r11, hmin, gd_pos hin2, ra, if_neg (by rw [nI_le_iff (by simp only [NB] at *; omega) (by simp only [NB] at *; omega)]; omega), nI_p1]
          rfl
      · refine ⟨nI (min (lb bb (tb J 11 s) (tb J a s) i) (tb J 11 s i)), upI J2 a (31 * s + i) (nI NB), ⟨by rw [hnext]; congr 1; omega, fun b hb => by rw [upI_row hb]; exact q1 b hb, fun w hw => ?_, fun j hj2 => by rw [upI_cell (by omega)]; exact q3 j (by omega)⟩, fun κ self => ?_⟩
        · by_cases e : w = i
          · subst e
            rw [upI_at]
            unfold tnv
            rw [if_neg z]
          · rw [upI_cell (by omega)]; exact q2 w (by omega)
        · show Rl_X9_thin_25 fu (mkS D) κ (a + 1) (nI most) (nI s) self _ (nI (31 * s + i)) J2 = _
          unfold Rl_X9_thin_25 Rj_X9_thin_74
          simp only [lt]
          rw [if_neg hc1, gd_pos hin1, r11, hmin, gd_pos hin2, ra, if_pos (by rw [nI_le_iff (by simp only [NB] at *; omega) (by simp only [NB] at *; omega)]; omega), nI_p1]
          unfold wr
          rw [kj]
          rfl
    · show Rl_X9_thin_25 fu (mkS D) κ (a + 1) (nI most) (nI s) self v (nI (31 * s + (most + 1))) J2 = _
      unfold Rl_X9_thin_25
      rw [if_pos (by rw [ix31, nI_lt_iff (by omega) (by omega)]; omega), nI_p1]
  · obtain ⟨p1, -, -⟩ := hP
    show Rl_X9_thin_2 fu (mkS D) (a + 1) (nI most) self (nI ns) J' = _
    unfold Rl_X9_thin_2
    rw [p1 1 (by omega), e3, if_pos (Int32.le_refl _)]
