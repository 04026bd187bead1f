/-! sheets: sheet, drop, put, cell, copy; and what only sets the fault -/
def shOK (I : II) (k : Nat) : Prop := (I (30 + 2 * k) 0 = 0 ∧ I 73 k = -1) ∨ (I (30 + 2 * k) 0 = 1 ∧ (isN (I 73 k) 60 ∧ I (30 + 2 * k) 2 = I 73 k) ∧ (isN (I 74 k) 2 ∧ I (30 + 2 * k) 1 = I 74 k) ∧ ∀ i, i < nx (I 73 k) → I (31 + 2 * k) i = I 75 (60 * k + i))
theorem Inv.sheet {D : Dn} {I I' : II} (g : Inv D I) {k : Nat} (hk : k < 4) (h : ∀ a j, ¬ ((a = 0 ∧ j = 18) ∨ (a = 38 ∧ j = 0) ∨ a = 30 + 2 * k ∨ a = 31 + 2 * k ∨ ((a = 73 ∨ a = 74) ∧ j = k) ∨ (a = 75 ∧ 60 * k ≤ j ∧ j < 60 * k + 60)) → ¬ scr a j → I' a j = I a j) (hf : I' 0 18 = I' 38 0) (hs : shOK I' k) : Inv D I' := by
  unfold scr at h
  refine g.updRH (fun a j q z => h a j ?_ (by unfold scr at z; exact z)) ?_ ?_
  · unfold wRH at q; omega
  · obtain ⟨r1, r2, r3, r4, r5, r6⟩ := g.2.2.2.2.2.2.2.1
    unfold GR nS at *
    have e1 : I' 38 1 = I 38 1 := h _ _ (by omega) (by omega)
    have e2 : I' 38 45 = I 38 45 := h _ _ (by omega) (by omega)
    have e3 : I' 38 47 = I 38 47 := h _ _ (by omega) (by omega)
    have e4 : I' 38 51 = I 38 51 := h _ _ (by omega) (by omega)
    have e5 : I' 38 56 = I 38 56 := h _ _ (by omega) (by omega)
    have f1 : I' 0 11 = I 0 11 := h _ _ (by omega) (by omega)
    have f2 : I' 0 13 = I 0 13 := h _ _ (by omega) (by omega)
    have f3 : I' 0 15 = I 0 15 := h _ _ (by omega) (by omega)
    have f4 : I' 0 17 = I 0 17 := h _ _ (by omega) (by omega)
    have f6 : ∀ k, I' 14 k = I 14 k := fun k => h _ _ (by omega) (by omega)
    have f7 : ∀ k, I' 69 k = I 69 k := fun k => h _ _ (by omega) (by omega)
    simp only [e1, e2, e3, e4, e5, f1, f2, f3, f4, f6, f7]
    exact ⟨r1, r2, r3, r4, r5, hf⟩
  · intro j hj
    by_cases q : j = k
    · subst q; exact hs
    · have e1 : ∀ i, I' (30 + 2 * j) i = I (30 + 2 * j) i := fun i => h _ _ (by omega) (by omega)
      have e2 : ∀ i, I' (31 + 2 * j) i = I (31 + 2 * j) i := fun i => h _ _ (by omega) (by omega)
      have e3 : I' 73 j = I 73 j := h _ _ (by omega) (by omega)
      have e4 : I' 74 j = I 74 j := h _ _ (by omega) (by omega)
      rcases g.2.2.2.2.2.2.2.2 j hj with ⟨y1, y2⟩ | ⟨y1, ⟨y2, y3⟩, ⟨y4, y5⟩, y6⟩
      · left; rw [e1, e3]; exact ⟨y1, y2⟩
      · right
        rw [e1, e1, e1, e3, e4]
        refine ⟨y1, ⟨y2, y3⟩, ⟨y4, y5⟩, fun i hi => ?_⟩
        have hb := y2.2
        rw [e2, h 75 (60 * j + i) (by omega) (by omega)]
        exact y6 i hi
/-- a call that only tells a fault, or none -/
theorem Inv.fault {D : Dn} {I : II} (g : Inv D I) (v : Int32) : Inv D (upI (upI I 0 18 v) 38 0 v) := by
  refine g.sheet (k := 0) (by decide) (fun a j q _ => ?_) ?_ ?_
  · simp only [upI]
    rw [if_neg (by omega), if_neg (by omega)]
  · rw [upI_row (by decide), upI_at, upI_at]
  · have := g.2.2.2.2.2.2.2.2 0 (by decide)
    unfold shOK
    have e : ∀ a j, a ≠ 0 → a ≠ 38 → upI (upI I 0 18 v) 38 0 v a j = I a j := fun a j h1 h2 => by rw [upI_row h2, upI_row h1]
    simp only [e (30 + 2 * 0) _ (by decide) (by decide), e (31 + 2 * 0) _ (by decide) (by decide), e 73 _ (by decide) (by decide), e 74 _ (by decide) (by decide), e 75 _ (by decide) (by decide)]
    exact this
theorem x_fail (fu : Nat) (S : Sk) (I : II) (v : Int32) : Rf_X10_fail fu S I v = some (-10 - v, upI I 0 18 v) := rfl
theorem m_failed (fu : Nat) (S : Sk) (I : II) (v : Int32) : Rf_X11_failed fu S I v = some (-10 - v, upI I 38 0 v) := rfl
theorem m_refused (fu : Nat) (S : Sk) (I : II) (v : Int32) : Rf_X11_refused fu S I v = some (v, upI I 38 0 0) := rfl
theorem upI_twice {I : II} {a k : Nat} {u v : Int32} : upI (upI I a k u) a k v = upI I a k v := by
  funext b j; unfold upI; split <;> rfl
theorem lane_eq (x : Int32) : t_X11_in x.toInt64 0 2 = t_X10_isLane x := by
  unfold t_X10_isLane
  exact w_in32 (lo := 0) (hi := 2)
theorem p_drop (fu : Nat) {D : Dn} {I : II} (g : Inv D I) (x : Int32) : ∃ r I1 I2, Rf_X10_drop fu (mkS D) I x = some (r, I1) ∧ Rf_X11_drop fu (mkS D) I1 x = some (r, I2) ∧ Inv D I2 := by
  unfold Rf_X10_drop Rf_X11_drop Rj_X11_drop_23 rdN wrN
  rcases sheet_cases x with ⟨h1, h2⟩ | ⟨k, hk, rfl, h1, h2⟩
  · exact ⟨-1, I, I, by rw [if_pos h1], by rw [h2]; rfl, g⟩
  · have e := nx_nI (k := k) (by omega)
    obtain ⟨p1, p2, p3⟩ := mk_sheet (D := D) hk
    have hi : ∀ a, a ≠ 0 → inbL a 4 (nI k) := fun a ha => ⟨ha, nI_nn (by omega), by rw [e]; omega⟩
    simp only [h1, h2, e, p1]
    rw [if_neg (by decide), gd_pos (hi _ (by decide)), gd_pos (by omega), show 31 + 2 * k - 1 = 30 + 2 * k by omega]
    simp only [if_true, gd_pos (hi 74 (by decide)), lt]
    have gh := g.2.2.2.2.2.2.2.2 k hk
    have hfl := g.2.2.2.2.2.2.2.1.2.2.2.2.2
    rcases gh with ⟨y1, y2⟩ | ⟨y1, ⟨y2, y3⟩, ⟨y4, y5⟩, y6⟩
    · refine ⟨0, I, upI I 73 k (-1), by rw [if_pos y1], ?_, ?_⟩
      · rw [y2, if_neg (by decide)]
      · refine g.sheet hk (fun a j q _ => ?_) ?_ (Or.inl ⟨?_, ?_⟩)
        · simp only [upI]; rw [if_neg (by omega)]
        · rw [upI_row (by decide), upI_row (by decide)]; exact hfl
        · rw [upI_row (by omega)]; exact y1
        · rw [upI_at]
    · refine ⟨1, upI I (30 + 2 * k) 0 0, upI (upI I (30 + 2 * k) 0 0) 73 k (-1), by rw [if_neg (by rw [y1]; decide)], ?_, ?_⟩
      · rw [upI_row (by omega), if_pos]
        rw [y2.1, show (0 : Int32) = nI 0 from rfl, nI_le_iff (by decide) (nx_bd _)]
        omega
      · refine g.sheet hk (fun a j q _ => ?_) ?_ (Or.inl ⟨?_, ?_⟩)
        · simp only [upI]; rw [if_neg (by omega), if_neg (by omega)]
        · rw [upI_row (by decide), upI_row (by omega), upI_row (by decide), upI_row (by omega)]; exact hfl
        · rw [upI_row (by omega), upI_at]
        · rw [upI_at]
