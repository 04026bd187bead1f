/-! which cells each part of Inv reads; what leaves them alone keeps it -/
def rdS (a k : Nat) : Prop := (a = 38 ∧ k = 1) ∨ (a = 1 ∧ k = 3) ∨ a = 39 ∨ a = 40 ∨ a = 2 ∨ a = 3 ∨ a = 4
def rdL (a k : Nat) : Prop := (a = 38 ∧ (k = 1 ∨ k = 4)) ∨ (a = 1 ∧ k = 5) ∨ (41 ≤ a ∧ a ≤ 50) ∨ 77 ≤ a
def rdT (D : Dn) (a k : Nat) : Prop := (a = 38 ∧ k = 15) ∨ (a = 0 ∧ k = 2) ∨ (51 ≤ a ∧ a ≤ 54) ∨ (77 ≤ a ∧ D.2.1 a = 100 ∧ D.2.1 (a - 1) = 7)
def rdP (D : Dn) (a k : Nat) : Prop := (a = 38 ∧ (k = 22 ∨ k = 1)) ∨ (a = 0 ∧ k = 4) ∨ (56 ≤ a ∧ a ≤ 60) ∨ (77 ≤ a ∧ D.2.1 a = 8)
def rdO (a k : Nat) : Prop := (a = 38 ∧ (k = 34 ∨ k = 4)) ∨ (a = 0 ∧ k = 7) ∨ a = 63
def rdD (D : Dn) (a k : Nat) : Prop := (a = 38 ∧ k = 36) ∨ (a = 0 ∧ k = 9) ∨ (64 ≤ a ∧ a ≤ 66) ∨ (77 ≤ a ∧ D.2.1 a = 0)
def rdR (a k : Nat) : Prop := (a = 38 ∧ (k = 45 ∨ k = 47 ∨ k = 1 ∨ k = 51 ∨ k = 56 ∨ k = 0)) ∨ (a = 0 ∧ (k = 11 ∨ k = 13 ∨ k = 15 ∨ k = 17 ∨ k = 18)) ∨ a = 14 ∨ a = 69
def rdH (a _k : Nat) : Prop := (30 ≤ a ∧ a ≤ 37) ∨ a = 73 ∨ a = 74 ∨ a = 75
theorem GS.co {I I' : II} (h : ∀ a k, rdS a k → I' a k = I a k) (g : GS I) : GS I' := by
  unfold rdS at h
  have e1 : I' 38 1 = I 38 1 := h _ _ (by omega)
  have e2 : I' 1 3 = I 1 3 := h _ _ (by omega)
  have e3 : ∀ k, I' 39 k = I 39 k := fun k => h _ _ (by omega)
  have e4 : ∀ k, I' 40 k = I 40 k := fun k => h _ _ (by omega)
  have e5 : ∀ k, I' 2 k = I 2 k := fun k => h _ _ (by omega)
  have e6 : ∀ k, I' 3 k = I 3 k := fun k => h _ _ (by omega)
  have e7 : ∀ k, I' 4 k = I 4 k := fun k => h _ _ (by omega)
  unfold GS nS far at *
  simp only [e1, e2, e3, e4, e5, e6, e7]
  exact g
theorem GL.co {D : Dn} {I I' : II} (h : ∀ a k, rdL a k → I' a k = I a k) (g : GL D I) : GL D I' := by
  unfold rdL at h
  have e1 : I' 38 1 = I 38 1 := h _ _ (by omega)
  have e2 : I' 38 4 = I 38 4 := h _ _ (by omega)
  have e3 : I' 1 5 = I 1 5 := h _ _ (by omega)
  have e41 : ∀ k, I' 41 k = I 41 k := fun k => h _ _ (by omega)
  have e42 : ∀ k, I' 42 k = I 42 k := fun k => h _ _ (by omega)
  have e43 : ∀ k, I' 43 k = I 43 k := fun k => h _ _ (by omega)
  have e44 : ∀ k, I' 44 k = I 44 k := fun k => h _ _ (by omega)
  have e45 : ∀ k, I' 45 k = I 45 k := fun k => h _ _ (by omega)
  have e46 : ∀ k, I' 46 k = I 46 k := fun k => h _ _ (by omega)
  have e47 : ∀ k, I' 47 k = I 47 k := fun k => h _ _ (by omega)
  have e48 : ∀ k, I' 48 k = I 48 k := fun k => h _ _ (by omega)
  have e49 : ∀ k, I' 49 k = I 49 k := fun k => h _ _ (by omega)
  have e50 : ∀ k, I' 50 k = I 50 k := fun k => h _ _ (by omega)
  have ed : ∀ a k, 77 ≤ a → I' a k = I a k := fun a k ha => h _ _ (by omega)
  obtain ⟨g1, g2, g3, g4, g5⟩ := g
  refine ⟨by rw [e2, e3]; exact g1, ?_, ?_, ?_, ?_⟩
  · intro l hl
    unfold nL at hl
    rw [e2] at hl
    obtain ⟨r, x⟩ := g2 l hl
    have hA : 77 ≤ la D l := by have := x.1.1; unfold la; omega
    refine ⟨?_, ?_⟩
    · unfold RLn lZ lE lF lL lS lO nS at *
      simp only [e1, e41, e42, e43, e44, e45, e46, e47, e48, e49, e50]
      exact r
    · unfold XLn lZ at *
      simp only [e41, e42, e43, e44, e45, e46, e47, e48, e49, e50, ed (la D l) _ hA, ed (la D l + 1) _ (by omega), ed (la D l + 2) _ (by omega), ed (la D l + 3) _ (by omega)]
      exact x
  · unfold nL at *; rw [e2]; exact g3
  · unfold nL at *; rw [e2]; simp only [e48]; exact g4
  · unfold nL at *; rw [e2]; simp only [e50]; exact g5
theorem GT.co {D : Dn} {I I' : II} (h : ∀ a k, rdT D a k → I' a k = I a k) (g : GT D I) : GT D I' := by
  unfold rdT at h
  have e2 : I' 38 15 = I 38 15 := h _ _ (by omega)
  have e3 : I' 0 2 = I 0 2 := h _ _ (by omega)
  have e51 : ∀ k, I' 51 k = I 51 k := fun k => h _ _ (by omega)
  have e52 : ∀ k, I' 52 k = I 52 k := fun k => h _ _ (by omega)
  have e53 : ∀ k, I' 53 k = I 53 k := fun k => h _ _ (by omega)
  have e54 : ∀ k, I' 54 k = I 54 k := fun k => h _ _ (by omega)
  have ed : ∀ a k, 77 ≤ a → D.2.1 a = 100 → D.2.1 (a - 1) = 7 → I' a k = I a k := fun a k h1 h2 h3 => h _ _ (Or.inr (Or.inr (Or.inr ⟨h1, h2, h3⟩)))
  obtain ⟨g1, g2⟩ := g
  refine ⟨by rw [e2, e3]; exact g1, fun t ht => ?_⟩
  unfold nT at ht
  rw [e2] at ht
  obtain ⟨x1, x2, x3⟩ := g2 t ht
  have hA : 77 ≤ ta D t := by have := x1.1.1; unfold ta; omega
  simp only [e51, e52, e53, e54, ed (ta D t + 1) _ (by omega) x1.1.2.2.2 x1.1.2.2.1]
  exact ⟨x1, x2, x3⟩
theorem GP.co {D : Dn} {I I' : II} (h : ∀ a k, rdP D a k → I' a k = I a k) (g : GP D I) : GP D I' := by
  unfold rdP at h
  have e1 : I' 38 1 = I 38 1 := h _ _ (by omega)
  have e2 : I' 38 22 = I 38 22 := h _ _ (by omega)
  have e3 : I' 0 4 = I 0 4 := h _ _ (by omega)
  have e56 : ∀ k, I' 56 k = I 56 k := fun k => h _ _ (by omega)
  have e57 : ∀ k, I' 57 k = I 57 k := fun k => h _ _ (by omega)
  have e58 : ∀ k, I' 58 k = I 58 k := fun k => h _ _ (by omega)
  have e59 : ∀ k, I' 59 k = I 59 k := fun k => h _ _ (by omega)
  have e60 : ∀ k, I' 60 k = I 60 k := fun k => h _ _ (by omega)
  have ed : ∀ a k, 77 ≤ a → D.2.1 a = 8 → I' a k = I a k := fun a k h1 h2 => h _ _ (Or.inr (Or.inr (Or.inr ⟨h1, h2⟩)))
  obtain ⟨g1, g2⟩ := g
  refine ⟨by rw [e2, e3]; exact g1, fun t ht => ?_⟩
  unfold nP at ht
  rw [e2] at ht
  obtain ⟨x1, x2, x3⟩ := g2 t ht
  have hA : 77 ≤ pa D t := by have := x1.1; unfold pa; omega
  unfold nS at *
  simp only [e1, e56, e57, e58, e59, e60, ed (pa D t) _ hA x1.2.2]
  exact ⟨x1, x2, x3⟩
theorem GO.co {D : Dn} {I I' : II} (h : ∀ a k, rdO a k → I' a k = I a k) (g : GO D I) : GO D I' := by
  unfold rdO at h
  have e1 : I' 38 4 = I 38 4 := h _ _ (by omega)
  have e2 : I' 38 34 = I 38 34 := h _ _ (by omega)
  have e3 : I' 0 7 = I 0 7 := h _ _ (by omega)
  have e63 : ∀ k, I' 63 k = I 63 k := fun k => h _ _ (by omega)
  unfold GO nO nL oL at *
  simp only [e1, e2, e3, e63]
  exact g
theorem GD.co {D : Dn} {I I' : II} (h : ∀ a k, rdD D a k → I' a k = I a k) (g : GD D I) : GD D I' := by
  unfold rdD at h
  have e2 : I' 38 36 = I 38 36 := h _ _ (by omega)
  have e3 : I' 0 9 = I 0 9 := h _ _ (by omega)
  have e64 : ∀ k, I' 64 k = I 64 k := fun k => h _ _ (by omega)
  have e65 : ∀ k, I' 65 k = I 65 k := fun k => h _ _ (by omega)
  have e66 : ∀ k, I' 66 k = I 66 k := fun k => h _ _ (by omega)
  have ed : ∀ a k, 77 ≤ a → D.2.1 a = 0 → I' a k = I a k := fun a k h1 h2 => h _ _ (Or.inr (Or.inr (Or.inr ⟨h1, h2⟩)))
  obtain ⟨g1, g2⟩ := g
  refine ⟨by rw [e2, e3]; exact g1, fun t ht => ?_⟩
  unfold nD at ht
  rw [e2] at ht
  obtain ⟨x1, x2, x3⟩ := g2 t ht
  have hA : 77 ≤ da D t := by have := x1.1; unfold da; omega
  simp only [e64, e65, e66, ed (da D t) _ hA x1.2.2]
  exact ⟨x1, x2, x3⟩
theorem GR.co {I I' : II} (h : ∀ a k, rdR a k → I' a k = I a k) (g : GR I) : GR I' := by
  unfold rdR at h
  have e1 : I' 38 1 = I 38 1 := h _ _ (by omega)
  have e2 : I' 38 45 = I 38 45 := h _ _ (by omega)
  have e3 : I' 38 47 = I 38 47 := h _ _ (by omega)
  have e4 : I' 38 51 = I 38 51 := h _ _ (by omega)
  have e5 : I' 38 56 = I 38 56 := h _ _ (by omega)
  have e6 : I' 38 0 = I 38 0 := h _ _ (by omega)
  have f1 : I' 0 11 = I 0 11 := h _ _ (by omega)
  have f2 : I' 0 13 = I 0 13 := h _ _ (by omega)
  have f3 : I' 0 15 = I 0 15 := h _ _ (by omega)
  have f4 : I' 0 17 = I 0 17 := h _ _ (by omega)
  have f5 : I' 0 18 = I 0 18 := h _ _ (by omega)
  have f6 : ∀ k, I' 14 k = I 14 k := fun k => h _ _ (by omega)
  have f7 : ∀ k, I' 69 k = I 69 k := fun k => h _ _ (by omega)
  unfold GR nS at *
  simp only [e1, e2, e3, e4, e5, e6, f1, f2, f3, f4, f5, f6, f7]
  exact g
theorem GH.co {I I' : II} (h : ∀ a k, rdH a k → I' a k = I a k) (g : GH I) : GH I' := by
  unfold rdH at h
  intro k hk
  have e1 : ∀ j, I' (30 + 2 * k) j = I (30 + 2 * k) j := fun j => h _ _ (by omega)
  have e2 : ∀ j, I' (31 + 2 * k) j = I (31 + 2 * k) j := fun j => h _ _ (by omega)
  have e3 : ∀ j, I' 73 j = I 73 j := fun j => h _ _ (by omega)
  have e4 : ∀ j, I' 74 j = I 74 j := fun j => h _ _ (by omega)
  have e5 : ∀ j, I' 75 j = I 75 j := fun j => h _ _ (by omega)
  have := g k hk
  simp only [e1, e2, e3, e4, e5]
  exact this
/-- the cells that are read by no part: rows that are used again -/
def scr (a k : Nat) : Prop := (8 ≤ a ∧ a ≤ 11) ∨ (15 ≤ a ∧ a ≤ 28) ∨ a = 55 ∨ a = 61 ∨ a = 62 ∨ a = 67 ∨ a = 68 ∨ a = 70 ∨ a = 71 ∨ a = 72 ∨ a = 76 ∨ (a = 38 ∧ (k = 21 ∨ k = 28 ∨ k = 31 ∨ k = 32 ∨ k = 33 ∨ k = 40 ∨ k = 43 ∨ k = 44))
def Keep (I I' : II) : Prop := ∀ a k, ¬ scr a k → I' a k = I a k
theorem Keep.rf {I : II} : Keep I I := fun _ _ _ => rfl
theorem Keep.tr {I I1 I2 : II} (h : Keep I I1) (h' : Keep I1 I2) : Keep I I2 := fun a k q => (h' a k q).trans (h a k q)
theorem Inv.keep {D : Dn} {I I' : II} (h : Keep I I') (g : Inv D I) : Inv D I' := by
  obtain ⟨g0, g1, g2, g3, g4, g5, g6, g7, g8⟩ := g
  unfold Keep scr at h
  exact ⟨g0, g1.co (fun a k q => h a k (by unfold rdS at q; omega)), g2.co (fun a k q => h a k (by unfold rdL at q; omega)), g3.co (fun a k q => h a k (by unfold rdT at q; omega)), g4.co (fun a k q => h a k (by unfold rdP at q; omega)), g5.co (fun a k q => h a k (by unfold rdO at q; omega)), g6.co (fun a k q => h a k (by unfold rdD at q; omega)), g7.co (fun a k q => h a k (by unfold rdR at q; omega)), g8.co (fun a k q => h a k (by unfold rdH at q; omega))⟩
/-- the cells of drivers, boards, seats, trace, fault, and of the sheets -/
def wRH (a k : Nat) : Prop := (a = 38 ∧ (k = 45 ∨ k = 47 ∨ k = 51 ∨ k = 56 ∨ k = 0)) ∨ (a = 0 ∧ (k = 11 ∨ k = 13 ∨ k = 15 ∨ k = 17 ∨ k = 18)) ∨ a = 14 ∨ a = 69 ∨ (30 ≤ a ∧ a ≤ 37) ∨ a = 73 ∨ a = 74 ∨ a = 75
theorem Inv.updRH {D : Dn} {I I' : II} (h : ∀ a k, ¬ wRH a k → ¬ scr a k → I' a k = I a k) (hR : GR I') (hH : GH I') (g : Inv D I) : Inv D I' := by
  obtain ⟨g0, g1, g2, g3, g4, g5, g6, g7, g8⟩ := g
  unfold wRH scr at h
  exact ⟨g0, g1.co (fun a k q => by unfold rdS at q; exact h a k (by omega) (by omega)), g2.co (fun a k q => by unfold rdL at q; exact h a k (by omega) (by omega)), g3.co (fun a k q => by unfold rdT at q; exact h a k (by omega) (by omega)), g4.co (fun a k q => by unfold rdP at q; exact h a k (by omega) (by omega)), g5.co (fun a k q => by unfold rdO at q; exact h a k (by omega) (by omega)), g6.co (fun a k q => by unfold rdD at q; exact h a k (by omega) (by omega)), hR, hH⟩
