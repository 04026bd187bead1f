/-! a new object: the table grows, what was there stays -/
theorem mk_nw {D : Dn} (h : 77 ≤ D.2.2.2) (t ln : Nat) : nwS (mkS D) t ln = mkS (nwS D t ln) := by
  have e1 : (fun a k => if a = D.2.2.2 then 0 else stPf a k (D.1 a k)) = fun a k => stPf a k (if a = D.2.2.2 then 0 else D.1 a k) := by
    funext a k
    by_cases q : a = D.2.2.2
    · subst q
      rw [if_pos rfl, if_pos rfl]
      exact (mk_dyn (D := (fun _ _ => 0, D.2)) h).symm
    · rw [if_neg q, if_neg q]
  have e2 : (fun a => if a = D.2.2.2 then ln else stNf a (D.2.2.1 a)) = fun a => stNf a (if a = D.2.2.2 then ln else D.2.2.1 a) := by
    funext a
    by_cases q : a = D.2.2.2
    · subst q
      rw [if_pos rfl, if_pos rfl]
      exact (mk_len (D := (D.1, D.2.1, fun _ => ln, D.2.2.2)) h).symm
    · rw [if_neg q, if_neg q]
  show (_, _, _, _) = (_, _, _, _)
  rw [show (fun a k => if a = (mkS D).2.2.2 then 0 else (mkS D).1 a k) = _ from e1, show (fun a => if a = (mkS D).2.2.2 then ln else (mkS D).2.2.1 a) = _ from e2]
  rfl
theorem mk_up {D : Dn} {a k : Nat} (h : (stT.getD a []).getD k 0 = 0) (r : Nat) : upP (mkS D) a k r = mkS (upP D a k r) := by
  have e1 : (fun a' k' => if a' = a ∧ k' = k then r else stPf a' k' (D.1 a' k')) = fun a' k' => stPf a' k' (if a' = a ∧ k' = k then r else D.1 a' k') := by
    funext a' k'
    by_cases q : a' = a ∧ k' = k
    · obtain ⟨rfl, rfl⟩ := q
      rw [if_pos ⟨rfl, rfl⟩, if_pos ⟨rfl, rfl⟩]
      unfold stPf
      rw [h]
    · rw [if_neg q, if_neg q]
  show (_, _, _, _) = (_, _, _, _)
  rw [show (fun a' k' => if a' = a ∧ k' = k then r else (mkS D).1 a' k') = _ from e1]
  rfl
/-- what was there is as it was -/
def Old (D D' : Dn) : Prop := D.2.2.2 ≤ D'.2.2.2 ∧ (∀ a, a < D.2.2.2 → D'.2.1 a = D.2.1 a ∧ D'.2.2.1 a = D.2.2.1 a) ∧ ∀ a k, 77 ≤ a → a < D.2.2.2 → D'.1 a k = D.1 a k
theorem GL.ce {D D' : Dn} {I I' : II} (o : Old D D') (h5 : ∀ l, l < nL I → D'.1 5 l = D.1 5 l) (h : ∀ a k, rdL a k → a < 77 ∨ a < D.2.2.2 → I' a k = I a k) (g : GL D I) : GL D' I' := by
  unfold rdL at h
  obtain ⟨o1, o2, o3⟩ := o
  have e1 : I' 38 1 = I 38 1 := h _ _ (by omega) (by omega)
  have e2 : I' 38 4 = I 38 4 := h _ _ (by omega) (by omega)
  have e3 : I' 1 5 = I 1 5 := h _ _ (by omega) (by omega)
  have e41 : ∀ k, I' 41 k = I 41 k := fun k => h _ _ (by omega) (by omega)
  have e42 : ∀ k, I' 42 k = I 42 k := fun k => h _ _ (by omega) (by omega)
  have e43 : ∀ k, I' 43 k = I 43 k := fun k => h _ _ (by omega) (by omega)
  have e44 : ∀ k, I' 44 k = I 44 k := fun k => h _ _ (by omega) (by omega)
  have e45 : ∀ k, I' 45 k = I 45 k := fun k => h _ _ (by omega) (by omega)
  have e46 : ∀ k, I' 46 k = I 46 k := fun k => h _ _ (by omega) (by omega)
  have e47 : ∀ k, I' 47 k = I 47 k := fun k => h _ _ (by omega) (by omega)
  have e48 : ∀ k, I' 48 k = I 48 k := fun k => h _ _ (by omega) (by omega)
  have e49 : ∀ k, I' 49 k = I 49 k := fun k => h _ _ (by omega) (by omega)
  have e50 : ∀ k, I' 50 k = I 50 k := fun k => h _ _ (by omega) (by omega)
  have ed : ∀ a k, 77 ≤ a → a < D.2.2.2 → I' a k = I a k := fun a k ha hb => h _ _ (by omega) (by omega)
  obtain ⟨g1, g2, g3, g4, g5⟩ := g
  have hl : ∀ l, l < nL I → la D' l = la D l := fun l q => by unfold la; rw [h5 l q]
  have hn : nL I' = nL I := by unfold nL; rw [e2]
  refine ⟨by rw [e2, e3]; exact g1, ?_, ?_, ?_, ?_⟩
  · intro l q
    rw [hn] at q
    obtain ⟨r, x⟩ := g2 l q
    have hA : 77 ≤ la D l := by have := x.1.1; unfold la; omega
    have hB : la D l + 3 < D.2.2.2 := x.1.2.1
    refine ⟨?_, ?_⟩
    · unfold RLn lZ lE lF lL lS lO nS at *
      simp only [e1, e41, e42, e43, e44, e45, e46, e47, e48, e49, e50]
      exact r
    · have t0 := o2 (la D l) (by omega)
      have t1 := o2 (la D l + 1) (by omega)
      have t2 := o2 (la D l + 2) (by omega)
      have t3 := o2 (la D l + 3) (by omega)
      unfold XLn lZ at *
      rw [hl l q, h5 l q]
      simp only [e41, e42, e43, e44, e45, e46, e47, e48, e49, e50, ed (la D l) _ hA (by omega), ed (la D l + 1) _ (by omega) (by omega), ed (la D l + 2) _ (by omega) (by omega), ed (la D l + 3) _ (by omega) (by omega), o3 (la D l) _ hA (by omega), t0.1, t1.1, t2.1, t3.1, t1.2, t2.2, t3.2]
      obtain ⟨⟨x1, x2, x3⟩, x4⟩ := x
      exact ⟨⟨x1, by omega, x3⟩, x4⟩
  · intro j l q1 q2
    rw [hn] at q2
    rw [hl j (by omega), hl l q2]
    exact g3 j l q1 q2
  · rw [hn]; simp only [e48]; exact g4
  · rw [hn]; simp only [e50]; exact g5
theorem GT.ce {D D' : Dn} {I I' : II} (o : Old D D') (h5 : ∀ t, t < nT I → D'.1 6 t = D.1 6 t) (h : ∀ a k, rdT D a k → a < 77 ∨ a < D.2.2.2 → I' a k = I a k) (g : GT D I) : GT D' I' := by
  unfold rdT at h
  obtain ⟨o1, o2, o3⟩ := o
  have e2 : I' 38 15 = I 38 15 := h _ _ (by omega) (by omega)
  have e3 : I' 0 2 = I 0 2 := h _ _ (by omega) (by omega)
  have e51 : ∀ k, I' 51 k = I 51 k := fun k => h _ _ (by omega) (by omega)
  have e52 : ∀ k, I' 52 k = I 52 k := fun k => h _ _ (by omega) (by omega)
  have e53 : ∀ k, I' 53 k = I 53 k := fun k => h _ _ (by omega) (by omega)
  have e54 : ∀ k, I' 54 k = I 54 k := fun k => h _ _ (by omega) (by omega)
  have ed : ∀ a k, 77 ≤ a → a < D.2.2.2 → D.2.1 a = 100 → D.2.1 (a - 1) = 7 → I' a k = I a k := fun a k h1 h0 h2 h3 => h _ _ (Or.inr (Or.inr (Or.inr ⟨h1, h2, h3⟩))) (Or.inr h0)
  obtain ⟨g1, g2⟩ := g
  refine ⟨by rw [e2, e3]; exact g1, fun t ht => ?_⟩
  unfold nT at ht
  rw [e2] at ht
  obtain ⟨x1, x2, x3⟩ := g2 t ht
  have hA : 77 ≤ ta D t := by have := x1.1.1; unfold ta; omega
  have hB : ta D t + 1 < D.2.2.2 := x1.1.2.1
  have hl : ta D' t = ta D t := by unfold ta; rw [h5 t ht]
  have t0 := o2 (ta D t) (by omega)
  have t1 := o2 (ta D t + 1) (by omega)
  rw [hl, h5 t ht]
  simp only [e51, e52, e53, e54, ed (ta D t + 1) _ (by omega) (by omega) x1.1.2.2.2 x1.1.2.2.1, o3 (ta D t) _ hA (by omega), t0.1, t1.1, t1.2]
  obtain ⟨⟨⟨y1, y2, y3⟩, y4⟩, -⟩ := (⟨x1, x2⟩ : _ ∧ _)
  exact ⟨⟨⟨y1, by omega, y3⟩, y4⟩, x2, x3⟩
theorem GP.ce {D D' : Dn} {I I' : II} (o : Old D D') (h5 : ∀ t, t < nP I → D'.1 7 t = D.1 7 t) (h : ∀ a k, rdP D a k → a < 77 ∨ a < D.2.2.2 → I' a k = I a k) (g : GP D I) : GP D' I' := by
  unfold rdP at h
  obtain ⟨o1, o2, o3⟩ := o
  have e1 : I' 38 1 = I 38 1 := h _ _ (by omega) (by omega)
  have e2 : I' 38 22 = I 38 22 := h _ _ (by omega) (by omega)
  have e3 : I' 0 4 = I 0 4 := h _ _ (by omega) (by omega)
  have e56 : ∀ k, I' 56 k = I 56 k := fun k => h _ _ (by omega) (by omega)
  have e57 : ∀ k, I' 57 k = I 57 k := fun k => h _ _ (by omega) (by omega)
  have e58 : ∀ k, I' 58 k = I 58 k := fun k => h _ _ (by omega) (by omega)
  have e59 : ∀ k, I' 59 k = I 59 k := fun k => h _ _ (by omega) (by omega)
  have e60 : ∀ k, I' 60 k = I 60 k := fun k => h _ _ (by omega) (by omega)
  have ed : ∀ a k, 77 ≤ a → a < D.2.2.2 → D.2.1 a = 8 → I' a k = I a k := fun a k h1 h0 h2 => h _ _ (Or.inr (Or.inr (Or.inr ⟨h1, h2⟩))) (Or.inr h0)
  obtain ⟨g1, g2⟩ := g
  refine ⟨by rw [e2, e3]; exact g1, fun t ht => ?_⟩
  unfold nP at ht
  rw [e2] at ht
  obtain ⟨x1, x2, x3⟩ := g2 t ht
  have hA : 77 ≤ pa D t := by have := x1.1; unfold pa; omega
  have hB : pa D t < D.2.2.2 := x1.2.1
  have hl : pa D' t = pa D t := by unfold pa; rw [h5 t ht]
  have t0 := o2 (pa D t) (by omega)
  rw [hl, h5 t ht]
  unfold nS at *
  simp only [e1, e56, e57, e58, e59, e60, ed (pa D t) _ hA (by omega) x1.2.2, t0.1]
  obtain ⟨y1, y2, y3⟩ := x1
  exact ⟨⟨y1, by omega, y3⟩, x2, x3⟩
theorem GD.ce {D D' : Dn} {I I' : II} (o : Old D D') (h5 : ∀ t, t < nD I → D'.1 13 t = D.1 13 t) (h : ∀ a k, rdD D a k → a < 77 ∨ a < D.2.2.2 → I' a k = I a k) (g : GD D I) : GD D' I' := by
  unfold rdD at h
  obtain ⟨o1, o2, o3⟩ := o
  have e2 : I' 38 36 = I 38 36 := h _ _ (by omega) (by omega)
  have e3 : I' 0 9 = I 0 9 := h _ _ (by omega) (by omega)
  have e64 : ∀ k, I' 64 k = I 64 k := fun k => h _ _ (by omega) (by omega)
  have e65 : ∀ k, I' 65 k = I 65 k := fun k => h _ _ (by omega) (by omega)
  have e66 : ∀ k, I' 66 k = I 66 k := fun k => h _ _ (by omega) (by omega)
  have ed : ∀ a k, 77 ≤ a → a < D.2.2.2 → D.2.1 a = 0 → I' a k = I a k := fun a k h1 h0 h2 => h _ _ (Or.inr (Or.inr (Or.inr ⟨h1, h2⟩))) (Or.inr h0)
  obtain ⟨g1, g2⟩ := g
  refine ⟨by rw [e2, e3]; exact g1, fun t ht => ?_⟩
  unfold nD at ht
  rw [e2] at ht
  obtain ⟨x1, x2, x3⟩ := g2 t ht
  have hA : 77 ≤ da D t := by have := x1.1; unfold da; omega
  have hB : da D t < D.2.2.2 := x1.2.1
  have hl : da D' t = da D t := by unfold da; rw [h5 t ht]
  have t0 := o2 (da D t) (by omega)
  rw [hl, h5 t ht]
  simp only [e64, e65, e66, ed (da D t) _ hA (by omega) x1.2.2, t0.1]
  obtain ⟨y1, y2, y3⟩ := x1
  exact ⟨⟨y1, by omega, y3⟩, x2, x3⟩
theorem GO.ce {D D' : Dn} {I I' : II} (h5 : ∀ l, l < nL I → D'.1 5 l = D.1 5 l) (h12 : ∀ k, k < nO I → D'.1 12 k = D.1 12 k) (h : ∀ a k, rdO a k → I' a k = I a k) (g : GO D I) : GO D' I' := by
  have g' := GO.co h g
  have e1 : nL I' = nL I := by unfold nL; rw [h 38 4 (by unfold rdO; omega)]
  have e2 : nO I' = nO I := by unfold nO; rw [h 38 34 (by unfold rdO; omega)]
  obtain ⟨a, b, c⟩ := g'
  refine ⟨a, fun k hk => ?_, c⟩
  obtain ⟨b1, b2, b3⟩ := b k hk
  refine ⟨b1, b2, ?_⟩
  rw [e2] at hk
  rw [e1] at b2
  rw [h12 k hk, h5 _ b2, b3]
