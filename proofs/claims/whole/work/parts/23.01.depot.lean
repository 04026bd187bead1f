/-! depot, trip -/
/-- a new cell, and a row's next place that names it -/
def adD (D : Dn) (tag row k : Nat) : Dn := upP (nwS D tag 0) row k (D.2.2.2 + 1)
theorem adD_old {D : Dn} {tag row k : Nat} (hr : row < 77) : Old D (adD D tag row k) := by
  refine ⟨Nat.le_succ _, fun a ha => ?_, fun a j ha hb => ?_⟩
  · constructor
    · show (if a = D.2.2.2 then tag else D.2.1 a) = _
      rw [if_neg (by omega)]
    · show (if a = D.2.2.2 then 0 else D.2.2.1 a) = _
      rw [if_neg (by omega)]
  · show (if a = row ∧ j = k then D.2.2.2 + 1 else if a = D.2.2.2 then 0 else D.1 a j) = _
    rw [if_neg (by omega), if_neg (by omega)]
theorem adD_row {D : Dn} {tag row k a j : Nat} (ha : a < D.2.2.2) (h : ¬ (a = row ∧ j = k)) : (adD D tag row k).1 a j = D.1 a j := by
  show (if a = row ∧ j = k then D.2.2.2 + 1 else if a = D.2.2.2 then 0 else D.1 a j) = _
  rw [if_neg h, if_neg (by omega)]
theorem adD_new {D : Dn} {tag row k : Nat} : (adD D tag row k).1 row k = D.2.2.2 + 1 := if_pos ⟨rfl, rfl⟩
theorem adD_tag {D : Dn} {tag row k : Nat} : (adD D tag row k).2.1 D.2.2.2 = tag := if_pos rfl
theorem place_eq (x y : Int32) : t_X10_isPlace x y = if t_X10_isWithin x 0 40 = 0 then 0 else if t_X10_isWithin y 0 40 = 0 then 0 else 1 := by
  unfold t_X10_isPlace
  split
  · rfl
  · split <;> rfl
theorem p_depot (fu : Nat) {D : Dn} {I : II} (g : Inv D I) (x y m : Int32) : ∃ r D' I1 I2, f_X10_depot fu (mkS D) I 0 x y m = some (r, mkS D', I1) ∧ Rf_X11_depot fu (mkS D') I1 x y m = some (r, I2) ∧ Inv D' I2 := by
  have gD := g.2.2.2.2.2.2.1
  have hn2 : nD I ≤ 4 := gD.1.1.2
  have e : I 38 36 = nI (nD I) := gD.1.1.1
  have e' : I 0 9 = nI (nD I) := gD.1.2.trans e
  have hN : 77 ≤ D.2.2.2 := g.1
  have c1 : nI (nD I) < (4 : Int32) ↔ nD I < 4 := nI_lt_iff (b := 4) (by omega) (by decide)
  have c2 : nI (nD I) = (4 : Int32) ↔ nD I = 4 := nI_eq_iff (b := 4) (by omega) (by decide)
  have ex : ∀ z : Int32, t_X11_in z.toInt64 0 40 = t_X10_isWithin z 0 40 := fun z => w_in32 (lo := 0) (hi := 40)
  have em : t_X11_in m.toInt64 0 9 = t_X10_isWithin m 0 9 := w_in32 (lo := 0) (hi := 9)
  unfold f_X10_depot
  rw [place_eq]
  rcases within_cases x 0 40 with h | ⟨h, hx1, hx2⟩
  · refine ⟨-2, D, I, I, by rw [h]; rfl, ?_, g⟩
    unfold Rf_X11_depot
    rw [ex, h, if_pos rfl]
  rcases within_cases y 0 40 with h3 | ⟨h3, hy1, hy2⟩
  · refine ⟨-2, D, I, I, by rw [h, h3]; rfl, ?_, g⟩
    unfold Rf_X11_depot
    rw [ex, ex, h, h3, if_neg i1ne, if_pos rfl]
  rw [h, h3, if_neg i1ne, if_neg i1ne, if_neg i1ne]
  rcases within_cases m 0 9 with h4 | ⟨h4, hm1, hm2⟩
  · refine ⟨-2, D, I, I, by rw [h4]; rfl, ?_, g⟩
    unfold Rf_X11_depot
    rw [ex, ex, em, h, h3, h4, if_neg i1ne, if_neg i1ne, if_pos rfl]
  rw [h4, if_neg i1ne, e']
  by_cases q : nD I = 4
  · refine ⟨-4, D, I, I, by rw [if_neg (fun z => by have := c1.mp z; omega)], ?_, g⟩
    unfold Rf_X11_depot
    rw [ex, ex, em, h, h3, h4, if_neg i1ne, if_neg i1ne, if_neg i1ne, e, if_pos (c2.mpr q)]
  · rw [if_pos (c1.mpr (by omega))]
    obtain ⟨N, eN⟩ : ∃ N, D.2.2.2 = N := ⟨_, rfl⟩
    obtain ⟨n, en⟩ : ∃ n, nD I = n := ⟨_, rfl⟩
    have kn := nx_nI (k := n) (by omega)
    have hin : inb (nwS (mkS D) 0 0) 14 (nI n) := by
      rw [mk_nw hN]
      exact ⟨by decide, nI_nn (by omega), by rw [kn]; show n < 4; omega⟩
    refine ⟨nI n, adD D 0 13 n, upI (upI (upI (upI (nwI (mkS D) I) N 0 x) N 1 y) N 2 m) 0 9 (nI (n + 1)), upI (upI (upI (upI (upI (upI (upI (upI (nwI (mkS D) I) N 0 x) N 1 y) N 2 m) 0 9 (nI (n + 1))) 64 n x) 65 n y) 66 n m) 38 36 (nI (n + 1)), ?_, ?_, ?_⟩
    · have h14 : (mkS D).1 0 8 = 14 := rfl
      have hNN : (mkS D).2.2.2 = N := eN
      have k9 : upI (upI (upI (nwI (mkS D) I) N 0 x) N 1 y) N 2 m 0 9 = nI n := by
        rw [upI_row (by omega), upI_row (by omega), upI_row (by omega)]
        show (if 0 = (mkS D).2.2.2 then 0 else I 0 9) = _
        rw [hNN, if_neg (by omega), e', en]
      unfold f_X0_init
      simp only [lt, Option.bind_some, hNN, h14, en]
      rw [gd_pos hin, k9, nI_1, upI_at, ← nI_1, Int32.add_sub_cancel, kn, mk_nw hN, mk_up rfl, ← eN]
      rfl
    · have kJ : upI (upI (upI (upI (nwI (mkS D) I) N 0 x) N 1 y) N 2 m) 0 9 (nI (n + 1)) 38 36 = nI n := by
        rw [upI_row (by omega), upI_row (by omega), upI_row (by omega), upI_row (by omega)]
        show (if 38 = (mkS D).2.2.2 then 0 else I 38 36) = _
        rw [show (mkS D).2.2.2 = N from eN, if_neg (by omega), e, en]
      generalize upI (upI (upI (upI (nwI (mkS D) I) N 0 x) N 1 y) N 2 m) 0 9 (nI (n + 1)) = J at kJ
      have i4 : ∀ a, a ≠ 0 → inbL a 4 (nI n) := fun a ha => ⟨ha, nI_nn (by omega), by rw [kn]; omega⟩
      have r1 : upI J 64 n x 38 36 = nI n := by rw [upI_row (by decide), kJ]
      have r2 : upI (upI J 64 n x) 65 n y 38 36 = nI n := by rw [upI_row (by decide), r1]
      have r3 : upI (upI (upI J 64 n x) 65 n y) 66 n m 38 36 = nI n := by rw [upI_row (by decide), r2]
      unfold Rf_X11_depot wrN
      simp only [lt]
      rw [ex, ex, em, h, h3, h4, if_neg i1ne, if_neg i1ne, if_neg i1ne, kJ, if_neg (fun z => q (c2.mp (by rw [en]; exact z))), gd_pos (i4 _ (by decide)), kn, r1, gd_pos (i4 _ (by decide)), kn, r2, gd_pos (i4 _ (by decide)), kn, r3, upI_at, nI_1, ← nI_1, Int32.add_sub_cancel]
    · have hK : ∀ a k, ¬ (a = N ∨ (a = 0 ∧ k = 9) ∨ (a = 38 ∧ k = 36) ∨ ((a = 64 ∨ a = 65 ∨ a = 66) ∧ k = n)) → upI (upI (upI (upI (upI (upI (upI (upI (nwI (mkS D) I) N 0 x) N 1 y) N 2 m) 0 9 (nI (n + 1))) 64 n x) 65 n y) 66 n m) 38 36 (nI (n + 1)) a k = I a k := by
        intro a k z
        simp only [upI, nwI, show (mkS D).2.2.2 = N from eN]
        rw [if_neg (by omega), if_neg (by omega), if_neg (by omega), if_neg (by omega), if_neg (by omega), if_neg (by omega), if_neg (by omega), if_neg (by omega), if_neg (by omega)]
      have v1 : upI (upI (upI (upI (upI (upI (upI (upI (nwI (mkS D) I) N 0 x) N 1 y) N 2 m) 0 9 (nI (n + 1))) 64 n x) 65 n y) 66 n m) 38 36 (nI (n + 1)) 38 36 = nI (n + 1) := upI_at
      have v2 : upI (upI (upI (upI (upI (upI (upI (upI (nwI (mkS D) I) N 0 x) N 1 y) N 2 m) 0 9 (nI (n + 1))) 64 n x) 65 n y) 66 n m) 38 36 (nI (n + 1)) 0 9 = nI (n + 1) := by
        rw [upI_row (by decide), upI_row (by decide), upI_row (by decide), upI_row (by decide), upI_at]
      have v64 : upI (upI (upI (upI (upI (upI (upI (upI (nwI (mkS D) I) N 0 x) N 1 y) N 2 m) 0 9 (nI (n + 1))) 64 n x) 65 n y) 66 n m) 38 36 (nI (n + 1)) 64 n = x := by
        rw [upI_row (by decide), upI_row (by decide), upI_row (by decide), upI_at]
      have v65 : upI (upI (upI (upI (upI (upI (upI (upI (nwI (mkS D) I) N 0 x) N 1 y) N 2 m) 0 9 (nI (n + 1))) 64 n x) 65 n y) 66 n m) 38 36 (nI (n + 1)) 65 n = y := by
        rw [upI_row (by decide), upI_row (by decide), upI_at]
      have v66 : upI (upI (upI (upI (upI (upI (upI (upI (nwI (mkS D) I) N 0 x) N 1 y) N 2 m) 0 9 (nI (n + 1))) 64 n x) 65 n y) 66 n m) 38 36 (nI (n + 1)) 66 n = m := by
        rw [upI_row (by decide), upI_at]
      have w0 : upI (upI (upI (upI (upI (upI (upI (upI (nwI (mkS D) I) N 0 x) N 1 y) N 2 m) 0 9 (nI (n + 1))) 64 n x) 65 n y) 66 n m) 38 36 (nI (n + 1)) N 0 = x := by
        rw [upI_row (by omega), upI_row (by omega), upI_row (by omega), upI_row (by omega), upI_row (by omega), upI_cell (by decide), upI_cell (by decide), upI_at]
      have w1 : upI (upI (upI (upI (upI (upI (upI (upI (nwI (mkS D) I) N 0 x) N 1 y) N 2 m) 0 9 (nI (n + 1))) 64 n x) 65 n y) 66 n m) 38 36 (nI (n + 1)) N 1 = y := by
        rw [upI_row (by omega), upI_row (by omega), upI_row (by omega), upI_row (by omega), upI_row (by omega), upI_cell (by decide), upI_at]
      have w2 : upI (upI (upI (upI (upI (upI (upI (upI (nwI (mkS D) I) N 0 x) N 1 y) N 2 m) 0 9 (nI (n + 1))) 64 n x) 65 n y) 66 n m) 38 36 (nI (n + 1)) N 2 = m := by
        rw [upI_row (by omega), upI_row (by omega), upI_row (by omega), upI_row (by omega), upI_row (by omega), upI_at]
      generalize upI (upI (upI (upI (upI (upI (upI (upI (nwI (mkS D) I) N 0 x) N 1 y) N 2 m) 0 9 (nI (n + 1))) 64 n x) 65 n y) 66 n m) 38 36 (nI (n + 1)) = K at hK v1 v2 v64 v65 v66 w0 w1 w2
      have hold : Old D (adD D 0 13 n) := adD_old (by decide)
      have hrow : ∀ a j, a < 77 → a ≠ 13 → (adD D 0 13 n).1 a j = D.1 a j := fun a j z1 z2 => adD_row (by omega) (by omega)
      have k1 : nx (nI (n + 1)) = n + 1 := nx_nI (by omega)
      obtain ⟨g0, g1, g2, g3, g4, g5, g6, g7, g8⟩ := g
      refine ⟨by show 77 ≤ D.2.2.2 + 1; omega, g1.co (fun a k z => hK a k (by unfold rdS at z; omega)), g2.ce hold (fun l _ => hrow 5 l (by decide) (by decide)) (fun a k z z2 => hK a k (by unfold rdL at z; omega)), g3.ce hold (fun l _ => hrow 6 l (by decide) (by decide)) (fun a k z z2 => hK a k (by unfold rdT at z; omega)), g4.ce hold (fun l _ => hrow 7 l (by decide) (by decide)) (fun a k z z2 => hK a k (by unfold rdP at z; omega)), g5.ce (fun l _ => hrow 5 l (by decide) (by decide)) (fun l _ => hrow 12 l (by decide) (by decide)) (fun a k z => hK a k (by unfold rdO at z; omega)), ?_, g7.co (fun a k z => hK a k (by unfold rdR at z; omega)), g8.co (fun a k z => hK a k (by unfold rdH at z; omega))⟩
      refine ⟨by rw [v1, v2]; exact ⟨isN_nI (by omega) (by decide), rfl⟩, fun t ht => ?_⟩
      have ht' : t < n + 1 := by unfold nD at ht; rw [v1, k1] at ht; exact ht
      by_cases qt : t = n
      · subst qt
        have ha : da (adD D 0 13 t) t = N := by unfold da; rw [adD_new, eN, Nat.add_sub_cancel]
        rw [ha, adD_new, v64, v65, v66, w0, w1, w2]
        refine ⟨⟨by omega, by show N < D.2.2.2 + 1; omega, by rw [← eN]; exact adD_tag⟩, ⟨⟨nI_nx (le0 hx1), nx_le (le0 hx1) (n := 40) (by decide) hx2⟩, ⟨nI_nx (le0 hy1), nx_le (le0 hy1) (n := 40) (by decide) hy2⟩, ⟨nI_nx (le0 hm1), nx_le (le0 hm1) (n := 9) (by decide) hm2⟩⟩, rfl, rfl, rfl⟩
      · obtain ⟨⟨x1, x2, x3⟩, x4, x5⟩ := g6.2 t (by omega)
        have hA : 77 ≤ da D t := by unfold da; omega
        have hr : (adD D 0 13 n).1 13 t = D.1 13 t := adD_row (by omega) (by omega)
        have ha : da (adD D 0 13 n) t = da D t := by unfold da; rw [hr]
        rw [ha, hr, (hold.2.1 (da D t) x2).1, hK 64 t (by omega), hK 65 t (by omega), hK 66 t (by omega), hK (da D t) 0 (by omega), hK (da D t) 1 (by omega), hK (da D t) 2 (by omega)]
        exact ⟨⟨x1, by show da D t < D.2.2.2 + 1; omega, x3⟩, x4, x5⟩
