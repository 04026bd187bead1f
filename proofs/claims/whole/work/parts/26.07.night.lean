/-! night: both -/
theorem Out.uq {V : Nat → Nat} {A m : Nat} {o o' : Option Nat} (h : Out V A m o) (h' : Out V A m o') : o = o' := by
  cases o with
  | none =>
    cases o' with
    | none => rfl
    | some x =>
      obtain ⟨a1, a2, -⟩ := h'
      have : A ≤ V x := h x a1
      omega
  | some x0 =>
    obtain ⟨a1, a2, a3⟩ := h
    cases o' with
    | none =>
      have : A ≤ V x0 := h' x0 a1
      omega
    | some x1 =>
      obtain ⟨b1, b2, b3⟩ := h'
      have c1 := a3 x1 b1
      have c2 := b3 x0 a1
      rcases (by omega : x0 < x1 ∨ x0 = x1 ∨ x1 < x0) with z | z | z
      · have := c2.2 z; omega
      · rw [z]
      · have := c1.2 z; omega
theorem p_night (fu : Nat) (hfu : 70000 < fu) {D : Dn} {I : II} (g : Inv D I) (d s m k : Int32) : ∃ r I1 I2, Rf_X10_night fu (mkS D) I d s m k = some (r, I1) ∧ Rf_X11_night fu (mkS D) I1 d s m k = some (r, I2) ∧ Inv D I2 := by
  have gR := g.2.2.2.2.2.2.2.1
  obtain ⟨hb6, hb16, hbs⟩ := bn_le g
  have hbd : bds I ≤ 65535 := gR.2.2.1.2.1.2
  have e47 : I 38 47 = nI (bds I) := gR.2.2.1.2.1.1
  have e13 : I 0 13 = nI (bds I) := gR.2.2.1.1.trans e47
  have hbc : t_J6_bitCount_0f7a4 (I 0 13) = nI (bn I) := by rw [e13, bitCount_at (by omega), hb16]
  have hbm : ∀ J : II, J 38 47 = nI (bds I) → Rf_X11_boardMany fu (mkS D) J = some (nI (bn I)) := fun J h => by rw [m_boardMany fu (by omega) (by omega) h, hb16]
  have eD : t_X11_in d.toInt64 0 58 = t_X10_isWithin d 0 58 := w_in32 (lo := 0) (hi := 58)
  have eM : t_X11_in m.toInt64 0 2879 = t_X10_isWithin m 0 2879 := w_in32 (lo := 0) (hi := 2879)
  obtain ⟨wA, wB⟩ := w_m1 (x := k) (n := bn I) (by omega)
  obtain ⟨xA, xB⟩ := w_m1x (x := k) (n := bn I) (by omega)
  unfold Rf_X10_night
  rw [hbc]
  rcases stop_cases g.2.1 s with ⟨h1, h2⟩ | ⟨at_, hat, rfl, h1, h2⟩
  · refine ⟨-1, I, I, by rw [if_pos h1], ?_, g⟩
    unfold Rf_X11_night
    rw [hbm I e47, Option.bind_some, h2, if_neg i1ne]
  rw [h1, if_neg i1ne]
  by_cases hk : ¬ (k = -1 ∨ ∃ j, j < bn I ∧ k = nI j)
  · refine ⟨-1, I, I, by rw [xB hk, if_pos rfl], ?_, g⟩
    unfold Rf_X11_night
    rw [hbm I e47, Option.bind_some, h2, if_pos rfl, wB hk, if_pos rfl]
  replace hk := Classical.not_not.mp hk
  rw [xA hk, if_neg i1ne]
  by_cases hd : t_X10_isWithin d 0 58 = 0
  · refine ⟨-2, I, I, by rw [if_pos hd], ?_, g⟩
    unfold Rf_X11_night
    rw [hbm I e47, Option.bind_some, h2, if_pos rfl, wA hk, if_neg i1ne, eD, if_pos hd]
  rw [if_neg hd]
  rcases within_cases m 0 2879 with hm | ⟨hm, m1, m2⟩
  · refine ⟨-2, I, I, by rw [if_pos hm], ?_, g⟩
    unfold Rf_X11_night
    rw [hbm I e47, Option.bind_some, h2, if_pos rfl, wA hk, if_neg i1ne, eD, if_neg hd, eM, if_pos hm]
  obtain ⟨now, hnow, rfl⟩ : ∃ now, now ≤ 2879 ∧ m = nI now := ⟨nx m, nx_le (le0 m1) (n := 2879) (by decide) m2, nI_nx (le0 m1)⟩
  rw [hm, if_neg i1ne, e13]
  obtain ⟨J, o, a1, a2, a3, a4, a5⟩ := x_plan fu (by omega) g (d := d) hat hnow
  obtain ⟨K, b1, b2, b3⟩ := m_layBoards fu (by omega) g a2 d
  have kU : Keep I (upI K 38 40 (nI (bn I))) := b2.tr (fun a j z => by
    unfold upI
    rw [if_neg (fun e => z (by unfold scr; omega))])
  obtain ⟨v, L, o', c1, c2, c3, c4⟩ := m_nightL fu hfu g kU (d := d) (x := k) hat hnow hk upI_at (fun j hj => by rw [upI_row (by decide), upI_row (by decide), upI_row (by decide)]; exact b3 j hj)
  have eo := Out.uq a3 c3
  subst eo
  have h2' : t_X11_noStop J 38 (nI at_) = 0 := by
    unfold t_X11_noStop at h2 ⊢
    rw [a2 38 1 (by unfold scr; omega)]
    exact h2
  have href : Rf_X11_night fu (mkS D) J d (nI at_) (nI now) k = some (v, L) := by
    unfold Rf_X11_night
    rw [hbm J (by rw [a2 38 47 (by unfold scr; omega)]; exact e47), Option.bind_some, h2', if_pos rfl, wA hk, if_neg i1ne, eD, if_neg hd, eM, hm, if_neg i1ne, b1, Option.bind_some]
    simp only [lt]
    rw [m_power fu (by omega) (by omega), Option.bind_some]
    exact c1
  rw [a1, Option.bind_some, a4]
  refine ⟨v, J, L, ?_, href, g.keep c2⟩
  rcases c4 with ⟨y1, y2⟩ | ⟨x0, y1, y2, y3⟩
  · subst y1
    rw [show nI (best (Vn (bn I) (far I) (bst_ I) (bop I d) (bcl I d) (bn I) at_ now 0) NB none) = 1073741824 from rfl, if_pos rfl, y2]
  · subst y1
    have hV : best (Vn (bn I) (far I) (bst_ I) (bop I d) (bcl I d) (bn I) at_ now 0) NB (some x0) = Vn (bn I) (far I) (bst_ I) (bop I d) (bcl I d) (bn I) at_ now 0 x0 := rfl
    rw [hV, if_neg (by rw [show (1073741824 : Int32) = nI 1073741824 from rfl, nI_eq_iff (by omega) (by decide)]; omega)]
    rcases y3 with ⟨z1, z2⟩ | ⟨j, z0, z1, z2⟩
    · rw [if_pos z1, z2]
    · have kj := nx_nI (k := j) (by omega)
      have r28 : rdN J 28 k = v := by
        unfold rdN
        rw [z1, kj, z2]
        exact a5 x0 rfl j z0
      have nk : ¬ k = -1 := fun z => nI_nn (k := j) (by omega) (by rw [← z1, z]; decide)
      rw [if_neg nk, gd_pos ⟨by decide, by rw [z1]; exact nI_nn (by omega), by rw [z1, kj]; omega⟩, r28]
