/-! who -/
theorem fix4_ex {K ρ : Type} {F : K → (Int32 → Int32 → Int32 → II → Option ρ) → Int32 → Int32 → Int32 → II → Option ρ} (e : Nat → Int32) (P : Nat → Int32 → Int32 → II → Prop) (out : K → Int32 → Int32 → II → Option ρ) (N : Nat) (step : ∀ i u v J, i < N → P i u v J → ∃ u' v' J', P (i + 1) u' v' J' ∧ ∀ κ self, F κ self u v (e i) J = self u' v' (e (i + 1)) J') (fin : ∀ u v J, P N u v J → ∀ κ self, F κ self u v (e N) J = out κ u v J) : ∀ k i u v J, i + k = N → P i u v J → ∀ n, k < n → ∃ u' v' J', P N u' v' J' ∧ ∀ κ, fix4 (F κ) n u v (e i) J = out κ u' v' J' := by
  intro k
  induction k with
  | zero =>
    intro i u v J hi hP n hn
    obtain ⟨m, rfl⟩ : ∃ m, n = m + 1 := ⟨n - 1, by omega⟩
    have : i = N := by omega
    subst this
    exact ⟨u, v, J, hP, fun κ => fin u v J hP κ _⟩
  | succ k ih =>
    intro i u v J hi hP n hn
    obtain ⟨m, rfl⟩ : ∃ m, n = m + 1 := ⟨n - 1, by omega⟩
    obtain ⟨u', v', J', h1, h2⟩ := step i u v J (by omega) hP
    obtain ⟨u2, v2, J2, h3, h4⟩ := ih (i + 1) u' v' J' (by omega) h1 m (by omega)
    refine ⟨u2, v2, J2, h3, fun κ => ?_⟩
    rw [← h4 κ]
    exact h2 κ _
/-- by how much, or whether -/
noncomputable def byv (I : II) (ma mb : Nat) (w : Int32) (t : Nat) : Int32 := if w = 0 ∨ w = 3 then wv (AV I ma t) (AV I mb t) else if w = 2 then (if AV I mb t = NB then 1 else 0) else wv (AV I mb t) (AV I ma t)
theorem byv_0 (I : II) (ma mb t : Nat) : byv I ma mb 0 t = wv (AV I ma t) (AV I mb t) := if_pos (Or.inl rfl)
theorem byv_3 (I : II) (ma mb t : Nat) : byv I ma mb 3 t = wv (AV I ma t) (AV I mb t) := if_pos (Or.inr rfl)
theorem byv_1 (I : II) (ma mb t : Nat) : byv I ma mb 1 t = wv (AV I mb t) (AV I ma t) := (if_neg (by decide)).trans (if_neg (by decide))
theorem byv_4 (I : II) (ma mb t : Nat) : byv I ma mb 4 t = wv (AV I mb t) (AV I ma t) := (if_neg (by decide)).trans (if_neg (by decide))
theorem byv_2 (I : II) (ma mb t : Nat) : byv I ma mb 2 t = if AV I mb t = NB then 1 else 0 := (if_neg (by decide)).trans (if_pos rfl)
noncomputable def seW (I : II) (ma mb : Nat) (w : Int32) : Nat → Int32
  | 0 => 0
  | t + 1 => seW I ma mb w t ||| (if byv I ma mb w t ≤ 0 then (0 : Int32) else (1 : Int32) <<< (nI t &&& 31))
noncomputable def suW (I : II) (ma mb : Nat) (w : Int32) : Nat → Int32
  | 0 => 0
  | t + 1 => suW I ma mb w t + byv I ma mb w t
theorem x_who (fu : Nat) (hfu : 2100 < fu) {D : Dn} {I : II} (g : Inv D I) {ma mb : Nat} (ha : ma < 16384) (hb : mb < 16384) {w : Int32} (hw : w = 0 ∨ w = 1 ∨ w = 2 ∨ w = 3 ∨ w = 4) : ∃ J, Keep I J ∧ fix3 (Rl_X10_who_52 fu (mkS D) w (nI ma) (nI mb)) fu 0 0 I = some (if 3 ≤ w then suW I ma mb w (nP I) else seW I ma mb w (nP I), J) := by
  have hnP : nP I ≤ 6 := g.2.2.2.2.1.1.1.2
  have eP : I 0 4 = nI (nP I) := g.2.2.2.2.1.1.2.trans g.2.2.2.2.1.1.1.1
  have main := fix3_ex (K := Unit) (F := fun _ => Rl_X10_who_52 fu (mkS D) w (nI ma) (nI mb)) (fun i => nI i) (fun i v J => v = (if 3 ≤ w then suW I ma mb w i else seW I ma mb w i) ∧ Keep I J) (fun _ v J => some (v, J)) (nP I) (fun t v J ht hP => ?_) (fun v J hP κ self => ?_) (nP I) 0 0 I (by omega) ⟨by split <;> rfl, Keep.rf⟩ fu (by omega)
  · obtain ⟨v, J, ⟨rfl, h2⟩, h3⟩ := main
    exact ⟨J, h2, h3 ()⟩
  · obtain ⟨rfl, hK⟩ := hP
    obtain ⟨J1, -, -, a1, a2, -, -⟩ := x_arr fu (by omega) g hK (mask := ma) (by omega) ht
    obtain ⟨J2, -, -, c1, c2, -, -⟩ := x_arr fu (by omega) g (hK.tr a2) (mask := mb) (by omega) ht
    have ba := AV_bd fu hfu g (mask := ma) (by omega) ht
    have bb := AV_bd fu hfu g (mask := mb) (by omega) ht
    refine ⟨_, J2, ⟨rfl, (hK.tr a2).tr c2⟩, fun _ self => ?_⟩
    show Rl_X10_who_52 fu (mkS D) w (nI ma) (nI mb) self _ (nI t) J = _
    unfold Rl_X10_who_52 Rj_X10_who_144 Rj_X10_who_167 Rj_X10_who_192 Rj_X10_who_220
    simp only [lt]
    rw [hK 0 4 (by unfold scr; omega), eP, if_neg (by rw [nI_le_iff (by omega) (by omega)]; omega), a1, Option.bind_some, c1, Option.bind_some]
    simp only [x_worse ba bb, x_worse bb ba, nI_p1]
    have b0 : ∀ y : Int32, t_X10_bitIf 0 y = 0 := fun _ => rfl
    have b1 : ∀ y : Int32, t_X10_bitIf 1 y = 1 <<< (y &&& 31) := fun _ => rfl
    have cb : nI (AV I mb t) = (1073741824 : Int32) ↔ AV I mb t = NB := nI_eq_iff (b := 1073741824) (by simp only [NB] at *; omega) (by decide)
    rcases hw with rfl | rfl | rfl | rfl | rfl
    · have n3 : ¬ (3 : Int32) ≤ 0 := by decide
      rw [if_pos rfl, if_neg n3, if_neg n3]
      have e : seW I ma mb 0 (t + 1) = seW I ma mb 0 t ||| (if wv (AV I ma t) (AV I mb t) ≤ 0 then (0 : Int32) else (1 : Int32) <<< (nI t &&& 31)) := by rw [← byv_0]; rfl
      rw [e]
      by_cases q : wv (AV I ma t) (AV I mb t) ≤ 0
      · rw [if_pos q, if_pos q, b0]
      · rw [if_neg q, if_neg q, b1]
    · have n3 : ¬ (3 : Int32) ≤ 1 := by decide
      rw [if_neg (show ¬ (1 : Int32) = 0 by decide), if_pos rfl, if_neg n3, if_neg n3]
      have e : seW I ma mb 1 (t + 1) = seW I ma mb 1 t ||| (if wv (AV I mb t) (AV I ma t) ≤ 0 then (0 : Int32) else (1 : Int32) <<< (nI t &&& 31)) := rfl
      rw [e]
      by_cases q : wv (AV I mb t) (AV I ma t) ≤ 0
      · rw [if_pos q, if_pos q, b0]
      · rw [if_neg q, if_neg q, b1]
    · have n3 : ¬ (3 : Int32) ≤ 2 := by decide
      rw [if_neg (show ¬ (2 : Int32) = 0 by decide), if_neg (show ¬ (2 : Int32) = 1 by decide), if_pos rfl, if_neg n3, if_neg n3]
      have e : seW I ma mb 2 (t + 1) = seW I ma mb 2 t ||| (if (if AV I mb t = NB then (1 : Int32) else 0) ≤ 0 then (0 : Int32) else (1 : Int32) <<< (nI t &&& 31)) := rfl
      rw [e]
      by_cases q : AV I mb t = NB
      · rw [if_pos (cb.mpr q), if_pos q, b1]
        rfl
      · rw [if_neg (fun z => q (cb.mp z)), if_neg q, b0]
        rfl
    · have p3 : (3 : Int32) ≤ 3 := by decide
      rw [if_neg (show ¬ (3 : Int32) = 0 by decide), if_neg (show ¬ (3 : Int32) = 1 by decide), if_neg (show ¬ (3 : Int32) = 2 by decide), if_pos rfl, if_pos p3, if_pos p3]
      rfl
    · have p3 : (3 : Int32) ≤ 4 := by decide
      rw [if_neg (show ¬ (4 : Int32) = 0 by decide), if_neg (show ¬ (4 : Int32) = 1 by decide), if_neg (show ¬ (4 : Int32) = 2 by decide), if_neg (show ¬ (4 : Int32) = 3 by decide), if_pos p3, if_pos p3]
      rfl
  · obtain ⟨rfl, hK⟩ := hP
    show Rl_X10_who_52 fu (mkS D) w (nI ma) (nI mb) self _ (nI (nP I)) J = _
    unfold Rl_X10_who_52
    rw [hK 0 4 (by unfold scr; omega), eP, if_pos (Int32.le_refl _)]
theorem m_who (fu : Nat) (hfu : 2100 < fu) {D : Dn} {I J0 : II} (g : Inv D I) (hK0 : Keep I J0) (a b : Int32) {w : Int32} (hw : w = 0 ∨ w = 1 ∨ w = 2 ∨ w = 3 ∨ w = 4) : ∃ J, Keep I J ∧ fix4 (Rl_X11_who_38 fu (mkS D) a b w) fu 0 0 0 J0 = some (if 3 ≤ w then suW I (rs I a (nL I)) (rs I b (nL I)) w (nP I) else seW I (rs I a (nL I)) (rs I b (nL I)) w (nP I), J) := by
  have hnP : nP I ≤ 6 := g.2.2.2.2.1.1.1.2
  have eP : I 38 22 = nI (nP I) := g.2.2.2.2.1.1.1.1
  have hb14 := rs_14 g b
  have main := fix4_ex (K := Unit) (F := fun _ => Rl_X11_who_38 fu (mkS D) a b w) (fun i => nI i) (fun i u v J => u = seW I (rs I a (nL I)) (rs I b (nL I)) w i ∧ v = suW I (rs I a (nL I)) (rs I b (nL I)) w i ∧ Keep I J) (fun _ u v J => if 3 ≤ w then some (v, J) else some (u, J)) (nP I) (fun t u v J ht hP => ?_) (fun u v J hP κ self => ?_) (nP I) 0 0 0 J0 (by omega) ⟨rfl, rfl, hK0⟩ fu (by omega)
  · obtain ⟨u, v, J, ⟨rfl, rfl, h2⟩, h3⟩ := main
    refine ⟨J, h2, (h3 ()).trans ?_⟩
    split <;> rfl
  · obtain ⟨rfl, rfl, hK⟩ := hP
    have e22 : J 38 22 = nI (nP I) := by rw [hK 38 22 (by unfold scr; omega)]; exact eP
    -- the end of a round: what is added
    have h122 : ∀ (J' : II) self, Rj_X11_who_122 fu (mkS D) J' self a b w (seW I (rs I a (nL I)) (rs I b (nL I)) w t) (suW I (rs I a (nL I)) (rs I b (nL I)) w t) (nI t) (byv I (rs I a (nL I)) (rs I b (nL I)) w t) = self (seW I (rs I a (nL I)) (rs I b (nL I)) w (t + 1)) (suW I (rs I a (nL I)) (rs I b (nL I)) w (t + 1)) (nI (t + 1)) J' := by
      intro J' self
      unfold Rj_X11_who_122 Rj_X11_who_137
      simp only [lt, nI_p1]
      have e1 : seW I (rs I a (nL I)) (rs I b (nL I)) w (t + 1) = seW I (rs I a (nL I)) (rs I b (nL I)) w t ||| (if byv I (rs I a (nL I)) (rs I b (nL I)) w t ≤ 0 then (0 : Int32) else (1 : Int32) <<< (nI t &&& 31)) := rfl
      have e2 : suW I (rs I a (nL I)) (rs I b (nL I)) w (t + 1) = suW I (rs I a (nL I)) (rs I b (nL I)) w t + byv I (rs I a (nL I)) (rs I b (nL I)) w t := rfl
      rw [e1, e2]
      by_cases q : byv I (rs I a (nL I)) (rs I b (nL I)) w t ≤ 0
      · rw [if_pos q, if_pos q]
      · rw [if_neg q, if_neg q]
    have hgo : ∃ J', Keep I J' ∧ ∀ self, Rl_X11_who_38 fu (mkS D) a b w self (seW I (rs I a (nL I)) (rs I b (nL I)) w t) (suW I (rs I a (nL I)) (rs I b (nL I)) w t) (nI t) J = Rj_X11_who_122 fu (mkS D) J' self a b w (seW I (rs I a (nL I)) (rs I b (nL I)) w t) (suW I (rs I a (nL I)) (rs I b (nL I)) w t) (nI t) (byv I (rs I a (nL I)) (rs I b (nL I)) w t) := by
      obtain ⟨K1, d1, d2⟩ := m_worse fu hfu g hK ht a b
      obtain ⟨K2, d3, d4⟩ := m_worse fu hfu g hK ht b a
      obtain ⟨K3, rdK, wkK, d5, d6, d7, -⟩ := m_lay fu hfu g hK (mask := rs I b (nL I)) (by omega) ht
      have hc : ¬ nI (nP I) ≤ nI t := by rw [nI_le_iff (by omega) (by omega)]; omega
      rcases hw with rfl | rfl | rfl | rfl | rfl
      · refine ⟨K1, hK.tr d2, fun self => ?_⟩
        unfold Rl_X11_who_38 Rj_X11_who_56 Rj_X11_who_84
        rw [e22, if_neg hc, if_pos rfl, d1, Option.bind_some, if_neg (by decide), byv_0]
      · refine ⟨K2, hK.tr d4, fun self => ?_⟩
        unfold Rl_X11_who_38 Rj_X11_who_84
        rw [e22, if_neg hc, if_neg (by decide), if_neg (by decide), if_neg (by decide), d3, Option.bind_some, if_neg (by decide), byv_1]
      · refine ⟨K3, hK.tr d6, fun self => ?_⟩
        unfold Rl_X11_who_38 Rj_X11_who_84 Rj_X11_who_120
        rw [e22, if_neg hc, if_neg (by decide), if_neg (by decide), if_pos rfl, if_pos rfl, m_running fu (by omega) g hK, Option.bind_some]
        simp only [lt]
        rw [d5, Option.bind_some]
        rw [byv_2]
        rcases d7 with ⟨q1, q2⟩ | ⟨q1, q2, -, -⟩
        · rw [q2, if_pos (show nI MM = 1000000 from rfl), if_pos q1]
        · have n2 : ¬ nI (AV I (rs I b (nL I)) t) = (1000000 : Int32) := fun z => by
            have := (nI_eq_iff (b := 1000000) (by omega) (by decide)).mp z
            omega
          rw [q2, if_neg n2, if_neg (by simp only [NB]; omega)]
      · refine ⟨K1, hK.tr d2, fun self => ?_⟩
        unfold Rl_X11_who_38 Rj_X11_who_56 Rj_X11_who_84
        rw [e22, if_neg hc, if_neg (by decide), if_pos rfl, d1, Option.bind_some, if_neg (by decide), byv_3]
      · refine ⟨K2, hK.tr d4, fun self => ?_⟩
        unfold Rl_X11_who_38 Rj_X11_who_84
        rw [e22, if_neg hc, if_neg (by decide), if_neg (by decide), if_neg (by decide), d3, Option.bind_some, if_neg (by decide), byv_4]
    obtain ⟨J', k1, k2⟩ := hgo
    exact ⟨_, _, J', ⟨rfl, rfl, k1⟩, fun _ self => (k2 self).trans (h122 J' self)⟩
  · obtain ⟨rfl, rfl, hK⟩ := hP
    show Rl_X11_who_38 fu (mkS D) a b w self _ _ (nI (nP I)) J = _
    unfold Rl_X11_who_38
    rw [hK 38 22 (by unfold scr; omega), eP, if_pos (Int32.le_refl _)]
theorem p_who (fu : Nat) (hfu : 2100 < fu) {D : Dn} {I : II} (g : Inv D I) (a b w : Int32) : ∃ r I1 I2, Rf_X10_who fu (mkS D) I a b w = some (r, I1) ∧ Rf_X11_who fu (mkS D) I1 a b w = some (r, I2) ∧ Inv D I2 := by
  have ew : t_X11_in w.toInt64 0 4 = t_X10_isWithin w 0 4 := w_in32 (lo := 0) (hi := 4)
  unfold Rf_X10_who
  by_cases hd : t_X10_isDay a = 0
  · refine ⟨-2, I, I, by rw [if_pos hd], ?_, g⟩
    unfold Rf_X11_who
    rw [day_eq, if_pos hd]
  rw [if_neg hd]
  by_cases hd2 : t_X10_isDay b = 0
  · refine ⟨-2, I, I, by rw [if_pos hd2], ?_, g⟩
    unfold Rf_X11_who
    rw [day_eq, if_neg hd, day_eq, if_pos hd2]
  rw [if_neg hd2]
  rcases within_cases w 0 4 with hw | ⟨hw, w1, w2⟩
  · refine ⟨-2, I, I, by rw [if_pos hw], ?_, g⟩
    unfold Rf_X11_who
    rw [day_eq, if_neg hd, day_eq, if_neg hd2, ew, if_pos hw]
  rw [hw, if_neg i1ne, x_running fu (by omega) g Keep.rf, Option.bind_some, x_running fu (by omega) g Keep.rf, Option.bind_some]
  have hw5 : w = 0 ∨ w = 1 ∨ w = 2 ∨ w = 3 ∨ w = 4 := by
    have h4 := nx_le (le0 w1) (n := 4) (by decide) w2
    have e := nI_nx (le0 w1)
    generalize nx w = k at h4 e
    rcases (by omega : k = 0 ∨ k = 1 ∨ k = 2 ∨ k = 3 ∨ k = 4) with rfl | rfl | rfl | rfl | rfl
    · exact Or.inl e
    · exact Or.inr (Or.inl e)
    · exact Or.inr (Or.inr (Or.inl e))
    · exact Or.inr (Or.inr (Or.inr (Or.inl e)))
    · exact Or.inr (Or.inr (Or.inr (Or.inr e)))
  obtain ⟨J, k1, k2⟩ := x_who fu hfu g (rs_14 g a) (rs_14 g b) hw5
  obtain ⟨K, k3, k4⟩ := m_who fu hfu g k1 a b hw5
  refine ⟨_, J, K, k2, ?_, g.keep k3⟩
  unfold Rf_X11_who
  rw [day_eq, if_neg hd, day_eq, if_neg hd2, ew, hw, if_neg i1ne]
  exact k4
