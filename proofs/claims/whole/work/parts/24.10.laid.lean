/-! layWay as a whole -/
theorem m_layWay (fu : Nat) (hfu : 2100 < fu) {D : Dn} {I J : II} (g : Inv D I) (hK : Keep I J) {mask t : Nat} (hmask : mask < 2147483648) (e28 : J 38 28 = nI mask) (ht : t < nP I) :
    ∃ J', Rf_X11_layWay fu (mkS D) J (nI t) = some J' ∧ (Keep J J' ∧ J' 38 28 = nI mask) ∧ LxR I mask t J' := by
  have gP := g.2.2.2.2.1
  have hnP : nP I ≤ 6 := gP.1.1.2
  obtain ⟨-, ⟨⟨b0, c0⟩, n0, ⟨b1, c1⟩, n1, ⟨b2, c2⟩, ⟨b3, c3⟩, ⟨b4, c4⟩⟩, -⟩ := gP.2 t ht
  have hM : tM I t ≤ 30 := c3
  have hRr : tR I t ≤ 3 := c4
  have hSt : tS I t ≤ 1439 := c2
  have hFr : tF I t < nS I := n0
  have hnS : nS I ≤ 16 := g.2.1.1.1.2
  have net := net_of g hM mask
  have kt := nx_nI (k := t) (by omega)
  have in6 : ∀ a : Nat, a ≠ 0 → inbL a 6 (nI t) := fun a ha => ⟨ha, nI_nn (by omega), by rw [kt]; omega⟩
  have fr : ∀ J' : II, (∀ b, b ≠ 61 → b ≠ 62 → J' b = J b) → Keep I J' ∧ J' 38 28 = nI mask ∧ rdN J' 56 (nI t) = nI (tF I t) ∧ rdN J' 58 (nI t) = nI (tS I t) ∧ rdN J' 59 (nI t) = nI (tM I t) ∧ rdN J' 60 (nI t) = nI (tR I t) := fun J' h => by
    have k1 : Keep I J' := hK.tr (fun a j z => by rw [h a (fun e => z (by unfold scr; omega)) (fun e => z (by unfold scr; omega))])
    unfold rdN
    rw [kt]
    exact ⟨k1, by rw [h 38 (by decide) (by decide)]; exact e28, by rw [k1 56 _ (by unfold scr; omega)]; exact b0, by rw [k1 58 _ (by unfold scr; omega)]; exact b2, by rw [k1 59 _ (by unfold scr; omega)]; exact b3, by rw [k1 60 _ (by unfold scr; omega)]; exact b4⟩
  -- the rows emptied
  have fill1 := fix2_ex (K := Unit) (F := fun _ => Rl_X11_layWay_2 fu (mkS D) (nI t)) (fun i => nI i) (fun i J' => (∀ b, b ≠ 61 → J' b = J b) ∧ ∀ j, j < i → J' 61 j = nI MM) (fun _ J' => fix2 (Rl_X11_layWay_25 fu (mkS D) (nI t)) fu 0 J') 1984 (fun i J' hi hP => ⟨upI J' 61 i (nI MM), ⟨fun b hb => by rw [upI_row hb]; exact hP.1 b hb, fun j hj => by
      by_cases e : j = i
      · subst e; exact upI_at
      · rw [upI_cell e]; exact hP.2 j (by omega)⟩, fun _ self => by
      have ki := nx_nI (k := i) (by omega)
      show Rl_X11_layWay_2 fu (mkS D) (nI t) self (nI i) J' = _
      unfold Rl_X11_layWay_2 wrN
      rw [if_neg (by rw [show (1984 : Int32) = nI 1984 from rfl, nI_le_iff (by decide) (by omega)]; omega), gd_pos ⟨by decide, nI_nn (by omega), by rw [ki]; exact hi⟩, ki, nI_p1]
      rfl⟩) (fun J' hP κ self => by
      show Rl_X11_layWay_2 fu (mkS D) (nI t) self (nI 1984) J' = _
      unfold Rl_X11_layWay_2
      rw [if_pos (show (1984 : Int32) ≤ nI 1984 by decide)]) 1984 0 J (by omega) ⟨fun _ _ => rfl, fun j hj => absurd hj (Nat.not_lt_zero _)⟩ fu (by omega)
  obtain ⟨J1, ⟨p1, p2⟩, run1⟩ := fill1
  let out2 : II → Option II := fun J' => (Rf_X11_walkFrom fu (mkS D) (upI J' 62 (tF I t) (nI (tS I t))) 0 (nI (tM I t))).bind fun q40 => fix2 (Rl_X11_layWay_76 fu (mkS D) (nI t)) fu 0 q40
  have fill2 := fix2_ex (K := Unit) (F := fun _ => Rl_X11_layWay_25 fu (mkS D) (nI t)) (fun i => nI i) (fun i J' => (∀ b, b ≠ 62 → J' b = J1 b) ∧ ∀ j, j < i → J' 62 j = nI MM) (fun _ J' => out2 J') 496 (fun i J' hi hP => ⟨upI J' 62 i (nI MM), ⟨fun b hb => by rw [upI_row hb]; exact hP.1 b hb, fun j hj => by
      by_cases e : j = i
      · subst e; exact upI_at
      · rw [upI_cell e]; exact hP.2 j (by omega)⟩, fun _ self => by
      have ki := nx_nI (k := i) (by omega)
      show Rl_X11_layWay_25 fu (mkS D) (nI t) self (nI i) J' = _
      unfold Rl_X11_layWay_25 wrN
      rw [if_neg (by rw [show (496 : Int32) = nI 496 from rfl, nI_le_iff (by decide) (by omega)]; omega), gd_pos ⟨by decide, nI_nn (by omega), by rw [ki]; exact hi⟩, ki, nI_p1]
      rfl⟩) (fun J' hP κ self => by
      have f1 := fr J' (fun b hb hb2 => (hP.1 b hb2).trans (p1 b hb))
      have f2 := fr (upI J' 62 (tF I t) (nI (tS I t))) (fun b hb hb2 => by rw [upI_row hb2]; exact (hP.1 b hb2).trans (p1 b hb))
      have kF := nx_nI (k := tF I t) (by omega)
      show Rl_X11_layWay_25 fu (mkS D) (nI t) self (nI 496) J' = _
      unfold Rl_X11_layWay_25
      rw [if_pos (show (496 : Int32) ≤ nI 496 by decide), gd_pos (in6 _ (by decide)), gd_pos (in6 _ (by decide)), f1.2.2.1, f1.2.2.2.1, gd_pos ⟨by decide, nI_nn (by omega), by rw [kF]; omega⟩]
      unfold wrN
      rw [kF]
      simp only [lt]
      rw [gd_pos (in6 _ (by decide)), f2.2.2.2.2.1]) 496 0 J1 (by omega) ⟨fun _ _ => rfl, fun j hj => absurd hj (Nat.not_lt_zero _)⟩ fu (by omega)
  obtain ⟨J2, ⟨p3, p4⟩, run2⟩ := fill2
  obtain ⟨J3, e3⟩ : ∃ J3, upI J2 62 (tF I t) (nI (tS I t)) = J3 := ⟨_, rfl⟩
  have h3 : ∀ b, b ≠ 61 → b ≠ 62 → J3 b = J b := fun b hb hb2 => by rw [← e3, upI_row hb2, p3 b hb2, p1 b hb]
  have h3a : ∀ j, j < 1984 → J3 61 j = nI MM := fun j hj => by rw [← e3, upI_row (by decide), p3 61 (by decide)]; exact p2 j hj
  have h3b : ∀ j, j < 496 → J3 62 j = nI (if j = tF I t then tS I t else MM) := fun j hj => by
    rw [← e3]
    by_cases q : j = tF I t
    · rw [if_pos q, q, upI_at]
    · rw [if_neg q, upI_cell q]; exact p4 j hj
  have r61 : ∀ j, j < 1984 → rw_ J3 61 j = MM := fun j hj => by unfold rw_; rw [h3a j hj]; rfl
  have r62 : ∀ j, j < 496 → rw_ J3 62 j = if j = tF I t then tS I t else MM := fun j hj => by
    unfold rw_
    rw [h3b j hj]
    split
    · exact nx_nI (by omega)
    · rfl
  have R61 : Row 1984 MM J3 61 := fun j hj => by rw [r61 j hj]; exact ⟨h3a j hj, Nat.le_refl _⟩
  have R62 : Row 496 MM J3 62 := fun j hj => by
    rw [r62 j hj]
    refine ⟨h3b j hj, ?_⟩
    split
    · simp only [MM]; omega
    · exact Nat.le_refl _
  have ta0 : TA I mask t 0 (rw_ J3 62) := by
    intro s w hs hw
    rw [r62 _ (by omega)]
    by_cases q : 16 * w + s = tF I t
    · have q' : w = 0 ∧ s = tF I t := by omega
      rw [if_pos q]
      refine ⟨?_, Or.inr ⟨by omega, q'.2, q'.1, rfl⟩⟩
      rintro u ⟨-, -, z⟩
      omega
    · rw [if_neg q]
      refine ⟨?_, Or.inl rfl⟩
      rintro u ⟨z1, z2, z3⟩
      exact absurd (show 16 * w + s = tF I t by omega) q
  have f3 := fr J3 h3
  obtain ⟨J4, w1, w2⟩ := m_walkFrom fu (by omega) g f3.1 (r := 0) (by omega) hM R61 R62 (fun s w hs hw => (ta0 s w hs hw).2.imp id (fun z => z.1))
  obtain ⟨tb0, tbo⟩ := tab_walk g hM hSt (by omega) ta0 (fun j z1 z2 => r61 j (by omega)) w2
  -- ride by ride
  let Q : Nat → II → Prop := fun r J' => (∀ b, b ≠ 61 → b ≠ 62 → J' b = J b) ∧ Row 1984 MM J' 61 ∧ (∀ r', r' ≤ r → TB I mask t r' (rw_ J' 61)) ∧ ∀ j, 496 * (r + 1) ≤ j → j < 1984 → rw_ J' 61 j = MM
  have ride := fix2_ex (K := Unit) (F := fun _ => Rl_X11_layWay_76 fu (mkS D) (nI t)) (fun i => nI i) Q (fun _ J' => fix2 (Rl_X11_layWay_124 fu (mkS D) (nI t)) fu 0 (upI J' 38 31 1000000)) (tR I t) (fun r J' hr hQ => ?_) (fun J' hQ κ self => ?_) (tR I t) 0 J4 (by omega) ⟨fun b hb hb2 => (w2.1 b hb).trans (h3 b hb hb2), w2.2.1, fun r' hr' => by
      have : r' = 0 := by omega
      subst this
      exact tb0, fun j z1 z2 => by rw [tbo j z2 (by omega)]; exact r61 j z2⟩ fu (by omega)
  · obtain ⟨J5, ⟨q1, q2, q3, q4⟩, hride⟩ := ride
    have f5 := fr J5 q1
    have kJ : Keep I (upI J5 38 31 1000000) := f5.1.tr (fun a j z => by
      unfold upI
      rw [if_neg (fun e => z (by unfold scr; omega))])
    have e61 : (upI J5 38 31 1000000) 61 = J5 61 := upI_row (by decide)
    have r61' : rw_ (upI J5 38 31 1000000) 61 = rw_ J5 61 := by unfold rw_; rw [e61]
    obtain ⟨J6, m1, ⟨m2, m28⟩, m3⟩ := m_best fu (by omega) g kJ (mask := mask) ht (fun j hj => by
      have := q2 j hj
      rw [r61', e61]
      exact this) (fun r hr => by rw [r61']; exact q3 r hr) upI_at
    refine ⟨J6, ?_, ⟨?_, ?_⟩, m3⟩
    · refine (run1 ()).trans ((run2 ()).trans ?_)
      show (Rf_X11_walkFrom fu (mkS D) (upI J2 62 (tF I t) (nI (tS I t))) 0 (nI (tM I t))).bind _ = _
      rw [e3, show (0 : Int32) = nI 0 from rfl, w1, Option.bind_some]
      exact (hride ()).trans m1
    · refine Keep.tr (fun a j z => ?_) m2
      unfold upI
      rw [if_neg (fun e => z (by unfold scr; omega)), q1 a (fun e => z (by unfold scr; omega)) (fun e => z (by unfold scr; omega))]
    · rw [m28, upI_cell (by decide), q1 38 (by decide) (by decide)]; exact e28
  · obtain ⟨q1, q2, q3, q4⟩ := hQ
    have f5 := fr J' q1
    obtain ⟨J5, u1, u2, u3, u4, u5⟩ := m_rideFrom fu (by omega) g f5.1 (r := r) (by omega) hM hmask f5.2.1 q2 (fun s w hs hw => ((q3 r (Nat.le_refl _)) s w hs hw).2.imp id (fun z => by omega))
    have q1' : ∀ b, b ≠ 61 → b ≠ 62 → J5 b = J b := fun b hb hb2 => (u2 b hb2).trans (q1 b hb hb2)
    have f6 := fr J5 q1'
    have e61 : J5 61 = J' 61 := u2 61 (by decide)
    have r61' : rw_ J5 61 = rw_ J' 61 := by unfold rw_; rw [e61]
    have R61' : Row 1984 MM J5 61 := fun j hj => by
      have := q2 j hj
      rw [r61', e61]
      exact this
    have ta : TA I mask t (r + 1) (rw_ J5 62) := by
      intro s w hs hw
      constructor
      · rintro u ⟨s1, v, a1, a2, a3⟩
        have h1 := ((q3 r (Nat.le_refl _)) s1 w a1 hw).1 v a2
        obtain ⟨u', y1, y2⟩ := net.2.2.2.2 _ _ _ _ _ a3 h1
        have hv1700 := (net.2.2.2.1 _ _ _ _ a3)
        have := u4 w s1 s u' hw a1 hs (by simp only [MM]; omega) y2
        omega
      · rcases u5 w s hw hs with z | ⟨s1, z1, z2, z3⟩
        · exact Or.inl z
        · refine Or.inr ⟨(net.2.2.2.1 _ _ _ _ z3).2.1, s1, _, z1, ?_, z3⟩
          rcases ((q3 r (Nat.le_refl _)) s1 w z1 hw).2 with y | ⟨y1, y2⟩
          · omega
          · exact y2
    obtain ⟨J6, v1, v2⟩ := m_walkFrom fu (by omega) g f6.1 (r := r + 1) (by omega) hM R61' u3 (fun s w hs hw => (ta s w hs hw).2.imp id (fun z => z.1))
    obtain ⟨tb1, tbo1⟩ := tab_walk g hM hSt (by omega) ta (fun j z1 z2 => by rw [r61']; exact q4 j z1 (by omega)) v2
    refine ⟨J6, ⟨fun b hb hb2 => (v2.1 b hb).trans (q1' b hb hb2), v2.2.1, fun r' hr' => ?_, fun j z1 z2 => ?_⟩, fun _ self => ?_⟩
    · by_cases e : r' = r + 1
      · subst e; exact tb1
      · intro o w ho hw
        have hj : 496 * r' + 16 * w + o < 496 * (r' + 1) := by omega
        have hre := tbo1 (496 * r' + 16 * w + o) (by omega) (by omega)
        rw [hre, r61']
        exact q3 r' (by omega) o w ho hw
    · rw [tbo1 j z2 (by omega), r61']; exact q4 j (by omega) z2
    · show Rl_X11_layWay_76 fu (mkS D) (nI t) self (nI r) J' = _
      unfold Rl_X11_layWay_76
      rw [gd_pos (in6 _ (by decide)), f5.2.2.2.2.2, if_neg (by rw [nI_le_iff (by omega) (by omega)]; omega), gd_pos (in6 _ (by decide)), f5.2.2.2.2.1, u1, Option.bind_some, f6.2.2.2.2.1, nI_p1, v1, Option.bind_some]
  · have f5 := fr J' hQ.1
    show Rl_X11_layWay_76 fu (mkS D) (nI t) self (nI (tR I t)) J' = _
    unfold Rl_X11_layWay_76
    rw [gd_pos (in6 _ (by decide)), f5.2.2.2.2.2, if_pos (Int32.le_refl _)]
theorem Lx.uq {most d : Nat} {Br : Nat → Nat → Nat → Nat → Prop} {r b1 r1 w1 b2 r2 w2 : Nat} (h1 : Lx most d Br r b1 r1 w1) (h2 : Lx most d Br r b2 r2 w2) : b1 = b2 ∧ (b1 < NB → r1 = r2 ∧ w1 = w2) := by
  rcases h1 with ⟨x1, x2⟩ | ⟨x1, x2, x3, x4, x5⟩
  · rcases h2 with ⟨y1, y2⟩ | ⟨y1, y2, y3, y4, y5⟩
    · exact ⟨by omega, fun z => by omega⟩
    · exact absurd y4 (x2 _ _ _ y2 y3)
  · rcases h2 with ⟨y1, y2⟩ | ⟨y1, y2, y3, y4, y5⟩
    · exact absurd x4 (y2 _ _ _ x2 x3)
    · obtain ⟨a1, a2⟩ := x5 _ _ _ y2 y3 y4
      obtain ⟨c1, c2⟩ := y5 _ _ _ x2 x3 x4
      have e : b1 = b2 := by omega
      have p1 := a2 e.symm
      have p2 := c2 e
      exact ⟨e, fun _ => by omega⟩
