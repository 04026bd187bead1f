/-! the class's search -/
theorem x_rideOn (fu : Nat) (hfu : 600 < fu) {D : Dn} {I J : II} (g : Inv D I) (hK : Keep I J) {mask m most : Nat} (hmask : mask < 2147483648) (hm : m < 2147483648) (hmost : most ≤ 30) (hbit : ∀ w, m.testBit w = true ↔ w ≤ most ∧ ∃ s, s < nS I ∧ tb J 10 s w ≠ NB) (h10 : Row 496 NB J 10) (hR : ∀ s w, s < nS I → w ≤ most → tb J 10 s w = NB ∨ tb J 10 s w ≤ 1800) :
    ∃ J', Rf_X9_rideOn fu (mkS D) J (nI mask) (nI m) = some J' ∧ (∀ b, b ≠ 9 → J' b = J b) ∧ Row 496 NB J' 9 ∧ Rde (nS I) most (RR I mask) (tb J 10) (tb J' 9) := by
  have hnL : nL I ≤ 14 := g.2.2.1.1.1.2
  have eL : I 1 5 = nI (nL I) := g.2.2.1.1.2.trans g.2.2.1.1.1.1
  have hnS : nS I ≤ 16 := g.2.1.1.1.2
  obtain ⟨G, eG⟩ : ∃ G : II, (fun b k => if b = 9 ∧ k < 496 then (1073741824 : Int32) else J b k) = G := ⟨_, rfl⟩
  have g1 : ∀ b, b ≠ 9 → G b = J b := fun b hb => by
    funext k
    rw [← eG]
    exact if_neg (fun z => hb z.1)
  have g2 : ∀ j, j < 496 → G 9 j = nI NB := fun j hj => by rw [← eG]; exact if_pos ⟨rfl, hj⟩
  have g2' : ∀ j, j < 496 → rw_ G 9 j = NB := fun j hj => by unfold rw_; rw [g2 j hj]; rfl
  have g3 : Row 496 NB G 9 := fun j hj => by
    rw [g2' j hj]
    exact ⟨g2 j hj, Nat.le_refl _⟩
  have hKG : Keep I G := hK.tr (fun a j z => by rw [g1 a (fun e => z (by unfold scr; omega))])
  have main := fix2_ex (K := Unit) (F := fun _ => Rl_X9_rideOn_11 fu (mkS D) (nI mask) (nI m)) (fun i => nI i) (fun i J' => Rl1 496 NB 9 (fun j u => ∃ l, l < i ∧ mask.testBit l = true ∧ ∃ w, w < 31 ∧ m.testBit w = true ∧ ∃ p, p < lZ I l ∧ rb I l w (tb J 10) p ≠ NB ∧ j = 31 * lS I l p + w ∧ u = rb I l w (tb J 10) p + lO I l p) G J') (fun _ J' => some J') (nL I) (fun l J' hl hP => ?_) (fun J' hP κ self => ?_) (nL I) 0 G (by omega) (Rl1.rf g3 (fun j u ⟨l, z, _⟩ => absurd z (Nat.not_lt_zero _))) fu (by omega)
  · obtain ⟨J', p, hrun⟩ := main
    refine ⟨J', ?_, fun b hb => (p.1 b hb).trans (g1 b hb), p.2.1, ?_, ?_⟩
    · unfold Rf_X9_rideOn
      rw [x_fill fu (a := 9) (n := 496) _ rfl (by decide) (by omega), Option.bind_some, eG]
      exact hrun ()
    · rintro s w s' t hs hs' hw hlt ⟨l, k, q, b1, b2, b3, b4, b5, b6, b7, b8⟩
      have r := (g.2.2.1.2.1 l b1).1
      have hne : tb J 10 s w ≠ NB := by omega
      have hsb : sbv I l k (tb J 10 (lS I l k) w) = lF I l + bidx I l k (tb J 10 s w) * lE I l := by
        unfold sbv
        rw [b5, if_pos b7]
      have hle := rb_le I l w (tb J 10) k (by rw [b5]; exact hne) q b3
      have hs1 := sob_le r b7
      have := p.2.2.2.1 (31 * s' + w) (rb I l w (tb J 10) q + lO I l q) (by omega) ⟨l, b1, b2, w, by omega, (hbit w).mpr ⟨hw, s, hs, hne⟩, q, b4, by simp only [NB] at *; omega, by rw [b6], rfl⟩
      show rw_ J' 9 (31 * s' + w) ≤ t
      omega
    · intro s' w hs' hw
      rcases p.2.2.2.2 (31 * s' + w) (by omega) with e | ⟨l, b1, b2, w', b3, b4, q, b5, b6, b7, b8⟩
      · exact Or.inl (e.trans (g2' _ (by omega)))
      · right
        have r := (g.2.2.1.2.1 l b1).1
        have hS1 := (r.2.1 q b5).2.1
        have : lS I l q = s' ∧ w' = w := by omega
        obtain ⟨e1, rfl⟩ := this
        rcases rb_ex I l w' (tb J 10) q with z | ⟨k, z1, z2, z3⟩
        · exact absurd z b6
        · have hkS := (r.2.1 k (by omega)).2.1
          have hv := (hR (lS I l k) w' hkS hw).resolve_left z2
          rcases sbv_cases (k := k) (u := tb J 10 (lS I l k) w') r with y | ⟨y1, y2, y3⟩
          · exact absurd (z3.symm.trans y) b6
          · exact ⟨lS I l k, hkS, by simp only [NB]; omega, l, k, q, b1, b2, z1, b5, rfl, e1, y1, by show rw_ J' 9 (31 * s' + w') = _; omega⟩
  · have hKJ : Keep I J' := hKG.tr (fun a j z => by rw [hP.1 a (fun e => z (by unfold scr; omega))])
    have e5 : J' 1 5 = nI (nL I) := by rw [hKJ 1 5 (by unfold scr; omega)]; exact eL
    have hlm := has_at (s := l) hmask (by omega)
    by_cases q : mask.testBit l = true
    · rw [if_pos q] at hlm
      have inner := fix2_ex (K := Int32 → II → Option II) (F := fun κ => Rl_X9_rideOn_33 fu (mkS D) κ (nI mask) (nI m) (nI l)) (fun i => nI i) (fun i J2 => Rl1 496 NB 9 (fun j u => ∃ w, w < i ∧ m.testBit w = true ∧ ∃ p, p < lZ I l ∧ rb I l w (tb J 10) p ≠ NB ∧ j = 31 * lS I l p + w ∧ u = rb I l w (tb J 10) p + lO I l p) J' J2) (fun κ J2 => κ (nI (l + 1)) J2) 31 (fun w J2 hw hQ => ?_) (fun J2 hQ κ self => ?_) 31 0 J' (by omega) (Rl1.rf hP.2.1 (fun j u ⟨w, z, _⟩ => absurd z (Nat.not_lt_zero _))) fu (by omega)
      · obtain ⟨J2, q2, hrun⟩ := inner
        refine ⟨J2, hP.tr q2 (fun j u => ?_), fun _ self => ?_⟩
        · constructor
          · rintro ⟨l', z1, z2, z3⟩
            by_cases e : l' = l
            · subst e; exact Or.inr z3
            · exact Or.inl ⟨l', by omega, z2, z3⟩
          · rintro (⟨l', z1, z2⟩ | z)
            · exact ⟨l', by omega, z2⟩
            · exact ⟨l, by omega, q, z⟩
        · show Rl_X9_rideOn_11 fu (mkS D) (nI mask) (nI m) self (nI l) J' = _
          unfold Rl_X9_rideOn_11
          rw [e5, if_neg (by rw [nI_le_iff (by omega) (by omega)]; omega), hlm, if_neg i1ne]
          exact hrun self
      · have hwm := has_at (s := w) hm (by omega)
        have hK2 : Keep I J2 := hKJ.tr (fun a j z => by rw [hQ.1 a (fun e => z (by unfold scr; omega))])
        have hrow : J2 10 = J 10 := by rw [hQ.1 10 (by decide), hP.1 10 (by decide), g1 10 (by decide)]
        have hc31 : ¬ (31 : Int32) ≤ nI w := by rw [show (31 : Int32) = nI 31 from rfl, nI_le_iff (by decide) (by omega)]; omega
        by_cases qw : m.testBit w = true
        · rw [if_pos qw] at hwm
          have htb : tb J2 10 = tb J 10 := by
            funext a b
            unfold tb rw_
            rw [hrow]
          have hw0 := ((hbit w).mp qw).1
          obtain ⟨J3, r1, r2⟩ := x_along fu (by omega) g hK2 (w := w) hl (by omega) hQ.2.1 (fun j hj => by
            have := h10 j hj
            unfold rw_ at this ⊢
            rw [hrow]
            exact this) (fun s hs => by rw [htb]; exact hR s w hs hw0)
          rw [htb] at r2
          refine ⟨J3, hQ.tr r2 (fun j u => ?_), fun κ self => ?_⟩
          · constructor
            · rintro ⟨w', z1, z2, z3⟩
              by_cases e : w' = w
              · subst e; exact Or.inr z3
              · exact Or.inl ⟨w', by omega, z2, z3⟩
            · rintro (⟨w', z1, z2⟩ | z)
              · exact ⟨w', by omega, z2⟩
              · exact ⟨w, by omega, qw, z⟩
          · show Rl_X9_rideOn_33 fu (mkS D) κ (nI mask) (nI m) (nI l) self (nI w) J2 = _
            unfold Rl_X9_rideOn_33 Rj_X9_rideOn_64
            rw [if_neg hc31, hwm, if_neg i1ne, gd_pos ⟨by decide, nI_nn (by omega), by rw [nx_nI (by omega)]; omega⟩, nx_nI (by omega), show (mkS D).1 5 l = D.1 5 l from rfl, r1, Option.bind_some, nI_p1]
        · rw [if_neg qw] at hwm
          refine ⟨J2, hQ.im (fun j u hj => ?_), fun κ self => ?_⟩
          · constructor
            · rintro ⟨w', z1, z2⟩; exact ⟨w', by omega, z2⟩
            · rintro ⟨w', z1, z2, z3⟩
              by_cases e : w' = w
              · subst e; exact absurd z2 qw
              · exact ⟨w', by omega, z2, z3⟩
          · show Rl_X9_rideOn_33 fu (mkS D) κ (nI mask) (nI m) (nI l) self (nI w) J2 = _
            unfold Rl_X9_rideOn_33 Rj_X9_rideOn_64
            rw [if_neg hc31, hwm, if_pos rfl, nI_p1]
      · show Rl_X9_rideOn_33 fu (mkS D) κ (nI mask) (nI m) (nI l) self (nI 31) J2 = _
        unfold Rl_X9_rideOn_33 Rj_X9_rideOn_70
        rw [if_pos (show (31 : Int32) ≤ nI 31 by decide), nI_p1]
    · rw [if_neg q] at hlm
      refine ⟨J', hP.im (fun j u hj => ?_), fun _ self => ?_⟩
      · constructor
        · rintro ⟨l', z1, z2⟩; exact ⟨l', by omega, z2⟩
        · rintro ⟨l', z1, z2, z3⟩
          by_cases e : l' = l
          · subst e; exact absurd z2 q
          · exact ⟨l', by omega, z2, z3⟩
      · show Rl_X9_rideOn_11 fu (mkS D) (nI mask) (nI m) self (nI l) J' = _
        unfold Rl_X9_rideOn_11 Rj_X9_rideOn_70
        rw [e5, if_neg (by rw [nI_le_iff (by omega) (by omega)]; omega), hlm, if_pos rfl, nI_p1]
  · have hKJ : Keep I J' := hKG.tr (fun a j z => by rw [hP.1 a (fun e => z (by unfold scr; omega))])
    have e5 : J' 1 5 = nI (nL I) := by rw [hKJ 1 5 (by unfold scr; omega)]; exact eL
    show Rl_X9_rideOn_11 fu (mkS D) (nI mask) (nI m) self (nI (nL I)) J' = _
    unfold Rl_X9_rideOn_11
    rw [e5, if_pos (Int32.le_refl _)]
/-- a trip's numbers -/
def tF (I : II) (t : Nat) : Nat := nx (I 56 t)
def tT (I : II) (t : Nat) : Nat := nx (I 57 t)
def tS (I : II) (t : Nat) : Nat := nx (I 58 t)
def tM (I : II) (t : Nat) : Nat := nx (I 59 t)
def tR (I : II) (t : Nat) : Nat := nx (I 60 t)
abbrev BrI (I : II) (mask t : Nat) : Nat → Nat → Nat → Nat → Prop := Brr (nS I) (tM I t) (far I) (RR I mask) (tF I t) (tS I t)
theorem x_search (fu : Nat) (hfu : 600 < fu) {D : Dn} {I J : II} (g : Inv D I) (hK : Keep I J) {mask t : Nat} (hmask : mask < 2147483648) (ht : t < nP I) :
    ∃ J' bb rd wk, Rf_X9_search fu (mkS D) J (D.1 7 t) (nI mask) = some J' ∧ (∀ b, ¬ (8 ≤ b ∧ b ≤ 11) → J' b = J b) ∧ J' 8 4 = nI bb ∧ (bb < NB → J' 8 5 = nI rd ∧ J' 8 6 = nI wk) ∧ Lx (tM I t) (tT I t) (BrI I mask t) (tR I t + 1) bb rd wk := by
  have gP := g.2.2.2.2.1
  obtain ⟨⟨a1, a2, a3⟩, ⟨⟨b0, c0⟩, n0, ⟨b1, c1⟩, n1, ⟨b2, c2⟩, ⟨b3, c3⟩, ⟨b4, c4⟩⟩, d0, d1, d2, d3, d4⟩ := gP.2 t ht
  have hnS : nS I ≤ 16 := g.2.1.1.1.2
  obtain ⟨p, ep⟩ : ∃ p, pa D t = p := ⟨_, rfl⟩
  have hp : 77 ≤ p := by unfold pa at ep; omega
  have e7 : D.1 7 t = p + 1 := by unfold pa at ep; omega
  rw [ep] at d0 d1 d2 d3 d4
  have hM : tM I t ≤ 30 := c3
  have hRr : tR I t ≤ 3 := c4
  have hSt : tS I t ≤ 1439 := c2
  have hFr : tF I t < nS I := n0
  have hTo : tT I t < nS I := n1
  have gS := g.2.1
  have net := net_of g hM mask
  -- what holds of a heap in which only rows 8 to 11 differ
  have fr : ∀ J' : II, (∀ b, ¬ (8 ≤ b ∧ b ≤ 11) → J' b = J b) → Keep I J' ∧ CH (nS I) (far I) J' ∧ J' p 0 = nI (tF I t) ∧ J' p 1 = nI (tT I t) ∧ J' p 2 = nI (tS I t) ∧ J' p 3 = nI (tM I t) ∧ J' p 4 = nI (tR I t) := by
    intro J' h
    have k1 : Keep I J' := hK.tr (fun a j z => by rw [h a (fun e => z (by unfold scr; omega))])
    have k2 : ∀ j, J' p j = I p j := fun j => k1 p j (by unfold scr; omega)
    refine ⟨k1, ⟨⟨by rw [k1 1 3 (by unfold scr; omega)]; exact gS.1.2.trans gS.1.1.1, hnS⟩, fun a b ha hb => ⟨by rw [k1 4 _ (by unfold scr; omega)]; exact gS.2.2 a b ha hb, far_le gS ha hb⟩⟩, ?_, ?_, ?_, ?_, ?_⟩
    · rw [k2, d0]; exact b0
    · rw [k2, d1]; exact b1
    · rw [k2, d2]; exact b2
    · rw [k2, d3]; exact b3
    · rw [k2, d4]; exact b4
  -- the beginning
  obtain ⟨H, eH⟩ : ∃ H : II, (fun b k => if b = 9 ∧ k < 496 then (1073741824 : Int32) else if b = 11 ∧ k < 496 then (1073741824 : Int32) else upI J 8 4 1073741824 b k) = H := ⟨_, rfl⟩
  obtain ⟨G, eG⟩ : ∃ G : II, upI H 9 (31 * tF I t) (nI (tS I t)) = G := ⟨_, rfl⟩
  have G1 : ∀ b, ¬ (8 ≤ b ∧ b ≤ 11) → G b = J b := by
    intro b hb
    funext k
    rw [← eG, upI_row (by omega), ← eH]
    show (if b = 9 ∧ k < 496 then _ else if b = 11 ∧ k < 496 then _ else upI J 8 4 1073741824 b k) = _
    rw [if_neg (by omega), if_neg (by omega), upI_row (by omega)]
  have G8 : G 8 4 = nI NB := by
    rw [← eG, upI_row (by decide), ← eH]
    show (if 8 = 9 ∧ 4 < 496 then _ else if 8 = 11 ∧ 4 < 496 then _ else upI J 8 4 1073741824 8 4) = _
    rw [if_neg (by omega), if_neg (by omega), upI_at]
    rfl
  have G11 : ∀ j, j < 496 → G 11 j = nI NB := by
    intro j hj
    rw [← eG, upI_row (by decide), ← eH]
    show (if 11 = 9 ∧ j < 496 then _ else if 11 = 11 ∧ j < 496 then (1073741824 : Int32) else _) = _
    rw [if_neg (by omega), if_pos ⟨rfl, hj⟩]
    rfl
  have G9 : ∀ j, j < 496 → G 9 j = nI (if j = 31 * tF I t then tS I t else NB) := by
    intro j hj
    rw [← eG]
    by_cases q : j = 31 * tF I t
    · rw [if_pos q, q, upI_at]
    · rw [if_neg q, upI_cell q, ← eH]
      show (if 9 = 9 ∧ j < 496 then (1073741824 : Int32) else _) = _
      rw [if_pos ⟨rfl, hj⟩]
      rfl
  have r11 : ∀ j, j < 496 → rw_ G 11 j = NB := fun j hj => by unfold rw_; rw [G11 j hj]; rfl
  have r9 : ∀ j, j < 496 → rw_ G 9 j = if j = 31 * tF I t then tS I t else NB := fun j hj => by
    unfold rw_
    rw [G9 j hj]
    split
    · exact nx_nI (by omega)
    · rfl
  have R11 : Row 496 NB G 11 := fun j hj => by rw [r11 j hj]; exact ⟨G11 j hj, Nat.le_refl _⟩
  have R9 : Row 496 NB G 9 := fun j hj => by
    rw [r9 j hj]
    refine ⟨G9 j hj, ?_⟩
    split
    · simp only [NB]; omega
    · exact Nat.le_refl _
  have hstart : Rf_X9_search fu (mkS D) J (D.1 7 t) (nI mask) = fix2 (Rl_X9_search_42 fu (mkS D) (p + 1) (nI mask)) fu 0 G := by
    have f0 := (fr H (fun b hb => by
      funext k
      rw [← eH]
      show (if b = 9 ∧ k < 496 then _ else if b = 11 ∧ k < 496 then _ else upI J 8 4 1073741824 b k) = _
      rw [if_neg (by omega), if_neg (by omega), upI_row (by omega)])).2.2
    unfold Rf_X9_search
    simp only [lt]
    rw [e7, x_fill fu (a := 11) (n := 496) _ rfl (by decide) (by omega), Option.bind_some, x_fill fu (a := 9) (n := 496) _ rfl (by decide) (by omega), Option.bind_some, eH, gd_pos (Nat.succ_ne_zero p), Nat.add_sub_cancel, f0.1, f0.2.2.1, ix31b, gd_pos ⟨by decide, nI_nn (by omega), by rw [nx_nI (by omega)]; omega⟩]
    unfold wrN
    rw [nx_nI (by omega), eG]
  rw [hstart]
  let P : Nat → II → Prop := fun r J' => (∀ b, ¬ (8 ≤ b ∧ b ≤ 11) → J' b = J b) ∧ ∃ bb rd wk, J' 8 4 = nI bb ∧ bb ≤ NB ∧ (bb < NB → J' 8 5 = nI rd ∧ J' 8 6 = nI wk) ∧ (r = tR I t + 1 → Lx (tM I t) (tT I t) (BrI I mask t) (tR I t + 1) bb rd wk) ∧ (r ≤ tR I t → Row 496 NB J' 9 ∧ Row 496 NB J' 11 ∧ RI (nS I) (tM I t) (far I) (RR I mask) (tF I t) (tS I t) (tT I t) r (tb J' 9) (tb J' 11) bb rd wk)
  have main := fix2_ex (K := Unit) (F := fun _ => Rl_X9_search_42 fu (mkS D) (p + 1) (nI mask)) (fun i => nI i) P (fun _ J' => some J') (tR I t + 1) (fun r J' hr hP => ?_) (fun J' hP κ self => ?_) (tR I t + 1) 0 G (by omega) ⟨G1, NB, 0, 0, G8, Nat.le_refl _, fun z => absurd z (Nat.lt_irrefl _), fun z => absurd z (by omega), fun _ => ⟨R9, R11, ?_⟩⟩ fu (by omega)
  · obtain ⟨J', ⟨q1, bb, rd, wk, q2, q3, q4, q5, -⟩, hrun⟩ := main
    exact ⟨J', bb, rd, wk, hrun (), q1, q2, q4, q5 rfl⟩
  · obtain ⟨q1, bb, rd, wk, q2, q3, q4, -, q6⟩ := hP
    obtain ⟨w9, w11, ri⟩ := q6 (by omega)
    obtain ⟨kJ, cJ, t0, t1, t2, t3, t4⟩ := fr J' q1
    -- thin
    obtain ⟨J1, x1, x2, x3, x4⟩ := x_thin fu (by omega) (D := D) (a := 9) (most := tM I t) (Or.inl rfl) cJ.1.1 hnS hM q2 q3 w9 w11
    have th1 : Thn (nS I) (tM I t) (tb J' 11) bb (tb J' 9) (tb J1 9) := tnv_thn q3 x4
    have f1 : ∀ b, ¬ (8 ≤ b ∧ b ≤ 11) → J1 b = J b := fun b hb => by rw [x2 b (by omega)]; exact q1 b hb
    obtain ⟨kJ1, cJ1, -, -, -, t31, -⟩ := fr J1 f1
    -- walk
    obtain ⟨J2, y1, y2, y3, y4⟩ := x_walkOn fu (by omega) (D := D) (most := tM I t) cJ1 hM net.2.1 x3 (fun s w hs hw => by
      rcases th1.1 s w hs hw with z | ⟨z1, z2, z3, z4⟩
      · exact Or.inl z
      · rcases ri.1 s w hs hw with y | ⟨y1, -⟩
        · exact Or.inl (z1.trans y)
        · exact Or.inr (by omega))
    have f2 : ∀ b, ¬ (8 ≤ b ∧ b ≤ 11) → J2 b = J b := fun b hb => by rw [y2 b (by omega)]; exact f1 b hb
    obtain ⟨kJ2, cJ2, -, -, -, t32, -⟩ := fr J2 f2
    have s11 : J2 11 = J' 11 := by rw [y2 11 (by decide), x2 11 (by decide)]
    have s8 : J2 8 = J' 8 := by rw [y2 8 (by decide), x2 8 (by decide)]
    have w112 : Row 496 NB J2 11 := fun j hj => by
      have := w11 j hj
      unfold rw_ at this ⊢
      rw [s11]
      exact this
    -- thin
    obtain ⟨J3, z1, z2, z3, z4⟩ := x_thin fu (by omega) (D := D) (J := J2) (a := 10) (most := tM I t) (bb := bb) (Or.inr rfl) cJ2.1.1 hnS hM (by rw [s8]; exact q2) q3 y3 w112
    have e11 : tb J2 11 = tb J' 11 := by funext a b; unfold tb rw_; rw [s11]
    have th3 : Thn (nS I) (tM I t) (tb J' 11) bb (tb J2 10) (tb J3 10) := tnv_thn q3 (fun s w hs hw => by rw [z4 s w hs hw, e11])
    have f3 : ∀ b, ¬ (8 ≤ b ∧ b ≤ 11) → J3 b = J b := fun b hb => by rw [z2 b (by omega)]; exact f2 b hb
    obtain ⟨kJ3, cJ3, -, t13, -, t33, -⟩ := fr J3 f3
    have s83 : J3 8 = J' 8 := by rw [z2 8 (by decide), s8]
    -- note
    obtain ⟨J4, u1, u2, u3⟩ := x_note fu (by omega) (S := mkS D) (r := r) hp hnS hM hTo t33 t13 (by rw [s83]; exact q2) q3 z3
    have f4 : ∀ b, ¬ (8 ≤ b ∧ b ≤ 11) → J4 b = J b := fun b hb => by rw [u2 b (by omega)]; exact f3 b hb
    obtain ⟨kJ4, cJ4, -, -, -, t34, t44⟩ := fr J4 f4
    obtain ⟨bb', rd', wk', n1, n2, n3, n4⟩ : ∃ bb' rd' wk', J4 8 4 = nI bb' ∧ bb' ≤ NB ∧ (bb' < NB → J4 8 5 = nI rd' ∧ J4 8 6 = nI wk') ∧ Nte (tM I t) (tT I t) r (tb J3 10) bb rd wk bb' rd' wk' := by
      rcases u3 with ⟨v1, v2, v3, v4⟩ | ⟨w1, v0, v1, v2, v3, v4, v5, v6⟩
      · exact ⟨bb, rd, wk, by rw [v1, s83]; exact q2, q3, fun z => by rw [v2, v3, s83]; exact q4 z, Or.inl ⟨rfl, rfl, rfl, v4⟩⟩
      · exact ⟨tb J3 10 (tT I t) w1, r, w1, v1, by omega, fun _ => ⟨v3, v4⟩, Or.inr ⟨rfl, v0, rfl, v2, v5, v6⟩⟩
    have hpre : ∀ self, Rl_X9_search_42 fu (mkS D) (p + 1) (nI mask) self (nI r) J' = if tR I t ≤ r then self (nI (r + 1)) J4 else (Rf_X9_remember fu (mkS D) J4 (nI (tM I t))).bind fun q18 => (Rf_X9_rideOn fu (mkS D) q18.2 (nI mask) q18.1).bind fun q21 => self (nI (r + 1)) q21 := by
      intro self
      unfold Rl_X9_search_42 Rj_X9_search_109
      rw [gd_pos (Nat.succ_ne_zero p), Nat.add_sub_cancel, t4, if_neg (by rw [nI_lt_iff (by omega) (by omega)]; omega), t3, x1, Option.bind_some, t31, y1, Option.bind_some, t32, z1, Option.bind_some, u1, Option.bind_some, t44, t34, nI_p1]
      by_cases q : tR I t ≤ r
      · rw [if_pos (by rw [nI_le_iff (by omega) (by omega)]; exact q), if_pos q]
      · rw [if_neg (by rw [nI_le_iff (by omega) (by omega)]; exact q), if_neg q]
    by_cases q : tR I t ≤ r
    · have er : r = tR I t := by omega
      refine ⟨J4, ⟨f4, bb', rd', wk', n1, n2, n3, fun _ => ?_, fun z => absurd z (by omega)⟩, fun _ self => (hpre self).trans (if_pos q)⟩
      have := (rnd_lex (so' := fun s w => if tb J3 10 s w = NB then tb J' 11 s w else tb J3 10 s w) hTo net (by omega) ri th1 y4 th3 (fun s w _ _ => rfl) n4).2.2
      rw [er] at this
      exact this
    · have s114 : J4 11 = J' 11 := by rw [u2 11 (by decide), z2 11 (by decide), s11]
      have s104 : J4 10 = J3 10 := u2 10 (by decide)
      have e104 : tb J4 10 = tb J3 10 := by funext a b; unfold tb rw_; rw [s104]
      have e114 : tb J4 11 = tb J' 11 := by funext a b; unfold tb rw_; rw [s114]
      have w104 : Row 496 NB J4 10 := fun j hj => by
        have := z3 j hj
        unfold rw_ at this ⊢
        rw [s104]
        exact this
      have w114 : Row 496 NB J4 11 := fun j hj => by
        have := w11 j hj
        unfold rw_ at this ⊢
        rw [s114]
        exact this
      obtain ⟨m, J5, m1, m2, m3, m4, m5, m6⟩ := x_rem fu (by omega) (S := mkS D) (most := tM I t) cJ4.1.1 hnS hM w104 w114
      rw [e104, e114] at m6
      have s105 : J5 10 = J4 10 := m4 10 (by decide)
      have e105 : tb J5 10 = tb J3 10 := by rw [← e104]; funext a b; unfold tb rw_; rw [s105]
      have w105 : Row 496 NB J5 10 := fun j hj => by
        have := w104 j hj
        unfold rw_ at this ⊢
        rw [s105]
        exact this
      have f5 : ∀ b, ¬ (8 ≤ b ∧ b ≤ 11) → J5 b = J b := fun b hb => by rw [m4 b (by omega)]; exact f4 b hb
      have b6 := (rnd_b net ri th1 y4 th3 m6).2.2.2.2.2
      obtain ⟨J6, o1, o2, o3, o4⟩ := x_rideOn fu hfu g (fr J5 f5).1 (most := tM I t) hmask m2 hM (fun w => by rw [m3 w, e105, e104]) w105 (fun s w hs hw => by
        rw [e105]
        rcases b6 s w hs hw with z | ⟨z, -⟩
        · exact Or.inl z
        · exact Or.inr (by omega))
      rw [e105] at o4
      have f6 : ∀ b, ¬ (8 ≤ b ∧ b ≤ 11) → J6 b = J b := fun b hb => by rw [o2 b (by omega)]; exact f5 b hb
      have s86 : J6 8 = J4 8 := by rw [o2 8 (by decide), m4 8 (by decide)]
      have s116 : J6 11 = J5 11 := o2 11 (by decide)
      have e116 : tb J6 11 = tb J5 11 := by funext a b; unfold tb rw_; rw [s116]
      have w116 : Row 496 NB J6 11 := fun j hj => by
        have := m5 j hj
        unfold rw_ at this ⊢
        rw [s116]
        exact this
      refine ⟨J6, ⟨f6, bb', rd', wk', by rw [s86]; exact n1, n2, fun z => by rw [s86]; exact n3 z, fun z => absurd z (by omega), fun _ => ⟨o3, w116, ?_⟩⟩, fun _ self => (hpre self).trans ((if_neg q).trans ?_)⟩
      · rw [e116]
        exact rnd_next hTo net (by omega) ri th1 y4 th3 m6 n4 o4
      · rw [m1, Option.bind_some, o1, Option.bind_some]
  · obtain ⟨q1, -⟩ := hP
    have t4 := (fr J' q1).2.2.2.2.2.2
    show Rl_X9_search_42 fu (mkS D) (p + 1) (nI mask) self (nI (tR I t + 1)) J' = _
    unfold Rl_X9_search_42
    rw [gd_pos (Nat.succ_ne_zero p), Nat.add_sub_cancel, t4, if_pos (by rw [nI_lt_iff (by omega) (by omega)]; omega)]
  · have hs11 : ∀ s w, s < nS I → w ≤ tM I t → tb G 11 s w = NB := fun s w hs hw => r11 _ (by omega)
    have hs9 : ∀ s w, s < nS I → w ≤ tM I t → tb G 9 s w = if s = tF I t ∧ w = 0 then tS I t else NB := fun s w hs hw => by
      show rw_ G 9 (31 * s + w) = _
      rw [r9 _ (by omega)]
      by_cases q : s = tF I t ∧ w = 0
      · rw [if_pos q, if_pos (by omega)]
      · rw [if_neg q, if_neg (by omega)]
    refine ⟨fun s w hs hw => ?_, fun s w u hs hw ha => ?_, fun s w hs hw z => ?_, fun s w hs hw z => ?_, fun w hw => ?_, Or.inl ⟨rfl, fun r' w u hr => absurd hr (Nat.not_lt_zero _)⟩⟩
    · rw [hs9 s w hs hw]
      by_cases q : s = tF I t ∧ w = 0
      · rw [if_pos q]; exact Or.inr ⟨by omega, q.1, q.2, rfl⟩
      · rw [if_neg q]; exact Or.inl rfl
    · obtain ⟨h1, h2, h3⟩ := ha
      refine Or.inl ⟨w, Nat.le_refl _, ?_⟩
      rw [hs9 s w hs hw, if_pos ⟨h1, h2⟩, h3]
      exact Nat.le_refl _
    · rw [hs11 s w hs hw] at z; exact absurd z (Nat.lt_irrefl _)
    · rw [hs11 s w hs hw] at z; exact absurd z (Nat.lt_irrefl _)
    · rw [hs11 _ w hTo hw]; exact Nat.le_refl _
