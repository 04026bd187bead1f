/-! the reference's layWay -/
theorem arr_le {ns most : Nat} {fr : Nat → Nat → Nat} {R : Nat → Nat → Nat → Nat → Prop} {s0 st0 : Nat} (N : Net ns most fr R) (hst : st0 ≤ 1700) : ∀ r s w t, Arr ns most fr R s0 st0 r s w t → t ≤ 1700
  | 0, s, w, t, h => by have := h.2.2; omega
  | r + 1, s, w, t, ⟨s1, u, _, _, h⟩ => (N.2.2.2.1 _ _ _ _ h).2.1
def TA (I : II) (mask t r : Nat) (f : Nat → Nat) : Prop := ∀ s w, s < nS I → w ≤ tM I t → (∀ u, Arr (nS I) (tM I t) (far I) (RR I mask) (tF I t) (tS I t) r s w u → f (16 * w + s) ≤ u) ∧ (f (16 * w + s) = MM ∨ (f (16 * w + s) ≤ 1700 ∧ Arr (nS I) (tM I t) (far I) (RR I mask) (tF I t) (tS I t) r s w (f (16 * w + s))))
def TB (I : II) (mask t r : Nat) (f : Nat → Nat) : Prop := ∀ o w, o < nS I → w ≤ tM I t → (∀ u, BrI I mask t r o w u → f (496 * r + 16 * w + o) ≤ u) ∧ (f (496 * r + 16 * w + o) = MM ∨ (f (496 * r + 16 * w + o) ≤ 1730 ∧ BrI I mask t r o w (f (496 * r + 16 * w + o))))
theorem tab_walk {D : Dn} {I J J' : II} (g : Inv D I) {mask t r : Nat} (hM : tM I t ≤ 30) (hS : tS I t ≤ 1439) (hr : r ≤ 3) (hA : TA I mask t r (rw_ J 62)) (hE : ∀ j, 496 * r ≤ j → j < 496 * r + 496 → rw_ J 61 j = MM) (h : Rl1 1984 MM 61 (fun j u => ∃ w s, w ≤ tM I t ∧ s < nS I ∧ UmW I r (tM I t) (rw_ J 62) w s j u) J J') :
    TB I mask t r (rw_ J' 61) ∧ ∀ j, j < 1984 → ¬ (496 * r ≤ j ∧ j < 496 * r + 496) → rw_ J' 61 j = rw_ J 61 j := by
  have hnS : nS I ≤ 16 := g.2.1.1.1.2
  have net := net_of g hM mask
  refine ⟨fun o w ho hw => ⟨?_, ?_⟩, fun j hj hn => ?_⟩
  · rintro u ⟨s, w', t0, b1, b2, b3, b4, b5⟩
    have h1 := (hA s w' b1 (by omega)).1 t0 b2
    have h2 := arr_le net (by omega) _ _ _ _ b2
    have := h.2.2.2.1 (496 * r + 16 * w + o) (rw_ J 62 (16 * w' + s) + far I s o) (by omega) ⟨w', s, by omega, b1, by simp only [MM]; omega, o, ho, by omega, by rw [b3], rfl⟩
    omega
  · rcases h.2.2.2.2 (496 * r + 16 * w + o) (by omega) with e | ⟨w', s, b1, b2, b3, o', b4, b5, b6, b7⟩
    · left; rw [e]; exact hE _ (by omega) (by omega)
    · right
      have : o' = o ∧ w' + far I s o' = w := by omega
      obtain ⟨rfl, e2⟩ := this
      rcases (hA s w' b2 b1).2 with z | ⟨z1, z2⟩
      · omega
      · exact ⟨by omega, s, w', _, b2, z2, e2, hw, b7⟩
  · rcases h.2.2.2.2 j hj with e | ⟨w', s, b1, b2, b3, o', b4, b5, b6, b7⟩
    · exact e
    · omega
def LxR (I : II) (mask t : Nat) (J : II) : Prop := ∃ bb rd wk, Lx (tM I t) (tT I t) (BrI I mask t) (tR I t + 1) bb rd wk ∧ (bb = NB → J 38 31 = nI MM) ∧ (bb < NB → bb ≤ 1730 ∧ J 38 31 = nI bb ∧ J 38 32 = nI rd ∧ J 38 33 = nI wk)
theorem m_best (fu : Nat) (hfu : 100 < fu) {D : Dn} {I J : II} (g : Inv D I) (hK : Keep I J) {mask t : Nat} (ht : t < nP I) (h61 : Row 1984 MM J 61) (hB : ∀ r, r ≤ tR I t → TB I mask t r (rw_ J 61)) (e31 : J 38 31 = nI MM) :
    ∃ J', fix2 (Rl_X11_layWay_124 fu (mkS D) (nI t)) fu 0 J = some J' ∧ (Keep J J' ∧ J' 38 28 = J 38 28) ∧ LxR I mask t J' := by
  have gP := g.2.2.2.2.1
  have hnP : nP I ≤ 6 := gP.1.1.2
  obtain ⟨-, ⟨⟨b0, c0⟩, n0, ⟨b1, c1⟩, n1, ⟨b2, c2⟩, ⟨b3, c3⟩, ⟨b4, c4⟩⟩, -⟩ := gP.2 t ht
  have hM : tM I t ≤ 30 := c3
  have hRr : tR I t ≤ 3 := c4
  have hTo : tT I t < nS I := n1
  have hnS : nS I ≤ 16 := g.2.1.1.1.2
  have kt := nx_nI (k := t) (by omega)
  have in6 : ∀ a : Nat, a ≠ 0 → inbL a 6 (nI t) := fun a ha => ⟨ha, nI_nn (by omega), by rw [kt]; omega⟩
  let v : Nat → Nat → Nat := fun r w => rw_ J 61 (496 * r + 16 * w + tT I t)
  have hv : ∀ r w, r ≤ tR I t → w ≤ tM I t → v r w ≤ MM := fun r w hr hw => (h61 _ (by omega)).2
  let bf : Nat → Nat → Nat → Nat → Prop := fun r w r' w' => (r' < r ∧ w' ≤ tM I t) ∨ (r' = r ∧ w' < w)
  let B : Nat → Nat → II → Prop := fun r w J' => (∀ b j, ¬ (b = 38 ∧ (j = 31 ∨ j = 32 ∨ j = 33)) → J' b j = J b j) ∧ ((J' 38 31 = nI MM ∧ ∀ r' w', bf r w r' w' → v r' w' = MM) ∨ ∃ rd wk, bf r w rd wk ∧ v rd wk < MM ∧ J' 38 31 = nI (v rd wk) ∧ J' 38 32 = nI rd ∧ J' 38 33 = nI wk ∧ ∀ r' w', bf r w r' w' → v rd wk ≤ v r' w' ∧ (v r' w' = v rd wk → rd < r' ∨ (rd = r' ∧ wk ≤ w')))
  have fr : ∀ J' : II, (∀ b j, ¬ (b = 38 ∧ (j = 31 ∨ j = 32 ∨ j = 33)) → J' b j = J b j) → Keep I J' ∧ rdN J' 57 (nI t) = nI (tT I t) ∧ rdN J' 59 (nI t) = nI (tM I t) ∧ rdN J' 60 (nI t) = nI (tR I t) ∧ J' 61 = J 61 := fun J' h => by
    have k1 : Keep I J' := hK.tr (fun a j z => h a j (fun e => z (by unfold scr; omega)))
    unfold rdN
    rw [kt]
    exact ⟨k1, by rw [k1 57 _ (by unfold scr; omega)]; exact b1, by rw [k1 59 _ (by unfold scr; omega)]; exact b3, by rw [k1 60 _ (by unfold scr; omega)]; exact b4, funext (fun j => h 61 j (by omega))⟩
  have main := fix2_ex (K := Unit) (F := fun _ => Rl_X11_layWay_124 fu (mkS D) (nI t)) (fun i => nI i) (fun r J' => B r 0 J') (fun _ J' => some J') (tR I t + 1) (fun r J' hr hP => ?_) (fun J' hP κ self => ?_) (tR I t + 1) 0 J (by omega) ⟨fun _ _ _ => rfl, Or.inl ⟨e31, fun r' w' z => by have z' : (r' < 0 ∧ w' ≤ tM I t) ∨ (r' = 0 ∧ w' < 0) := z; omega⟩⟩ fu (by omega)
  · obtain ⟨J', ⟨p1, p2⟩, hrun⟩ := main
    refine ⟨J', hrun (), ⟨fun a j z => p1 a j (fun e => z (by unfold scr; omega)), p1 38 28 (by omega)⟩, ?_⟩
    rcases p2 with ⟨z1, z2⟩ | ⟨rd, wk, z1, z2, z3, z4, z5, z6⟩
    · refine ⟨NB, 0, 0, Or.inl ⟨rfl, fun r' w u hr hw hBr => ?_⟩, fun _ => z1, fun z => absurd z (Nat.lt_irrefl _)⟩
      have hh := (hB r' (by omega) (tT I t) w hTo hw).1 u hBr
      have h2 : v r' w = MM := z2 r' w (Or.inl ⟨hr, hw⟩)
      have h3 := arr_le (s0 := tF I t) (net_of g hM mask) (show tS I t ≤ 1700 by unfold tS; omega)
      obtain ⟨s, w', t0, q1, q2, q3, q4, q5⟩ := hBr
      have := h3 _ _ _ _ q2
      have h4 : v r' w ≤ u := hh
      rw [h2] at h4
      simp only [MM] at h4
      omega
    · have hrd : rd ≤ tR I t ∧ wk ≤ tM I t := by
        have z' : (rd < tR I t + 1 ∧ wk ≤ tM I t) ∨ (rd = tR I t + 1 ∧ wk < 0) := z1
        omega
      rcases (hB rd hrd.1 (tT I t) wk hTo hrd.2).2 with y | ⟨y1, y2⟩
      · have : v rd wk = MM := y
        omega
      · have y1' : v rd wk ≤ 1730 := y1
        refine ⟨v rd wk, rd, wk, Or.inr ⟨by simp only [NB]; omega, by omega, hrd.2, y2, fun r' w u hr hw hBr => ?_⟩, fun z => by simp only [NB] at z; omega, fun _ => ⟨y1', z3, z4, z5⟩⟩
        have hh : v r' w ≤ u := (hB r' (by omega) (tT I t) w hTo hw).1 u hBr
        obtain ⟨q1, q2⟩ := z6 r' w (Or.inl ⟨hr, hw⟩)
        exact ⟨by omega, fun e => q2 (by omega)⟩
  · obtain ⟨kJ, f57, f59, f60, f61⟩ := fr J' hP.1
    have inner := fix2_ex (K := Int32 → II → Option II) (F := fun κ => Rl_X11_layWay_136 fu (mkS D) κ (nI t) (nI r)) (fun i => nI i) (fun w J2 => B r w J2) (fun κ J2 => κ (nI (r + 1)) J2) (tM I t + 1) (fun w J2 hw hQ => ?_) (fun J2 hQ κ self => ?_) (tM I t + 1) 0 J' (by omega) hP fu (by omega)
    · obtain ⟨J2, ⟨q1, q2⟩, hrun⟩ := inner
      have hbf : ∀ r' w', bf r (tM I t + 1) r' w' ↔ bf (r + 1) 0 r' w' := fun r' w' => by
        show ((r' < r ∧ w' ≤ tM I t) ∨ (r' = r ∧ w' < tM I t + 1)) ↔ ((r' < r + 1 ∧ w' ≤ tM I t) ∨ (r' = r + 1 ∧ w' < 0))
        omega
      refine ⟨J2, ⟨q1, ?_⟩, fun _ self => ?_⟩
      · rcases q2 with ⟨z1, z2⟩ | ⟨rd, wk, z1, z2, z3, z4, z5, z6⟩
        · exact Or.inl ⟨z1, fun r' w' z => z2 r' w' ((hbf _ _).mpr z)⟩
        · exact Or.inr ⟨rd, wk, (hbf _ _).mp z1, z2, z3, z4, z5, fun r' w' z => z6 r' w' ((hbf _ _).mpr z)⟩
      · show Rl_X11_layWay_124 fu (mkS D) (nI t) self (nI r) J' = _
        unfold Rl_X11_layWay_124
        rw [gd_pos (in6 _ (by decide)), f60, if_neg (by rw [nI_lt_iff (by omega) (by omega)]; omega)]
        exact hrun self
    · obtain ⟨q1, q2⟩ := hQ
      obtain ⟨kJ2, h57, h59, h60, h61'⟩ := fr J2 q1
      have kk := nx_nI (k := 496 * r + 16 * w + tT I t) (by omega)
      have e61 : rdN J2 61 (nI (496 * r + 16 * w + tT I t)) = nI (v r w) := by
        unfold rdN
        rw [kk, h61']
        exact (h61 _ (by omega)).1
      have hvw := hv r w (by omega) (by omega)
      have hbf : ∀ r' w', bf r (w + 1) r' w' ↔ bf r w r' w' ∨ (r' = r ∧ w' = w) := fun r' w' => by
        show ((r' < r ∧ w' ≤ tM I t) ∨ (r' = r ∧ w' < w + 1)) ↔ ((r' < r ∧ w' ≤ tM I t) ∨ (r' = r ∧ w' < w)) ∨ (r' = r ∧ w' = w)
        omega
      have hbl : ∀ r' w', bf r w r' w' → r' < r ∨ (r' = r ∧ w' < w) := fun r' w' z => by
        have z' : (r' < r ∧ w' ≤ tM I t) ∨ (r' = r ∧ w' < w) := z
        omega
      have hgo : ∀ κ self, Rl_X11_layWay_136 fu (mkS D) κ (nI t) (nI r) self (nI w) J2 = if J2 38 31 ≤ nI (v r w) then self (nI (w + 1)) J2 else self (nI (w + 1)) (upI (upI (upI J2 38 31 (nI (v r w))) 38 32 (nI r)) 38 33 (nI w)) := by
        intro κ self
        unfold Rl_X11_layWay_136 Rj_X11_layWay_189
        rw [gd_pos (in6 _ (by decide)), h59, if_neg (by rw [nI_lt_iff (by omega) (by omega)]; omega), gd_pos (in6 _ (by decide)), h57, place_at, gd_pos ⟨by decide, nI_nn (by omega), by rw [kk]; omega⟩, e61, nI_p1]
      have upd : ∀ b j, ¬ (b = 38 ∧ (j = 31 ∨ j = 32 ∨ j = 33)) → upI (upI (upI J2 38 31 (nI (v r w))) 38 32 (nI r)) 38 33 (nI w) b j = J b j := fun b j hb => by
        unfold upI
        rw [if_neg (by omega), if_neg (by omega), if_neg (by omega)]
        exact q1 b j hb
      have u1 : upI (upI (upI J2 38 31 (nI (v r w))) 38 32 (nI r)) 38 33 (nI w) 38 31 = nI (v r w) := by rw [upI_cell (by decide), upI_cell (by decide), upI_at]
      have u2 : upI (upI (upI J2 38 31 (nI (v r w))) 38 32 (nI r)) 38 33 (nI w) 38 32 = nI r := by rw [upI_cell (by decide), upI_at]
      have u3 : upI (upI (upI J2 38 31 (nI (v r w))) 38 32 (nI r)) 38 33 (nI w) 38 33 = nI w := upI_at
      have hle : ∀ b, b ≤ MM → J2 38 31 = nI b → (J2 38 31 ≤ nI (v r w) ↔ b ≤ v r w) := fun b hb e => by
        rw [e, nI_le_iff (by simp only [MM] at *; omega) (by simp only [MM] at *; omega)]
      rcases q2 with ⟨z1, z2⟩ | ⟨rd, wk, z1, z2, z3, z4, z5, z6⟩
      · have hq := hle MM (Nat.le_refl _) z1
        by_cases q : MM ≤ v r w
        · refine ⟨J2, ⟨q1, Or.inl ⟨z1, fun r' w' z => ?_⟩⟩, fun κ self => (hgo κ self).trans (if_pos (hq.mpr q))⟩
          rcases (hbf _ _).mp z with y | ⟨rfl, rfl⟩
          · exact z2 r' w' y
          · omega
        · refine ⟨_, ⟨upd, Or.inr ⟨r, w, (hbf _ _).mpr (Or.inr ⟨rfl, rfl⟩), by omega, u1, u2, u3, fun r' w' z => ?_⟩⟩, fun κ self => (hgo κ self).trans (if_neg (fun y => q (hq.mp y)))⟩
          rcases (hbf _ _).mp z with y | ⟨rfl, rfl⟩
          · have := z2 r' w' y
            exact ⟨by omega, fun e => by omega⟩
          · exact ⟨Nat.le_refl _, fun _ => Or.inr ⟨rfl, Nat.le_refl _⟩⟩
      · have hq := hle (v rd wk) (by omega) z3
        by_cases q : v rd wk ≤ v r w
        · refine ⟨J2, ⟨q1, Or.inr ⟨rd, wk, (hbf _ _).mpr (Or.inl z1), z2, z3, z4, z5, fun r' w' z => ?_⟩⟩, fun κ self => (hgo κ self).trans (if_pos (hq.mpr q))⟩
          rcases (hbf _ _).mp z with y | ⟨rfl, rfl⟩
          · exact z6 r' w' y
          · exact ⟨q, fun _ => by have := hbl _ _ z1; omega⟩
        · refine ⟨_, ⟨upd, Or.inr ⟨r, w, (hbf _ _).mpr (Or.inr ⟨rfl, rfl⟩), by omega, u1, u2, u3, fun r' w' z => ?_⟩⟩, fun κ self => (hgo κ self).trans (if_neg (fun y => q (hq.mp y)))⟩
          rcases (hbf _ _).mp z with y | ⟨rfl, rfl⟩
          · have := (z6 r' w' y).1
            exact ⟨by omega, fun e => by omega⟩
          · exact ⟨Nat.le_refl _, fun _ => Or.inr ⟨rfl, Nat.le_refl _⟩⟩
    · obtain ⟨kJ2, h57, h59, h60, h61'⟩ := fr J2 hQ.1
      show Rl_X11_layWay_136 fu (mkS D) κ (nI t) (nI r) self (nI (tM I t + 1)) J2 = _
      unfold Rl_X11_layWay_136
      rw [gd_pos (in6 _ (by decide)), h59, if_pos (by rw [nI_lt_iff (by omega) (by omega)]; omega), nI_p1]
  · obtain ⟨kJ, f57, f59, f60, f61⟩ := fr J' hP.1
    show Rl_X11_layWay_124 fu (mkS D) (nI t) self (nI (tR I t + 1)) J' = _
    unfold Rl_X11_layWay_124
    rw [gd_pos (in6 _ (by decide)), f60, if_pos (by rw [nI_lt_iff (by omega) (by omega)]; omega)]
