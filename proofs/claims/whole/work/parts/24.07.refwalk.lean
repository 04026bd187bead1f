/-! the reference's tables: walkFrom -/
abbrev MM : Nat := 1000000
theorem ix16r {a b : Nat} : (16 : Int32) * nI a + nI b = nI (16 * a + b) := by
  rw [show (16 : Int32) = nI 16 from rfl, nI_mul, nI_add]
theorem place_at {r w s : Nat} : t_X11_placeOf (nI r) (nI w) (nI s) = nI (496 * r + 16 * w + s) := by
  unfold t_X11_placeOf
  rw [show (16 : Int32) = nI 16 from rfl, show (496 : Int32) = nI 496 from rfl, nI_mul, nI_mul, nI_add, nI_add]
theorem keep_net {I J : II} (h : Keep I J) : nS J = nS I ∧ nL J = nL I ∧ ∀ a b, far J a b = far I a b := by
  refine ⟨by unfold nS; rw [h 38 1 (by unfold scr; omega)], by unfold nL; rw [h 38 4 (by unfold scr; omega)], fun a b => ?_⟩
  unfold far
  rw [h 39 a (by unfold scr; omega), h 39 b (by unfold scr; omega), h 40 a (by unfold scr; omega), h 40 b (by unfold scr; omega)]
theorem m_farJ (fu : Nat) {D : Dn} {I J : II} (g : Inv D I) (h : Keep I J) {a b : Nat} (ha : a < nS I) (hb : b < nS I) : Rf_X11_farOf fu (mkS D) J (nI a) (nI b) = some (nI (far I a b)) := by
  obtain ⟨e1, e2, e3⟩ := keep_net h
  rw [m_far fu (g.keep h).2.1 (by rw [e1]; exact ha) (by rw [e1]; exact hb), e3]
def UmW (I : II) (r most : Nat) (A : Nat → Nat) (w s j u : Nat) : Prop := A (16 * w + s) < MM ∧ ∃ o, o < nS I ∧ w + far I s o ≤ most ∧ j = 496 * r + 16 * (w + far I s o) + o ∧ u = A (16 * w + s) + far I s o
theorem m_walkFrom (fu : Nat) (hfu : 100 < fu) {D : Dn} {I J : II} (g : Inv D I) (hK : Keep I J) {r most : Nat} (hr : r ≤ 3) (hm : most ≤ 30) (h61 : Row 1984 MM J 61) (h62 : Row 496 MM J 62) (hA : ∀ s w, s < nS I → w ≤ most → rw_ J 62 (16 * w + s) = MM ∨ rw_ J 62 (16 * w + s) ≤ 1700) :
    ∃ J', Rf_X11_walkFrom fu (mkS D) J (nI r) (nI most) = some J' ∧ Rl1 1984 MM 61 (fun j u => ∃ w s, w ≤ most ∧ s < nS I ∧ UmW I r most (rw_ J 62) w s j u) J J' := by
  have hnS : nS I ≤ 16 := g.2.1.1.1.2
  have fr : ∀ J' : II, (∀ b, b ≠ 61 → J' b = J b) → Keep I J' ∧ J' 38 1 = nI (nS I) ∧ J' 62 = J 62 := fun J' h => by
    have k1 : Keep I J' := hK.tr (fun a j z => by rw [h a (fun e => z (by unfold scr; omega))])
    exact ⟨k1, by rw [k1 38 1 (by unfold scr; omega)]; exact g.2.1.1.1.1, h 62 (by decide)⟩
  have main := fix2_ex (K := Unit) (F := fun _ => Rl_X11_walkFrom_2 fu (mkS D) (nI r) (nI most)) (fun i => nI i) (fun i J' => Rl1 1984 MM 61 (fun j u => ∃ w s, w < i ∧ s < nS I ∧ UmW I r most (rw_ J 62) w s j u) J J') (fun _ J' => some J') (most + 1) (fun w J' hw hP => ?_) (fun J' hP κ self => ?_) (most + 1) 0 J (by omega) (Rl1.rf h61 (fun j u ⟨w, s, z, _⟩ => absurd z (Nat.not_lt_zero _))) fu (by omega)
  · obtain ⟨J', p, hrun⟩ := main
    refine ⟨J', hrun (), p.im (fun j u _ => ⟨fun ⟨w, s, z1, z2⟩ => ⟨w, s, by omega, z2⟩, fun ⟨w, s, z1, z2⟩ => ⟨w, s, by omega, z2⟩⟩)⟩
  · have inner := fix2_ex (K := Int32 → II → Option II) (F := fun κ => Rl_X11_walkFrom_10 fu (mkS D) κ (nI r) (nI most) (nI w)) (fun i => nI i) (fun i J2 => Rl1 1984 MM 61 (fun j u => ∃ s, s < i ∧ UmW I r most (rw_ J 62) w s j u) J' J2) (fun κ J2 => κ (nI (w + 1)) J2) (nS I) (fun s J2 hs hQ => ?_) (fun J2 hQ κ self => ?_) (nS I) 0 J' (by omega) (Rl1.rf hP.2.1 (fun j u ⟨w, z, _⟩ => absurd z (Nat.not_lt_zero _))) fu (by omega)
    · obtain ⟨J2, q, hrun⟩ := inner
      refine ⟨J2, hP.tr q (fun j u => ?_), fun _ self => ?_⟩
      · constructor
        · rintro ⟨w', s, z1, z2, z3⟩
          by_cases e : w' = w
          · subst e; exact Or.inr ⟨s, z2, z3⟩
          · exact Or.inl ⟨w', s, by omega, z2, z3⟩
        · rintro (⟨w', s, z1, z2⟩ | ⟨s, z1, z2⟩)
          · exact ⟨w', s, by omega, z2⟩
          · exact ⟨w, s, by omega, z1, z2⟩
      · show Rl_X11_walkFrom_2 fu (mkS D) (nI r) (nI most) self (nI w) J' = _
        unfold Rl_X11_walkFrom_2
        rw [if_neg (by rw [nI_lt_iff (by omega) (by omega)]; omega)]
        exact hrun self
    · have f2 := fr J2 (fun b hb => (hQ.1 b hb).trans (hP.1 b hb))
      have kj := nx_nI (k := 16 * w + s) (by omega)
      obtain ⟨v, ev⟩ : ∃ v, rw_ J 62 (16 * w + s) = v := ⟨_, rfl⟩
      have r62 : rdN J2 62 (nI (16 * w + s)) = nI v := by
        unfold rdN
        rw [kj, f2.2.2, ← ev]
        exact (h62 _ (by omega)).1
      have hv := hA s w hs (by omega)
      rw [ev] at hv
      have hcM : (1000000 : Int32) ≤ nI v ↔ MM ≤ v := nI_le_iff (a := 1000000) (by decide) (by simp only [MM] at *; omega)
      have hpre : ∀ κ self, Rl_X11_walkFrom_10 fu (mkS D) κ (nI r) (nI most) (nI w) self (nI s) J2 = fix2 (Rl_X11_walkFrom_36 fu (mkS D) κ self (nI r) (nI most) (nI w) (nI s) (nI v)) fu 0 J2 := by
        intro κ self
        unfold Rl_X11_walkFrom_10
        rw [f2.2.1, if_neg (by rw [nI_le_iff (by omega) (by omega)]; omega), ix16r, gd_pos ⟨by decide, nI_nn (by omega), by rw [kj]; omega⟩, r62]
      rcases hv with hv | hv
      · refine ⟨J2, hQ.im (fun j u hj => ?_), fun κ self => ?_⟩
        · constructor
          · rintro ⟨s', z1, z2⟩; exact ⟨s', by omega, z2⟩
          · rintro ⟨s', z1, z2, z3⟩
            by_cases e : s' = s
            · subst e; omega
            · exact ⟨s', by omega, z2, z3⟩
        · rw [show Rl_X11_walkFrom_10 fu (mkS D) κ (nI r) (nI most) (nI w) self (nI s) J2 = _ from hpre κ self]
          obtain ⟨n, rfl⟩ : ∃ n, fu = n + 1 := ⟨fu - 1, by omega⟩
          show Rl_X11_walkFrom_36 _ _ _ _ _ _ _ _ _ _ 0 J2 = _
          unfold Rl_X11_walkFrom_36 Rj_X11_walkFrom_110
          rw [if_pos (hcM.mpr (by omega)), ite_self, nI_p1]
      · have inner2 := fix2_ex (K := (Int32 → II → Option II) × (Int32 → II → Option II)) (F := fun κ => Rl_X11_walkFrom_36 fu (mkS D) κ.1 κ.2 (nI r) (nI most) (nI w) (nI s) (nI v)) (fun i => nI i) (fun i J3 => Rl1 1984 MM 61 (fun j u => ∃ o, o < i ∧ w + far I s o ≤ most ∧ j = 496 * r + 16 * (w + far I s o) + o ∧ u = v + far I s o) J2 J3) (fun κ J3 => κ.2 (nI (s + 1)) J3) (nS I) (fun o J3 ho hT => ?_) (fun J3 hT κ self => ?_) (nS I) 0 J2 (by omega) (Rl1.rf hQ.2.1 (fun j u ⟨w, z, _⟩ => absurd z (Nat.not_lt_zero _))) fu (by omega)
        · obtain ⟨J3, q, hrun⟩ := inner2
          refine ⟨J3, hQ.tr q (fun j u => ?_), fun κ self => (hpre κ self).trans (hrun (κ, self))⟩
          constructor
          · rintro ⟨s', z1, z2, z3⟩
            by_cases e : s' = s
            · subst e; rw [ev] at z3; exact Or.inr z3
            · exact Or.inl ⟨s', by omega, z2, z3⟩
          · rintro (⟨s', z1, z2⟩ | z)
            · exact ⟨s', by omega, z2⟩
            · exact ⟨s, by omega, by rw [ev]; simp only [MM]; omega, by rw [ev]; exact z⟩
        · have f3 := fr J3 (fun b hb => (hT.1 b hb).trans ((hQ.1 b hb).trans (hP.1 b hb)))
          have hf := m_farJ fu g f3.1 hs ho
          have hfl := far_le g.2.1 hs ho
          have hc0 : ¬ nI (nS I) ≤ nI o := by rw [nI_le_iff (by omega) (by omega)]; omega
          have hc1 : ¬ (1000000 : Int32) ≤ nI v := fun z => by have := hcM.mp z; simp only [MM] at this; omega
          by_cases q : w + far I s o ≤ most
          · have kk := nx_nI (k := 496 * r + 16 * (w + far I s o) + o) (by omega)
            have hrr := hT.2.1 (496 * r + 16 * (w + far I s o) + o) (by omega)
            have hval : t_X11_lesser (rdN J3 61 (nI (496 * r + 16 * (w + far I s o) + o))) (nI v + nI (far I s o)) = nI (min (rw_ J3 61 (496 * r + 16 * (w + far I s o) + o)) (v + far I s o)) := by
              unfold rdN
              rw [kk, hrr.1, nI_add]
              have := hrr.2
              exact les_nI (by simp only [MM] at *; omega) (by omega)
            refine ⟨upI J3 61 (496 * r + 16 * (w + far I s o) + o) (nI (min (rw_ J3 61 (496 * r + 16 * (w + far I s o) + o)) (v + far I s o))), hT.tr (Rl1.one hT.2.1 (by decide) (v := v + far I s o) (by omega) (fun j u => j = 496 * r + 16 * (w + far I s o) + o ∧ u = v + far I s o) ⟨rfl, rfl⟩ (fun j u _ ⟨z1, z2⟩ => ⟨z1, by omega⟩) rfl) (fun j u => ?_), fun κ self => ?_⟩
            · constructor
              · rintro ⟨o', z1, z2, z3, z4⟩
                by_cases e : o' = o
                · subst e; exact Or.inr ⟨z3, z4⟩
                · exact Or.inl ⟨o', by omega, z2, z3, z4⟩
              · rintro (⟨o', z1, z2⟩ | ⟨z1, z2⟩)
                · exact ⟨o', by omega, z2⟩
                · exact ⟨o, by omega, q, z1, z2⟩
            · show Rl_X11_walkFrom_36 fu (mkS D) κ.1 κ.2 (nI r) (nI most) (nI w) (nI s) (nI v) self (nI o) J3 = _
              unfold Rl_X11_walkFrom_36 Rj_X11_walkFrom_104
              rw [f3.2.1, if_neg hc0, if_neg hc1, hf, Option.bind_some, nI_add, if_neg (by rw [nI_lt_iff (by omega) (by omega)]; omega), place_at]
              simp only [lt]
              rw [gd_pos ⟨by decide, nI_nn (by omega), by rw [kk]; omega⟩, hval, nI_p1]
              unfold wrN
              rw [kk]
          · refine ⟨J3, hT.im (fun j u hj => ?_), fun κ self => ?_⟩
            · constructor
              · rintro ⟨o', z1, z2⟩; exact ⟨o', by omega, z2⟩
              · rintro ⟨o', z1, z2, z3⟩
                by_cases e : o' = o
                · subst e; exact absurd z2 q
                · exact ⟨o', by omega, z2, z3⟩
            · show Rl_X11_walkFrom_36 fu (mkS D) κ.1 κ.2 (nI r) (nI most) (nI w) (nI s) (nI v) self (nI o) J3 = _
              unfold Rl_X11_walkFrom_36 Rj_X11_walkFrom_104
              rw [f3.2.1, if_neg hc0, if_neg hc1, hf, Option.bind_some, nI_add, if_pos (by rw [nI_lt_iff (by omega) (by omega)]; omega), nI_p1]
        · have f3 := fr J3 (fun b hb => (hT.1 b hb).trans ((hQ.1 b hb).trans (hP.1 b hb)))
          show Rl_X11_walkFrom_36 fu (mkS D) κ.1 κ.2 (nI r) (nI most) (nI w) (nI s) (nI v) self (nI (nS I)) J3 = _
          unfold Rl_X11_walkFrom_36 Rj_X11_walkFrom_110
          rw [f3.2.1, if_pos (Int32.le_refl _), nI_p1]
    · have f2 := fr J2 (fun b hb => (hQ.1 b hb).trans (hP.1 b hb))
      show Rl_X11_walkFrom_10 fu (mkS D) κ (nI r) (nI most) (nI w) self (nI (nS I)) J2 = _
      unfold Rl_X11_walkFrom_10
      rw [f2.2.1, if_pos (Int32.le_refl _), nI_p1]
  · show Rl_X11_walkFrom_2 fu (mkS D) (nI r) (nI most) self (nI (most + 1)) J' = _
    unfold Rl_X11_walkFrom_2
    rw [if_pos (by rw [nI_lt_iff (by omega) (by omega)]; omega)]
