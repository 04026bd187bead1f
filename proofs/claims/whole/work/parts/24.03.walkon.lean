/-! the class's tables: walkOn -/
def CH (ns : Nat) (fr : Nat → Nat → Nat) (J : II) : Prop := (J 1 3 = nI ns ∧ ns ≤ 16) ∧ ∀ a b, a < ns → b < ns → J 4 (16 * a + b) = nI (fr a b) ∧ fr a b ≤ 80
theorem CH.fr {ns : Nat} {fr : Nat → Nat → Nat} {J J' : II} (h : CH ns fr J) (h1 : J' 1 = J 1) (h4 : J' 4 = J 4) : CH ns fr J' := by
  unfold CH
  rw [h1, h4]
  exact h
theorem x_walkJ (fu : Nat) {S : Sk} {J : II} {ns : Nat} {fr : Nat → Nat → Nat} (h : CH ns fr J) {a b : Nat} (ha : a < ns) (hb : b < ns) : Rf_X2_walk fu S J (nI a) (nI b) = some (nI (fr a b)) := by
  have hn := h.1.2
  have k := nx_nI (k := 16 * a + b) (by omega)
  unfold Rf_X2_walk rdN
  rw [ix16, gd_pos ⟨by decide, nI_nn (by omega), by rw [k]; omega⟩, k, (h.2 a b ha hb).1]
theorem x_wkF (fu : Nat) (hfu : 100 < fu) {S : Sk} {J : II} {ns most s w v : Nat} {fr : Nat → Nat → Nat} (h : CH ns fr J) (hm : most ≤ 30) (hs : s < ns) (hw : w ≤ most) (hv : v ≤ 1700) (hr : Row 496 NB J 10) :
    ∃ J', Rl1 496 NB 10 (fun j u => ∃ o, o < ns ∧ w + fr s o ≤ most ∧ j = 31 * o + (w + fr s o) ∧ u = v + fr s o) J J' ∧ fix2 (Rl_X9_walkFrom_16 fu S (nI s) (nI w) (nI most) (nI v)) fu 0 J = some J' := by
  have hn := h.1.2
  have main := fix2_ex (K := Unit) (F := fun _ => Rl_X9_walkFrom_16 fu S (nI s) (nI w) (nI most) (nI v)) (fun i => nI i) (fun i J' => Rl1 496 NB 10 (fun j u => ∃ o, o < i ∧ w + fr s o ≤ most ∧ j = 31 * o + (w + fr s o) ∧ u = v + fr s o) J J') (fun _ J' => some J') ns (fun i J' hi hP => ?_) (fun J' hP κ self => ?_) ns 0 J (by omega) (Rl1.rf hr (fun j u ⟨o, z, _⟩ => absurd z (Nat.not_lt_zero _))) fu (by omega)
  · obtain ⟨J', p, hrun⟩ := main
    exact ⟨J', p, hrun ()⟩
  · have h' : CH ns fr J' := h.fr (hP.1 1 (by decide)) (hP.1 4 (by decide))
    have hw1 := x_walkJ fu (S := S) h' hs hi
    have hf := (h.2 s i hs hi).2
    have e3 := h'.1.1
    by_cases q : w + fr s i ≤ most
    · have kj := nx_nI (k := 31 * i + (w + fr s i)) (by omega)
      have hrr := (hP.2.1 (31 * i + (w + fr s i)) (by omega))
      have hval : jmin (rdN J' 10 (nI (31 * i + (w + fr s i)))) (nI v + nI (fr s i)) = nI (min (rw_ J' 10 (31 * i + (w + fr s i))) (v + fr s i)) := by
        unfold rdN
        rw [kj, hrr.1, nI_add]
        have := hrr.2
        exact jmin_nI (by simp only [NB] at *; omega) (by omega)
      refine ⟨upI J' 10 (31 * i + (w + fr s i)) (nI (min (rw_ J' 10 (31 * i + (w + fr s i))) (v + fr s i))), hP.tr (Rl1.one hP.2.1 (by decide) (v := v + fr s i) (by omega) (fun j u => j = 31 * i + (w + fr s i) ∧ u = v + fr s i) ⟨rfl, rfl⟩ (fun j u _ ⟨z1, z2⟩ => ⟨z1, by omega⟩) rfl) (fun j u => ?_), fun _ self => ?_⟩
      · constructor
        · rintro ⟨o, z1, z2, z3, z4⟩
          by_cases e : o = i
          · subst e; exact Or.inr ⟨z3, z4⟩
          · exact Or.inl ⟨o, by omega, z2, z3, z4⟩
        · rintro (⟨o, z1, z2⟩ | ⟨z1, z2⟩)
          · exact ⟨o, by omega, z2⟩
          · exact ⟨i, by omega, q, z1, z2⟩
      · show Rl_X9_walkFrom_16 fu S (nI s) (nI w) (nI most) (nI v) self (nI i) J' = _
        unfold Rl_X9_walkFrom_16 Rj_X9_walkFrom_82
        rw [e3, if_neg (by rw [nI_le_iff (by omega) (by omega)]; omega), hw1, Option.bind_some, nI_add, if_neg (by rw [nI_lt_iff (by omega) (by omega)]; omega), ix31, nI_add, Nat.add_assoc]
        simp only [lt]
        rw [gd_pos ⟨by decide, nI_nn (by omega), by rw [kj]; omega⟩, hval, nI_p1]
        unfold wrN
        rw [kj]
    · refine ⟨J', hP.im (fun j u hj => ?_), fun _ self => ?_⟩
      · constructor
        · rintro ⟨o, z1, z2⟩
          exact ⟨o, by omega, z2⟩
        · rintro ⟨o, z1, z2, z3⟩
          by_cases e : o = i
          · subst e; exact absurd z2 q
          · exact ⟨o, by omega, z2, z3⟩
      · show Rl_X9_walkFrom_16 fu S (nI s) (nI w) (nI most) (nI v) self (nI i) J' = _
        unfold Rl_X9_walkFrom_16 Rj_X9_walkFrom_82
        rw [e3, if_neg (by rw [nI_le_iff (by omega) (by omega)]; omega), hw1, Option.bind_some, nI_add, if_pos (by rw [nI_lt_iff (by omega) (by omega)]; omega), nI_p1]
  · have e3 := (h.fr (hP.1 1 (by decide)) (hP.1 4 (by decide))).1.1
    show Rl_X9_walkFrom_16 fu S (nI s) (nI w) (nI most) (nI v) self (nI ns) J' = _
    unfold Rl_X9_walkFrom_16
    rw [e3, if_pos (Int32.le_refl _)]
/-- what a walk from (s, w) gives -/
def Uw (ns most : Nat) (fr : Nat → Nat → Nat) (A : Nat → Nat → Nat) (s w j u : Nat) : Prop := A s w ≠ NB ∧ ∃ o, o < ns ∧ w + fr s o ≤ most ∧ j = 31 * o + (w + fr s o) ∧ u = A s w + fr s o
theorem x_walkOn (fu : Nat) (hfu : 100 < fu) {D : Dn} {J : II} {ns most : Nat} {fr : Nat → Nat → Nat} (h : CH ns fr J) (hm : most ≤ 30) (hf0 : ∀ s, fr s s = 0) (hr : Row 496 NB J 9) (hA : ∀ s w, s < ns → w ≤ most → tb J 9 s w = NB ∨ tb J 9 s w ≤ 1700) :
    ∃ J', Rf_X9_walkOn fu (mkS D) J (nI most) = some J' ∧ (∀ b, b ≠ 10 → J' b = J b) ∧ Row 496 NB J' 10 ∧ Wlk ns most fr (tb J 9) (tb J' 10) := by
  have hn := h.1.2
  have hI16 : cpI J 10 (0 : Int32) 11 (0 : Int32) ((496 : Nat).toInt32) = fun a k => if a = 10 ∧ k < 496 then J 9 k else J a k := by
    funext a k
    unfold cpI
    show (if a = 10 ∧ 0 ≤ k ∧ k < 0 + 496 then J 9 (0 + (k - 0)) else J a k) = _
    by_cases q : a = 10 ∧ k < 496
    · rw [if_pos (by omega), if_pos q, Nat.sub_zero, Nat.zero_add]
    · rw [if_neg (by omega), if_neg q]
  obtain ⟨G, eG⟩ : ∃ G : II, (fun a k => if a = 10 ∧ k < 496 then J 9 k else J a k) = G := ⟨_, rfl⟩
  have g1 : ∀ b, b ≠ 10 → G b = J b := fun b hb => by
    funext k
    rw [← eG]
    exact if_neg (fun z => hb z.1)
  have g2 : ∀ j, j < 496 → G 10 j = J 9 j := fun j hj => by rw [← eG]; exact if_pos ⟨rfl, hj⟩
  have g3 : Row 496 NB G 10 := fun j hj => by
    have := hr j hj
    unfold rw_ at this ⊢
    rw [g2 j hj]
    exact this
  have main := fix2_ex (K := Unit) (F := fun _ => Rl_X9_walkOn_20 fu (mkS D) (nI most)) (fun i => nI i) (fun i J' => Rl1 496 NB 10 (fun j u => ∃ s w, s < i ∧ w ≤ most ∧ Uw ns most fr (tb J 9) s w j u) G J') (fun _ J' => some J') ns (fun s J' hs hP => ?_) (fun J' hP κ self => ?_) ns 0 G (by omega) (Rl1.rf g3 (fun j u ⟨s, w, z, _⟩ => absurd z (Nat.not_lt_zero _))) fu (by omega)
  · obtain ⟨J', p, hrun⟩ := main
    refine ⟨J', ?_, fun b hb => (p.1 b hb).trans (g1 b hb), p.2.1, ?_, ?_⟩
    · unfold Rf_X9_walkOn
      rw [gd_pos (show inC (mkS D) 10 (0 : Int32) 11 (0 : Int32) ((496 : Nat).toInt32) from ⟨by decide, by decide, by decide, by decide, by decide, by show 0 + 496 ≤ 496; decide, by show 0 + 496 ≤ 496; decide⟩)]
      simp only [lt]
      rw [hI16, eG]
      exact hrun ()
    · intro s w o hs ho hw hlt
      have hfo := (h.2 s o hs ho).2
      refine p.2.2.2.1 (31 * o + (w + fr s o)) (tb J 9 s w + fr s o) (by omega) ⟨s, w, hs, by omega, by omega, o, ho, hw, rfl, rfl⟩
    · intro o w ho hw
      rcases p.2.2.2.2 (31 * o + w) (by omega) with e | ⟨s, w', z1, z2, z3, o', z4, z5, z6, z7⟩
      · have e' : tb J' 10 o w = tb J 9 o w := by
          show rw_ J' 10 (31 * o + w) = _
          rw [e]
          unfold rw_ tb rw_
          rw [g2 _ (by omega)]
        by_cases q : tb J 9 o w = NB
        · exact Or.inl (e'.trans q)
        · refine Or.inr ⟨o, w, ho, by rw [hf0]; rfl, ?_, by rw [hf0]; exact e'⟩
          have := hA o w ho hw
          simp only [NB] at *
          omega
      · right
        have : o' = o ∧ w' + fr s o' = w := by omega
        obtain ⟨rfl, e2⟩ := this
        have := hA s w' z1 z2
        refine ⟨s, w', z1, e2, ?_, z7⟩
        simp only [NB] at *
        omega
  · have h' : CH ns fr J' := (h.fr (g1 1 (by decide)) (g1 4 (by decide))).fr (hP.1 1 (by decide)) (hP.1 4 (by decide))
    have inner := fix2_ex (K := Int32 → II → Option II) (F := fun κ => Rl_X9_walkOn_33 fu (mkS D) κ (nI most) (nI s)) (fun i => nI i) (fun i J2 => Rl1 496 NB 10 (fun j u => ∃ w, w < i ∧ Uw ns most fr (tb J 9) s w j u) J' J2) (fun κ J2 => κ (nI (s + 1)) J2) (most + 1) (fun w J2 hw hQ => ?_) (fun J2 hQ κ self => ?_) (most + 1) 0 J' (by omega) (Rl1.rf hP.2.1 (fun j u ⟨w, z, _⟩ => absurd z (Nat.not_lt_zero _))) fu (by omega)
    · obtain ⟨J2, q, hrun⟩ := inner
      refine ⟨J2, hP.tr q (fun j u => ?_), fun _ self => ?_⟩
      · constructor
        · rintro ⟨s', w, z1, z2, z3⟩
          by_cases e : s' = s
          · subst e; exact Or.inr ⟨w, by omega, z3⟩
          · exact Or.inl ⟨s', w, by omega, z2, z3⟩
        · rintro (⟨s', w, z1, z2⟩ | ⟨w, z1, z2⟩)
          · exact ⟨s', w, by omega, z2⟩
          · exact ⟨s, w, by omega, by omega, z2⟩
      · show Rl_X9_walkOn_20 fu (mkS D) (nI most) self (nI s) J' = _
        unfold Rl_X9_walkOn_20
        rw [h'.1.1, if_neg (by rw [nI_le_iff (by omega) (by omega)]; omega)]
        exact hrun self
    · have h2 : CH ns fr J2 := h'.fr (hQ.1 1 (by decide)) (hQ.1 4 (by decide))
      have kj := nx_nI (k := 31 * s + w) (by omega)
      have r9 : J2 9 (31 * s + w) = nI (tb J 9 s w) := by
        rw [hQ.1 9 (by decide), hP.1 9 (by decide), g1 9 (by decide)]
        exact (hr _ (by omega)).1
      have hle : tb J 9 s w ≤ NB := (hr _ (by omega)).2
      have hc1 : ¬ nI most < nI w := by rw [nI_lt_iff (by omega) (by omega)]; omega
      have hin : inbL 10 496 (nI (31 * s + w)) := ⟨by decide, nI_nn (by omega), by rw [kj]; omega⟩
      have hNB : nI (tb J 9 s w) = (1073741824 : Int32) ↔ tb J 9 s w = NB := nI_eq_iff (b := 1073741824) (by simp only [NB] at *; omega) (by decide)
      by_cases q : tb J 9 s w = NB
      · refine ⟨J2, hQ.im (fun j u hj => ?_), fun κ self => ?_⟩
        · constructor
          · rintro ⟨w', z1, z2⟩; exact ⟨w', by omega, z2⟩
          · rintro ⟨w', z1, z2⟩
            by_cases e : w' = w
            · subst e; exact absurd q z2.1
            · exact ⟨w', by omega, z2⟩
        · show Rl_X9_walkOn_33 fu (mkS D) κ (nI most) (nI s) self (nI w) J2 = _
          unfold Rl_X9_walkOn_33 Rj_X9_walkOn_61 rdN
          rw [if_neg hc1, ix31, gd_pos hin, kj, r9, if_pos (hNB.mpr q), nI_p1]
      · have hv : tb J 9 s w ≤ 1700 := (hA s w hs (by omega)).resolve_left q
        obtain ⟨J3, r1, r2⟩ := x_wkF fu hfu (S := mkS D) (w := w) (v := tb J 9 s w) h2 hm hs (by omega) hv hQ.2.1
        refine ⟨J3, hQ.tr r1 (fun j u => ?_), fun κ self => ?_⟩
        · constructor
          · rintro ⟨w', z1, z2, z3⟩
            by_cases e : w' = w
            · subst e; exact Or.inr z3
            · exact Or.inl ⟨w', by omega, z2, z3⟩
          · rintro (⟨w', z1, z2⟩ | z)
            · exact ⟨w', by omega, z2⟩
            · exact ⟨w, by omega, q, z⟩
        · show Rl_X9_walkOn_33 fu (mkS D) κ (nI most) (nI s) self (nI w) J2 = _
          have hwf : Rf_X9_walkFrom fu (mkS D) J2 (nI s) (nI w) (nI most) = some J3 := by
            unfold Rf_X9_walkFrom rdN
            rw [ix31, gd_pos hin, kj, r9]
            exact r2
          unfold Rl_X9_walkOn_33 Rj_X9_walkOn_61 rdN
          rw [if_neg hc1, ix31, gd_pos hin, kj, r9, if_neg (fun z => q (hNB.mp z)), hwf, Option.bind_some, nI_p1]
    · show Rl_X9_walkOn_33 fu (mkS D) κ (nI most) (nI s) self (nI (most + 1)) J2 = _
      unfold Rl_X9_walkOn_33
      rw [if_pos (by rw [nI_lt_iff (by omega) (by omega)]; omega), nI_p1]
  · have e3 := ((h.fr (g1 1 (by decide)) (g1 4 (by decide))).fr (hP.1 1 (by decide)) (hP.1 4 (by decide))).1.1
    show Rl_X9_walkOn_20 fu (mkS D) (nI most) self (nI ns) J' = _
    unfold Rl_X9_walkOn_20
    rw [e3, if_pos (Int32.le_refl _)]
