/-! night: the class's plan -/
theorem lnf_eq {m k : Nat} : ∀ n, k ≤ n → pcn m n = pcn m k → lnf m n = lnf m k
  | 0, h, _ => by rw [show k = 0 by omega]
  | n + 1, h, e => by
    by_cases q : k = n + 1
    · subst q; rfl
    · have h1 := pcn_mono m n k (by omega)
      have hs := pcn_s m n
      have hb : ¬ m.testBit n = true := fun z => by rw [if_pos z] at hs; omega
      rw [if_neg hb] at hs
      have := lnf_eq (m := m) (k := k) n (by omega) (by omega)
      rw [← this]
      exact if_neg hb
/-- the boards, their stops and times -/
def bds (I : II) : Nat := nx (I 38 47)
def bst_ (I : II) (k : Nat) : Nat := lnf (bds I) (nS I) k
def bop (I : II) (d : Int32) (k : Nat) : Nat := frm I d (bst_ I k) (nL I)
def bcl (I : II) (d : Int32) (k : Nat) : Nat := 1440 + til I (d + 1) (bst_ I k) (nL I)
def bn (I : II) : Nat := pcn (bds I) (nS I)
theorem bn_le {D : Dn} {I : II} (g : Inv D I) : bn I ≤ 6 ∧ pcn (bds I) 16 = bn I ∧ (∀ k, k < bn I → bst_ I k < nS I) := by
  have gR := g.2.2.2.2.2.2.2.1
  have hnS : nS I ≤ 16 := g.2.1.1.1.2
  obtain ⟨-, h1, h2, h3⟩ := gR.2.2.1
  have hno : ∀ b, nS I ≤ b → (bds I).testBit b = false := fun b hb => Nat.testBit_lt_two_pow (Nat.lt_of_lt_of_le h2 (Nat.pow_le_pow_right (by decide) hb))
  have e := (lnf_same (bds I) hno 16 hnS).1
  refine ⟨?_, e, fun k hk => ((lnf_at (bds I) (nS I)).1 k hk).1⟩
  unfold bn
  rw [← e]
  exact h3
theorem x_plan (fu : Nat) (hfu : 100 < fu) {D : Dn} {I : II} (g : Inv D I) {d : Int32} {at_ now : Nat} (hat : at_ < nS I) (hnow : now ≤ 2879) :
    ∃ J' o, Rf_X3_plan fu (mkS D) I (nI (bds I)) d (nI at_) (nI now) = some J' ∧ Keep I J' ∧ Out (Vn (bn I) (far I) (bst_ I) (bop I d) (bcl I d) (bn I) at_ now 0) NB (bn I ^ bn I) o ∧ J' 23 7 = nI (best (Vn (bn I) (far I) (bst_ I) (bop I d) (bcl I d) (bn I) at_ now 0) NB o) ∧ ∀ x0, o = some x0 → ∀ k, k < bn I → J' 28 k = nI (bst_ I (dgt (bn I) (bn I) x0 k)) := by
  have hnS : nS I ≤ 16 := g.2.1.1.1.2
  have hnL : nL I ≤ 14 := g.2.2.1.1.1.2
  have gR := g.2.2.2.2.2.2.2.1
  obtain ⟨hb6, -, hbs⟩ := bn_le g
  have hbd : bds I ≤ 65535 := gR.2.2.1.2.1.2
  have eS : ∀ J' : II, Keep I J' → J' 1 3 = nI (nS I) := fun J' h => by rw [h 1 3 (by unfold scr; omega)]; exact g.2.1.1.2.trans g.2.1.1.1.1
  have k0 : Keep I (upI I 23 5 0) := fun a j z => by
    unfold upI
    rw [if_neg (fun e => z (by unfold scr; omega))]
  let P : Nat → II → Prop := fun s J' => Keep I J' ∧ J' 23 5 = nI (pcn (bds I) s) ∧ ∀ k, k < pcn (bds I) s → J' 24 k = nI (lnf (bds I) s k) ∧ J' 25 k = nI (frm I d (lnf (bds I) s k) (nL I)) ∧ J' 26 k = nI (1440 + til I (d + 1) (lnf (bds I) s k) (nL I))
  have step : ∀ s J', s < nS I → pcn (bds I) s < 6 → P s J' → ∃ J2, P (s + 1) J2 ∧ ∀ (_ : Unit) self, Rl_X3_plan_8 fu (mkS D) (nI (bds I)) d (nI at_) (nI now) self (nI s) J' = self (nI (s + 1)) J2 := by
    intro s J' hs hp6 ⟨q1, q2, q3⟩
    have hh := has_at (m := bds I) (s := s) (by omega) (by omega)
    have hsx := pcn_s (bds I) s
    have hc0 : ¬ nI (nS I) ≤ nI s := by rw [nI_le_iff (by omega) (by omega)]; omega
    have hc6 : ¬ (6 : Int32) ≤ nI (pcn (bds I) s) := by rw [show (6 : Int32) = nI 6 from rfl, nI_le_iff (by decide) (by omega)]; omega
    by_cases q : (bds I).testBit s = true
    · rw [if_pos q] at hh hsx
      obtain ⟨c, ec⟩ : ∃ c, pcn (bds I) s = c := ⟨_, rfl⟩
      rw [ec] at q2 q3 hsx hp6 hc6
      have kc := nx_nI (k := c) (by omega)
      have in6 : ∀ a : Nat, a ≠ 0 → inbL a 6 (nI c) := fun a ha => ⟨ha, nI_nn (by omega), by rw [kc]; exact hp6⟩
      have kA : Keep I (upI J' 24 c (nI s)) := q1.tr (fun a j z => by rw [upI_row (fun e => z (by unfold scr; omega))])
      have lb1 := (x_lastBus fu hfu g kA (s := s) (by omega) d).1
      have kB : Keep I (upI (upI J' 24 c (nI s)) 25 c (nI (frm I d s (nL I)))) := kA.tr (fun a j z => by rw [upI_row (fun e => z (by unfold scr; omega))])
      have fb1 := (x_lastBus fu hfu g kB (s := s) (by omega) (d + 1)).2
      obtain ⟨J2, eJ2⟩ : ∃ J2 : II, upI (upI (upI (upI J' 24 c (nI s)) 25 c (nI (frm I d s (nL I)))) 26 c (nI (1440 + til I (d + 1) s (nL I)))) 23 5 (nI (c + 1)) = J2 := ⟨_, rfl⟩
      have el : lnf (bds I) (s + 1) = upw (lnf (bds I) s) c s := by
        have : lnf (bds I) (s + 1) = upw (lnf (bds I) s) (pcn (bds I) s) s := if_pos q
        rw [ec] at this
        exact this
      refine ⟨J2, ⟨?_, ?_, fun k hk => ?_⟩, fun _ self => ?_⟩
      · rw [← eJ2]
        exact kB.tr (fun a j z => by
          unfold upI
          rw [if_neg (fun e => z (by unfold scr; omega)), if_neg (fun e => z (by unfold scr; omega))])
      · rw [← eJ2, upI_at, hsx]
      · rw [el, ← eJ2]
        unfold upw
        by_cases e : k = c
        · rw [if_pos e, e]
          refine ⟨?_, ?_, ?_⟩
          · rw [upI_row (by decide), upI_row (by decide), upI_row (by decide), upI_at]
          · rw [upI_row (by decide), upI_row (by decide), upI_at]
          · rw [upI_row (by decide), upI_at]
        · rw [if_neg e]
          obtain ⟨y1, y2, y3⟩ := q3 k (by omega)
          refine ⟨?_, ?_, ?_⟩
          · rw [upI_row (by decide), upI_row (by decide), upI_row (by decide), upI_cell e]; exact y1
          · rw [upI_row (by decide), upI_row (by decide), upI_cell e, upI_row (by decide)]; exact y2
          · rw [upI_row (by decide), upI_cell e, upI_row (by decide), upI_row (by decide)]; exact y3
      · have w1 : upI J' 24 c (nI s) 23 5 = nI c := by rw [upI_row (by decide)]; exact q2
        have w2 : upI (upI J' 24 c (nI s)) 25 c (nI (frm I d s (nL I))) 23 5 = nI c := by rw [upI_row (by decide)]; exact w1
        have w3 : upI (upI (upI J' 24 c (nI s)) 25 c (nI (frm I d s (nL I)))) 26 c (nI (1440 + til I (d + 1) s (nL I))) 23 5 = nI c := by rw [upI_row (by decide)]; exact w2
        have e1440 : (1440 : Int32) + nI (til I (d + 1) s (nL I)) = nI (1440 + til I (d + 1) s (nL I)) := nI_add 1440 _
        show Rl_X3_plan_8 fu (mkS D) (nI (bds I)) d (nI at_) (nI now) self (nI s) J' = _
        unfold Rl_X3_plan_8 Rj_X3_plan_103 wrN
        rw [eS J' q1, if_neg hc0, q2, if_neg hc6, hh, if_neg i1ne, gd_pos (in6 _ (by decide)), kc]
        simp only [lt]
        rw [lb1, Option.bind_some, w1, gd_pos (in6 _ (by decide)), kc, fb1, Option.bind_some, w2, gd_pos (in6 _ (by decide)), kc, e1440, w3, nI_p1, nI_p1, eJ2]
    · rw [if_neg q] at hh hsx
      refine ⟨J', ⟨q1, by rw [hsx]; exact q2, fun k hk => ?_⟩, fun _ self => ?_⟩
      · rw [show lnf (bds I) (s + 1) = lnf (bds I) s from if_neg q]
        exact q3 k (by omega)
      · show Rl_X3_plan_8 fu (mkS D) (nI (bds I)) d (nI at_) (nI now) self (nI s) J' = _
        unfold Rl_X3_plan_8 Rj_X3_plan_103
        rw [eS J' q1, if_neg hc0, q2, if_neg hc6, hh, if_pos rfl, nI_p1]
  obtain ⟨N, hN1, hN2, hN3⟩ : ∃ N, N ≤ nS I ∧ (∀ s, s < N → pcn (bds I) s < 6) ∧ (N = nS I ∨ 6 ≤ pcn (bds I) N) := by
    rcases fsts (fun s => pcn (bds I) s < 6) (nS I) with h | ⟨N, h1, h2, h3⟩
    · exact ⟨nS I, Nat.le_refl _, h, Or.inl rfl⟩
    · exact ⟨N, by omega, h2, Or.inr (by omega)⟩
  have hpN : pcn (bds I) N = bn I := by
    rcases hN3 with z | z
    · rw [z]; rfl
    · have := pcn_mono (bds I) (nS I) N hN1
      unfold bn at hb6 ⊢
      omega
  have hlN : lnf (bds I) N = bst_ I := by
    have := lnf_eq (m := bds I) (k := N) (nS I) hN1 (by rw [hpN]; rfl)
    rw [← this]
    rfl
  have main := fix2_ex (K := Unit) (F := fun _ => Rl_X3_plan_8 fu (mkS D) (nI (bds I)) d (nI at_) (nI now)) (fun i => nI i) P (fun _ J' => Rj_X3_plan_109 fu (mkS D) J' (nI at_) (nI now)) N (fun s J' hs hP => step s J' (by omega) (hN2 s hs) hP) (fun J' hP κ self => ?_) N 0 (upI I 23 5 0) (by omega) ⟨k0, upI_at, fun k hk => absurd hk (Nat.not_lt_zero _)⟩ fu (by omega)
  · obtain ⟨J1, ⟨q1, q2, q3⟩, hrun⟩ := main
    rw [hpN] at q2 q3
    rw [hlN] at q3
    have k1 : Keep I (upI J1 23 7 1073741824) := q1.tr (fun a j z => by
      unfold upI
      rw [if_neg (fun e => z (by unfold scr; omega))])
    have hNH : NH (nS I) (bn I) (far I) (bst_ I) (bop I d) (bcl I d) (upI J1 23 7 1073741824) := by
      refine ⟨⟨⟨eS _ k1, hnS⟩, fun a b ha hb => ⟨by rw [k1 4 _ (by unfold scr; omega)]; exact g.2.1.2.2 a b ha hb, far_le g.2.1 ha hb⟩⟩, ⟨by rw [upI_cell (by decide)]; exact q2, hb6⟩, fun b hb => ?_⟩
      obtain ⟨y1, y2, y3⟩ := q3 b hb
      have f1 := (frm_le g d (bst_ I b) (nL I) (Nat.le_refl _)).1
      have f2 := (frm_le g (d + 1) (bst_ I b) (nL I) (Nat.le_refl _)).2
      refine ⟨⟨by rw [upI_row (by decide)]; exact y1, hbs b hb⟩, ⟨by rw [upI_row (by decide)]; exact y2, by unfold bop; omega⟩, by rw [upI_row (by decide)]; exact y3, ?_⟩
      unfold bcl
      simp only [NB] at *
      omega
    obtain ⟨J2, o, z1, z2, z3, z4, z5, z6, z7⟩ := x_goOn fu hfu (D := D) (bn I) 8 (by omega) (upI J1 23 7 1073741824) at_ now 0 NB 0 hNH (by omega) upI_at (Nat.le_refl _) (by simp only [NB]; omega) (by omega) hat (by decide)
    refine ⟨J2, o, ?_, k1.tr (fun a j z => ?_), z2, z3, fun x0 e k hk => ?_⟩
    · refine (hrun ()).trans ?_
      unfold Rj_X3_plan_109
      simp only [lt]
      rw [re_X3_goOn, show Rf_X3_goOn fu (mkS D) 8 (upI J1 23 7 1073741824) 0 (nI at_) (nI now) 0 = some J2 from z1]
      rfl
    · by_cases e : a = 23
      · exact absurd (show scr a j by unfold scr; omega) z
      · rw [z4 a e (fun e => z (by unfold scr; omega)) (fun e => z (by unfold scr; omega))]
    · rcases z7 with ⟨y, -⟩ | ⟨x1, y1, y2, y3⟩
      · rw [e] at y; exact absurd y (by simp)
      · rw [e] at y1
        have ex := Option.some.inj y1
        subst ex
        have := y3 k hk
        rw [Nat.zero_add] at this
        exact this
  · obtain ⟨q1, q2, q3⟩ := hP
    show Rl_X3_plan_8 fu (mkS D) (nI (bds I)) d (nI at_) (nI now) self (nI N) J' = _
    unfold Rl_X3_plan_8
    rw [eS J' q1, q2]
    rcases hN3 with z | z
    · rw [z, if_pos (Int32.le_refl _)]
    · rw [if_pos (show (6 : Int32) ≤ nI (pcn (bds I) N) by rw [show (6 : Int32) = nI 6 from rfl, nI_le_iff (by decide) (by omega)]; exact z), ite_self]
