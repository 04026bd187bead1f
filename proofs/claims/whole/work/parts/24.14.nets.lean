/-! best: the reference's nets -/
theorem bmS_mono (I : II) (sel : Nat → Bool) : ∀ n k, k ≤ n → bmS I sel k ≤ bmS I sel n
  | 0, k, h => by rw [show k = 0 by omega]; exact Nat.le_refl _
  | n + 1, k, h => by
    by_cases e : k = n + 1
    · subst e; exact Nat.le_refl _
    · have := bmS_mono I sel n k (by omega)
      show _ ≤ bmS I sel n + _
      omega
theorem m_busM (fu : Nat) (hfu : 100 < fu) {D : Dn} {I : II} (g : Inv D I) {set : Nat} (hs : set < 2147483648) (d : Int32) :
    ((∀ k, k < nO I → set.testBit k = true → gn I (oL I k) d ≠ 0) → bmS I set.testBit (nO I) < MM → Rf_X11_busMinutes fu (mkS D) I (nI set) d = some (nI (bmS I set.testBit (nO I)))) ∧
    (¬ ((∀ k, k < nO I → set.testBit k = true → gn I (oL I k) d ≠ 0) ∧ bmS I set.testBit (nO I) < MM) → Rf_X11_busMinutes fu (mkS D) I (nI set) d = some 1000000) := by
  have gO := g.2.2.2.2.2.1
  have hnO : nO I ≤ 4 := gO.1.1.2
  have eO : I 38 34 = nI (nO I) := gO.1.1.1
  have hnL : nL I ≤ 14 := g.2.2.1.1.1.2
  have step : ∀ k, k < nO I → bmS I set.testBit k < MM → ∀ self, Rl_X11_busMinutes_5 fu (mkS D) I (nI set) d self (nI (bmS I set.testBit k)) (nI k) = if (set.testBit k = true → gn I (oL I k) d ≠ 0) ∧ bmS I set.testBit (k + 1) < MM then self (nI (bmS I set.testBit (k + 1))) (nI (k + 1)) else some 1000000 := by
    intro k hk hlt self
    have kk := nx_nI (k := k) (by omega)
    have hh : t_X11_hasBit (nI set) (nI k) = if set.testBit k = true then 1 else 0 := (hasBit_has _ _).trans (has_at hs (by omega))
    have hoL := (gO.2.1 k hk).2.1
    have e63 : rdN I 63 (nI k) = nI (oL I k) := by unfold rdN; rw [kk]; exact (gO.2.1 k hk).1.1
    obtain ⟨r, x⟩ := g.2.2.1.2.1 (oL I k) hoL
    have hc := cL_le r
    have e : bmS I set.testBit (k + 1) = bmS I set.testBit k + (if set.testBit k = true then cL I (oL I k) else 0) := rfl
    unfold Rl_X11_busMinutes_5 Rj_X11_busMinutes_68 Rj_X11_busMinutes_69
    rw [eO, if_neg (by rw [nI_le_iff (by omega) (by omega)]; omega), hh, e]
    by_cases q : set.testBit k = true
    · rw [if_pos q, if_neg i1ne, if_pos q, gd_pos ⟨by decide, nI_nn (by omega), by rw [kk]; omega⟩, e63, m_runs fu (by omega) x, Option.bind_some]
      by_cases z : gn I (oL I k) d = 0
      · have c : ¬ ((set.testBit k = true → gn I (oL I k) d ≠ 0) ∧ bmS I set.testBit k + cL I (oL I k) < MM) := fun y => y.1 q z
        rw [if_pos z, if_neg (show ¬ (1000000 : Int32) < 1000000 by decide), if_neg c]
      · rw [if_neg z, m_buses fu (by omega) r, Option.bind_some, m_round fu (by omega) r, Option.bind_some, nI_mul, nI_add, nI_p1]
        have cc : nI (bmS I set.testBit k + nb I (oL I k) * rnd I (oL I k)) < (1000000 : Int32) ↔ bmS I set.testBit k + cL I (oL I k) < MM := by
          rw [show (1000000 : Int32) = nI 1000000 from rfl, nI_lt_iff (by unfold cL at hc; simp only [MM] at *; omega) (by decide)]
          rfl
        by_cases y : bmS I set.testBit k + cL I (oL I k) < MM
        · have c : (set.testBit k = true → gn I (oL I k) d ≠ 0) ∧ bmS I set.testBit k + cL I (oL I k) < MM := ⟨fun _ => z, y⟩
          rw [if_pos (cc.mpr y), if_pos c]
          rfl
        · have c : ¬ ((set.testBit k = true → gn I (oL I k) d ≠ 0) ∧ bmS I set.testBit k + cL I (oL I k) < MM) := fun w => y w.2
          rw [if_neg (fun w => y (cc.mp w)), if_neg c]
    · have c : (set.testBit k = true → gn I (oL I k) d ≠ 0) ∧ bmS I set.testBit k + 0 < MM := ⟨fun y => absurd y q, by rw [Nat.add_zero]; exact hlt⟩
      have c0 : nI (bmS I set.testBit k) < (1000000 : Int32) := by
        rw [show (1000000 : Int32) = nI 1000000 from rfl, nI_lt_iff (by simp only [MM] at *; omega) (by decide)]
        exact hlt
      rw [if_neg q, if_pos rfl, if_neg q, if_pos c0, if_pos c, nI_p1]
      rfl
  unfold Rf_X11_busMinutes
  constructor
  · intro h1 h2
    refine fix2_run (F := Rl_X11_busMinutes_5 fu (mkS D) I (nI set) d) (fun k => nI (bmS I set.testBit k)) (fun k => nI k) (nO I) (fun k hk self => ?_) (fun self => ?_) fu (by omega)
    · have hm1 := bmS_mono I set.testBit (nO I) k (by omega)
      have hm2 := bmS_mono I set.testBit (nO I) (k + 1) (by omega)
      exact (step k hk (by omega) self).trans (if_pos ⟨h1 k hk, by omega⟩)
    · unfold Rl_X11_busMinutes_5
      rw [eO, if_pos (Int32.le_refl _)]
  · intro hno
    rcases fsts (fun k => (set.testBit k = true → gn I (oL I k) d ≠ 0) ∧ bmS I set.testBit (k + 1) < MM) (nO I) with h | ⟨N, h1, h2, h3⟩
    · exfalso
      apply hno
      refine ⟨fun k hk => (h k hk).1, ?_⟩
      by_cases e : nO I = 0
      · rw [e]; show 0 < MM; decide
      · have := (h (nO I - 1) (by omega)).2
        rw [show nO I - 1 + 1 = nO I by omega] at this
        exact this
    · have hpre : ∀ k, k ≤ N → bmS I set.testBit k < MM := fun k hk => by
        by_cases e : k = 0
        · subst e; show 0 < MM; decide
        · have := (h2 (k - 1) (by omega)).2
          rw [show k - 1 + 1 = k by omega] at this
          exact this
      refine fix2_run (F := Rl_X11_busMinutes_5 fu (mkS D) I (nI set) d) (fun k => nI (bmS I set.testBit k)) (fun k => nI k) N (fun k hk self => ?_) (fun self => ?_) fu (by omega)
      · exact (step k (by omega) (hpre k (by omega)) self).trans (if_pos (h2 k hk))
      · exact (step N h1 (hpre N (Nat.le_refl _)) self).trans (if_neg h3)
theorem andn_bit {a b : Nat} (ha : a < 2 ^ 32) (i : Nat) : (a &&& (b ^^^ 4294967295)).testBit i = (a.testBit i && !b.testBit i) := by
  rw [Nat.testBit_and, Nat.testBit_xor, show (4294967295 : Nat) = 2 ^ 32 - 1 from rfl, Nat.testBit_two_pow_sub_one]
  by_cases q : i < 32
  · rw [decide_eq_true q, Bool.xor_true]
  · have : a.testBit i = false := Nat.testBit_lt_two_pow (Nat.lt_of_lt_of_le ha (Nat.pow_le_pow_right (by decide) (by omega)))
    rw [this]
    rfl
theorem andn_lt {a b n : Nat} (ha : a < 2 ^ n) : a &&& b < 2 ^ n := Nat.lt_of_le_of_lt Nat.and_le_left ha
theorem nI_m1 : (-1 : Int32) = nI 4294967295 := rfl
def rn (I : II) (sel : Nat → Bool) (m : Nat) : Nat → Nat
  | 0 => m
  | k + 1 => if sel k = true then rn I sel m k else rn I sel m k &&& (2 ^ oL I k ^^^ 4294967295)
theorem rn_lt (I : II) (sel : Nat → Bool) {m : Nat} (hm : m < 2 ^ 14) : ∀ k, rn I sel m k < 2 ^ 14
  | 0 => hm
  | k + 1 => by
    have := rn_lt I sel hm k
    unfold rn
    split
    · exact this
    · exact andn_lt this
theorem rn_bit (I : II) (sel : Nat → Bool) {m : Nat} (hm : m < 2 ^ 14) (i : Nat) : ∀ k, (rn I sel m k).testBit i = true ↔ m.testBit i = true ∧ ∀ k', k' < k → sel k' = false → oL I k' ≠ i
  | 0 => ⟨fun h => ⟨h, fun k' hk' => absurd hk' (Nat.not_lt_zero _)⟩, fun h => h.1⟩
  | k + 1 => by
    have ih := rn_bit I sel hm i k
    have hlt := rn_lt I sel hm k
    unfold rn
    cases h : sel k with
    | true =>
      rw [if_pos rfl, ih]
      constructor
      · rintro ⟨h1, h2⟩
        refine ⟨h1, fun k' hk' hs => ?_⟩
        by_cases e : k' = k
        · subst e; rw [h] at hs; exact absurd hs (by decide)
        · exact h2 k' (by omega) hs
      · rintro ⟨h1, h2⟩
        exact ⟨h1, fun k' hk' hs => h2 k' (by omega) hs⟩
    | false =>
      rw [if_neg (by decide), andn_bit (by omega), Bool.and_eq_true, ih, Nat.testBit_two_pow]
      constructor
      · rintro ⟨⟨h1, h2⟩, h3⟩
        refine ⟨h1, fun k' hk' hs => ?_⟩
        by_cases e : k' = k
        · subst e
          intro z
          rw [decide_eq_true z] at h3
          exact absurd h3 (by decide)
        · exact h2 k' (by omega) hs
      · rintro ⟨h1, h2⟩
        refine ⟨⟨h1, fun k' hk' hs => h2 k' (by omega) hs⟩, ?_⟩
        rw [decide_eq_false (h2 k (by omega) h)]
        rfl
theorem m_net (fu : Nat) (hfu : 100 < fu) {D : Dn} {I J : II} (g : Inv D I) (hK : Keep I J) {set : Nat} (hs : set < 2147483648) (d : Int32) : ∃ J', Rf_X11_rideNet fu (mkS D) J (nI set) d = some J' ∧ Keep I J' ∧ J' 38 28 = nI (rn I set.testBit (rs I d (nL I)) (nO I)) := by
  have gO := g.2.2.2.2.2.1
  have hnO : nO I ≤ 4 := gO.1.1.2
  have eO : I 38 34 = nI (nO I) := gO.1.1.1
  have hnL : nL I ≤ 14 := g.2.2.1.1.1.2
  have hm := rs_14 g d
  have k0 : Keep I (upI J 38 28 (nI (rs I d (nL I)))) := hK.tr (fun a j z => by
    unfold upI
    rw [if_neg (fun e => z (by unfold scr; omega))])
  have main := fix2_ex (K := Unit) (F := fun _ => Rl_X11_rideNet_11 fu (mkS D) (nI set)) (fun i => nI i) (fun k J' => Keep I J' ∧ J' 38 28 = nI (rn I set.testBit (rs I d (nL I)) k)) (fun _ J' => some J') (nO I) (fun k J' hk hP => ?_) (fun J' hP κ self => ?_) (nO I) 0 (upI J 38 28 (nI (rs I d (nL I)))) (by omega) ⟨k0, upI_at⟩ fu (by omega)
  · obtain ⟨J', ⟨h1, h2⟩, hrun⟩ := main
    refine ⟨J', ?_, h1, h2⟩
    unfold Rf_X11_rideNet
    rw [m_running fu hfu g hK, Option.bind_some]
    exact hrun ()
  · obtain ⟨hK', e28⟩ := hP
    have kk := nx_nI (k := k) (by omega)
    have hh : t_X11_hasBit (nI set) (nI k) = if set.testBit k = true then 1 else 0 := (hasBit_has _ _).trans (has_at hs (by omega))
    have hoL := (gO.2.1 k hk).2.1
    have e63 : rdN J' 63 (nI k) = nI (oL I k) := by unfold rdN; rw [kk, hK' 63 k (by unfold scr; omega)]; exact (gO.2.1 k hk).1.1
    have e34 : J' 38 34 = nI (nO I) := by rw [hK' 38 34 (by unfold scr; omega)]; exact eO
    have hlt := rn_lt I set.testBit (show rs I d (nL I) < 2 ^ 14 from hm) k
    have h2l : 2 ^ oL I k < 2 ^ 14 := Nat.pow_lt_pow_right (by decide) (by omega)
    refine ⟨upI J' 38 28 (nI (rn I set.testBit (rs I d (nL I)) (k + 1))), ⟨hK'.tr (fun a j z => by
      unfold upI
      rw [if_neg (fun e => z (by unfold scr; omega))]), upI_at⟩, fun _ self => ?_⟩
    have e : rn I set.testBit (rs I d (nL I)) (k + 1) = if set.testBit k = true then rn I set.testBit (rs I d (nL I)) k else rn I set.testBit (rs I d (nL I)) k &&& (2 ^ oL I k ^^^ 4294967295) := rfl
    show Rl_X11_rideNet_11 fu (mkS D) (nI set) self (nI k) J' = _
    unfold Rl_X11_rideNet_11 Rj_X11_rideNet_46
    simp only [lt]
    rw [e34, if_neg (by rw [nI_le_iff (by omega) (by omega)]; omega), hh, e, e28, nI_p1]
    by_cases q : set.testBit k = true
    · rw [if_pos q, if_neg i1ne, if_pos q, nI_m1, nI_and (by omega) (by decide), show (4294967295 : Nat) = 2 ^ 32 - 1 from rfl, Nat.and_two_pow_sub_one_of_lt_two_pow (by omega)]
    · have hx : 2 ^ oL I k ^^^ 4294967295 < 4294967296 := Nat.xor_lt_two_pow (n := 32) (by omega) (by decide)
      rw [if_neg q, if_pos rfl, if_neg q, gd_pos ⟨by decide, nI_nn (by omega), by rw [kk]; omega⟩, e63, nI_one (by omega), nI_m1, nI_xor (by omega) (by decide), nI_and (by omega) (by omega)]
  · obtain ⟨hK', e28⟩ := hP
    have e34 : J' 38 34 = nI (nO I) := by rw [hK' 38 34 (by unfold scr; omega)]; exact eO
    show Rl_X11_rideNet_11 fu (mkS D) (nI set) self (nI (nO I)) J' = _
    unfold Rl_X11_rideNet_11
    rw [e34, if_pos (Int32.le_refl _)]
theorem m_tallyR (fu : Nat) (hfu : 2100 < fu) {D : Dn} {I J : II} (g : Inv D I) (hK : Keep I J) {mask : Nat} (hm : mask < 2147483648) (e28 : J 38 28 = nI mask) (x1 x2 x3 x4 x5 x6 x7 : Int32) : ∃ J', Keep I J' ∧ ∀ s47, fix4 (Rl_X11_best_85 fu (mkS D) s47 x1 x2 x3 x4 x5 x6 x7) fu 0 0 0 J = if x4 < 0 ∨ x5 < nI (tg I mask (nP I)) ∨ (nI (tg I mask (nP I)) = x5 ∧ ¬ x6 ≤ nI (ts I mask (nP I))) then s47 x7 (nI (tg I mask (nP I))) (nI (ts I mask (nP I))) (x7 + 1) J' else s47 x4 x5 x6 (x7 + 1) J' := by
  have hnP : nP I ≤ 6 := g.2.2.2.2.1.1.1.2
  have eP : I 38 22 = nI (nP I) := g.2.2.2.2.1.1.1.1
  have main := fix4_ex (K := Int32 → Int32 → Int32 → Int32 → II → Option (Int32 × II)) (F := fun κ => Rl_X11_best_85 fu (mkS D) κ x1 x2 x3 x4 x5 x6 x7) (fun i => nI i) (fun i u v J' => u = nI (tg I mask i) ∧ v = nI (ts I mask i) ∧ Keep I J' ∧ J' 38 28 = nI mask) (fun κ u v J' => if x4 < 0 ∨ x5 < u ∨ (u = x5 ∧ ¬ x6 ≤ v) then κ x7 u v (x7 + 1) J' else κ x4 x5 x6 (x7 + 1) J') (nP I) (fun t u v J' ht hP => ?_) (fun u v J' hP κ self => ?_) (nP I) 0 0 0 J (by omega) ⟨rfl, rfl, hK, e28⟩ fu (by omega)
  · obtain ⟨u, v, J', ⟨rfl, rfl, h2, -⟩, h3⟩ := main
    exact ⟨J', h2, h3⟩
  · obtain ⟨rfl, rfl, hK', e28'⟩ := hP
    obtain ⟨J2, d1, ⟨d2, d3⟩, bb, rd, wk, d4, d5, d6⟩ := m_layWay fu hfu g hK' hm e28' ht
    have hbd := AV_bd fu hfu g hm ht
    have eav := AV_eq d4
    have e1 : tg I mask (t + 1) = if AV I mask t = NB then tg I mask t else tg I mask t + 1 := rfl
    have e2 : ts I mask (t + 1) = if AV I mask t = NB then ts I mask t else ts I mask t + AV I mask t := rfl
    refine ⟨_, _, J2, ⟨rfl, rfl, hK'.tr d2, d3⟩, fun κ self => ?_⟩
    show Rl_X11_best_85 fu (mkS D) κ x1 x2 x3 x4 x5 x6 x7 self _ _ (nI t) J' = _
    unfold Rl_X11_best_85 Rj_X11_best_116 Rj_X11_best_138
    simp only [lt]
    rw [hK' 38 22 (by unfold scr; omega), eP, if_neg (by rw [nI_le_iff (by omega) (by omega)]; omega), d1, Option.bind_some, e1, e2]
    rw [← eav] at d5 d6
    by_cases q : AV I mask t = NB
    · have c : (1000000 : Int32) ≤ J2 38 31 := by rw [d5 q]; decide
      rw [if_pos c, if_pos c, if_pos q, if_pos q, nI_p1, Int32.add_zero, Int32.add_zero]
    · have hle : AV I mask t ≤ 1730 := hbd.resolve_left q
      obtain ⟨d7, d8, -, -⟩ := d6 (by simp only [NB]; omega)
      have c : ¬ (1000000 : Int32) ≤ J2 38 31 := by
        rw [d8, show (1000000 : Int32) = nI 1000000 from rfl, nI_le_iff (by decide) (by omega)]
        omega
      rw [if_neg c, if_neg c, if_neg q, if_neg q, d8, nI_p1, nI_p1, nI_add]
  · obtain ⟨rfl, rfl, hK', e28'⟩ := hP
    show Rl_X11_best_85 fu (mkS D) κ x1 x2 x3 x4 x5 x6 x7 self _ _ (nI (nP I)) J' = _
    unfold Rl_X11_best_85 Rj_X11_best_173 Rj_X11_best_185
    rw [hK' 38 22 (by unfold scr; omega), eP, if_pos (Int32.le_refl _)]
    by_cases q1 : x4 < 0
    · rw [if_pos q1, if_pos (Or.inl q1)]
    · rw [if_neg q1]
      by_cases q2 : x5 < nI (tg I mask (nP I))
      · rw [if_pos q2, if_pos (Or.inr (Or.inl q2))]
      · rw [if_neg q2]
        by_cases q3 : nI (tg I mask (nP I)) = x5
        · rw [if_pos q3]
          by_cases q4 : x6 ≤ nI (ts I mask (nP I))
          · rw [if_pos q4, if_neg]
            rintro (z | z | z)
            · exact q1 z
            · exact q2 z
            · exact z.2 q4
          · rw [if_neg q4, if_pos (Or.inr (Or.inr ⟨q3, q4⟩))]
        · rw [if_neg q3, if_neg]
          rintro (z | z | z)
          · exact q1 z
          · exact q2 z
          · exact q3 z.1
