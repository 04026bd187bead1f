/-! night -/
theorem w_m1x {x : Int32} {n : Nat} (hn : n < 100) : ((x = -1 ∨ ∃ k, k < n ∧ x = nI k) → t_X10_isWithin x (-1) (nI n - 1) = 1) ∧ (¬ (x = -1 ∨ ∃ k, k < n ∧ x = nI k) → t_X10_isWithin x (-1) (nI n - 1) = 0) := by
  have e : (nI n - 1).toInt = (n : Int) - 1 := by
    rw [i32_sub (by rw [toInt_nI (by omega), show (1 : Int32).toInt = 1 from rfl]; omega) (by rw [toInt_nI (by omega), show (1 : Int32).toInt = 1 from rfl]; omega), toInt_nI (by omega), show (1 : Int32).toInt = 1 from rfl]
  have key : ((-1 : Int32) ≤ x ∧ x ≤ nI n - 1) ↔ (x = -1 ∨ ∃ k, k < n ∧ x = nI k) := by
    rw [Int32.le_iff_toInt_le, Int32.le_iff_toInt_le, e, show (-1 : Int32).toInt = -1 from rfl]
    constructor
    · rintro ⟨h1, h2⟩
      by_cases q : x.toInt = -1
      · left
        exact Int32.toInt_inj.mp (q.trans rfl)
      · right
        refine ⟨x.toInt.toNat, by omega, ?_⟩
        apply Int32.toInt_inj.mp
        rw [toInt_nI (by omega)]
        omega
    · rintro (rfl | ⟨k, hk, rfl⟩)
      · exact ⟨by decide, by show (-1 : Int) ≤ _; omega⟩
      · rw [toInt_nI (by omega)]
        omega
  rw [w_within]
  exact ⟨fun h => if_pos (key.mpr h), fun h => if_neg (fun z => h (key.mp z))⟩
theorem m_nightL (fu : Nat) (hfu : 70000 < fu) {D : Dn} {I J : II} (g : Inv D I) (hK : Keep I J) {d : Int32} {at_ now : Nat} {x : Int32} (hat : at_ < nS I) (hnow : now ≤ 2879) (hx : x = -1 ∨ ∃ k, k < bn I ∧ x = nI k) (e40 : J 38 40 = nI (bn I)) (hr : ∀ k, k < bn I → J 70 k = nI (bst_ I k) ∧ J 71 k = nI (bop I d k) ∧ J 72 k = nI (tiM (til I (d + 1) (bst_ I k) (nL I)))) :
    ∃ v J' o, fix4 (Rl_X11_night_91 fu (mkS D) (nI at_) (nI now) x (nI (bn I)) (nI (bn I ^ bn I))) fu (-9) 1000000 0 J = some (v, J') ∧ Keep I J' ∧ Out (Vn (bn I) (far I) (bst_ I) (bop I d) (bcl I d) (bn I) at_ now 0) NB (bn I ^ bn I) o ∧ ((o = none ∧ v = -9) ∨ ∃ x0, o = some x0 ∧ Vn (bn I) (far I) (bst_ I) (bop I d) (bcl I d) (bn I) at_ now 0 x0 ≤ 5000 ∧ ((x = -1 ∧ v = nI (Vn (bn I) (far I) (bst_ I) (bop I d) (bcl I d) (bn I) at_ now 0 x0)) ∨ ∃ k, k < bn I ∧ x = nI k ∧ v = nI (bst_ I (dgt (bn I) (bn I) x0 k)))) := by
  obtain ⟨hb6, -, hbs⟩ := bn_le g
  have hnS : nS I ≤ 16 := g.2.1.1.1.2
  generalize hn : bn I = n at *
  let V : Nat → Nat := Vn n (far I) (bst_ I) (bop I d) (bcl I d) n at_ now 0
  have hpw : n ^ n ≤ 46656 := by
    have h1 := Nat.pow_le_pow_left hb6 n
    have h2 := Nat.pow_le_pow_right (n := 6) (by decide) hb6
    exact Nat.le_trans h1 h2
  let P : Nat → Int32 → Int32 → II → Prop := fun r u v J' => Keep I J' ∧ J' 38 40 = nI n ∧ (∀ k, k < n → J' 70 k = nI (bst_ I k) ∧ J' 71 k = nI (bop I d k) ∧ J' 72 k = nI (tiM (til I (d + 1) (bst_ I k) (nL I)))) ∧ ∃ o, Out V NB r o ∧ ((o = none ∧ u = -9 ∧ v = nI MM) ∨ ∃ x0, o = some x0 ∧ u = nI x0 ∧ v = nI (V x0) ∧ V x0 ≤ 5000)
  have hp : 0 < n ∨ n = 0 := by omega
  have hlay : ∀ y J', y < n ^ n → Keep I J' → J' 38 40 = nI n → ∃ J1, Rf_X11_layRow fu (mkS D) J' (nI y) (nI n) = some J1 ∧ Keep I J1 ∧ (∀ b, b ≠ 68 → J1 b = J' b) ∧ ∀ k, k < n → J1 68 k = nI (dgt n n y k) ∧ dgt n n y k < n := by
    intro y J' hy h1 h2
    obtain ⟨J1, a1, a2, a3⟩ := m_layRow fu (by omega) (S := mkS D) (J := J') (n := n) (pc := n) (x := y) h2 (by omega) hp (by omega) (by omega)
    exact ⟨J1, a1, h1.tr (fun a j z => by rw [a2 a (fun e => z (by unfold scr; omega))]), a2, fun k hk => ⟨a3 k hk, Nat.mod_lt _ (by omega)⟩⟩
  have main := fix4_ex (K := Unit) (F := fun _ => Rl_X11_night_91 fu (mkS D) (nI at_) (nI now) x (nI n) (nI (n ^ n))) (fun i => nI i) P (fun _ u v J' => if u < 0 then Rj_X11_night_159 fu (mkS D) J' u v else if 0 ≤ x then (Rf_X11_layRow fu (mkS D) J' u (nI n)).bind fun q6 => (gd (inbL 69 14 x) (gd (inbL 71 6 (rdN q6 68 x)) (some (((rdN q6 70 (rdN q6 68 x)), q6))))) else Rj_X11_night_159 fu (mkS D) J' u v) (n ^ n) (fun y u v J' hy hP => ?_) (fun u v J' hP κ self => ?_) (n ^ n) 0 (-9) 1000000 J (by omega) ⟨hK, e40, hr, none, fun y hy => absurd hy (Nat.not_lt_zero _), Or.inl ⟨rfl, rfl, rfl⟩⟩ fu (by omega)
  · obtain ⟨u, v, J', ⟨q1, q2, q3, o, q4, q5⟩, hrun⟩ := main
    rcases q5 with ⟨y1, y2, y3⟩ | ⟨x0, y1, y2, y3, y4⟩
    · refine ⟨-9, J', o, (hrun ()).trans ?_, q1, q4, Or.inl ⟨y1, rfl⟩⟩
      unfold Rj_X11_night_159
      rw [y2, if_pos (by decide), if_neg (by decide)]
    · have hx0 : x0 < n ^ n := by rw [y1] at q4; exact q4.1
      have nu : ¬ u < 0 := by rw [y2]; exact nI_nn (by omega)
      rcases hx with rfl | ⟨k, hk, rfl⟩
      · refine ⟨nI (V x0), J', o, (hrun ()).trans ?_, q1, q4, Or.inr ⟨x0, y1, y4, Or.inl ⟨rfl, rfl⟩⟩⟩
        unfold Rj_X11_night_159
        rw [if_neg nu, if_neg (by decide), if_pos (Int32.not_lt.mp nu), y3]
      · obtain ⟨J1, a1, a2, a3, a4⟩ := hlay x0 J' hx0 q1 q2
        obtain ⟨b1, b2⟩ := a4 k hk
        have kk := nx_nI (k := k) (by omega)
        have kd := nx_nI (k := dgt n n x0 k) (by omega)
        have r68 : rdN J1 68 (nI k) = nI (dgt n n x0 k) := by unfold rdN; rw [kk]; exact b1
        have r70 : rdN J1 70 (nI (dgt n n x0 k)) = nI (bst_ I (dgt n n x0 k)) := by unfold rdN; rw [kd, a3 70 (by decide)]; exact (q3 _ b2).1
        refine ⟨nI (bst_ I (dgt n n x0 k)), J1, o, (hrun ()).trans ?_, a2, q4, Or.inr ⟨x0, y1, y4, Or.inr ⟨k, hk, rfl, rfl⟩⟩⟩
        rw [if_neg nu, if_pos (nonneg_nI (by omega)), y2, a1, Option.bind_some, gd_pos ⟨by decide, nI_nn (by omega), by rw [kk]; omega⟩, r68, gd_pos ⟨by decide, nI_nn (by omega), by rw [kd]; omega⟩, r70]
  · obtain ⟨q1, q2, q3, o, q4, q5⟩ := hP
    obtain ⟨J1, a1, a2, a3, a4⟩ := hlay y J' hy q1 q2
    have e40' : J1 38 40 = nI n := by rw [a3 38 (by decide)]; exact q2
    have hr' : ∀ k, k < n → J1 70 k = nI (bst_ I k) ∧ J1 71 k = nI (bop I d k) ∧ J1 72 k = nI (tiM (til I (d + 1) (bst_ I k) (nL I))) := fun k hk => by rw [a3 70 (by decide), a3 71 (by decide), a3 72 (by decide)]; exact q3 k hk
    have hun := m_allUn fu (by omega) (S := mkS D) (J := J1) (n := n) (c := dgt n n y) (by omega) e40' (fun k hk => ⟨(a4 k hk).1, by have := (a4 k hk).2; omega⟩)
    obtain ⟨hdb, hdb2⟩ := m_doneBy fu (D := D) g a2 (d := d) (n := n) (a := dgt n n y) hn.symm a4 hr' n 0 at_ now fu (by omega) hat (by omega) (by omega)
    have hymod : y % n ^ n = y := Nat.mod_eq_of_lt hy
    -- what the row says
    obtain ⟨s0, hs0, hrow⟩ : ∃ s0 : Int32, ((V y ≤ 5000 ∧ s0 = nI (V y)) ∨ (NB ≤ V y ∧ s0 = nI MM)) ∧ ∀ self, Rl_X11_night_91 fu (mkS D) (nI at_) (nI now) x (nI n) (nI (n ^ n)) self u v (nI y) J' = if v ≤ s0 then self u v (nI (y + 1)) J1 else self (nI y) s0 (nI (y + 1)) J1 := by
      have hgo : ∀ s0 : Int32, (∀ self, Rl_X11_night_91 fu (mkS D) (nI at_) (nI now) x (nI n) (nI (n ^ n)) self u v (nI y) J' = Rj_X11_night_126 fu (mkS D) J1 self (nI at_) (nI now) x (nI n) (nI (n ^ n)) u v (nI y) s0) → ∀ self, Rl_X11_night_91 fu (mkS D) (nI at_) (nI now) x (nI n) (nI (n ^ n)) self u v (nI y) J' = if v ≤ s0 then self u v (nI (y + 1)) J1 else self (nI y) s0 (nI (y + 1)) J1 := fun s0 h self => by
        rw [h self]
        unfold Rj_X11_night_126 Rj_X11_night_143
        rw [nI_p1]
      have hpre : ∀ self, Rl_X11_night_91 fu (mkS D) (nI at_) (nI now) x (nI n) (nI (n ^ n)) self u v (nI y) J' = if (if un (dgt n n y) n = true then (1 : Int32) else 0) = 0 then Rj_X11_night_126 fu (mkS D) J1 self (nI at_) (nI now) x (nI n) (nI (n ^ n)) u v (nI y) 1000000 else (Rf_X11_doneBy fu (mkS D) J1 (nI at_) (nI now) (nI n)).bind fun q20 => Rj_X11_night_126 fu (mkS D) J1 self (nI at_) (nI now) x (nI n) (nI (n ^ n)) u v (nI y) q20 := fun self => by
        unfold Rl_X11_night_91
        rw [if_neg (by rw [nI_le_iff (by omega) (by omega)]; omega), a1, Option.bind_some, hun, Option.bind_some]
      by_cases q : un (dgt n n y) n = true
      · have hVd : V y = Db (far I) (bst_ I) (bop I d) (bcl I d) (dgt n n y) n 0 at_ now := by
          have := Vn_db (n := n) (x := y) (fr := far I) (st := bst_ I) (op := bop I d) (cl := bcl I d) ((un_iff _ _).mp q) n 0 at_ now 0 (by omega) (fun b => by
            rw [Nat.zero_testBit]
            exact ⟨fun z => absurd z (by decide), fun ⟨j, hj, _⟩ => absurd hj (Nat.not_lt_zero _)⟩)
          rw [hymod] at this
          exact this
        refine ⟨nI (dbM (V y)), ?_, hgo _ (fun self => ?_)⟩
        · rw [← hVd] at hdb2
          unfold dbM
          rcases hdb2 with z | z
          · rw [if_pos z]; exact Or.inr ⟨by omega, rfl⟩
          · rw [if_neg (by simp only [NB]; omega)]; exact Or.inl ⟨z, rfl⟩
        · rw [hpre self, if_pos q, if_neg i1ne]
          unfold Rf_X11_doneBy
          rw [show fix3 (Rl_X11_doneBy_9 fu (mkS D) J1 (nI n)) fu (nI at_) (nI now) 0 = _ from hdb, Option.bind_some, hVd]
      · have hVn : NB ≤ V y := by
          rcases (by omega : NB ≤ V y ∨ V y < NB) with z | z
          · exact z
          · exfalso
            have := Vn_un (n := n) (x := y) (fr := far I) (st := bst_ I) (op := bop I d) (cl := bcl I d) n 0 at_ now 0 (by omega) (by simp only [NB]; omega) (by rw [hymod]; exact z)
            exact q ((un_iff _ _).mpr (fun j k hj hk => this.2 j k (Nat.zero_le _) hj hk))
        refine ⟨nI MM, Or.inr ⟨hVn, rfl⟩, hgo _ (fun self => ?_)⟩
        rw [hpre self, if_neg q, if_pos rfl]
        rfl
    have hone : ∀ o', Out (fun z => V (y + z)) (best V NB o) 1 o' → ∃ o2, Out V NB (y + 1) o2 ∧ ((o' = none ∧ o2 = o) ∨ ∃ x', o' = some x' ∧ o2 = some (y + x')) := fun o' h => by
      obtain ⟨o2, z1, z2, z3⟩ := Out.more q4 h
      exact ⟨o2, z1, z3⟩
    rcases hs0 with ⟨v1, v2⟩ | ⟨v1, v2⟩
    · -- a good row
      by_cases z : best V NB o ≤ V y
      · obtain ⟨o2, w1, w2⟩ := hone none (fun t ht => by
          have : t = 0 := by omega
          subst this
          exact z)
        have eo : o2 = o := by
          rcases w2 with ⟨-, w⟩ | ⟨x', w, -⟩
          · exact w
          · exact absurd w (by simp)
        subst eo
        have hle : v ≤ s0 := by
          rcases q5 with ⟨y1, y2, y3⟩ | ⟨x0, y1, y2, y3, y4⟩
          · rw [y1] at z
            have : NB ≤ V y := z
            simp only [NB] at this
            omega
          · rw [y1] at z
            have : V x0 ≤ V y := z
            rw [y3, v2, nI_le_iff (by omega) (by omega)]
            exact this
        exact ⟨u, v, J1, ⟨a2, e40', hr', o2, w1, q5⟩, fun _ self => (hrow self).trans (if_pos hle)⟩
      · obtain ⟨o2, w1, w2⟩ := hone (some 0) ⟨by decide, by show V (y + 0) < best V NB o; rw [Nat.add_zero]; omega, fun t ht => by
          have : t = 0 := by omega
          subst this
          exact ⟨Nat.le_refl _, fun w => absurd w (Nat.lt_irrefl _)⟩⟩
        have eo : o2 = some y := by
          rcases w2 with ⟨w, -⟩ | ⟨x', w, w'⟩
          · exact absurd w (by simp)
          · have := Option.some.inj w
            subst this
            exact w'
        subst eo
        have hle : ¬ v ≤ s0 := by
          rcases q5 with ⟨y1, y2, y3⟩ | ⟨x0, y1, y2, y3, y4⟩
          · rw [y3, v2, nI_le_iff (by decide) (by omega)]
            simp only [MM]
            omega
          · rw [y1] at z
            have : ¬ V x0 ≤ V y := z
            rw [y3, v2, nI_le_iff (by omega) (by omega)]
            exact this
        exact ⟨_, _, J1, ⟨a2, e40', hr', some y, w1, Or.inr ⟨y, rfl, rfl, v2, v1⟩⟩, fun _ self => (hrow self).trans (if_neg hle)⟩
    · -- a row that fails
      have hbl := best_le q4
      obtain ⟨o2, w1, w2⟩ := hone none (fun t ht => by
        have : t = 0 := by omega
        subst this
        show best V NB o ≤ V (y + 0)
        rw [Nat.add_zero]
        omega)
      have eo : o2 = o := by
        rcases w2 with ⟨-, w⟩ | ⟨x', w, -⟩
        · exact w
        · exact absurd w (by simp)
      subst eo
      have hle : v ≤ s0 := by
        rcases q5 with ⟨y1, y2, y3⟩ | ⟨x0, y1, y2, y3, y4⟩
        · rw [y3, v2]; exact Int32.le_refl _
        · rw [y3, v2, nI_le_iff (by omega) (by decide)]
          simp only [MM]
          omega
      exact ⟨u, v, J1, ⟨a2, e40', hr', o2, w1, q5⟩, fun _ self => (hrow self).trans (if_pos hle)⟩
  · show Rl_X11_night_91 fu (mkS D) (nI at_) (nI now) x (nI n) (nI (n ^ n)) self u v (nI (n ^ n)) J' = _
    unfold Rl_X11_night_91
    rw [if_pos (Int32.le_refl _)]
