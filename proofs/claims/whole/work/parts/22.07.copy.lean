/-! copy -/
theorem ix60b {k i x : Nat} : (60 : Int32) * nI k + nI i + nI x = nI (60 * k + i + x) := by rw [ix60, nI_add]
theorem m_copy2 (fu : Nat) (hfu : 100 < fu) {D : Dn} {o j n : Nat} (ho : o < 4) (hj : j + n ≤ 60) (J : II) : fix2 (Rl_X11_copy_144 fu (mkS D) (nI o) (nI j) (nI n)) fu 0 J = some (nI n, upI (fun a c => if a = 75 ∧ 60 * o + j ≤ c ∧ c < 60 * o + j + n then J 76 (c - (60 * o + j)) else J a c) 38 0 0) := by
  have := fix2_run (F := Rl_X11_copy_144 fu (mkS D) (nI o) (nI j) (nI n)) (out := some (nI n, upI (fun a c => if a = 75 ∧ 60 * o + j ≤ c ∧ c < 60 * o + j + n then J 76 (c - (60 * o + j)) else J a c) 38 0 0)) (fun i => nI i) (fun i => fun a c => if a = 75 ∧ 60 * o + j ≤ c ∧ c < 60 * o + j + i then J 76 (c - (60 * o + j)) else J a c) n (fun i hi self => ?_) (fun self => ?_) fu (by omega)
  · have e0 : (fun a c => if a = 75 ∧ 60 * o + j ≤ c ∧ c < 60 * o + j + 0 then J 76 (c - (60 * o + j)) else J a c) = J := by
      funext a c
      rw [if_neg (by omega)]
    rw [e0] at this
    exact this
  · have ei := nx_nI (k := i) (by omega)
    have ei2 := nx_nI (k := 60 * o + j + i) (by omega)
    unfold Rl_X11_copy_144
    rw [if_neg (by rw [nI_le_iff (by omega) (by omega)]; omega), ix60b, gd_pos ⟨by decide, nI_nn (by omega), by rw [ei]; omega⟩, gd_pos ⟨by decide, nI_nn (by omega), by rw [ei2]; omega⟩]
    simp only [lt, wrN, rdN, ei, ei2, nI_1]
    congr 1
    funext a c
    simp only [upI]
    by_cases z1 : a = 75
    · subst z1
      by_cases z2 : c = 60 * o + j + i
      · subst z2
        rw [if_pos ⟨rfl, rfl⟩, if_neg (by omega), if_pos (by omega)]
        congr 1
        omega
      · rw [if_neg (by omega)]
        by_cases z3 : 60 * o + j ≤ c ∧ c < 60 * o + j + i
        · rw [if_pos ⟨rfl, z3⟩, if_pos (by omega)]
        · rw [if_neg (by omega), if_neg (by omega)]
    · rw [if_neg (by omega), if_neg (by omega), if_neg (by omega)]
  · unfold Rl_X11_copy_144
    rw [if_pos (Int32.le_refl _), m_refused]
    rfl
theorem m_copy1 (fu : Nat) (hfu : 100 < fu) {D : Dn} {k i o j n : Nat} (hk : k < 4) (hi : i + n ≤ 60) (J : II) : fix2 (Rl_X11_copy_107 fu (mkS D) (nI k) (nI i) (nI o) (nI j) (nI n)) fu 0 J = fix2 (Rl_X11_copy_144 fu (mkS D) (nI o) (nI j) (nI n)) fu 0 (fun a c => if a = 76 ∧ c < n then J 75 (60 * k + i + c) else J a c) := by
  have := fix2_run (F := Rl_X11_copy_107 fu (mkS D) (nI k) (nI i) (nI o) (nI j) (nI n)) (out := fix2 (Rl_X11_copy_144 fu (mkS D) (nI o) (nI j) (nI n)) fu 0 (fun a c => if a = 76 ∧ c < n then J 75 (60 * k + i + c) else J a c)) (fun x => nI x) (fun x => fun a c => if a = 76 ∧ c < x then J 75 (60 * k + i + c) else J a c) n (fun x hx self => ?_) (fun self => ?_) fu (by omega)
  · have e0 : (fun a c => if a = 76 ∧ c < 0 then J 75 (60 * k + i + c) else J a c) = J := by
      funext a c
      rw [if_neg (by omega)]
    rw [e0] at this
    exact this
  · have ei := nx_nI (k := x) (by omega)
    have ei2 := nx_nI (k := 60 * k + i + x) (by omega)
    unfold Rl_X11_copy_107
    rw [if_neg (by rw [nI_le_iff (by omega) (by omega)]; omega), ix60b, gd_pos ⟨by decide, nI_nn (by omega), by rw [ei2]; omega⟩, gd_pos ⟨by decide, nI_nn (by omega), by rw [ei]; omega⟩]
    simp only [lt, wrN, rdN, ei, ei2, nI_1]
    congr 1
    funext a c
    simp only [upI]
    by_cases z1 : a = 76
    · subst z1
      by_cases z2 : c = x
      · subst z2
        rw [if_pos ⟨rfl, rfl⟩, if_neg (by omega), if_pos (by omega)]
      · rw [if_neg (by omega)]
        by_cases z3 : c < x
        · rw [if_pos ⟨rfl, z3⟩, if_pos (by omega)]
        · rw [if_neg (by omega), if_neg (by omega)]
    · rw [if_neg (by omega), if_neg (by omega), if_neg (by omega)]
  · unfold Rl_X11_copy_107
    rw [if_pos (Int32.le_refl _)]
theorem p_copy (fu : Nat) (hfu : 100 < fu) {D : Dn} {I : II} (g : Inv D I) (x i y j n : Int32) : ∃ r I1 I2, Rf_X10_copy fu (mkS D) I x i y j n = some (r, I1) ∧ Rf_X11_copy fu (mkS D) I1 x i y j n = some (r, I2) ∧ Inv D I2 := by
  have hgH := g.2.2.2.2.2.2.2.2
  unfold Rf_X10_copy Rj_X10_copy_53 Rj_X10_copy_103
  simp only [lt, x_fail, Option.bind_some, upI_twice]
  have eR : ∀ (v : Int32) (a c : Nat), a ≠ 0 → upI I 0 18 v a c = I a c := fun v a c h => by rw [upI_row h]
  rcases sheet_cases x with ⟨h1, h2⟩ | ⟨k, hk, rfl, h1, h2⟩
  · refine ⟨-1, upI I 0 18 0, _, by rw [if_pos h1], ?_, g.fault 0⟩
    unfold Rf_X11_copy Rj_X11_copy_14
    rw [h2, if_neg i1ne, m_refused]; rfl
  · rcases sheet_cases y with ⟨h3, h4⟩ | ⟨o, ho, rfl, h3, h4⟩
    · refine ⟨-1, upI I 0 18 0, _, by rw [if_neg (by rw [h1]; decide), if_pos h3], ?_, g.fault 0⟩
      unfold Rf_X11_copy Rj_X11_copy_14
      rw [h2, if_pos rfl, h4, if_neg i1ne, m_refused]; rfl
    · have ek := nx_nI (k := k) (by omega)
      have eo := nx_nI (k := o) (by omega)
      obtain ⟨p1, p2, p3⟩ := mk_sheet (D := D) hk
      obtain ⟨q1, q2, q3⟩ := mk_sheet (D := D) ho
      have hik : ∀ a, a ≠ 0 → inbL a 4 (nI k) := fun a ha => ⟨ha, nI_nn (by omega), by rw [ek]; omega⟩
      have hio : ∀ a, a ≠ 0 → inbL a 4 (nI o) := fun a ha => ⟨ha, nI_nn (by omega), by rw [eo]; omega⟩
      rw [if_neg (by rw [h1]; decide), if_neg (by rw [h3]; decide), gd_pos (hik _ (by decide)), gd_pos (hio _ (by decide))]
      simp only [ek, eo, p1, q1]
      rw [gd_pos (by omega), gd_pos (by omega), show 31 + 2 * k - 1 = 30 + 2 * k by omega, show 31 + 2 * o - 1 = 30 + 2 * o by omega, p2, q2, eR _ _ _ (by omega), eR _ _ _ (by omega), eR _ _ _ (by omega), eR _ _ _ (by omega)]
      -- the reference, when it refuses
      have href : ∀ v : Int32, Rf_X11_copy fu (mkS D) (upI I 0 18 v) (nI k) i (nI o) j n = if I 73 k < 0 then some (-11, upI (upI I 0 18 v) 38 0 1) else if 0 ≤ I 73 o then (if I 74 k = I 74 o then (if t_X11_isBeyond i n.toInt64 (I 73 k) = 0 then (if t_X11_isBeyond j n.toInt64 (I 73 o) = 0 then fix2 (Rl_X11_copy_107 fu (mkS D) (nI k) i (nI o) j n) fu 0 (upI I 0 18 v) else some (-13, upI (upI I 0 18 v) 38 0 3)) else some (-13, upI (upI I 0 18 v) 38 0 3)) else some (-12, upI (upI I 0 18 v) 38 0 2)) else some (-11, upI (upI I 0 18 v) 38 0 1) := by
        intro v
        unfold Rf_X11_copy Rj_X11_copy_38 Rj_X11_copy_98 rdN
        rw [h2, h4, if_pos rfl, if_pos rfl, gd_pos (hik _ (by decide)), gd_pos (hio _ (by decide)), gd_pos (hik _ (by decide)), gd_pos (hio _ (by decide)), ek, eo, eR _ _ _ (by decide), eR _ _ _ (by decide), eR _ _ _ (by decide), eR _ _ _ (by decide)]
        simp only [m_failed, Option.bind_some]
        rfl
      rcases hgH k hk with ⟨y1, y2⟩ | ⟨y1, ⟨y2, y3⟩, ⟨y4, y5⟩, y6⟩
      · refine ⟨-11, upI I 0 18 1, _, by rw [if_pos y1]; rfl, ?_, g.fault 1⟩
        rw [href, y2, if_pos (by decide)]
      · rw [if_neg (by rw [y1]; decide)]
        have nk : ¬ I 73 k < 0 := by rw [y2.1]; exact nI_nn (nx_bd _)
        rcases hgH o ho with ⟨w1, w2⟩ | ⟨w1, ⟨w2, w3⟩, ⟨w4, w5⟩, w6⟩
        · refine ⟨-11, upI I 0 18 1, _, by rw [if_pos w1]; rfl, ?_, g.fault 1⟩
          rw [href, if_neg nk, w2, if_neg (by decide)]
        · rw [if_neg (by rw [w1]; decide), y5, w5]
          have no : 0 ≤ I 73 o := by rw [w2.1]; exact nonneg_nI (nx_bd _)
          by_cases ql : I 74 k = I 74 o
          · rw [if_pos ql]
            have f1 : upI I 0 18 0 (30 + 2 * k) 2 = I 73 k := by rw [eR _ _ _ (by omega)]; exact y3
            have f2 : upI I 0 18 0 (30 + 2 * o) 2 = I 73 o := by rw [eR _ _ _ (by omega)]; exact w3
            rcases holds_beyond (upI I 0 18 0) (30 + 2 * k) i n.toInt64 with ⟨z1, z2⟩ | ⟨z1, z2, z3, z4, z5⟩
            · rw [f1] at z2
              refine ⟨-13, upI I 0 18 3, _, by rw [if_pos z1]; rfl, ?_, g.fault 3⟩
              rw [href, if_neg nk, if_pos no, if_pos ql, z2, if_neg i1ne]
            · rw [f1] at z2 z5
              rcases holds_beyond (upI I 0 18 0) (30 + 2 * o) j n.toInt64 with ⟨u1, u2⟩ | ⟨u1, u2, u3, u4, u5⟩
              · rw [f2] at u2
                refine ⟨-13, upI I 0 18 3, _, by rw [if_neg (by rw [z1]; decide), if_pos u1]; rfl, ?_, g.fault 3⟩
                rw [href, if_neg nk, if_pos no, if_pos ql, z2, if_pos rfl, u2, if_neg i1ne]
              · rw [f2] at u2 u5
                have n0 : ¬ n < 0 := by
                  intro h
                  apply z4
                  rw [show (0 : Int64) = (0 : Int32).toInt64 from rfl, i64_lt]
                  exact h
                rw [y2.1, sum_le (nx_bd _) z3 n0] at z5
                rw [w2.1, sum_le (nx_bd _) u3 n0] at u5
                have hk60 := y2.2
                have ho60 := w2.2
                obtain ⟨i', ei⟩ : ∃ i', nx i = i' := ⟨_, rfl⟩
                obtain ⟨j', ej⟩ : ∃ j', nx j = j' := ⟨_, rfl⟩
                obtain ⟨n', en⟩ : ∃ n', nx n = n' := ⟨_, rfl⟩
                rw [ei, en] at z5
                rw [ej, en] at u5
                have vi : i = nI i' := by rw [← ei]; exact nI_nx z3
                have vj : j = nI j' := by rw [← ej]; exact nI_nx u3
                have vn : n = nI n' := by rw [← en]; exact nI_nx n0
                rw [if_neg (by rw [z1]; decide), if_neg (by rw [u1]; decide), gd_pos ⟨by omega, by omega, z3, u3, n0, by rw [show 32 + 2 * k - 1 = 31 + 2 * k by omega, p3, ei, en]; omega, by rw [show 32 + 2 * o - 1 = 31 + 2 * o by omega, q3, ej, en]; omega⟩]
                -- what the class has then
                generalize hJ : cpI (upI I 0 18 0) (32 + 2 * k) i (32 + 2 * o) j n = J
                have jv : ∀ a c, J a c = if a = 31 + 2 * o ∧ j' ≤ c ∧ c < j' + n' then upI I 0 18 0 (31 + 2 * k) (i' + (c - j')) else upI I 0 18 0 a c := fun a c => by
                  rw [← hJ]
                  unfold cpI
                  rw [ei, ej, en, show 32 + 2 * k - 1 = 31 + 2 * k by omega, show 32 + 2 * o - 1 = 31 + 2 * o by omega]
                have j0 : ∀ a c, a ≠ 31 + 2 * o → J a c = upI I 0 18 0 a c := fun a c h => by rw [jv, if_neg (fun z => h z.1)]
                have hrun : Rf_X11_copy fu (mkS D) J (nI k) i (nI o) j n = some (n, upI (fun a c => if a = 75 ∧ 60 * o + j' ≤ c ∧ c < 60 * o + j' + n' then (if c - (60 * o + j') < n' then J 75 (60 * k + i' + (c - (60 * o + j'))) else J 76 (c - (60 * o + j'))) else (if a = 76 ∧ c < n' then J 75 (60 * k + i' + c) else J a c)) 38 0 0) := by
                  unfold Rf_X11_copy rdN
                  rw [h2, h4, if_pos rfl, if_pos rfl, gd_pos (hik _ (by decide)), gd_pos (hio _ (by decide)), gd_pos (hik _ (by decide)), gd_pos (hio _ (by decide)), ek, eo, j0 _ _ (by omega), j0 _ _ (by omega), j0 _ _ (by omega), j0 _ _ (by omega), eR _ _ _ (by decide), eR _ _ _ (by decide), eR _ _ _ (by decide), eR _ _ _ (by decide), if_neg nk, if_pos no, if_pos ql, z2, if_pos rfl, u2, if_pos rfl, vi, vj, vn, m_copy1 fu hfu hk (by omega), m_copy2 fu hfu ho (by omega)]
                  congr 2
                  congr 1
                  funext a c
                  by_cases t1 : a = 75 ∧ 60 * o + j' ≤ c ∧ c < 60 * o + j' + n'
                  · rw [if_pos t1, if_pos t1]
                    show (if 76 = 76 ∧ c - (60 * o + j') < n' then _ else _) = _
                    rw [if_pos (by omega), if_pos (by omega)]
                  · rw [if_neg t1, if_neg t1]
                refine ⟨n, J, _, rfl, hrun, ?_⟩
                generalize hK : (fun a c => if a = 75 ∧ 60 * o + j' ≤ c ∧ c < 60 * o + j' + n' then (if c - (60 * o + j') < n' then J 75 (60 * k + i' + (c - (60 * o + j'))) else J 76 (c - (60 * o + j'))) else (if a = 76 ∧ c < n' then J 75 (60 * k + i' + c) else J a c)) = K
                have k0 : ∀ a c, a ≠ 75 → a ≠ 76 → K a c = J a c := fun a c t1 t2 => by
                  rw [← hK]
                  show (if a = 75 ∧ _ then _ else if a = 76 ∧ _ then _ else J a c) = _
                  rw [if_neg (fun z => t1 z.1), if_neg (fun z => t2 z.1)]
                have k75 : ∀ c, K 75 c = if 60 * o + j' ≤ c ∧ c < 60 * o + j' + n' then I 75 (60 * k + i' + (c - (60 * o + j'))) else I 75 c := fun c => by
                  rw [← hK]
                  show (if 75 = 75 ∧ 60 * o + j' ≤ c ∧ c < 60 * o + j' + n' then (if c - (60 * o + j') < n' then J 75 (60 * k + i' + (c - (60 * o + j'))) else J 76 (c - (60 * o + j'))) else (if 75 = 76 ∧ c < n' then J 75 (60 * k + i' + c) else J 75 c)) = _
                  by_cases t : 60 * o + j' ≤ c ∧ c < 60 * o + j' + n'
                  · rw [if_pos ⟨rfl, t⟩, if_pos t, if_pos (by omega), j0 _ _ (by omega), eR _ _ _ (by decide)]
                  · rw [if_neg (fun z => t z.2), if_neg (by omega), if_neg t, j0 _ _ (by omega), eR _ _ _ (by decide)]
                refine g.sheet ho (fun a c t1 t2 => ?_) ?_ (Or.inr ⟨?_, ⟨?_, ?_⟩, ⟨?_, ?_⟩, fun b hb => ?_⟩)
                · unfold scr at t2
                  by_cases t3 : a = 75
                  · subst t3
                    rw [upI_row (by decide), k75, if_neg (by omega)]
                  · have : upI K 38 0 0 a c = K a c := by simp only [upI]; rw [if_neg (by omega)]
                    rw [this, k0 _ _ t3 (by omega), j0 _ _ (by omega)]
                    simp only [upI]
                    rw [if_neg (by omega)]
                · rw [upI_row (by decide), upI_at, k0 _ _ (by decide) (by decide), j0 _ _ (by omega), upI_at]
                · rw [upI_row (by omega), k0 _ _ (by omega) (by omega), j0 _ _ (by omega), eR _ _ _ (by omega)]; exact w1
                · rw [upI_row (by omega), k0 _ _ (by omega) (by omega), j0 _ _ (by omega), eR _ _ _ (by omega)]; exact w2
                · rw [upI_row (by omega), upI_row (by omega), k0 _ _ (by omega) (by omega), k0 _ _ (by omega) (by omega), j0 _ _ (by omega), j0 _ _ (by omega), eR _ _ _ (by omega), eR _ _ _ (by omega)]; exact w3
                · rw [upI_row (by omega), k0 _ _ (by omega) (by omega), j0 _ _ (by omega), eR _ _ _ (by omega)]; exact w4
                · rw [upI_row (by omega), upI_row (by omega), k0 _ _ (by omega) (by omega), k0 _ _ (by omega) (by omega), j0 _ _ (by omega), j0 _ _ (by omega), eR _ _ _ (by omega), eR _ _ _ (by omega)]; exact w5
                · have hb' : b < nx (I 73 o) := by
                    rw [upI_row (by omega), k0 _ _ (by omega) (by omega), j0 _ _ (by omega), eR _ _ _ (by omega)] at hb
                    exact hb
                  have L : upI K 38 0 0 (31 + 2 * o) b = J (31 + 2 * o) b := by rw [upI_row (by omega), k0 _ _ (by omega) (by omega)]
                  have R : upI K 38 0 0 75 (60 * o + b) = K 75 (60 * o + b) := by rw [upI_row (by omega)]
                  rw [L, R, k75, jv]
                  by_cases t : j' ≤ b ∧ b < j' + n'
                  · rw [if_pos ⟨rfl, t⟩, if_pos (by omega), eR _ _ _ (by omega), y6 _ (by omega)]
                    congr 1
                    omega
                  · rw [if_neg (fun z => t z.2), if_neg (by omega), eR _ _ _ (by omega)]
                    exact w6 b hb'
          · rw [if_neg ql]
            refine ⟨-12, upI I 0 18 2, _, rfl, ?_, g.fault 2⟩
            rw [href, if_neg nk, if_pos no, if_neg ql]
