/-! text: class and reference read the codes alike -/
theorem x_told (fu : Nat) {S : Sk} {I : II} {a q p ns : Nat} {w : Nat → Nat} (hq : S.1 a 0 = q + 1) (hl : S.2.2.1 q = 4) (hp : p < 4) (hns : ns ≤ 16) (hw : ∀ j, j ≤ p → I q j = nI (w j) ∧ w j < 100000) : f_X7_isAsTold fu S I a (nI p) (nI ns) = some (if gB ns p w = true then 1 else 0) := by
  have i0 : ∀ j : Int32, ¬ j < 0 → nx j < 4 → inb S (q + 1) j := fun j h1 h2 => ⟨Nat.succ_ne_zero q, h1, by rw [Nat.add_sub_cancel, hl]; exact h2⟩
  have hd : ∀ v, v < 100000 → t_X10_isDay (nI v) = if v ≤ 59 then 1 else 0 := fun v hv => by
    unfold t_X10_isDay
    rw [w_within]
    by_cases z : v ≤ 59
    · rw [if_pos z, if_pos ⟨nonneg_nI (by omega), (nI_le_iff (b := 59) (by omega) (by decide)).mpr z⟩]
    · rw [if_neg z, if_neg (fun y => z ((nI_le_iff (b := 59) (by omega) (by decide)).mp y.2))]
  unfold f_X7_isAsTold rd
  rw [hq]
  rcases (by omega : p = 0 ∨ p = 1 ∨ p = 2 ∨ p = 3) with rfl | rfl | rfl | rfl
  · rw [if_pos (show nI 0 = 0 from rfl), gd_pos (i0 0 (by decide) (by decide)), Nat.add_sub_cancel, show nx (0 : Int32) = 0 from rfl, (hw 0 (by omega)).1]
    have h0 := (hw 0 (by omega)).2
    by_cases z : w 0 < ns
    · rw [if_neg (by rw [nI_le_iff (by omega) (by omega)]; omega), if_pos (show gB ns 0 w = true from decide_eq_true z)]
    · rw [if_pos (by rw [nI_le_iff (by omega) (by omega)]; omega), if_neg (show ¬ gB ns 0 w = true from fun y => z (of_decide_eq_true y))]
  · rw [if_neg (by decide), if_pos (show nI 1 = 1 from rfl)]
    rfl
  · rw [if_neg (by decide), if_neg (by decide), if_pos (show nI 2 = 2 from rfl), gd_pos (i0 2 (by decide) (by decide)), Nat.add_sub_cancel, show nx (2 : Int32) = 2 from rfl, (hw 2 (by omega)).1, hd _ (hw 2 (by omega)).2]
    by_cases z : w 2 ≤ 59
    · rw [if_pos z, if_pos (show gB ns 2 w = true from decide_eq_true z)]
    · rw [if_neg z, if_neg (show ¬ gB ns 2 w = true from fun y => z (of_decide_eq_true y))]
  · rw [if_neg (by decide), if_neg (by decide), if_neg (by decide), if_pos (show nI 3 = 3 from rfl), gd_pos (i0 3 (by decide) (by decide)), gd_pos (i0 2 (by decide) (by decide)), Nat.add_sub_cancel, show nx (2 : Int32) = 2 from rfl, show nx (3 : Int32) = 3 from rfl, (hw 2 (by omega)).1, (hw 3 (by omega)).1, hd _ (hw 3 (by omega)).2]
    have h2 := (hw 2 (by omega)).2
    have h3 := (hw 3 (by omega)).2
    by_cases z : w 3 ≤ 59
    · rw [if_pos z, if_neg i1ne]
      by_cases z2 : w 2 ≤ w 3
      · rw [if_neg (by rw [nI_lt_iff (by omega) (by omega)]; omega), if_pos (show gB ns 3 w = true from decide_eq_true ⟨z2, z⟩)]
      · rw [if_pos (by rw [nI_lt_iff (by omega) (by omega)]; omega), if_neg (show ¬ gB ns 3 w = true from fun y => z2 (of_decide_eq_true y).1)]
    · rw [if_neg z, if_pos rfl, if_neg (show ¬ gB ns 3 w = true from fun y => z (of_decide_eq_true y).2)]
theorem x_first (fu : Nat) (hfu : 100 < fu) {S : Sk} {a q r n ns : Nat} {c : Nat → Int32} (hq : S.1 a 0 = q + 1) (hl : S.2.2.1 q = 4) (hr : S.2.2.1 r = n) (hqr : r ≠ q) (hn : n ≤ 60) (hns : ns ≤ 16) : ∀ k p e w m I, p + k = 4 → e ≤ n → (∀ t, t < n → I r t = c t) → (∀ j, j < p → I q j = nI (w j) ∧ w j < 100000) → k < m →
    ∃ J, fix3 (lp_X7_firstFault_5 fu S a (r + 1) (nI ns)) m (nI e) (nI p) I = some ((ps c n ns k p e w).1, J) ∧ (∀ b j, b ≠ q → J b j = I b j) ∧ ((ps c n ns k p e w).1 = -1 → ∀ j, j < 4 → J q j = nI ((ps c n ns k p e w).2 j))
  | 0, p, e, w, m, I, hp, he, hc, hw, hm => by
    obtain ⟨m, rfl⟩ : ∃ j, m = j + 1 := ⟨m - 1, by omega⟩
    have hp4 : p = 4 := by omega
    subst hp4
    refine ⟨I, ?_, fun _ _ _ => rfl, fun _ j hj => (hw j hj).1⟩
    show lp_X7_firstFault_5 fu S a (r + 1) (nI ns) _ (nI e) (nI 4) I = some (if e = n then -1 else nI e, I)
    have el : (S.2.2.1 (r + 1 - 1)).toInt32 = nI n := by rw [Nat.add_sub_cancel, hr]; rfl
    unfold lp_X7_firstFault_5
    rw [if_pos (show (4 : Int32) ≤ nI 4 by decide), gd_pos (Nat.succ_ne_zero r), el]
    by_cases z : e = n
    · rw [if_pos z, if_pos (by rw [z])]
    · rw [if_neg z, if_neg (by rw [nI_eq_iff (by omega) (by omega)]; exact z)]
  | k + 1, p, e, w, m, I, hp, he, hc, hw, hm => by
    obtain ⟨m, rfl⟩ : ∃ j, m = j + 1 := ⟨m - 1, by omega⟩
    have el : (S.2.2.1 (r + 1 - 1)).toInt32 = nI n := by rw [Nat.add_sub_cancel, hr]; rfl
    have ke := nx_nI (k := e) (by omega)
    have kp := nx_nI (k := p) (by omega)
    have hv := (sc_ge c n 3 (e + 1) 0).2.2.2
    have ih := x_first fu hfu (a := a) (c := c) hq hl hr hqr hn hns k (p + 1) (sc c n 3 (e + 1) 0).1 (upw w p (sc c n 3 (e + 1) 0).2) m (upI I q p (nI (sc c n 3 (e + 1) 0).2)) (by omega)
    have hE := x_end fu (b := e + 1) hr hn hc (by omega) 3 (e + 1) 0 fu (by omega) (by omega)
    have hV := x_val fu hr hn hc 3 (e + 1) 0 fu (by omega) (by omega)
    have hge := sc_ge c n 3 (e + 1) 0
    have hT := x_told fu (I := upI I q p (nI (sc c n 3 (e + 1) 0).2)) (a := a) (p := p) (ns := ns) (w := upw w p (sc c n 3 (e + 1) 0).2) hq hl (by omega) hns (fun j hj => by
      unfold upw upI
      by_cases z : j = p
      · rw [if_pos z, if_pos ⟨rfl, z⟩]; exact ⟨rfl, by omega⟩
      · rw [if_neg z, if_neg (fun y => z y.2)]; exact hw j (by omega))
    unfold ps
    show ∃ J, lp_X7_firstFault_5 fu S a (r + 1) (nI ns) (fix3 (lp_X7_firstFault_5 fu S a (r + 1) (nI ns)) m) (nI e) (nI p) I = _ ∧ _
    generalize fix3 (lp_X7_firstFault_5 fu S a (r + 1) (nI ns)) m = self at ih ⊢
    have no : ∀ i, i ≤ 61 → ¬ nI i = (-1 : Int32) := fun i hi z => nI_nn (k := i) (by omega) (by rw [z]; decide)
    unfold lp_X7_firstFault_5 f_X7_endOfNumber f_X7_valueOf
    rw [if_neg (show ¬ (4 : Int32) ≤ nI p by rw [show (4 : Int32) = nI 4 from rfl, nI_le_iff (by decide) (by omega)]; omega), gd_pos (Nat.succ_ne_zero r), el]
    by_cases q1 : e < n
    · have c1 : ¬ nI n ≤ nI e := by rw [nI_le_iff (by omega) (by omega)]; omega
      rw [if_neg c1, gd_pos ⟨Nat.succ_ne_zero r, nI_nn (by omega), by rw [ke, Nat.add_sub_cancel, hr]; exact q1⟩, gd_pos ⟨nI_nn (by omega), by rw [kp]; omega⟩]
      have erd : rd I (r + 1) (nI e) = c e := by unfold rd; rw [ke]; exact hc e q1
      rw [erd, show sgF (nx (nI p)) = sgF p by rw [kp]]
      by_cases q2 : c e = sgF p
      · rw [if_pos q2, if_pos (show e < n ∧ c e = sgF p from ⟨q1, q2⟩)]
        simp only [lt, nI_p1]
        rw [hE, Option.bind_some]
        by_cases q3 : (sc c n 3 (e + 1) 0).1 = e + 1
        · rw [if_pos q3, if_pos (by rw [q3])]
          exact ⟨I, rfl, fun _ _ _ => rfl, fun z => absurd z (no _ (by omega))⟩
        · have c3 : ¬ nI (sc c n 3 (e + 1) 0).1 = nI (e + 1) := by rw [nI_eq_iff (by omega) (by omega)]; exact q3
          have hin : inb S (S.1 a 0) (nI p) := ⟨by rw [hq]; exact Nat.succ_ne_zero q, nI_nn (by omega), by rw [kp, hq, Nat.add_sub_cancel, hl]; omega⟩
          have ewr : wr I (S.1 a 0) (nI p) (nI (sc c n 3 (e + 1) 0).2) = upI I q p (nI (sc c n 3 (e + 1) 0).2) := by
            unfold wr; rw [hq, Nat.add_sub_cancel, kp]
          rw [show nI 0 = (0 : Int32) from rfl] at hV
          rw [if_neg q3, if_neg c3, hV, Option.bind_some, gd_pos hin, ewr, hT, Option.bind_some]
          by_cases q4 : gB ns p (upw w p (sc c n 3 (e + 1) 0).2) = true
          · rw [if_pos q4, if_neg i1ne, if_pos q4]
            obtain ⟨J, j1, j2, j3⟩ := ih (hge.2.2.1 q1) (fun t ht => by rw [upI_row hqr]; exact hc t ht) (fun j hj => by
              unfold upw upI
              by_cases z : j = p
              · rw [if_pos z, if_pos ⟨rfl, z⟩]; exact ⟨rfl, by omega⟩
              · rw [if_neg z, if_neg (fun y => z y.2)]; exact hw j (by omega)) (by omega)
            refine ⟨J, j1, fun b j z => ?_, j3⟩
            rw [j2 b j z, upI_row z]
          · rw [if_neg q4, if_pos rfl, if_neg q4]
            exact ⟨_, rfl, fun b j z => by rw [upI_row z], fun z => absurd z (no _ (by omega))⟩
      · rw [if_neg q2, if_neg (fun z => q2 z.2)]
        exact ⟨I, rfl, fun _ _ _ => rfl, fun z => absurd z (no _ (by omega))⟩
    · have c1 : nI n ≤ nI e := by rw [nI_le_iff (by omega) (by omega)]; omega
      rw [if_pos c1, if_neg (fun z => q1 z.1)]
      exact ⟨I, rfl, fun _ _ _ => rfl, fun z => absurd z (no _ (by omega))⟩
theorem m_read1 (fu : Nat) (hfu : 100 < fu) {S : Sk} {I : II} {n f e p ns : Nat} {c : Nat → Int32} {w : Nat → Nat} (hn : n ≤ 60) (hf : f + n ≤ 240) (hp : p < 4) (he : e ≤ 60) (hns : ns ≤ 16) (h1 : I 38 1 = nI ns) (hc : ∀ t, t < n → I 75 (f + t) = c t) (hI : I 38 21 = nI (e + 1)) (hw : ∀ j, j < p → I 55 j = nI (w j) ∧ w j < 100000) :
    ∃ J, Rf_X11_readsNumber fu S I (nI p) (nI f) (nI n) = some (if (sc c n 3 (e + 1) 0).1 = e + 1 then 0 else if gB ns p (upw w p (sc c n 3 (e + 1) 0).2) = true then 1 else 0, J) ∧ (∀ a j, ¬ (a = 38 ∧ j = 21) → ¬ (a = 55 ∧ j = p) → J a j = I a j) ∧ J 55 p = nI (sc c n 3 (e + 1) 0).2 ∧ J 38 21 = nI (if (sc c n 3 (e + 1) 0).1 = e + 1 then e + 1 else if gB ns p (upw w p (sc c n 3 (e + 1) 0).2) = true then (sc c n 3 (e + 1) 0).1 else e + 1) := by
  have kp := nx_nI (k := p) (by omega)
  have hge := sc_ge c n 3 (e + 1) 0
  obtain ⟨J, j1, j2, j3, j4⟩ := m_num fu (S := S) (c := c) (b := e + 1) hn hf hp (by omega) 3 (e + 1) 0 fu (upI I 55 p 0) (fun t ht => by rw [upI_row (by decide)]; exact hc t ht) (by rw [upI_row (by decide)]; exact hI) upI_at (by omega) (by omega)
  have hK : ∀ a j, ¬ (a = 38 ∧ j = 21) → ¬ (a = 55 ∧ j = p) → J a j = I a j := fun a j z1 z2 => by
    rw [j4 a j z1 z2]
    unfold upI
    rw [if_neg z2]
  generalize sc c n 3 (e + 1) 0 = K at *
  have hread : Rf_X11_readsNumber fu S I (nI p) (nI f) (nI n) = Rj_X11_readsNumber_99 fu S J (nI p) (nI (e + 1)) := by
    unfold Rf_X11_readsNumber
    simp only [lt]
    rw [gd_pos ⟨by decide, nI_nn (by omega), by rw [kp]; omega⟩]
    unfold wrN
    rw [kp, hI]
    exact j1
  have g177 : ∀ s0 : Int32, Rj_X11_readsNumber_177 fu S J (nI (e + 1)) s0 = some (if K.1 = e + 1 then 0 else if s0 = 0 then 0 else 1, if K.1 = e + 1 then J else if s0 = 0 then upI J 38 21 (nI (e + 1)) else J) := by
    intro s0
    unfold Rj_X11_readsNumber_177 Rj_X11_readsNumber_199
    simp only [lt]
    rw [j2, upI_at]
    by_cases z : K.1 = e + 1
    · rw [if_pos (by rw [nI_le_iff (by omega) (by omega)]; omega), if_pos (by rw [nI_le_iff (by omega) (by omega)]; omega), if_pos z, if_pos z]
    · have c1 : ¬ nI K.1 ≤ nI (e + 1) := by rw [nI_le_iff (by omega) (by omega)]; omega
      rw [if_neg c1, if_neg c1, if_neg z, if_neg z, if_pos (Int32.le_refl _)]
      by_cases z2 : s0 = 0
      · rw [if_pos z2, if_pos z2, if_pos z2]
      · rw [if_neg z2, if_neg z2, if_neg z2]
  have hw' : ∀ j, j ≤ p → J 55 j = nI (upw w p K.2 j) ∧ upw w p K.2 j < 100000 := fun j hj => by
    unfold upw
    by_cases z : j = p
    · rw [if_pos z, z]; exact ⟨j3, by omega⟩
    · rw [if_neg z, hK 55 j (by omega) (by omega)]; exact hw j (by omega)
  have hd : ∀ v, v < 100000 → t_X11_isDay (nI v) = if v ≤ 59 then 1 else 0 := fun v hv => by
    rw [day_eq]
    unfold t_X10_isDay
    rw [w_within]
    by_cases z : v ≤ 59
    · rw [if_pos z, if_pos ⟨nonneg_nI (by omega), (nI_le_iff (b := 59) (by omega) (by decide)).mpr z⟩]
    · rw [if_neg z, if_neg (fun y => z ((nI_le_iff (b := 59) (by omega) (by decide)).mp y.2))]
  have h99 : Rj_X11_readsNumber_99 fu S J (nI p) (nI (e + 1)) = Rj_X11_readsNumber_177 fu S J (nI (e + 1)) (if gB ns p (upw w p K.2) = true then 1 else 0) := by
    have i0 : ∀ j : Int32, ¬ j < 0 → nx j < 4 → inbL 56 4 j := fun j y1 y2 => ⟨by decide, y1, y2⟩
    generalize upw w p K.2 = W at *
    unfold Rj_X11_readsNumber_99 Rj_X11_readsNumber_172 Rj_X11_readsNumber_176 rdN
    rcases (by omega : p = 0 ∨ p = 1 ∨ p = 2 ∨ p = 3) with rfl | rfl | rfl | rfl
    · have h0 := (hw' 0 (by omega)).2
      rw [if_pos (show nI 0 = 0 from rfl), gd_pos (i0 0 (by decide) (by decide)), show nx (0 : Int32) = 0 from rfl, (hw' 0 (by omega)).1]
      unfold t_X11_noStop
      rw [hK 38 1 (by omega) (by omega), h1]
      by_cases z : W 0 < ns
      · rw [w_up_yes (by omega) (nI_nn (by omega)) (by rw [nI_le_iff (by omega) (by omega)]; omega), if_neg i1ne, if_pos rfl, if_pos (show gB ns 0 W = true from decide_eq_true z)]
      · rw [w_up_no (by omega) (Or.inr (by rw [nI_le_iff (by omega) (by omega)]; omega)), if_pos rfl, if_neg i1ne, if_neg (show ¬ gB ns 0 W = true from fun y => z (of_decide_eq_true y))]
    · rw [if_neg (by decide), if_pos (show nI 1 = 1 from rfl)]
      rfl
    · rw [if_neg (by decide), if_neg (by decide), if_pos (show nI 2 = 2 from rfl), gd_pos (i0 2 (by decide) (by decide)), show nx (2 : Int32) = 2 from rfl, (hw' 2 (by omega)).1, hd _ (hw' 2 (by omega)).2]
      by_cases z : W 2 ≤ 59
      · rw [if_pos z, if_neg i1ne, if_pos (show gB ns 2 W = true from decide_eq_true z)]
      · rw [if_neg z, if_pos rfl, if_neg (show ¬ gB ns 2 W = true from fun y => z (of_decide_eq_true y))]
    · have h2 := (hw' 2 (by omega)).2
      have h3 := (hw' 3 (by omega)).2
      have e59 : ∀ x y : Int32, t_X11_in x.toInt64 y.toInt64 59 = t_X10_isWithin x y 59 := fun x y => w_in32 (hi := 59)
      rw [if_neg (by decide), if_neg (by decide), if_neg (by decide), gd_pos (i0 3 (by decide) (by decide)), gd_pos (i0 2 (by decide) (by decide)), show nx (2 : Int32) = 2 from rfl, show nx (3 : Int32) = 3 from rfl, (hw' 2 (by omega)).1, (hw' 3 (by omega)).1, e59, w_within]
      by_cases z : W 2 ≤ W 3 ∧ W 3 ≤ 59
      · have c : nI (W 2) ≤ nI (W 3) ∧ nI (W 3) ≤ 59 := ⟨(nI_le_iff (by omega) (by omega)).mpr z.1, (nI_le_iff (b := 59) (by omega) (by decide)).mpr z.2⟩
        rw [if_pos c, if_neg i1ne, if_pos (show gB ns 3 W = true from decide_eq_true z)]
      · have c : ¬ (nI (W 2) ≤ nI (W 3) ∧ nI (W 3) ≤ 59) := fun y => z ⟨(nI_le_iff (by omega) (by omega)).mp y.1, (nI_le_iff (b := 59) (by omega) (by decide)).mp y.2⟩
        rw [if_neg c, if_pos rfl, if_neg (show ¬ gB ns 3 W = true from fun y => z (of_decide_eq_true y))]
  rw [hread, h99, g177]
  by_cases z : K.1 = e + 1
  · simp only [if_pos z]
    exact ⟨J, rfl, hK, j3, by rw [j2, z]⟩
  · simp only [if_neg z]
    by_cases z2 : gB ns p (upw w p K.2) = true
    · simp only [if_pos z2]
      exact ⟨J, rfl, hK, j3, j2⟩
    · simp only [if_neg z2]
      refine ⟨upI J 38 21 (nI (e + 1)), rfl, fun a j y1 y2 => ?_, ?_, upI_at⟩
      · unfold upI
        rw [if_neg y1]
        exact hK a j y1 y2
      · rw [upI_row (by decide)]; exact j3
theorem m_readText (fu : Nat) (hfu : 100 < fu) {S : Sk} {n f ns : Nat} {c : Nat → Int32} (hn : n ≤ 60) (hf : f + n ≤ 240) (hns : ns ≤ 16) : ∀ k p e w m I, p + k = 4 → e ≤ n → I 38 1 = nI ns → (∀ t, t < n → I 75 (f + t) = c t) → I 38 21 = nI e → (∀ j, j < p → I 55 j = nI (w j) ∧ w j < 100000) → k < m →
    ∃ J, fix2 (Rl_X11_readText_7 fu S (nI f) (nI n)) m (nI p) I = some ((ps c n ns k p e w).1, J) ∧ (∀ a j, ¬ (a = 38 ∧ j = 21) → a ≠ 55 → J a j = I a j) ∧ ((ps c n ns k p e w).1 = -1 → ∀ j, j < 4 → J 55 j = nI ((ps c n ns k p e w).2 j))
  | 0, p, e, w, m, I, hp, he, h1, hc, hI, hw, hm => by
    obtain ⟨m, rfl⟩ : ∃ j, m = j + 1 := ⟨m - 1, by omega⟩
    have hp4 : p = 4 := by omega
    subst hp4
    refine ⟨I, ?_, fun _ _ _ _ => rfl, fun _ j hj => (hw j hj).1⟩
    show Rl_X11_readText_7 fu S (nI f) (nI n) _ (nI 4) I = some (if e = n then -1 else nI e, I)
    unfold Rl_X11_readText_7
    rw [if_pos (show (4 : Int32) ≤ nI 4 by decide), hI]
    by_cases z : e = n
    · rw [if_pos z, if_pos (by rw [z])]
    · rw [if_neg z, if_neg (by rw [nI_eq_iff (by omega) (by omega)]; exact z)]
  | k + 1, p, e, w, m, I, hp, he, h1, hc, hI, hw, hm => by
    obtain ⟨m, rfl⟩ : ∃ j, m = j + 1 := ⟨m - 1, by omega⟩
    have kf := nx_nI (k := f + e) (by omega)
    have no : ∀ i, i ≤ 61 → ¬ nI i = (-1 : Int32) := fun i hi z => nI_nn (k := i) (by omega) (by rw [z]; decide)
    have h7 : ∀ self, Rl_X11_readText_7 fu S (nI f) (nI n) self (nI p) I = Rj_X11_readText_43 fu S I self (nI f) (nI n) (nI p) (sgF p) := by
      intro self
      unfold Rl_X11_readText_7
      rcases (by omega : p = 0 ∨ p = 1 ∨ p = 2 ∨ p = 3) with rfl | rfl | rfl | rfl <;> rfl
    unfold ps
    show ∃ J, Rl_X11_readText_7 fu S (nI f) (nI n) (fix2 (Rl_X11_readText_7 fu S (nI f) (nI n)) m) (nI p) I = _ ∧ _
    rw [h7]
    unfold Rj_X11_readText_43 Rj_X11_readText_69
    rw [hI]
    by_cases q1 : e < n
    · rw [if_neg (by rw [nI_eq_iff (by omega) (by omega)]; omega), nI_add, gd_pos ⟨by decide, nI_nn (by omega), by rw [kf]; omega⟩]
      have erd : rdN I 75 (nI (f + e)) = c e := by unfold rdN; rw [kf]; exact hc e q1
      rw [erd]
      by_cases q2 : c e = sgF p
      · obtain ⟨J, j1, j2, j3, j4⟩ := m_read1 fu hfu (S := S) (c := c) (I := upI I 38 21 (nI (e + 1))) (e := e) (p := p) (w := w) hn hf (by omega) (by omega) hns (by rw [upI_cell (by decide)]; exact h1) (fun t ht => by rw [upI_row (by decide)]; exact hc t ht) upI_at (fun j hj => by rw [upI_row (by decide)]; exact hw j hj)
        have hge := sc_ge c n 3 (e + 1) 0
        have jK : ∀ a j, ¬ (a = 38 ∧ j = 21) → ¬ (a = 55 ∧ j = p) → J a j = I a j := fun a j z1 z2 => by
          rw [j2 a j z1 z2]
          unfold upI
          rw [if_neg z1]
        rw [if_pos q2, if_pos (show e < n ∧ c e = sgF p from ⟨q1, q2⟩)]
        simp only [lt, nI_p1]
        rw [j1, Option.bind_some]
        by_cases q3 : (sc c n 3 (e + 1) 0).1 = e + 1
        · simp only [if_pos q3] at j4 ⊢
          rw [if_pos trivial, j4]
          exact ⟨J, rfl, fun a j z1 z2 => jK a j z1 (by omega), fun z => absurd z (no _ (by omega))⟩
        · simp only [if_neg q3] at j4 ⊢
          by_cases q4 : gB ns p (upw w p (sc c n 3 (e + 1) 0).2) = true
          · simp only [if_pos q4] at j4 ⊢
            rw [if_neg i1ne]
            obtain ⟨J', i1, i2, i3⟩ := m_readText fu hfu (S := S) (c := c) hn hf hns k (p + 1) (sc c n 3 (e + 1) 0).1 (upw w p (sc c n 3 (e + 1) 0).2) m J (by omega) (hge.2.2.1 q1) (by rw [jK 38 1 (by omega) (by omega)]; exact h1) (fun t ht => by rw [jK 75 _ (by omega) (by omega)]; exact hc t ht) j4 (fun j hj => by
              unfold upw
              by_cases z : j = p
              · rw [if_pos z, z]; exact ⟨j3, by omega⟩
              · rw [if_neg z, jK 55 j (by omega) (by omega)]; exact hw j (by omega)) (by omega)
            refine ⟨J', i1, fun a j z1 z2 => ?_, i3⟩
            rw [i2 a j z1 z2, jK a j z1 (by omega)]
          · simp only [if_neg q4] at j4 ⊢
            rw [if_pos trivial, j4]
            exact ⟨J, rfl, fun a j z1 z2 => jK a j z1 (by omega), fun z => absurd z (no _ (by omega))⟩
      · rw [if_neg q2, if_neg (fun z => q2 z.2)]
        exact ⟨I, rfl, fun _ _ _ _ => rfl, fun z => absurd z (no _ (by omega))⟩
    · rw [if_pos (by rw [nI_eq_iff (by omega) (by omega)]; omega), if_neg (fun z => q1 z.1)]
      exact ⟨I, rfl, fun _ _ _ _ => rfl, fun z => absurd z (no _ (by omega))⟩
