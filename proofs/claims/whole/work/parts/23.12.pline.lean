/-! line: both sides -/
theorem i64_dbl (n : Int32) : (n.toInt64 * (2 : Int32).toInt64).toInt = 2 * n.toInt := by
  have h1 := Int32.toInt_lt n
  have h2 := Int32.le_toInt n
  rw [Int64.toInt_mul, Int32.toInt_toInt64, Int32.toInt_toInt64, show (2 : Int32).toInt = 2 from rfl]
  rw [Int.bmod_eq_of_le (by omega) (by omega)]
  omega
theorem dbl_neg (n : Int32) : n.toInt64 * (2 : Int32).toInt64 < 0 ↔ n < 0 := by
  rw [Int64.lt_iff_toInt_lt, i64_dbl, Int32.lt_iff_toInt_lt, show (0 : Int64).toInt = 0 from rfl, show (0 : Int32).toInt = 0 from rfl]
  omega
theorem dbl_sum {i n z : Nat} (hi : i < 2147483648) (hn : n < 2147483648) (hz : z < 2147483648) : (nI i).toInt64 + (nI n).toInt64 * (2 : Int32).toInt64 ≤ (nI z).toInt64 ↔ i + 2 * n ≤ z := by
  rw [Int64.le_iff_toInt_le, Int64.toInt_add, i64_dbl, Int32.toInt_toInt64, Int32.toInt_toInt64, toInt_nI hi, toInt_nI hn, toInt_nI hz, Int.bmod_eq_of_le (by omega) (by omega)]
  omega
theorem p_line (fu : Nat) (hfu : 100 < fu) {D : Dn} {I : II} (g : Inv D I) (x1 x2 x3 x4 x lane i n : Int32) : ∃ r D' I1 I2, f_X10_line fu (mkS D) I 0 x1 x2 x3 x4 x lane i n = some (r, mkS D', I1) ∧ Rf_X11_line fu (mkS D') I1 x1 x2 x3 x4 x lane i n = some (r, I2) ∧ Inv D' I2 := by
  have hN : 77 ≤ D.2.2.2 := g.1
  have hnS : nS I ≤ 16 := g.2.1.1.1.2
  have gL := g.2.2.1
  have hnL : nL I ≤ 14 := gL.1.1.2
  have in1 : ∀ y : Int32, t_X11_in y.toInt64 0 2 = t_X10_isWithin y 0 2 := fun y => w_in32 (lo := 0) (hi := 2)
  have in2 : ∀ y : Int32, t_X11_in y.toInt64 0 1439 = t_X10_isWithin y 0 1439 := fun y => w_in32 (lo := 0) (hi := 1439)
  have in3 : ∀ y : Int32, t_X11_in y.toInt64 1 240 = t_X10_isWithin y 1 240 := fun y => w_in32 (lo := 1) (hi := 240)
  have in4 : ∀ y z : Int32, t_X11_in y.toInt64 z.toInt64 1439 = t_X10_isWithin y z 1439 := fun y z => w_in32 (hi := 1439)
  have r64 : ∀ (S : Sk) (J : II), Rj_X11_line_64 fu S J = some (-2, upI J 38 0 0) := fun S J => rfl
  rcases sheet_cases x with ⟨h1, h2⟩ | ⟨k, hk, rfl, h1, h2⟩
  · refine ⟨-1, D, upI I 0 18 0, _, ?_, ?_, g.fault 0⟩
    · unfold f_X10_line
      simp only [lt]
      rw [if_pos h1]
    · unfold Rf_X11_line
      rw [h2, if_neg i1ne, m_refused]; rfl
  have ek := nx_nI (k := k) (by omega)
  obtain ⟨p1, p2, p3⟩ := mk_sheet (D := D) hk
  rcases within_cases x1 0 2 with w1 | ⟨w1, w1a, w1b⟩
  · have hkk : t_X10_isKind x1 = 0 := w1
    refine ⟨-2, D, upI I 0 18 0, _, ?_, ?_, g.fault 0⟩
    · unfold f_X10_line
      simp only [lt]
      rw [h1, if_neg i1ne, if_pos hkk]
    · unfold Rf_X11_line
      rw [h2, if_pos rfl, in1, w1, if_pos rfl, r64]
  have hkk : t_X10_isKind x1 = 1 := w1
  obtain ⟨kd, hkd, rfl⟩ : ∃ kd, kd ≤ 2 ∧ x1 = nI kd := ⟨nx x1, nx_le (le0 w1a) (n := 2) (by decide) w1b, nI_nx (le0 w1a)⟩
  have bad : t_X10_isTimetable x2 x3 x4 = 0 → (∀ (S : Sk) (J : II), Rf_X11_line fu S J (nI kd) x2 x3 x4 (nI k) lane i n = some (-2, upI J 38 0 0)) → ∃ r D' I1 I2, f_X10_line fu (mkS D) I 0 (nI kd) x2 x3 x4 (nI k) lane i n = some (r, mkS D', I1) ∧ Rf_X11_line fu (mkS D') I1 (nI kd) x2 x3 x4 (nI k) lane i n = some (r, I2) ∧ Inv D' I2 := by
    intro ht hr
    refine ⟨-2, D, upI I 0 18 0, _, ?_, hr _ _, g.fault 0⟩
    unfold f_X10_line
    simp only [lt]
    rw [h1, if_neg i1ne, hkk, if_neg i1ne, if_pos ht]
  have htt : t_X10_isTimetable x2 x3 x4 = if t_X10_isWithin x2 0 1439 = 0 then 0 else if t_X10_isWithin x3 1 240 = 0 then 0 else if t_X10_isWithin x4 x2 1439 = 0 then 0 else 1 := rfl
  rcases within_cases x2 0 1439 with w2 | ⟨w2, w2a, w2b⟩
  · refine bad (by rw [htt, w2]; rfl) (fun S J => ?_)
    unfold Rf_X11_line
    rw [h2, if_pos rfl, in1, w1, if_neg i1ne, in2, w2, if_pos rfl, r64]
  rcases within_cases x3 1 240 with w3 | ⟨w3, w3a, w3b⟩
  · refine bad (by rw [htt, w2, w3]; rfl) (fun S J => ?_)
    unfold Rf_X11_line
    rw [h2, if_pos rfl, in1, w1, if_neg i1ne, in2, w2, if_neg i1ne, in3, w3, if_pos rfl, r64]
  rcases within_cases x4 x2 1439 with w4 | ⟨w4, w4a, w4b⟩
  · refine bad (by rw [htt, w2, w3, w4]; rfl) (fun S J => ?_)
    unfold Rf_X11_line
    rw [h2, if_pos rfl, in1, w1, if_neg i1ne, in2, w2, if_neg i1ne, in3, w3, if_neg i1ne, in4, w4, if_pos rfl, r64]
  have ht1 : t_X10_isTimetable x2 x3 x4 = 1 := by rw [htt, w2, w3, w4]; rfl
  have hpre : ∀ (S : Sk) (J : II), Rf_X11_line fu S J (nI kd) x2 x3 x4 (nI k) lane i n = (Rf_X11_barred fu S J (nI k) lane i (n.toInt64 * (2 : Int32).toInt64)).bind fun q81 => (if 0 ≤ q81.1 then fix2 (Rl_X11_line_125 fu S q81.2 (nI kd) x2 x3 x4 n ((60 : Int32) * nI k + i)) fu (t_X10_isWithin n 2 8) 0 else some (q81.1, q81.2)) := by
    intro S J
    unfold Rf_X11_line
    rw [h2, if_pos rfl, in1, w1, if_neg i1ne, in2, w2, if_neg i1ne, in3, w3, if_neg i1ne, in4, w4, if_neg i1ne, show (2 : Int64) * n.toInt64 = n.toInt64 * (2 : Int32).toInt64 from Int64.mul_comm _ _, show t_X11_in n.toInt64 2 8 = t_X10_isWithin n 2 8 from w_in32 (lo := 2) (hi := 8)]
  by_cases hl0 : t_X10_isLane lane = 0
  · refine ⟨-2, D, upI I 0 18 0, _, ?_, ?_, g.fault 0⟩
    · unfold f_X10_line
      simp only [lt]
      rw [h1, if_neg i1ne, hkk, if_neg i1ne, ht1, if_neg i1ne, if_pos hl0]
    · rw [hpre]
      unfold Rf_X11_barred
      rw [lane_eq, hl0, if_pos rfl, m_refused]; rfl
  have hl : t_X10_isLane lane = 1 := by
    rcases within_cases lane 0 2 with z | z
    · exact absurd z hl0
    · exact z.1
  have hs := g.2.2.2.2.2.2.2.2 k hk
  have erf : t_X5_rowFault (upI I 0 18 0) (30 + 2 * k) lane i n 2 = t_X5_rowFault I (30 + 2 * k) lane i n 2 := by
    unfold t_X5_rowFault t_X5_holds
    rw [upI_row (by omega)]
  have hst : ∀ f, t_X5_rowFault I (30 + 2 * k) lane i n 2 = f → f_X10_line fu (mkS D) I 0 (nI kd) x2 x3 x4 (nI k) lane i n = (if f = 0 then f_X10_line fu (mkS D) I 0 (nI kd) x2 x3 x4 (nI k) lane i n else some (-10 - f, mkS D, upI I 0 18 f)) ∧ (f = 0 → (n < 2 ∨ ¬ n ≤ 8) → f_X10_line fu (mkS D) I 0 (nI kd) x2 x3 x4 (nI k) lane i n = some (-2, mkS D, upI I 0 18 0)) := by
    intro f hf
    unfold f_X10_line
    simp only [lt]
    rw [h1, if_neg i1ne, hkk, if_neg i1ne, ht1, if_neg i1ne, hl, if_neg i1ne, gd_pos ⟨by show (30 : Nat) ≠ 0; decide, nI_nn (by omega), by rw [ek]; exact hk⟩]
    simp only [show (mkS D).1 0 16 = 30 from rfl, show (30 : Nat) - 1 = 29 from rfl, ek, p1]
    rw [gd_pos (by omega), show 31 + 2 * k - 1 = 30 + 2 * k by omega, erf, hf]
    constructor
    · by_cases q : f = 0
      · rw [if_pos q, if_pos q]
      · rw [if_neg q, if_neg q]
        show some _ = _
        rw [show upI (upI I 0 18 0) 0 18 f = upI I 0 18 f from upI_twice]
    · intro q z
      rw [if_pos q]
      rcases z with z | z
      · rw [if_pos z]
      · rw [if_neg z]; exact ite_self _
  rcases row_bar fu hk hs (i := i) hl rfl (dbl_neg n) with ⟨f, hf, f1, f2⟩ | ⟨f1, f2, f3, f4, f5, f6, f7⟩
  · have hfn : ¬ f = 0 := by rcases hf with rfl | rfl | rfl | rfl <;> decide
    refine ⟨-10 - f, D, upI I 0 18 f, _, ?_, ?_, g.fault f⟩
    · rw [(hst f f1).1, if_neg hfn]
    · rw [hpre, f2 (mkS D) (upI I 0 18 f) (by rw [upI_row (by decide)]) (by rw [upI_row (by decide)]), Option.bind_some]
      show (if 0 ≤ -10 - f then _ else some (-10 - f, upI (upI I 0 18 f) 38 0 f)) = _
      rw [if_neg (by rcases hf with rfl | rfl | rfl | rfl <;> decide)]
  · rcases within_cases n 2 8 with w5 | ⟨w5, w5a, w5b⟩
    · have hno : n < 2 ∨ ¬ n ≤ 8 := by
        rw [w_within] at w5
        by_cases z : n < 2
        · exact Or.inl z
        · refine Or.inr (fun z2 => ?_)
          rw [if_pos ⟨Int32.not_lt.mp z, z2⟩] at w5
          exact i1ne w5
      refine ⟨-2, D, upI I 0 18 0, _, (hst 0 f1).2 rfl hno, ?_, g.fault 0⟩
      rw [hpre, f2 (mkS D) (upI I 0 18 0) (by rw [upI_row (by decide)]) (by rw [upI_row (by decide)]), Option.bind_some, w5]
      show (if (0 : Int32) ≤ 0 then _ else _) = _
      rw [if_pos (by decide)]
      obtain ⟨m, rfl⟩ : ∃ m, fu = m + 1 := ⟨fu - 1, by omega⟩
      show Rl_X11_line_125 _ _ _ _ _ _ _ _ _ _ 0 0 = _
      unfold Rl_X11_line_125 Rj_X11_line_169
      rw [if_pos rfl, if_pos rfl, ite_self, m_refused]
      rfl
    · obtain ⟨i', hi', rfl⟩ : ∃ j, j < 2147483648 ∧ i = nI j := ⟨nx i, nx_bd _, nI_nx f5⟩
      have n0 : ¬ n < 0 := f4
      obtain ⟨n', hn', rfl⟩ : ∃ j, j < 2147483648 ∧ n = nI j := ⟨nx n, nx_bd _, nI_nx f4⟩
      have hn2 : 2 ≤ n' := (nI_le_iff (a := 2) (by decide) hn').mp w5a
      have hn8 : n' ≤ 8 := (nI_le_iff (b := 8) hn' (by decide)).mp w5b
      rw [f3.1, dbl_sum hi' hn' (nx_bd _)] at f6
      have f60 := f3.2
      obtain ⟨v, hv⟩ := lrf_ex (fun t => I 75 (60 * k + i' + t)) n' (nS I)
      obtain ⟨A1, A2⟩ := x_lineA fu hfu g (x2 := x2) (x3 := x3) (x4 := x4) hk h1 hkk hkd ht1 hl (by rw [erf]; exact f1) f6 f60 f7 hn2 hn8 hv
      have hm : ∀ (J' : II) (D' : Dn), (∀ a j, 38 ≤ a → a < 77 → J' a j = I a j) → Rf_X11_line fu (mkS D') J' (nI kd) x2 x3 x4 (nI k) lane (nI i') (nI n') = if v = 0 then (if nL I = 14 then some (-4, upI J' 38 0 0) else some (nI (nL I), upI (upI (mV (fun t => I 75 (60 * k + i' + t)) kd (nL I) (sixW J' (nL I) (nI kd) (nI n') x2 x3 x4) n') 38 4 (nI (nL I + 1))) 38 0 0)) else some (v, upI J' 38 0 0) := by
        intro J' D' e7
        rw [hpre, f2 _ J' (e7 _ _ (by decide) (by decide)) (e7 _ _ (by decide) (by decide)), Option.bind_some, w5, ix60]
        show (if (0 : Int32) ≤ 0 then _ else _) = _
        rw [if_pos (by decide)]
        exact m_lineA fu hfu (J := J') rfl hnL hn2 hn8 hkd (by omega) hnS ((e7 _ _ (by decide) (by decide)).trans g.2.1.1.1.1) ((e7 _ _ (by decide) (by decide)).trans gL.1.1.1) (fun t ht => e7 _ _ (by decide) (by decide)) hv
      by_cases q : v = 0 ∧ nL I < 14
      · obtain ⟨J, j1, j2, j3, j4⟩ := A2 q
        obtain ⟨q1, q2⟩ := q
        obtain ⟨hm1, hs1, hu1⟩ : (∀ x, x < n' - 1 → mok (fun t => I 75 (60 * k + i' + t)) x) ∧ (∀ x, x < n' → sok (fun t => I 75 (60 * k + i' + t)) (nS I) x) ∧ un (cst (fun t => I 75 (60 * k + i' + t))) n' = true := by
          rcases hv with ⟨-, z⟩ | ⟨-, -, z⟩ | ⟨-, -, -, z⟩ | ⟨y1, y2, y3, -⟩
          · rw [q1] at z; exact absurd z (by decide)
          · rw [q1] at z; exact absurd z (by decide)
          · rw [q1] at z; exact absurd z (by decide)
          · exact ⟨y1, y2, y3⟩
        have hr := hm (upI J 1 5 (nI (nL I + 1))) (upP (liD D n') 5 (nL I) (D.2.2.2 + 2)) (fun a j z1 z2 => by rw [upI_row (by omega), j1 a j (by omega), upI_row (by omega)])
        rw [if_pos q1, if_neg (by omega)] at hr
        refine ⟨_, _, _, _, j4, hr, ?_⟩
        have hjm : jmax 1 x3 = x3 := by
          rw [jmax_gre]
          unfold t_X11_greater
          rw [if_pos w3a]
        rw [hjm] at j2
        obtain ⟨l, el⟩ : ∃ l, nL I = l := ⟨_, rfl⟩
        rw [el] at j2 ⊢
        have hl14 : l < 14 := by omega
        have kl1 : nx (nI (l + 1)) = l + 1 := nx_nI (by omega)
        have hol := ol_le (kd := kd) hm1
        have holt := ol_lt (kd := kd) hm1
        have j3' : ∀ t, t < n' → J (D.2.2.2 + 2) t = (fun t => I 75 (60 * k + i' + t)) (2 * t) ∧ J (D.2.2.2 + 3) t = nI (ol (fun t => I 75 (60 * k + i' + t)) kd t) ∧ J (D.2.2.2 + 4) t = 0 := j3
        generalize (fun t => I 75 (60 * k + i' + t)) = c at *
        obtain ⟨F, eF⟩ : ∃ F : II, upI (upI (mV c kd l (sixW (upI J 1 5 (nI (l + 1))) l (nI kd) (nI n') x2 x3 x4) n') 38 4 (nI (l + 1))) 38 0 0 = F := ⟨_, rfl⟩
        have hF : ∀ a j, ¬ (a = 38 ∧ j = 0) → ¬ (a = 1 ∧ j = 5) → ¬ (a = 38 ∧ j = 4) → ¬ ((a = 41 ∨ a = 42 ∨ a = 45 ∨ a = 46 ∨ a = 47 ∨ a = 49) ∧ j = l) → ¬ ((a = 43 ∨ a = 44) ∧ 8 * l ≤ j ∧ j < 8 * l + n') → F a j = J a j := by
          intro a j z4 z5 z6 z7 z8
          rw [← eF]
          simp only [upI, mV, sixW]
          rw [if_neg z4, if_neg z6, if_neg (by omega), if_neg (by omega), if_neg (by omega), if_neg (by omega), if_neg (by omega), if_neg (by omega), if_neg (by omega), if_neg (by omega), if_neg z5]
        have hFI : ∀ a j, a < D.2.2.2 → ¬ (a = 0 ∧ j = 18) → ¬ (a = 38 ∧ j = 0) → ¬ (a = 1 ∧ j = 5) → ¬ (a = 38 ∧ j = 4) → ¬ ((a = 41 ∨ a = 42 ∨ a = 45 ∨ a = 46 ∨ a = 47 ∨ a = 49) ∧ j = l) → ¬ ((a = 43 ∨ a = 44) ∧ 8 * l ≤ j ∧ j < 8 * l + n') → F a j = I a j := by
          intro a j z1 z3 z4 z5 z6 z7 z8
          rw [hF a j z4 z5 z6 z7 z8, j1 a j z1]
          unfold upI
          rw [if_neg z3]
        have v4 : F 38 4 = nI (l + 1) := by rw [← eF, upI_cell (by decide), upI_at]
        have v5 : F 1 5 = nI (l + 1) := by
          rw [← eF, upI_row (by decide), upI_row (by decide), mV_row (by decide) (by decide)]
          unfold sixW
          rw [upI_row (by decide), upI_row (by decide), upI_row (by decide), upI_row (by decide), upI_row (by decide), upI_row (by decide), upI_at]
        have v0 : F 0 18 = F 38 0 := by
          rw [hF 0 18 (by omega) (by omega) (by omega) (by omega) (by omega), j1 0 18 (by omega), upI_at, ← eF, upI_at]
        have v41 : F 41 l = nI kd := by
          rw [← eF, upI_row (by decide), upI_row (by decide), mV_row (by decide) (by decide)]
          unfold sixW
          rw [upI_row (by decide), upI_row (by decide), upI_row (by decide), upI_row (by decide), upI_row (by decide), upI_at]
        have v42 : F 42 l = nI n' := by
          rw [← eF, upI_row (by decide), upI_row (by decide), mV_row (by decide) (by decide)]
          unfold sixW
          rw [upI_row (by decide), upI_row (by decide), upI_row (by decide), upI_row (by decide), upI_at]
        have v45 : F 45 l = x2 := by
          rw [← eF, upI_row (by decide), upI_row (by decide), mV_row (by decide) (by decide)]
          unfold sixW
          rw [upI_row (by decide), upI_row (by decide), upI_row (by decide), upI_at]
        have v46 : F 46 l = x3 := by
          rw [← eF, upI_row (by decide), upI_row (by decide), mV_row (by decide) (by decide)]
          unfold sixW
          rw [upI_row (by decide), upI_row (by decide), upI_at]
        have v47 : F 47 l = x4 := by
          rw [← eF, upI_row (by decide), upI_row (by decide), mV_row (by decide) (by decide)]
          unfold sixW
          rw [upI_row (by decide), upI_at]
        have v49 : F 49 l = 59 := by
          rw [← eF, upI_row (by decide), upI_row (by decide), mV_row (by decide) (by decide)]
          unfold sixW
          rw [upI_at]
        have v43 : ∀ t, t < n' → F 43 (8 * l + t) = c (2 * t) := fun t ht => by
          rw [← eF, upI_row (by decide), upI_row (by decide)]
          unfold mV
          rw [if_pos (by omega), Nat.add_sub_cancel_left]
        have v44 : ∀ t, t < n' → F 44 (8 * l + t) = nI (ol c kd t) := fun t ht => by
          rw [← eF, upI_row (by decide), upI_row (by decide)]
          unfold mV
          rw [if_neg (by omega), if_pos (by omega), Nat.add_sub_cancel_left]
        rw [eF]
        have hD : ∀ a j, a < D.2.2.2 → ¬ (a = 5 ∧ j = l) → (upP (liD D n') 5 l (D.2.2.2 + 2)).1 a j = D.1 a j := fun a j z1 z2 => by
          show (if a = 5 ∧ j = l then _ else (liD D n').1 a j) = _
          rw [if_neg z2, liD_old.2 a j z1]
        have hold : Old D (upP (liD D n') 5 l (D.2.2.2 + 2)) := ⟨liD_old.1.1, liD_old.1.2.1, fun a j z1 z2 => hD a j z2 (by omega)⟩
        have hNew : (upP (liD D n') 5 l (D.2.2.2 + 2)).1 5 l = D.2.2.2 + 2 := if_pos ⟨rfl, rfl⟩
        have hDD : ∀ a j, a ≠ 5 → (upP (liD D n') 5 l (D.2.2.2 + 2)).1 a j = (liD D n').1 a j := fun a j z => if_neg (fun y => z y.1)
        obtain ⟨N, eN⟩ : ∃ N, D.2.2.2 = N := ⟨_, rfl⟩
        have hT : ∀ a, (upP (liD D n') 5 l (D.2.2.2 + 2)).2.1 a = (liD D n').2.1 a ∧ (upP (liD D n') 5 l (D.2.2.2 + 2)).2.2.1 a = (liD D n').2.2.1 a := fun a => ⟨rfl, rfl⟩
        have hE : (upP (liD D n') 5 l (D.2.2.2 + 2)).2.2.2 = N + 5 := by show D.2.2.2 + 1 + 1 + 1 + 1 + 1 = _; rw [eN]
        obtain ⟨g0, g1, g2, g3, g4, g5, g6, g7, g8⟩ := g
        have hla : ∀ j, j < l → la (upP (liD D n') 5 l (D.2.2.2 + 2)) j = la D j := fun j hj => by unfold la; rw [hD 5 j (by omega) (by omega)]
        have hlaN : la (upP (liD D n') 5 l (D.2.2.2 + 2)) l = N + 1 := by unfold la; rw [hNew, eN]; rfl
        have hnLF : nL F = l + 1 := by unfold nL; rw [v4, kl1]
        have hnSF : nS F = nS I := by unfold nS; rw [hFI 38 1 (by omega) (by omega) (by omega) (by omega) (by omega) (by omega) (by omega)]
        have hGL : GL (upP (liD D n') 5 l (D.2.2.2 + 2)) F := by
          have n2 : ¬ x2 < 0 := le0 w2a
          have n3 : ¬ x3 < 0 := fun z => absurd (Int32.lt_of_le_of_lt w3a z) (by decide)
          have n4 : ¬ x4 < 0 := fun z => n2 (Int32.lt_of_le_of_lt w4a z)
          have e24 : nx x2 ≤ nx x4 := by
            have := w4a
            rw [nI_nx n2, nI_nx n4, nI_le_iff (nx_bd _) (nx_bd _)] at this
            exact this
          have e3 : 1 ≤ nx x3 := by
            have := w3a
            rw [nI_nx n3] at this
            exact (nI_le_iff (a := 1) (by decide) (nx_bd _)).mp this
          obtain ⟨y1, y2, y3, y4, y5⟩ := g2
          have v48 : F 48 l = 0 := by rw [hFI 48 l (by omega) (by omega) (by omega) (by omega) (by omega) (by omega) (by omega)]; exact y4 l (by omega) (by omega)
          have v50 : ∀ t, t < 8 → F 50 (8 * l + t) = 0 := fun t ht => by rw [hFI 50 _ (by omega) (by omega) (by omega) (by omega) (by omega) (by omega) (by omega)]; exact y5 _ (by omega) (by omega)
          have hZ : lZ F l = n' := by unfold lZ; rw [v42, nx_nI (by omega)]
          have hSt : ∀ t, t < n' → lS F l t = cst c t := fun t ht => by unfold lS; rw [v43 t ht]; rfl
          have hO : ∀ t, t < n' → lO F l t = ol c kd t := fun t ht => by
            unfold lO
            have := hol t (by omega)
            rw [v44 t ht, nx_nI (by omega)]
          have hN1 : ∀ j, F (N + 1) j = J (N + 1) j := fun j => hF _ _ (by omega) (by omega) (by omega) (by omega) (by omega)
          have hN2 : ∀ j, F (N + 1 + 1) j = J (N + 2) j := fun j => hF _ _ (by omega) (by omega) (by omega) (by omega) (by omega)
          have hN3 : ∀ j, F (N + 1 + 2) j = J (N + 3) j := fun j => hF _ _ (by omega) (by omega) (by omega) (by omega) (by omega)
          have hN4 : ∀ j, F (N + 1 + 3) j = J (N + 4) j := fun j => hF _ _ (by omega) (by omega) (by omega) (by omega) (by omega)
          have hF' : ∀ a j, a < N → ¬ (a = 0 ∧ j = 18) → ¬ (a = 38 ∧ j = 0) → ¬ (a = 1 ∧ j = 5) → ¬ (a = 38 ∧ j = 4) → ¬ ((a = 41 ∨ a = 42 ∨ a = 45 ∨ a = 46 ∨ a = 47 ∨ a = 49) ∧ j = l) → ¬ ((a = 43 ∨ a = 44) ∧ 8 * l ≤ j ∧ j < 8 * l + n') → F a j = I a j := by
            intro a j z1
            exact hFI a j (by omega)
          rw [eN] at j2 j3'
          refine ⟨by rw [v4, v5]; exact ⟨isN_nI (by omega) (by decide), rfl⟩, fun l' hl' => ?_, fun j l' hj hl' => ?_, fun l' z1 z2 => ?_, fun j z1 z2 => ?_⟩
          · rw [hnLF] at hl'
            by_cases ql : l' = l
            · subst ql
              refine ⟨⟨⟨?_, ?_, ?_, ?_, ?_, ?_, ?_, ?_, ?_, ?_⟩, fun t ht => ?_, fun t u ht hu => ?_⟩, ?_⟩
              · rw [v41]; exact isN_nI hkd (by decide)
              · rw [v42]; exact isN_nI hn8 (by decide)
              · rw [hZ]; exact hn2
              · rw [v45]; exact ⟨nI_nx n2, nx_le n2 (n := 1439) (by decide) w2b⟩
              · rw [v46]; exact ⟨nI_nx n3, nx_le n3 (n := 240) (by decide) w3b⟩
              · unfold lE; rw [v46]; exact e3
              · rw [v47]; exact ⟨nI_nx n4, nx_le n4 (n := 1439) (by decide) w4b⟩
              · unfold lF lL; rw [v45, v47]; exact e24
              · rw [v48]; exact isN_nI (k := 0) (Nat.zero_le _) (by decide)
              · rw [v49]; exact isN_nI (k := 59) (Nat.le_refl _) (by decide)
              · rw [hZ] at ht
                obtain ⟨s1, s2⟩ := hs1 t ht
                have := hol t (by omega)
                rw [hSt t ht, hnSF, v43 t ht, v44 t ht, v50 t (by omega), s1]
                exact ⟨isN_nI (by omega) (by decide), s2, isN_nI this (by omega), isN_nI (k := 0) (Nat.zero_le _) (by decide)⟩
              · rw [hZ] at hu
                rw [hSt t (by omega), hSt u hu, hO t (by omega), hO u hu]
                exact ⟨(un_iff _ _).mp hu1 t u ht hu, holt t u ht (by omega)⟩
              · unfold XLn
                rw [hlaN, hNew, hE]
                refine ⟨⟨by omega, by omega, ?_, ?_, ?_, ?_⟩, ⟨?_, ?_, ?_, ?_, ?_, ?_⟩, ?_, fun t ht => ?_⟩
                · rw [(hT _).1, liD_2, eN, if_neg (by omega), if_neg (by omega), if_neg (by omega), if_pos rfl]
                · rw [(hT _).1, liD_2, eN, if_neg (by omega), if_neg (by omega), if_pos rfl]
                · rw [(hT _).1, liD_2, eN, if_neg (by omega), if_pos rfl]
                · rw [(hT _).1, liD_2, eN, if_pos rfl]
                · rw [hDD _ _ (by omega), liD_1, eN, if_neg (by omega), if_neg (by omega), if_neg (by omega), if_neg (by omega), if_pos ⟨rfl, rfl⟩]
                · rw [hDD _ _ (by omega), liD_1, eN, if_neg (by omega), if_neg (by omega), if_pos ⟨rfl, rfl⟩]
                · rw [hDD _ _ (by omega), liD_1, eN, if_pos ⟨rfl, rfl⟩]
                · rw [(hT _).2, liD_3, eN, if_neg (by omega), if_neg (by omega), if_pos rfl]
                · rw [(hT _).2, liD_3, eN, if_neg (by omega), if_pos rfl]
                · rw [(hT _).2, liD_3, eN, if_pos rfl]
                · rw [hN1, hN1, hN1, hN1, hN1, hN1, hN1, hN1, v41, v42, v45, v46, v47, v48, v49]
                  exact j2
                · rw [hZ] at ht
                  rw [hN2, hN3, hN4, v43 t ht, v44 t ht, v50 t (by omega)]
                  exact j3' t ht
            · obtain ⟨r, x⟩ := y2 l' (by omega)
              have hA : 77 ≤ la D l' := by have := x.1.1; unfold la; omega
              have hB : la D l' + 3 < N := by rw [← eN]; exact x.1.2.1
              have r41 : F 41 l' = I 41 l' := hF' _ _ (by omega) (by omega) (by omega) (by omega) (by omega) (by omega) (by omega)
              have r42 : F 42 l' = I 42 l' := hF' _ _ (by omega) (by omega) (by omega) (by omega) (by omega) (by omega) (by omega)
              have r45 : F 45 l' = I 45 l' := hF' _ _ (by omega) (by omega) (by omega) (by omega) (by omega) (by omega) (by omega)
              have r46 : F 46 l' = I 46 l' := hF' _ _ (by omega) (by omega) (by omega) (by omega) (by omega) (by omega) (by omega)
              have r47 : F 47 l' = I 47 l' := hF' _ _ (by omega) (by omega) (by omega) (by omega) (by omega) (by omega) (by omega)
              have r48 : F 48 l' = I 48 l' := hF' _ _ (by omega) (by omega) (by omega) (by omega) (by omega) (by omega) (by omega)
              have r49 : F 49 l' = I 49 l' := hF' _ _ (by omega) (by omega) (by omega) (by omega) (by omega) (by omega) (by omega)
              have rz : lZ F l' = lZ I l' := by unfold lZ; rw [r42]
              have rz8 : lZ I l' ≤ 8 := r.1.2.1.2
              have r43 : ∀ t, t < 8 → F 43 (8 * l' + t) = I 43 (8 * l' + t) := fun t ht => hF' _ _ (by omega) (by omega) (by omega) (by omega) (by omega) (by omega) (by omega)
              have r44 : ∀ t, t < 8 → F 44 (8 * l' + t) = I 44 (8 * l' + t) := fun t ht => hF' _ _ (by omega) (by omega) (by omega) (by omega) (by omega) (by omega) (by omega)
              have r50 : ∀ t, t < 8 → F 50 (8 * l' + t) = I 50 (8 * l' + t) := fun t ht => hF' _ _ (by omega) (by omega) (by omega) (by omega) (by omega) (by omega) (by omega)
              have rS : ∀ t, t < 8 → lS F l' t = lS I l' t := fun t ht => by unfold lS; rw [r43 t ht]
              have rO : ∀ t, t < 8 → lO F l' t = lO I l' t := fun t ht => by unfold lO; rw [r44 t ht]
              have rF : lF F l' = lF I l' := by unfold lF; rw [r45]
              have rE : lE F l' = lE I l' := by unfold lE; rw [r46]
              have rL : lL F l' = lL I l' := by unfold lL; rw [r47]
              have rd1 : ∀ b j, la D l' ≤ b → b ≤ la D l' + 3 → F b j = I b j := fun b j z1 z2 => hF' _ _ (by omega) (by omega) (by omega) (by omega) (by omega) (by omega) (by omega)
              refine ⟨⟨?_, fun t ht => ?_, fun t u ht hu => ?_⟩, ?_⟩
              · rw [r41, r42, rz, r45, r46, rE, r47, rF, rL, r48, r49]; exact r.1
              · rw [rz] at ht
                rw [r43 t (by omega), rS t (by omega), hnSF, r44 t (by omega), r50 t (by omega)]
                exact r.2.1 t ht
              · rw [rz] at hu
                rw [rS t (by omega), rS u (by omega), rO t (by omega), rO u (by omega)]
                exact r.2.2 t u ht hu
              · obtain ⟨⟨x1, x2, x3, x4, x5, x6⟩, ⟨x7, x8, x9, x10, x11, x12⟩, x13, x14⟩ := x
                have t0 := hold.2.1 (la D l') (by omega)
                have t1 := hold.2.1 (la D l' + 1) (by omega)
                have t2 := hold.2.1 (la D l' + 2) (by omega)
                have t3 := hold.2.1 (la D l' + 3) (by omega)
                unfold XLn
                rw [hla l' (by omega), hD 5 l' (by omega) (by omega), hE, t0.1, t1.1, t2.1, t3.1, t1.2, t2.2, t3.2, hold.2.2 _ _ hA (by omega), hold.2.2 _ _ hA (by omega), hold.2.2 _ _ hA (by omega), rd1 _ 0 (by omega) (by omega), rd1 _ 1 (by omega) (by omega), rd1 _ 2 (by omega) (by omega), rd1 _ 3 (by omega) (by omega), rd1 _ 4 (by omega) (by omega), rd1 _ 5 (by omega) (by omega), rd1 _ 9 (by omega) (by omega), rd1 _ 10 (by omega) (by omega), r41, r42, r45, r46, r47, r48, r49, rz]
                refine ⟨⟨x1, by omega, x3, x4, x5, x6⟩, ⟨x7, x8, x9, x10, x11, x12⟩, x13, fun t ht => ?_⟩
                rw [rd1 (la D l' + 1) _ (by omega) (by omega), rd1 (la D l' + 2) _ (by omega) (by omega), rd1 (la D l' + 3) _ (by omega) (by omega), r43 t (by omega), r44 t (by omega), r50 t (by omega)]
                exact x14 t ht
          · rw [hnLF] at hl'
            rw [hla j (by omega)]
            by_cases ql : l' = l
            · subst ql
              rw [hlaN]
              have := (y2 j (by omega)).2.1.2.1
              omega
            · rw [hla l' (by omega)]
              exact y3 j l' hj (by omega)
          · rw [hnLF] at z1
            rw [hF' 48 l' (by omega) (by omega) (by omega) (by omega) (by omega) (by omega) (by omega)]
            exact y4 l' (by omega) z2
          · rw [hnLF] at z1
            rw [hF' 50 j (by omega) (by omega) (by omega) (by omega) (by omega) (by omega) (by omega)]
            exact y5 j (by omega) z2
        have hGO : GO (upP (liD D n') 5 l (D.2.2.2 + 2)) F := by
          obtain ⟨o1, o2, o3⟩ := g5
          have e34 : F 38 34 = I 38 34 := hFI 38 34 (by omega) (by omega) (by omega) (by omega) (by omega) (by omega) (by omega)
          have e07 : F 0 7 = I 0 7 := hFI 0 7 (by omega) (by omega) (by omega) (by omega) (by omega) (by omega) (by omega)
          have e63 : ∀ j, F 63 j = I 63 j := fun j => hFI 63 j (by omega) (by omega) (by omega) (by omega) (by omega) (by omega) (by omega)
          have hnO : nO F = nO I := by unfold nO; rw [e34]
          refine ⟨by rw [e34, e07]; exact o1, fun t ht => ?_, ?_⟩
          · rw [hnO] at ht
            obtain ⟨b1, b2, b3⟩ := o2 t ht
            have eo : oL F t = oL I t := by unfold oL; rw [e63]
            rw [eo, e63, hnLF, hD 12 t (by omega) (by omega), hD 5 _ (by omega) (by omega)]
            exact ⟨b1, by omega, b3⟩
          · rw [hnO]
            unfold oL
            simp only [e63]
            exact o3
        refine ⟨by rw [hE]; omega, g1.co (fun a k z => hFI a k ?_ ?_ ?_ ?_ ?_ ?_ ?_), hGL, g3.ce hold (fun t _ => hD 6 t (by omega) (by omega)) (fun a k z z2 => hFI a k ?_ ?_ ?_ ?_ ?_ ?_ ?_), g4.ce hold (fun t _ => hD 7 t (by omega) (by omega)) (fun a k z z2 => hFI a k ?_ ?_ ?_ ?_ ?_ ?_ ?_), hGO, g6.ce hold (fun t _ => hD 13 t (by omega) (by omega)) (fun a k z z2 => hFI a k ?_ ?_ ?_ ?_ ?_ ?_ ?_), g7.grow (fun a k z z2 z3 => hFI a k ?_ z2 z3 ?_ ?_ ?_ ?_) v0, g8.co (fun a k z => hFI a k ?_ ?_ ?_ ?_ ?_ ?_ ?_)⟩
        all_goals (simp only [rdS, rdT, rdP, rdD, rdR, rdH] at z)
        all_goals omega
      · obtain ⟨J, j1, j2⟩ := A1 q
        have hr : Rf_X11_line fu (mkS (coD D n')) J (nI kd) x2 x3 x4 (nI k) lane (nI i') (nI n') = some (if v = 0 then -4 else v, upI J 38 0 0) := by
          rw [hm J (coD D n') (fun a j z1 z2 => by rw [j1 a j (by omega), upI_row (by omega)])]
          by_cases qv : v = 0
          · have q14 : nL I = 14 := by
              have : ¬ nL I < 14 := fun z => q ⟨qv, z⟩
              omega
            rw [if_pos qv, if_pos qv, if_pos q14]
          · rw [if_neg qv, if_neg qv]
        refine ⟨_, _, _, _, j2, hr, ?_⟩
        refine g.grow coD_old.1 (fun a j ha => coD_old.2 a j (by omega)) (fun a j z1 z2 z3 z4 => ?_) ?_
        · unfold upI
          rw [if_neg z4, j1 a j z1]
          unfold upI
          rw [if_neg z3]
        · rw [upI_at, upI_row (by decide), j1 0 18 (by omega), upI_at]
