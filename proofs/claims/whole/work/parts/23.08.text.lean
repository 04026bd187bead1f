/-! text -/
theorem stT_big {a k : Nat} (h : 77 ≤ a) : (stT.getD a []).getD k 0 = 0 := by
  have : stT.getD a [] = [] := by
    rw [List.getD_eq_getElem?_getD, List.getElem?_eq_none (by show stT.length ≤ a; exact h)]
    rfl
  rw [this]
  rfl
theorem GR.grow {I I' : II} (g : GR I) (h : ∀ a k, rdR a k → ¬ (a = 0 ∧ k = 18) → ¬ (a = 38 ∧ k = 0) → I' a k = I a k) (hf : I' 0 18 = I' 38 0) : GR I' := by
  obtain ⟨r1, r2, r3, r4, r5, r6⟩ := g
  unfold rdR at h
  have e1 : I' 38 1 = I 38 1 := h _ _ (by omega) (by omega) (by omega)
  have e2 : I' 38 45 = I 38 45 := h _ _ (by omega) (by omega) (by omega)
  have e3 : I' 0 11 = I 0 11 := h _ _ (by omega) (by omega) (by omega)
  have e4 : I' 38 47 = I 38 47 := h _ _ (by omega) (by omega) (by omega)
  have e5 : I' 0 13 = I 0 13 := h _ _ (by omega) (by omega) (by omega)
  have e6 : I' 38 51 = I 38 51 := h _ _ (by omega) (by omega) (by omega)
  have e7 : I' 0 15 = I 0 15 := h _ _ (by omega) (by omega) (by omega)
  have e8 : I' 38 56 = I 38 56 := h _ _ (by omega) (by omega) (by omega)
  have e9 : I' 0 17 = I 0 17 := h _ _ (by omega) (by omega) (by omega)
  have eS : nS I' = nS I := by unfold nS; rw [e1]
  refine ⟨by rw [e2, e3]; exact r1, fun d hd => by rw [h 14 d (by omega) (by omega) (by omega), h 69 d (by omega) (by omega) (by omega)]; exact r2 d hd, by rw [e4, e5, eS]; exact r3, by rw [e6, e7]; exact r4, by rw [e8, e9]; exact r5, hf⟩
theorem Inv.grow {D D' : Dn} {I I' : II} (g : Inv D I) (o : Old D D') (hr : ∀ a k, a < 77 → D'.1 a k = D.1 a k) (h : ∀ a k, a < D.2.2.2 → ¬ scr a k → ¬ (a = 0 ∧ k = 18) → ¬ (a = 38 ∧ k = 0) → I' a k = I a k) (hf : I' 0 18 = I' 38 0) : Inv D' I' := by
  obtain ⟨g0, g1, g2, g3, g4, g5, g6, g7, g8⟩ := g
  have hh : ∀ a k, a < 77 → ¬ scr a k → ¬ (a = 0 ∧ k = 18) → ¬ (a = 38 ∧ k = 0) → I' a k = I a k := fun a k z => h a k (by omega)
  have o1 := o.1
  refine ⟨by omega, g1.co (fun a k z => h a k ?_ ?_ ?_ ?_), g2.ce o (fun l _ => hr 5 l (by decide)) (fun a k z z2 => h a k ?_ ?_ ?_ ?_), g3.ce o (fun l _ => hr 6 l (by decide)) (fun a k z z2 => h a k ?_ ?_ ?_ ?_), g4.ce o (fun l _ => hr 7 l (by decide)) (fun a k z z2 => h a k ?_ ?_ ?_ ?_), g5.ce (fun l _ => hr 5 l (by decide)) (fun k _ => hr 12 k (by decide)) (fun a k z => h a k ?_ ?_ ?_ ?_), g6.ce o (fun l _ => hr 13 l (by decide)) (fun a k z z2 => h a k ?_ ?_ ?_ ?_), g7.grow (fun a k z z2 z3 => h a k ?_ ?_ z2 z3) hf, g8.co (fun a k z => h a k ?_ ?_ ?_ ?_)⟩ <;> (simp only [rdS, rdL, rdT, rdP, rdO, rdD, rdR, rdH] at z) <;> (try unfold scr) <;> omega
theorem row_bar (fu : Nat) {I : II} {k : Nat} (hk : k < 4) (hs : shOK I k) {lane i n mm : Int32} {n4 : Int64} (hl : t_X10_isLane lane = 1) (h4 : n4 = n.toInt64 * mm.toInt64) (hneg : n4 < 0 ↔ n < 0) :
    (∃ f : Int32, (f = 1 ∨ f = 2 ∨ f = 3 ∨ f = 4) ∧ t_X5_rowFault I (30 + 2 * k) lane i n mm = f ∧ ∀ (S : Sk) (J : II), J 73 k = I 73 k → J 74 k = I 74 k → Rf_X11_barred fu S J (nI k) lane i n4 = some (-10 - f, upI J 38 0 f)) ∨
    (t_X5_rowFault I (30 + 2 * k) lane i n mm = 0 ∧ (∀ (S : Sk) (J : II), J 73 k = I 73 k → J 74 k = I 74 k → Rf_X11_barred fu S J (nI k) lane i n4 = some (0, J)) ∧ isN (I 73 k) 60 ∧ ¬ n < 0 ∧ ¬ i < 0 ∧ i.toInt64 + n4 ≤ (I 73 k).toInt64 ∧ ∀ t, t < nx (I 73 k) → I (31 + 2 * k) t = I 75 (60 * k + t)) := by
  have ek := nx_nI (k := k) (by omega)
  have hik : ∀ a, a ≠ 0 → inbL a 4 (nI k) := fun a ha => ⟨ha, nI_nn (by omega), by rw [ek]; omega⟩
  have hb : ∀ (S : Sk) (J : II), J 73 k = I 73 k → J 74 k = I 74 k → Rf_X11_barred fu S J (nI k) lane i n4 = (if I 73 k < 0 then (if 0 ≤ I 73 k then (if n4 < 0 then some (-14, upI J 38 0 4) else if t_X11_isBeyond i n4 (I 73 k) = 0 then some (0, J) else some (-13, upI J 38 0 3)) else some (-11, upI J 38 0 1)) else if I 74 k = lane then (if 0 ≤ I 73 k then (if n4 < 0 then some (-14, upI J 38 0 4) else if t_X11_isBeyond i n4 (I 73 k) = 0 then some (0, J) else some (-13, upI J 38 0 3)) else some (-11, upI J 38 0 1)) else some (-12, upI J 38 0 2)) := by
    intro S J e1 e2
    unfold Rf_X11_barred Rj_X11_barred_44
    have e0 : (0 : Int32) ≤ lg_cmp n4 0 ↔ ¬ n4 < 0 := by
      rw [← lg_cmp_lt]
      exact Int32.not_lt.symm
    rw [lane_eq, hl, if_neg i1ne, gd_pos (hik _ (by decide)), gd_pos (hik _ (by decide)), gd_pos (hik _ (by decide))]
    simp only [rdN, ek, e1, e2, e0, m_failed, Option.bind_some, ite_not]
    rfl
  unfold t_X5_rowFault
  rw [← h4]
  rcases hs with ⟨y1, y2⟩ | ⟨y1, ⟨y2, y3⟩, ⟨y4, y5⟩, y6⟩
  · left
    refine ⟨1, by decide, by rw [if_pos y1], fun S J e1 e2 => ?_⟩
    rw [hb S J e1 e2, y2, if_pos (by decide), if_neg (by decide)]
    rfl
  · have nk : ¬ I 73 k < 0 := by rw [y2.1]; exact nI_nn (nx_bd _)
    have no : 0 ≤ I 73 k := Int32.not_lt.mp nk
    rw [if_neg (by rw [y1]; decide), y5]
    by_cases q1 : I 74 k = lane
    · rw [if_pos q1]
      by_cases q2 : n < 0
      · left
        refine ⟨4, by decide, by rw [if_neg (Int32.not_le.mpr q2)], fun S J e1 e2 => ?_⟩
        rw [hb S J e1 e2, if_neg nk, if_pos q1, if_pos no, if_pos (hneg.mpr q2)]
        rfl
      · rw [if_pos (Int32.not_lt.mp q2)]
        have q3 : ¬ n4 < 0 := fun z => q2 (hneg.mp z)
        rcases holds_beyond I (30 + 2 * k) i n4 with ⟨z1, z2⟩ | ⟨z1, z2, z3, z4, z5⟩
        · left
          rw [y3] at z2
          refine ⟨3, by decide, by rw [if_pos z1], fun S J e1 e2 => ?_⟩
          rw [hb S J e1 e2, if_neg nk, if_pos q1, if_pos no, if_neg q3, z2, if_neg i1ne]
          rfl
        · right
          rw [y3] at z2 z5
          refine ⟨by rw [z1, if_neg i1ne], fun S J e1 e2 => ?_, y2, q2, z3, z5, y6⟩
          rw [hb S J e1 e2, if_neg nk, if_pos q1, if_pos no, if_neg q3, z2, if_pos rfl]
    · rw [if_neg q1]
      left
      refine ⟨2, by decide, rfl, fun S J e1 e2 => ?_⟩
      rw [hb S J e1 e2, if_neg nk, if_neg q1]
      rfl
def txD (D : Dn) (n : Nat) : Dn := nwS (upP (nwS (nwS D 7 0) 100 4) D.2.2.2 0 (D.2.2.2 + 2)) 100 n
theorem txD_mk {D : Dn} (h : 77 ≤ D.2.2.2) (n : Nat) : nwS (upP (nwS (nwS (mkS D) 7 0) 100 4) D.2.2.2 0 (D.2.2.2 + 2)) 100 n = mkS (txD D n) := by
  unfold txD
  rw [mk_nw h, mk_nw (D := nwS D 7 0) (Nat.le_succ_of_le h), mk_up (stT_big h), mk_nw (Nat.le_succ_of_le (Nat.le_succ_of_le h))]
theorem txD_1 {D : Dn} {n a k : Nat} (h : a < D.2.2.2) : (txD D n).1 a k = D.1 a k := by
  show (if a = D.2.2.2 + 1 + 1 then 0 else if a = D.2.2.2 ∧ k = 0 then _ else if a = D.2.2.2 + 1 then 0 else if a = D.2.2.2 then 0 else D.1 a k) = _
  rw [if_neg (by omega), if_neg (by omega), if_neg (by omega), if_neg (by omega)]
theorem txD_2 {D : Dn} {n a : Nat} : (txD D n).2.1 a = if a = D.2.2.2 + 2 then 100 else if a = D.2.2.2 + 1 then 100 else if a = D.2.2.2 then 7 else D.2.1 a := rfl
theorem txD_3 {D : Dn} {n a : Nat} : (txD D n).2.2.1 a = if a = D.2.2.2 + 2 then n else if a = D.2.2.2 + 1 then 4 else if a = D.2.2.2 then 0 else D.2.2.1 a := rfl
theorem txD_N {D : Dn} {n : Nat} : (txD D n).1 D.2.2.2 0 = D.2.2.2 + 2 := by
  show (if D.2.2.2 = D.2.2.2 + 1 + 1 then 0 else if D.2.2.2 = D.2.2.2 ∧ 0 = 0 then D.2.2.2 + 2 else _) = _
  rw [if_neg (by omega), if_pos ⟨rfl, rfl⟩]
theorem txD_old {D : Dn} {n : Nat} : Old D (txD D n) := by
  refine ⟨by show D.2.2.2 ≤ D.2.2.2 + 1 + 1 + 1; omega, fun a ha => ?_, fun a k _ ha => txD_1 ha⟩
  rw [txD_2, txD_3, if_neg (by omega), if_neg (by omega), if_neg (by omega), if_neg (by omega), if_neg (by omega), if_neg (by omega)]
  exact ⟨rfl, rfl⟩
/-- what the class does with a row of codes -/
theorem x_textA (fu : Nat) (hfu : 100 < fu) {D : Dn} {I : II} (g : Inv D I) {k i n : Nat} {lane : Int32} (hk : k < 4) (hl : t_X10_isLane lane = 1) (hf : t_X5_rowFault (upI I 0 18 0) (30 + 2 * k) lane (nI i) (nI n) 1 = 0) (hz : i + n ≤ nx (I 73 k)) (hz2 : nx (I 73 k) ≤ 60) (hce : ∀ t, t < nx (I 73 k) → I (31 + 2 * k) t = I 75 (60 * k + t)) :
    ∃ J, (∀ a j, a < D.2.2.2 → J a j = upI I 0 18 0 a j) ∧ ((ps (fun t => I 75 (60 * k + i + t)) n (nS I) 4 0 0 (fun _ => 0)).1 = -1 → ∀ j, j < 4 → J (D.2.2.2 + 1) j = nI ((ps (fun t => I 75 (60 * k + i + t)) n (nS I) 4 0 0 (fun _ => 0)).2 j)) ∧
    Rf_X10_text fu (mkS D) I (nI k) lane (nI i) (nI n) = if (ps (fun t => I 75 (60 * k + i + t)) n (nS I) 4 0 0 (fun _ => 0)).1 < 0 then (if nT I < 12 then some (nI (nT I), mkS (upP (txD D n) 6 (nT I) (D.2.2.2 + 1)), upI J 0 2 (nI (nT I + 1))) else some (-4, mkS (txD D n), J)) else some (-100 - (ps (fun t => I 75 (60 * k + i + t)) n (nS I) 4 0 0 (fun _ => 0)).1, mkS (txD D n), J) := by
  have hN : 77 ≤ D.2.2.2 := g.1
  have gT := g.2.2.2.1
  have hnT : nT I ≤ 12 := gT.1.1.2
  have eT : I 0 2 = nI (nT I) := gT.1.2.trans gT.1.1.1
  have hnS : nS I ≤ 16 := g.2.1.1.1.2
  have eS : I 1 3 = nI (nS I) := g.2.1.1.2.trans g.2.1.1.1.1
  have ek := nx_nI (k := k) (by omega)
  have hs1 : t_X10_isSheet (nI k) = 1 := by
    rcases sheet_cases (nI k) with ⟨h1, h2⟩ | ⟨k', hk', e, h1, h2⟩
    · exfalso
      have : t_X10_isWithin (nI k) 0 3 = 0 := h1
      rw [w_within, if_pos ⟨nonneg_nI (by omega), (nI_le_iff (b := 3) (by omega) (by decide)).mpr (by omega)⟩] at this
      exact i1ne this
    · exact h1
  obtain ⟨p1, p2, p3⟩ := mk_sheet (D := D) hk
  obtain ⟨N, eN⟩ : ∃ N, D.2.2.2 = N := ⟨_, rfl⟩
  have eNm : (mkS D).2.2.2 = N := eN
  -- the class's rows after the three new cells
  obtain ⟨I', z1, z2, z3⟩ := x_cells fu (S := upP (nwS (nwS (mkS D) 7 0) 100 4) N 0 (N + 2)) (I := nwI (nwS (mkS D) 7 0) (nwI (mkS D) (upI I 0 18 0))) (a0 := 30 + 2 * k) (r := 31 + 2 * k) (i := i) (n := n) (by
      show (if 30 + 2 * k = N ∧ 3 = 0 then N + 2 else if 30 + 2 * k = (mkS D).2.2.2 + 1 then 0 else if 30 + 2 * k = (mkS D).2.2.2 then 0 else (mkS D).1 (30 + 2 * k) 3) = _
      rw [if_neg (by omega), eNm, if_neg (by omega), if_neg (by omega), p2]; omega) (by
      show (if 31 + 2 * k = (mkS D).2.2.2 + 1 then 4 else if 31 + 2 * k = (mkS D).2.2.2 then 0 else (mkS D).2.2.1 (31 + 2 * k)) = _
      rw [eNm, if_neg (by omega), if_neg (by omega), p3]) (by
      show 31 + 2 * k < (mkS D).2.2.2 + 1 + 1
      omega) (by omega)
  have hS2 : (upP (nwS (nwS (mkS D) 7 0) 100 4) N 0 (N + 2)).2.2.2 = N + 2 := by
    show (mkS D).2.2.2 + 1 + 1 = _
    rw [eNm]
  rw [hS2] at z1 z2 z3
  have eD : nwS (upP (nwS (nwS (mkS D) 7 0) 100 4) N 0 (N + 2)) 100 n = mkS (txD D n) := by rw [← eN]; exact txD_mk hN n
  rw [eD] at z1
  have hI' : ∀ a j, a < N → I' a j = upI I 0 18 0 a j := by
    intro a j ha
    rw [z2 a j (by omega)]
    show (if a = (mkS D).2.2.2 + 1 then 0 else if a = (mkS D).2.2.2 then 0 else upI I 0 18 0 a j) = _
    rw [eNm, if_neg (by omega), if_neg (by omega)]
  have hc : ∀ t, t < n → I' (N + 2) t = (fun t => I 75 (60 * k + i + t)) t := by
    intro t ht
    rw [z3 t ht]
    show (if 31 + 2 * k = (mkS D).2.2.2 + 1 then 0 else if 31 + 2 * k = (mkS D).2.2.2 then 0 else upI I 0 18 0 (31 + 2 * k) (i + t)) = _
    rw [eNm, if_neg (by omega), if_neg (by omega), upI_row (by omega), hce _ (by omega)]
    show I 75 (60 * k + (i + t)) = I 75 (60 * k + i + t)
    rw [Nat.add_assoc]
  obtain ⟨J, j1, j2, j3⟩ := x_first fu hfu (S := mkS (txD D n)) (a := N) (q := N + 1) (r := N + 2) (n := n) (ns := nS I) (c := fun t => I 75 (60 * k + i + t)) (by
      rw [mk_dyn (by omega)]; rw [← eN]; exact txD_N) (by
      rw [mk_len (by omega), txD_3, eN, if_neg (by omega), if_pos rfl]) (by
      rw [mk_len (by omega), txD_3, eN, if_pos rfl]) (by omega) (by omega) hnS 4 0 0 (fun _ => 0) fu I' rfl (Nat.zero_le _) hc (fun j hj => absurd hj (Nat.not_lt_zero j)) (by omega)
  have hJ : ∀ a j, a < N → J a j = upI I 0 18 0 a j := fun a j ha => by rw [j2 a j (by omega), hI' a j ha]
  refine ⟨J, by rw [eN]; exact hJ, by rw [eN]; exact j3, ?_⟩
  have eJ2 : J 0 2 = nI (nT I) := by rw [hJ 0 2 (by omega), upI_cell (by decide), eT]
  have eI3 : I' 1 3 = nI (nS I) := by rw [hI' 1 3 (by omega), upI_row (by decide), eS]
  have h00 : (mkS (txD D n)).1 0 0 = 2 := rfl
  have h01 : (mkS (txD D n)).1 0 1 = 7 := rfl
  have h16 : (upP (nwS (nwS (mkS D) 7 0) 100 4) N 0 (N + 2)).1 0 16 = 30 := by
    show (if 0 = N ∧ 16 = 0 then N + 2 else if 0 = (mkS D).2.2.2 + 1 then 0 else if 0 = (mkS D).2.2.2 then 0 else (mkS D).1 0 16) = _
    rw [if_neg (by omega), eNm, if_neg (by omega), if_neg (by omega)]
    rfl
  have h29 : (upP (nwS (nwS (mkS D) 7 0) 100 4) N 0 (N + 2)).1 29 k = 31 + 2 * k := by
    show (if 29 = N ∧ k = 0 then N + 2 else if 29 = (mkS D).2.2.2 + 1 then 0 else if 29 = (mkS D).2.2.2 then 0 else (mkS D).1 29 k) = _
    rw [if_neg (by omega), eNm, if_neg (by omega), if_neg (by omega), p1]
  have hin16 : inb (upP (nwS (nwS (mkS D) 7 0) 100 4) N 0 (N + 2)) 30 (nI k) := by
    refine ⟨by decide, nI_nn (by omega), ?_⟩
    rw [ek]
    show k < (if 29 = (mkS D).2.2.2 + 1 then 4 else if 29 = (mkS D).2.2.2 then 0 else (mkS D).2.2.1 29)
    rw [eNm, if_neg (by omega), if_neg (by omega)]
    exact hk
  have hinit : f_X7_init fu (nwS (mkS D) 7 0) (nwI (mkS D) (upI I 0 18 0)) N = some (upP (nwS (nwS (mkS D) 7 0) 100 4) N 0 (N + 2), nwI (nwS (mkS D) 7 0) (nwI (mkS D) (upI I 0 18 0))) := by
    unfold f_X7_init
    simp only [lt]
    rw [show (nwS (mkS D) 7 0).2.2.2 + 1 = N + 2 from by show (mkS D).2.2.2 + 1 + 1 = _; rw [eNm]]
    rfl
  unfold Rf_X10_text
  simp only [lt]
  rw [hs1, if_neg i1ne, hl, if_neg i1ne, gd_pos ⟨by decide, nI_nn (by omega), by rw [ek]; exact hk⟩]
  simp only [ek, p1]
  rw [gd_pos (by omega), show 31 + 2 * k - 1 = 30 + 2 * k by omega, hf, if_pos rfl, eNm, hinit, Option.bind_some]
  simp only [h16]
  rw [gd_pos hin16]
  simp only [show (30 : Nat) - 1 = 29 from rfl, h29]
  rw [gd_pos (by omega), show 31 + 2 * k - 1 = 30 + 2 * k by omega, z1, Option.bind_some]
  simp only [h00, h01]
  rw [gd_pos (by decide), show (2 : Nat) - 1 = 1 from rfl, eI3, Nat.add_sub_cancel]
  unfold f_X7_firstFault
  rw [show nI 0 = (0 : Int32) from rfl] at j1
  rw [j1, Option.bind_some]
  simp only [eJ2]
  have c12 : nI (nT I) < (12 : Int32) ↔ nT I < 12 := nI_lt_iff (b := 12) (by omega) (by decide)
  have kT := nx_nI (k := nT I) (by omega)
  by_cases q : (ps (fun t => I 75 (60 * k + i + t)) n (nS I) 4 0 0 (fun _ => 0)).1 < 0
  · rw [if_pos q, if_pos q]
    by_cases q2 : nT I < 12
    · rw [if_pos (c12.mpr q2), if_pos q2, gd_pos ⟨by decide, nI_nn (by omega), by rw [kT]; show nT I < 12; exact q2⟩, kT, mk_up rfl, upI_at, nI_p1, ← nI_1, Int32.add_sub_cancel, eN]
    · rw [if_neg (fun z => q2 (c12.mp z)), if_neg q2]
  · rw [if_neg q, if_neg q]
/-- what the reference does with it -/
theorem m_textA (fu : Nat) (hfu : 100 < fu) {S : Sk} {J : II} {k i n nt ns : Nat} {lane : Int32} {c : Nat → Int32} (hk : k < 4) (hin : i + n ≤ 60) (hns : ns ≤ 16) (hnt : nt ≤ 12) (e1 : J 38 1 = nI ns) (e15 : J 38 15 = nI nt) (hc : ∀ t, t < n → J 75 (60 * k + i + t) = c t) (hb : Rf_X11_barred fu S J (nI k) lane (nI i) (nI n).toInt64 = some (0, J)) :
    ∃ K, (∀ a j, ¬ (a = 38 ∧ j = 21) → a ≠ 55 → K a j = J a j) ∧ ((ps c n ns 4 0 0 (fun _ => 0)).1 = -1 → ∀ j, j < 4 → K 55 j = nI ((ps c n ns 4 0 0 (fun _ => 0)).2 j)) ∧
    Rf_X11_text fu S J (nI k) lane (nI i) (nI n) = if (ps c n ns 4 0 0 (fun _ => 0)).1 < 0 then (if nt = 12 then some (-4, upI K 38 0 0) else some (nI nt, upI (upI (upI (upI (upI (upI K 51 nt (K 55 0)) 52 nt (K 55 1)) 53 nt (K 55 2)) 54 nt (K 55 3)) 38 15 (nI (nt + 1))) 38 0 0)) else some (-100 - (ps c n ns 4 0 0 (fun _ => 0)).1, upI K 38 0 0) := by
  have ek := nx_nI (k := k) (by omega)
  have hs1 : t_X11_noSheet (nI k) = 0 := by
    rcases sheet_cases (nI k) with ⟨h1, h2⟩ | ⟨k', hk', e, h1, h2⟩
    · exfalso
      have : t_X10_isWithin (nI k) 0 3 = 0 := h1
      rw [w_within, if_pos ⟨nonneg_nI (by omega), (nI_le_iff (b := 3) (by omega) (by decide)).mpr (by omega)⟩] at this
      exact i1ne this
    · exact h2
  obtain ⟨K, k1, k2, k3⟩ := m_readText fu hfu (S := S) (n := n) (f := 60 * k + i) (ns := ns) (c := c) (by omega) (by omega) hns 4 0 0 (fun _ => 0) fu (upI J 38 21 0) rfl (Nat.zero_le _) (by rw [upI_cell (by decide)]; exact e1) (fun t ht => by rw [upI_row (by decide)]; exact hc t ht) upI_at (fun j hj => absurd hj (Nat.not_lt_zero j)) (by omega)
  have hK : ∀ a j, ¬ (a = 38 ∧ j = 21) → a ≠ 55 → K a j = J a j := fun a j z1 z2 => by
    rw [k2 a j z1 z2]
    unfold upI
    rw [if_neg z1]
  refine ⟨K, hK, k3, ?_⟩
  rw [show nI 0 = (0 : Int32) from rfl] at k1
  have kT := nx_nI (k := nt) (by omega)
  have hKt : K 38 15 = nI nt := by rw [hK 38 15 (by omega) (by omega), e15]
  have c12 : nI nt = (12 : Int32) ↔ nt = 12 := nI_eq_iff (b := 12) (by omega) (by decide)
  unfold Rf_X11_text Rf_X11_readText
  simp only [lt]
  rw [hs1, if_pos rfl, hb, Option.bind_some]
  simp only [ix60]
  rw [if_pos (by decide), k1, Option.bind_some]
  simp only [hKt, m_refused, Option.bind_some]
  by_cases q : (ps c n ns 4 0 0 (fun _ => 0)).1 < 0
  · rw [if_pos q, if_pos q]
    by_cases q2 : nt = 12
    · rw [if_pos (c12.mpr q2), if_pos q2]
    · have i4 : ∀ a : Nat, a ≠ 0 → inbL a 12 (nI nt) := fun a ha => ⟨ha, nI_nn (by omega), by rw [kT]; omega⟩
      have r1 : wrN K 51 (nI nt) (rdN K 55 0) = upI K 51 nt (K 55 0) := by unfold wrN; rw [kT]; rfl
      rw [if_neg (fun z => q2 (c12.mp z)), if_neg q2, gd_pos ⟨by decide, by decide, by decide⟩, gd_pos (i4 _ (by decide)), r1]
      have r2 : upI K 51 nt (K 55 0) 38 15 = nI nt := by rw [upI_row (by decide), hKt]
      have r3 : wrN (upI K 51 nt (K 55 0)) 52 (nI nt) (rdN (upI K 51 nt (K 55 0)) 55 1) = upI (upI K 51 nt (K 55 0)) 52 nt (K 55 1) := by unfold wrN; rw [kT]; rfl
      rw [r2, gd_pos ⟨by decide, by decide, by decide⟩, gd_pos (i4 _ (by decide)), r3]
      have r4 : upI (upI K 51 nt (K 55 0)) 52 nt (K 55 1) 38 15 = nI nt := by rw [upI_row (by decide), r2]
      have r5 : wrN (upI (upI K 51 nt (K 55 0)) 52 nt (K 55 1)) 53 (nI nt) (rdN (upI (upI K 51 nt (K 55 0)) 52 nt (K 55 1)) 55 2) = upI (upI (upI K 51 nt (K 55 0)) 52 nt (K 55 1)) 53 nt (K 55 2) := by unfold wrN; rw [kT]; rfl
      rw [r4, gd_pos ⟨by decide, by decide, by decide⟩, gd_pos (i4 _ (by decide)), r5]
      have r6 : upI (upI (upI K 51 nt (K 55 0)) 52 nt (K 55 1)) 53 nt (K 55 2) 38 15 = nI nt := by rw [upI_row (by decide), r4]
      have r7 : wrN (upI (upI (upI K 51 nt (K 55 0)) 52 nt (K 55 1)) 53 nt (K 55 2)) 54 (nI nt) (rdN (upI (upI (upI K 51 nt (K 55 0)) 52 nt (K 55 1)) 53 nt (K 55 2)) 55 3) = upI (upI (upI (upI K 51 nt (K 55 0)) 52 nt (K 55 1)) 53 nt (K 55 2)) 54 nt (K 55 3) := by unfold wrN; rw [kT]; rfl
      rw [r6, gd_pos ⟨by decide, by decide, by decide⟩, gd_pos (i4 _ (by decide)), r7]
      have r8 : upI (upI (upI (upI K 51 nt (K 55 0)) 52 nt (K 55 1)) 53 nt (K 55 2)) 54 nt (K 55 3) 38 15 = nI nt := by rw [upI_row (by decide), r6]
      rw [r8, nI_p1, upI_at, ← nI_1, Int32.add_sub_cancel]
  · rw [if_neg q, if_neg q]
theorem p_text (fu : Nat) (hfu : 100 < fu) {D : Dn} {I : II} (g : Inv D I) (x lane i n : Int32) : ∃ r D' I1 I2, Rf_X10_text fu (mkS D) I x lane i n = some (r, mkS D', I1) ∧ Rf_X11_text fu (mkS D') I1 x lane i n = some (r, I2) ∧ Inv D' I2 := by
  have hN : 77 ≤ D.2.2.2 := g.1
  have hnS : nS I ≤ 16 := g.2.1.1.1.2
  have gT := g.2.2.2.1
  have hnT : nT I ≤ 12 := gT.1.1.2
  rcases sheet_cases x with ⟨h1, h2⟩ | ⟨k, hk, rfl, h1, h2⟩
  · refine ⟨-1, D, upI I 0 18 0, _, ?_, ?_, g.fault 0⟩
    · unfold Rf_X10_text
      simp only [lt]
      rw [if_pos h1]
    · unfold Rf_X11_text
      rw [h2, if_neg i1ne, m_refused]; rfl
  have ek := nx_nI (k := k) (by omega)
  obtain ⟨p1, p2, p3⟩ := mk_sheet (D := D) hk
  by_cases hl0 : t_X10_isLane lane = 0
  · refine ⟨-2, D, upI I 0 18 0, _, ?_, ?_, g.fault 0⟩
    · unfold Rf_X10_text
      simp only [lt]
      rw [h1, if_neg i1ne, if_pos hl0]
    · unfold Rf_X11_text Rf_X11_barred
      rw [h2, if_pos rfl, lane_eq, hl0, if_pos rfl, m_refused]; rfl
  have hl : t_X10_isLane lane = 1 := by
    rcases within_cases lane 0 2 with z | z
    · exact absurd z hl0
    · exact z.1
  have hs := g.2.2.2.2.2.2.2.2 k hk
  have em : n.toInt64 = n.toInt64 * (1 : Int32).toInt64 := (Int64.mul_one _).symm
  have hneg : n.toInt64 < 0 ↔ n < 0 := by
    rw [show (0 : Int64) = (0 : Int32).toInt64 from rfl, i64_lt]
  have erf : t_X5_rowFault (upI I 0 18 0) (30 + 2 * k) lane i n 1 = t_X5_rowFault I (30 + 2 * k) lane i n 1 := by
    unfold t_X5_rowFault t_X5_holds
    rw [upI_row (by omega)]
  rcases row_bar fu hk hs (i := i) hl em hneg with ⟨f, hf, f1, f2⟩ | ⟨f1, f2, f3, f4, f5, f6, f7⟩
  · refine ⟨-10 - f, D, upI I 0 18 f, _, ?_, ?_, g.fault f⟩
    · unfold Rf_X10_text
      simp only [lt]
      have hfn : ¬ f = 0 := by rcases hf with rfl | rfl | rfl | rfl <;> decide
      rw [h1, if_neg i1ne, hl, if_neg i1ne, gd_pos ⟨by decide, nI_nn (by omega), by rw [ek]; exact hk⟩]
      simp only [ek, p1]
      rw [gd_pos (by omega), show 31 + 2 * k - 1 = 30 + 2 * k by omega, erf, f1, if_neg hfn, x_fail, Option.bind_some, upI_twice]
    · unfold Rf_X11_text
      rw [h2, if_pos rfl, f2 (mkS D) (upI I 0 18 f) (by rw [upI_row (by decide)]) (by rw [upI_row (by decide)]), Option.bind_some]
      simp only [lt]
      rw [if_neg (by rcases hf with rfl | rfl | rfl | rfl <;> decide)]
  · obtain ⟨i', hi', rfl⟩ : ∃ j, j < 2147483648 ∧ i = nI j := ⟨nx i, nx_bd _, nI_nx f5⟩
    obtain ⟨n', hn', rfl⟩ : ∃ j, j < 2147483648 ∧ n = nI j := ⟨nx n, nx_bd _, nI_nx f4⟩
    rw [f3.1, sum_le (nx_bd _) f5 f4, nx_nI hi', nx_nI hn'] at f6
    have f60 := f3.2
    obtain ⟨J, j1, j2, j3⟩ := x_textA fu hfu g (n := n') (i := i') hk hl (by rw [erf]; exact f1) f6 f60 f7
    have hm : ∀ J' : II, (∀ a j, a < D.2.2.2 → ¬ (a = 0 ∧ j = 2) → J' a j = upI I 0 18 0 a j) → ∀ S, ∃ K, (∀ a j, ¬ (a = 38 ∧ j = 21) → a ≠ 55 → K a j = J' a j) ∧ ((ps (fun t => I 75 (60 * k + i' + t)) n' (nS I) 4 0 0 (fun _ => 0)).1 = -1 → ∀ j, j < 4 → K 55 j = nI ((ps (fun t => I 75 (60 * k + i' + t)) n' (nS I) 4 0 0 (fun _ => 0)).2 j)) ∧
        Rf_X11_text fu S J' (nI k) lane (nI i') (nI n') = if (ps (fun t => I 75 (60 * k + i' + t)) n' (nS I) 4 0 0 (fun _ => 0)).1 < 0 then (if nT I = 12 then some (-4, upI K 38 0 0) else some (nI (nT I), upI (upI (upI (upI (upI (upI K 51 (nT I) (K 55 0)) 52 (nT I) (K 55 1)) 53 (nT I) (K 55 2)) 54 (nT I) (K 55 3)) 38 15 (nI (nT I + 1))) 38 0 0)) else some (-100 - (ps (fun t => I 75 (60 * k + i' + t)) n' (nS I) 4 0 0 (fun _ => 0)).1, upI K 38 0 0) := by
      intro J' hJ' S
      have e7 : ∀ a j, 38 ≤ a → a < 77 → J' a j = I a j := fun a j z z2 => by rw [hJ' a j (by omega) (by omega), upI_row (by omega)]
      exact m_textA fu hfu (c := fun t => I 75 (60 * k + i' + t)) hk (by omega) hnS hnT (by rw [e7 _ _ (by decide) (by decide)]; exact g.2.1.1.1.1) (by rw [e7 _ _ (by decide) (by decide)]; exact gT.1.1.1) (fun t ht => e7 _ _ (by decide) (by decide)) (f2 S J' (e7 _ _ (by decide) (by decide)) (e7 _ _ (by decide) (by decide)))
    have hout := ps_out (fun t => I 75 (60 * k + i' + t)) n' (nS I) (by omega) 4 0 0 (fun _ => 0) (Nat.zero_le _)
    have hok := ps_ok (fun t => I 75 (60 * k + i' + t)) n' (nS I) (by omega) 4 0 0 (fun _ => 0) rfl (Nat.zero_le _) (fun j hj => absurd hj (Nat.not_lt_zero j))
    generalize ps (fun t => I 75 (60 * k + i' + t)) n' (nS I) 4 0 0 (fun _ => 0) = P at *
    have hgrow : ∀ K : II, (∀ a j, ¬ (a = 38 ∧ j = 21) → a ≠ 55 → K a j = J a j) → Inv (txD D n') (upI K 38 0 0) := by
      intro K hK
      refine g.grow txD_old (fun a j ha => txD_1 (by omega)) (fun a j z1 z2 z3 z4 => ?_) ?_
      · unfold scr at z2
        unfold upI
        rw [if_neg z4, hK a j (by omega) (by omega), j1 a j z1]
        unfold upI
        rw [if_neg z3]
      · rw [upI_at, upI_row (by decide), hK 0 18 (by omega) (by omega), j1 0 18 (by omega), upI_at]
    rcases hout with hP | ⟨pp, hpp, hP⟩
    · have hneg1 : P.1 < 0 := by rw [hP]; decide
      rw [if_pos hneg1] at j3
      by_cases q : nT I < 12
      · rw [if_pos q] at j3
        have hwok := hok hP
        obtain ⟨K, k1, k2, k3⟩ := hm (upI J 0 2 (nI (nT I + 1))) (fun a j z1 z2 => by
          unfold upI
          rw [if_neg z2]
          exact j1 a j z1) (mkS (upP (txD D n') 6 (nT I) (D.2.2.2 + 1)))
        rw [if_pos hneg1, if_neg (by omega)] at k3
        refine ⟨_, _, _, _, j3, k3, ?_⟩
        have w0 := k2 hP 0 (by omega)
        have w1 := k2 hP 1 (by omega)
        have w2 := k2 hP 2 (by omega)
        have w3 := k2 hP 3 (by omega)
        rw [w0, w1, w2, w3]
        have kJ : ∀ a j, ¬ (a = 38 ∧ j = 21) → a ≠ 55 → ¬ (a = 0 ∧ j = 2) → K a j = J a j := fun a j z1 z2 z3 => by
          rw [k1 a j z1 z2]
          unfold upI
          rw [if_neg z3]
        obtain ⟨t', et⟩ : ∃ t', nT I = t' := ⟨_, rfl⟩
        rw [et] at k1 ⊢
        have ht12 : t' < 12 := by omega
        have kt1 : nx (nI (t' + 1)) = t' + 1 := nx_nI (by omega)
        have hF : ∀ a j, a < D.2.2.2 → ¬ scr a j → ¬ (a = 0 ∧ j = 18) → ¬ (a = 38 ∧ j = 0) → ¬ (a = 0 ∧ j = 2) → ¬ (a = 38 ∧ j = 15) → ¬ ((a = 51 ∨ a = 52 ∨ a = 53 ∨ a = 54) ∧ j = t') → upI (upI (upI (upI (upI (upI K 51 t' (nI (P.2 0))) 52 t' (nI (P.2 1))) 53 t' (nI (P.2 2))) 54 t' (nI (P.2 3))) 38 15 (nI (t' + 1))) 38 0 0 a j = I a j := by
          intro a j z1 z2 z3 z4 z5 z6 z7
          unfold scr at z2
          simp only [upI]
          rw [if_neg (by omega), if_neg (by omega), if_neg (by omega), if_neg (by omega), if_neg (by omega), if_neg (by omega), kJ a j (by omega) (by omega) z5, j1 a j z1]
          unfold upI
          rw [if_neg z3]
        have hF1 : ∀ j, upI (upI (upI (upI (upI (upI K 51 t' (nI (P.2 0))) 52 t' (nI (P.2 1))) 53 t' (nI (P.2 2))) 54 t' (nI (P.2 3))) 38 15 (nI (t' + 1))) 38 0 0 (D.2.2.2 + 1) j = J (D.2.2.2 + 1) j := by
          intro j
          rw [upI_row (by omega), upI_row (by omega), upI_row (by omega), upI_row (by omega), upI_row (by omega), upI_row (by omega), kJ _ _ (by omega) (by omega) (by omega)]
        have v1 : upI (upI (upI (upI (upI (upI K 51 t' (nI (P.2 0))) 52 t' (nI (P.2 1))) 53 t' (nI (P.2 2))) 54 t' (nI (P.2 3))) 38 15 (nI (t' + 1))) 38 0 0 38 15 = nI (t' + 1) := by
          rw [upI_cell (by decide), upI_at]
        have v2 : upI (upI (upI (upI (upI (upI K 51 t' (nI (P.2 0))) 52 t' (nI (P.2 1))) 53 t' (nI (P.2 2))) 54 t' (nI (P.2 3))) 38 15 (nI (t' + 1))) 38 0 0 0 2 = nI (t' + 1) := by
          rw [upI_row (by decide), upI_row (by decide), upI_row (by decide), upI_row (by decide), upI_row (by decide), upI_row (by decide), k1 0 2 (by omega) (by omega), upI_at]
        have v3 : upI (upI (upI (upI (upI (upI K 51 t' (nI (P.2 0))) 52 t' (nI (P.2 1))) 53 t' (nI (P.2 2))) 54 t' (nI (P.2 3))) 38 15 (nI (t' + 1))) 38 0 0 0 18 = upI (upI (upI (upI (upI (upI K 51 t' (nI (P.2 0))) 52 t' (nI (P.2 1))) 53 t' (nI (P.2 2))) 54 t' (nI (P.2 3))) 38 15 (nI (t' + 1))) 38 0 0 38 0 := by
          rw [upI_at, upI_row (by decide), upI_row (by decide), upI_row (by decide), upI_row (by decide), upI_row (by decide), upI_row (by decide), kJ 0 18 (by omega) (by omega) (by omega), j1 0 18 (by omega), upI_at]
        have v51 : upI (upI (upI (upI (upI (upI K 51 t' (nI (P.2 0))) 52 t' (nI (P.2 1))) 53 t' (nI (P.2 2))) 54 t' (nI (P.2 3))) 38 15 (nI (t' + 1))) 38 0 0 51 t' = nI (P.2 0) := by
          rw [upI_row (by decide), upI_row (by decide), upI_row (by decide), upI_row (by decide), upI_row (by decide), upI_at]
        have v52 : upI (upI (upI (upI (upI (upI K 51 t' (nI (P.2 0))) 52 t' (nI (P.2 1))) 53 t' (nI (P.2 2))) 54 t' (nI (P.2 3))) 38 15 (nI (t' + 1))) 38 0 0 52 t' = nI (P.2 1) := by
          rw [upI_row (by decide), upI_row (by decide), upI_row (by decide), upI_row (by decide), upI_at]
        have v53 : upI (upI (upI (upI (upI (upI K 51 t' (nI (P.2 0))) 52 t' (nI (P.2 1))) 53 t' (nI (P.2 2))) 54 t' (nI (P.2 3))) 38 15 (nI (t' + 1))) 38 0 0 53 t' = nI (P.2 2) := by
          rw [upI_row (by decide), upI_row (by decide), upI_row (by decide), upI_at]
        have v54 : upI (upI (upI (upI (upI (upI K 51 t' (nI (P.2 0))) 52 t' (nI (P.2 1))) 53 t' (nI (P.2 2))) 54 t' (nI (P.2 3))) 38 15 (nI (t' + 1))) 38 0 0 54 t' = nI (P.2 3) := by
          rw [upI_row (by decide), upI_row (by decide), upI_at]
        generalize upI (upI (upI (upI (upI (upI K 51 t' (nI (P.2 0))) 52 t' (nI (P.2 1))) 53 t' (nI (P.2 2))) 54 t' (nI (P.2 3))) 38 15 (nI (t' + 1))) 38 0 0 = F at *
        have hrow : ∀ a j, a < D.2.2.2 → ¬ (a = 6 ∧ j = t') → (upP (txD D n') 6 t' (D.2.2.2 + 1)).1 a j = D.1 a j := fun a j z1 z2 => by
          show (if a = 6 ∧ j = t' then _ else (txD D n').1 a j) = _
          rw [if_neg z2, txD_1 z1]
        have hold : Old D (upP (txD D n') 6 t' (D.2.2.2 + 1)) := ⟨txD_old.1, txD_old.2.1, fun a j z1 z2 => hrow a j z2 (by omega)⟩
        obtain ⟨g0, g1, g2, g3, g4, g5, g6, g7, g8⟩ := g
        refine ⟨by show 77 ≤ D.2.2.2 + 1 + 1 + 1; omega, g1.co (fun a k z => hF a k ?_ ?_ ?_ ?_ ?_ ?_ ?_), g2.ce hold (fun l _ => hrow 5 l (by omega) (by omega)) (fun a k z z2 => hF a k ?_ ?_ ?_ ?_ ?_ ?_ ?_), ?_, g4.ce hold (fun l _ => hrow 7 l (by omega) (by omega)) (fun a k z z2 => hF a k ?_ ?_ ?_ ?_ ?_ ?_ ?_), g5.ce (fun l _ => hrow 5 l (by omega) (by omega)) (fun k _ => hrow 12 k (by omega) (by omega)) (fun a k z => hF a k ?_ ?_ ?_ ?_ ?_ ?_ ?_), g6.ce hold (fun l _ => hrow 13 l (by omega) (by omega)) (fun a k z z2 => hF a k ?_ ?_ ?_ ?_ ?_ ?_ ?_), g7.grow (fun a k z z2 z3 => hF a k ?_ ?_ z2 z3 ?_ ?_ ?_) v3, g8.co (fun a k z => hF a k ?_ ?_ ?_ ?_ ?_ ?_ ?_)⟩
        case refine_15 =>
          refine ⟨by rw [v1, v2]; exact ⟨isN_nI (by omega) (by decide), rfl⟩, fun t ht => ?_⟩
          have ht' : t < t' + 1 := by unfold nT at ht; rw [v1, kt1] at ht; exact ht
          have j2' := j2 hP
          by_cases qt : t = t'
          · subst qt
            have d1 : (upP (txD D n') 6 t (D.2.2.2 + 1)).1 6 t = D.2.2.2 + 1 := if_pos ⟨rfl, rfl⟩
            have hta : ta (upP (txD D n') 6 t (D.2.2.2 + 1)) t = D.2.2.2 := by unfold ta; rw [d1, Nat.add_sub_cancel]
            have d2 : (upP (txD D n') 6 t (D.2.2.2 + 1)).1 D.2.2.2 0 = D.2.2.2 + 2 := by
              show (if D.2.2.2 = 6 ∧ 0 = t then _ else (txD D n').1 D.2.2.2 0) = _
              rw [if_neg (by omega), txD_N]
            have d3 : (upP (txD D n') 6 t (D.2.2.2 + 1)).2.1 D.2.2.2 = 7 := by
              show (txD D n').2.1 D.2.2.2 = 7
              rw [txD_2, if_neg (by omega), if_neg (by omega), if_pos rfl]
            have d4 : (upP (txD D n') 6 t (D.2.2.2 + 1)).2.1 (D.2.2.2 + 1) = 100 := by
              show (txD D n').2.1 (D.2.2.2 + 1) = 100
              rw [txD_2, if_neg (by omega), if_pos rfl]
            have d5 : (upP (txD D n') 6 t (D.2.2.2 + 1)).2.2.1 (D.2.2.2 + 1) = 4 := by
              show (txD D n').2.2.1 (D.2.2.2 + 1) = 4
              rw [txD_3, if_neg (by omega), if_pos rfl]
            rw [hta, d1, d2, d3, d4, d5, v51, v52, v53, v54, hF1, hF1, hF1, hF1, j2' 0 (by omega), j2' 1 (by omega), j2' 2 (by omega), j2' 3 (by omega)]
            exact ⟨⟨⟨by omega, by show D.2.2.2 + 1 < D.2.2.2 + 1 + 1 + 1; omega, rfl, rfl⟩, rfl, rfl⟩, ⟨isN_nI (hwok 0 (by omega)).1 (by decide), isN_nI (hwok 1 (by omega)).1 (by decide), isN_nI ((hwok 2 (by omega)).2 (by omega)) (by decide), isN_nI ((hwok 3 (by omega)).2 (by omega)) (by decide)⟩, rfl, rfl, rfl, rfl⟩
          · obtain ⟨⟨⟨y1, y2, y3, y4⟩, y5, y6⟩, y7, y8⟩ := g3.2 t (by omega)
            have hA : 77 ≤ ta D t := by unfold ta; omega
            have hr : (upP (txD D n') 6 t' (D.2.2.2 + 1)).1 6 t = D.1 6 t := hrow 6 t (by omega) (by omega)
            have hta : ta (upP (txD D n') 6 t' (D.2.2.2 + 1)) t = ta D t := by unfold ta; rw [hr]
            have sc0 : ∀ j, ¬ scr (ta D t + 1) j := fun j z => by unfold scr at z; omega
            have sc1 : ∀ a j, (a = 51 ∨ a = 52 ∨ a = 53 ∨ a = 54) → ¬ scr a j := fun a j z z2 => by unfold scr at z2; omega
            rw [hta, hr, (hold.2.1 (ta D t) (by omega)).1, (hold.2.1 (ta D t + 1) (by omega)).1, (hold.2.1 (ta D t + 1) (by omega)).2, hold.2.2 (ta D t) 0 hA (by omega), hF 51 t (by omega) (sc1 _ _ (by omega)) (by omega) (by omega) (by omega) (by omega) (by omega), hF 52 t (by omega) (sc1 _ _ (by omega)) (by omega) (by omega) (by omega) (by omega) (by omega), hF 53 t (by omega) (sc1 _ _ (by omega)) (by omega) (by omega) (by omega) (by omega) (by omega), hF 54 t (by omega) (sc1 _ _ (by omega)) (by omega) (by omega) (by omega) (by omega) (by omega), hF (ta D t + 1) 0 (by omega) (sc0 _) (by omega) (by omega) (by omega) (by omega) (by omega), hF (ta D t + 1) 1 (by omega) (sc0 _) (by omega) (by omega) (by omega) (by omega) (by omega), hF (ta D t + 1) 2 (by omega) (sc0 _) (by omega) (by omega) (by omega) (by omega) (by omega), hF (ta D t + 1) 3 (by omega) (sc0 _) (by omega) (by omega) (by omega) (by omega) (by omega)]
            exact ⟨⟨⟨y1, by show ta D t + 1 < D.2.2.2 + 1 + 1 + 1; omega, y3, y4⟩, y5, y6⟩, y7, y8⟩
        all_goals (simp only [rdS, rdL, rdP, rdO, rdD, rdR, rdH] at z)
        all_goals (try unfold scr)
        all_goals omega
      · rw [if_neg q] at j3
        obtain ⟨K, k1, k2, k3⟩ := hm J (fun a j z1 z2 => j1 a j z1) (mkS (txD D n'))
        rw [if_pos hneg1, if_pos (by omega)] at k3
        exact ⟨_, _, _, _, j3, k3, hgrow K k1⟩
    · have hneg1 : ¬ P.1 < 0 := by rw [hP]; exact nI_nn (by omega)
      rw [if_neg hneg1] at j3
      obtain ⟨K, k1, k2, k3⟩ := hm J (fun a j z1 z2 => j1 a j z1) (mkS (txD D n'))
      rw [if_neg hneg1] at k3
      exact ⟨_, _, _, _, j3, k3, hgrow K k1⟩
