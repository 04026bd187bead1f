/-! line -/
def sixW (J : II) (l : Nat) (x1 x8 x2 x3 x4 : Int32) : II := upI (upI (upI (upI (upI (upI J 41 l x1) 42 l x8) 45 l x2) 46 l x3) 47 l x4) 49 l 59
theorem m_lineA (fu : Nat) (hfu : 100 < fu) {S : Sk} {J : II} {n l kd f ns : Nat} {x2 x3 x4 : Int32} {c : Nat → Int32} (h44 : S.2.2.1 44 = 112) (hl : l ≤ 14) (hn : 2 ≤ n) (hn8 : n ≤ 8) (hkd : kd ≤ 2) (hf : f + 2 * n ≤ 240) (hns : ns ≤ 16) (e1 : J 38 1 = nI ns) (e4 : J 38 4 = nI l) (hc : ∀ t, t < 2 * n → J 75 (f + t) = c t) {v : Int32} (hv : lrf c n ns v) :
    fix2 (Rl_X11_line_125 fu S J (nI kd) x2 x3 x4 (nI n) (nI f)) fu 1 0 = if v = 0 then (if l = 14 then some (-4, upI J 38 0 0) else some (nI l, upI (upI (mV c kd l (sixW J l (nI kd) (nI n) x2 x3 x4) n) 38 4 (nI (l + 1))) 38 0 0)) else some (v, upI J 38 0 0) := by
  have step : ∀ i, i < n - 1 → ∀ self, Rl_X11_line_125 fu S J (nI kd) x2 x3 x4 (nI n) (nI f) self 1 (nI i) = self (if 1 ≤ c (2 * i + 1) ∧ c (2 * i + 1) ≤ 30 then 1 else 0) (nI (i + 1)) := by
    intro i hi self
    have k2 := nx_nI (k := f + 2 * i + 1) (by omega)
    have er : rdN J 75 (nI (f + 2 * i + 1)) = c (2 * i + 1) := by unfold rdN; rw [k2, Nat.add_assoc]; exact hc _ (by omega)
    unfold Rl_X11_line_125
    rw [show nI n - 1 = nI (n - 1) from nI_sub (b := 1) (by omega), if_neg (by rw [nI_le_iff (by omega) (by omega)]; omega), if_neg i1ne, nI_m2, nI_add, nI_p1, gd_pos ⟨by decide, nI_nn (by omega), by rw [k2]; omega⟩]
    simp only [lt]
    rw [er, show t_X11_in (c (2 * i + 1)).toInt64 1 30 = t_X10_isWithin (c (2 * i + 1)) 1 30 from w_in32 (lo := 1) (hi := 30), w_within, nI_p1]
  have r169 : ∀ i, n - 1 ≤ i → i ≤ n → ∀ self v, Rl_X11_line_125 fu S J (nI kd) x2 x3 x4 (nI n) (nI f) self v (nI i) = Rj_X11_line_169 fu S J (nI kd) x2 x3 x4 (nI n) (nI f) v := by
    intro i hi hi2 self v
    unfold Rl_X11_line_125
    rw [show nI n - 1 = nI (n - 1) from nI_sub (b := 1) (by omega), if_pos (by rw [nI_le_iff (by omega) (by omega)]; omega)]
  have r0 : ∀ i self, Rl_X11_line_125 fu S J (nI kd) x2 x3 x4 (nI n) (nI f) self 0 i = some (-2, upI J 38 0 0) := by
    intro i self
    unfold Rl_X11_line_125 Rj_X11_line_169
    rw [if_pos rfl, if_pos rfl, ite_self, m_refused]
    rfl
  have good : (∀ x, x < n - 1 → mok c x) → fix2 (Rl_X11_line_125 fu S J (nI kd) x2 x3 x4 (nI n) (nI f)) fu 1 0 = fix1 (Rl_X11_line_184 fu S J (nI kd) x2 x3 x4 (nI n) (nI f)) fu 0 := by
    intro h
    refine fix2_run (F := Rl_X11_line_125 fu S J (nI kd) x2 x3 x4 (nI n) (nI f)) (fun _ => 1) (fun i => nI i) (n - 1) (fun i hi self => ?_) (fun self => ?_) fu (by omega)
    · rw [step i hi, if_pos (show 1 ≤ c (2 * i + 1) ∧ c (2 * i + 1) ≤ 30 from h i hi)]
    · rw [r169 (n - 1) (Nat.le_refl _) (by omega)]
      rfl
  have step2 : ∀ i, i < n → ∀ self, Rl_X11_line_184 fu S J (nI kd) x2 x3 x4 (nI n) (nI f) self (nI i) = if c (2 * i) = nI (cst c i) ∧ cst c i < ns then self (nI (i + 1)) else some (-1, upI J 38 0 0) := by
    intro i hi self
    have k2 := nx_nI (k := f + 2 * i) (by omega)
    have er : rdN J 75 (nI (f + 2 * i)) = c (2 * i) := by unfold rdN; rw [k2]; exact hc _ (by omega)
    unfold Rl_X11_line_184
    rw [if_neg (by rw [nI_le_iff (by omega) (by omega)]; omega), nI_m2, nI_add, gd_pos ⟨by decide, nI_nn (by omega), by rw [k2]; omega⟩, er, ns_ok e1 hns, nI_p1, m_refused, Option.bind_some]
    unfold cst
    by_cases q : c (2 * i) = nI (nx (c (2 * i))) ∧ nx (c (2 * i)) < ns
    · rw [if_pos q, if_pos rfl, if_pos q]
    · rw [if_neg q, if_neg i1ne, if_neg q]
  have done : (∀ x, x < n → sok c ns x) → fix1 (Rl_X11_line_184 fu S J (nI kd) x2 x3 x4 (nI n) (nI f)) fu 0 = Rl_X11_line_184 fu S J (nI kd) x2 x3 x4 (nI n) (nI f) (fun _ => none) (nI n) := by
    intro h
    refine fix1_run (F := Rl_X11_line_184 fu S J (nI kd) x2 x3 x4 (nI n) (nI f)) (fun i => nI i) n (fun i hi self => ?_) (fun self => ?_) fu (by omega)
    · exact (step2 i hi self).trans (if_pos (h i hi))
    · unfold Rl_X11_line_184
      rw [if_pos (Int32.le_refl _), if_pos (Int32.le_refl _)]
  have hend : (∀ x, x < n - 1 → mok c x) → (∀ x, x < n → sok c ns x) → Rl_X11_line_184 fu S J (nI kd) x2 x3 x4 (nI n) (nI f) (fun _ => none) (nI n) = if un (cst c) n = true then (if l = 14 then some (-4, upI J 38 0 0) else some (nI l, upI (upI (mV c kd l (sixW J l (nI kd) (nI n) x2 x3 x4) n) 38 4 (nI (l + 1))) 38 0 0)) else some (-3, upI J 38 0 0) := by
    intro hm hs
    have kl := nx_nI (k := l) (by omega)
    have c14 : nI l = (14 : Int32) ↔ l = 14 := nI_eq_iff (b := 14) (by omega) (by decide)
    unfold Rl_X11_line_184
    rw [if_pos (Int32.le_refl _), m_unlike fu hfu hn8 hns hf hc hs, Option.bind_some]
    simp only [m_refused, Option.bind_some, lt]
    by_cases qu : un (cst c) n = true
    · rw [if_pos qu, if_neg i1ne, if_pos qu, e4]
      by_cases ql : l = 14
      · rw [if_pos (c14.mpr ql), if_pos ql]
      · have i14 : ∀ a, a ≠ 0 → inbL a 14 (nI l) := fun a ha => ⟨ha, nI_nn (by omega), by rw [kl]; omega⟩
        rw [if_neg (fun z => ql (c14.mp z)), if_neg ql, gd_pos (i14 _ (by decide))]
        unfold wrN
        rw [kl]
        have w1 : upI J 41 l (nI kd) 38 4 = nI l := by rw [upI_row (by decide), e4]
        rw [w1, gd_pos (i14 _ (by decide)), kl]
        have w2 : upI (upI J 41 l (nI kd)) 42 l (nI n) 38 4 = nI l := by rw [upI_row (by decide), w1]
        rw [w2, gd_pos (i14 _ (by decide)), kl]
        have w3 : upI (upI (upI J 41 l (nI kd)) 42 l (nI n)) 45 l x2 38 4 = nI l := by rw [upI_row (by decide), w2]
        rw [w3, gd_pos (i14 _ (by decide)), kl]
        have w4 : upI (upI (upI (upI J 41 l (nI kd)) 42 l (nI n)) 45 l x2) 46 l x3 38 4 = nI l := by rw [upI_row (by decide), w3]
        rw [w4, gd_pos (i14 _ (by decide)), kl]
        have w5 : upI (upI (upI (upI (upI J 41 l (nI kd)) 42 l (nI n)) 45 l x2) 46 l x3) 47 l x4 38 4 = nI l := by rw [upI_row (by decide), w4]
        rw [w5, gd_pos (i14 _ (by decide)), kl]
        have w6 : sixW J l (nI kd) (nI n) x2 x3 x4 38 4 = nI l := by unfold sixW; rw [upI_row (by decide), w5]
        have w7 : ∀ t, t < 2 * n → sixW J l (nI kd) (nI n) x2 x3 x4 75 (f + t) = c t := fun t ht => by
          unfold sixW
          rw [upI_row (by decide), upI_row (by decide), upI_row (by decide), upI_row (by decide), upI_row (by decide), upI_row (by decide), hc t ht]
        exact m_lineLoop fu hfu h44 (by omega) hn8 hkd hf w6 w7 hm
    · rw [if_neg qu, if_pos rfl, if_neg qu]
  rcases hv with ⟨⟨x, hx, hb⟩, rfl⟩ | ⟨hm, ⟨x, hx, hb⟩, rfl⟩ | ⟨hm, hs, hu, rfl⟩ | ⟨hm, hs, hu, rfl⟩
  · rw [if_neg (by decide)]
    rcases fsts (mok c) (n - 1) with h | ⟨N, h1, h2, h3⟩
    · exact absurd (h x hx) hb
    · refine fix2_run (F := Rl_X11_line_125 fu S J (nI kd) x2 x3 x4 (nI n) (nI f)) (fun i => if i ≤ N then 1 else 0) (fun i => nI i) (N + 1) (fun i hi self => ?_) (fun self => ?_) fu (by omega)
      · show Rl_X11_line_125 fu S J (nI kd) x2 x3 x4 (nI n) (nI f) self (if i ≤ N then 1 else 0) (nI i) = self (if i + 1 ≤ N then 1 else 0) (nI (i + 1))
        rw [if_pos (by omega), step i (by omega)]
        by_cases q : i = N
        · subst q
          rw [if_neg (show ¬ (1 ≤ c (2 * i + 1) ∧ c (2 * i + 1) ≤ 30) from h3), if_neg (by omega)]
        · rw [if_pos (show 1 ≤ c (2 * i + 1) ∧ c (2 * i + 1) ≤ 30 from h2 i (by omega)), if_pos (by omega)]
      · show Rl_X11_line_125 fu S J (nI kd) x2 x3 x4 (nI n) (nI f) self (if N + 1 ≤ N then 1 else 0) (nI (N + 1)) = _
        rw [if_neg (by omega), r0]
  · rw [if_neg (by decide), good hm]
    rcases fsts (sok c ns) n with h | ⟨N, h1, h2, h3⟩
    · exact absurd (h x hx) hb
    · refine fix1_run (F := Rl_X11_line_184 fu S J (nI kd) x2 x3 x4 (nI n) (nI f)) (fun i => nI i) N (fun i hi self => ?_) (fun self => ?_) fu (by omega)
      · exact (step2 i (by omega) self).trans (if_pos (h2 i hi))
      · exact (step2 N h1 self).trans (if_neg h3)
  · rw [if_neg (by decide), good hm, done hs, hend hm hs, hu]
    rfl
  · rw [if_pos rfl, good hm, done hs, hend hm hs, hu]
    rfl
def coD (D : Dn) (n : Nat) : Dn := nwS D 100 (2 * n)
def liD (D : Dn) (n : Nat) : Dn := upP (nwS (upP (nwS (upP (nwS (nwS (coD D n) 1 0) 100 8) (D.2.2.2 + 1) 6 (D.2.2.2 + 3)) 100 8) (D.2.2.2 + 1) 7 (D.2.2.2 + 4)) 100 8) (D.2.2.2 + 1) 8 (D.2.2.2 + 5)
theorem coD_mk {D : Dn} (h : 77 ≤ D.2.2.2) (n : Nat) : nwS (mkS D) 100 (2 * n) = mkS (coD D n) := mk_nw h _ _
theorem liD_mk {D : Dn} (h : 77 ≤ D.2.2.2) (n : Nat) : upP (nwS (upP (nwS (upP (nwS (nwS (mkS (coD D n)) 1 0) 100 8) (D.2.2.2 + 1) 6 (D.2.2.2 + 3)) 100 8) (D.2.2.2 + 1) 7 (D.2.2.2 + 4)) 100 8) (D.2.2.2 + 1) 8 (D.2.2.2 + 5) = mkS (liD D n) := by
  have h0 : 77 ≤ (coD D n).2.2.2 := Nat.le_succ_of_le h
  unfold liD
  rw [mk_nw h0, mk_nw (D := nwS (coD D n) 1 0) (Nat.le_succ_of_le h0), mk_up (stT_big (Nat.le_succ_of_le h)), mk_nw (Nat.le_succ_of_le (Nat.le_succ_of_le h0)), mk_up (stT_big (Nat.le_succ_of_le h)), mk_nw (Nat.le_succ_of_le (Nat.le_succ_of_le (Nat.le_succ_of_le h0))), mk_up (stT_big (Nat.le_succ_of_le h))]
theorem coD_old {D : Dn} {n : Nat} : Old D (coD D n) ∧ ∀ a k, a < D.2.2.2 → (coD D n).1 a k = D.1 a k := by
  have h1 : ∀ a k, a < D.2.2.2 → (coD D n).1 a k = D.1 a k := fun a k ha => by
    show (if a = D.2.2.2 then 0 else D.1 a k) = _
    rw [if_neg (by omega)]
  refine ⟨⟨Nat.le_succ _, fun a ha => ⟨?_, ?_⟩, fun a k _ ha => h1 a k ha⟩, h1⟩
  · show (if a = D.2.2.2 then 100 else D.2.1 a) = _
    rw [if_neg (by omega)]
  · show (if a = D.2.2.2 then 2 * n else D.2.2.1 a) = _
    rw [if_neg (by omega)]
theorem liD_1 {D : Dn} {n a k : Nat} : (liD D n).1 a k = if a = D.2.2.2 + 1 ∧ k = 8 then D.2.2.2 + 5 else if a = D.2.2.2 + 4 then 0 else if a = D.2.2.2 + 1 ∧ k = 7 then D.2.2.2 + 4 else if a = D.2.2.2 + 3 then 0 else if a = D.2.2.2 + 1 ∧ k = 6 then D.2.2.2 + 3 else if a = D.2.2.2 + 2 then 0 else if a = D.2.2.2 + 1 then 0 else if a = D.2.2.2 then 0 else D.1 a k := rfl
theorem liD_2 {D : Dn} {n a : Nat} : (liD D n).2.1 a = if a = D.2.2.2 + 4 then 100 else if a = D.2.2.2 + 3 then 100 else if a = D.2.2.2 + 2 then 100 else if a = D.2.2.2 + 1 then 1 else if a = D.2.2.2 then 100 else D.2.1 a := rfl
theorem liD_3 {D : Dn} {n a : Nat} : (liD D n).2.2.1 a = if a = D.2.2.2 + 4 then 8 else if a = D.2.2.2 + 3 then 8 else if a = D.2.2.2 + 2 then 8 else if a = D.2.2.2 + 1 then 0 else if a = D.2.2.2 then 2 * n else D.2.2.1 a := rfl
theorem liD_old {D : Dn} {n : Nat} : Old D (liD D n) ∧ ∀ a k, a < D.2.2.2 → (liD D n).1 a k = D.1 a k := by
  have h1 : ∀ a k, a < D.2.2.2 → (liD D n).1 a k = D.1 a k := fun a k ha => by
    rw [liD_1, if_neg (by omega), if_neg (by omega), if_neg (by omega), if_neg (by omega), if_neg (by omega), if_neg (by omega), if_neg (by omega), if_neg (by omega)]
  refine ⟨⟨by show D.2.2.2 ≤ D.2.2.2 + 1 + 1 + 1 + 1 + 1; omega, fun a ha => ⟨?_, ?_⟩, fun a k _ ha => h1 a k ha⟩, h1⟩
  · rw [liD_2, if_neg (by omega), if_neg (by omega), if_neg (by omega), if_neg (by omega), if_neg (by omega)]
  · rw [liD_3, if_neg (by omega), if_neg (by omega), if_neg (by omega), if_neg (by omega), if_neg (by omega)]
/-- what the class does with the codes -/
theorem x_lineA (fu : Nat) (hfu : 100 < fu) {D : Dn} {I : II} (g : Inv D I) {k i n kd : Nat} {x2 x3 x4 lane : Int32} (hk : k < 4) (hs1 : t_X10_isSheet (nI k) = 1) (hkk : t_X10_isKind (nI kd) = 1) (hkd : kd ≤ 2) (htt : t_X10_isTimetable x2 x3 x4 = 1) (hl : t_X10_isLane lane = 1) (hf : t_X5_rowFault (upI I 0 18 0) (30 + 2 * k) lane (nI i) (nI n) 2 = 0) (hz : i + 2 * n ≤ nx (I 73 k)) (hz2 : nx (I 73 k) ≤ 60) (hce : ∀ t, t < nx (I 73 k) → I (31 + 2 * k) t = I 75 (60 * k + t)) (hn : 2 ≤ n) (hn8 : n ≤ 8) {v : Int32} (hv : lrf (fun t => I 75 (60 * k + i + t)) n (nS I) v) :
    (¬ (v = 0 ∧ nL I < 14) → ∃ J, (∀ a j, a < D.2.2.2 → J a j = upI I 0 18 0 a j) ∧ f_X10_line fu (mkS D) I 0 (nI kd) x2 x3 x4 (nI k) lane (nI i) (nI n) = some (if v = 0 then -4 else v, mkS (coD D n), J)) ∧
    (v = 0 ∧ nL I < 14 → ∃ J, (∀ a j, a < D.2.2.2 → J a j = upI I 0 18 0 a j) ∧ (J (D.2.2.2 + 1) 0 = nI (nL I) ∧ J (D.2.2.2 + 1) 1 = nI kd ∧ J (D.2.2.2 + 1) 2 = x2 ∧ J (D.2.2.2 + 1) 3 = jmax 1 x3 ∧ J (D.2.2.2 + 1) 4 = x4 ∧ J (D.2.2.2 + 1) 5 = nI n ∧ J (D.2.2.2 + 1) 9 = 0 ∧ J (D.2.2.2 + 1) 10 = 59) ∧ (∀ t, t < n → J (D.2.2.2 + 2) t = I 75 (60 * k + i + 2 * t) ∧ J (D.2.2.2 + 3) t = nI (ol (fun t => I 75 (60 * k + i + t)) kd t) ∧ J (D.2.2.2 + 4) t = 0) ∧
      f_X10_line fu (mkS D) I 0 (nI kd) x2 x3 x4 (nI k) lane (nI i) (nI n) = some (nI (nL I), mkS (upP (liD D n) 5 (nL I) (D.2.2.2 + 2)), upI J 1 5 (nI (nL I + 1)))) := by
  have hN : 77 ≤ D.2.2.2 := g.1
  have gL := g.2.2.1
  have hnL : nL I ≤ 14 := gL.1.1.2
  have eL : I 1 5 = nI (nL I) := gL.1.2.trans gL.1.1.1
  have hnS : nS I ≤ 16 := g.2.1.1.1.2
  have eS : I 1 3 = nI (nS I) := g.2.1.1.2.trans g.2.1.1.1.1
  have ek := nx_nI (k := k) (by omega)
  obtain ⟨p1, p2, p3⟩ := mk_sheet (D := D) hk
  obtain ⟨N, eN⟩ : ∃ N, D.2.2.2 = N := ⟨_, rfl⟩
  have eNm : (mkS D).2.2.2 = N := eN
  obtain ⟨I', z1, z2, z3⟩ := x_cells fu (S := mkS D) (I := upI I 0 18 0) (a0 := 30 + 2 * k) (r := 31 + 2 * k) (i := i) (n := 2 * n) (by rw [p2]; omega) p3 (by omega) (by omega)
  rw [eNm] at z1 z2 z3
  rw [coD_mk hN] at z1
  have hc : ∀ t, t < 2 * n → I' N t = (fun t => I 75 (60 * k + i + t)) t := by
    intro t ht
    rw [z3 t ht, upI_row (by omega), hce _ (by omega)]
    show I 75 (60 * k + (i + t)) = I 75 (60 * k + i + t)
    rw [Nat.add_assoc]
  have eI3 : I' 1 3 = nI (nS I) := by rw [z2 1 3 (by omega), upI_row (by decide), eS]
  have eI5 : I' 1 5 = nI (nL I) := by rw [z2 1 5 (by omega), upI_row (by decide), eL]
  have hlen : (mkS (coD D n)).2.2.1 N = 2 * n := by
    rw [mk_len (by omega)]
    show (if N = D.2.2.2 then 2 * n else _) = _
    rw [if_pos eN.symm]
  have hrf := x_refusal fu hfu (S := mkS (coD D n)) (r := N) hlen hn hn8 hnS eI3 hc hv
  have h00 : ∀ D', (mkS D').1 0 0 = 2 := fun _ => rfl
  have eNc : (mkS (coD D n)).2.2.2 = N + 1 := by show D.2.2.2 + 1 = _; rw [eN]
  have c14 : nI (nL I) < (14 : Int32) ↔ nL I < 14 := nI_lt_iff (b := 14) (by omega) (by decide)
  have c2 : ¬ nI n < (2 : Int32) := by rw [show (2 : Int32) = nI 2 from rfl, nI_lt_iff (by omega) (by decide)]; omega
  have c8 : nI n ≤ (8 : Int32) := by rw [show (8 : Int32) = nI 8 from rfl, nI_le_iff (by omega) (by decide)]; omega
  have hstart : f_X10_line fu (mkS D) I 0 (nI kd) x2 x3 x4 (nI k) lane (nI i) (nI n) = if v = 0 then (if nL I < 14 then ((f_X1_init fu (nwS (mkS (coD D n)) 1 0) (nwI (mkS (coD D n)) I') (N + 1) (nI (nL I)) (nI kd) x2 x3 x4 (N + 1)).bind fun q50 => (f_X2_addLine fu q50.1 q50.2 1 (N + 2)).bind fun q62 => some (q62.1, q62.2.1, q62.2.2)) else some (-4, mkS (coD D n), I')) else some (v, mkS (coD D n), I') := by
    have e5 : nwI (mkS (coD D n)) I' 1 5 = nI (nL I) := by
      show (if 1 = (mkS (coD D n)).2.2.2 then 0 else I' 1 5) = _
      rw [eNc, if_neg (by omega), eI5]
    have h0 : (nwS (mkS (coD D n)) 1 0).1 0 0 = 2 := by rw [mk_nw (Nat.le_succ_of_le hN)]; rfl
    unfold f_X10_line
    simp only [lt]
    rw [hs1, if_neg i1ne, hkk, if_neg i1ne, htt, if_neg i1ne, hl, if_neg i1ne, gd_pos ⟨by show (30 : Nat) ≠ 0; decide, nI_nn (by omega), by rw [ek]; exact hk⟩]
    simp only [show (mkS D).1 0 16 = 30 from rfl, show (30 : Nat) - 1 = 29 from rfl, ek, p1]
    rw [gd_pos (by omega), show 31 + 2 * k - 1 = 30 + 2 * k by omega, hf, if_pos rfl, if_neg c2, if_pos c8, nI_m2, z1, Option.bind_some]
    simp only [h00, h0]
    rw [gd_pos (by decide), show (2 : Nat) - 1 = 1 from rfl, hrf, Option.bind_some, eI5, eNc, e5]
    by_cases q : v = 0
    · rw [if_pos q, if_pos q]
      by_cases q2 : nL I < 14
      · rw [if_pos (c14.mpr q2), if_pos q2, gd_pos (by decide)]
      · rw [if_neg (fun z => q2 (c14.mp z)), if_neg q2]
    · rw [if_neg q, if_neg q]
  rw [hstart]
  constructor
  · intro hno
    refine ⟨I', fun a j ha => z2 a j (by omega), ?_⟩
    by_cases q : v = 0
    · rw [if_pos q, if_pos q, if_neg (fun z => hno ⟨q, z⟩)]
    · rw [if_neg q, if_neg q]
  · rintro ⟨q, q2⟩
    have hm : ∀ x, x < n - 1 → mok (fun t => I 75 (60 * k + i + t)) x := by
      rcases hv with ⟨-, z⟩ | ⟨-, -, z⟩ | ⟨-, -, -, z⟩ | ⟨z, -⟩
      · rw [q] at z; exact absurd z (by decide)
      · rw [q] at z; exact absurd z (by decide)
      · rw [q] at z; exact absurd z (by decide)
      · exact z
    obtain ⟨J, j1, j2, j3, j4⟩ := x_lineInit fu hfu (S := nwS (mkS (coD D n)) 1 0) (I := nwI (mkS (coD D n)) I') (A := N + 1) (R := N) (n := n) (l := nL I) (kd := kd) (x3 := x2) (x4 := x3) (x5 := x4) (c := fun t => I 75 (60 * k + i + t)) (by show (mkS (coD D n)).2.2.2 + 1 = _; rw [eNc]) (by omega) (by
        show (if N = (mkS (coD D n)).2.2.2 then 0 else (mkS (coD D n)).2.2.1 N) = _
        rw [eNc, if_neg (by omega), hlen]) hn hn8 hkd (fun t ht => by
        show (if N = (mkS (coD D n)).2.2.2 then 0 else I' N t) = _
        rw [eNc, if_neg (by omega), hc t ht]) hm
    have eLi : upP (nwS (upP (nwS (upP (nwS (nwS (mkS (coD D n)) 1 0) 100 8) (N + 1) 6 (N + 1 + 2)) 100 8) (N + 1) 7 (N + 1 + 3)) 100 8) (N + 1) 8 (N + 1 + 4) = mkS (liD D n) := by rw [← liD_mk hN, eN]
    rw [eLi] at j1
    have hJ : ∀ a j, a < N → J a j = upI I 0 18 0 a j := by
      intro a j ha
      rw [j2 a j (by omega)]
      show (if a = (mkS (coD D n)).2.2.2 then 0 else I' a j) = _
      rw [eNc, if_neg (by omega), z2 a j (by omega)]
    rw [eN]
    refine ⟨J, hJ, j3, j4, ?_⟩
    have eJ5 : J 1 5 = nI (nL I) := by rw [hJ 1 5 (by omega), upI_row (by decide), eL]
    have kL := nx_nI (k := nL I) (by omega)
    rw [if_pos q, if_pos q2, j1, Option.bind_some]
    unfold f_X2_addLine
    simp only [eJ5, lt]
    rw [gd_pos ⟨by show (6 : Nat) ≠ 0; decide, nI_nn (by omega), by rw [kL]; show nL I < 14; exact q2⟩, gd_pos (by omega), kL, show (mkS (liD D n)).1 1 4 - 1 = 5 from rfl, mk_up rfl, upI_at, nI_p1, Option.bind_some, ← nI_1, Int32.add_sub_cancel]
