/-! fit -/
theorem keep_em {I J : II} (h : Keep I J) (l d : Nat) : em J l d = em I l d := by
  obtain ⟨t1, t2, t3, t4, t5, t6, t7, t8⟩ := keep_line h l
  have ht : ∀ s, td J s d = td I s d := fun s => by
    unfold td
    rw [h 39 s (by unfold scr; omega), h 64 d (by unfold scr; omega), h 40 s (by unfold scr; omega), h 65 d (by unfold scr; omega)]
  unfold em
  rw [ht, ht, t1, t1, t3]
theorem em_le {D : Dn} {I : II} (g : Inv D I) {l d : Nat} (hl : l < nL I) (hd : d < nD I) : em I l d ≤ 1000 := by
  have gS := g.2.1
  have r := (g.2.2.1.2.1 l hl).1
  obtain ⟨-, ⟨⟨-, b1⟩, ⟨-, b2⟩, -⟩, -⟩ := g.2.2.2.2.2.2.1.2 d hd
  have hz := r.bds.2.1
  have ht : ∀ s, s < nS I → td I s d ≤ 400 := fun s hs => by
    obtain ⟨⟨⟨-, a1⟩, ⟨-, a2⟩⟩, -⟩ := gS.2.1 s hs
    unfold td adf
    omega
  have h1 := ht _ (r.2.1 0 (by omega)).2.1
  have h2 := ht _ (r.2.1 (lZ I l - 1) (by omega)).2.1
  unfold em
  omega
/-- the lines of a day, as both list them -/
theorem day_lines {D : Dn} {I : II} (g : Inv D I) (d : Int32) : pcn (rs I d (nL I)) 14 = pcn (rs I d (nL I)) (nL I) ∧ pcn (rs I d (nL I)) 16 = pcn (rs I d (nL I)) (nL I) ∧ lnf (rs I d (nL I)) 14 = lnf (rs I d (nL I)) (nL I) ∧ (∀ k, k < pcn (rs I d (nL I)) (nL I) → lnf (rs I d (nL I)) (nL I) k < nL I) ∧ ∀ j k, j < k → k < pcn (rs I d (nL I)) (nL I) → lnf (rs I d (nL I)) (nL I) j ≠ lnf (rs I d (nL I)) (nL I) k := by
  have hnL : nL I ≤ 14 := g.2.2.1.1.1.2
  have hno : ∀ b, nL I ≤ b → (rs I d (nL I)).testBit b = false := fun b hb => by
    cases q : (rs I d (nL I)).testBit b with
    | false => rfl
    | true => have := ((rs_bit I d b (nL I)).mp q).1; omega
  obtain ⟨h1, h2, h3⟩ := lnf_at (rs I d (nL I)) (nL I)
  refine ⟨(lnf_same _ hno 14 hnL).1, (lnf_same _ hno 16 (by omega)).1, (lnf_same _ hno 14 hnL).2, fun k hk => (h1 k hk).1, fun j k hj hk => ?_⟩
  have := h2 j k hj hk
  omega
theorem PL.sh {n pc : Nat} {rm : Nat → Nat} {f : Int32} {cs : Nat → Nat → Nat} {J : II} (h : PL n pc rm f J) (hpc : pc ≤ 6) (hrm : ∀ p, p < pc → rm p ≤ 9) (hst : stp rm pc ≤ 6561) (hc : ∀ i p, i < n → p < pc → J 20 (6 * i + p) = nI (cs i p)) (hcs : ∀ i p, i < n → p < pc → cs i p ≤ 1000) : SH n pc rm cs J := by
  obtain ⟨h1, h2, h3, h4, h5⟩ := h
  exact ⟨h1, ⟨h3, hpc⟩, fun p hp => ⟨(h5 p hp).1, hrm p hp, (h5 p hp).2.1⟩, hst, fun i p hi hp => ⟨hc i p hi hp, hcs i p hi hp⟩⟩
theorem p_fit (fu : Nat) (hfu : 70000 < fu) {D : Dn} {I : II} (g : Inv D I) (d x : Int32) : ∃ r I1 I2, Rf_X10_fit fu (mkS D) I d x = some (r, I1) ∧ Rf_X11_fit fu (mkS D) I1 d x = some (r, I2) ∧ Inv D I2 := by
  have hnL : nL I ≤ 14 := g.2.2.1.1.1.2
  have gD := g.2.2.2.2.2.2.1
  have hnD : nD I ≤ 4 := gD.1.1.2
  unfold Rf_X10_fit
  by_cases hd : t_X10_isDay d = 0
  · refine ⟨-2, I, I, by rw [if_pos hd], ?_, g⟩
    unfold Rf_X11_fit
    rw [day_eq, if_pos hd]
  rw [if_neg hd]
  have e4 : I 38 4 = nI (nL I) := g.2.2.1.1.1.1
  obtain ⟨wA, wB⟩ := w_m1 (x := x) (n := nL I) (by omega)
  by_cases hxx : ¬ (x = -1 ∨ ∃ k, k < nL I ∧ x = nI k)
  · have hl : Rf_X2_lineAt fu (mkS D) I x = some 0 := by
      rcases line_cases fu g.2.2.1 x with ⟨h1, -⟩ | ⟨l, h1, h2, -⟩
      · exact h1
      · exact absurd (Or.inr ⟨l, h1, h2⟩) hxx
    refine ⟨-1, I, I, by rw [if_neg (fun z => hxx (Or.inl z)), hl]; rfl, ?_, g⟩
    unfold Rf_X11_fit
    rw [day_eq, if_neg hd, e4, wB hxx, if_pos rfl]
  replace hxx := Classical.not_not.mp hxx
  have hgo : (if x = -1 then Rj_X10_fit_28 fu (mkS D) I d x else (Rf_X2_lineAt fu (mkS D) I x).bind fun q52 => if q52 = 0 then some (-1, I) else Rj_X10_fit_28 fu (mkS D) I d x) = Rj_X10_fit_28 fu (mkS D) I d x := by
    by_cases q : x = -1
    · rw [if_pos q]
    · obtain ⟨k, hk, rfl⟩ := hxx.resolve_left q
      rw [if_neg q]
      rcases line_cases fu g.2.2.1 (nI k) with ⟨-, h1⟩ | ⟨l, h1, h2, h3, -⟩
      · exfalso
        have : t_X11_in (nI k).toInt64 0 ((nI (nL I)).toInt64 - 1) = 1 := w_up_yes (by omega) (nI_nn (by omega)) (by rw [nI_le_iff (by omega) (by omega)]; omega)
        unfold t_X11_noLine at h1
        rw [e4, this, if_neg i1ne] at h1
        exact absurd h1 (by decide)
      · rw [h3, Option.bind_some, if_neg (g.2.2.1.2.1 l h1).2.at.1]
  rw [hgo]
  obtain ⟨p14, p16, l14, hln, hlne⟩ := day_lines g d
  have hm := rs_14 g d
  generalize hmm : rs I d (nL I) = m at *
  obtain ⟨n, en⟩ : ∃ n, pcn m (nL I) = n := ⟨_, rfl⟩
  obtain ⟨ln, eln⟩ : ∃ ln, lnf m (nL I) = ln := ⟨_, rfl⟩
  rw [en] at p14 p16 hln hlne
  rw [eln] at l14 hln hlne
  obtain ⟨J0, b1, b2, b3, b4, b5⟩ := x_begin fu (by omega) (S := mkS D) (J := I) hm
  rw [p14, p16, l14] at b5
  have k0 : Keep I J0 := fun a j z => by rw [b2 a (fun e => z (by unfold scr; omega)) (fun e => z (by unfold scr; omega))]
  obtain ⟨n', f, hn', hf, hc'⟩ : ∃ n' f, n' ≤ 8 ∧ (J0 15 1 = nI n' ∧ J0 15 2 = f ∧ LN n' ln J0) ∧ ((n ≤ 8 ∧ n' = n ∧ f = 0) ∨ (8 < n ∧ n' = 0 ∧ f = 1)) := by
    rcases b5 with ⟨y1, y2, y3, y4⟩ | ⟨y1, y2, y3⟩
    · exact ⟨n, 0, y1, ⟨y3, y2, fun k hk => ⟨y4 k hk, by have := hln k hk; omega⟩⟩, Or.inl ⟨y1, rfl, rfl⟩⟩
    · exact ⟨0, 1, by omega, ⟨y3, y2, fun k hk => absurd hk (Nat.not_lt_zero _)⟩, Or.inr ⟨y1, rfl, rfl⟩⟩
  have hn'n : n' ≤ n := by rcases hc' with ⟨-, y, -⟩ | ⟨-, y, -⟩ <;> omega
  let a : Nat → Nat := fun p => nx (I 66 p)
  let rm : Nat → Nat := fun p => min (a p) n'
  let cs : Nat → Nat → Nat := fun i p => em I (ln i) p
  have ha9 : ∀ p, p < nD I → a p ≤ 9 := fun p hp => (gD.2 p hp).2.1.2.2.2
  have hst : stp rm (nD I) ≤ 6561 := by
    have h1 := stp_9 (rm := rm) (b := 9) (nD I) (fun p hp => by show min (a p) n' + 1 ≤ 9; omega)
    have h2 := Nat.pow_le_pow_right (n := 9) (by decide) hnD
    exact Nat.le_trans h1 h2
  have hcs : ∀ i p, i < n' → p < nD I → cs i p ≤ 1000 := fun i p hi hp => em_le g (hln i (by omega)) hp
  have e09 : ∀ J' : II, Keep I J' → J' 0 9 = nI (nD I) := fun J' h => by rw [h 0 9 (by unfold scr; omega)]; exact gD.1.2.trans gD.1.1.1
  obtain ⟨J1, c1, c2, c3, c4, c5⟩ := places_loop fu (by omega) (D := D) k0 (n := n') (pc := nD I) (rm := rm) (a := a) (f := f) (cs := cs) (ln := ln) (x := x) (F := Rl_X10_fit_45 fu (mkS D) x) (G := fun dd κ => Rl_X10_fit_72 fu (mkS D) κ x (nI dd)) ⟨⟨hf.1, hn'⟩, hf.2.1, b3, b4, fun p hp => absurd hp (Nat.not_lt_zero _)⟩ hf.2.2 (by omega) (fun p hp => ⟨ha9 p hp, rfl⟩) hst hcs (fun J' dd hK' hdd self => by
      have gD' := (g.keep hK').2.2.2.2.2.2.1
      have hnd' : nD J' = nD I := by unfold nD; rw [hK' 38 36 (by unfold scr; omega)]
      obtain ⟨w1, w2, w3, w4⟩ := x_depot gD (d := dd) hdd
      have kd := nx_nI (k := dd) (by omega)
      have hr : J' (da D dd) 2 = nI (a dd) := by
        rw [hK' (da D dd) 2 (by unfold scr; omega), (gD.2 dd hdd).2.2.2.2]
        exact (gD.2 dd hdd).2.1.2.2.1
      unfold Rl_X10_fit_45
      rw [e09 J' hK', if_neg (by rw [nI_le_iff (by omega) (by omega)]; omega), gd_pos ⟨by decide, nI_nn (by omega), by rw [kd]; omega⟩, kd, w3, gd_pos w1, w2, hr]) (fun J' self hK' => by
      unfold Rl_X10_fit_45
      rw [e09 J' hK', if_pos (Int32.le_refl _)]) (fun J' dd i hK' hdd h15 hL hi κ self => by
      have gJ := g.keep hK'
      have ki := nx_nI (k := i) (by omega)
      have kd := nx_nI (k := dd) (by omega)
      obtain ⟨y1, y2⟩ := hL i hi
      have r16 : rdN J' 16 (nI i) = nI (ln i) := by unfold rdN; rw [ki]; exact y1
      have kl := nx_nI (k := ln i) (by omega)
      have hlt : ln i < nL J' := by rw [(keep_net hK').2.1]; exact hln i (by omega)
      obtain ⟨r, xx⟩ := gJ.2.2.1.2.1 (ln i) hlt
      have hnd' : nD J' = nD I := by unfold nD; rw [hK' 38 36 (by unfold scr; omega)]
      have hem := x_emptyOf fu gJ.2.1 gJ.2.2.2.2.2.2.1 (d := dd) r xx (by rw [hnd']; exact hdd)
      rw [keep_em hK'] at hem
      show Rl_X10_fit_72 fu (mkS D) κ x (nI dd) self (nI i) J' = _
      unfold Rl_X10_fit_72
      rw [h15, if_neg (by rw [nI_le_iff (by omega) (by omega)]; omega), gd_pos ⟨by decide, nI_nn (by omega), by rw [ki]; omega⟩, r16, gd_pos ⟨by decide, nI_nn (by omega), by rw [kl]; exact y2⟩, gd_pos ⟨by decide, nI_nn (by omega), by rw [kd]; omega⟩, kl, kd, show (mkS D).1 5 (ln i) = D.1 5 (ln i) from rfl, show (mkS D).1 13 dd = D.1 13 dd from rfl, hem, Option.bind_some, x_setCost fu (by omega) (by omega), Option.bind_some, nI_p1]) (fun J' dd κ self h15 hdd => by
      show Rl_X10_fit_72 fu (mkS D) κ x (nI dd) self (nI n') J' = _
      unfold Rl_X10_fit_72
      rw [h15, if_pos (Int32.le_refl _), nI_p1])
  have hx14 : x = -1 ∨ ∃ l, l < 14 ∧ x = nI l := hxx.imp id (fun ⟨k, h1, h2⟩ => ⟨k, by omega, h2⟩)
  have hclass : Rj_X10_fit_28 fu (mkS D) I d x = (Rf_X4_answer fu (mkS D) J1 x).bind (fun q => some (q.1, q.2)) := by
    unfold Rj_X10_fit_28
    rw [x_running fu (by omega) g Keep.rf, hmm, Option.bind_some, b1, Option.bind_some]
    exact c1
  rw [hclass]
  rcases hc' with ⟨q1, rfl, rfl⟩ | ⟨q1, rfl, rfl⟩
  · have hSH : SH n' (nD I) rm cs J1 := c3.sh (by omega) (fun p hp => by show min (a p) n' ≤ 9; omega) hst c5 hcs
    obtain ⟨v, J2, d1, d2, d3⟩ := x_answer fu (by omega) (D := D) hlne hSH c4 (fun p hp => (c3.2.2.2.2 p hp).2.2) c3.2.2.2.1 c3.2.1 x hx14
    have k2 : Keep I J2 := c2.tr (fun b j z => by rw [d2 b (fun e => z (by unfold scr; omega)) (fun e => z (by unfold scr; omega)) (fun e => z (by unfold scr; omega))])
    obtain ⟨K1, e1, e2, e3, e4'⟩ := m_layRuns fu (by omega) g k2 d
    rw [hmm, en] at e3 e4'
    rw [eln] at e4'
    have hpw : nD I ^ n' ≤ 65536 := by
      have h1 := Nat.pow_le_pow_left hnD n'
      have h2 := Nat.pow_le_pow_right (n := 4) (by decide) hn'
      exact Nat.le_trans h1 h2
    obtain ⟨K2, f1, f2, f3, f4, f5⟩ := m_find fu hfu (D := D) e2 (n := n') (pc := nD I) (md := 0) (rm := rm) (rv := a) (cs := cs) (ln := ln) (Or.inl rfl) hn' (by omega) hpw hcs e3 e4' (fun a' ha' => by
      rw [show okR 0 a' a n' (nD I) = dfB a' a n' (nD I) from rfl, dfB_iff]
      constructor
      · intro h p
        rw [cnp_eq]
        by_cases z : p < nD I
        · have h1 := h p z
          have h2 := cnp_le a' p n'
          show cnp a' p n' ≤ min (a p) n'
          omega
        · rw [cnp_0 n' (fun k hk => by have := ha' k hk; omega)]
          exact Nat.zero_le _
      · intro h p hp
        have h1 := h p
        rw [cnp_eq] at h1
        have h2 : cnp a' p n' ≤ min (a p) n' := h1
        omega) (fun _ => ⟨gD.1.1.1, hnD, fun p hp => ⟨(gD.2 p hp).2.1.2.2.1, ha9 p hp⟩⟩) (fun J' k p hK' hk hp => by
      have gJ := g.keep hK'
      have hlt : ln k < nL J' := by rw [(keep_net hK').2.1]; exact hln k hk
      have hnd' : nD J' = nD I := by unfold nD; rw [hK' 38 36 (by unfold scr; omega)]
      have h14 := hln k hk
      have hem := m_emptyOf fu gJ.2.1 gJ.2.2.2.2.2.2.1 (l := ln k) (d := p) (by omega) (gJ.2.2.1.2.1 (ln k) hlt).1 (by rw [hnd']; exact hp)
      rw [keep_em hK'] at hem
      rw [if_pos rfl]
      exact hem)
    obtain ⟨w, K3, g1, g2, g3⟩ := m_told fu (by omega) (S := mkS D) f2 (rm := rm) (cs := cs) (ln := ln) (x := x) hn' (by omega) hpw (fun k hk => by have := hln k hk; omega) hx14 f3 f4 f5
    have evw : v = w := Tld.uq hlne d3 g3
    subst evw
    refine ⟨v, J2, K3, by rw [d1]; rfl, ?_, g.keep g2⟩
    unfold Rf_X11_fit
    rw [day_eq, if_neg hd, k2 38 4 (by unfold scr; omega), e4, wA hxx, if_neg i1ne, e1, Option.bind_some, e3, if_pos (by rw [show (8 : Int32) = nI 8 from rfl, nI_le_iff (by omega) (by decide)]; exact hn'), e2 38 36 (by unfold scr; omega), gD.1.1.1]
    show (Rf_X11_findRow fu (mkS D) K1 0 (nI (nD I))).bind _ = _
    rw [f1, Option.bind_some, f2 38 36 (by unfold scr; omega), gD.1.1.1]
    show (Rf_X11_rowTold fu (mkS D) K2 x (nI (nD I))).bind _ = _
    rw [g1]
    rfl
  · have hans : Rf_X4_answer fu (mkS D) J1 x = some (-9, J1) := by
      unfold Rf_X4_answer
      rw [c3.2.1, if_neg i1ne]
    obtain ⟨K1, e1, e2, e3, e4'⟩ := m_layRuns fu (by omega) g c2 d
    rw [hmm, en] at e3
    have hle : n ≤ 14 := by
      rw [← p14]
      have : ∀ n, pcn m n ≤ n := fun n => by
        induction n with
        | zero => exact Nat.le_refl _
        | succ n ih => rw [pcn_s]; split <;> omega
      exact this 14
    refine ⟨-9, J1, K1, by rw [hans]; rfl, ?_, g.keep e2⟩
    unfold Rf_X11_fit
    rw [day_eq, if_neg hd, c2 38 4 (by unfold scr; omega), e4, wA hxx, if_neg i1ne, e1, Option.bind_some, e3, if_neg (by rw [show (8 : Int32) = nI 8 from rfl, nI_le_iff (by omega) (by decide)]; omega)]
