/-! roster -/
def tau (I : II) (l p : Nat) : Nat := if (nx (I 69 p)).testBit l = true then 0 else lZ I l
theorem tau_le {D : Dn} {I : II} (g : Inv D I) {l : Nat} (hl : l < nL I) (p : Nat) : tau I l p ≤ 1000 := by
  have r := (g.2.2.1.2.1 l hl).1
  have := r.bds.2.2.1
  unfold tau
  split <;> omega
theorem p_roster (fu : Nat) (hfu : 70000 < fu) {D : Dn} {I : II} (g : Inv D I) (d x : Int32) : ∃ r I1 I2, Rf_X10_roster fu (mkS D) I d x = some (r, I1) ∧ Rf_X11_roster fu (mkS D) I1 d x = some (r, I2) ∧ Inv D I2 := by
  have hnL : nL I ≤ 14 := g.2.2.1.1.1.2
  have gR := g.2.2.2.2.2.2.2.1
  have hnR : nR I ≤ 6 := gR.1.1.2
  unfold Rf_X10_roster
  by_cases hd : t_X10_isDay d = 0
  · refine ⟨-2, I, I, by rw [if_pos hd], ?_, g⟩
    unfold Rf_X11_roster
    rw [day_eq, if_pos hd]
  rw [if_neg hd]
  have e4 : I 38 4 = nI (nL I) := g.2.2.1.1.1.1
  obtain ⟨wA, wB⟩ := w_m1 (x := x) (n := nL I) (by omega)
  by_cases hxx : ¬ (x = -1 ∨ ∃ k, k < nL I ∧ x = nI k)
  · have hl : Rf_X2_lineAt fu (mkS D) I x = some 0 := by
      rcases line_cases fu g.2.2.1 x with ⟨h1, -⟩ | ⟨l, h1, h2, -⟩
      · exact h1
      · exact absurd (Or.inr ⟨l, h1, h2⟩) hxx
    refine ⟨-1, I, I, by rw [if_neg (fun z => hxx (Or.inl z)), hl]; rfl, ?_, g⟩
    unfold Rf_X11_roster
    rw [day_eq, if_neg hd, e4, wB hxx, if_pos rfl]
  replace hxx := Classical.not_not.mp hxx
  have hgo : (if x = -1 then Rj_X10_roster_28 fu (mkS D) I d x else (Rf_X2_lineAt fu (mkS D) I x).bind fun q52 => if q52 = 0 then some (-1, I) else Rj_X10_roster_28 fu (mkS D) I d x) = Rj_X10_roster_28 fu (mkS D) I d x := by
    by_cases q : x = -1
    · rw [if_pos q]
    · obtain ⟨k, hk, rfl⟩ := hxx.resolve_left q
      rw [if_neg q]
      rcases line_cases fu g.2.2.1 (nI k) with ⟨-, h1⟩ | ⟨l, h1, h2, h3, -⟩
      · exfalso
        have : t_X11_in (nI k).toInt64 0 ((nI (nL I)).toInt64 - 1) = 1 := w_up_yes (by omega) (nI_nn (by omega)) (by rw [nI_le_iff (by omega) (by omega)]; omega)
        unfold t_X11_noLine at h1
        rw [e4, this, if_neg i1ne] at h1
        exact absurd h1 (by decide)
      · rw [h3, Option.bind_some, if_neg (g.2.2.1.2.1 l h1).2.at.1]
  rw [hgo]
  obtain ⟨p14, p16, l14, hln, hlne⟩ := day_lines g d
  have hm := rs_14 g d
  generalize hmm : rs I d (nL I) = m at *
  obtain ⟨n, en⟩ : ∃ n, pcn m (nL I) = n := ⟨_, rfl⟩
  obtain ⟨ln, eln⟩ : ∃ ln, lnf m (nL I) = ln := ⟨_, rfl⟩
  rw [en] at p14 p16 hln hlne
  rw [eln] at l14 hln hlne
  obtain ⟨J0, b1, b2, b3, b4, b5⟩ := x_begin fu (by omega) (S := mkS D) (J := I) hm
  rw [p14, p16, l14] at b5
  have k0 : Keep I J0 := fun a j z => by rw [b2 a (fun e => z (by unfold scr; omega)) (fun e => z (by unfold scr; omega))]
  obtain ⟨n', f, hn', hf, hc'⟩ : ∃ n' f, n' ≤ 8 ∧ (J0 15 1 = nI n' ∧ J0 15 2 = f ∧ LN n' ln J0) ∧ ((n ≤ 8 ∧ n' = n ∧ f = 0) ∨ (8 < n ∧ n' = 0 ∧ f = 1)) := by
    rcases b5 with ⟨y1, y2, y3, y4⟩ | ⟨y1, y2, y3⟩
    · exact ⟨n, 0, y1, ⟨y3, y2, fun k hk => ⟨y4 k hk, by have := hln k hk; omega⟩⟩, Or.inl ⟨y1, rfl, rfl⟩⟩
    · exact ⟨0, 1, by omega, ⟨y3, y2, fun k hk => absurd hk (Nat.not_lt_zero _)⟩, Or.inr ⟨y1, rfl, rfl⟩⟩
  have hn'n : n' ≤ n := by rcases hc' with ⟨-, y, -⟩ | ⟨-, y, -⟩ <;> omega
  let a : Nat → Nat := fun _ => 1
  let rm : Nat → Nat := fun p => min (a p) n'
  let cs : Nat → Nat → Nat := fun i p => tau I (ln i) p
  have ha9 : ∀ p, p < nR I → a p ≤ 9 := fun p hp => by show 1 ≤ 9; decide
  have hst : stp rm (nR I) ≤ 6561 := by
    have h1 := stp_9 (rm := rm) (b := 2) (nR I) (fun p hp => by show min 1 n' + 1 ≤ 2; omega)
    have h2 := Nat.pow_le_pow_right (n := 2) (by decide) hnR
    exact Nat.le_trans h1 (Nat.le_trans h2 (by decide))
  have hcs : ∀ i p, i < n' → p < nR I → cs i p ≤ 1000 := fun i p hi hp => tau_le g (hln i (by omega)) p
  have e09 : ∀ J' : II, Keep I J' → J' 0 11 = nI (nR I) := fun J' h => by rw [h 0 11 (by unfold scr; omega)]; exact gR.1.2.trans gR.1.1.1
  obtain ⟨J1, c1, c2, c3, c4, c5⟩ := places_loop fu (by omega) (D := D) k0 (n := n') (pc := nR I) (rm := rm) (a := a) (f := f) (cs := cs) (ln := ln) (x := x) (F := Rl_X10_roster_45 fu (mkS D) x) (G := fun dd κ => Rl_X10_roster_64 fu (mkS D) κ x (nI dd)) ⟨⟨hf.1, hn'⟩, hf.2.1, b3, b4, fun p hp => absurd hp (Nat.not_lt_zero _)⟩ hf.2.2 (by omega) (fun p hp => ⟨ha9 p hp, rfl⟩) hst hcs (fun J' dd hK' hdd self => by
      unfold Rl_X10_roster_45
      rw [e09 J' hK', if_neg (by rw [nI_le_iff (by omega) (by omega)]; omega)]
      rfl) (fun J' self hK' => by
      unfold Rl_X10_roster_45
      rw [e09 J' hK', if_pos (Int32.le_refl _)]) (fun J' dd i hK' hdd h15 hL hi κ self => by
      have gJ := g.keep hK'
      have ki := nx_nI (k := i) (by omega)
      have kd := nx_nI (k := dd) (by omega)
      obtain ⟨y1, y2⟩ := hL i hi
      have r16 : rdN J' 16 (nI i) = nI (ln i) := by unfold rdN; rw [ki]; exact y1
      have kl := nx_nI (k := ln i) (by omega)
      have hlI := hln i (by omega)
      have hlt : ln i < nL J' := by rw [(keep_net hK').2.1]; exact hlI
      obtain ⟨r, xx⟩ := gJ.2.2.1.2.1 (ln i) hlt
      obtain ⟨g14, g69⟩ := gR.2.1 dd (by omega)
      have r14 : rdN J' 14 (nI dd) = nI (nx (I 69 dd)) := by
        unfold rdN
        rw [kd, hK' 14 dd (by unfold scr; omega), g14]
        exact g69.1
      have hh := has_at (m := nx (I 69 dd)) (s := ln i) (by have := g69.2; omega) (by omega)
      have c5 : J' (la D (ln i)) 5 = nI (lZ I (ln i)) := by
        rw [← (keep_line hK' (ln i)).2.2.1, xx.2.2.1.2.2.2.2.2.1]
        exact r.nums.2.1
      have e15 : (16 : Nat) - 1 = 15 := rfl
      show Rl_X10_roster_64 fu (mkS D) κ x (nI dd) self (nI i) J' = _
      unfold Rl_X10_roster_64 Rj_X10_roster_126
      simp only [lt]
      rw [h15, if_neg (by rw [nI_le_iff (by omega) (by omega)]; omega), gd_pos ⟨by decide, nI_nn (by omega), by rw [ki]; omega⟩, r16, gd_pos ⟨by decide, nI_nn (by omega), by rw [kd]; omega⟩, r14, hh]
      by_cases q : (nx (I 69 dd)).testBit (ln i) = true
      · have ec : cs i dd = 0 := if_pos q
        rw [if_pos q, if_neg i1ne, gd_pos (by decide), e15, re_X4_setCost, show (0 : Int32) = nI 0 from rfl, x_setCost fu (by omega) (by omega), Option.bind_some, nI_p1, ec]
      · have ec : cs i dd = lZ I (ln i) := if_neg q
        rw [if_neg q, if_pos rfl, gd_pos ⟨by decide, nI_nn (by omega), by rw [kl]; exact y2⟩, kl, show (mkS D).1 5 (ln i) = D.1 5 (ln i) from rfl, gd_pos xx.at.1, xx.at.2.1, c5, gd_pos (by decide), e15, re_X4_setCost, x_setCost fu (by omega) (by omega), Option.bind_some, nI_p1, ec]) (fun J' dd κ self h15 hdd => by
      show Rl_X10_roster_64 fu (mkS D) κ x (nI dd) self (nI n') J' = _
      unfold Rl_X10_roster_64
      rw [h15, if_pos (Int32.le_refl _), nI_p1])
  have hx14 : x = -1 ∨ ∃ l, l < 14 ∧ x = nI l := hxx.imp id (fun ⟨k, h1, h2⟩ => ⟨k, by omega, h2⟩)
  have hclass : Rj_X10_roster_28 fu (mkS D) I d x = (Rf_X4_answer fu (mkS D) J1 x).bind (fun q => some (q.1, q.2)) := by
    unfold Rj_X10_roster_28
    rw [x_running fu (by omega) g Keep.rf, hmm, Option.bind_some, b1, Option.bind_some]
    exact c1
  rw [hclass]
  rcases hc' with ⟨q1, rfl, rfl⟩ | ⟨q1, rfl, rfl⟩
  · have hSH : SH n' (nR I) rm cs J1 := c3.sh (by omega) (fun p hp => by show min 1 n' ≤ 9; omega) hst c5 hcs
    obtain ⟨v, J2, d1, d2, d3⟩ := x_answer fu (by omega) (D := D) hlne hSH c4 (fun p hp => (c3.2.2.2.2 p hp).2.2) c3.2.2.2.1 c3.2.1 x hx14
    have k2 : Keep I J2 := c2.tr (fun b j z => by rw [d2 b (fun e => z (by unfold scr; omega)) (fun e => z (by unfold scr; omega)) (fun e => z (by unfold scr; omega))])
    obtain ⟨K1, e1, e2, e3, e4'⟩ := m_layRuns fu (by omega) g k2 d
    rw [hmm, en] at e3 e4'
    rw [eln] at e4'
    have e45 : I 38 45 = nI (nR I) := gR.1.1.1
    by_cases hnr : n' ≤ nR I
    · have hpw : nR I ^ n' ≤ 65536 := by
        have h1 := Nat.pow_le_pow_left hnR n'
        have h2 := Nat.pow_le_pow_right (n := 6) (by decide) (show n' ≤ 6 by omega)
        exact Nat.le_trans h1 (Nat.le_trans h2 (by decide))
      obtain ⟨K2, f1, f2, f3, f4, f5⟩ := m_find fu hfu (D := D) e2 (n := n') (pc := nR I) (md := 1) (rm := rm) (rv := a) (cs := cs) (ln := ln) (Or.inr rfl) hn' (by omega) hpw hcs e3 e4' (fun a' ha' => by
        rw [show okR 1 a' a n' (nR I) = un a' n' from rfl, un_cnp]
        constructor
        · intro h p
          rw [cnp_eq]
          have h1 := h p
          have h2 := cnp_le a' p n'
          show cnp a' p n' ≤ min 1 n'
          omega
        · intro h p
          have h1 := h p
          rw [cnp_eq] at h1
          have h2 : cnp a' p n' ≤ min 1 n' := h1
          omega) (fun z => absurd z (by decide)) (fun J' k p hK' hk hp => by
        have gJ := g.keep hK'
        have hlI := hln k hk
        have hlt : ln k < nL J' := by rw [(keep_net hK').2.1]; exact hlI
        have r := (gJ.2.2.1.2.1 (ln k) hlt).1
        have kp := nx_nI (k := p) (by omega)
        have kl := nx_nI (k := ln k) (by omega)
        obtain ⟨g14, g69⟩ := gR.2.1 p (by omega)
        have r69 : rdN J' 69 (nI p) = nI (nx (I 69 p)) := by
          unfold rdN
          rw [kp, hK' 69 p (by unfold scr; omega)]
          exact g69.1
        have hh : t_X11_hasBit (nI (nx (I 69 p))) (nI (ln k)) = if (nx (I 69 p)).testBit (ln k) = true then 1 else 0 := (hasBit_has _ _).trans (has_at (by have := g69.2; omega) (by omega))
        have r42 : rdN J' 42 (nI (ln k)) = nI (lZ I (ln k)) := by
          unfold rdN
          rw [kl, ← (keep_line hK' (ln k)).2.2.1]
          exact r.nums.2.1
        rw [if_neg (by decide)]
        unfold Rf_X11_taught
        rw [gd_pos ⟨by decide, nI_nn (by omega), by rw [kp]; omega⟩, r69, hh]
        by_cases q : (nx (I 69 p)).testBit (ln k) = true
        · have ec : cs k p = 0 := if_pos q
          rw [if_pos q, if_neg i1ne, ec]
          rfl
        · have ec : cs k p = lZ I (ln k) := if_neg q
          rw [if_neg q, if_pos rfl, gd_pos ⟨by decide, nI_nn (by omega), by rw [kl]; omega⟩, r42, ec])
      obtain ⟨w, K3, g1, g2, g3⟩ := m_told fu (by omega) (S := mkS D) f2 (rm := rm) (cs := cs) (ln := ln) (x := x) hn' (by omega) hpw (fun k hk => by have := hln k hk; omega) hx14 f3 f4 f5
      have evw : v = w := Tld.uq hlne d3 g3
      subst evw
      refine ⟨v, J2, K3, by rw [d1]; rfl, ?_, g.keep g2⟩
      unfold Rf_X11_roster
      rw [day_eq, if_neg hd, k2 38 4 (by unfold scr; omega), e4, wA hxx, if_neg i1ne, e1, Option.bind_some, e3, e2 38 45 (by unfold scr; omega), e45, if_pos (by rw [nI_le_iff (by omega) (by omega)]; exact hnr)]
      show (Rf_X11_findRow fu (mkS D) K1 1 (nI (nR I))).bind _ = _
      rw [f1, Option.bind_some, f2 38 45 (by unfold scr; omega), e45]
      show (Rf_X11_rowTold fu (mkS D) K2 x (nI (nR I))).bind _ = _
      rw [g1]
      rfl
    · have hopt : opt (nR I) rm cs n' 0 (fun _ => 0) = NB := by
        have hle := opt_le (nR I) rm cs n' 0 (fun _ => 0)
        by_cases z : opt (nR I) rm cs n' 0 (fun _ => 0) < NB
        · have h1 := opt_cap (pc := nR I) (rm := rm) (cs := cs) n' 0 (fun _ => 0) z
          have h2 : ∀ q, cap rm (fun _ => 0) q ≤ q := fun q => by
            induction q with
            | zero => exact Nat.le_refl _
            | succ q ih =>
              show cap rm (fun _ => 0) q + (min 1 n' - 0) ≤ q + 1
              omega
          have := h2 (nR I)
          omega
        · omega
      have ev : v = -9 := by
        rcases d3 with ⟨-, z⟩ | ⟨z, -⟩
        · exact z
        · omega
      subst ev
      refine ⟨-9, J2, K1, by rw [d1]; rfl, ?_, g.keep e2⟩
      unfold Rf_X11_roster
      rw [day_eq, if_neg hd, k2 38 4 (by unfold scr; omega), e4, wA hxx, if_neg i1ne, e1, Option.bind_some, e3, e2 38 45 (by unfold scr; omega), e45, if_neg (by rw [nI_le_iff (by omega) (by omega)]; exact hnr)]
  · have hans : Rf_X4_answer fu (mkS D) J1 x = some (-9, J1) := by
      unfold Rf_X4_answer
      rw [c3.2.1, if_neg i1ne]
    obtain ⟨K1, e1, e2, e3, e4'⟩ := m_layRuns fu (by omega) g c2 d
    rw [hmm, en] at e3
    have hle : n ≤ 14 := by
      rw [← p14]
      have : ∀ n, pcn m n ≤ n := fun n => by
        induction n with
        | zero => exact Nat.le_refl _
        | succ n ih => rw [pcn_s]; split <;> omega
      exact this 14
    refine ⟨-9, J1, K1, by rw [hans]; rfl, ?_, g.keep e2⟩
    unfold Rf_X11_roster
    rw [day_eq, if_neg hd, c2 38 4 (by unfold scr; omega), e4, wA hxx, if_neg i1ne, e1, Option.bind_some, e3, e2 38 45 (by unfold scr; omega), gR.1.1.1, if_neg (by show ¬ nI n ≤ nI (nR I); rw [nI_le_iff (by omega) (by omega)]; omega)]
