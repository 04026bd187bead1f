/-! night: the reference's rows -/
theorem m_layBoards (fu : Nat) (hfu : 100 < fu) {D : Dn} {I J : II} (g : Inv D I) (hK : Keep I J) (d : Int32) :
    ∃ J', Rf_X11_layBoards fu (mkS D) J d = some J' ∧ Keep I J' ∧ ∀ k, k < bn I → J' 70 k = nI (bst_ I k) ∧ J' 71 k = nI (bop I d k) ∧ J' 72 k = nI (tiM (til I (d + 1) (bst_ I k) (nL I))) := by
  have hnS : nS I ≤ 16 := g.2.1.1.1.2
  have hnL : nL I ≤ 14 := g.2.2.1.1.1.2
  have gR := g.2.2.2.2.2.2.2.1
  obtain ⟨hb6, -, hbs⟩ := bn_le g
  have hbd : bds I ≤ 65535 := gR.2.2.1.2.1.2
  have ebd : I 38 47 = nI (bds I) := gR.2.2.1.2.1.1
  have main := fix3_ex (K := Unit) (F := fun _ => Rl_X11_layBoards_4 fu (mkS D) d) (fun i => nI i) (fun s v J' => v = nI (pcn (bds I) s) ∧ Keep I J' ∧ ∀ k, k < pcn (bds I) s → J' 70 k = nI (lnf (bds I) s k) ∧ J' 71 k = nI (frm I d (lnf (bds I) s k) (nL I)) ∧ J' 72 k = nI (tiM (til I (d + 1) (lnf (bds I) s k) (nL I)))) (fun _ _ J' => some J') (nS I) (fun s v J' hs hP => ?_) (fun v J' hP κ self => ?_) (nS I) 0 0 J (by omega) ⟨rfl, hK, fun k hk => absurd hk (Nat.not_lt_zero _)⟩ fu (by omega)
  · obtain ⟨v, J', ⟨-, q1, q2⟩, hrun⟩ := main
    exact ⟨J', hrun (), q1, q2⟩
  · obtain ⟨rfl, q1, q2⟩ := hP
    have e1 : J' 38 1 = nI (nS I) := by rw [q1 38 1 (by unfold scr; omega)]; exact g.2.1.1.1.1
    have e47 : J' 38 47 = nI (bds I) := by rw [q1 38 47 (by unfold scr; omega)]; exact ebd
    have hh : t_X11_hasBit (nI (bds I)) (nI s) = if (bds I).testBit s = true then 1 else 0 := (hasBit_has _ _).trans (has_at (by omega) (by omega))
    have hsx := pcn_s (bds I) s
    have hmo := pcn_mono (bds I) (nS I) (s + 1) (by omega)
    have hc0 : ¬ nI (nS I) ≤ nI s := by rw [nI_le_iff (by omega) (by omega)]; omega
    by_cases q : (bds I).testBit s = true
    · rw [if_pos q] at hh hsx
      obtain ⟨c, ec⟩ : ∃ c, pcn (bds I) s = c := ⟨_, rfl⟩
      rw [ec] at q2 hsx
      have hc6 : c < 6 := by unfold bn at hb6; omega
      have kc := nx_nI (k := c) (by omega)
      have in6 : ∀ a : Nat, a ≠ 0 → inbL a 6 (nI c) := fun a ha => ⟨ha, nI_nn (by omega), by rw [kc]; exact hc6⟩
      obtain ⟨G, eG⟩ : ∃ G : II, upI (upI (upI J' 70 c (nI s)) 71 c 0) 72 c 1000000 = G := ⟨_, rfl⟩
      have kG : Keep I G := by
        rw [← eG]
        exact q1.tr (fun a j z => by rw [upI_row (fun e => z (by unfold scr; omega)), upI_row (fun e => z (by unfold scr; omega)), upI_row (fun e => z (by unfold scr; omega))])
      have G70 : G 70 c = nI s := by rw [← eG, upI_row (by decide), upI_row (by decide), upI_at]
      have Gj : ∀ b j, j ≠ c → G b j = J' b j := fun b j hj => by
        rw [← eG]
        unfold upI
        rw [if_neg (fun z => hj z.2), if_neg (fun z => hj z.2), if_neg (fun z => hj z.2)]
      have inner := fix2_ex (K := Int32 → Int32 → II → Option II) (F := fun κ => Rl_X11_layBoards_48 fu (mkS D) κ d (nI c) (nI s)) (fun i => nI i) (fun l J2 => Keep I J2 ∧ J2 70 c = nI s ∧ (∀ b j, j ≠ c → J2 b j = G b j) ∧ J2 71 c = nI (frm I d s l) ∧ J2 72 c = nI (tiM (til I (d + 1) s l))) (fun κ J2 => κ (nI (c + 1)) (nI (s + 1)) J2) (nL I) (fun l J2 hl hQ => ?_) (fun J2 hQ κ self => ?_) (nL I) 0 G (by omega) ⟨kG, G70, fun _ _ _ => rfl, by rw [← eG, upI_row (by decide), upI_at]; rfl, by rw [← eG, upI_at]; rfl⟩ fu (by omega)
      · obtain ⟨J2, ⟨w1, w2, w3, w4, w5⟩, hrun⟩ := inner
        have el : lnf (bds I) (s + 1) = upw (lnf (bds I) s) c s := by
          have : lnf (bds I) (s + 1) = upw (lnf (bds I) s) (pcn (bds I) s) s := if_pos q
          rw [ec] at this
          exact this
        refine ⟨nI (c + 1), J2, ⟨by rw [hsx], w1, fun k hk => ?_⟩, fun _ self => ?_⟩
        · rw [el]
          unfold upw
          by_cases e : k = c
          · rw [if_pos e, e]; exact ⟨w2, w4, w5⟩
          · rw [if_neg e, w3 _ k e, w3 _ k e, w3 _ k e, Gj _ k e, Gj _ k e, Gj _ k e]; exact q2 k (by omega)
        · show Rl_X11_layBoards_4 fu (mkS D) d self (nI (pcn (bds I) s)) (nI s) J' = _
          unfold Rl_X11_layBoards_4
          rw [e1, if_neg hc0, e47, hh, if_neg i1ne, ec, gd_pos (in6 _ (by decide))]
          simp only [lt]
          rw [gd_pos (in6 _ (by decide)), gd_pos (in6 _ (by decide))]
          unfold wrN
          rw [kc, eG]
          exact hrun self
      · obtain ⟨w1, w2, w3, w4, w5⟩ := hQ
        obtain ⟨J3, y1, y2, y3, y4, y5, y6⟩ := m_lineB fu hfu g w1 (s := s) (c := c) hl (by omega) hc6 (d := d) w4 w5
        refine ⟨J3, ⟨y2, by rw [y3 70 (by decide) (by decide)]; exact w2, fun b j hj => (y4 b j hj).trans (w3 b j hj), y5, y6⟩, fun κ self => ?_⟩
        show Rl_X11_layBoards_48 fu (mkS D) κ d (nI c) (nI s) self (nI l) J2 = _
        unfold Rl_X11_layBoards_48
        rw [w1 38 4 (by unfold scr; omega), g.2.2.1.1.1.1]
        show (if nI (nL I) ≤ nI l then _ else _) = _
        rw [if_neg (by rw [nI_le_iff (by omega) (by omega)]; omega)]
        exact y1 κ self
      · obtain ⟨w1, w2, w3, w4, w5⟩ := hQ
        show Rl_X11_layBoards_48 fu (mkS D) κ d (nI c) (nI s) self (nI (nL I)) J2 = _
        unfold Rl_X11_layBoards_48 Rj_X11_layBoards_245
        rw [w1 38 4 (by unfold scr; omega), g.2.2.1.1.1.1]
        show (if nI (nL I) ≤ nI (nL I) then _ else _) = _
        rw [if_pos (Int32.le_refl _), nI_p1, nI_p1]
    · rw [if_neg q] at hh hsx
      refine ⟨nI (pcn (bds I) s), J', ⟨by rw [hsx]; rfl, q1, fun k hk => ?_⟩, fun _ self => ?_⟩
      · rw [show lnf (bds I) (s + 1) = lnf (bds I) s from if_neg q]
        exact q2 k (by omega)
      · show Rl_X11_layBoards_4 fu (mkS D) d self (nI (pcn (bds I) s)) (nI s) J' = _
        unfold Rl_X11_layBoards_4 Rj_X11_layBoards_245
        rw [e1, if_neg hc0, e47, hh, if_pos rfl, nI_p1]
  · obtain ⟨rfl, q1, q2⟩ := hP
    have e1 : J' 38 1 = nI (nS I) := by rw [q1 38 1 (by unfold scr; omega)]; exact g.2.1.1.1.1
    show Rl_X11_layBoards_4 fu (mkS D) d self _ (nI (nS I)) J' = _
    unfold Rl_X11_layBoards_4
    rw [e1, if_pos (Int32.le_refl _)]
def dbM (v : Nat) : Nat := if v = NB then MM else v
theorem m_doneBy (fu : Nat) {D : Dn} {I J : II} (g : Inv D I) (hK : Keep I J) {d : Int32} {n : Nat} {a : Nat → Nat} (hn : n = bn I) (ha : ∀ k, k < n → J 68 k = nI (a k) ∧ a k < n) (hr : ∀ k, k < n → J 70 k = nI (bst_ I k) ∧ J 71 k = nI (bop I d k) ∧ J 72 k = nI (tiM (til I (d + 1) (bst_ I k) (nL I)))) : ∀ r i at_ now m, i + r = n → at_ < nS I → now ≤ 4000 + 100 * i → r < m → fix3 (Rl_X11_doneBy_9 fu (mkS D) J (nI n)) m (nI at_) (nI now) (nI i) = some (nI (dbM (Db (far I) (bst_ I) (bop I d) (bcl I d) a r i at_ now))) ∧ (Db (far I) (bst_ I) (bop I d) (bcl I d) a r i at_ now = NB ∨ Db (far I) (bst_ I) (bop I d) (bcl I d) a r i at_ now ≤ 5000)
  | 0, i, at_, now, m, hi, hat, hnow, hm => by
    obtain ⟨m, rfl⟩ : ∃ j, m = j + 1 := ⟨m - 1, by omega⟩
    have hb6 := (bn_le g).1
    have hin : i = n := by omega
    subst hin
    refine ⟨?_, Or.inr (by show now ≤ 5000; omega)⟩
    show Rl_X11_doneBy_9 fu (mkS D) J (nI i) _ (nI at_) (nI now) (nI i) = some (nI (dbM now))
    unfold Rl_X11_doneBy_9 dbM
    rw [if_pos (Int32.le_refl _), if_neg (by simp only [NB]; omega)]
  | r + 1, i, at_, now, m, hi, hat, hnow, hm => by
    obtain ⟨m, rfl⟩ : ∃ j, m = j + 1 := ⟨m - 1, by omega⟩
    obtain ⟨hb6, -, hbs⟩ := bn_le g
    obtain ⟨a1, a2⟩ := ha i (by omega)
    obtain ⟨r1, r2, r3⟩ := hr (a i) a2
    have hst := hbs (a i) (by omega)
    have kk := nx_nI (k := i) (by omega)
    have kb := nx_nI (k := a i) (by omega)
    have r68 : rdN J 68 (nI i) = nI (a i) := by unfold rdN; rw [kk]; exact a1
    have r70 : rdN J 70 (nI (a i)) = nI (bst_ I (a i)) := by unfold rdN; rw [kb]; exact r1
    have r71 : rdN J 71 (nI (a i)) = nI (bop I d (a i)) := by unfold rdN; rw [kb]; exact r2
    have r72 : rdN J 72 (nI (a i)) = nI (tiM (til I (d + 1) (bst_ I (a i)) (nL I))) := by unfold rdN; rw [kb]; exact r3
    have hf := m_farJ fu g hK hat hst
    have hfl := far_le g.2.1 hat hst
    have ho : bop I d (a i) ≤ 1649 := (frm_le g d _ _ (Nat.le_refl _)).1
    have ht := (frm_le g (d + 1) (bst_ I (a i)) (nL I) (Nat.le_refl _)).2
    obtain ⟨dn, edn⟩ : ∃ dn, dnt (far I) (bst_ I) (bop I d) at_ now (a i) = dn := ⟨_, rfl⟩
    have hdn : dn ≤ 4000 + 100 * (i + 1) := by rw [← edn]; unfold dnt; omega
    have hmax : t_X11_greater (nI now + nI (far I at_ (bst_ I (a i)))) (nI (bop I d (a i))) + 5 = nI dn := by
      rw [nI_add, gre_nI (by omega) (by omega), ← edn]
      exact nI_add _ 5
    have in6 : ∀ b : Nat, b ≠ 0 → inbL b 6 (nI (a i)) := fun b hb => ⟨hb, nI_nn (by omega), by rw [kb]; omega⟩
    have htm := tiM_le ht
    have cc : nI dn ≤ nI (tiM (til I (d + 1) (bst_ I (a i)) (nL I))) ↔ dn ≤ bcl I d (a i) := by
      rw [nI_le_iff (by omega) (by simp only [MM] at htm; omega)]
      unfold tiM bcl
      rcases ht with z | z
      · rw [if_pos z, z]
        simp only [NB, MM]
        omega
      · rw [if_neg (by simp only [NB]; omega)]
    have hgo : ∀ self, Rl_X11_doneBy_9 fu (mkS D) J (nI n) self (nI at_) (nI now) (nI i) = if dn ≤ bcl I d (a i) then self (nI (bst_ I (a i))) (nI dn) (nI (i + 1)) else some 1000000 := by
      intro self
      unfold Rl_X11_doneBy_9
      rw [if_neg (by rw [nI_le_iff (by omega) (by omega)]; omega), gd_pos ⟨by decide, nI_nn (by omega), by rw [kk]; omega⟩]
      simp only [lt]
      rw [r68, gd_pos (in6 _ (by decide)), r70, hf, Option.bind_some, gd_pos (in6 _ (by decide)), r71, hmax, gd_pos (in6 _ (by decide)), r72, nI_p1]
      by_cases z : dn ≤ bcl I d (a i)
      · rw [if_pos (cc.mpr z), if_pos z]
      · rw [if_neg (fun y => z (cc.mp y)), if_neg z]
    show Rl_X11_doneBy_9 fu (mkS D) J (nI n) (fix3 (Rl_X11_doneBy_9 fu (mkS D) J (nI n)) m) (nI at_) (nI now) (nI i) = _ ∧ _
    rw [hgo]
    have eD : Db (far I) (bst_ I) (bop I d) (bcl I d) a (r + 1) i at_ now = if dn ≤ bcl I d (a i) then Db (far I) (bst_ I) (bop I d) (bcl I d) a r (i + 1) (bst_ I (a i)) dn else NB := by
      show (if dnt (far I) (bst_ I) (bop I d) at_ now (a i) ≤ bcl I d (a i) then Db (far I) (bst_ I) (bop I d) (bcl I d) a r (i + 1) (bst_ I (a i)) (dnt (far I) (bst_ I) (bop I d) at_ now (a i)) else NB) = _
      rw [edn]
    rw [eD]
    by_cases z : dn ≤ bcl I d (a i)
    · rw [if_pos z, if_pos z]
      exact m_doneBy fu g hK hn ha hr r (i + 1) (bst_ I (a i)) dn m (by omega) hst hdn (by omega)
    · rw [if_neg z, if_neg z]
      exact ⟨rfl, Or.inl rfl⟩
