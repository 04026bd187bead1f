/-! night: the reference's boards -/
def tiM (t : Nat) : Nat := if t = NB then MM else 1440 + t
theorem tiM_min {t v : Nat} (ht : t = NB ∨ t ≤ 1649) (hv : v ≤ 1649) : min (tiM t) (1440 + v) = tiM (min t v) := by
  unfold tiM
  rcases ht with z | z
  · rw [if_pos z, if_neg (by simp only [NB] at *; omega)]
    simp only [NB, MM] at *
    omega
  · rw [if_neg (by simp only [NB]; omega), if_neg (by simp only [NB]; omega)]
    omega
theorem tiM_le {t : Nat} (ht : t = NB ∨ t ≤ 1649) : tiM t ≤ MM := by
  unfold tiM
  split
  · exact Nat.le_refl _
  · simp only [MM]; omega
theorem m_lineB (fu : Nat) (hfu : 100 < fu) {D : Dn} {I J : II} (g : Inv D I) (hK : Keep I J) {l s c : Nat} (hl : l < nL I) (hs : s < 16) (hc : c < 6) {d : Int32} (e71 : J 71 c = nI (frm I d s l)) (e72 : J 72 c = nI (tiM (til I (d + 1) s l))) :
    ∃ J', (∀ s4 s48, fix2 (Rl_X11_layBoards_60 fu (mkS D) s4 s48 d (nI c) (nI s) (nI l)) fu 0 J = s48 (nI (l + 1)) J') ∧ Keep I J' ∧ (∀ b, b ≠ 71 → b ≠ 72 → J' b = J b) ∧ (∀ b j, j ≠ c → J' b j = J b j) ∧ J' 71 c = nI (frm I d s (l + 1)) ∧ J' 72 c = nI (tiM (til I (d + 1) s (l + 1))) := by
  have r := (g.2.2.1.2.1 l hl).1
  have hz8 := r.bds.2.2.1
  have hnL : nL I ≤ 14 := g.2.2.1.1.1.2
  obtain ⟨p1, p2, p3⟩ := pk_at I l s
  have hf := (frm_le g d s l (by omega)).1
  have ht := (frm_le g (d + 1) s l (by omega)).2
  have kl := nx_nI (k := l) (by omega)
  have kc := nx_nI (k := c) (by omega)
  let P : Nat → II → Prop := fun k J' => Keep I J' ∧ (∀ b, b ≠ 71 → b ≠ 72 → J' b = J b) ∧ (∀ b j, j ≠ c → J' b j = J b j) ∧ J' 71 c = nI (if pk I l s < k then frm I d s (l + 1) else frm I d s l) ∧ J' 72 c = nI (tiM (if pk I l s < k then til I (d + 1) s (l + 1) else til I (d + 1) s l))
  have main := fix2_ex (K := (Int32 → Int32 → II → Option II) × (Int32 → II → Option II)) (F := fun κ => Rl_X11_layBoards_60 fu (mkS D) κ.1 κ.2 d (nI c) (nI s) (nI l)) (fun i => nI i) P (fun κ J' => κ.2 (nI (l + 1)) J') (lZ I l) (fun k J' hk hP => ?_) (fun J' hP κ self => ?_) (lZ I l) 0 J (by omega) ⟨hK, fun _ _ _ => rfl, fun _ _ _ => rfl, by rw [if_neg (Nat.not_lt_zero _)]; exact e71, by rw [if_neg (Nat.not_lt_zero _)]; exact e72⟩ fu (by omega)
  · obtain ⟨J', ⟨q1, q2, q3, q4, q5⟩, hrun⟩ := main
    refine ⟨J', fun s4 s48 => hrun (s4, s48), q1, q2, q3, ?_, ?_⟩
    · rw [q4]
      by_cases z : pk I l s < lZ I l
      · rw [if_pos z]
      · have e : frm I d s (l + 1) = frm I d s l := if_neg (fun y => z y.2)
        rw [if_neg z, e]
    · rw [q5]
      by_cases z : pk I l s < lZ I l
      · rw [if_pos z]
      · have e : til I (d + 1) s (l + 1) = til I (d + 1) s l := if_neg (fun y => z y.2)
        rw [if_neg z, e]
  · obtain ⟨q1, q2, q3, q4, q5⟩ := hP
    obtain ⟨t1, t2, t3, t4, t5, t6, t7, t8⟩ := keep_line q1 l
    obtain ⟨rr, xx⟩ := (g.keep q1).2.2.1.2.1 l (by rw [(keep_net q1).2.1]; exact hl)
    have e42 : rdN J' 42 (nI l) = nI (lZ I l) := by unfold rdN; rw [kl, ← t3]; exact rr.nums.2.1
    have kk := nx_nI (k := 8 * l + k) (by omega)
    have e43 : rdN J' 43 (nI (8 * l + k)) = nI (lS I l k) := by unfold rdN; rw [kk, ← t1]; exact (rr.2.1 k (by rw [t3]; exact hk)).1.1
    have hS1 := (r.2.1 k hk).1.2
    have hSk : lS I l k ≤ 15 := hS1
    have in14 : ∀ a : Nat, a ≠ 0 → inbL a 14 (nI l) := fun a ha => ⟨ha, nI_nn (by omega), by rw [kl]; omega⟩
    have in112 : ∀ a : Nat, a ≠ 0 → inbL a 112 (nI (8 * l + k)) := fun a ha => ⟨ha, nI_nn (by omega), by rw [kk]; omega⟩
    have in6 : ∀ a : Nat, a ≠ 0 → inbL a 6 (nI c) := fun a ha => ⟨ha, nI_nn (by omega), by rw [kc]; exact hc⟩
    have hc0 : ¬ nI (lZ I l) ≤ nI k := by rw [nI_le_iff (by omega) (by omega)]; omega
    by_cases q : lS I l k = s
    · have ep : pk I l s = k := by
        rcases (by omega : pk I l s < k ∨ pk I l s = k ∨ k < pk I l s) with z | z | z
        · have h1 := p3 (by omega)
          exact absurd (h1.trans q.symm) (r.2.2 (pk I l s) k z hk).1
        · exact z
        · exact absurd q (p2 k z)
      rw [if_neg (by omega)] at q4 q5
      have e45 : rdN J' 45 (nI l) = nI (lF I l) := by unfold rdN; rw [kl, ← t4]; exact rr.nums.2.2.1
      have e46 : rdN J' 46 (nI l) = nI (lE I l) := by unfold rdN; rw [kl, ← t5]; exact rr.nums.2.2.2.1
      have e44 : rdN J' 44 (nI (8 * l + k)) = nI (lO I l k) := by unfold rdN; rw [kk, ← t2]; exact (rr.2.1 k (by rw [t3]; exact hk)).2.2.1.1
      have egn : ∀ (J2 : II) (h2 : Keep I J2) (dd : Int32), Rf_X11_doesRun fu (mkS D) J2 (nI l) dd = some (gn I l dd) := fun J2 h2 dd => by
        have x2 := ((g.keep h2).2.2.1.2.1 l (by rw [(keep_net h2).2.1]; exact hl)).2
        rw [m_runs fu (by omega) x2, (ks_net h2.ks).2.2.2.2.2.2.1]
      have hlast : nI (lF I l) + (nI (nb I l) - 1) * nI (lE I l) + nI (lO I l k) = nI (lsb I l k) := by
        rw [show nI (nb I l) - 1 = nI (nb I l - 1) from nI_sub (b := 1) (nb_pos I l), nI_mul, nI_add, nI_add]
        rfl
      have hfirst : (1440 : Int32) + nI (lF I l) + nI (lO I l k) = nI (1440 + fsb I l k) := by
        rw [show (1440 : Int32) = nI 1440 from rfl, nI_add, nI_add]
        congr 1
        unfold fsb
        omega
      have hlb := lsb_le r hk
      have hfb := fsb_le r hk
      have r71 : rdN J' 71 (nI c) = nI (frm I d s l) := by unfold rdN; rw [kc]; exact q4
      have hF1 : frm I d s (l + 1) = if gn I l d = 0 then frm I d s l else max (frm I d s l) (lsb I l k) := by
        show (if gn I l d ≠ 0 ∧ pk I l s < lZ I l then max (frm I d s l) (lsb I l (pk I l s)) else frm I d s l) = _
        rw [ep]
        by_cases z : gn I l d = 0
        · rw [if_pos z, if_neg (fun y => y.1 z)]
        · rw [if_neg z, if_pos ⟨z, hk⟩]
      have hT1 : til I (d + 1) s (l + 1) = if gn I l (d + 1) = 0 then til I (d + 1) s l else min (til I (d + 1) s l) (fsb I l k) := by
        show (if gn I l (d + 1) ≠ 0 ∧ pk I l s < lZ I l then min (til I (d + 1) s l) (fsb I l (pk I l s)) else til I (d + 1) s l) = _
        rw [ep]
        by_cases z : gn I l (d + 1) = 0
        · rw [if_pos z, if_neg (fun y => y.1 z)]
        · rw [if_neg z, if_pos ⟨z, hk⟩]
      have hti := tiM_le ht
      obtain ⟨J2, eJ2⟩ : ∃ J2 : II, upI (upI J' 71 c (nI (frm I d s (l + 1)))) 72 c (nI (tiM (til I (d + 1) s (l + 1)))) = J2 := ⟨_, rfl⟩
      have kA : Keep I (upI J' 71 c (nI (frm I d s (l + 1)))) := q1.tr (fun a j z => by rw [upI_row (fun e => z (by unfold scr; omega))])
      have h191 : ∀ s4 s48 s60, Rj_X11_layBoards_191 fu (mkS D) J' s4 s48 s60 d (nI c) (nI s) (nI l) (nI k) (nI (1440 + fsb I l k)) 72 (nI c) (nI (frm I d s (l + 1))) = s60 (nI (k + 1)) J2 := by
        intro s4 s48 s60
        have r72 : rdN (upI J' 71 c (nI (frm I d s (l + 1)))) 72 (nI c) = nI (tiM (til I (d + 1) s l)) := by unfold rdN; rw [kc, upI_row (by decide)]; exact q5
        have hinA : inb (mkS D) 72 (nI c) := ⟨by decide, nI_nn (by omega), by rw [kc]; show c < 6; exact hc⟩
        have hinB : inb (mkS D) 73 (nI c) := ⟨by decide, nI_nn (by omega), by rw [kc]; show c < 6; exact hc⟩
        unfold Rj_X11_layBoards_191 Rj_X11_layBoards_229 Rj_X11_layBoards_230
        have wA : ∀ v, wr J' 72 (nI c) v = upI J' 71 c v := fun v => by unfold wr; rw [kc]
        have wB : ∀ (I4 : II) v, wr I4 73 (nI c) v = upI I4 72 c v := fun I4 v => by unfold wr; rw [kc]
        rw [gd_pos hinA]
        simp only [lt, wA, wB]
        rw [egn _ kA, Option.bind_some, gd_pos (in6 _ (by decide)), gd_pos (in6 _ (by decide)), gd_pos hinB, gd_pos hinB, r72, nI_p1, ← eJ2, hT1]
        by_cases z : gn I l (d + 1) = 0
        · rw [if_pos z, if_pos z]
        · rw [if_neg z, if_neg z, les_nI (by simp only [MM] at *; omega) (by omega), tiM_min ht hfb]
      refine ⟨J2, ⟨?_, fun b b1 b2 => by rw [← eJ2, upI_row b2, upI_row b1]; exact q2 b b1 b2, fun b j hj => ?_, ?_, ?_⟩, fun κ self => ?_⟩
      · rw [← eJ2]
        exact kA.tr (fun a j z => by rw [upI_row (fun e => z (by unfold scr; omega))])
      · rw [← eJ2]
        unfold upI
        rw [if_neg (fun z => hj z.2), if_neg (fun z => hj z.2)]
        exact q3 b j hj
      · rw [← eJ2, upI_row (by decide), upI_at, if_pos (by omega)]
      · rw [← eJ2, upI_at, if_pos (by omega)]
      · show Rl_X11_layBoards_60 fu (mkS D) κ.1 κ.2 d (nI c) (nI s) (nI l) self (nI k) J' = _
        unfold Rl_X11_layBoards_60
        rw [gd_pos (in14 _ (by decide)), e42, if_neg hc0, ix8, gd_pos (in112 _ (by decide)), e43, if_pos (by rw [q]), gd_pos (in14 _ (by decide)), m_buses fu (by omega) rr, Option.bind_some, gd_pos (in14 _ (by decide)), gd_pos (in112 _ (by decide)), e45, e46, e44, t7, hlast, hfirst]
        simp only [lt]
        rw [egn J' q1, Option.bind_some, gd_pos (in6 _ (by decide)), gd_pos (in6 _ (by decide)), r71]
        have h191' := h191 κ.1 κ.2 self
        rw [hF1] at h191'
        by_cases z : gn I l d = 0
        · rw [if_pos z] at h191' ⊢
          exact h191'
        · rw [if_neg z] at h191' ⊢
          rw [gre_nI (by omega) (by omega)]
          exact h191'
    · have hne : pk I l s ≠ k := fun z => q (by rw [← z]; exact p3 (by omega))
      refine ⟨J', ⟨q1, q2, q3, ?_, ?_⟩, fun κ self => ?_⟩
      · rw [q4]
        by_cases z : pk I l s < k
        · rw [if_pos z, if_pos (by omega)]
        · rw [if_neg z, if_neg (by omega)]
      · rw [q5]
        by_cases z : pk I l s < k
        · rw [if_pos z, if_pos (by omega)]
        · rw [if_neg z, if_neg (by omega)]
      · show Rl_X11_layBoards_60 fu (mkS D) κ.1 κ.2 d (nI c) (nI s) (nI l) self (nI k) J' = _
        unfold Rl_X11_layBoards_60 Rj_X11_layBoards_230
        rw [gd_pos (in14 _ (by decide)), e42, if_neg hc0, ix8, gd_pos (in112 _ (by decide)), e43, if_neg (by rw [nI_eq_iff (by omega) (by omega)]; exact q), nI_p1]
  · obtain ⟨q1, q2, q3, q4, q5⟩ := hP
    obtain ⟨t1, t2, t3, t4, t5, t6, t7, t8⟩ := keep_line q1 l
    obtain ⟨rr, xx⟩ := (g.keep q1).2.2.1.2.1 l (by rw [(keep_net q1).2.1]; exact hl)
    have e42 : rdN J' 42 (nI l) = nI (lZ I l) := by unfold rdN; rw [kl, ← t3]; exact rr.nums.2.1
    show Rl_X11_layBoards_60 fu (mkS D) κ.1 κ.2 d (nI c) (nI s) (nI l) self (nI (lZ I l)) J' = _
    unfold Rl_X11_layBoards_60
    rw [gd_pos ⟨by decide, nI_nn (by omega), by rw [kl]; omega⟩, e42, if_pos (Int32.le_refl _), nI_p1]
