/-! night: last and first buses -/
def pk (I : II) (l s : Nat) : Nat := fpr (lS I l) s (lZ I l) 0
def lsb (I : II) (l k : Nat) : Nat := lF I l + (nb I l - 1) * lE I l + lO I l k
def fsb (I : II) (l k : Nat) : Nat := lF I l + lO I l k
def frm (I : II) (d : Int32) (s : Nat) : Nat → Nat
  | 0 => 0
  | l + 1 => if gn I l d ≠ 0 ∧ pk I l s < lZ I l then max (frm I d s l) (lsb I l (pk I l s)) else frm I d s l
def til (I : II) (d : Int32) (s : Nat) : Nat → Nat
  | 0 => NB
  | l + 1 => if gn I l d ≠ 0 ∧ pk I l s < lZ I l then min (til I d s l) (fsb I l (pk I l s)) else til I d s l
theorem pk_at (I : II) (l s : Nat) : pk I l s ≤ lZ I l ∧ (∀ q, q < pk I l s → lS I l q ≠ s) ∧ (pk I l s < lZ I l → lS I l (pk I l s) = s) := by
  obtain ⟨h1, h2, h3, h4⟩ := fpr_at (lS I l) s (lZ I l) 0
  exact ⟨by unfold pk; omega, fun q hq => h3 q (Nat.zero_le _) hq, fun h => h4 (by unfold pk at h; omega)⟩
theorem nb_pos (I : II) (l : Nat) : 0 < nb I l := by
  unfold nb
  exact Nat.succ_pos _
theorem lsb_le {I : II} {l k : Nat} (r : RLn I l) (hk : k < lZ I l) : lsb I l k ≤ 1649 := by
  have h0 := nb_pos I l
  have h1 := (bus_in (b := nb I l - 1) r).mpr (by omega)
  have h2 := r.bds.2.2.2.2.1
  have h3 := lO_le r hk
  unfold lsb
  omega
theorem fsb_le {I : II} {l k : Nat} (r : RLn I l) (hk : k < lZ I l) : fsb I l k ≤ 1649 := by
  have h2 := r.bds.2.2.2.2.1
  have h4 := r.bds.2.2.2.1
  have h3 := lO_le r hk
  unfold fsb
  omega
theorem frm_le {D : Dn} {I : II} (g : Inv D I) (d : Int32) (s : Nat) : ∀ n, n ≤ nL I → frm I d s n ≤ 1649 ∧ (til I d s n = NB ∨ til I d s n ≤ 1649)
  | 0, _ => ⟨Nat.zero_le _, Or.inl rfl⟩
  | n + 1, hn => by
    obtain ⟨h1, h2⟩ := frm_le g d s n (by omega)
    have r := (g.2.2.1.2.1 n (by omega)).1
    unfold frm til
    by_cases q : gn I n d ≠ 0 ∧ pk I n s < lZ I n
    · have h3 := lsb_le r q.2
      have h4 := fsb_le r q.2
      rw [if_pos q, if_pos q]
      refine ⟨by omega, Or.inr (by omega)⟩
    · rw [if_neg q, if_neg q]; exact ⟨h1, h2⟩
theorem place_pk (fu : Nat) (hfu : 100 < fu) {D : Dn} {I J : II} (g : Inv D I) (hK : Keep I J) {l : Nat} (hl : l < nL I) {s : Nat} (hs : s < 16) : f_X1_placeOf fu (mkS D) J (la D l) (nI s) = some (if pk I l s < lZ I l then nI (pk I l s) else -9) := by
  obtain ⟨t1, t2, t3, t4, t5, t6, t7, t8⟩ := keep_line hK l
  obtain ⟨r, x⟩ := (g.keep hK).2.2.1.2.1 l (by rw [(keep_net hK).2.1]; exact hl)
  obtain ⟨p1, p2, p3⟩ := pk_at I l s
  rcases place_of fu hfu r x hs with ⟨h1, h2⟩ | ⟨k, h1, h2, h3, h4⟩
  · rw [h1, if_neg]
    intro z
    have := h2 (pk I l s) (by rw [t3]; exact z)
    rw [t1] at this
    exact this (p3 z)
  · rw [t3] at h1 h4
    rw [t1] at h3
    have hle : pk I l s ≤ k := by
      rcases (by omega : pk I l s ≤ k ∨ k < pk I l s) with z | z
      · exact z
      · exact absurd h3 (p2 k z)
    have e : pk I l s = k := by
      by_cases z : pk I l s = k
      · exact z
      · have := h4 (pk I l s) (by omega) z
        rw [t1] at this
        exact absurd (p3 (by omega)) this
    rw [h2, if_pos (by omega), e]
theorem x_lastBus (fu : Nat) (hfu : 100 < fu) {D : Dn} {I J : II} (g : Inv D I) (hK : Keep I J) {s : Nat} (hs : s < 16) (d : Int32) : Rf_X2_lastBus fu (mkS D) J (nI s) d = some (nI (frm I d s (nL I))) ∧ Rf_X2_firstBus fu (mkS D) J (nI s) d = some (nI (til I d s (nL I))) := by
  have hnL : nL I ≤ 14 := g.2.2.1.1.1.2
  have eL : J 1 5 = nI (nL I) := by rw [hK 1 5 (by unfold scr; omega)]; exact g.2.2.1.1.2.trans g.2.2.1.1.1.1
  have hcm : ∀ l, l < nL I → ∃ (rr : RLn J l) (xx : XLn D J l), RLn I l ∧ lZ I l ≤ 8 ∧ nx (nI l) = l ∧ (mkS D).1 5 l = D.1 5 l ∧ D.1 5 l ≠ 0 ∧ D.1 5 l - 1 = la D l ∧ t_X1_goesOn J (la D l) d = gn I l d ∧ f_X1_placeOf fu (mkS D) J (la D l) (nI s) = some (if pk I l s < lZ I l then nI (pk I l s) else -9) := fun l hl => by
    obtain ⟨rr, xx⟩ := (g.keep hK).2.2.1.2.1 l (by rw [(keep_net hK).2.1]; exact hl)
    have rI := (g.2.2.1.2.1 l hl).1
    exact ⟨rr, xx, rI, rI.bds.2.2.1, nx_nI (by omega), rfl, xx.at.1, xx.at.2.1, (x_goes xx d).trans ((ks_net hK.ks).2.2.2.2.2.2.1 l d), place_pk fu hfu g hK hl hs⟩
  have n9 : ∀ k, k < 8 → ¬ nI k = (-9 : Int32) := fun k hk z => nI_nn (k := k) (by omega) (by rw [z]; decide)
  constructor
  · unfold Rf_X2_lastBus
    refine fix2_run (F := Rl_X2_lastBus_5 fu (mkS D) J (nI s) d) (fun l => nI (frm I d s l)) (fun l => nI l) (nL I) (fun l hl self => ?_) (fun self => ?_) fu (by omega)
    · obtain ⟨rr, xx, rI, hz8, kl, e5, a1, a2, ego, epl⟩ := hcm l hl
      obtain ⟨t1, t2, t3, t4, t5, t6, t7, t8⟩ := keep_line hK l
      have hfl := (frm_le g d s l (by omega)).1
      have e : frm I d s (l + 1) = if gn I l d ≠ 0 ∧ pk I l s < lZ I l then max (frm I d s l) (lsb I l (pk I l s)) else frm I d s l := rfl
      unfold Rl_X2_lastBus_5 Rj_X2_lastBus_65
      rw [eL, if_neg (by rw [nI_le_iff (by omega) (by omega)]; omega), gd_pos ⟨by decide, nI_nn (by omega), by rw [kl]; omega⟩, kl, e5, gd_pos a1, a2, epl, Option.bind_some, ego, nI_p1, e]
      by_cases q : pk I l s < lZ I l
      · rw [if_pos q, if_neg (n9 _ (by omega))]
        by_cases z : gn I l d = 0
        · rw [if_pos z, if_neg (fun y => y.1 z)]
        · have hlast : f_X1_lastBusAt fu (mkS D) J (la D l) (nI (pk I l s)) = some (nI (lsb I l (pk I l s))) := by
            have a6 := x_after D xx
            have kp := nx_nI (k := pk I l s) (by omega)
            have hnb : 1 ≤ nb I l := nb_pos I l
            have c2 : J (la D l) 2 = nI (lF I l) := by rw [xx.2.2.1.2.2.1, ← t4]; exact rr.nums.2.2.1
            have c3 : J (la D l) 3 = nI (lE I l) := by rw [xx.2.2.1.2.2.2.1, ← t5]; exact rr.nums.2.2.2.1
            have ca : rd J (la D l + 3) (nI (pk I l s)) = nI (lO I l (pk I l s)) := by
              unfold rd
              rw [kp, show la D l + 3 - 1 = la D l + 2 from rfl, (xx.2.2.2 _ (by rw [t3]; exact q)).2.1, ← t2]
              exact (rr.2.1 _ (by rw [t3]; exact q)).2.2.1.1
            unfold f_X1_lastBusAt
            rw [x_buses fu rr xx, Option.bind_some, t7, a6.1, gd_pos ⟨by omega, nI_nn (by omega), by rw [kp, a6.2.1]; omega⟩, c2, c3, ca, show nI (nb I l) - 1 = nI (nb I l - 1) from nI_sub (b := 1) hnb, nI_mul, nI_add, nI_add]
            rfl
          have hlb := lsb_le rI q
          have c : gn I l d ≠ 0 ∧ pk I l s < lZ I l := ⟨z, q⟩
          rw [if_neg z, if_pos c, hlast, Option.bind_some]
          simp only [lt]
          rw [jmax_nI (by omega) (by omega)]
      · have c : ¬ (gn I l d ≠ 0 ∧ pk I l s < lZ I l) := fun y => q y.2
        rw [if_neg q, if_pos rfl, if_neg c]
    · unfold Rl_X2_lastBus_5
      rw [eL, if_pos (Int32.le_refl _)]
  · unfold Rf_X2_firstBus
    refine fix2_run (F := Rl_X2_firstBus_6 fu (mkS D) J (nI s) d) (fun l => nI (til I d s l)) (fun l => nI l) (nL I) (fun l hl self => ?_) (fun self => ?_) fu (by omega)
    · obtain ⟨rr, xx, rI, hz8, kl, e5, a1, a2, ego, epl⟩ := hcm l hl
      obtain ⟨t1, t2, t3, t4, t5, t6, t7, t8⟩ := keep_line hK l
      have htl := (frm_le g d s l (by omega)).2
      have e : til I d s (l + 1) = if gn I l d ≠ 0 ∧ pk I l s < lZ I l then min (til I d s l) (fsb I l (pk I l s)) else til I d s l := rfl
      unfold Rl_X2_firstBus_6 Rj_X2_firstBus_78
      rw [eL, if_neg (by rw [nI_le_iff (by omega) (by omega)]; omega), gd_pos ⟨by decide, nI_nn (by omega), by rw [kl]; omega⟩, kl, e5, gd_pos a1, a2, epl, Option.bind_some, ego, nI_p1, e]
      by_cases q : pk I l s < lZ I l
      · rw [if_pos q, if_neg (n9 _ (by omega))]
        by_cases z : gn I l d = 0
        · rw [if_pos z, if_neg (fun y => y.1 z)]
        · have a6 := x_after D xx
          have kp := nx_nI (k := pk I l s) (by omega)
          have c2 : J (la D l) 2 = nI (lF I l) := by rw [xx.2.2.1.2.2.1, ← t4]; exact rr.nums.2.2.1
          have ca : rd J (la D l + 3) (nI (pk I l s)) = nI (lO I l (pk I l s)) := by
            unfold rd
            rw [kp, show la D l + 3 - 1 = la D l + 2 from rfl, (xx.2.2.2 _ (by rw [t3]; exact q)).2.1, ← t2]
            exact (rr.2.1 _ (by rw [t3]; exact q)).2.2.1.1
          have hfb := fsb_le rI q
          have ef : lF I l + lO I l (pk I l s) = fsb I l (pk I l s) := rfl
          have c : gn I l d ≠ 0 ∧ pk I l s < lZ I l := ⟨z, q⟩
          rw [if_neg z, if_pos c, a6.1, gd_pos ⟨by omega, nI_nn (by omega), by rw [kp, a6.2.1]; omega⟩, c2, ca, nI_add, ef]
          simp only [lt]
          rw [jmin_nI (by simp only [NB] at *; omega) (by omega)]
      · have c : ¬ (gn I l d ≠ 0 ∧ pk I l s < lZ I l) := fun y => q y.2
        rw [if_neg q, if_pos rfl, if_neg c]
    · unfold Rl_X2_firstBus_6
      rw [eL, if_pos (Int32.le_refl _)]
