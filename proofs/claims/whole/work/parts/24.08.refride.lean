/-! the reference's tables: rideFrom -/
def UmR (I : II) (w l k v j u : Nat) : Prop := v < MM ∧ bidx I l k v < nb I l ∧ ∃ m, k < m ∧ m < lZ I l ∧ j = 16 * w + lS I l m ∧ u = lF I l + bidx I l k v * lE I l + lO I l m
theorem m_minJ (fu : Nat) {D : Dn} {I J : II} (g : Inv D I) (h : Keep I J) {l k m : Nat} (hl : l < nL I) (hk : k < lZ I l) (hm : m < 1000000) : Rf_X11_minuteAt fu (mkS D) J (nI l) (nI k) (nI m) = some (if bidx I l k m < nb I l then nI (lF I l + bidx I l k m * lE I l + lO I l k) else 1000000) := by
  obtain ⟨e1, e2, e3⟩ := keep_net h
  obtain ⟨t1, t2, t3, t4, t5, t6, t7, t8⟩ := keep_line h l
  have hnL : nL I ≤ 14 := g.2.2.1.1.1.2
  have r := ((g.keep h).2.2.1.2.1 l (by rw [e2]; exact hl)).1
  rw [m_minAt fu (by omega) r (by rw [t3]; exact hk) hm, t2, t4, t5, t7, t8]
theorem m_rideK (fu : Nat) (hfu : 100 < fu) {D : Dn} {I J : II} (g : Inv D I) (hK : Keep I J) {l k w b : Nat} (hl : l < nL I) (hk : k < lZ I l) (hw : w ≤ 30) (hb : b ≤ 1439) (h62 : Row 496 MM J 62) (x1 x2 : Int32) :
    ∃ J', Rl1 496 MM 62 (fun j u => ∃ m, k < m ∧ m < lZ I l ∧ j = 16 * w + lS I l m ∧ u = b + lO I l m) J J' ∧ ∀ s25 s36 s56, Rj_X11_rideFrom_115 fu (mkS D) J s25 s36 s56 x1 x2 (nI l) (nI w) (nI k) (nI (b + lO I l k)) = s56 (nI (k + 1)) J' := by
  have r := (g.2.2.1.2.1 l hl).1
  have hz8 := r.bds.2.2.1
  have hnL : nL I ≤ 14 := g.2.2.1.1.1.2
  have hnS : nS I ≤ 16 := g.2.1.1.1.2
  have hok := lO_le r hk
  have kl := nx_nI (k := l) (by omega)
  have fr : ∀ J' : II, (∀ b, b ≠ 62 → J' b = J b) → Keep I J' := fun J' h => hK.tr (fun a j z => by rw [h a (fun e => z (by unfold scr; omega))])
  have main := fix2_ex (K := (Int32 → II → Option II) × (Int32 → II → Option II) × (Int32 → II → Option II)) (F := fun κ => Rl_X11_rideFrom_123 fu (mkS D) κ.1 κ.2.1 κ.2.2 x1 x2 (nI l) (nI w) (nI k) (nI (b + lO I l k))) (fun i => nI i) (fun i J' => k < i ∧ Rl1 496 MM 62 (fun j u => ∃ m, k < m ∧ m < i ∧ j = 16 * w + lS I l m ∧ u = b + lO I l m) J J') (fun κ J' => κ.2.2 (nI (k + 1)) J') (lZ I l) (fun m J' hm hP => ?_) (fun J' hP κ self => ?_) (lZ I l - (k + 1)) (k + 1) J (by omega) ⟨by omega, Rl1.rf h62 (fun j u ⟨m, z1, z2, _⟩ => by omega)⟩ fu (by omega)
  · obtain ⟨J', ⟨-, p⟩, hrun⟩ := main
    refine ⟨J', p, fun s25 s36 s56 => ?_⟩
    unfold Rj_X11_rideFrom_115
    simp only [lt]
    rw [nI_p1]
    exact hrun (s25, s36, s56)
  · obtain ⟨q, hP⟩ := hP
    have kJ := fr J' hP.1
    obtain ⟨t1, t2, t3, t4, t5, t6, t7, t8⟩ := keep_line kJ l
    have r' := ((g.keep kJ).2.2.1.2.1 l (by rw [(keep_net kJ).2.1]; exact hl)).1
    have e42 : rdN J' 42 (nI l) = nI (lZ I l) := by unfold rdN; rw [kl, ← t3]; exact r'.nums.2.1
    have km := nx_nI (k := 8 * l + m) (by omega)
    have kk := nx_nI (k := 8 * l + k) (by omega)
    have e43 : rdN J' 43 (nI (8 * l + m)) = nI (lS I l m) := by unfold rdN; rw [km, ← t1]; exact (r'.2.1 m (by rw [t3]; exact hm)).1.1
    have e44 : ∀ n, n < lZ I l → rdN J' 44 (nI (8 * l + n)) = nI (lO I l n) := fun n hn => by unfold rdN; rw [nx_nI (by omega), ← t2]; exact (r'.2.1 n (by rw [t3]; exact hn)).2.2.1.1
    have hS1 := (r.2.1 m hm).2.1
    have hom := lO_le r hm
    have hj : 16 * w + lS I l m < 496 := by omega
    have kj := nx_nI (k := 16 * w + lS I l m) (by omega)
    have in112 : ∀ (a n : Nat), a ≠ 0 → n < lZ I l → inbL a 112 (nI (8 * l + n)) := fun a n ha hn => ⟨ha, nI_nn (by omega), by rw [nx_nI (by omega)]; omega⟩
    have hrr := hP.2.1 _ hj
    have hval : t_X11_lesser (rdN J' 62 (nI (16 * w + lS I l m))) (nI (b + lO I l k) + nI (lO I l m) - nI (lO I l k)) = nI (min (rw_ J' 62 (16 * w + lS I l m)) (b + lO I l m)) := by
      unfold rdN
      rw [kj, hrr.1, nI_add, nI_sub (by omega), show b + lO I l k + lO I l m - lO I l k = b + lO I l m by omega]
      have := hrr.2
      exact les_nI (by simp only [MM] at *; omega) (by omega)
    refine ⟨upI J' 62 (16 * w + lS I l m) (nI (min (rw_ J' 62 (16 * w + lS I l m)) (b + lO I l m))), ⟨by omega, hP.tr (Rl1.one hP.2.1 (by decide) (v := b + lO I l m) hj (fun j u => j = 16 * w + lS I l m ∧ u = b + lO I l m) ⟨rfl, rfl⟩ (fun j u _ ⟨z1, z2⟩ => ⟨z1, by omega⟩) rfl) (fun j u => ?_)⟩, fun κ self => ?_⟩
    · constructor
      · rintro ⟨m', z1, z2, z3, z4⟩
        by_cases e : m' = m
        · subst e; exact Or.inr ⟨z3, z4⟩
        · exact Or.inl ⟨m', z1, by omega, z3, z4⟩
      · rintro (⟨m', z1, z2, z3⟩ | ⟨z1, z2⟩)
        · exact ⟨m', z1, by omega, z3⟩
        · exact ⟨m, q, by omega, z1, z2⟩
    · show Rl_X11_rideFrom_123 fu (mkS D) κ.1 κ.2.1 κ.2.2 x1 x2 (nI l) (nI w) (nI k) (nI (b + lO I l k)) self (nI m) J' = _
      unfold Rl_X11_rideFrom_123
      rw [gd_pos ⟨by decide, nI_nn (by omega), by rw [kl]; omega⟩, e42, if_neg (by rw [nI_le_iff (by omega) (by omega)]; omega), if_neg (by rw [show (1000000 : Int32) = nI 1000000 from rfl, nI_le_iff (by decide) (by omega)]; omega), ix8, ix8, gd_pos (in112 _ m (by decide) hm), e43, ix16r]
      simp only [lt]
      rw [gd_pos ⟨by decide, nI_nn (by omega), by rw [kj]; exact hj⟩, gd_pos (in112 _ m (by decide) hm), gd_pos (in112 _ k (by decide) hk), e44 m hm, e44 k hk, hval, nI_p1]
      unfold wrN
      rw [kj]
  · obtain ⟨q, hP⟩ := hP
    have kJ := fr J' hP.1
    obtain ⟨t1, t2, t3, t4, t5, t6, t7, t8⟩ := keep_line kJ l
    have r' := ((g.keep kJ).2.2.1.2.1 l (by rw [(keep_net kJ).2.1]; exact hl)).1
    have e42 : rdN J' 42 (nI l) = nI (lZ I l) := by unfold rdN; rw [kl, ← t3]; exact r'.nums.2.1
    show Rl_X11_rideFrom_123 fu (mkS D) κ.1 κ.2.1 κ.2.2 x1 x2 (nI l) (nI w) (nI k) (nI (b + lO I l k)) self (nI (lZ I l)) J' = _
    unfold Rl_X11_rideFrom_123 Rj_X11_rideFrom_212
    rw [gd_pos ⟨by decide, nI_nn (by omega), by rw [kl]; omega⟩, e42, if_pos (Int32.le_refl _), nI_p1]
theorem m_rideFrom (fu : Nat) (hfu : 600 < fu) {D : Dn} {I J : II} (g : Inv D I) (hK : Keep I J) {r most mask : Nat} (hr : r ≤ 3) (hm : most ≤ 30) (hmask : mask < 2147483648) (e28 : J 38 28 = nI mask) (h61 : Row 1984 MM J 61) (hB : ∀ s w, s < nS I → w ≤ most → rw_ J 61 (496 * r + 16 * w + s) = MM ∨ rw_ J 61 (496 * r + 16 * w + s) ≤ 1800) :
    ∃ J', Rf_X11_rideFrom fu (mkS D) J (nI r) (nI most) = some J' ∧ (∀ b, b ≠ 62 → J' b = J b) ∧ Row 496 MM J' 62 ∧ (∀ w s s' t, w ≤ most → s < nS I → s' < nS I → rw_ J 61 (496 * r + 16 * w + s) < MM → RR I mask s (rw_ J 61 (496 * r + 16 * w + s)) s' t → rw_ J' 62 (16 * w + s') ≤ t) ∧ (∀ w s', w ≤ most → s' < nS I → rw_ J' 62 (16 * w + s') = MM ∨ ∃ s, s < nS I ∧ rw_ J 61 (496 * r + 16 * w + s) < MM ∧ RR I mask s (rw_ J 61 (496 * r + 16 * w + s)) s' (rw_ J' 62 (16 * w + s'))) := by
  have hnL : nL I ≤ 14 := g.2.2.1.1.1.2
  have hnS : nS I ≤ 16 := g.2.1.1.1.2
  have fr : ∀ J' : II, (∀ b, b ≠ 62 → J' b = J b) → Keep I J' ∧ J' 38 4 = nI (nL I) ∧ J' 38 28 = nI mask ∧ J' 61 = J 61 := fun J' h => by
    have k1 : Keep I J' := hK.tr (fun a j z => by rw [h a (fun e => z (by unfold scr; omega))])
    exact ⟨k1, by rw [k1 38 4 (by unfold scr; omega)]; exact g.2.2.1.1.1.1, by rw [h 38 (by decide)]; exact e28, h 61 (by decide)⟩
  -- the row emptied
  have fill := fix2_ex (K := Unit) (F := fun _ => Rl_X11_rideFrom_2 fu (mkS D) (nI r) (nI most)) (fun i => nI i) (fun i J' => (∀ b, b ≠ 62 → J' b = J b) ∧ ∀ j, j < i → J' 62 j = nI MM) (fun _ J' => fix2 (Rl_X11_rideFrom_25 fu (mkS D) (nI r) (nI most)) fu 0 J') 496 (fun i J' hi hP => ⟨upI J' 62 i (nI MM), ⟨fun b hb => by rw [upI_row hb]; exact hP.1 b hb, fun j hj => ?_⟩, fun _ self => ?_⟩) (fun J' hP κ self => ?_) 496 0 J (by omega) ⟨fun _ _ => rfl, fun j hj => absurd hj (Nat.not_lt_zero _)⟩ fu (by omega)
  · obtain ⟨G, ⟨g1, g2⟩, hfill⟩ := fill
    have g2' : ∀ j, j < 496 → rw_ G 62 j = MM := fun j hj => by unfold rw_; rw [g2 j hj]; rfl
    have g3 : Row 496 MM G 62 := fun j hj => by rw [g2' j hj]; exact ⟨g2 j hj, Nat.le_refl _⟩
    have main := fix2_ex (K := Unit) (F := fun _ => Rl_X11_rideFrom_25 fu (mkS D) (nI r) (nI most)) (fun i => nI i) (fun i J' => Rl1 496 MM 62 (fun j u => ∃ l, l < i ∧ mask.testBit l = true ∧ ∃ w, w ≤ most ∧ ∃ k, k < lZ I l - 1 ∧ UmR I w l k (rw_ J 61 (496 * r + 16 * w + lS I l k)) j u) G J') (fun _ J' => some J') (nL I) (fun l J' hl hP => ?_) (fun J' hP κ self => ?_) (nL I) 0 G (by omega) (Rl1.rf g3 (fun j u ⟨l, z, _⟩ => absurd z (Nat.not_lt_zero _))) fu (by omega)
    · obtain ⟨J', p, hrun⟩ := main
      refine ⟨J', (hfill ()).trans (hrun ()), fun b hb => (p.1 b hb).trans (g1 b hb), p.2.1, ?_, ?_⟩
      · rintro w s s' t hw hs hs' hlt ⟨l, k, m, b1, b2, b3, b4, b5, b6, b7, b8⟩
        refine p.2.2.2.1 (16 * w + s') t (by omega) ⟨l, b1, b2, w, hw, k, by omega, ?_⟩
        rw [b5]
        exact ⟨hlt, b7, m, b3, b4, by rw [b6], b8⟩
      · intro w s' hw hs'
        rcases p.2.2.2.2 (16 * w + s') (by omega) with e | ⟨l, b1, b2, w', b3, k, b4, b5, b6, m, b7, b8, b9, b10⟩
        · exact Or.inl (e.trans (g2' _ (by omega)))
        · right
          have rl := (g.2.2.1.2.1 l b1).1
          have hS1 := (rl.2.1 m b8).2.1
          have : lS I l m = s' ∧ w' = w := by omega
          obtain ⟨e1, rfl⟩ := this
          exact ⟨lS I l k, (rl.2.1 k (by omega)).2.1, b5, l, k, m, b1, b2, b7, b8, rfl, e1, b6, b10⟩
    · have f1 := fr J' (fun b hb => (hP.1 b hb).trans (g1 b hb))
      have rl := (g.2.2.1.2.1 l hl).1
      have hz8 := rl.bds.2.2.1
      have hz2 := rl.bds.2.1
      have kl := nx_nI (k := l) (by omega)
      have hlm : t_X11_hasBit (nI mask) (nI l) = if mask.testBit l = true then 1 else 0 := (hasBit_has _ _).trans (has_at hmask (by omega))
      have hpre : ∀ self, Rl_X11_rideFrom_25 fu (mkS D) (nI r) (nI most) self (nI l) J' = fix2 (Rl_X11_rideFrom_36 fu (mkS D) self (nI r) (nI most) (nI l)) fu 0 J' := by
        intro self
        unfold Rl_X11_rideFrom_25
        rw [f1.2.1, if_neg (by rw [nI_le_iff (by omega) (by omega)]; omega)]
      by_cases q : mask.testBit l = true
      · rw [if_pos q] at hlm
        have inner := fix2_ex (K := Int32 → II → Option II) (F := fun κ => Rl_X11_rideFrom_36 fu (mkS D) κ (nI r) (nI most) (nI l)) (fun i => nI i) (fun i J2 => Rl1 496 MM 62 (fun j u => ∃ w, w < i ∧ ∃ k, k < lZ I l - 1 ∧ UmR I w l k (rw_ J 61 (496 * r + 16 * w + lS I l k)) j u) J' J2) (fun κ J2 => κ (nI (l + 1)) J2) (most + 1) (fun w J2 hw hQ => ?_) (fun J2 hQ κ self => ?_) (most + 1) 0 J' (by omega) (Rl1.rf hP.2.1 (fun j u ⟨w, z, _⟩ => absurd z (Nat.not_lt_zero _))) fu (by omega)
        · obtain ⟨J2, q2, hrun⟩ := inner
          refine ⟨J2, hP.tr q2 (fun j u => ?_), fun _ self => (hpre self).trans (hrun self)⟩
          constructor
          · rintro ⟨l', z1, z2, w, z3, z4⟩
            by_cases e : l' = l
            · subst e; exact Or.inr ⟨w, by omega, z4⟩
            · exact Or.inl ⟨l', by omega, z2, w, z3, z4⟩
          · rintro (⟨l', z1, z2⟩ | ⟨w, z1, z2⟩)
            · exact ⟨l', by omega, z2⟩
            · exact ⟨l, by omega, q, w, by omega, z2⟩
        · have f2 := fr J2 (fun b hb => (hQ.1 b hb).trans ((hP.1 b hb).trans (g1 b hb)))
          have inner2 := fix2_ex (K := (Int32 → II → Option II) × (Int32 → II → Option II)) (F := fun κ => Rl_X11_rideFrom_56 fu (mkS D) κ.1 κ.2 (nI r) (nI most) (nI l) (nI w)) (fun i => nI i) (fun i J3 => Rl1 496 MM 62 (fun j u => ∃ k, k < i ∧ UmR I w l k (rw_ J 61 (496 * r + 16 * w + lS I l k)) j u) J2 J3) (fun κ J3 => κ.2 (nI (w + 1)) J3) (lZ I l - 1) (fun k J3 hk hT => ?_) (fun J3 hT κ self => ?_) (lZ I l - 1) 0 J2 (by omega) (Rl1.rf hQ.2.1 (fun j u ⟨w, z, _⟩ => absurd z (Nat.not_lt_zero _))) fu (by omega)
          · obtain ⟨J3, q3, hrun⟩ := inner2
            refine ⟨J3, hQ.tr q3 (fun j u => ?_), fun κ self => ?_⟩
            · constructor
              · rintro ⟨w', z1, z2⟩
                by_cases e : w' = w
                · subst e; exact Or.inr z2
                · exact Or.inl ⟨w', by omega, z2⟩
              · rintro (⟨w', z1, z2⟩ | z)
                · exact ⟨w', by omega, z2⟩
                · exact ⟨w, by omega, z⟩
            · show Rl_X11_rideFrom_36 fu (mkS D) κ (nI r) (nI most) (nI l) self (nI w) J2 = _
              unfold Rl_X11_rideFrom_36
              rw [if_neg (by rw [nI_lt_iff (by omega) (by omega)]; omega), f2.2.2.1, hlm, if_neg i1ne]
              exact hrun (κ, self)
          · have f3 := fr J3 (fun b hb => (hT.1 b hb).trans ((hQ.1 b hb).trans ((hP.1 b hb).trans (g1 b hb))))
            obtain ⟨t1, t2, t3, t4, t5, t6, t7, t8⟩ := keep_line f3.1 l
            have r' := ((g.keep f3.1).2.2.1.2.1 l (by rw [(keep_net f3.1).2.1]; exact hl)).1
            have e42 : rdN J3 42 (nI l) = nI (lZ I l) := by unfold rdN; rw [kl, ← t3]; exact r'.nums.2.1
            have kk := nx_nI (k := 8 * l + k) (by omega)
            have e43 : rdN J3 43 (nI (8 * l + k)) = nI (lS I l k) := by unfold rdN; rw [kk, ← t1]; exact (r'.2.1 k (by rw [t3]; omega)).1.1
            have hS1 := (rl.2.1 k (by omega)).2.1
            obtain ⟨v, ev⟩ : ∃ v, rw_ J 61 (496 * r + 16 * w + lS I l k) = v := ⟨_, rfl⟩
            have kv := nx_nI (k := 496 * r + 16 * w + lS I l k) (by omega)
            have e61 : rdN J3 61 (nI (496 * r + 16 * w + lS I l k)) = nI v := by
              unfold rdN
              rw [kv, f3.2.2.2, ← ev]
              exact (h61 _ (by omega)).1
            have hv := hB (lS I l k) w hS1 (by omega)
            rw [ev] at hv
            have hcM : (1000000 : Int32) ≤ nI v ↔ MM ≤ v := nI_le_iff (a := 1000000) (by decide) (by simp only [MM] at *; omega)
            have e421 : nI (lZ I l) - 1 = nI (lZ I l - 1) := nI_sub (b := 1) (by omega)
            have hp56 : ∀ κ1 κ2 self, Rl_X11_rideFrom_56 fu (mkS D) κ1 κ2 (nI r) (nI most) (nI l) (nI w) self (nI k) J3 = if MM ≤ v then Rj_X11_rideFrom_115 fu (mkS D) J3 κ1 κ2 self (nI r) (nI most) (nI l) (nI w) (nI k) (1000000 : Int32) else (Rf_X11_minuteAt fu (mkS D) J3 (nI l) (nI k) (nI v)).bind fun q28 => Rj_X11_rideFrom_115 fu (mkS D) J3 κ1 κ2 self (nI r) (nI most) (nI l) (nI w) (nI k) q28 := by
              intro κ1 κ2 self
              unfold Rl_X11_rideFrom_56
              rw [gd_pos ⟨by decide, nI_nn (by omega), by rw [kl]; omega⟩, e42, e421, if_neg (by rw [nI_le_iff (by omega) (by omega)]; omega), ix8, gd_pos ⟨by decide, nI_nn (by omega), by rw [kk]; omega⟩, e43, place_at, gd_pos ⟨by decide, nI_nn (by omega), by rw [kv]; omega⟩, e61]
              simp only [lt]
              by_cases z : MM ≤ v
              · rw [if_pos (hcM.mpr z), if_pos z]
              · rw [if_neg (fun y => z (hcM.mp y)), if_neg z]
            have stop : ∀ κ1 κ2 self, Rj_X11_rideFrom_115 fu (mkS D) J3 κ1 κ2 self (nI r) (nI most) (nI l) (nI w) (nI k) (1000000 : Int32) = self (nI (k + 1)) J3 := by
              intro κ1 κ2 self
              unfold Rj_X11_rideFrom_115
              obtain ⟨n, rfl⟩ : ∃ n, fu = n + 1 := ⟨fu - 1, by omega⟩
              simp only [lt]
              show Rl_X11_rideFrom_123 _ _ _ _ _ _ _ _ _ _ _ _ _ J3 = _
              unfold Rl_X11_rideFrom_123 Rj_X11_rideFrom_212
              rw [gd_pos ⟨by decide, nI_nn (by omega), by rw [kl]; omega⟩, if_pos (Int32.le_refl _), ite_self, nI_p1]
            have noU : (∀ j u, ¬ UmR I w l k v j u) → Rl1 496 MM 62 (fun j u => ∃ k', k' < k + 1 ∧ UmR I w l k' (rw_ J 61 (496 * r + 16 * w + lS I l k')) j u) J2 J3 := fun hno => hT.im (fun j u hj => by
              constructor
              · rintro ⟨k', z1, z2⟩; exact ⟨k', by omega, z2⟩
              · rintro ⟨k', z1, z2⟩
                by_cases e : k' = k
                · subst e; rw [ev] at z2; exact absurd z2 (hno j u)
                · exact ⟨k', by omega, z2⟩)
            rcases hv with hv | hv
            · refine ⟨J3, noU (fun j u z => by have := z.1; omega), fun κ self => ?_⟩
              show Rl_X11_rideFrom_56 fu (mkS D) κ.1 κ.2 (nI r) (nI most) (nI l) (nI w) self (nI k) J3 = _
              rw [hp56, if_pos (by omega), stop]
            · have hmi := m_minJ fu g f3.1 hl (k := k) (m := v) (by omega) (by omega)
              by_cases z : bidx I l k v < nb I l
              · rw [if_pos z] at hmi
                obtain ⟨J4, u1, u2⟩ := m_rideK fu (by omega) g f3.1 (k := k) (w := w) (b := lF I l + bidx I l k v * lE I l) hl (by omega) (by omega) (sob_le rl z) hT.2.1 (nI r) (nI most)
                refine ⟨J4, hT.tr u1 (fun j u => ?_), fun κ self => ?_⟩
                · constructor
                  · rintro ⟨k', z1, z2⟩
                    by_cases e : k' = k
                    · subst e; rw [ev] at z2; exact Or.inr z2.2.2
                    · exact Or.inl ⟨k', by omega, z2⟩
                  · rintro (⟨k', z1, z2⟩ | y)
                    · exact ⟨k', by omega, z2⟩
                    · exact ⟨k, by omega, by rw [ev]; exact ⟨by simp only [MM]; omega, z, y⟩⟩
                · show Rl_X11_rideFrom_56 fu (mkS D) κ.1 κ.2 (nI r) (nI most) (nI l) (nI w) self (nI k) J3 = _
                  rw [hp56, if_neg (by simp only [MM]; omega), hmi, Option.bind_some]
                  exact u2 _ _ _
              · rw [if_neg z] at hmi
                refine ⟨J3, noU (fun j u y => z y.2.1), fun κ self => ?_⟩
                show Rl_X11_rideFrom_56 fu (mkS D) κ.1 κ.2 (nI r) (nI most) (nI l) (nI w) self (nI k) J3 = _
                rw [hp56, if_neg (by simp only [MM]; omega), hmi, Option.bind_some, stop]
          · have f3 := fr J3 (fun b hb => (hT.1 b hb).trans ((hQ.1 b hb).trans ((hP.1 b hb).trans (g1 b hb))))
            have t3 := (keep_line f3.1 l).2.2.1
            have r' := ((g.keep f3.1).2.2.1.2.1 l (by rw [(keep_net f3.1).2.1]; exact hl)).1
            have e42 : rdN J3 42 (nI l) = nI (lZ I l) := by unfold rdN; rw [kl, ← t3]; exact r'.nums.2.1
            show Rl_X11_rideFrom_56 fu (mkS D) κ.1 κ.2 (nI r) (nI most) (nI l) (nI w) self (nI (lZ I l - 1)) J3 = _
            unfold Rl_X11_rideFrom_56
            rw [gd_pos ⟨by decide, nI_nn (by omega), by rw [kl]; omega⟩, e42, show nI (lZ I l) - 1 = nI (lZ I l - 1) from nI_sub (b := 1) (by omega), if_pos (Int32.le_refl _), nI_p1]
        · show Rl_X11_rideFrom_36 fu (mkS D) κ (nI r) (nI most) (nI l) self (nI (most + 1)) J2 = _
          unfold Rl_X11_rideFrom_36 Rj_X11_rideFrom_224
          rw [if_pos (by rw [nI_lt_iff (by omega) (by omega)]; omega), nI_p1]
      · rw [if_neg q] at hlm
        refine ⟨J', hP.im (fun j u hj => ?_), fun _ self => (hpre self).trans ?_⟩
        · constructor
          · rintro ⟨l', z1, z2⟩; exact ⟨l', by omega, z2⟩
          · rintro ⟨l', z1, z2, z3⟩
            by_cases e : l' = l
            · subst e; exact absurd z2 q
            · exact ⟨l', by omega, z2, z3⟩
        · obtain ⟨n, rfl⟩ : ∃ n, fu = n + 1 := ⟨fu - 1, by omega⟩
          show Rl_X11_rideFrom_36 _ _ _ _ _ _ _ 0 J' = _
          unfold Rl_X11_rideFrom_36 Rj_X11_rideFrom_224
          rw [f1.2.2.1, hlm, if_pos rfl, ite_self, nI_p1]
    · have f1 := fr J' (fun b hb => (hP.1 b hb).trans (g1 b hb))
      show Rl_X11_rideFrom_25 fu (mkS D) (nI r) (nI most) self (nI (nL I)) J' = _
      unfold Rl_X11_rideFrom_25
      rw [f1.2.1, if_pos (Int32.le_refl _)]
  · by_cases e : j = i
    · subst e; exact upI_at
    · rw [upI_cell e]; exact hP.2 j (by omega)
  · have ki := nx_nI (k := i) (by omega)
    show Rl_X11_rideFrom_2 fu (mkS D) (nI r) (nI most) self (nI i) J' = _
    unfold Rl_X11_rideFrom_2 wrN
    rw [if_neg (by rw [show (496 : Int32) = nI 496 from rfl, nI_le_iff (by decide) (by omega)]; omega), gd_pos ⟨by decide, nI_nn (by omega), by rw [ki]; exact hi⟩, ki, nI_p1]
    rfl
  · show Rl_X11_rideFrom_2 fu (mkS D) (nI r) (nI most) self (nI 496) J' = _
    unfold Rl_X11_rideFrom_2
    rw [if_pos (show (496 : Int32) ≤ nI 496 by decide)]
