/-! the class's tables: rideAlong, rideOn -/
def sbv (I : II) (l k u : Nat) : Nat := if bidx I l k u < nb I l then lF I l + bidx I l k u * lE I l else NB
def RR (I : II) (mask s u s' t : Nat) : Prop := ∃ l k m, l < nL I ∧ mask.testBit l = true ∧ k < m ∧ m < lZ I l ∧ lS I l k = s ∧ lS I l m = s' ∧ bidx I l k u < nb I l ∧ t = lF I l + bidx I l k u * lE I l + lO I l m
theorem bidx_mono {I : II} {l k u u' : Nat} (h : u' ≤ u) : bidx I l k u' ≤ bidx I l k u := by
  unfold bidx
  exact Nat.div_le_div_right (by omega)
theorem bidx_ge {I : II} {l k u : Nat} (r : RLn I l) : u ≤ lF I l + bidx I l k u * lE I l + lO I l k := by
  have hE := r.bds.2.2.2.2.2.1
  have h := Nat.div_add_mod (u - (lO I l k + lF I l) + (lE I l - 1)) (lE I l)
  have h2 := Nat.mod_lt (u - (lO I l k + lF I l) + (lE I l - 1)) (show 0 < lE I l by omega)
  unfold bidx
  rw [Nat.mul_comm] at h
  omega
theorem sob_le {I : II} {l k u : Nat} (r : RLn I l) (h : bidx I l k u < nb I l) : lF I l + bidx I l k u * lE I l ≤ 1439 := by
  have := (bus_in r).mpr h
  have := r.bds.2.2.2.2.1
  omega
theorem lO_le {I : II} {l m : Nat} (r : RLn I l) (hm : m < lZ I l) : lO I l m ≤ 210 := by
  have h := (r.2.1 m hm).2.2.1.2
  have h8 := r.bds.2.2.1
  unfold lO
  omega
theorem net_of {D : Dn} {I : II} (g : Inv D I) {most : Nat} (hm : most ≤ 30) (mask : Nat) : Net (nS I) most (far I) (RR I mask) := by
  refine ⟨hm, fun s => ?_, fun a b c => ?_, ?_, ?_⟩
  · unfold far adf; omega
  · unfold far adf; omega
  · rintro s u s' t ⟨l, k, m, h1, h2, h3, h4, h5, h6, h7, h8⟩
    have r := (g.2.2.1.2.1 l h1).1
    have e1 := bidx_ge (k := k) (u := u) r
    have e2 := (r.2.2 k m h3 h4).2
    have e3 := sob_le r h7
    have e4 := lO_le r h4
    have e5 := (r.2.1 m h4).2.1
    exact ⟨by omega, by omega, by omega⟩
  · rintro s u s' t u' ⟨l, k, m, h1, h2, h3, h4, h5, h6, h7, h8⟩ hu
    have := bidx_mono (I := I) (l := l) (k := k) hu
    have h9 := Nat.mul_le_mul_right (lE I l) this
    exact ⟨lF I l + bidx I l k u' * lE I l + lO I l m, by omega, l, k, m, h1, h2, h3, h4, h5, h6, by omega, rfl⟩
def rb (I : II) (l w : Nat) (R : Nat → Nat → Nat) : Nat → Nat
  | 0 => NB
  | k + 1 => if R (lS I l k) w = NB then rb I l w R k else min (rb I l w R k) (sbv I l k (R (lS I l k) w))
theorem rb_le (I : II) (l w : Nat) (R : Nat → Nat → Nat) (k : Nat) (hk : R (lS I l k) w ≠ NB) : ∀ m, k < m → rb I l w R m ≤ sbv I l k (R (lS I l k) w)
  | 0, h => absurd h (Nat.not_lt_zero _)
  | m + 1, h => by
    unfold rb
    by_cases e : k = m
    · subst e; rw [if_neg hk]; omega
    · have := rb_le I l w R k hk m (by omega)
      split
      · exact this
      · omega
theorem rb_ex (I : II) (l w : Nat) (R : Nat → Nat → Nat) : ∀ m, rb I l w R m = NB ∨ ∃ k, k < m ∧ R (lS I l k) w ≠ NB ∧ sbv I l k (R (lS I l k) w) = rb I l w R m
  | 0 => Or.inl rfl
  | m + 1 => by
    unfold rb
    by_cases q : R (lS I l m) w = NB
    · rw [if_pos q]
      rcases rb_ex I l w R m with h | ⟨k, h1, h2⟩
      · exact Or.inl h
      · exact Or.inr ⟨k, by omega, h2⟩
    · rw [if_neg q]
      by_cases z : sbv I l m (R (lS I l m) w) ≤ rb I l w R m
      · exact Or.inr ⟨m, by omega, q, by omega⟩
      · rw [show min (rb I l w R m) (sbv I l m (R (lS I l m) w)) = rb I l w R m by omega]
        rcases rb_ex I l w R m with h | ⟨k, h1, h2⟩
        · exact Or.inl h
        · exact Or.inr ⟨k, by omega, h2⟩
theorem sbv_cases {I : II} {l k u : Nat} (r : RLn I l) : sbv I l k u = NB ∨ (bidx I l k u < nb I l ∧ sbv I l k u = lF I l + bidx I l k u * lE I l ∧ sbv I l k u ≤ 1439) := by
  unfold sbv
  by_cases q : bidx I l k u < nb I l
  · rw [if_pos q]; exact Or.inr ⟨q, rfl, sob_le r q⟩
  · rw [if_neg q]; exact Or.inl rfl
theorem rb_bd {I : II} {l : Nat} (r : RLn I l) (w : Nat) (R : Nat → Nat → Nat) (m : Nat) : rb I l w R m = NB ∨ rb I l w R m ≤ 1439 := by
  rcases rb_ex I l w R m with h | ⟨k, h1, h2, h3⟩
  · exact Or.inl h
  · rw [← h3]
    rcases sbv_cases (k := k) (u := R (lS I l k) w) r with z | ⟨-, -, z⟩
    · exact Or.inl z
    · exact Or.inr z
theorem keep_line {I J : II} (h : Keep I J) (l : Nat) : (∀ k, lS J l k = lS I l k) ∧ (∀ k, lO J l k = lO I l k) ∧ lZ J l = lZ I l ∧ lF J l = lF I l ∧ lE J l = lE I l ∧ lL J l = lL I l ∧ nb J l = nb I l ∧ ∀ k u, bidx J l k u = bidx I l k u := by
  have e : ∀ a k, 41 ≤ a → a ≤ 50 → J a k = I a k := fun a k h1 h2 => h a k (by unfold scr; omega)
  have e1 : ∀ k, lO J l k = lO I l k := fun k => by unfold lO; rw [e _ _ (by decide) (by decide)]
  have e2 : lF J l = lF I l := by unfold lF; rw [e _ _ (by decide) (by decide)]
  have e3 : lE J l = lE I l := by unfold lE; rw [e _ _ (by decide) (by decide)]
  have e4 : lL J l = lL I l := by unfold lL; rw [e _ _ (by decide) (by decide)]
  refine ⟨fun k => by unfold lS; rw [e _ _ (by decide) (by decide)], e1, by unfold lZ; rw [e _ _ (by decide) (by decide)], e2, e3, e4, by unfold nb; rw [e2, e3, e4], fun k u => by unfold bidx; rw [e1, e2, e3]⟩
theorem x_along (fu : Nat) (hfu : 100 < fu) {D : Dn} {I J : II} (g : Inv D I) (hK : Keep I J) {l w : Nat} (hl : l < nL I) (hw : w ≤ 30) (h9 : Row 496 NB J 9) (h10 : Row 496 NB J 10) (hR : ∀ s, s < nS I → tb J 10 s w = NB ∨ tb J 10 s w ≤ 1800) :
    ∃ J', Rf_X9_rideAlong fu (mkS D) J (D.1 5 l) (nI w) = some J' ∧ Rl1 496 NB 9 (fun j u => ∃ m, m < lZ I l ∧ rb I l w (tb J 10) m ≠ NB ∧ j = 31 * lS I l m + w ∧ u = rb I l w (tb J 10) m + lO I l m) J J' := by
  have r := (g.2.2.1.2.1 l hl).1
  have hz8 := r.bds.2.2.1
  have x := (g.2.2.1.2.1 l hl).2
  have hxat := x.at
  have hnS : nS I ≤ 16 := g.2.1.1.1.2
  let P : Nat → Int32 → II → Prop := fun k v J' => v = nI (rb I l w (tb J 10) k) ∧ Rl1 496 NB 9 (fun j u => ∃ m, m < k ∧ rb I l w (tb J 10) m ≠ NB ∧ j = 31 * lS I l m + w ∧ u = rb I l w (tb J 10) m + lO I l m) J J'
  have main := fix3_ex (K := Unit) (F := fun _ => Rl_X9_rideAlong_6 fu (mkS D) (D.1 5 l) (nI w)) (fun i => nI i) P (fun _ _ J' => some J') (lZ I l) (fun k v J' hk hP => ?_) (fun v J' hP κ self => ?_) (lZ I l) 0 (nI NB) J (by omega) ⟨rfl, Rl1.rf h9 (fun j u ⟨m, z, _⟩ => absurd z (Nat.not_lt_zero _))⟩ fu (by omega)
  · obtain ⟨v, J', ⟨-, p⟩, hrun⟩ := main
    exact ⟨J', hrun (), p⟩
  · obtain ⟨rfl, hP⟩ := hP
    have hK' : Keep I J' := hK.tr (fun a j z => by rw [hP.1 a (fun e => z (by unfold scr; omega))])
    have g' : Inv D J' := g.keep hK'
    have hl' : l < nL J' := by unfold nL; rw [hK' 38 4 (by unfold scr; omega)]; exact hl
    have r' := (g'.2.2.1.2.1 l hl').1
    have x' := (g'.2.2.1.2.1 l hl').2
    obtain ⟨t1, t2, t3, t4, t5, t6, t7, t8⟩ := keep_line hK' l
    have a6 := x_after D x'
    have c5 : J' (la D l) 5 = nI (lZ I l) := by rw [← t3, x'.2.2.1.2.2.2.2.2.1]; exact r'.nums.2.1
    have kk := nx_nI (k := k) (by omega)
    have hS1 := (r.2.1 k hk).2.1
    have hj : 31 * lS I l k + w < 496 := by omega
    have kj := nx_nI (k := 31 * lS I l k + w) (by omega)
    have rs : rd J' (la D l + 2) (nI k) = nI (lS I l k) := by
      unfold rd
      rw [kk, show la D l + 2 - 1 = la D l + 1 from rfl, (x'.2.2.2 k (by rw [t3]; exact hk)).1, ← t1]
      exact (r'.2.1 k (by rw [t3]; exact hk)).1.1
    have ro : rd J' (la D l + 3) (nI k) = nI (lO I l k) := by
      unfold rd
      rw [kk, show la D l + 3 - 1 = la D l + 2 from rfl, (x'.2.2.2 k (by rw [t3]; exact hk)).2.1, ← t2]
      exact (r'.2.1 k (by rw [t3]; exact hk)).2.2.1.1
    have hin6 : inb (mkS D) (la D l + 2) (nI k) := ⟨by omega, nI_nn (by omega), by rw [kk, a6.2.2.2.1]; omega⟩
    have hin7 : inb (mkS D) (la D l + 3) (nI k) := ⟨by omega, nI_nn (by omega), by rw [kk, a6.2.1]; omega⟩
    have hinA : ∀ a : Nat, a ≠ 0 → inbL a 496 (nI (31 * lS I l k + w)) := fun a ha => ⟨ha, nI_nn (by omega), by rw [kj]; exact hj⟩
    have hoff := lO_le r hk
    have hrbd := rb_bd r w (tb J 10) k
    have hrle : rb I l w (tb J 10) k ≤ NB := by simp only [NB] at *; omega
    have hrNB : nI (rb I l w (tb J 10) k) = (1073741824 : Int32) ↔ rb I l w (tb J 10) k = NB := nI_eq_iff (b := 1073741824) (by simp only [NB] at *; omega) (by decide)
    have hTle : tb J 10 (lS I l k) w ≤ NB := (h10 _ hj).2
    have hTNB : nI (tb J 10 (lS I l k) w) = (1073741824 : Int32) ↔ tb J 10 (lS I l k) w = NB := nI_eq_iff (b := 1073741824) (by simp only [NB] at *; omega) (by decide)
    -- the second half: the bus got on here
    have h61 : ∀ (J2 : II), (∀ b, b ≠ 9 → J2 b = J' b) → ∀ self, Rj_X9_rideAlong_61 fu (mkS D) J2 self (D.1 5 l) (nI w) (nI (rb I l w (tb J 10) k)) (nI k) (nI (31 * lS I l k + w)) = self (nI (rb I l w (tb J 10) (k + 1))) (nI (k + 1)) J2 := by
      intro J2 h2 self
      have hK2 : Keep I J2 := hK'.tr (fun a j z => by rw [h2 a (fun e => z (by unfold scr; omega))])
      have g2 : Inv D J2 := g.keep hK2
      have hl2 : l < nL J2 := by unfold nL; rw [hK2 38 4 (by unfold scr; omega)]; exact hl
      have r2 := (g2.2.2.1.2.1 l hl2).1
      have x2 := (g2.2.2.1.2.1 l hl2).2
      obtain ⟨u1, u2, u3, u4, u5, u6, u7, u8⟩ := keep_line hK2 l
      have r10 : rdN J2 10 (nI (31 * lS I l k + w)) = nI (tb J 10 (lS I l k) w) := by
        unfold rdN
        rw [kj, h2 10 (by decide), hP.1 10 (by decide)]
        exact (h10 _ hj).1
      have hnext : rb I l w (tb J 10) (k + 1) = if tb J 10 (lS I l k) w = NB then rb I l w (tb J 10) k else min (rb I l w (tb J 10) k) (sbv I l k (tb J 10 (lS I l k) w)) := rfl
      unfold Rj_X9_rideAlong_61 Rj_X9_rideAlong_91
      rw [gd_pos (hinA _ (by decide)), r10, hnext, nI_p1]
      by_cases q : tb J 10 (lS I l k) w = NB
      · rw [if_pos (hTNB.mpr q), if_pos q]
      · have hv : tb J 10 (lS I l k) w ≤ 1800 := (hR _ hS1).resolve_left q
        have hs := x_sob fu r2 x2 (k := k) (m := tb J 10 (lS I l k) w) (by rw [u3]; exact hk) (by omega)
        have hsv : (if bidx J2 l k (tb J 10 (lS I l k) w) < nb J2 l then nI (lF J2 l + bidx J2 l k (tb J 10 (lS I l k) w) * lE J2 l) else (1073741824 : Int32)) = nI (sbv I l k (tb J 10 (lS I l k) w)) := by
          rw [u4, u5, u7, u8]
          unfold sbv
          split <;> rfl
        rw [hsv] at hs
        have hsb := sbv_cases (k := k) (u := tb J 10 (lS I l k) w) r
        rw [if_neg (fun z => q (hTNB.mp z)), if_neg q, gd_pos hxat.1, hxat.2.1, hs, Option.bind_some]
        simp only [lt]
        rw [jmin_nI (by simp only [NB] at *; omega) (by simp only [NB] at *; omega)]
    have hpre : ∀ self, Rl_X9_rideAlong_6 fu (mkS D) (D.1 5 l) (nI w) self (nI (rb I l w (tb J 10) k)) (nI k) J' = if rb I l w (tb J 10) k = NB then Rj_X9_rideAlong_61 fu (mkS D) J' self (D.1 5 l) (nI w) (nI (rb I l w (tb J 10) k)) (nI k) (nI (31 * lS I l k + w)) else Rj_X9_rideAlong_61 fu (mkS D) (upI J' 9 (31 * lS I l k + w) (jmin (J' 9 (31 * lS I l k + w)) (nI (rb I l w (tb J 10) k + lO I l k)))) self (D.1 5 l) (nI w) (nI (rb I l w (tb J 10) k)) (nI k) (nI (31 * lS I l k + w)) := by
      intro self
      unfold Rl_X9_rideAlong_6
      rw [gd_pos hxat.1, hxat.2.1, c5, if_neg (by rw [nI_le_iff (by omega) (by omega)]; omega), a6.2.2.1, a6.1, gd_pos hin6, rs, ix31]
      simp only [lt]
      by_cases q : rb I l w (tb J 10) k = NB
      · rw [if_pos (hrNB.mpr q), if_pos q]
      · rw [if_neg (fun z => q (hrNB.mp z)), if_neg q, gd_pos (hinA _ (by decide)), gd_pos hin7, ro, nI_add]
        unfold wrN rdN
        rw [kj]
    by_cases q : rb I l w (tb J 10) k = NB
    · refine ⟨_, J', ⟨rfl, hP.im (fun j u hj => ?_)⟩, fun _ self => (hpre self).trans ((if_pos q).trans (h61 J' (fun _ _ => rfl) self))⟩
      constructor
      · rintro ⟨m, z1, z2⟩; exact ⟨m, by omega, z2⟩
      · rintro ⟨m, z1, z2, z3⟩
        by_cases e : m = k
        · subst e; exact absurd q z2
        · exact ⟨m, by omega, z2, z3⟩
    · have hb : rb I l w (tb J 10) k ≤ 1439 := hrbd.resolve_left q
      have h9' := hP.2.1 _ hj
      have hval : jmin (J' 9 (31 * lS I l k + w)) (nI (rb I l w (tb J 10) k + lO I l k)) = nI (min (rw_ J' 9 (31 * lS I l k + w)) (rb I l w (tb J 10) k + lO I l k)) := by
        rw [h9'.1]
        have := h9'.2
        exact jmin_nI (by simp only [NB] at *; omega) (by omega)
      refine ⟨_, _, ⟨rfl, hP.tr (Rl1.one hP.2.1 (by decide) (v := rb I l w (tb J 10) k + lO I l k) hj (fun j u => j = 31 * lS I l k + w ∧ u = rb I l w (tb J 10) k + lO I l k) ⟨rfl, rfl⟩ (fun j u _ ⟨z1, z2⟩ => ⟨z1, by omega⟩) hval) (fun j u => ?_)⟩, fun _ self => (hpre self).trans ((if_neg q).trans (h61 _ (fun b hb => upI_row hb) self))⟩
      constructor
      · rintro ⟨m, z1, z2, z3, z4⟩
        by_cases e : m = k
        · subst e; exact Or.inr ⟨z3, z4⟩
        · exact Or.inl ⟨m, by omega, z2, z3, z4⟩
      · rintro (⟨m, z1, z2⟩ | ⟨z1, z2⟩)
        · exact ⟨m, by omega, z2⟩
        · exact ⟨k, by omega, q, z1, z2⟩
  · obtain ⟨rfl, hP⟩ := hP
    have hK' : Keep I J' := hK.tr (fun a j z => by rw [hP.1 a (fun e => z (by unfold scr; omega))])
    have g' : Inv D J' := g.keep hK'
    have hl' : l < nL J' := by unfold nL; rw [hK' 38 4 (by unfold scr; omega)]; exact hl
    have r' := (g'.2.2.1.2.1 l hl').1
    have x' := (g'.2.2.1.2.1 l hl').2
    have t3 := (keep_line hK' l).2.2.1
    have c5 : J' (la D l) 5 = nI (lZ I l) := by rw [← t3, x'.2.2.1.2.2.2.2.2.1]; exact r'.nums.2.1
    show Rl_X9_rideAlong_6 fu (mkS D) (D.1 5 l) (nI w) self _ (nI (lZ I l)) J' = _
    unfold Rl_X9_rideAlong_6
    rw [gd_pos hxat.1, hxat.2.1, c5, if_pos (Int32.le_refl _)]
