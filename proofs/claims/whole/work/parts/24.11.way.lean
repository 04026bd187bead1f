/-! way, lose, who -/
def rs (I : II) (d : Int32) : Nat → Nat
  | 0 => 0
  | l + 1 => rs I d l ||| (if gn I l d = 0 then 0 else 2 ^ l)
theorem rs_lt (I : II) (d : Int32) : ∀ n, rs I d n < 2 ^ n
  | 0 => by show 0 < 2 ^ 0; decide
  | n + 1 => by
    have h := rs_lt I d n
    refine Nat.or_lt_two_pow (Nat.lt_trans h (Nat.pow_lt_pow_right (by decide) (Nat.lt_succ_self n))) ?_
    split
    · exact Nat.pow_pos (by decide)
    · exact Nat.pow_lt_pow_right (by decide) (Nat.lt_succ_self n)
theorem rs_14 {D : Dn} {I : II} (g : Inv D I) (d : Int32) : rs I d (nL I) < 16384 := by
  have h := rs_lt I d (nL I)
  have hn : nL I ≤ 14 := g.2.2.1.1.1.2
  exact Nat.lt_of_lt_of_le h (Nat.pow_le_pow_right (by decide) hn)
theorem keep_rs {I J : II} (h : Keep I J) (d : Int32) : ∀ n, rs J d n = rs I d n
  | 0 => rfl
  | n + 1 => by
    have e : gn J n d = gn I n d := by
      unfold gn
      rw [h 48 n (by unfold scr; omega), h 49 n (by unfold scr; omega), h 41 n (by unfold scr; omega)]
    show rs J d n ||| (if gn J n d = 0 then 0 else 2 ^ n) = _
    rw [keep_rs h d n, e]
    rfl
theorem x_running (fu : Nat) (hfu : 100 < fu) {D : Dn} {I J : II} (g : Inv D I) (hK : Keep I J) (d : Int32) : Rf_X2_running fu (mkS D) J d = some (nI (rs I d (nL I))) := by
  have gJ := g.keep hK
  have hnL : nL J ≤ 14 := gJ.2.2.1.1.1.2
  have eL : J 1 5 = nI (nL J) := gJ.2.2.1.1.2.trans gJ.2.2.1.1.1.1
  rw [← keep_rs hK d, ← (keep_net hK).2.1]
  unfold Rf_X2_running
  refine fix2_run (F := Rl_X2_running_4 fu (mkS D) J d) (fun l => nI (rs J d l)) (fun l => nI l) (nL J) (fun l hl self => ?_) (fun self => ?_) fu (by omega)
  · have x := (gJ.2.2.1.2.1 l hl).2
    have kl := nx_nI (k := l) (by omega)
    have hb := rs_lt J d l
    have hb2 : 2 ^ l < 2 ^ 14 := Nat.pow_lt_pow_right (by decide) (by omega)
    unfold Rl_X2_running_4
    rw [eL, if_neg (by rw [nI_le_iff (by omega) (by omega)]; omega), gd_pos ⟨by decide, nI_nn (by omega), by rw [kl]; omega⟩, kl, show (mkS D).1 5 l = D.1 5 l from rfl, gd_pos x.at.1, x.at.2.1, x_goes x, nI_p1]
    simp only [lt]
    congr 1
    show _ = nI (rs J d l ||| (if gn J l d = 0 then 0 else 2 ^ l))
    unfold t_X10_bitIf
    by_cases q : gn J l d = 0
    · rw [if_pos q, if_pos q]
      exact nI_or (b := 0) (by omega) (by decide)
    · rw [if_neg q, if_neg q, nI_one (by omega), nI_or (by omega) (by omega)]
  · unfold Rl_X2_running_4
    rw [eL, if_pos (Int32.le_refl _)]
theorem m_running (fu : Nat) (hfu : 100 < fu) {D : Dn} {I J : II} (g : Inv D I) (hK : Keep I J) (d : Int32) : Rf_X11_runningOn fu (mkS D) J d = some (nI (rs I d (nL I))) := by
  have gJ := g.keep hK
  have hnL : nL J ≤ 14 := gJ.2.2.1.1.1.2
  have eL : J 38 4 = nI (nL J) := gJ.2.2.1.1.1.1
  rw [← keep_rs hK d, ← (keep_net hK).2.1]
  unfold Rf_X11_runningOn
  refine fix2_run (F := Rl_X11_runningOn_4 fu (mkS D) J d) (fun l => nI (rs J d l)) (fun l => nI l) (nL J) (fun l hl self => ?_) (fun self => ?_) fu (by omega)
  · have x := (gJ.2.2.1.2.1 l hl).2
    have hb := rs_lt J d l
    have hb2 : 2 ^ l < 2 ^ 14 := Nat.pow_lt_pow_right (by decide) (by omega)
    unfold Rl_X11_runningOn_4 Rj_X11_runningOn_29
    rw [eL, if_neg (by rw [nI_le_iff (by omega) (by omega)]; omega), m_runs fu (by omega) x, Option.bind_some, nI_p1]
    simp only [lt]
    have e : rs J d (l + 1) = rs J d l ||| (if gn J l d = 0 then 0 else 2 ^ l) := rfl
    rw [e]
    by_cases q : gn J l d = 0
    · rw [if_pos q, if_pos q, show nI (rs J d l) ||| 0 = nI (rs J d l ||| 0) from nI_or (b := 0) (by omega) (by decide)]
    · rw [if_neg q, if_neg q, nI_one (by omega), nI_or (by omega) (by omega)]
  · unfold Rl_X11_runningOn_4
    rw [eL, if_pos (Int32.le_refl _)]
theorem trip_cases {D : Dn} {I : II} (g : GP D I) (x : Int32) : (t_X10_isTrip I 0 x = 0 ∧ t_X11_noTrip I 38 x = 1) ∨ ∃ t, t < nP I ∧ x = nI t ∧ t_X10_isTrip I 0 x = 1 ∧ t_X11_noTrip I 38 x = 0 := by
  obtain ⟨⟨g1, g2⟩, -⟩ := g
  have hn : nP I ≤ 6 := g1.2
  have e1 : I 38 22 = nI (nP I) := g1.1
  unfold t_X10_isTrip t_X11_noTrip
  rw [g2, e1, w_within]
  rcases cnt_cases x (n := nP I) (by omega) with h | ⟨k, h1, h2, h3, h4⟩
  · left
    rw [w_up_no (by omega) h, if_pos rfl]
    refine ⟨?_, rfl⟩
    rw [if_neg]
    rintro ⟨y1, y2⟩
    rcases h with h | h
    · exact Int32.not_lt.mpr y1 h
    · by_cases q : nP I = 0
      · rw [q] at y2
        exact absurd (Int32.lt_of_le_of_lt y1 (Int32.lt_of_le_of_lt y2 (by decide : nI 0 - 1 < 0))) (by decide)
      · rw [show nI (nP I) - 1 = nI (nP I - 1) from nI_sub (b := 1) (by omega)] at y2
        have := Int32.le_trans h y2
        rw [nI_le_iff (by omega) (by omega)] at this
        omega
  · right
    refine ⟨k, h1, h2, ?_, ?_⟩
    · rw [if_pos]
      rw [show nI (nP I) - 1 = nI (nP I - 1) from nI_sub (b := 1) (by omega), h2, nI_le_iff (by omega) (by omega)]
      exact ⟨nonneg_nI (by omega), by omega⟩
    · rw [w_up_yes (by omega) h3 h4, if_neg i1ne]
/-- the minute of the best way, or NB -/
noncomputable def AVf (most d : Nat) (Br : Nat → Nat → Nat → Nat → Prop) (r : Nat) : Nat := @dite _ (∃ bb rd wk, Lx most d Br r bb rd wk) (Classical.propDecidable _) (fun h => Classical.choose h) (fun _ => 0)
noncomputable def AV (I : II) (mask t : Nat) : Nat := AVf (tM I t) (tT I t) (BrI I mask t) (tR I t + 1)
theorem AV_eq {I : II} {mask t bb rd wk : Nat} (h : Lx (tM I t) (tT I t) (BrI I mask t) (tR I t + 1) bb rd wk) : AV I mask t = bb := by
  have hex : ∃ bb rd wk, Lx (tM I t) (tT I t) (BrI I mask t) (tR I t + 1) bb rd wk := ⟨_, _, _, h⟩
  unfold AV AVf
  rw [dif_pos hex]
  obtain ⟨rd', wk', h'⟩ := Classical.choose_spec hex
  exact (Lx.uq h' h).1
theorem x_arr (fu : Nat) (hfu : 600 < fu) {D : Dn} {I J : II} (g : Inv D I) (hK : Keep I J) {mask t : Nat} (hmask : mask < 2147483648) (ht : t < nP I) : ∃ J' rd wk, Rf_X10_arrival fu (mkS D) J (nI t) (nI mask) = some (nI (AV I mask t), J') ∧ Keep J J' ∧ (AV I mask t < NB → J' 8 5 = nI rd ∧ J' 8 6 = nI wk) ∧ Lx (tM I t) (tT I t) (BrI I mask t) (tR I t + 1) (AV I mask t) rd wk := by
  obtain ⟨J', bb, rd, wk, h1, h2, h3, h4, h5⟩ := x_search fu hfu g hK hmask ht
  have hnP : nP I ≤ 6 := g.2.2.2.2.1.1.1.2
  have kt := nx_nI (k := t) (by omega)
  rw [AV_eq h5]
  refine ⟨J', rd, wk, ?_, fun a j z => by rw [h2 a (fun e => z (by unfold scr; omega))], h4, h5⟩
  unfold Rf_X10_arrival
  rw [gd_pos ⟨by decide, nI_nn (by omega), by rw [kt]; omega⟩, kt, show (mkS D).1 7 t = D.1 7 t from rfl, h1, Option.bind_some, h3]
theorem m_lay (fu : Nat) (hfu : 2100 < fu) {D : Dn} {I J : II} (g : Inv D I) (hK : Keep I J) {mask t : Nat} (hmask : mask < 2147483648) (ht : t < nP I) : ∃ J' rd wk, Rf_X11_layWay fu (mkS D) (upI J 38 28 (nI mask)) (nI t) = some J' ∧ Keep J J' ∧ ((AV I mask t = NB ∧ J' 38 31 = nI MM) ∨ (AV I mask t ≤ 1730 ∧ J' 38 31 = nI (AV I mask t) ∧ J' 38 32 = nI rd ∧ J' 38 33 = nI wk)) ∧ Lx (tM I t) (tT I t) (BrI I mask t) (tR I t + 1) (AV I mask t) rd wk := by
  have k1 : Keep J (upI J 38 28 (nI mask)) := fun a j z => by
    unfold upI
    rw [if_neg (fun e => z (by unfold scr; omega))]
  obtain ⟨J', h1, ⟨h2, -⟩, bb, rd, wk, h3, h4, h5⟩ := m_layWay fu hfu g (hK.tr k1) hmask upI_at ht
  rw [AV_eq h3]
  refine ⟨J', rd, wk, h1, k1.tr h2, ?_, h3⟩
  by_cases q : bb < NB
  · exact Or.inr (h5 q)
  · have : bb = NB := by
      rcases h3 with ⟨z, -⟩ | ⟨z, -⟩
      · exact z
      · exact absurd z q
    exact Or.inl ⟨this, h4 this⟩
theorem p_way (fu : Nat) (hfu : 2100 < fu) {D : Dn} {I : II} (g : Inv D I) (x d w : Int32) : ∃ r I1 I2, Rf_X10_way fu (mkS D) I x d w = some (r, I1) ∧ Rf_X11_way fu (mkS D) I1 x d w = some (r, I2) ∧ Inv D I2 := by
  have ew : t_X11_in w.toInt64 0 2 = t_X10_isWithin w 0 2 := w_in32 (lo := 0) (hi := 2)
  unfold Rf_X10_way
  rcases trip_cases g.2.2.2.2.1 x with ⟨h1, h2⟩ | ⟨t, ht, rfl, h1, h2⟩
  · refine ⟨-1, I, I, by rw [if_pos h1], ?_, g⟩
    unfold Rf_X11_way
    rw [h2, if_neg i1ne]
  rw [h1, if_neg i1ne]
  by_cases hd : t_X10_isDay d = 0
  · refine ⟨-2, I, I, by rw [if_pos hd], ?_, g⟩
    unfold Rf_X11_way
    rw [h2, if_pos rfl, day_eq, if_pos hd]
  rw [if_neg hd]
  by_cases hw : t_X10_isWithin w 0 2 = 0
  · refine ⟨-2, I, I, by rw [if_pos hw], ?_, g⟩
    unfold Rf_X11_way
    rw [h2, if_pos rfl, day_eq, if_neg hd, ew, if_pos hw]
  rw [if_neg hw]
  have hm14 := rs_14 g d
  obtain ⟨J, rd, wk, a1, a2, a3, a4⟩ := x_arr fu (by omega) g (Keep.rf (I := I)) (mask := rs I d (nL I)) (by omega) ht
  obtain ⟨K, rd', wk', b1, b2, b3, b4⟩ := m_lay fu hfu g a2 (mask := rs I d (nL I)) (by omega) ht
  have h2' : t_X11_noTrip J 38 (nI t) = 0 := by
    unfold t_X11_noTrip at h2 ⊢
    rw [a2 38 22 (by unfold scr; omega)]
    exact h2
  have gK : Inv D K := g.keep (a2.tr b2)
  rw [x_running fu (by omega) g Keep.rf, Option.bind_some, a1, Option.bind_some]
  have href : Rf_X11_way fu (mkS D) J (nI t) d w = if K 38 31 = 1000000 then some (-9, K) else if w = 0 then some (K 38 31, K) else if w = 1 then some (K 38 32, K) else some (K 38 33, K) := by
    unfold Rf_X11_way
    rw [h2', if_pos rfl, day_eq, if_neg hd, ew, if_neg hw, m_running fu (by omega) g a2, Option.bind_some]
    simp only [lt]
    rw [b1, Option.bind_some]
  obtain ⟨-, huq⟩ := Lx.uq a4 b4
  rcases b3 with ⟨q1, q2⟩ | ⟨q1, q2, q3, q4⟩
  · refine ⟨-9, J, K, ?_, ?_, gK⟩
    · simp only [lt, q1]
      rw [if_pos (show nI NB = 1073741824 from rfl)]
    · rw [href, q2, if_pos (show nI MM = 1000000 from rfl)]
  · have hlt : AV I (rs I d (nL I)) t < NB := by simp only [NB]; omega
    obtain ⟨e1, e2⟩ := huq hlt
    obtain ⟨c1, c2⟩ := a3 hlt
    have n1 : ¬ nI (AV I (rs I d (nL I)) t) = (1073741824 : Int32) := fun z => by
      have := (nI_eq_iff (b := 1073741824) (by omega) (by decide)).mp z
      omega
    have n2 : ¬ nI (AV I (rs I d (nL I)) t) = (1000000 : Int32) := fun z => by
      have := (nI_eq_iff (b := 1000000) (by omega) (by decide)).mp z
      omega
    rw [q2, if_neg n2, q3, q4] at href
    simp only [lt]
    rw [if_neg n1, c1, c2, e1, e2]
    by_cases w0 : w = 0
    · exact ⟨_, J, K, by rw [if_pos w0], by rw [href, if_pos w0], gK⟩
    · by_cases w1 : w = 1
      · exact ⟨_, J, K, by rw [if_neg w0, if_pos w1], by rw [href, if_neg w0, if_pos w1], gK⟩
      · exact ⟨_, J, K, by rw [if_neg w0, if_neg w1], by rw [href, if_neg w0, if_neg w1], gK⟩
def wv (x y : Nat) : Int32 := if x = NB then 0 else if y = NB then 9999 else nI (y - x)
theorem gre_sub {x y : Nat} (hx : x ≤ 1730) (hy : y ≤ 1730) : t_X11_greater 0 (nI y - nI x) = nI (y - x) := by
  unfold t_X11_greater
  by_cases q : x ≤ y
  · rw [nI_sub q, if_pos (nonneg_nI (by omega))]
  · have e : (nI y - nI x).toInt = (y : Int) - x := by
      rw [i32_sub (by rw [toInt_nI (by omega), toInt_nI (by omega)]; omega) (by rw [toInt_nI (by omega), toInt_nI (by omega)]; omega), toInt_nI (by omega), toInt_nI (by omega)]
    have hn : ¬ (0 : Int32) ≤ nI y - nI x := by
      rw [Int32.le_iff_toInt_le, e, show (0 : Int32).toInt = 0 from rfl]
      omega
    rw [if_neg hn, show y - x = 0 by omega]
    rfl
theorem x_worse {x y : Nat} (hx : x = NB ∨ x ≤ 1730) (hy : y = NB ∨ y ≤ 1730) : t_X10_worseBy (nI x) (nI y) = wv x y := by
  have cx : nI x = (1073741824 : Int32) ↔ x = NB := nI_eq_iff (b := 1073741824) (by simp only [NB] at *; omega) (by decide)
  have cy : nI y = (1073741824 : Int32) ↔ y = NB := nI_eq_iff (b := 1073741824) (by simp only [NB] at *; omega) (by decide)
  unfold t_X10_worseBy wv
  by_cases qx : x = NB
  · rw [if_pos (cx.mpr qx), if_pos qx]
  · rw [if_neg (fun z => qx (cx.mp z)), if_neg qx]
    by_cases qy : y = NB
    · rw [if_pos (cy.mpr qy), if_pos qy]
    · rw [if_neg (fun z => qy (cy.mp z)), if_neg qy, jmax_gre]
      exact gre_sub (hx.resolve_left qx) (hy.resolve_left qy)
theorem m_worse (fu : Nat) (hfu : 2100 < fu) {D : Dn} {I J : II} (g : Inv D I) (hK : Keep I J) {t : Nat} (ht : t < nP I) (a b : Int32) : ∃ J', Rf_X11_worse fu (mkS D) J (nI t) a b = some (wv (AV I (rs I a (nL I)) t) (AV I (rs I b (nL I)) t), J') ∧ Keep J J' := by
  have ha := rs_14 g a
  have hb := rs_14 g b
  obtain ⟨K, rdK, wkK, b1, b2, b3, -⟩ := m_lay fu hfu g hK (mask := rs I a (nL I)) (by omega) ht
  obtain ⟨L, rdL_, wkL, c1, c2, c3, -⟩ := m_lay fu hfu g (hK.tr b2) (mask := rs I b (nL I)) (by omega) ht
  refine ⟨L, ?_, b2.tr c2⟩
  unfold Rf_X11_worse wv
  simp only [lt]
  rw [m_running fu (by omega) g hK, Option.bind_some, b1, Option.bind_some, m_running fu (by omega) g (hK.tr b2), Option.bind_some, c1, Option.bind_some]
  rcases b3 with ⟨q1, q2⟩ | ⟨q1, q2, -, -⟩
  · rw [if_pos q1, q2, if_pos (show nI MM = 1000000 from rfl)]
  · have n1 : ¬ AV I (rs I a (nL I)) t = NB := by simp only [NB]; omega
    have n2 : ¬ nI (AV I (rs I a (nL I)) t) = (1000000 : Int32) := fun z => by
      have := (nI_eq_iff (b := 1000000) (by omega) (by decide)).mp z
      omega
    rw [if_neg n1, q2, if_neg n2]
    rcases c3 with ⟨r1, r2⟩ | ⟨r1, r2, -, -⟩
    · rw [if_pos r1, r2, if_pos (show nI MM = 1000000 from rfl)]
    · have n3 : ¬ AV I (rs I b (nL I)) t = NB := by simp only [NB]; omega
      have n4 : ¬ nI (AV I (rs I b (nL I)) t) = (1000000 : Int32) := fun z => by
        have := (nI_eq_iff (b := 1000000) (by omega) (by decide)).mp z
        omega
      rw [if_neg n3, r2, if_neg n4, gre_sub q1 r1]
theorem AV_bd (fu : Nat) (hfu : 2100 < fu) {D : Dn} {I : II} (g : Inv D I) {mask t : Nat} (hmask : mask < 2147483648) (ht : t < nP I) : AV I mask t = NB ∨ AV I mask t ≤ 1730 := by
  obtain ⟨K, rdK, wkK, b1, b2, b3, -⟩ := m_lay fu hfu g (Keep.rf (I := I)) hmask ht
  exact b3.imp (fun z => z.1) (fun z => z.1)
theorem p_lose (fu : Nat) (hfu : 2100 < fu) {D : Dn} {I : II} (g : Inv D I) (x a b : Int32) : ∃ r I1 I2, Rf_X10_lose fu (mkS D) I x a b = some (r, I1) ∧ Rf_X11_lose fu (mkS D) I1 x a b = some (r, I2) ∧ Inv D I2 := by
  unfold Rf_X10_lose
  rcases trip_cases g.2.2.2.2.1 x with ⟨h1, h2⟩ | ⟨t, ht, rfl, h1, h2⟩
  · refine ⟨-1, I, I, by rw [if_pos h1], ?_, g⟩
    unfold Rf_X11_lose
    rw [h2, if_neg i1ne]
  rw [h1, if_neg i1ne]
  by_cases hd : t_X10_isDay a = 0
  · refine ⟨-2, I, I, by rw [if_pos hd], ?_, g⟩
    unfold Rf_X11_lose
    rw [h2, if_pos rfl, day_eq, if_pos hd]
  rw [if_neg hd]
  by_cases hd2 : t_X10_isDay b = 0
  · refine ⟨-2, I, I, by rw [if_pos hd2], ?_, g⟩
    unfold Rf_X11_lose
    rw [h2, if_pos rfl, day_eq, if_neg hd, day_eq, if_pos hd2]
  rw [if_neg hd2]
  have ha := rs_14 g a
  have hb := rs_14 g b
  obtain ⟨J, -, -, a1, a2, -, -⟩ := x_arr fu (by omega) g (Keep.rf (I := I)) (mask := rs I a (nL I)) (by omega) ht
  obtain ⟨J2, -, -, c1, c2, -, -⟩ := x_arr fu (by omega) g a2 (mask := rs I b (nL I)) (by omega) ht
  obtain ⟨K, d1, d2⟩ := m_worse fu hfu g (a2.tr c2) ht a b
  have h2' : t_X11_noTrip J2 38 (nI t) = 0 := by
    unfold t_X11_noTrip at h2 ⊢
    rw [(a2.tr c2) 38 22 (by unfold scr; omega)]
    exact h2
  refine ⟨wv (AV I (rs I a (nL I)) t) (AV I (rs I b (nL I)) t), J2, K, ?_, ?_, g.keep ((a2.tr c2).tr d2)⟩
  · rw [x_running fu (by omega) g Keep.rf, Option.bind_some, a1, Option.bind_some, x_running fu (by omega) g a2, Option.bind_some, c1, Option.bind_some, x_worse (AV_bd fu hfu g (by omega) ht) (AV_bd fu hfu g (by omega) ht)]
  · unfold Rf_X11_lose
    rw [h2', if_pos rfl, day_eq, if_neg hd, day_eq, if_neg hd2, d1, Option.bind_some]
