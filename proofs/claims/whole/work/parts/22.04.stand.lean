/-! standing, extra -/
def wq (I : II) (l j : Nat) : Nat := nx (I 50 (8 * l + j))
def fr (I : II) (l c : Nat) : Nat → Nat
  | 0 => c
  | j + 1 => fr I l c j - wq I l j
def sd (I : II) (l c j : Nat) : Nat := wq I l j - fr I l c j
def ss (I : II) (l c : Nat) : Nat → Nat
  | 0 => 0
  | j + 1 => ss I l c j + sd I l c j
theorem fr_le (I : II) (l c : Nat) : ∀ j, fr I l c j ≤ c
  | 0 => Nat.le_refl c
  | j + 1 => Nat.le_trans (Nat.sub_le _ _) (fr_le I l c j)
theorem ss_le {I : II} {l c z : Nat} (h : ∀ j, j < z → wq I l j ≤ 999) : ∀ j, j ≤ z → ss I l c j ≤ 999 * j
  | 0, _ => Nat.le_refl 0
  | j + 1, hj => by
    have := ss_le (c := c) h j (by omega)
    have h2 := h j (by omega)
    have h3 : sd I l c j ≤ wq I l j := Nat.sub_le _ _
    show ss I l c j + sd I l c j ≤ _
    omega
theorem jmin_nI {a b : Nat} (ha : a < 2147483648) (hb : b < 2147483648) : jmin (nI a) (nI b) = nI (min a b) := by
  unfold jmin
  have c := nI_lt_iff hb ha
  by_cases h : b < a
  · rw [if_pos (c.mpr h), Nat.min_eq_right (by omega)]
  · rw [if_neg (fun z => h (c.mp z)), Nat.min_eq_left (by omega)]
theorem jmax_nI {a b : Nat} (ha : a < 2147483648) (hb : b < 2147483648) : jmax (nI a) (nI b) = nI (max a b) := by
  unfold jmax
  have c := nI_lt_iff ha hb
  by_cases h : a < b
  · rw [if_pos (c.mpr h), Nat.max_eq_right (by omega)]
  · rw [if_neg (fun z => h (c.mp z)), Nat.max_eq_left (by omega)]
theorem les_nI {a b : Nat} (ha : a < 2147483648) (hb : b < 2147483648) : t_X11_lesser (nI a) (nI b) = nI (min a b) := by
  unfold t_X11_lesser
  have c := nI_le_iff hb ha
  by_cases h : b ≤ a
  · rw [if_pos (c.mpr h), Nat.min_eq_right (by omega)]
  · rw [if_neg (fun z => h (c.mp z)), Nat.min_eq_left (by omega)]
theorem gre_nI {a b : Nat} (ha : a < 2147483648) (hb : b < 2147483648) : t_X11_greater (nI a) (nI b) = nI (max a b) := by
  unfold t_X11_greater
  have c := nI_le_iff ha hb
  by_cases h : a ≤ b
  · rw [if_pos (c.mpr h), Nat.max_eq_right (by omega)]
  · rw [if_neg (fun z => h (c.mp z)), Nat.max_eq_left (by omega)]
theorem jmax_gre (x y : Int32) : jmax x y = t_X11_greater x y := by
  unfold jmax t_X11_greater
  by_cases h : x < y
  · rw [if_pos h, if_pos (Int32.le_of_lt h)]
  · rw [if_neg h]
    by_cases h2 : x ≤ y
    · rw [if_pos h2]; exact Int32.le_antisymm h2 (Int32.not_lt.mp h)
    · rw [if_neg h2]
theorem RLn.wq {I : II} {l : Nat} (r : RLn I l) {j : Nat} (hj : j < lZ I l) : I 50 (8 * l + j) = nI (wq I l j) ∧ wq I l j ≤ 999 := (r.2.1 j hj).2.2.2
theorem sub_min (a b : Nat) : a - min a b = a - b := by omega
theorem sub_min' (a b : Nat) : b - min a b = b - a := by omega
/-- leftBehind, for all stops (q = none) or for one -/
theorem x_left (fu : Nat) (hfu : 100 < fu) {D : Dn} {I : II} {l c : Nat} (r : RLn I l) (x : XLn D I l) (hc : c < 1000000) (k : Int32) (res : Nat → Nat)
    (hres0 : res 0 = 0) (hres : ∀ i, i < lZ I l - 1 → res (i + 1) = if k = -1 ∨ k = nI i then res i + sd I l c i else res i) (hb : ∀ i, i ≤ lZ I l → res i ≤ 999 * i) :
    f_X1_leftBehind fu (mkS D) I (la D l) k (nI c) = some (nI (res (lZ I l - 1))) := by
  obtain ⟨e1, e2, e3, e4, e5⟩ := r.nums
  obtain ⟨b1, b2, b3, b4, b5, b6, b7⟩ := r.bds
  obtain ⟨-, -, -, -, p7, p8⟩ := x_after D x
  have xk := x.2.2.2
  have x5 : I (la D l) 5 = nI (lZ I l) := x.2.2.1.2.2.2.2.2.1.trans e2
  have e21 : nI (lZ I l) - 1 = nI (lZ I l - 1) := by rw [show (1 : Int32) = nI 1 from rfl, nI_sub (by omega)]
  unfold f_X1_leftBehind
  have := fix3_run (F := lp_X1_leftBehind_8 fu (mkS D) I (la D l) k) (out := some (nI (res (lZ I l - 1)))) (fun i => nI (fr I l c i)) (fun i => nI (res i)) (fun i => nI i) (lZ I l - 1) (fun i hi self => ?_) (fun self => ?_) fu (by omega)
  · simp only [hres0] at this
    exact this
  · have ei := nx_nI (k := i) (by omega)
    obtain ⟨w1, w2⟩ := r.wq (j := i) (by omega)
    have hf := fr_le I l c i
    have hbi := hb i (by omega)
    have hin : inb (mkS D) (la D l + 4) (nI i) := ⟨by omega, nI_nn (by omega), by rw [ei, p8]; omega⟩
    have hq : rd I (la D l + 4) (nI i) = nI (wq I l i) := by
      unfold rd
      rw [ei, show la D l + 4 - 1 = la D l + 3 from rfl, (xk i (by omega)).2.2, w1]
    have hn : ¬ nI (lZ I l - 1) ≤ nI i := by rw [nI_le_iff (by omega) (by omega)]; omega
    unfold lp_X1_leftBehind_8 jn_X1_leftBehind_48 jn_X1_leftBehind_63
    simp only [lt, x5, e21, if_neg hn, p7, gd_pos hin, hq]
    have m1 : jmin (nI (fr I l c i)) (nI (wq I l i)) = nI (min (fr I l c i) (wq I l i)) := jmin_nI (by omega) (by omega)
    have m2 : nI (fr I l c i) - nI (min (fr I l c i) (wq I l i)) = nI (fr I l c (i + 1)) := by
      rw [nI_sub (Nat.min_le_left _ _), sub_min]; rfl
    have m3 : nI (wq I l i) - nI (min (fr I l c i) (wq I l i)) = nI (sd I l c i) := by
      rw [nI_sub (Nat.min_le_right _ _), sub_min']; rfl
    rw [m1, m2, m3, nI_add, nI_1, hres i hi]
    by_cases q1 : k = -1
    · rw [if_pos q1, if_pos (Or.inl q1)]
    · by_cases q2 : k = nI i
      · rw [if_neg q1, if_pos q2, if_pos (Or.inr q2)]
      · rw [if_neg q1, if_neg q2, if_neg (fun z => z.elim q1 q2)]
  · unfold lp_X1_leftBehind_8
    rw [x5, e21, if_pos (Int32.le_refl _)]
theorem x_leftAll (fu : Nat) (hfu : 100 < fu) {D : Dn} {I : II} {l c : Nat} (r : RLn I l) (x : XLn D I l) (hc : c < 1000000) : f_X1_leftBehind fu (mkS D) I (la D l) (-1) (nI c) = some (nI (ss I l c (lZ I l - 1))) := by
  refine x_left fu hfu r x hc (-1) (ss I l c) rfl (fun i _ => ?_) (ss_le (z := lZ I l) (fun j hj => (r.wq hj).2))
  rw [if_pos (Or.inl rfl)]; rfl
theorem m1ne {k : Nat} (h : k < 2147483648) : ¬ nI k = -1 := fun z => nI_nn h (by rw [z]; decide)
theorem x_leftAt (fu : Nat) (hfu : 100 < fu) {D : Dn} {I : II} {l c j : Nat} (r : RLn I l) (x : XLn D I l) (hc : c < 1000000) (hj : j < lZ I l - 1) : f_X1_leftBehind fu (mkS D) I (la D l) (nI j) (nI c) = some (nI (sd I l c j)) := by
  have b3 := r.bds.2.2.1
  have hw : sd I l c j ≤ 999 := Nat.le_trans (Nat.sub_le _ _) (r.wq (j := j) (by omega)).2
  have := x_left fu hfu r x hc (nI j) (fun i => if j < i then sd I l c j else 0) (by rw [if_neg (by omega)]) (fun i hi => ?_) (fun i _ => ?_)
  · rw [this, if_pos hj]
  · by_cases q : i = j
    · subst q
      rw [if_pos (Or.inr rfl), if_pos (by omega), if_neg (by omega), Nat.zero_add]
    · have c : ¬ (nI j = -1 ∨ nI j = nI i) := fun z => z.elim (m1ne (by omega)) (fun z => q ((nI_eq_iff (by omega) (by omega)).mp z).symm)
      rw [if_neg c]
      by_cases q2 : j < i
      · rw [if_pos (by omega), if_pos q2]
      · rw [if_neg (by omega), if_neg q2]
  · split <;> omega
theorem m_stand (fu : Nat) (hfu : 100 < fu) {D : Dn} {I : II} {l c : Nat} (hl : l < 14) (r : RLn I l) (hc : c < 1000000) (k : Int32) (N : Nat) (out : Option Int32) (hN : N ≤ lZ I l - 1) (hk : ∀ i, i < N → ¬ nI i = k)
    (hout : (N = lZ I l - 1 ∧ out = some (nI (ss I l c N))) ∨ (N < lZ I l - 1 ∧ k = nI N ∧ out = some (nI (sd I l c N)))) :
    fix3 (Rl_X11_standing_53 fu (mkS D) I (nI l) k) fu (nI c) 0 0 = out := by
  obtain ⟨e1, e2, e3, e4, e5⟩ := r.nums
  obtain ⟨b1, b2, b3, b4, b5, b6, b7⟩ := r.bds
  have hkl := nx_nI (k := l) (by omega)
  have e21 : nI (lZ I l) - 1 = nI (lZ I l - 1) := by rw [show (1 : Int32) = nI 1 from rfl, nI_sub (by omega)]
  have h14 : inbL 43 14 (nI l) := ⟨by decide, nI_nn (by omega), by rw [hkl]; omega⟩
  have step : ∀ i, i < lZ I l - 1 → ∀ self, Rl_X11_standing_53 fu (mkS D) I (nI l) k self (nI (fr I l c i)) (nI (ss I l c i)) (nI i) = if nI i = k then some (nI (sd I l c i)) else self (nI (fr I l c (i + 1))) (nI (ss I l c (i + 1))) (nI (i + 1)) := by
    intro i hi self
    have k2 := nx_nI (k := 8 * l + i) (by omega)
    obtain ⟨w1, w2⟩ := r.wq (j := i) (by omega)
    have hf := fr_le I l c i
    have hn : ¬ nI (lZ I l - 1) ≤ nI i := by rw [nI_le_iff (by omega) (by omega)]; omega
    have h112 : inbL 51 112 (nI (8 * l + i)) := ⟨by decide, nI_nn (by omega), by rw [k2]; omega⟩
    unfold Rl_X11_standing_53
    simp only [lt, rdN, hkl, e2, e21, gd_pos h14, if_neg hn, ix8, gd_pos h112, k2, w1]
    have m1 : t_X11_lesser (nI (fr I l c i)) (nI (wq I l i)) = nI (min (fr I l c i) (wq I l i)) := les_nI (by omega) (by omega)
    have m2 : nI (fr I l c i) - nI (min (fr I l c i) (wq I l i)) = nI (fr I l c (i + 1)) := by
      rw [nI_sub (Nat.min_le_left _ _), sub_min]; rfl
    have m3 : nI (wq I l i) - nI (min (fr I l c i) (wq I l i)) = nI (sd I l c i) := by
      rw [nI_sub (Nat.min_le_right _ _), sub_min']; rfl
    rw [m1, m2, m3, nI_add, nI_1]
    rfl
  refine fix3_run (F := Rl_X11_standing_53 fu (mkS D) I (nI l) k) (out := out) (fun i => nI (fr I l c i)) (fun i => nI (ss I l c i)) (fun i => nI i) N (fun i hi self => ?_) (fun self => ?_) fu (by omega)
  · rw [step i (by omega), if_neg (hk i hi)]
  · rcases hout with ⟨q, rfl⟩ | ⟨q, rfl, rfl⟩
    · subst q
      unfold Rl_X11_standing_53 rdN
      rw [gd_pos h14, hkl, e2, e21, if_pos (Int32.le_refl _)]
    · rw [step N q, if_pos rfl]
theorem p_standing (fu : Nat) (hfu : 100 < fu) {D : Dn} {I : II} (g : Inv D I) (x k n : Int32) : ∃ r, Rf_X10_standing fu (mkS D) I x k n = some r ∧ Rf_X11_standing fu (mkS D) I x k n = some r := by
  have gL := g.2.2.1
  have hn : nL I ≤ 14 := gL.1.1.2
  have gR := g.2.2.2.2.2.2.2.1
  obtain ⟨s1, s2, s3⟩ := gR.2.2.2.1
  have hp : nx (I 38 51) ≤ 99 := s1.2
  unfold Rf_X10_standing Rf_X11_standing
  rcases line_cases fu gL x with ⟨h1, h2⟩ | ⟨l, hl, rfl, h1, h2⟩
  · rw [h1, h2]; exact ⟨_, rfl, rfl⟩
  · obtain ⟨r, hX⟩ := gL.2.1 l hl
    obtain ⟨a1, a2, a3⟩ := hX.at
    have hk := nx_nI (k := l) (by omega)
    obtain ⟨e1, e2, e3, e4, e5⟩ := r.nums
    obtain ⟨b1, b2, b3, b4, b5, b6, b7⟩ := r.bds
    have hx5 : I (la D l) 5 = nI (lZ I l) := hX.2.2.1.2.2.2.2.2.1.trans e2
    rw [h1, h2]
    simp only [Option.bind_some, if_neg a1, a2, if_true]
    -- the part behind the checks
    have hlast : ∀ (N : Nat) (res : Nat → Nat), N ≤ lZ I l - 1 → (∀ i, i < N → ¬ nI i = k) → (∀ c, c < 1000000 → f_X1_leftBehind fu (mkS D) I (la D l) k (nI c) = some (nI (res c))) → (∀ c, (N = lZ I l - 1 ∧ some (nI (res c)) = some (nI (ss I l c N))) ∨ (N < lZ I l - 1 ∧ k = nI N ∧ some (nI (res c)) = some (nI (sd I l c N)))) → ∃ r, Rj_X10_standing_31 fu (mkS D) I k n (D.1 5 l) = some r ∧ Rj_X11_standing_24 fu (mkS D) I (nI l) k n = some r := by
      intro N res z1 z2 z3 z4
      unfold Rj_X10_standing_31 Rj_X11_standing_24
      rw [show t_X11_in n.toInt64 0 999 = t_X10_isWithin n 0 999 from w_in32 (lo := 0) (hi := 999)]
      rcases within_cases n 0 999 with hw | ⟨hw, hw1, hw2⟩
      · rw [hw]; exact ⟨_, rfl, rfl⟩
      · have en := nI_nx (le0 hw1)
        have hnl := nx_le (le0 hw1) (n := 999) (by decide) hw2
        have hmul : nx n * nx (I 38 51) < 1000000 := Nat.lt_of_le_of_lt (Nat.mul_le_mul hnl hp) (by decide)
        have e1 : n * I 0 15 = nI (nx n * nx (I 38 51)) := by
          rw [s3]
          conv => lhs; rw [en, s1.1]
          rw [nI_mul]
        have e2 : n * I 38 51 = nI (nx n * nx (I 38 51)) := (congrArg (fun v => n * v) s3).symm.trans e1
        rw [hw, gd_pos a1, a2, e1, e2, z3 _ hmul]
        simp only [lt, if_neg i1ne, Option.bind_some]
        exact ⟨_, rfl, m_stand fu hfu (by omega) r hmul k N _ z1 z2 (z4 _)⟩
    by_cases q : k = -1
    · subst q
      rw [if_pos rfl, if_pos rfl]
      exact hlast (lZ I l - 1) (fun c => ss I l c (lZ I l - 1)) (Nat.le_refl _) (fun i hi => m1ne (by omega)) (fun c hc => x_leftAll fu hfu r hX hc) (fun c => Or.inl ⟨rfl, rfl⟩)
    · rw [if_neg q, if_neg q]
      have hnq : Rf_X11_noQueue fu (mkS D) I (nI l) k = some (if t_X11_in k.toInt64 0 ((nI (lZ I l)).toInt64 - 2) = 0 then 1 else 0) := by
        unfold Rf_X11_noQueue rdN
        rw [h2, if_pos rfl, gd_pos ⟨by decide, nI_nn (by omega), by rw [hk]; omega⟩, hk, e2]
        split <;> rfl
      rw [hnq, Option.bind_some]
      rcases leave_cases b2 b3 hx5 k with ⟨h3, h4⟩ | ⟨j, hj, rfl, h3, h4⟩
      · rw [h3, h4, if_pos rfl, if_pos rfl, if_neg i1ne]
        exact ⟨_, rfl, rfl⟩
      · rw [h3, h4, if_neg i1ne, if_neg i1ne, if_pos rfl]
        exact hlast j (fun c => sd I l c j) (by omega) (fun i hi z => by have := (nI_eq_iff (by omega) (by omega)).mp z; omega) (fun c hc => x_leftAt fu hfu r hX hc hj) (fun c => Or.inr ⟨hj, rfl, rfl⟩)
theorem fr0 (I : II) (l : Nat) : ∀ j, fr I l 0 j = 0
  | 0 => rfl
  | j + 1 => by show fr I l 0 j - _ = 0; rw [fr0 I l j, Nat.zero_sub]
theorem p_extra (fu : Nat) (hfu : 100 < fu) {D : Dn} {I : II} (g : Inv D I) (x : Int32) : ∃ r, Rf_X10_extra fu (mkS D) I x = some r ∧ Rf_X11_extra fu (mkS D) I x = some r := by
  have gL := g.2.2.1
  have hn : nL I ≤ 14 := gL.1.1.2
  have gR := g.2.2.2.2.2.2.2.1
  obtain ⟨s1, s2, s3⟩ := gR.2.2.2.1
  have hp : nx (I 38 51) ≤ 99 := s1.2
  obtain ⟨p, ep⟩ : ∃ p, nx (I 38 51) = p := ⟨_, rfl⟩
  rw [ep] at s2 hp
  have s4 : I 38 51 = nI p := by rw [← ep]; exact s1.1
  have s5 : I 0 15 = nI p := s3.trans s4
  unfold Rf_X10_extra Rf_X11_extra
  rcases line_cases fu gL x with ⟨h1, h2⟩ | ⟨l, hl, rfl, h1, h2⟩
  · rw [h1, h2]; exact ⟨_, rfl, rfl⟩
  · obtain ⟨r, hX⟩ := gL.2.1 l hl
    obtain ⟨a1, a2, a3⟩ := hX.at
    have hk := nx_nI (k := l) (by omega)
    obtain ⟨e1, e2, e3, e4, e5⟩ := r.nums
    obtain ⟨b1, b2, b3, b4, b5, b6, b7⟩ := r.bds
    have e21 : nI (lZ I l) - 1 = nI (lZ I l - 1) := by rw [show (1 : Int32) = nI 1 from rfl, nI_sub (by omega)]
    have hpz : ¬ nI p = 0 := by rw [show (0 : Int32) = nI 0 from rfl, nI_eq_iff (by omega) (by decide)]; omega
    have hmx : jmax 1 (nI p) = nI p := by
      rw [show (1 : Int32) = nI 1 from rfl, jmax_nI (by decide) (by omega), Nat.max_eq_right s2]
    have hall := x_leftAll fu hfu (c := 0) r hX (by decide)
    rw [h1, h2]
    simp only [Option.bind_some, if_neg a1, a2, if_true, lt, s5, hmx, x_buses fu r hX, gd_pos hpz]
    rw [show (0 : Int32) = nI 0 from rfl, hall]
    simp only [Option.bind_some]
    refine ⟨_, rfl, ?_⟩
    have h14 : inbL 43 14 (nI l) := ⟨by decide, nI_nn (by omega), by rw [hk]; omega⟩
    refine fix2_run (F := Rl_X11_extra_14 fu (mkS D) I (nI l)) (fun i => nI (ss I l 0 i)) (fun i => nI i) (lZ I l - 1) (fun i hi self => ?_) (fun self => ?_) fu (by omega)
    · have k2 := nx_nI (k := 8 * l + i) (by omega)
      obtain ⟨w1, w2⟩ := r.wq (j := i) (by omega)
      have hn : ¬ nI (lZ I l - 1) ≤ nI i := by rw [nI_le_iff (by omega) (by omega)]; omega
      have h112 : inbL 51 112 (nI (8 * l + i)) := ⟨by decide, nI_nn (by omega), by rw [k2]; omega⟩
      unfold Rl_X11_extra_14
      simp only [lt, rdN, hk, e2, e21, gd_pos h14, if_neg hn, ix8, gd_pos h112, k2, w1]
      rw [nI_add, nI_1]
      have : ss I l 0 (i + 1) = ss I l 0 i + wq I l i := by
        show ss I l 0 i + sd I l 0 i = _
        unfold sd
        rw [fr0, Nat.sub_zero]
      rw [this]
    · unfold Rl_X11_extra_14 rdN
      rw [gd_pos h14, hk, e2, e21, if_pos (Int32.le_refl _), s4, gd_pos hpz, m_buses fu (by omega) r, Option.bind_some, jmax_gre]
      rfl
