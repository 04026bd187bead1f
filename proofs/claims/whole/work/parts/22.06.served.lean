/-! served, breach -/
def gn (I : II) (l : Nat) (d : Int32) : Int32 := if d < I 48 l then 0 else if I 49 l < d then 0 else if I 41 l = 1 then (if 5 ≤ d - d / 7 * 7 then 0 else 1) else 1
theorem x_goes {D : Dn} {I : II} {l : Nat} (x : XLn D I l) (d : Int32) : t_X1_goesOn I (la D l) d = gn I l d := by
  obtain ⟨x0, x1, x2, x3, x4, x5, x9, x10⟩ := x.2.2.1
  unfold t_X1_goesOn gn
  rw [x9, x10, x1]
theorem m_runs (fu : Nat) {D : Dn} {I : II} {l : Nat} (hl : l < 14) (x : XLn D I l) (d : Int32) : Rf_X11_doesRun fu (mkS D) I (nI l) d = some (gn I l d) := by
  rw [p_runs_aux fu hl x, x_goes x]
def gnn (I : II) (l : Nat) (d : Int32) : Nat := if gn I l d = 0 then 0 else 1
def cl (I : II) (l s : Nat) : Nat → Nat
  | 0 => 0
  | k + 1 => cl I l s k + (if lS I l k = s then 1 else 0)
def sv (I : II) (s : Nat) (d : Int32) : Nat → Nat
  | 0 => 0
  | l + 1 => sv I s d l + gnn I l d * (nb I l * cl I l s (lZ I l - 1))
/-- the first place of a row with a stop, if there is one -/
theorem first_place (I : II) (l s : Nat) : ∀ z, ∃ N, N ≤ z ∧ (∀ j, j < N → lS I l j ≠ s) ∧ (N = z ∨ (N < z ∧ lS I l N = s))
  | 0 => ⟨0, Nat.le_refl 0, fun j h => absurd h (Nat.not_lt_zero j), Or.inl rfl⟩
  | z + 1 => by
    obtain ⟨N, h1, h2, h3⟩ := first_place I l s z
    rcases h3 with rfl | ⟨h3, h4⟩
    · by_cases q : lS I l N = s
      · exact ⟨N, by omega, h2, Or.inr ⟨by omega, q⟩⟩
      · refine ⟨N + 1, Nat.le_refl _, fun j hj => ?_, Or.inl rfl⟩
        by_cases q2 : j = N
        · subst q2; exact q
        · exact h2 j (by omega)
    · exact ⟨N, by omega, h2, Or.inr ⟨by omega, h4⟩⟩
theorem cl_0 {I : II} {l s z : Nat} (h : ∀ j, j < z → lS I l j ≠ s) : ∀ n, n ≤ z → cl I l s n = 0
  | 0, _ => rfl
  | n + 1, hn => by
    show cl I l s n + _ = 0
    rw [cl_0 h n (by omega), if_neg (h n (by omega))]
theorem cl_1 {I : II} {l s k z : Nat} (hk : k < z) (e : lS I l k = s) (h : ∀ j, j < z → j ≠ k → lS I l j ≠ s) : ∀ n, n ≤ z → cl I l s n = if k < n then 1 else 0
  | 0, _ => rfl
  | n + 1, hn => by
    show cl I l s n + _ = _
    rw [cl_1 hk e h n (by omega)]
    by_cases q : n = k
    · subst q
      rw [if_neg (by omega), if_pos e, if_pos (by omega)]
    · rw [if_neg (h n (by omega) q)]
      by_cases q2 : k < n
      · rw [if_pos q2, if_pos (by omega)]
      · rw [if_neg q2, if_neg (by omega)]
/-- where a stop is on a line: nowhere, or at one place -/
theorem place_of (fu : Nat) (hfu : 100 < fu) {D : Dn} {I : II} {l : Nat} (r : RLn I l) (x : XLn D I l) {s : Nat} (hs : s < 16) :
    (f_X1_placeOf fu (mkS D) I (la D l) (nI s) = some (-9) ∧ ∀ j, j < lZ I l → lS I l j ≠ s) ∨
    ∃ k, k < lZ I l ∧ f_X1_placeOf fu (mkS D) I (la D l) (nI s) = some (nI k) ∧ lS I l k = s ∧ ∀ j, j < lZ I l → j ≠ k → lS I l j ≠ s := by
  obtain ⟨e1, e2, e3, e4, e5⟩ := r.nums
  obtain ⟨b1, b2, b3, b4, b5, b6, b7⟩ := r.bds
  obtain ⟨-, -, p5, p6, -⟩ := x_after D x
  have xk := x.2.2.2
  have x5 : I (la D l) 5 = nI (lZ I l) := x.2.2.1.2.2.2.2.2.1.trans e2
  have step : ∀ i, i < lZ I l → ∀ self, lp_X1_placeOf_2 fu (mkS D) I (la D l) (nI s) self (nI i) = if lS I l i = s then some (nI i) else self (nI (i + 1)) := by
    intro i hi self
    have ei := nx_nI (k := i) (by omega)
    obtain ⟨w1, w2, -⟩ := r.2.1 i hi
    have hn : ¬ nI (lZ I l) ≤ nI i := by rw [nI_le_iff (by omega) (by omega)]; omega
    have hst : I 43 (8 * l + i) = nI (lS I l i) := w1.1
    have hl15 : lS I l i ≤ 15 := w1.2
    unfold lp_X1_placeOf_2 rd
    rw [x5, if_neg hn, p5, gd_pos ⟨by omega, nI_nn (by omega), by rw [ei, p6]; omega⟩, ei, show la D l + 2 - 1 = la D l + 1 from rfl, (xk i hi).1, hst, nI_1]
    have hc : nI (lS I l i) = nI s ↔ lS I l i = s := nI_eq_iff (by omega) (by omega)
    by_cases q : lS I l i = s
    · rw [if_pos (hc.mpr q), if_pos q]
    · rw [if_neg (fun z => q (hc.mp z)), if_neg q]
  obtain ⟨N, h1, h2, h3⟩ := first_place I l s (lZ I l)
  have run : ∀ out, (∀ self, lp_X1_placeOf_2 fu (mkS D) I (la D l) (nI s) self (nI N) = out) → f_X1_placeOf fu (mkS D) I (la D l) (nI s) = out := fun out hN =>
    fix1_run (F := lp_X1_placeOf_2 fu (mkS D) I (la D l) (nI s)) (fun i => nI i) N (fun i hi self => by rw [step i (by omega), if_neg (h2 i hi)]) hN fu (by omega)
  rcases h3 with rfl | ⟨h3, h4⟩
  · left
    refine ⟨run _ (fun self => ?_), h2⟩
    unfold lp_X1_placeOf_2
    rw [x5, if_pos (Int32.le_refl _)]
  · right
    refine ⟨N, h3, run _ (fun self => by rw [step N h3, if_pos h4]), h4, fun j hj hne z => ?_⟩
    rcases Nat.lt_or_gt_of_ne hne with q | q
    · exact (r.2.2 j N q h3).1 (z.trans h4.symm)
    · exact (r.2.2 N j q hj).1 (h4.trans z.symm)
/-- it leaves from there: as both count it -/
theorem leaves_cl (fu : Nat) (hfu : 100 < fu) {D : Dn} {I : II} {l : Nat} (r : RLn I l) (x : XLn D I l) {s : Nat} (hs : s < 16) : ∃ q, f_X1_placeOf fu (mkS D) I (la D l) (nI s) = some q ∧ t_X1_leavesFrom I (la D l) q = nI (cl I l s (lZ I l - 1)) ∧ cl I l s (lZ I l - 1) ≤ 1 := by
  obtain ⟨e1, e2, e3, e4, e5⟩ := r.nums
  obtain ⟨b1, b2, b3, b4, b5, b6, b7⟩ := r.bds
  have x5 : I (la D l) 5 = nI (lZ I l) := x.2.2.1.2.2.2.2.2.1.trans e2
  have e21 : nI (lZ I l) - 1 = nI (lZ I l - 1) := by rw [show (1 : Int32) = nI 1 from rfl, nI_sub (by omega)]
  rcases place_of fu hfu r x hs with ⟨h1, h2⟩ | ⟨k, hk, h1, h2, h3⟩
  · refine ⟨_, h1, ?_, ?_⟩
    · rw [cl_0 h2 _ (by omega)]
      unfold t_X1_leavesFrom
      rw [if_pos (by decide)]
      rfl
    · rw [cl_0 h2 _ (by omega)]; omega
  · refine ⟨_, h1, ?_, ?_⟩
    · rw [cl_1 hk h2 h3 _ (by omega)]
      unfold t_X1_leavesFrom
      rw [if_neg (nI_nn (by omega)), x5, e21]
      have hc : nI (lZ I l - 1) ≤ nI k ↔ lZ I l - 1 ≤ k := nI_le_iff (by omega) (by omega)
      by_cases q : k < lZ I l - 1
      · rw [if_neg (fun z => by have := hc.mp z; omega), if_pos q]; rfl
      · rw [if_pos (hc.mpr (by omega)), if_neg q]; rfl
    · rw [cl_1 hk h2 h3 _ (by omega)]; split <;> omega
theorem sv_le {D : Dn} {I : II} (g : GL D I) (fu : Nat) (hfu : 100 < fu) {s : Nat} (hs : s < 16) (d : Int32) : ∀ n, n ≤ nL I → sv I s d n ≤ 1440 * n
  | 0, _ => Nat.le_refl 0
  | n + 1, hn => by
    have := sv_le g fu hfu hs d n (by omega)
    obtain ⟨r, x⟩ := g.2.1 n (by omega)
    obtain ⟨q, -, -, h1⟩ := leaves_cl fu hfu r x hs
    have h2 := nb_le r
    have h3 : gnn I n d ≤ 1 := by unfold gnn; split <;> omega
    have h4 : gnn I n d * (nb I n * cl I n s (lZ I n - 1)) ≤ 1 * (1440 * 1) := Nat.mul_le_mul h3 (Nat.mul_le_mul h2 h1)
    show sv I s d n + _ ≤ _
    omega
theorem x_served (fu : Nat) (hfu : 100 < fu) {D : Dn} {I : II} (g : GL D I) {s : Nat} (hs : s < 16) (d : Int32) : Rf_X2_busesLeaving fu (mkS D) I (nI s) d = some (nI (sv I s d (nL I))) := by
  have hn : nL I ≤ 14 := g.1.1.2
  have e : I 1 5 = nI (nL I) := g.1.2.trans g.1.1.1
  unfold Rf_X2_busesLeaving
  refine fix2_run (F := Rl_X2_busesLeaving_5 fu (mkS D) I (nI s) d) (fun i => nI (sv I s d i)) (fun i => nI i) (nL I) (fun i hi self => ?_) (fun self => ?_) fu (by omega)
  · have ei := nx_nI (k := i) (by omega)
    obtain ⟨r, x⟩ := g.2.1 i hi
    obtain ⟨a1, a2, a3⟩ := x.at
    obtain ⟨q, h1, h2, h3⟩ := leaves_cl fu hfu r x hs
    have hc : ¬ nI (nL I) ≤ nI i := by rw [nI_le_iff (by omega) (by omega)]; omega
    have hmk : (mkS D).1 5 i = D.1 5 i := rfl
    unfold Rl_X2_busesLeaving_5 Rj_X2_busesLeaving_54
    simp only [lt]
    rw [e, if_neg hc, gd_pos ⟨by decide, nI_nn (by omega), by rw [ei]; omega⟩, ei, hmk, gd_pos a1, a2, x_goes x, h1, Option.bind_some, h2, x_buses fu r x, Option.bind_some, nI_add, nI_1]
    have hsv : sv I s d (i + 1) = sv I s d i + gnn I i d * (nb I i * cl I i s (lZ I i - 1)) := rfl
    rw [hsv]
    unfold gnn
    by_cases q1 : gn I i d = 0
    · rw [if_pos q1, if_pos q1, Nat.zero_mul]
      rfl
    · rw [if_neg q1, if_neg q1, Nat.one_mul]
      have : cl I i s (lZ I i - 1) = 0 ∨ cl I i s (lZ I i - 1) = 1 := by omega
      rcases this with z | z
      · rw [z, Nat.mul_zero, if_pos (show nI 0 = 0 from rfl)]
        rfl
      · rw [z, Nat.mul_one, if_neg (show ¬ nI 1 = 0 from i1ne)]
  · unfold Rl_X2_busesLeaving_5
    rw [e, if_pos (Int32.le_refl _)]
theorem m_served (fu : Nat) (hfu : 100 < fu) {D : Dn} {I : II} (g : GL D I) {s : Nat} (hs : s < 16) (d : Int32) : Rf_X11_servedAt fu (mkS D) I (nI s) d = some (nI (sv I s d (nL I))) := by
  have hn : nL I ≤ 14 := g.1.1.2
  have e : I 38 4 = nI (nL I) := g.1.1.1
  unfold Rf_X11_servedAt
  refine fix2_run (F := Rl_X11_servedAt_5 fu (mkS D) I (nI s) d) (fun i => nI (sv I s d i)) (fun i => nI i) (nL I) (fun i hi self => ?_) (fun self => ?_) fu (by omega)
  · have ei := nx_nI (k := i) (by omega)
    obtain ⟨r, x⟩ := g.2.1 i hi
    obtain ⟨e1, e2, e3, e4, e5⟩ := r.nums
    obtain ⟨b1, b2, b3, b4, b5, b6, b7⟩ := r.bds
    have e21 : nI (lZ I i) - 1 = nI (lZ I i - 1) := by rw [show (1 : Int32) = nI 1 from rfl, nI_sub (by omega)]
    have hc : ¬ nI (nL I) ≤ nI i := by rw [nI_le_iff (by omega) (by omega)]; omega
    have h14 : inbL 43 14 (nI i) := ⟨by decide, nI_nn (by omega), by rw [ei]; omega⟩
    unfold Rl_X11_servedAt_5
    rw [e, if_neg hc]
    have := fix2_run (F := Rl_X11_servedAt_17 fu (mkS D) I self (nI s) d (nI i)) (out := self (nI (sv I s d (i + 1))) (nI (i + 1))) (fun k => nI (sv I s d i + gnn I i d * (nb I i * cl I i s k))) (fun k => nI k) (lZ I i - 1) (fun k hk self2 => ?_) (fun self2 => ?_) fu (by omega)
    · exact this
    · have k2 := nx_nI (k := 8 * i + k) (by omega)
      obtain ⟨w1, w2, -⟩ := r.2.1 k (by omega)
      have hst : I 43 (8 * i + k) = nI (lS I i k) := w1.1
      have hl15 : lS I i k ≤ 15 := w1.2
      have hn2 : ¬ nI (lZ I i - 1) ≤ nI k := by rw [nI_le_iff (by omega) (by omega)]; omega
      have hcl : cl I i s (k + 1) = cl I i s k + (if lS I i k = s then 1 else 0) := rfl
      unfold Rl_X11_servedAt_17 Rj_X11_servedAt_68 Rj_X11_servedAt_69
      simp only [lt, rdN, ei, e2, e21, gd_pos h14, if_neg hn2, ix8, k2, hst, m_runs fu (show i < 14 by omega) x, m_buses fu (show i < 14 by omega) r, Option.bind_some]
      rw [gd_pos ⟨by decide, nI_nn (by omega), by rw [k2]; omega⟩, nI_1, nI_add, Int32.add_zero, hcl]
      have hc2 : nI (lS I i k) = nI s ↔ lS I i k = s := nI_eq_iff (by omega) (by omega)
      unfold gnn
      by_cases q : lS I i k = s
      · rw [if_pos (hc2.mpr q), if_pos q]
        by_cases q1 : gn I i d = 0
        · rw [if_pos q1, if_pos q1, Nat.zero_mul, Nat.zero_mul]
        · rw [if_neg q1, if_neg q1, Nat.one_mul, Nat.one_mul, Nat.mul_add, Nat.mul_one, Nat.add_assoc]
      · rw [if_neg (fun z => q (hc2.mp z)), if_neg q]
        rfl
    · unfold Rl_X11_servedAt_17
      rw [gd_pos h14]
      unfold rdN
      rw [ei, e2, e21, if_pos (Int32.le_refl _), nI_1]
      rfl
  · unfold Rl_X11_servedAt_5
    rw [e, if_pos (Int32.le_refl _)]
theorem p_served (fu : Nat) (hfu : 100 < fu) {D : Dn} {I : II} (g : Inv D I) (x d : Int32) : ∃ r, Rf_X10_served fu (mkS D) I x d = some r ∧ Rf_X11_served fu (mkS D) I x d = some r := by
  have hn : nS I ≤ 16 := g.2.1.1.1.2
  unfold Rf_X10_served Rf_X11_served
  rw [day_eq]
  rcases stop_cases g.2.1 x with ⟨h1, h2⟩ | ⟨s, hs, rfl, h1, h2⟩
  · rw [h1, h2]; exact ⟨_, rfl, rfl⟩
  · rw [h1, h2, if_neg i1ne, if_pos rfl, x_served fu hfu g.2.2.1 (by omega), m_served fu hfu g.2.2.1 (by omega)]
    exact ite_pair (fun _ => ⟨_, rfl, rfl⟩) (fun _ => ⟨_, rfl, rfl⟩)
theorem p_breach (fu : Nat) (hfu : 100 < fu) {D : Dn} {I : II} (g : Inv D I) (d : Int32) : ∃ r, Rf_X10_breach fu (mkS D) I d = some r ∧ Rf_X11_breach fu (mkS D) I d = some r := by
  have hn : nS I ≤ 16 := g.2.1.1.1.2
  have e : I 38 1 = nI (nS I) := g.2.1.1.1.1
  have e' : I 1 3 = nI (nS I) := g.2.1.1.2.trans e
  have gL := g.2.2.1
  have gT := g.2.2.2.1
  unfold Rf_X10_breach Rf_X11_breach
  rw [day_eq]
  refine ite_pair (fun _ => ⟨_, rfl, rfl⟩) (fun _ => ?_)
  -- the set of the first n stops
  have hset : ∃ f : Nat → Int32, f 0 = 0 ∧ ∀ s, f (s + 1) = if owd I (nI s) d ≤ nI (sv I s d (nL I)) then f s else f s ||| ((1 : Int32) <<< (nI s &&& 31)) :=
    ⟨fun n => Nat.rec 0 (fun s v => if owd I (nI s) d ≤ nI (sv I s d (nL I)) then v else v ||| ((1 : Int32) <<< (nI s &&& 31))) n, rfl, fun s => rfl⟩
  obtain ⟨f, f0, fs⟩ := hset
  refine ⟨f (nS I), ?_, ?_⟩
  · have := fix2_run (F := Rl_X10_breach_14 fu (mkS D) I d) (out := some (f (nS I))) f (fun i => nI i) (nS I) (fun i hi self => ?_) (fun self => ?_) fu (by omega)
    · rw [f0] at this; exact this
    · have hc : ¬ nI (nS I) ≤ nI i := by rw [nI_le_iff (by omega) (by omega)]; omega
      unfold Rl_X10_breach_14 Rj_X10_breach_49
      simp only [lt]
      rw [e', if_neg hc, x_served fu hfu gL (by omega), Option.bind_some, x_owedTo fu hfu gT, Option.bind_some, fs, nI_1]
      by_cases q : owd I (nI i) d ≤ nI (sv I i d (nL I))
      · rw [if_pos q, if_pos q]
      · rw [if_neg q, if_neg q]
    · unfold Rl_X10_breach_14
      rw [e', if_pos (Int32.le_refl _)]
  · have := fix2_run (F := Rl_X11_breach_14 fu (mkS D) I d) (out := some (f (nS I))) f (fun i => nI i) (nS I) (fun i hi self => ?_) (fun self => ?_) fu (by omega)
    · rw [f0] at this; exact this
    · have hc : ¬ nI (nS I) ≤ nI i := by rw [nI_le_iff (by omega) (by omega)]; omega
      unfold Rl_X11_breach_14 Rj_X11_breach_45
      simp only [lt]
      rw [e, if_neg hc, m_served fu hfu gL (by omega), Option.bind_some, m_owedTo fu hfu gT, Option.bind_some, fs, nI_1, Int32.or_zero]
      by_cases q : owd I (nI i) d ≤ nI (sv I i d (nL I))
      · rw [if_pos q, if_pos q]
      · rw [if_neg q, if_neg q]
    · unfold Rl_X11_breach_14
      rw [e, if_pos (Int32.le_refl _)]
