/-! the reference's rows -/
theorem m_layRuns (fu : Nat) (hfu : 100 < fu) {D : Dn} {I J : II} (g : Inv D I) (hK : Keep I J) (d : Int32) : ∃ J', Rf_X11_layRuns fu (mkS D) J d = some J' ∧ Keep I J' ∧ J' 38 40 = nI (pcn (rs I d (nL I)) (nL I)) ∧ ∀ k, k < pcn (rs I d (nL I)) (nL I) → J' 67 k = nI (lnf (rs I d (nL I)) (nL I) k) := by
  have hnL : nL I ≤ 14 := g.2.2.1.1.1.2
  have hle : ∀ m n, pcn m n ≤ n := fun m n => by
    induction n with
    | zero => exact Nat.le_refl _
    | succ n ih => rw [pcn_s]; split <;> omega
  generalize hm : rs I d (nL I) = m
  have k0 : Keep I (upI J 38 40 0) := hK.tr (fun a j z => by
    unfold upI
    rw [if_neg (fun e => z (by unfold scr; omega))])
  have main := fix2_ex (K := Unit) (F := fun _ => Rl_X11_layRuns_7 fu (mkS D) d) (fun i => nI i) (fun l J' => Keep I J' ∧ J' 38 40 = nI (pcn m l) ∧ ∀ k, k < pcn m l → J' 67 k = nI (lnf m l k)) (fun _ J' => some J') (nL I) (fun l J' hl hP => ?_) (fun J' hP κ self => ?_) (nL I) 0 (upI J 38 40 0) (by omega) ⟨k0, upI_at, fun k hk => absurd hk (Nat.not_lt_zero _)⟩ fu (by omega)
  · obtain ⟨J', ⟨h1, h2, h3⟩, hrun⟩ := main
    exact ⟨J', hrun (), h1, h2, h3⟩
  · obtain ⟨h1, h2, h3⟩ := hP
    have gJ := g.keep h1
    have x := (gJ.2.2.1.2.1 l (by rw [(keep_net h1).2.1]; exact hl)).2
    have egn : gn J' l d = gn I l d := (ks_net h1.ks).2.2.2.2.2.2.1 l d
    have e4 : J' 38 4 = nI (nL I) := by rw [h1 38 4 (by unfold scr; omega)]; exact g.2.2.1.1.1.1
    have hs := pcn_s m l
    have hl2 := hle m l
    have kk := nx_nI (k := pcn m l) (by omega)
    by_cases q : m.testBit l = true
    · have hg : ¬ gn I l d = 0 := by rw [← hm] at q; exact ((rs_bit I d l (nL I)).mp q).2
      rw [if_pos q] at hs
      refine ⟨upI (upI J' 67 (pcn m l) (nI l)) 38 40 (nI (pcn m (l + 1))), ⟨h1.tr (fun a j z => ?_), upI_at, fun k hk => ?_⟩, fun _ self => ?_⟩
      · unfold upI
        rw [if_neg (fun e => z (by unfold scr; omega)), if_neg (fun e => z (by unfold scr; omega))]
      · rw [upI_row (by decide), show lnf m (l + 1) = upw (lnf m l) (pcn m l) l from if_pos q]
        unfold upw
        by_cases e : k = pcn m l
        · rw [if_pos e, e, upI_at]
        · rw [if_neg e, upI_cell e]; exact h3 k (by omega)
      · show Rl_X11_layRuns_7 fu (mkS D) d self (nI l) J' = _
        unfold Rl_X11_layRuns_7 Rj_X11_layRuns_44 wrN
        rw [e4, if_neg (by rw [nI_le_iff (by omega) (by omega)]; omega), m_runs fu (by omega) x, Option.bind_some, egn, if_neg hg, h2, gd_pos ⟨by decide, nI_nn (by omega), by rw [kk]; omega⟩, kk]
        simp only [lt]
        rw [upI_row (by decide), h2, nI_p1, nI_p1, hs]
    · have hg : gn I l d = 0 := by
        by_cases z : gn I l d = 0
        · exact z
        · rw [← hm] at q; exact absurd ((rs_bit I d l (nL I)).mpr ⟨hl, z⟩) q
      rw [if_neg q] at hs
      refine ⟨J', ⟨h1, by rw [hs]; exact h2, fun k hk => ?_⟩, fun _ self => ?_⟩
      · rw [show lnf m (l + 1) = lnf m l from if_neg q]; exact h3 k (by omega)
      · show Rl_X11_layRuns_7 fu (mkS D) d self (nI l) J' = _
        unfold Rl_X11_layRuns_7 Rj_X11_layRuns_44
        rw [e4, if_neg (by rw [nI_le_iff (by omega) (by omega)]; omega), m_runs fu (by omega) x, Option.bind_some, egn, if_pos hg, nI_p1]
  · obtain ⟨h1, h2, h3⟩ := hP
    have e4 : J' 38 4 = nI (nL I) := by rw [h1 38 4 (by unfold scr; omega)]; exact g.2.2.1.1.1.1
    show Rl_X11_layRuns_7 fu (mkS D) d self (nI (nL I)) J' = _
    unfold Rl_X11_layRuns_7
    rw [e4, if_pos (Int32.le_refl _)]
theorem dn_ix : ∀ n, n < 15 → nI n - nI (n + 1) = -1 := by decide
theorem nI_mod {a b : Nat} (ha : a < 2147483648) (hb : b < 2147483648) : nI a - nI a / nI b * nI b = nI (a % b) := by
  have h := Nat.div_add_mod a b
  rw [Nat.mul_comm] at h
  rw [nI_div ha hb, nI_mul, nI_sub (by omega)]
  congr 1
  omega
theorem m_layRow (fu : Nat) (hfu : 100 < fu) {S : Sk} {J : II} {n pc x : Nat} (e40 : J 38 40 = nI n) (hn : n ≤ 14) (hpc : 0 < pc ∨ n = 0) (hpc6 : pc ≤ 6) (hx : x < 2147483648) : ∃ J', Rf_X11_layRow fu S J (nI x) (nI pc) = some J' ∧ (∀ b, b ≠ 68 → J' b = J b) ∧ ∀ k, k < n → J' 68 k = nI (dgt pc n x k) := by
  have ei : ∀ t, t < n → nI n - nI (t + 1) = nI (n - 1 - t) := fun t ht => by
    rw [nI_sub (by omega)]
    congr 1
    omega
  have main := fix3_ex (K := Unit) (F := fun _ => Rl_X11_layRow_10 fu S (nI pc)) (fun t => nI n - nI (t + 1)) (fun t v J' => v = nI (x / pc ^ t) ∧ (∀ b, b ≠ 68 → J' b = J b) ∧ ∀ k, k < n → n - t ≤ k → J' 68 k = nI (dgt pc n x k)) (fun _ _ J' => some J') n (fun t v J' ht hP => ?_) (fun v J' hP κ self => ?_) n 0 (nI x) J (by omega) ⟨by rw [Nat.pow_zero, Nat.div_one], fun _ _ => rfl, fun k h1 h2 => by omega⟩ fu (by omega)
  · obtain ⟨v, J', ⟨-, h2, h3⟩, hrun⟩ := main
    refine ⟨J', ?_, h2, fun k hk => h3 k hk (by omega)⟩
    unfold Rf_X11_layRow
    rw [e40]
    exact hrun ()
  · obtain ⟨rfl, h2, h3⟩ := hP
    have hp : 0 < pc := hpc.resolve_right (by omega)
    have hxt : x / pc ^ t < 2147483648 := Nat.lt_of_le_of_lt (Nat.div_le_self _ _) hx
    have kk := nx_nI (k := n - 1 - t) (by omega)
    have hp0 : ¬ nI pc = 0 := by
      rw [show (0 : Int32) = nI 0 from rfl, nI_eq_iff (by omega) (by decide)]
      omega
    refine ⟨nI (x / pc ^ (t + 1)), upI J' 68 (n - 1 - t) (nI (dgt pc n x (n - 1 - t))), ⟨rfl, fun b hb => by rw [upI_row hb]; exact h2 b hb, fun k h4 h5 => ?_⟩, fun _ self => ?_⟩
    · by_cases e : k = n - 1 - t
      · subst e; exact upI_at
      · rw [upI_cell e]; exact h3 k h4 (by omega)
    · have e1 : nI n - nI (t + 1) + (-1 : Int32) = nI n - nI (t + 1 + 1) := by
        rw [← nI_1 (t + 1)]
        rw [Int32.sub_eq_add_neg, Int32.sub_eq_add_neg, Int32.neg_add, Int32.add_assoc]
        exact congrArg (fun z => nI n + z) (Int32.sub_eq_add_neg _ _).symm
      have hdg : dgt pc n x (n - 1 - t) = x / pc ^ t % pc := by
        unfold dgt
        rw [show n - 1 - (n - 1 - t) = t by omega]
      show Rl_X11_layRow_10 fu S (nI pc) self _ (nI n - nI (t + 1)) J' = _
      unfold Rl_X11_layRow_10
      rw [e1, ei t ht, if_neg (nI_nn (by omega)), gd_pos hp0, gd_pos ⟨by decide, nI_nn (by omega), by rw [kk]; omega⟩, nI_mod hxt (by omega), nI_div hxt (by omega), Nat.div_div_eq_div_mul, ← Nat.pow_succ, hdg]
      simp only [lt]
      rw [gd_pos hp0]
      unfold wrN
      rw [kk]
  · show Rl_X11_layRow_10 fu S (nI pc) self v (nI n - nI (n + 1)) J' = _
    unfold Rl_X11_layRow_10
    rw [dn_ix n (by omega), if_pos (by decide)]
theorem m_power (fu : Nat) (hfu : 100 < fu) {S : Sk} {J : II} {n pc : Nat} (hn : n ≤ 14) : f_X11_power fu S J (nI pc) (nI n) = some (nI (pc ^ n)) := by
  unfold f_X11_power
  refine fix2_run (F := lp_X11_power_4 fu S J (nI pc) (nI n)) (fun t => nI (pc ^ t)) (fun t => nI t) n (fun t ht self => ?_) (fun self => ?_) fu (by omega)
  · unfold lp_X11_power_4
    rw [if_neg (by rw [nI_le_iff (by omega) (by omega)]; omega), nI_mul, nI_p1, ← Nat.pow_succ]
  · unfold lp_X11_power_4
    rw [if_pos (Int32.le_refl _)]
def cnp (a : Nat → Nat) (p : Nat) : Nat → Nat
  | 0 => 0
  | k + 1 => cnp a p k + (if a k = p then 1 else 0)
theorem cnp_cnt (a : Nat → Nat) (p : Nat) : ∀ r i, cnp a p (i + r) = cnp a p i + cnt a p i r
  | 0, i => rfl
  | r + 1, i => by
    rw [show i + (r + 1) = i + 1 + r by omega, cnp_cnt a p r (i + 1)]
    show cnp a p i + (if a i = p then 1 else 0) + cnt a p (i + 1) r = cnp a p i + ((if a i = p then 1 else 0) + cnt a p (i + 1) r)
    omega
theorem cnp_eq (a : Nat → Nat) (p n : Nat) : cnt a p 0 n = cnp a p n := by
  have := cnp_cnt a p n 0
  rw [Nat.zero_add] at this
  rw [this]
  show _ = 0 + _
  omega
theorem cnp_le (a : Nat → Nat) (p : Nat) : ∀ n, cnp a p n ≤ n
  | 0 => Nat.le_refl _
  | n + 1 => by
    have := cnp_le a p n
    show cnp a p n + _ ≤ n + 1
    split <;> omega
def smp (cs : Nat → Nat → Nat) (a : Nat → Nat) : Nat → Nat
  | 0 => 0
  | k + 1 => smp cs a k + cs k (a k)
theorem smp_sma (cs : Nat → Nat → Nat) (a : Nat → Nat) : ∀ r i, smp cs a (i + r) = smp cs a i + sma cs a i r
  | 0, i => rfl
  | r + 1, i => by
    rw [show i + (r + 1) = i + 1 + r by omega, smp_sma cs a r (i + 1)]
    show smp cs a i + cs i (a i) + sma cs a (i + 1) r = smp cs a i + (cs i (a i) + sma cs a (i + 1) r)
    omega
theorem smp_eq (cs : Nat → Nat → Nat) (a : Nat → Nat) (n : Nat) : sma cs a 0 n = smp cs a n := by
  have := smp_sma cs a n 0
  rw [Nat.zero_add] at this
  rw [this]
  show _ = 0 + _
  omega
def dfB (a rv : Nat → Nat) (n : Nat) : Nat → Bool
  | 0 => true
  | d + 1 => dfB a rv n d && decide (cnp a d n ≤ rv d)
theorem dfB_iff (a rv : Nat → Nat) (n : Nat) : ∀ m, dfB a rv n m = true ↔ ∀ d, d < m → cnp a d n ≤ rv d
  | 0 => ⟨fun _ d h => absurd h (Nat.not_lt_zero _), fun _ => rfl⟩
  | m + 1 => by
    show (dfB a rv n m && decide (cnp a m n ≤ rv m)) = true ↔ _
    rw [Bool.and_eq_true, dfB_iff a rv n m, decide_eq_true_iff]
    constructor
    · rintro ⟨h1, h2⟩ d hd
      by_cases e : d = m
      · subst e; exact h2
      · exact h1 d (by omega)
    · intro h
      exact ⟨fun d hd => h d (by omega), h m (by omega)⟩
theorem m_doFit (fu : Nat) (hfu : 100 < fu) {S : Sk} {J : II} {n nd : Nat} {a rv : Nat → Nat} (hn : n ≤ 14) (hnd : nd ≤ 4) (e40 : J 38 40 = nI n) (e36 : J 38 36 = nI nd) (h68 : ∀ k, k < n → J 68 k = nI (a k) ∧ a k < 1000) (h66 : ∀ d, d < nd → J 66 d = nI (rv d) ∧ rv d ≤ 9) : Rf_X11_doFit fu S J = some (if dfB a rv n nd = true then 1 else 0) := by
  unfold Rf_X11_doFit
  refine fix2_run (F := Rl_X11_doFit_4 fu S J) (fun d => if dfB a rv n d = true then 1 else 0) (fun d => nI d) nd (fun d hd self => ?_) (fun self => ?_) fu (by omega)
  · unfold Rl_X11_doFit_4
    rw [e36, if_neg (by rw [nI_le_iff (by omega) (by omega)]; omega)]
    refine fix2_run (F := Rl_X11_doFit_17 fu S J self (if dfB a rv n d = true then 1 else 0) (nI d)) (fun k => nI (cnp a d k)) (fun k => nI k) n (fun k hk self2 => ?_) (fun self2 => ?_) fu (by omega)
    · have kk := nx_nI (k := k) (by omega)
      obtain ⟨y1, y2⟩ := h68 k hk
      have r68 : rdN J 68 (nI k) = nI (a k) := by unfold rdN; rw [kk]; exact y1
      have e : cnp a d (k + 1) = cnp a d k + (if a k = d then 1 else 0) := rfl
      unfold Rl_X11_doFit_17 Rj_X11_doFit_43
      rw [e40, if_neg (by rw [nI_le_iff (by omega) (by omega)]; omega), gd_pos ⟨by decide, nI_nn (by omega), by rw [kk]; omega⟩, r68, e]
      simp only [lt]
      by_cases q : a k = d
      · rw [if_pos (by rw [q]), if_pos q, nI_p1, nI_p1]
      · rw [if_neg (by rw [nI_eq_iff (by omega) (by omega)]; exact q), if_neg q, nI_p1]
        congr 1
        exact nI_add _ 0
    · have kd := nx_nI (k := d) (by omega)
      obtain ⟨y1, y2⟩ := h66 d hd
      have r66 : rdN J 66 (nI d) = nI (rv d) := by unfold rdN; rw [kd]; exact y1
      have hc := cnp_le a d n
      have e : dfB a rv n (d + 1) = (dfB a rv n d && decide (cnp a d n ≤ rv d)) := rfl
      unfold Rl_X11_doFit_17 Rj_X11_doFit_69 Rj_X11_doFit_70
      rw [e40, if_pos (Int32.le_refl _), gd_pos ⟨by decide, nI_nn (by omega), by rw [kd]; omega⟩, r66, e, nI_p1]
      by_cases q : cnp a d n ≤ rv d
      · rw [if_neg (show ¬ nI (rv d) < nI (cnp a d n) by rw [nI_lt_iff (by omega) (by omega)]; omega), decide_eq_true q]
        cases dfB a rv n d <;> rfl
      · rw [if_pos (show nI (rv d) < nI (cnp a d n) by rw [nI_lt_iff (by omega) (by omega)]; omega), decide_eq_false q]
        cases dfB a rv n d <;> rfl
  · unfold Rl_X11_doFit_4
    rw [e36, if_pos (Int32.le_refl _)]
    cases dfB a rv n nd <;> rfl
theorem m_allUn (fu : Nat) (hfu : 100 < fu) {S : Sk} {J : II} {n : Nat} {c : Nat → Nat} (hn : n ≤ 14) (e40 : J 38 40 = nI n) (h68 : ∀ k, k < n → J 68 k = nI (c k) ∧ c k < 1000) : Rf_X11_areAllUnlike fu S J = some (if un c n = true then 1 else 0) := by
  unfold Rf_X11_areAllUnlike
  refine fix2_run (F := Rl_X11_areAllUnlike_4 fu S J) (fun a => if un c a = true then 1 else 0) (fun a => nI a) n (fun a ha self => ?_) (fun self => ?_) fu (by omega)
  · unfold Rl_X11_areAllUnlike_4
    rw [e40, if_neg (by rw [nI_le_iff (by omega) (by omega)]; omega)]
    have := fix2_run (F := Rl_X11_areAllUnlike_14 fu S J self (nI a)) (out := self (if un c (a + 1) = true then 1 else 0) (nI (a + 1))) (fun b => if (un c a && ua c a b) = true then 1 else 0) (fun b => nI b) a (fun b hb self2 => ?_) (fun self2 => ?_) fu (by omega)
    · rw [show (un c a && ua c a 0) = un c a from Bool.and_true _] at this
      exact this
    · have ka := nx_nI (k := a) (by omega)
      have kb := nx_nI (k := b) (by omega)
      obtain ⟨y1, y2⟩ := h68 a ha
      obtain ⟨y3, y4⟩ := h68 b (by omega)
      have e1 : rdN J 68 (nI a) = nI (c a) := by unfold rdN; rw [ka]; exact y1
      have e2 : rdN J 68 (nI b) = nI (c b) := by unfold rdN; rw [kb]; exact y3
      unfold Rl_X11_areAllUnlike_14 Rj_X11_areAllUnlike_42 Rj_X11_areAllUnlike_43
      rw [if_neg (by rw [nI_le_iff (by omega) (by omega)]; omega), gd_pos ⟨by decide, nI_nn (by omega), by rw [ka]; omega⟩, gd_pos ⟨by decide, nI_nn (by omega), by rw [kb]; omega⟩, e1, e2, nI_p1]
      have e3 : ua c a (b + 1) = (ua c a b && !(decide (c a = c b))) := rfl
      rw [e3]
      by_cases q : c a = c b
      · rw [if_pos (show nI (c a) = nI (c b) by rw [q]), decide_eq_true q, ite_self]
        cases un c a <;> cases ua c a b <;> rfl
      · have c1 : ¬ nI (c a) = nI (c b) := by rw [nI_eq_iff (by omega) (by omega)]; exact q
        rw [if_neg c1, decide_eq_false q]
        cases un c a <;> cases ua c a b <;> rfl
    · unfold Rl_X11_areAllUnlike_14
      rw [if_pos (Int32.le_refl _), nI_p1]
      rfl
  · unfold Rl_X11_areAllUnlike_4
    rw [e40, if_pos (Int32.le_refl _)]
    cases un c n <;> rfl
