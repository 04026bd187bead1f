/-! sharing: the answer -/
theorem x_firstB (fu : Nat) (hfu : 100 < fu) {D : Dn} {n pc : Nat} {rm : Nat → Nat} {cs : Nat → Nat → Nat} (hcs : ∀ i p, i < n → p < pc → cs i p ≤ 1000) {r : Nat} {u : Nat → Nat} (hu : ∀ p, p < pc → u p ≤ rm p) (hr : smu u pc + (r + 1) = n) (hp0 : 0 < pc) : ∀ k p m J, p + k = pc - 1 → k < m → SH n pc rm cs J → (∀ p, p < pc → J 19 p = nI (u p)) → Mem n pc rm cs J →
    ∃ J', fix2 (Rl_X4_firstBest_2 fu (mkS D) (nI (smu u pc)) (nI (cdU rm u pc))) m (nI p) J = some (nI (fpr (wth rm cs (opt pc rm cs r) (smu u pc) u) (opt pc rm cs (r + 1) (smu u pc) u) k p), J') ∧ (∀ b, b ≠ 21 → J' b = J b) ∧ Mem n pc rm cs J'
  | 0, p, m, J, hk, hm, hS, hU, hM => by
    obtain ⟨m, rfl⟩ : ∃ j, m = j + 1 := ⟨m - 1, by omega⟩
    have hpc := hS.2.1.2
    refine ⟨J, ?_, fun _ _ => rfl, hM⟩
    show Rl_X4_firstBest_2 fu (mkS D) (nI (smu u pc)) (nI (cdU rm u pc)) _ (nI p) J = some (nI p, J)
    unfold Rl_X4_firstBest_2
    rw [hS.2.1.1, show nI pc - 1 = nI (pc - 1) from nI_sub (b := 1) (by omega), if_pos (by rw [nI_le_iff (by omega) (by omega)]; omega), show p = pc - 1 by omega]
  | k + 1, p, m, J, hk, hm, hS, hU, hM => by
    obtain ⟨m, rfl⟩ : ∃ j, m = j + 1 := ⟨m - 1, by omega⟩
    have hpc := hS.2.1.2
    have hn8 := hS.1.2
    have hL := x_least fu hfu (S := mkS D) (rm := rm) hcs r 10 (by omega)
    have hL1 := x_least fu hfu (S := mkS D) (rm := rm) hcs (r + 1) 10 (by omega)
    obtain ⟨J1, a1, a2, a3⟩ := x_with fu hL hS hU hu hr hM (p := p) (by omega)
    have hS1 := hS.fr (a2 15 (by decide)) (a2 17 (by decide)) (a2 18 (by decide)) (a2 20 (by decide))
    obtain ⟨J2, b1, b2, b3⟩ := hL1 J1 u hS1 (fun p hp => by rw [a2 19 (by decide)]; exact hU p hp) hu hr a3
    have hS2 := hS1.fr (b2 15 (by decide)) (b2 17 (by decide)) (b2 18 (by decide)) (b2 20 (by decide))
    obtain ⟨J3, c1, c2, c3⟩ := x_firstB fu hfu (D := D) hcs hu hr hp0 k (p + 1) m J2 (by omega) (by omega) hS2 (fun p hp => by rw [b2 19 (by decide), a2 19 (by decide)]; exact hU p hp) b3
    have hle := opt_le pc rm cs (r + 1) (smu u pc) u
    have hwle : wth rm cs (opt pc rm cs r) (smu u pc) u p ≤ NB + 1000 := by
      unfold wth
      split
      · have h1 := hcs (smu u pc) p (by omega) (by omega)
        have h2 := opt_le pc rm cs r (smu u pc + 1) (upw u p (u p + 1))
        omega
      · omega
    have cc : nI (wth rm cs (opt pc rm cs r) (smu u pc) u p) = nI (opt pc rm cs (r + 1) (smu u pc) u) ↔ wth rm cs (opt pc rm cs r) (smu u pc) u p = opt pc rm cs (r + 1) (smu u pc) u := nI_eq_iff (by simp only [NB] at *; omega) (by simp only [NB] at *; omega)
    have hgo : ∀ self, Rl_X4_firstBest_2 fu (mkS D) (nI (smu u pc)) (nI (cdU rm u pc)) self (nI p) J = if wth rm cs (opt pc rm cs r) (smu u pc) u p = opt pc rm cs (r + 1) (smu u pc) u then some (nI p, J2) else self (nI (p + 1)) J2 := by
      intro self
      unfold Rl_X4_firstBest_2
      rw [hS.2.1.1, show nI pc - 1 = nI (pc - 1) from nI_sub (b := 1) (by omega), if_neg (by rw [nI_le_iff (by omega) (by omega)]; omega), re_X4_leastFrom, re_X4_leastWith, a1, Option.bind_some, b1, Option.bind_some, nI_p1]
      by_cases q : wth rm cs (opt pc rm cs r) (smu u pc) u p = opt pc rm cs (r + 1) (smu u pc) u
      · rw [if_pos (cc.mpr q), if_pos q]
      · rw [if_neg (fun z => q (cc.mp z)), if_neg q]
    show ∃ J', Rl_X4_firstBest_2 fu (mkS D) (nI (smu u pc)) (nI (cdU rm u pc)) (fix2 (Rl_X4_firstBest_2 fu (mkS D) (nI (smu u pc)) (nI (cdU rm u pc))) m) (nI p) J = _ ∧ _
    rw [hgo]
    unfold fpr
    by_cases q : wth rm cs (opt pc rm cs r) (smu u pc) u p = opt pc rm cs (r + 1) (smu u pc) u
    · rw [if_pos q, if_pos q]
      exact ⟨J2, rfl, fun b hb => (b2 b hb).trans (a2 b hb), b3⟩
    · rw [if_neg q, if_neg q]
      exact ⟨J3, c1, fun b hb => (c2 b hb).trans ((b2 b hb).trans (a2 b hb)), c3⟩
/-- the lines that share, by their places -/
def LN (n : Nat) (ln : Nat → Nat) (J : II) : Prop := ∀ k, k < n → J 16 k = nI (ln k) ∧ ln k < 14
theorem x_choose (fu : Nat) (hfu : 100 < fu) {D : Dn} {n pc : Nat} {rm : Nat → Nat} {cs : Nat → Nat → Nat} {ln : Nat → Nat} (hcs : ∀ i p, i < n → p < pc → cs i p ≤ 1000) (hln : ∀ j k, j < k → k < n → ln j ≠ ln k) {J : II} (hS : SH n pc rm cs J) (hL : LN n ln J) (hU : ∀ p, p < pc → J 19 p = nI 0) (hM : Mem n pc rm cs J) (hopt : opt pc rm cs n 0 (fun _ => 0) < NB) :
    ∃ J', Rf_X4_chooseFirst fu (mkS D) J = some J' ∧ (∀ b, b ≠ 19 → b ≠ 21 → b ≠ 22 → J' b = J b) ∧ (∀ k, k < n → J' 22 (ln k) = nI (dgt pc n (Rr pc rm cs n 0 (fun _ => 0)) k)) ∧ ∀ l, l < 14 → (∀ k, k < n → ln k ≠ l) → J' 22 l = -9 := by
  obtain ⟨G, eG⟩ : ∃ G : II, (fun b k => if b = 22 ∧ k < 14 then (-9 : Int32) else J b k) = G := ⟨_, rfl⟩
  have g1 : ∀ b, b ≠ 22 → G b = J b := fun b hb => by
    funext k
    rw [← eG]
    exact if_neg (fun z => hb z.1)
  have g2 : ∀ l, l < 14 → G 22 l = -9 := fun l hl => by rw [← eG]; exact if_pos ⟨rfl, hl⟩
  have hn8 := hS.1.2
  have hpc := hS.2.1.2
  have hst := hS.2.2.2.1
  have z0 : ∀ m, smu (fun _ => 0) m = 0 := fun m => by
    induction m with
    | zero => rfl
    | succ m ih => show smu (fun _ => 0) m + 0 = 0; rw [ih]
  have z1 : ∀ m, cdU rm (fun _ => 0) m = 0 := fun m => by
    induction m with
    | zero => rfl
    | succ m ih => show cdU rm (fun _ => 0) m + 0 * stp rm m = 0; rw [ih, Nat.zero_mul]
  let X : Nat := Rr pc rm cs n 0 (fun _ => 0)
  have hX : X < pc ^ n := ((first_min pc rm cs n 0 (fun _ => 0)).2 hopt).1
  let P : Nat → Int32 → II → Prop := fun j v J' => ∃ u : Nat → Nat, v = nI (cdU rm u pc) ∧ SH n pc rm cs J' ∧ (∀ p, p < pc → J' 19 p = nI (u p)) ∧ (∀ p, p < pc → u p ≤ rm p) ∧ smu u pc = j ∧ Mem n pc rm cs J' ∧ opt pc rm cs (n - j) j u < NB ∧ X % pc ^ (n - j) = Rr pc rm cs (n - j) j u ∧ (∀ b, b ≠ 19 → b ≠ 21 → b ≠ 22 → J' b = J b) ∧ (∀ k, k < j → J' 22 (ln k) = nI (dgt pc n X k)) ∧ ∀ l, l < 14 → (∀ k, k < j → ln k ≠ l) → J' 22 l = -9
  have main := fix3_ex (K := Unit) (F := fun _ => Rl_X4_chooseFirst_13 fu (mkS D)) (fun i => nI i) P (fun _ _ J' => some J') n (fun j v J' hj hP => ?_) (fun v J' hP κ self => ?_) n 0 0 G (by omega) ⟨fun _ => 0, by rw [z1]; rfl, hS.fr (g1 15 (by decide)) (g1 17 (by decide)) (g1 18 (by decide)) (g1 20 (by decide)), fun p hp => by rw [g1 19 (by decide)]; exact hU p hp, fun p _ => Nat.zero_le _, z0 pc, fun v y1 y2 => by rw [g1 21 (by decide)]; exact hM v y1 y2, hopt, Nat.mod_eq_of_lt hX, fun b h1 h2 h3 => g1 b h3, fun k hk => absurd hk (Nat.not_lt_zero _), fun l hl _ => g2 l hl⟩ fu (by omega)
  · obtain ⟨v, J', ⟨u, -, -, -, -, -, -, -, -, q1, q2, q3⟩, hrun⟩ := main
    refine ⟨J', ?_, q1, q2, q3⟩
    unfold Rf_X4_chooseFirst
    rw [x_fill fu (a := 22) (n := 14) _ rfl (by decide) (by omega), Option.bind_some, eG]
    exact hrun ()
  · obtain ⟨u, rfl, s, hU', hu, hj', hM', ho, hx, q1, q2, q3⟩ := hP
    subst hj'
    obtain ⟨r, er⟩ : ∃ r, n - smu u pc = r + 1 := ⟨n - smu u pc - 1, by omega⟩
    rw [er] at ho hx
    have eo : opt pc rm cs (r + 1) (smu u pc) u = mnf (wth rm cs (opt pc rm cs r) (smu u pc) u) pc := rfl
    have hp0 : 0 < pc := by
      rcases Nat.eq_zero_or_pos pc with z | z
      · rw [eo, z] at ho
        exact absurd ho (Nat.lt_irrefl _)
      · exact z
    obtain ⟨J1, a1, a2, a3⟩ := x_firstB fu hfu (D := D) hcs hu (r := r) (by omega) hp0 (pc - 1) 0 fu J' (by omega) (by omega) s hU' hM'
    obtain ⟨f1, f2, f3⟩ := fpr_first (wth rm cs (opt pc rm cs r) (smu u pc) u) (n := pc) ho
    rw [← eo] at f1 f2
    have eR : Rr pc rm cs (r + 1) (smu u pc) u = fpr (wth rm cs (opt pc rm cs r) (smu u pc) u) (opt pc rm cs (r + 1) (smu u pc) u) (pc - 1) 0 * pc ^ r + Rr pc rm cs r (smu u pc + 1) (upw u (fpr (wth rm cs (opt pc rm cs r) (smu u pc) u) (opt pc rm cs (r + 1) (smu u pc) u) (pc - 1) 0) (u (fpr (wth rm cs (opt pc rm cs r) (smu u pc) u) (opt pc rm cs (r + 1) (smu u pc) u) (pc - 1) 0) + 1)) := rfl
    rw [eR] at hx
    generalize fpr (wth rm cs (opt pc rm cs r) (smu u pc) u) (opt pc rm cs (r + 1) (smu u pc) u) (pc - 1) 0 = p at *
    have hup : u p < rm p := by
      by_cases z : u p < rm p
      · exact z
      · unfold wth at f2
        rw [if_neg z] at f2
        omega
    have f2' : cs (smu u pc) p + opt pc rm cs r (smu u pc + 1) (upw u p (u p + 1)) = opt pc rm cs (r + 1) (smu u pc) u := by
      have := f2
      unfold wth at this
      rw [if_pos hup] at this
      exact this
    have ho' : opt pc rm cs r (smu u pc + 1) (upw u p (u p + 1)) < NB := by omega
    have hR' := ((first_min pc rm cs r (smu u pc + 1) (upw u p (u p + 1))).2 ho').1
    have hpos : 0 < pc ^ r := by omega
    have hdg : dgt pc n X (smu u pc) = p := by
      rw [← dgt_at (by omega), er, show n - 1 - smu u pc = r by omega, hx, Nat.mul_comm, Nat.mul_add_div hpos, Nat.div_eq_of_lt hR', Nat.add_zero]
    have hmd : X % pc ^ r = Rr pc rm cs r (smu u pc + 1) (upw u p (u p + 1)) := by
      have := mod_at (pc := pc) (n := n) (x := X) (k := smu u pc) (by omega)
      rw [er, show n - 1 - smu u pc = r by omega, hx, Nat.mul_comm, Nat.mul_add_mod, Nat.mod_eq_of_lt hR'] at this
      exact this.symm
    have kp := nx_nI (k := p) (by omega)
    have kj := nx_nI (k := smu u pc) (by omega)
    obtain ⟨l1, l2⟩ := hL (smu u pc) (by omega)
    have kl := nx_nI (k := ln (smu u pc)) (by omega)
    have r16 : rdN J1 16 (nI (smu u pc)) = nI (ln (smu u pc)) := by
      unfold rdN
      rw [kj, a2 16 (by decide), q1 16 (by decide) (by decide) (by decide)]
      exact l1
    have in6 : ∀ a : Nat, a ≠ 0 → inbL a 6 (nI p) := fun a ha => ⟨ha, nI_nn (by omega), by rw [kp]; omega⟩
    have hupd := hu p f1
    have b17 := (s.2.2.1 p f1).2.1
    obtain ⟨J2, eJ2⟩ : ∃ J2 : II, upI (upI J1 22 (ln (smu u pc)) (nI p)) 19 p (nI (u p + 1)) = J2 := ⟨_, rfl⟩
    have j2a : ∀ b, b ≠ 19 → b ≠ 22 → J2 b = J1 b := fun b h1 h2 => by rw [← eJ2, upI_row h1, upI_row h2]
    have j2b : ∀ q, J2 19 q = if q = p then nI (u p + 1) else J1 19 q := fun q => by
      rw [← eJ2]
      by_cases e : q = p
      · rw [if_pos e, e, upI_at]
      · rw [if_neg e, upI_cell e, upI_row (by decide)]
    have j2c : ∀ l, J2 22 l = if l = ln (smu u pc) then nI p else J1 22 l := fun l => by
      rw [← eJ2, upI_row (by decide)]
      by_cases e : l = ln (smu u pc)
      · rw [if_pos e, e, upI_at]
      · rw [if_neg e, upI_cell e]
    refine ⟨nI (cdU rm u pc + stp rm p), J2, ⟨upw u p (u p + 1), by rw [cdU_up pc f1], s.fr ?_ ?_ ?_ ?_, fun q hq => ?_, fun q hq => ?_, by rw [smu_up pc f1], fun v y1 y2 => by rw [j2a 21 (by decide) (by decide)]; exact a3 v y1 y2, ?_, ?_, fun b h1 h2 h3 => by rw [j2a b h1 h3, a2 b h2]; exact q1 b h1 h2 h3, fun k hk => ?_, fun l hl hk => ?_⟩, fun _ self => ?_⟩
    · rw [j2a 15 (by decide) (by decide)]; exact a2 15 (by decide)
    · rw [j2a 17 (by decide) (by decide)]; exact a2 17 (by decide)
    · rw [j2a 18 (by decide) (by decide)]; exact a2 18 (by decide)
    · rw [j2a 20 (by decide) (by decide)]; exact a2 20 (by decide)
    · rw [j2b]
      unfold upw
      by_cases e : q = p
      · rw [if_pos e, if_pos e]
      · rw [if_neg e, if_neg e, a2 19 (by decide)]; exact hU' q hq
    · unfold upw
      by_cases e : q = p
      · rw [if_pos e, e]; omega
      · rw [if_neg e]; exact hu q hq
    · rw [show n - (smu u pc + 1) = r by omega]; exact ho'
    · rw [show n - (smu u pc + 1) = r by omega]; exact hmd
    · rw [j2c]
      by_cases e : k = smu u pc
      · subst e; rw [if_pos rfl, hdg]
      · rw [if_neg (fun z => hln k (smu u pc) (by omega) (by omega) z), a2 22 (by decide)]; exact q2 k (by omega)
    · rw [j2c, if_neg (fun z => hk (smu u pc) (by omega) z.symm), a2 22 (by decide)]
      exact q3 l hl (fun k hk' => hk k (by omega))
    · have r19 : rdN (upI J1 22 (ln (smu u pc)) (nI p)) 19 (nI p) = nI (u p) := by
        unfold rdN
        rw [kp, upI_row (by decide), a2 19 (by decide)]
        exact hU' p f1
      have r18 : rdN J2 18 (nI p) = nI (stp rm p) := by
        unfold rdN
        rw [kp, j2a 18 (by decide) (by decide), a2 18 (by decide)]
        exact (s.2.2.1 p f1).2.2
      show Rl_X4_chooseFirst_13 fu (mkS D) self (nI (cdU rm u pc)) (nI (smu u pc)) J' = _
      unfold Rl_X4_chooseFirst_13 Rf_X4_firstBest
      rw [s.1.1, if_neg (by rw [nI_le_iff (by omega) (by omega)]; omega), show fix2 (Rl_X4_firstBest_2 fu (mkS D) (nI (smu u pc)) (nI (cdU rm u pc))) fu 0 J' = _ from a1, Option.bind_some]
      simp only [lt]
      rw [gd_pos ⟨by decide, nI_nn (by omega), by rw [kj]; omega⟩, r16, gd_pos ⟨by decide, nI_nn (by omega), by rw [kl]; exact l2⟩, gd_pos (in6 _ (by decide))]
      unfold wrN
      rw [kl, gd_pos (in6 _ (by decide)), kp, r19, nI_p1, eJ2, r18, nI_add, nI_p1]
  · obtain ⟨u, rfl, s, -⟩ := hP
    show Rl_X4_chooseFirst_13 fu (mkS D) self _ (nI n) J' = _
    unfold Rl_X4_chooseFirst_13
    rw [s.1.1, if_pos (Int32.le_refl _)]
