/-! sharing: leastFrom -/
theorem ix6 {i p : Nat} : nI i * (6 : Int32) + nI p = nI (6 * i + p) := by
  rw [show (6 : Int32) = nI 6 from rfl, nI_mul, nI_add, Nat.mul_comm]
theorem upI_back {J : II} {a k : Nat} {v w : Int32} (h : J a k = w) : upI (upI J a k v) a k w = J := by
  funext b j
  unfold upI
  by_cases q : b = a ∧ j = k
  · rw [if_pos q, q.1, q.2, h]
  · rw [if_neg q, if_neg q]
/-- what leastFrom is to do, for so many lines left -/
def LF (fu : Nat) (S : Sk) (n pc : Nat) (rm : Nat → Nat) (cs : Nat → Nat → Nat) (r : Nat) (rc : II → Int32 → Int32 → Option (Int32 × II)) : Prop :=
  ∀ (J : II) (u : Nat → Nat), SH n pc rm cs J → (∀ p, p < pc → J 19 p = nI (u p)) → (∀ p, p < pc → u p ≤ rm p) → smu u pc + r = n → Mem n pc rm cs J → ∃ J', rc J (nI (smu u pc)) (nI (cdU rm u pc)) = some (nI (opt pc rm cs r (smu u pc) u), J') ∧ (∀ b, b ≠ 21 → J' b = J b) ∧ Mem n pc rm cs J'
theorem x_with (fu : Nat) {S : Sk} {n pc : Nat} {rm : Nat → Nat} {cs : Nat → Nat → Nat} {r : Nat} {rc : II → Int32 → Int32 → Option (Int32 × II)} (h : LF fu S n pc rm cs r rc) {J : II} {u : Nat → Nat} (hS : SH n pc rm cs J) (hU : ∀ p, p < pc → J 19 p = nI (u p)) (hu : ∀ p, p < pc → u p ≤ rm p) (hr : smu u pc + (r + 1) = n) (hM : Mem n pc rm cs J) {p : Nat} (hp : p < pc) :
    ∃ J', Rf_X4_leastWith fu S J rc (nI (smu u pc)) (nI (cdU rm u pc)) (nI p) = some (nI (wth rm cs (opt pc rm cs r) (smu u pc) u p), J') ∧ (∀ b, b ≠ 21 → J' b = J b) ∧ Mem n pc rm cs J' := by
  obtain ⟨⟨s1, s2⟩, ⟨s3, s4⟩, s5, s6, s7⟩ := hS
  have kp := nx_nI (k := p) (by omega)
  have in6 : ∀ a : Nat, a ≠ 0 → inbL a 6 (nI p) := fun a ha => ⟨ha, nI_nn (by omega), by rw [kp]; omega⟩
  obtain ⟨e17, b17, e18⟩ := s5 p hp
  have hup := hu p hp
  have r19 : rdN J 19 (nI p) = nI (u p) := by unfold rdN; rw [kp]; exact hU p hp
  have r17 : rdN J 17 (nI p) = nI (rm p) := by unfold rdN; rw [kp]; exact e17
  by_cases q : u p < rm p
  · have ew : wth rm cs (opt pc rm cs r) (smu u pc) u p = cs (smu u pc) p + opt pc rm cs r (smu u pc + 1) (upw u p (u p + 1)) := if_pos q
    have e1 : wrN J 19 (nI p) (nI (u p) + 1) = upI J 19 p (nI (u p + 1)) := by unfold wrN; rw [kp, nI_p1]
    obtain ⟨J1, h1, h2, h3⟩ := h (upI J 19 p (nI (u p + 1))) (upw u p (u p + 1)) (SH.fr ⟨⟨s1, s2⟩, ⟨s3, s4⟩, s5, s6, s7⟩ (upI_row (by decide)) (upI_row (by decide)) (upI_row (by decide)) (upI_row (by decide))) (fun p' hp' => by
      unfold upw
      by_cases e : p' = p
      · rw [if_pos e, e, upI_at]
      · rw [if_neg e, upI_cell e]; exact hU p' hp') (fun p' hp' => by
      unfold upw
      by_cases e : p' = p
      · rw [if_pos e, e]; omega
      · rw [if_neg e]; exact hu p' hp') (by rw [smu_up pc hp]; omega) (fun v z1 z2 => by rw [upI_row (by decide)]; exact hM v z1 z2)
    rw [smu_up pc hp, cdU_up pc hp] at h1
    have r18 : rdN (upI J 19 p (nI (u p + 1))) 18 (nI p) = nI (stp rm p) := by
      unfold rdN
      rw [kp, upI_row (by decide)]
      exact e18
    have k6 := nx_nI (k := 6 * smu u pc + p) (by omega)
    have r20 : rdN (upI J 19 p (nI (u p + 1))) 20 (nI (6 * smu u pc + p)) = nI (cs (smu u pc) p) := by
      unfold rdN
      rw [k6, upI_row (by decide)]
      exact (s7 _ _ (by omega) hp).1
    have r19' : rdN J1 19 (nI p) = nI (u p + 1) := by
      unfold rdN
      rw [kp, h2 19 (by decide), upI_at]
    refine ⟨upI J1 19 p (nI (u p)), ?_, fun b hb => ?_, fun v z1 z2 => by rw [upI_row (by decide)]; exact h3 v z1 z2⟩
    · unfold Rf_X4_leastWith
      rw [gd_pos (in6 _ (by decide)), gd_pos (in6 _ (by decide)), r19, r17, if_pos (by rw [nI_lt_iff (by omega) (by omega)]; exact q), e1]
      simp only [lt]
      rw [ix6, gd_pos ⟨by decide, nI_nn (by omega), by rw [k6]; omega⟩, gd_pos (in6 _ (by decide)), nI_p1, r18, nI_add, h1, Option.bind_some, r20, r19', nI_add, ← nI_1, Int32.add_sub_cancel, ew]
      unfold wrN
      rw [kp]
    · by_cases e : b = 19
      · subst e
        funext j
        by_cases ej : j = p
        · subst ej; rw [upI_at]; exact (hU j hp).symm
        · rw [upI_cell ej, h2 19 (by decide), upI_cell ej]
      · rw [upI_row e, h2 b hb, upI_row e]
  · have ew : wth rm cs (opt pc rm cs r) (smu u pc) u p = NB := if_neg q
    refine ⟨J, ?_, fun _ _ => rfl, hM⟩
    unfold Rf_X4_leastWith
    rw [gd_pos (in6 _ (by decide)), gd_pos (in6 _ (by decide)), r19, r17, if_neg (by rw [nI_lt_iff (by omega) (by omega)]; exact q), ew]
    rfl
theorem x_least (fu : Nat) (hfu : 100 < fu) {S : Sk} {n pc : Nat} {rm : Nat → Nat} {cs : Nat → Nat → Nat} (hcs : ∀ i p, i < n → p < pc → cs i p ≤ 1000) : ∀ r k, r < k → LF fu S n pc rm cs r (Rf_X4_leastFrom fu S k)
  | 0, k, hk, J, u, hS, hU, hu, hr, hM => by
    obtain ⟨k, rfl⟩ : ∃ j, k = j + 1 := ⟨k - 1, by omega⟩
    refine ⟨J, ?_, fun _ _ => rfl, hM⟩
    show Ro_X4_leastFrom fu S J (Rf_X4_leastFrom fu S k) _ _ = some (nI 0, J)
    unfold Ro_X4_leastFrom
    have := hS.1.2
    rw [hS.1.1, if_neg (by rw [nI_lt_iff (by omega) (by omega)]; omega)]
    rfl
  | r + 1, k, hk, J, u, hS, hU, hu, hr, hM => by
    obtain ⟨k, rfl⟩ : ∃ j, k = j + 1 := ⟨k - 1, by omega⟩
    have ih := x_least fu hfu (S := S) (rm := rm) hcs r k (by omega)
    have hn8 := hS.1.2
    have hpc := hS.2.1.2
    have hst := hS.2.2.2.1
    have hco := cdU_lt (rm := rm) (u := u) pc hu
    have kc := nx_nI (k := cdU rm u pc) (by omega)
    have hin : inbL 22 6561 (nI (cdU rm u pc)) := ⟨by decide, nI_nn (by omega), by rw [kc]; omega⟩
    have hobd := opt_bd (rm := rm) hcs (r + 1) (smu u pc) u (by omega)
    have eo : opt pc rm cs (r + 1) (smu u pc) u = mnf (wth rm cs (opt pc rm cs r) (smu u pc) u) pc := rfl
    have hmem := hM u hu (by omega)
    rw [show n - smu u pc = r + 1 by omega] at hmem
    show ∃ J', Ro_X4_leastFrom fu S J (Rf_X4_leastFrom fu S k) _ _ = _ ∧ _
    unfold Ro_X4_leastFrom
    rw [hS.1.1, if_pos (by rw [nI_lt_iff (by omega) (by omega)]; omega), gd_pos hin]
    have r21 : rdN J 21 (nI (cdU rm u pc)) = J 21 (cdU rm u pc) := by unfold rdN; rw [kc]
    rw [r21]
    by_cases q : J 21 (cdU rm u pc) = -1
    · rw [if_pos q]
      let P : Nat → Int32 → II → Prop := fun p v J' => v = nI (mnf (wth rm cs (opt pc rm cs r) (smu u pc) u) p) ∧ (∀ b, b ≠ 21 → J' b = J b) ∧ Mem n pc rm cs J'
      have main := fix3_ex (K := Unit) (F := fun _ => Rl_X4_leastFrom_26 fu S (Rf_X4_leastFrom fu S k) (nI (smu u pc)) (nI (cdU rm u pc))) (fun i => nI i) P (fun _ v J' => some (v, upI J' 21 (cdU rm u pc) v)) pc (fun p v J' hp hP => ?_) (fun v J' hP κ self => ?_) pc 0 1073741824 J (by omega) ⟨rfl, fun _ _ => rfl, hM⟩ fu (by omega)
      · obtain ⟨v, J', ⟨rfl, p1, p2⟩, hrun⟩ := main
        refine ⟨upI J' 21 (cdU rm u pc) (nI (opt pc rm cs (r + 1) (smu u pc) u)), hrun (), fun b hb => by rw [upI_row hb]; exact p1 b hb, fun v z1 z2 => ?_⟩
        by_cases e : cdU rm v pc = cdU rm u pc
        · right
          have huv := cdU_inj pc z1 hu e
          rw [e, upI_at, smu_cg pc huv, show n - smu u pc = r + 1 by omega, opt_cg pc rm cs (r + 1) (smu u pc) v u huv]
        · rw [upI_cell e]; exact p2 v z1 z2
      · obtain ⟨rfl, p1, p2⟩ := hP
        obtain ⟨J2, w1, w2, w3⟩ := x_with fu ih (J := J') (u := u) (hS.fr (p1 15 (by decide)) (p1 17 (by decide)) (p1 18 (by decide)) (p1 20 (by decide))) (fun p' hp' => by rw [p1 19 (by decide)]; exact hU p' hp') hu hr p2 hp
        have hle := (mnf_le (wth rm cs (opt pc rm cs r) (smu u pc) u) p).1
        have hwle : wth rm cs (opt pc rm cs r) (smu u pc) u p ≤ NB + 1000 := by
          unfold wth
          split
          · have h1 := hcs (smu u pc) p (by omega) hp
            have h2 := opt_le pc rm cs r (smu u pc + 1) (upw u p (u p + 1))
            omega
          · omega
        refine ⟨nI (mnf (wth rm cs (opt pc rm cs r) (smu u pc) u) (p + 1)), J2, ⟨rfl, fun b hb => (w2 b hb).trans (p1 b hb), w3⟩, fun _ self => ?_⟩
        have e15 : J' 15 3 = nI pc := by rw [p1 15 (by decide)]; exact hS.2.1.1
        show Rl_X4_leastFrom_26 fu S (Rf_X4_leastFrom fu S k) (nI (smu u pc)) (nI (cdU rm u pc)) self _ (nI p) J' = _
        unfold Rl_X4_leastFrom_26
        rw [e15, if_neg (by rw [nI_le_iff (by omega) (by omega)]; omega), w1, Option.bind_some]
        simp only [lt]
        rw [jmin_nI (by simp only [NB] at *; omega) (by simp only [NB] at *; omega), nI_p1]
        rfl
      · obtain ⟨rfl, p1, p2⟩ := hP
        have e15 : J' 15 3 = nI pc := by rw [p1 15 (by decide)]; exact hS.2.1.1
        show Rl_X4_leastFrom_26 fu S (Rf_X4_leastFrom fu S k) (nI (smu u pc)) (nI (cdU rm u pc)) self _ (nI pc) J' = _
        unfold Rl_X4_leastFrom_26 Rj_X4_leastFrom_61
        rw [e15, if_pos (Int32.le_refl _), gd_pos hin]
        simp only [lt]
        rw [gd_pos hin]
        unfold wrN rdN
        rw [kc, upI_at]
    · rw [if_neg q]
      have hv := hmem.resolve_left q
      refine ⟨J, ?_, fun _ _ => rfl, hM⟩
      unfold Rj_X4_leastFrom_61
      rw [gd_pos hin, r21, hv]
