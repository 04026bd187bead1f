/-! night: the class's goOn -/
theorem Out.cg {V W : Nat → Nat} {A m : Nat} {o : Option Nat} (h : ∀ x, x < m → V x = W x) (ho : Out V A m o) : Out W A m o ∧ best W A o = best V A o := by
  cases o with
  | none => exact ⟨fun x hx => by rw [← h x hx]; exact ho x hx, rfl⟩
  | some x0 =>
    obtain ⟨a1, a2, a3⟩ := ho
    refine ⟨⟨a1, by rw [← h x0 a1]; exact a2, fun x hx => ?_⟩, (h x0 a1).symm⟩
    rw [← h x0 a1, ← h x hx]
    exact a3 x hx
def NH (ns n : Nat) (fr : Nat → Nat → Nat) (st op cl : Nat → Nat) (J : II) : Prop := CH ns fr J ∧ (J 23 5 = nI n ∧ n ≤ 6) ∧ ∀ b, b < n → (J 24 b = nI (st b) ∧ st b < ns) ∧ (J 25 b = nI (op b) ∧ op b ≤ 3000) ∧ J 26 b = nI (cl b) ∧ cl b ≤ NB + 1440
theorem NH.fr_ {ns n : Nat} {fr : Nat → Nat → Nat} {st op cl : Nat → Nat} {J J' : II} (h : NH ns n fr st op cl J) (h1 : J' 1 = J 1) (h4 : J' 4 = J 4) (h5 : J' 23 5 = J 23 5) (h24 : J' 24 = J 24) (h25 : J' 25 = J 25) (h26 : J' 26 = J 26) : NH ns n fr st op cl J' := by
  obtain ⟨a, b, c⟩ := h
  unfold NH
  rw [h5, h24, h25, h26]
  exact ⟨a.fr h1 h4, b, c⟩
/-- what goOn is to do with so many boards left -/
def GN (ns n : Nat) (fr : Nat → Nat → Nat) (st op cl : Nat → Nat) (r : Nat) (rc : II → Int32 → Int32 → Int32 → Int32 → Option II) : Prop :=
  ∀ (J : II) (at_ now tk A dp : Nat), NH ns n fr st op cl J → dp + r = n → J 23 7 = nI A → A ≤ NB → now < A → now ≤ 4000 + 100 * dp → at_ < ns → tk < 64 →
    ∃ J' o, rc J (nI dp) (nI at_) (nI now) (nI tk) = some J' ∧ Out (Vn n fr st op cl r at_ now tk) A (n ^ r) o ∧ J' 23 7 = nI (best (Vn n fr st op cl r at_ now tk) A o) ∧ (∀ b, b ≠ 23 → b ≠ 27 → b ≠ 28 → J' b = J b) ∧ (∀ j, j ≠ 7 → J' 23 j = J 23 j) ∧ (∀ k, k < dp → J' 27 k = J 27 k) ∧ ((o = none ∧ ∀ k, k < n → J' 28 k = J 28 k) ∨ ∃ x0, o = some x0 ∧ (∀ k, k < dp → J' 28 k = J 27 k) ∧ ∀ k, k < r → J' 28 (dp + k) = nI (st (dgt n r x0 k)))
theorem x_goOn (fu : Nat) (hfu : 100 < fu) {D : Dn} {ns n : Nat} {fr : Nat → Nat → Nat} {st op cl : Nat → Nat} : ∀ r k, r < k → GN ns n fr st op cl r (Rf_X3_goOn fu (mkS D) k)
  | 0, k, hk, J, at_, now, tk, A, dp, hN, hdp, e7, hA, hnow, hb, hat, htk => by
    obtain ⟨k, rfl⟩ : ∃ j, k = j + 1 := ⟨k - 1, by omega⟩
    have hn6 := hN.2.1.2
    have hdn : dp = n := by omega
    subst hdn
    obtain ⟨G, eG⟩ : ∃ G : II, (fun a k => if a = 28 ∧ k < dp then (upI J 23 7 (nI now)) 27 k else upI J 23 7 (nI now) a k) = G := ⟨_, rfl⟩
    have g1 : ∀ b, b ≠ 28 → G b = upI J 23 7 (nI now) b := fun b hb => by
      funext k
      rw [← eG]
      exact if_neg (fun z => hb z.1)
    have g2 : ∀ k, k < dp → G 28 k = J 27 k := fun k hk => by
      rw [← eG]
      exact (if_pos ⟨rfl, hk⟩).trans (by rw [upI_row (by decide)])
    refine ⟨G, some 0, ?_, ⟨by show 0 < 1; decide, hnow, fun x hx => ⟨Nat.le_refl _, fun z => by omega⟩⟩, by rw [g1 23 (by decide), upI_at]; rfl, fun b b1 b2 b3 => by rw [g1 b b3, upI_row b1], fun j hj => by rw [g1 23 (by decide), upI_cell hj], fun k hk => by rw [g1 27 (by decide), upI_row (by decide)], Or.inr ⟨0, rfl, g2, fun k hk => absurd hk (Nat.not_lt_zero _)⟩⟩
    show Ro_X3_goOn fu (mkS D) J (Rf_X3_goOn fu (mkS D) k) (nI dp) (nI at_) (nI now) (nI tk) = some G
    have kn := nx_nI (k := dp) (by omega)
    have e5 : upI J 23 7 (nI now) 23 5 = nI dp := by rw [upI_cell (by decide)]; exact hN.2.1.1
    have hin : inC (mkS D) 28 (0 : Int32) 29 (0 : Int32) (nI dp) := ⟨by decide, by decide, by decide, by decide, nI_nn (by omega), by rw [kn]; show 0 + dp ≤ 6; omega, by rw [kn]; show 0 + dp ≤ 6; omega⟩
    unfold Ro_X3_goOn
    rw [hN.2.1.1, if_neg (by rw [nI_lt_iff (by omega) (by omega)]; omega)]
    simp only [lt]
    rw [e5, gd_pos hin]
    congr 1
    rw [← eG]
    funext a k
    unfold cpI
    rw [kn]
    show (if a = 28 ∧ 0 ≤ k ∧ k < 0 + dp then upI J 23 7 (nI now) 27 (0 + (k - 0)) else upI J 23 7 (nI now) a k) = _
    by_cases q : a = 28 ∧ k < dp
    · rw [if_pos (by omega), if_pos q, Nat.sub_zero, Nat.zero_add]
    · rw [if_neg (by omega), if_neg q]
  | r + 1, k, hk, J, at_, now, tk, A, dp, hN, hdp, e7, hA, hnow, hb, hat, htk => by
    obtain ⟨k, rfl⟩ : ∃ j, k = j + 1 := ⟨k - 1, by omega⟩
    have ih := x_goOn fu hfu (D := D) (ns := ns) (n := n) (fr := fr) (st := st) (op := op) (cl := cl) r k (by omega)
    have hn6 := hN.2.1.2
    have hns := hN.1.1.2
    let V : Nat → Nat := Vn n fr st op cl (r + 1) at_ now tk
    let P : Nat → II → Prop := fun b J' => ∃ o, Out V A (b * n ^ r) o ∧ J' 23 7 = nI (best V A o) ∧ (∀ c, c ≠ 23 → c ≠ 27 → c ≠ 28 → J' c = J c) ∧ (∀ j, j ≠ 7 → J' 23 j = J 23 j) ∧ (∀ k, k < dp → J' 27 k = J 27 k) ∧ ((o = none ∧ ∀ k, k < n → J' 28 k = J 28 k) ∨ ∃ x0, o = some x0 ∧ (∀ k, k < dp → J' 28 k = J 27 k) ∧ ∀ k, k < r + 1 → J' 28 (dp + k) = nI (st (dgt n (r + 1) x0 k)))
    have main := fix2_ex (K := Unit) (F := fun _ => Rl_X3_goOn_34 fu (mkS D) (Rf_X3_goOn fu (mkS D) k) (nI dp) (nI at_) (nI now) (nI tk)) (fun i => nI i) P (fun _ J' => some J') n (fun b J' hbn hP => ?_) (fun J' hP κ self => ?_) n 0 J (by omega) ⟨none, fun x hx => by rw [Nat.zero_mul] at hx; exact absurd hx (Nat.not_lt_zero _), e7, fun _ _ _ _ => rfl, fun _ _ => rfl, fun _ _ => rfl, Or.inl ⟨rfl, fun _ _ => rfl⟩⟩ fu (by omega)
    · obtain ⟨J', ⟨o, p1, p2, p3, p4, p5, p6⟩, hrun⟩ := main
      rw [Nat.mul_comm, ← Nat.pow_succ] at p1
      refine ⟨J', o, ?_, p1, p2, p3, p4, p5, p6⟩
      show Ro_X3_goOn fu (mkS D) J (Rf_X3_goOn fu (mkS D) k) (nI dp) (nI at_) (nI now) (nI tk) = some J'
      unfold Ro_X3_goOn
      rw [hN.2.1.1, if_pos (by rw [nI_lt_iff (by omega) (by omega)]; omega)]
      exact hrun ()
    · obtain ⟨o, p1, p2, p3, p4, p5, p6⟩ := hP
      have hN' : NH ns n fr st op cl J' := hN.fr_ (p3 1 (by decide) (by decide) (by decide)) (p3 4 (by decide) (by decide) (by decide)) (p4 5 (by decide)) (p3 24 (by decide) (by decide) (by decide)) (p3 25 (by decide) (by decide) (by decide)) (p3 26 (by decide) (by decide) (by decide))
      have hbest := best_le p1
      obtain ⟨B, eB⟩ : ∃ B, best V A o = B := ⟨_, rfl⟩
      rw [eB] at p2 hbest
      obtain ⟨⟨s1, s2⟩, ⟨s3, s4⟩, s5, s6⟩ := hN'.2.2 b hbn
      have kb := nx_nI (k := b) (by omega)
      have in6 : ∀ a : Nat, a ≠ 0 → inbL a 6 (nI b) := fun a ha => ⟨ha, nI_nn (by omega), by rw [kb]; omega⟩
      have r24 : rdN J' 24 (nI b) = nI (st b) := by unfold rdN; rw [kb]; exact s1
      have r25 : rdN J' 25 (nI b) = nI (op b) := by unfold rdN; rw [kb]; exact s3
      have r26 : rdN J' 26 (nI b) = nI (cl b) := by unfold rdN; rw [kb]; exact s5
      have hw := x_walkJ fu (S := mkS D) hN'.1 hat s2
      have hfr := (hN'.1.2 at_ (st b) hat s2).2
      obtain ⟨dn, edn⟩ : ∃ dn, dnt fr st op at_ now b = dn := ⟨_, rfl⟩
      have hdn : dn ≤ 4000 + 100 * (dp + 1) := by rw [← edn]; unfold dnt; omega
      have hmax : jmax (nI now + nI (fr at_ (st b))) (nI (op b)) + 5 = nI dn := by
        rw [nI_add, jmax_nI (by omega) (by omega), ← edn]
        exact nI_add _ 5
      have hh := has_at (m := tk) (s := b) (by omega) (by omega)
      have hc0 : ¬ nI n ≤ nI b := by rw [nI_le_iff (by omega) (by omega)]; omega
      have hV : ∀ x, x < n ^ r → V (b * n ^ r + x) = if tk.testBit b = true then NB else if dn ≤ cl b then Vn n fr st op cl r (st b) dn (tk ||| 2 ^ b) x else NB := fun x hx => by
        have hpos : 0 < n ^ r := by omega
        have e1 : (b * n ^ r + x) / n ^ r = b := by rw [Nat.mul_comm, Nat.mul_add_div hpos, Nat.div_eq_of_lt hx, Nat.add_zero]
        have e2 : (b * n ^ r + x) % n ^ r = x := by rw [Nat.mul_comm, Nat.mul_add_mod, Nat.mod_eq_of_lt hx]
        show (if tk.testBit ((b * n ^ r + x) / n ^ r) = true then NB else if dnt fr st op at_ now ((b * n ^ r + x) / n ^ r) ≤ cl ((b * n ^ r + x) / n ^ r) then Vn n fr st op cl r (st ((b * n ^ r + x) / n ^ r)) (dnt fr st op at_ now ((b * n ^ r + x) / n ^ r)) (tk ||| 2 ^ ((b * n ^ r + x) / n ^ r)) ((b * n ^ r + x) % n ^ r) else NB) = _
        rw [e1, e2, edn]
      have hsucc : b * n ^ r + n ^ r = (b + 1) * n ^ r := by rw [Nat.add_mul, Nat.one_mul]
      -- nothing found in this block
      have hnone : (∀ x, x < n ^ r → B ≤ V (b * n ^ r + x)) → (∀ self, Rl_X3_goOn_34 fu (mkS D) (Rf_X3_goOn fu (mkS D) k) (nI dp) (nI at_) (nI now) (nI tk) self (nI b) J' = self (nI (b + 1)) J') → ∃ J2, P (b + 1) J2 ∧ ∀ (_ : Unit) self, Rl_X3_goOn_34 fu (mkS D) (Rf_X3_goOn fu (mkS D) k) (nI dp) (nI at_) (nI now) (nI tk) self (nI b) J' = self (nI (b + 1)) J2 := by
        intro h1 h2
        obtain ⟨o2, q1, q2, q3⟩ := Out.more (k := n ^ r) (o' := none) p1 (by rw [eB]; exact h1)
        have eo : o2 = o := by
          rcases q3 with ⟨-, z⟩ | ⟨x', z, -⟩
          · exact z
          · exact absurd z (by simp)
        subst eo
        refine ⟨J', ⟨o2, by rw [← hsucc]; exact q1, by rw [eB]; exact p2, p3, p4, p5, p6⟩, fun _ self => h2 self⟩
      by_cases qt : tk.testBit b = true
      · rw [if_pos qt] at hh
        refine hnone (fun x hx => ?_) (fun self => ?_)
        · rw [hV x hx, if_pos qt]; omega
        · unfold Rl_X3_goOn_34 Rj_X3_goOn_145
          rw [hN'.2.1.1, if_neg hc0, hh, if_neg i1ne, nI_p1]
      · rw [if_neg qt] at hh
        have hpre : ∀ self, Rl_X3_goOn_34 fu (mkS D) (Rf_X3_goOn fu (mkS D) k) (nI dp) (nI at_) (nI now) (nI tk) self (nI b) J' = if cl b < dn then self (nI (b + 1)) J' else if B ≤ dn then self (nI (b + 1)) J' else (Rf_X3_goOn fu (mkS D) k (upI J' 27 dp (nI (st b))) (nI (dp + 1)) (nI (st b)) (nI dn) (nI (tk ||| 2 ^ b))).bind fun q24 => self (nI (b + 1)) q24 := by
          intro self
          have c1 : nI (cl b) < nI dn ↔ cl b < dn := nI_lt_iff (by simp only [NB] at *; omega) (by omega)
          have c2 : nI B ≤ nI dn ↔ B ≤ dn := nI_le_iff (by simp only [NB] at *; omega) (by omega)
          have kd := nx_nI (k := dp) (by omega)
          have r24' : rdN (upI J' 27 dp (nI (st b))) 24 (nI b) = nI (st b) := by unfold rdN; rw [upI_row (by decide), kb]; exact s1
          have h2b : 2 ^ b < 64 := by
            have := Nat.pow_lt_pow_right (a := 2) (by decide) (show b < 6 by omega)
            exact this
          unfold Rl_X3_goOn_34 Rj_X3_goOn_145
          rw [hN'.2.1.1, if_neg hc0, hh, if_pos rfl, gd_pos (in6 _ (by decide)), r24, hw, Option.bind_some, gd_pos (in6 _ (by decide)), r25]
          simp only [lt]
          rw [hmax, gd_pos (in6 _ (by decide)), r26, p2, nI_p1]
          by_cases z1 : cl b < dn
          · rw [if_pos (c1.mpr z1), if_pos z1]
          · rw [if_neg (fun y => z1 (c1.mp y)), if_neg z1]
            by_cases z2 : B ≤ dn
            · rw [if_pos (c2.mpr z2), if_pos z2]
            · rw [if_neg (fun y => z2 (c2.mp y)), if_neg z2, gd_pos ⟨by decide, nI_nn (by omega), by rw [kd]; omega⟩]
              unfold wrN
              rw [kd, r24', nI_p1, nI_one (by omega), nI_or (by omega) (by omega)]
        by_cases z1 : cl b < dn
        · refine hnone (fun x hx => ?_) (fun self => (hpre self).trans (if_pos z1))
          rw [hV x hx, if_neg qt, if_neg (by omega)]; omega
        · by_cases z2 : B ≤ dn
          · refine hnone (fun x hx => ?_) (fun self => (hpre self).trans ((if_neg z1).trans (if_pos z2)))
            rw [hV x hx, if_neg qt, if_pos (by omega)]
            rcases Vn_ge n fr st op cl r (st b) dn (tk ||| 2 ^ b) x (by simp only [NB]; omega) with y | y <;> omega
          · have h2b : 2 ^ b < 2 ^ 6 := Nat.pow_lt_pow_right (by decide) (by omega)
            obtain ⟨J2, o', w1, w2, w3, w4, w5, w6, w7⟩ := ih (upI J' 27 dp (nI (st b))) (st b) dn (tk ||| 2 ^ b) B (dp + 1) (hN'.fr_ (upI_row (by decide)) (upI_row (by decide)) (by rw [upI_row (by decide)]) (upI_row (by decide)) (upI_row (by decide)) (upI_row (by decide))) (by omega) (by rw [upI_row (by decide)]; exact p2) (by omega) (by omega) hdn s2 (Nat.or_lt_two_pow (n := 6) htk h2b)
            have hcg : ∀ x, x < n ^ r → Vn n fr st op cl r (st b) dn (tk ||| 2 ^ b) x = V (b * n ^ r + x) := fun x hx => by rw [hV x hx, if_neg qt, if_pos (by omega)]
            obtain ⟨w2', w2b⟩ := Out.cg (W := fun x => V (b * n ^ r + x)) hcg w2
            obtain ⟨o2, q1, q2, q3⟩ := Out.more (k := n ^ r) p1 (by rw [eB]; exact w2')
            have e27 : ∀ k, k < dp → J2 27 k = J 27 k := fun k hk => by
              rw [w6 k (by omega), upI_cell (by omega)]
              exact p5 k hk
            refine ⟨J2, ⟨o2, by rw [← hsucc]; exact q1, ?_, fun c c1 c2 c3 => by rw [w4 c c1 c2 c3, upI_row c2]; exact p3 c c1 c2 c3, fun j hj => by rw [w5 j hj, upI_row (by decide)]; exact p4 j hj, e27, ?_⟩, fun _ self => (hpre self).trans ((if_neg z1).trans ((if_neg z2).trans (by rw [w1, Option.bind_some])))⟩
            · rw [w3, q2, eB, w2b]
            · rcases q3 with ⟨y1, y2⟩ | ⟨x', y1, y2⟩
              · subst y2
                rcases w7 with ⟨v1, v2⟩ | ⟨x0, v1, -⟩
                · have e28 : ∀ k, k < n → J2 28 k = J' 28 k := fun k hk => by rw [v2 k hk, upI_row (by decide)]
                  rcases p6 with ⟨u1, u2⟩ | ⟨x0, u1, u2, u3⟩
                  · exact Or.inl ⟨u1, fun k hk => by rw [e28 k hk]; exact u2 k hk⟩
                  · exact Or.inr ⟨x0, u1, fun k hk => by rw [e28 k (by omega)]; exact u2 k hk, fun k hk => by rw [e28 (dp + k) (by omega)]; exact u3 k hk⟩
                · rw [y1] at v1; exact absurd v1 (by simp)
              · rcases w7 with ⟨v1, -⟩ | ⟨x0, v1, v2, v3⟩
                · rw [y1] at v1; exact absurd v1 (by simp)
                · have ex : x0 = x' := by
                    rw [y1] at v1
                    exact (Option.some.inj v1).symm
                  subst ex
                  have hx0 : x0 < n ^ r := by
                    rw [y1] at w2
                    exact w2.1
                  refine Or.inr ⟨b * n ^ r + x0, y2, fun k hk => ?_, fun k hk => ?_⟩
                  · rw [v2 k (by omega), upI_cell (by omega)]; exact p5 k hk
                  · by_cases e : k = 0
                    · subst e
                      rw [Nat.add_zero, v2 dp (by omega), upI_at, dgt_0 hx0 hbn]
                    · obtain ⟨k', rfl⟩ : ∃ k', k = k' + 1 := ⟨k - 1, by omega⟩
                      rw [show dp + (k' + 1) = dp + 1 + k' by omega, v3 k' (by omega), dgt_s (by omega) (by omega)]
    · obtain ⟨o, p1, p2, p3, p4, p5, p6⟩ := hP
      show Rl_X3_goOn_34 fu (mkS D) (Rf_X3_goOn fu (mkS D) k) (nI dp) (nI at_) (nI now) (nI tk) self (nI n) J' = _
      unfold Rl_X3_goOn_34
      rw [p4 5 (by decide), hN.2.1.1, if_pos (Int32.le_refl _)]
