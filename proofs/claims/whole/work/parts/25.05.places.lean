/-! sharing: places and costs -/
def PL (n q : Nat) (rm : Nat → Nat) (f : Int32) (J : II) : Prop := (J 15 1 = nI n ∧ n ≤ 8) ∧ J 15 2 = f ∧ J 15 3 = nI q ∧ J 15 4 = nI (stp rm q) ∧ ∀ p, p < q → J 17 p = nI (rm p) ∧ J 18 p = nI (stp rm p) ∧ J 19 p = nI 0
theorem x_add (fu : Nat) {S : Sk} {J : II} {n q a : Nat} {rm : Nat → Nat} {f : Int32} (h : PL n q rm f J) (hq : q < 6) (ha : a ≤ 9) (hrm : rm q = min a n) (hst : stp rm (q + 1) ≤ 6561) : ∃ J', Rf_X4_addPlace fu S J (nI a) = some J' ∧ PL n (q + 1) rm f J' ∧ ∀ b, b ≠ 15 → b ≠ 17 → b ≠ 18 → b ≠ 19 → J' b = J b := by
  obtain ⟨⟨h1, h8⟩, h2, h3, h4, h5⟩ := h
  have kq := nx_nI (k := q) (by omega)
  have hstq := stp_le rm (q + 1) q (by omega)
  have in6 : ∀ b : Nat, b ≠ 0 → inbL b 6 (nI q) := fun b hb => ⟨hb, nI_nn (by omega), by rw [kq]; exact hq⟩
  have es : stp rm (q + 1) = stp rm q * (rm q + 1) := rfl
  obtain ⟨J', eJ⟩ : ∃ J' : II, upI (upI (upI (upI (upI J 17 q (nI (rm q))) 19 q 0) 18 q (nI (stp rm q))) 15 4 (nI (stp rm (q + 1)))) 15 3 (nI (q + 1)) = J' := ⟨_, rfl⟩
  refine ⟨J', ?_, ⟨⟨?_, h8⟩, ?_, ?_, ?_, fun p hp => ?_⟩, fun b b1 b2 b3 b4 => ?_⟩
  · have hmin : jmin (nI a) (nI n) = nI (rm q) := by rw [hrm]; exact jmin_nI (by omega) (by omega)
    have w1 : upI J 17 q (nI (rm q)) 15 3 = nI q := by rw [upI_row (by decide), h3]
    have w2 : upI (upI J 17 q (nI (rm q))) 19 q 0 15 3 = nI q := by rw [upI_row (by decide), w1]
    have w2' : upI (upI J 17 q (nI (rm q))) 19 q 0 15 4 = nI (stp rm q) := by rw [upI_row (by decide), upI_row (by decide), h4]
    have w3 : upI (upI (upI J 17 q (nI (rm q))) 19 q 0) 18 q (nI (stp rm q)) 15 3 = nI q := by rw [upI_row (by decide), w2]
    have w4 : upI (upI (upI J 17 q (nI (rm q))) 19 q 0) 18 q (nI (stp rm q)) 15 4 = nI (stp rm q) := by rw [upI_row (by decide), w2']
    have w5 : rdN (upI (upI (upI J 17 q (nI (rm q))) 19 q 0) 18 q (nI (stp rm q))) 17 (nI q) = nI (rm q) := by
      unfold rdN
      rw [kq, upI_row (by decide), upI_row (by decide), upI_at]
    have w6 : upI (upI (upI (upI J 17 q (nI (rm q))) 19 q 0) 18 q (nI (stp rm q))) 15 4 (nI (stp rm (q + 1))) 15 3 = nI q := by rw [upI_cell (by decide), w3]
    have hmn : jmin (6561 : Int32) (nI (stp rm q) * (nI (rm q) + 1)) = nI (stp rm (q + 1)) := by
      rw [nI_p1, nI_mul, ← es, show (6561 : Int32) = nI 6561 from rfl, jmin_nI (by decide) (by omega)]
      congr 1
      omega
    unfold Rf_X4_addPlace
    rw [h3, if_neg (by rw [show (6 : Int32) = nI 6 from rfl, nI_le_iff (by decide) (by omega)]; omega), gd_pos (in6 _ (by decide)), h1, hmin]
    unfold wrN
    rw [kq]
    simp only [lt]
    rw [w1, gd_pos (in6 _ (by decide)), kq, w2, gd_pos (in6 _ (by decide)), kq, w2', w3, gd_pos (in6 _ (by decide)), w4, w5, hmn, w6, nI_p1, eJ]
  · rw [← eJ, upI_cell (by decide), upI_cell (by decide), upI_row (by decide), upI_row (by decide), upI_row (by decide)]; exact h1
  · rw [← eJ, upI_cell (by decide), upI_cell (by decide), upI_row (by decide), upI_row (by decide), upI_row (by decide)]; exact h2
  · rw [← eJ, upI_at]
  · rw [← eJ, upI_cell (by decide), upI_at]
  · by_cases e : p = q
    · subst e
      refine ⟨?_, ?_, ?_⟩
      · rw [← eJ, upI_row (by decide), upI_row (by decide), upI_row (by decide), upI_row (by decide), upI_at]
      · rw [← eJ, upI_row (by decide), upI_row (by decide), upI_at]
      · rw [← eJ, upI_row (by decide), upI_row (by decide), upI_row (by decide), upI_at]
        rfl
    · obtain ⟨y1, y2, y3⟩ := h5 p (by omega)
      refine ⟨?_, ?_, ?_⟩
      · rw [← eJ, upI_row (by decide), upI_row (by decide), upI_row (by decide), upI_row (by decide), upI_cell e]; exact y1
      · rw [← eJ, upI_row (by decide), upI_row (by decide), upI_cell e, upI_row (by decide), upI_row (by decide)]; exact y2
      · rw [← eJ, upI_row (by decide), upI_row (by decide), upI_row (by decide), upI_cell e, upI_row (by decide)]; exact y3
  · rw [← eJ, upI_row b1, upI_row b1, upI_row b3, upI_row b4, upI_row b2]
theorem x_setCost (fu : Nat) {S : Sk} {J : II} {i p v : Nat} (hi : i < 8) (hp : p < 6) : Rf_X4_setCost fu S J (nI i) (nI p) (nI v) = some (upI J 20 (6 * i + p) (nI v)) := by
  have k := nx_nI (k := 6 * i + p) (by omega)
  unfold Rf_X4_setCost wrN
  rw [ix6, gd_pos ⟨by decide, nI_nn (by omega), by rw [k]; omega⟩, k]
/-- one place's costs, line by line -/
theorem cost_loop (fu : Nat) (hfu : 100 < fu) {F : (Int32 → II → Option (Int32 × II)) → (Int32 → II → Option (Int32 × II)) → Int32 → II → Option (Int32 × II)} {I J : II} (hK : Keep I J) {n q d : Nat} {rm : Nat → Nat} {f : Int32} {cs : Nat → Nat → Nat} (hP : PL n q rm f J) (hd : d < 6) (hstep : ∀ J' i, Keep I J' → J' 15 = J 15 → J' 16 = J 16 → i < n → ∀ κ self, F κ self (nI i) J' = self (nI (i + 1)) (upI J' 20 (6 * i + d) (nI (cs i d)))) (hfin : ∀ J' κ self, J' 15 = J 15 → F κ self (nI n) J' = κ (nI (d + 1)) J') :
    ∃ J', (∀ κ, fix2 (F κ) fu 0 J = κ (nI (d + 1)) J') ∧ Keep I J' ∧ (∀ b, b ≠ 20 → J' b = J b) ∧ (∀ i, i < n → J' 20 (6 * i + d) = nI (cs i d)) ∧ ∀ i p, i < n → p < 6 → p ≠ d → J' 20 (6 * i + p) = J 20 (6 * i + p) := by
  have main := fix2_ex (K := Int32 → II → Option (Int32 × II)) (F := F) (fun i => nI i) (fun i J' => Keep I J' ∧ (∀ b, b ≠ 20 → J' b = J b) ∧ (∀ i', i' < i → J' 20 (6 * i' + d) = nI (cs i' d)) ∧ ∀ j, (∀ i', i' < i → j ≠ 6 * i' + d) → J' 20 j = J 20 j) (fun κ J' => κ (nI (d + 1)) J') n (fun i J' hi hQ => ?_) (fun J' hQ κ self => hfin J' κ self (hQ.2.1 15 (by decide))) n 0 J (by omega) ⟨hK, fun _ _ => rfl, fun i' h => absurd h (Nat.not_lt_zero _), fun _ _ => rfl⟩ fu (by have := hP.1.2; omega)
  · obtain ⟨J', ⟨q1, q2, q3, q4⟩, hrun⟩ := main
    exact ⟨J', hrun, q1, q2, q3, fun i p hi hp hne => q4 _ (fun i' _ => by omega)⟩
  · obtain ⟨q1, q2, q3, q4⟩ := hQ
    refine ⟨upI J' 20 (6 * i + d) (nI (cs i d)), ⟨q1.tr (fun a j z => by rw [upI_row (fun e => z (by unfold scr; omega))]), fun b hb => by rw [upI_row hb]; exact q2 b hb, fun i' hi' => ?_, fun j hj => ?_⟩, hstep J' i q1 (q2 15 (by decide)) (q2 16 (by decide)) hi⟩
    · by_cases e : i' = i
      · subst e; exact upI_at
      · rw [upI_cell (by omega)]; exact q3 i' (by omega)
    · rw [upI_cell (hj i (by omega))]
      exact q4 j (fun i' hi' => hj i' (by omega))
/-- places one by one, then the answer -/
theorem places_loop (fu : Nat) (hfu : 7000 < fu) {D : Dn} {I J : II} (hK : Keep I J) {n pc : Nat} {rm a : Nat → Nat} {f : Int32} {cs : Nat → Nat → Nat} {ln : Nat → Nat} {x : Int32} {F : (Int32 → II → Option (Int32 × II)) → Int32 → II → Option (Int32 × II)} {G : Nat → (Int32 → II → Option (Int32 × II)) → (Int32 → II → Option (Int32 × II)) → Int32 → II → Option (Int32 × II)} (hP : PL n 0 rm f J) (hL : LN n ln J) (hpc : pc ≤ 6) (ha : ∀ p, p < pc → a p ≤ 9 ∧ rm p = min (a p) n) (hst : stp rm pc ≤ 6561) (hcs : ∀ i p, i < n → p < pc → cs i p ≤ 1000)
    (hF : ∀ J' d, Keep I J' → d < pc → ∀ self, F self (nI d) J' = (Rf_X4_addPlace fu (mkS D) J' (nI (a d))).bind fun q34 => fix2 (G d self) fu 0 q34) (hFe : ∀ J' self, Keep I J' → F self (nI pc) J' = (Rf_X4_answer fu (mkS D) J' x).bind fun q => some (q.1, q.2))
    (hG : ∀ J' d i, Keep I J' → d < pc → J' 15 1 = nI n → LN n ln J' → i < n → ∀ κ self, G d κ self (nI i) J' = self (nI (i + 1)) (upI J' 20 (6 * i + d) (nI (cs i d)))) (hGe : ∀ J' d κ self, J' 15 1 = nI n → d < pc → G d κ self (nI n) J' = κ (nI (d + 1)) J') :
    ∃ J', fix2 F fu 0 J = (Rf_X4_answer fu (mkS D) J' x).bind (fun q => some (q.1, q.2)) ∧ Keep I J' ∧ PL n pc rm f J' ∧ LN n ln J' ∧ ∀ i p, i < n → p < pc → J' 20 (6 * i + p) = nI (cs i p) := by
  have main := fix2_ex (K := Unit) (F := fun _ => F) (fun i => nI i) (fun d J' => Keep I J' ∧ PL n d rm f J' ∧ LN n ln J' ∧ ∀ i p, i < n → p < d → J' 20 (6 * i + p) = nI (cs i p)) (fun _ J' => (Rf_X4_answer fu (mkS D) J' x).bind (fun q => some (q.1, q.2))) pc (fun d J' hd hQ => ?_) (fun J' hQ κ self => hFe J' self hQ.1) pc 0 J (by omega) ⟨hK, hP, hL, fun i p _ h => absurd h (Nat.not_lt_zero _)⟩ fu (by omega)
  · obtain ⟨J', ⟨q1, q2, q3, q4⟩, hrun⟩ := main
    exact ⟨J', hrun (), q1, q2, q3, q4⟩
  · obtain ⟨q1, q2, q3, q4⟩ := hQ
    obtain ⟨h9, hrm⟩ := ha d hd
    obtain ⟨J1, a1, a2, a3⟩ := x_add fu (S := mkS D) q2 (by omega) h9 hrm (Nat.le_trans (stp_le rm pc (d + 1) (by omega)) hst)
    have k1 : Keep I J1 := q1.tr (fun b j z => by rw [a3 b (fun e => z (by unfold scr; omega)) (fun e => z (by unfold scr; omega)) (fun e => z (by unfold scr; omega)) (fun e => z (by unfold scr; omega))])
    have l1 : LN n ln J1 := fun k hk => by rw [a3 16 (by decide) (by decide) (by decide) (by decide)]; exact q3 k hk
    obtain ⟨J2, b1, b2, b3, b4, b5⟩ := cost_loop fu (by omega) (F := G d) k1 (cs := cs) (d := d) a2 (by omega) (fun J' i z1 z2 z3 hi κ self => hG J' d i z1 hd (by rw [z2]; exact a2.1.1) (fun k hk => by rw [z3]; exact l1 k hk) hi κ self) (fun J' κ self z => hGe J' d κ self (by rw [z]; exact a2.1.1) hd)
    refine ⟨J2, ⟨b2, ?_, fun k hk => by rw [b3 16 (by decide)]; exact l1 k hk, fun i p hi hp => ?_⟩, fun _ self => ?_⟩
    · unfold PL
      rw [b3 15 (by decide), b3 17 (by decide), b3 18 (by decide), b3 19 (by decide)]
      exact a2
    · by_cases e : p = d
      · subst e; exact b4 i hi
      · rw [b5 i p hi (by omega) e, a3 20 (by decide) (by decide) (by decide) (by decide)]; exact q4 i p hi (by omega)
    · rw [hF J' d q1 hd self, a1, Option.bind_some]
      exact b1 self
