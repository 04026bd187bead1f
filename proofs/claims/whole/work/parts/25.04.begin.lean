/-! sharing: the answer as a whole; begin, addPlace -/
theorem x_answer (fu : Nat) (hfu : 7000 < fu) {D : Dn} {n pc : Nat} {rm : Nat → Nat} {cs : Nat → Nat → Nat} {ln : Nat → Nat} (hln : ∀ j k, j < k → k < n → ln j ≠ ln k) {J : II} (hS : SH n pc rm cs J) (hL : LN n ln J) (hU : ∀ p, p < pc → J 19 p = nI 0) (e4 : J 15 4 = nI (stp rm pc)) (e2 : J 15 2 = 0) (x : Int32) (hx : x = -1 ∨ ∃ l, l < 14 ∧ x = nI l) :
    ∃ v J', Rf_X4_answer fu (mkS D) J x = some (v, J') ∧ (∀ b, b ≠ 19 → b ≠ 21 → b ≠ 22 → J' b = J b) ∧ ((opt pc rm cs n 0 (fun _ => 0) = NB ∧ v = -9) ∨ (opt pc rm cs n 0 (fun _ => 0) < NB ∧ ((x = -1 ∧ v = nI (opt pc rm cs n 0 (fun _ => 0))) ∨ ∃ l, l < 14 ∧ x = nI l ∧ ((∃ k, k < n ∧ ln k = l ∧ v = nI (dgt pc n (Rr pc rm cs n 0 (fun _ => 0)) k)) ∨ ((∀ k, k < n → ln k ≠ l) ∧ v = -9))))) := by
  have hcs : ∀ i p, i < n → p < pc → cs i p ≤ 1000 := fun i p hi hp => (hS.2.2.2.2 i p hi hp).2
  have hst := hS.2.2.2.1
  have hn8 := hS.1.2
  have hpc := hS.2.1.2
  have z0 : ∀ m, smu (fun _ => 0) m = 0 := fun m => by
    induction m with
    | zero => rfl
    | succ m ih => show smu (fun _ => 0) m + 0 = 0; rw [ih]
  have z1 : ∀ m, cdU rm (fun _ => 0) m = 0 := fun m => by
    induction m with
    | zero => rfl
    | succ m ih => show cdU rm (fun _ => 0) m + 0 * stp rm m = 0; rw [ih, Nat.zero_mul]
  let tail : II → Option (Int32 × II) := fun I => (f_X4_leastFrom fu (mkS D) 15 10 I (0 : Int32) (0 : Int32)).bind fun q2 => (if q2.1 = (1073741824 : Int32) then some ((((-9) : Int32), q2.2)) else if x = ((-1) : Int32) then some ((q2.1, q2.2)) else (Rf_X4_chooseFirst fu (mkS D) q2.2).bind fun q8 => (gd (inbL 23 14 x) (some (((rdN q8 22 x), q8)))))
  have main := fix2_ex (K := Unit) (F := fun _ => Rl_X4_answer_12 fu (mkS D) x) (fun i => nI i) (fun i J' => (∀ b, b ≠ 21 → J' b = J b) ∧ ∀ j, j < i → J' 21 j = -1) (fun _ J' => tail J') (stp rm pc) (fun i J' hi hP => ⟨upI J' 21 i (-1), ⟨fun b hb => by rw [upI_row hb]; exact hP.1 b hb, fun j hj => by
      by_cases e : j = i
      · subst e; exact upI_at
      · rw [upI_cell e]; exact hP.2 j (by omega)⟩, fun _ self => by
      have ki := nx_nI (k := i) (by omega)
      show Rl_X4_answer_12 fu (mkS D) x self (nI i) J' = _
      unfold Rl_X4_answer_12 wrN
      rw [hP.1 15 (by decide), e4, if_neg (by rw [nI_le_iff (by omega) (by omega)]; omega), gd_pos ⟨by decide, nI_nn (by omega), by rw [ki]; omega⟩, ki, nI_p1]⟩) (fun J' hP κ self => by
      show Rl_X4_answer_12 fu (mkS D) x self (nI (stp rm pc)) J' = _
      unfold Rl_X4_answer_12
      rw [hP.1 15 (by decide), e4, if_pos (Int32.le_refl _)]) (stp rm pc) 0 J (by omega) ⟨fun _ _ => rfl, fun j hj => absurd hj (Nat.not_lt_zero _)⟩ fu (by omega)
  obtain ⟨J1, ⟨p1, p2⟩, hrun⟩ := main
  have hM1 : Mem n pc rm cs J1 := fun v y1 y2 => Or.inl (p2 _ (cdU_lt pc y1))
  have hS1 := hS.fr (p1 15 (by decide)) (p1 17 (by decide)) (p1 18 (by decide)) (p1 20 (by decide))
  obtain ⟨J2, a1, a2, a3⟩ := x_least fu (by omega) (S := mkS D) (rm := rm) hcs n 10 (by omega) J1 (fun _ => 0) hS1 (fun p hp => by rw [p1 19 (by decide)]; exact hU p hp) (fun _ _ => Nat.zero_le _) (by rw [z0]; omega) hM1
  rw [z0, z1] at a1
  have hob := opt_bd (rm := rm) hcs n 0 (fun _ => 0) (by omega)
  have cc : nI (opt pc rm cs n 0 (fun _ => 0)) = (1073741824 : Int32) ↔ opt pc rm cs n 0 (fun _ => 0) = NB := nI_eq_iff (b := 1073741824) (by simp only [NB] at *; omega) (by decide)
  have hrun' : Rf_X4_answer fu (mkS D) J x = if opt pc rm cs n 0 (fun _ => 0) = NB then some (-9, J2) else if x = -1 then some (nI (opt pc rm cs n 0 (fun _ => 0)), J2) else (Rf_X4_chooseFirst fu (mkS D) J2).bind fun q8 => (gd (inbL 23 14 x) (some (((rdN q8 22 x), q8)))) := by
    unfold Rf_X4_answer
    rw [e2, if_pos rfl]
    refine (hrun ()).trans ?_
    show (f_X4_leastFrom fu (mkS D) 15 10 J1 0 0).bind _ = _
    rw [show nI 0 = (0 : Int32) from rfl] at a1
    rw [re_X4_leastFrom, a1, Option.bind_some]
    by_cases q : opt pc rm cs n 0 (fun _ => 0) = NB
    · rw [if_pos (cc.mpr q), if_pos q]
    · rw [if_neg (fun z => q (cc.mp z)), if_neg q]
  have fr2 : ∀ b, b ≠ 21 → J2 b = J b := fun b hb => (a2 b hb).trans (p1 b hb)
  by_cases q : opt pc rm cs n 0 (fun _ => 0) = NB
  · exact ⟨-9, J2, by rw [hrun', if_pos q], fun b _ h2 _ => fr2 b h2, Or.inl ⟨q, rfl⟩⟩
  · have hlt : opt pc rm cs n 0 (fun _ => 0) < NB := by simp only [NB] at *; omega
    rw [if_neg q] at hrun'
    by_cases qx : x = -1
    · exact ⟨_, J2, by rw [hrun', if_pos qx], fun b _ h2 _ => fr2 b h2, Or.inr ⟨hlt, Or.inl ⟨qx, rfl⟩⟩⟩
    · obtain ⟨l, hl, rfl⟩ := hx.resolve_left qx
      have hS2 := hS.fr (fr2 15 (by decide)) (fr2 17 (by decide)) (fr2 18 (by decide)) (fr2 20 (by decide))
      obtain ⟨J3, c1, c2, c3, c4⟩ := x_choose fu (by omega) (D := D) hcs hln hS2 (fun k hk => by rw [fr2 16 (by decide)]; exact hL k hk) (fun p hp => by rw [fr2 19 (by decide)]; exact hU p hp) a3 hlt
      have kl := nx_nI (k := l) (by omega)
      have hans : Rf_X4_answer fu (mkS D) J (nI l) = some (J3 22 l, J3) := by
        rw [hrun', if_neg qx, c1, Option.bind_some, gd_pos ⟨by decide, nI_nn (by omega), by rw [kl]; exact hl⟩]
        unfold rdN
        rw [kl]
      refine ⟨J3 22 l, J3, hans, fun b h1 h2 h3 => (c2 b h1 h2 h3).trans (fr2 b h2), Or.inr ⟨hlt, Or.inr ⟨l, hl, rfl, ?_⟩⟩⟩
      by_cases z : ∃ k, k < n ∧ ln k = l
      · obtain ⟨k, z1, z2⟩ := z
        refine Or.inl ⟨k, z1, z2, ?_⟩
        rw [← z2]
        exact c3 k z1
      · exact Or.inr ⟨fun k hk e => z ⟨k, hk, e⟩, c4 l hl (fun k hk e => z ⟨k, hk, e⟩)⟩
/-- the set's members, in order -/
def lnf (m : Nat) : Nat → Nat → Nat
  | 0 => fun _ => 0
  | l + 1 => if m.testBit l = true then upw (lnf m l) (pcn m l) l else lnf m l
theorem pcn_s (m l : Nat) : pcn m (l + 1) = pcn m l + (if m.testBit l = true then 1 else 0) := by
  show pcn m l + (m >>> l) % 2 = _
  rw [mod2_bit]
  cases m.testBit l <;> rfl
theorem pcn_mono (m : Nat) : ∀ n k, k ≤ n → pcn m k ≤ pcn m n
  | 0, k, h => by rw [show k = 0 by omega]; exact Nat.le_refl _
  | n + 1, k, h => by
    by_cases e : k = n + 1
    · subst e; exact Nat.le_refl _
    · have := pcn_mono m n k (by omega)
      rw [pcn_s]
      omega
theorem lnf_at (m : Nat) : ∀ l, (∀ k, k < pcn m l → lnf m l k < l ∧ m.testBit (lnf m l k) = true) ∧ (∀ j k, j < k → k < pcn m l → lnf m l j < lnf m l k) ∧ ∀ b, b < l → m.testBit b = true → pcn m b < pcn m l ∧ lnf m l (pcn m b) = b
  | 0 => ⟨fun k h => absurd h (Nat.not_lt_zero _), fun j k _ h => absurd h (Nat.not_lt_zero _), fun b h => absurd h (Nat.not_lt_zero _)⟩
  | l + 1 => by
    obtain ⟨h1, h2, h3⟩ := lnf_at m l
    have hs := pcn_s m l
    unfold lnf
    by_cases q : m.testBit l = true
    · rw [if_pos q] at hs
      rw [if_pos q]
      have ea : upw (lnf m l) (pcn m l) l (pcn m l) = l := if_pos rfl
      have eb : ∀ k, k ≠ pcn m l → upw (lnf m l) (pcn m l) l k = lnf m l k := fun k h => if_neg h
      refine ⟨fun k hk => ?_, fun j k hj hk => ?_, fun b hb hbit => ?_⟩
      · by_cases e : k = pcn m l
        · rw [e, ea]; exact ⟨by omega, q⟩
        · rw [eb k e]
          obtain ⟨y1, y2⟩ := h1 k (by omega)
          exact ⟨by omega, y2⟩
      · by_cases e : k = pcn m l
        · rw [e, ea, eb j (by omega)]; exact (h1 j (by omega)).1
        · rw [eb j (by omega), eb k e]; exact h2 j k hj (by omega)
      · by_cases e : b = l
        · subst e; exact ⟨by omega, ea⟩
        · obtain ⟨y1, y2⟩ := h3 b (by omega) hbit
          exact ⟨by omega, by rw [eb _ (by omega)]; exact y2⟩
    · rw [if_neg q] at hs
      rw [if_neg q]
      refine ⟨fun k hk => ?_, fun j k hj hk => h2 j k hj (by omega), fun b hb hbit => ?_⟩
      · obtain ⟨y1, y2⟩ := h1 k (by omega)
        exact ⟨by omega, y2⟩
      · by_cases e : b = l
        · subst e; exact absurd hbit q
        · obtain ⟨y1, y2⟩ := h3 b (by omega) hbit
          exact ⟨by omega, y2⟩
theorem lnf_same (m : Nat) {k : Nat} (h : ∀ b, k ≤ b → m.testBit b = false) : ∀ n, k ≤ n → pcn m n = pcn m k ∧ lnf m n = lnf m k
  | 0, hn => by rw [show k = 0 by omega]; exact ⟨rfl, rfl⟩
  | n + 1, hn => by
    by_cases e : k = n + 1
    · subst e; exact ⟨rfl, rfl⟩
    · obtain ⟨h1, h2⟩ := lnf_same m h n (by omega)
      have hb := h n (by omega)
      rw [pcn_s, hb, if_neg (by decide), Nat.add_zero]
      refine ⟨h1, ?_⟩
      show (if m.testBit n = true then _ else lnf m n) = _
      rw [hb, if_neg (by decide), h2]
theorem x_begin (fu : Nat) (hfu : 100 < fu) {S : Sk} {J : II} {m : Nat} (hm : m < 16384) : ∃ J', Rf_X4_begin fu S J (nI m) = some J' ∧ (∀ b, b ≠ 15 → b ≠ 16 → J' b = J b) ∧ J' 15 3 = 0 ∧ J' 15 4 = 1 ∧ ((pcn m 16 ≤ 8 ∧ J' 15 2 = 0 ∧ J' 15 1 = nI (pcn m 14) ∧ ∀ k, k < pcn m 14 → J' 16 k = nI (lnf m 14 k)) ∨ (8 < pcn m 16 ∧ J' 15 2 = 1 ∧ J' 15 1 = nI 0)) := by
  have hbc := bitCount_at (m := m) (by omega)
  have hp16 : pcn m 16 ≤ 16 := by
    have : ∀ n, pcn m n ≤ n := fun n => by
      induction n with
      | zero => exact Nat.le_refl _
      | succ n ih => rw [pcn_s]; split <;> omega
    exact this 16
  have h1416 := pcn_mono m 16 14 (by omega)
  have c8 : nI (pcn m 16) ≤ (8 : Int32) ↔ pcn m 16 ≤ 8 := nI_le_iff (b := 8) (by omega) (by decide)
  obtain ⟨f, ef⟩ : ∃ f : Int32, (if pcn m 16 ≤ 8 then (0 : Int32) else 1) = f := ⟨_, rfl⟩
  have hf : f = 0 ∨ f = 1 := by
    rw [← ef]
    split
    · exact Or.inl rfl
    · exact Or.inr rfl
  have hbeg : Rf_X4_begin fu S J (nI m) = Rj_X4_begin_15 fu S J (nI m) f := by
    unfold Rf_X4_begin
    rw [hbc, ← ef]
    by_cases q : pcn m 16 ≤ 8
    · rw [if_pos (c8.mpr q), if_pos q]
    · rw [if_neg (fun z => q (c8.mp z)), if_neg q]
  obtain ⟨G, eG⟩ : ∃ G : II, upI (upI (upI (upI J 15 2 f) 15 3 0) 15 4 1) 15 1 0 = G := ⟨_, rfl⟩
  have g1 : ∀ b, b ≠ 15 → G b = J b := fun b hb => by rw [← eG, upI_row hb, upI_row hb, upI_row hb, upI_row hb]
  have g2 : G 15 1 = 0 := by rw [← eG, upI_at]
  have g3 : G 15 3 = 0 := by rw [← eG, upI_cell (by decide), upI_cell (by decide), upI_at]
  have g4 : G 15 4 = 1 := by rw [← eG, upI_cell (by decide), upI_at]
  have g5 : G 15 2 = f := by rw [← eG, upI_cell (by decide), upI_cell (by decide), upI_cell (by decide), upI_at]
  have main := fix2_ex (K := Unit) (F := fun _ => Rl_X4_begin_35 fu S (nI m)) (fun i => nI i) (fun l J' => (∀ b, b ≠ 15 → b ≠ 16 → J' b = J b) ∧ J' 15 3 = 0 ∧ J' 15 4 = 1 ∧ J' 15 2 = f ∧ (f = 0 → J' 15 1 = nI (pcn m l) ∧ ∀ k, k < pcn m l → J' 16 k = nI (lnf m l k)) ∧ (f = 1 → J' 15 1 = nI 0)) (fun _ J' => some J') 14 (fun l J' hl hP => ?_) (fun J' hP κ self => ?_) 14 0 G (by omega) ⟨fun b h1 h2 => g1 b h1, g3, g4, g5, fun _ => ⟨g2, fun k hk => absurd hk (Nat.not_lt_zero _)⟩, fun _ => g2⟩ fu (by omega)
  · obtain ⟨J', ⟨q1, q2, q3, q4, q5, q6⟩, hrun⟩ := main
    refine ⟨J', ?_, q1, q2, q3, ?_⟩
    · rw [hbeg]
      unfold Rj_X4_begin_15
      rw [gd_pos hf]
      simp only [lt]
      rw [eG]
      exact hrun ()
    · by_cases q : pcn m 16 ≤ 8
      · rw [if_pos q] at ef
        obtain ⟨y1, y2⟩ := q5 ef.symm
        exact Or.inl ⟨q, q4.trans ef.symm, y1, y2⟩
      · rw [if_neg q] at ef
        exact Or.inr ⟨by omega, q4.trans ef.symm, q6 ef.symm⟩
  · obtain ⟨q1, q2, q3, q4, q5, q6⟩ := hP
    have hh := has_at (m := m) (s := l) (by omega) (by omega)
    have hs := pcn_s m l
    have hc14 : ¬ (14 : Int32) ≤ nI l := by rw [show (14 : Int32) = nI 14 from rfl, nI_le_iff (by decide) (by omega)]; omega
    by_cases q : m.testBit l = true
    · rw [if_pos q] at hh hs
      rcases hf with rfl | rfl
      · obtain ⟨y1, y2⟩ := q5 rfl
        have hp8 : pcn m 16 ≤ 8 := by
          by_cases z : pcn m 16 ≤ 8
          · exact z
          · rw [if_neg z] at ef; exact absurd ef (by decide)
        have hmo := pcn_mono m 16 (l + 1) (by omega)
        have kk := nx_nI (k := pcn m l) (by omega)
        refine ⟨upI (upI J' 16 (pcn m l) (nI l)) 15 1 (nI (pcn m (l + 1))), ⟨fun b h1 h2 => by rw [upI_row h1, upI_row h2]; exact q1 b h1 h2, by rw [upI_cell (by decide), upI_row (by decide)]; exact q2, by rw [upI_cell (by decide), upI_row (by decide)]; exact q3, by rw [upI_cell (by decide), upI_row (by decide)]; exact q4, fun _ => ⟨upI_at, fun k hk => ?_⟩, fun z => absurd z (by decide)⟩, fun _ self => ?_⟩
        · rw [upI_row (by decide)]
          have e : lnf m (l + 1) = upw (lnf m l) (pcn m l) l := if_pos q
          rw [e]
          unfold upw
          by_cases e : k = pcn m l
          · rw [if_pos e, e, upI_at]
          · rw [if_neg e, upI_cell e]; exact y2 k (by omega)
        · show Rl_X4_begin_35 fu S (nI m) self (nI l) J' = _
          unfold Rl_X4_begin_35 Rj_X4_begin_76 wrN
          rw [if_neg hc14, hh, if_neg i1ne, q4, if_pos rfl, y1, gd_pos ⟨by decide, nI_nn (by omega), by rw [kk]; omega⟩, kk]
          simp only [lt]
          rw [upI_row (by decide), y1, nI_p1, nI_p1, hs]
      · refine ⟨J', ⟨q1, q2, q3, q4, fun z => absurd z (by decide), q6⟩, fun _ self => ?_⟩
        show Rl_X4_begin_35 fu S (nI m) self (nI l) J' = _
        unfold Rl_X4_begin_35 Rj_X4_begin_76
        rw [if_neg hc14, hh, if_neg i1ne, q4, if_neg i1ne, nI_p1]
    · rw [if_neg q] at hh hs
      refine ⟨J', ⟨q1, q2, q3, q4, fun z => ?_, q6⟩, fun _ self => ?_⟩
      · have e : lnf m (l + 1) = lnf m l := if_neg q
        rw [e, hs]
        exact q5 z
      · show Rl_X4_begin_35 fu S (nI m) self (nI l) J' = _
        unfold Rl_X4_begin_35 Rj_X4_begin_76
        rw [if_neg hc14, hh, if_pos rfl, nI_p1]
  · show Rl_X4_begin_35 fu S (nI m) self (nI 14) J' = _
    unfold Rl_X4_begin_35
    rw [if_pos (show (14 : Int32) ≤ nI 14 by decide)]
