/-! offer -/
/-- the lines of the first n offered that are chosen, as a set -/
def ofs (I : II) (sel : Nat → Bool) : Nat → Nat
  | 0 => 0
  | k + 1 => if sel k then ofs I sel k ||| 2 ^ oL I k else ofs I sel k
theorem ofs_lt {D : Dn} {I : II} (g : GO D I) (hL : nL I ≤ 14) (sel : Nat → Bool) : ∀ n, n ≤ nO I → ofs I sel n < 2 ^ 14
  | 0, _ => (by decide : 0 < 2 ^ 14)
  | n + 1, hn => by
    have h1 := ofs_lt g hL sel n (by omega)
    have h2 := (g.2.1 n (by omega)).2.1
    have h3 : 2 ^ oL I n < 2 ^ 14 := Nat.pow_lt_pow_right (by decide) (by omega)
    unfold ofs
    split
    · exact Nat.or_lt_two_pow h1 h3
    · exact h1
theorem ofs_bit (I : II) (sel : Nat → Bool) (l : Nat) : ∀ n, (ofs I sel n).testBit l = true ↔ ∃ k, k < n ∧ sel k = true ∧ oL I k = l
  | 0 => by
    constructor
    · intro h; exact absurd h (by rw [show ofs I sel 0 = 0 from rfl, Nat.zero_testBit]; decide)
    · rintro ⟨k, h, -⟩; omega
  | n + 1 => by
    have ih := ofs_bit I sel l n
    unfold ofs
    cases hs : sel n with
    | false =>
      rw [if_neg (by decide), ih]
      constructor
      · rintro ⟨k, h1, h2, h3⟩; exact ⟨k, by omega, h2, h3⟩
      · rintro ⟨k, h1, h2, h3⟩
        by_cases q : k = n
        · subst q; rw [hs] at h2; exact absurd h2 (by decide)
        · exact ⟨k, by omega, h2, h3⟩
    | true =>
      rw [if_pos rfl, Nat.testBit_or, Nat.testBit_two_pow, Bool.or_eq_true, ih, decide_eq_true_iff]
      constructor
      · rintro (⟨k, h1, h2, h3⟩ | h)
        · exact ⟨k, by omega, h2, h3⟩
        · exact ⟨n, by omega, hs, h⟩
      · rintro ⟨k, h1, h2, h3⟩
        by_cases q : k = n
        · subst q; exact Or.inr h3
        · exact Or.inl ⟨k, by omega, h2, h3⟩
theorem x_offered (fu : Nat) (hfu : 100 < fu) {D : Dn} {I : II} (g : Inv D I) (v : Int32) (sel : Nat → Bool) (hv : ∀ k, k < 4 → t_X10_has v (nI k) = if sel k then 1 else 0) : Rf_X10_offeredLines fu (mkS D) I v = some (nI (ofs I sel (nO I))) := by
  have gO := g.2.2.2.2.2.1
  have gL := g.2.2.1
  have hL : nL I ≤ 14 := gL.1.1.2
  have hn : nO I ≤ 4 := gO.1.1.2
  have e : I 0 7 = nI (nO I) := gO.1.2.trans gO.1.1.1
  unfold Rf_X10_offeredLines
  refine fix2_run (F := Rl_X10_offeredLines_4 fu (mkS D) I v) (fun i => nI (ofs I sel i)) (fun i => nI i) (nO I) (fun i hi self => ?_) (fun self => ?_) fu (by omega)
  · have ei := nx_nI (k := i) (by omega)
    have hc : ¬ nI (nO I) ≤ nI i := by rw [nI_le_iff (by omega) (by omega)]; omega
    obtain ⟨o1, o2, o3⟩ := gO.2.1 i hi
    have hX := (gL.2.1 (oL I i) o2).2
    obtain ⟨a1, a2, a3⟩ := hX.at
    have hmk : (mkS D).1 12 i = D.1 5 (oL I i) := o3
    have hnum : I (la D (oL I i)) 0 = nI (oL I i) := hX.2.2.1.1
    have hlt := ofs_lt gO hL sel i (by omega)
    have h3 : 2 ^ oL I i < 2 ^ 14 := Nat.pow_lt_pow_right (by decide) (by omega)
    unfold Rl_X10_offeredLines_4 Rj_X10_offeredLines_34
    simp only [lt]
    rw [e, if_neg hc, hv i (by omega), gd_pos ⟨by decide, nI_nn (by omega), by rw [ei]; omega⟩, ei, hmk, gd_pos a1, a2, hnum, nI_one (by omega), nI_or (by omega) (by omega), nI_1]
    have ho : ofs I sel (i + 1) = if sel i then ofs I sel i ||| 2 ^ oL I i else ofs I sel i := rfl
    rw [ho]
    cases sel i with
    | true => rfl
    | false => rfl
  · unfold Rl_X10_offeredLines_4
    rw [e, if_pos (Int32.le_refl _)]
theorem has_m1 : ∀ k, k < 4 → t_X10_has (-1) (nI k) = if (fun _ => true) k then 1 else 0 := by decide
theorem p_offer (fu : Nat) (hfu : 100 < fu) {D : Dn} {I : II} (g : Inv D I) (x : Int32) : ∃ r D' I1 I2, Rf_X10_offer fu (mkS D) I x = some (r, mkS D', I1) ∧ Rf_X11_offer fu (mkS D') I1 x = some (r, I2) ∧ Inv D' I2 := by
  have gO := g.2.2.2.2.2.1
  have gL := g.2.2.1
  have hL : nL I ≤ 14 := gL.1.1.2
  have hn : nO I ≤ 4 := gO.1.1.2
  have e : I 38 34 = nI (nO I) := gO.1.1.1
  have e' : I 0 7 = nI (nO I) := gO.1.2.trans e
  have c1 : nI (nO I) < (4 : Int32) ↔ nO I < 4 := nI_lt_iff (b := 4) (by omega) (by decide)
  have c2 : nI (nO I) = (4 : Int32) ↔ nO I = 4 := nI_eq_iff (b := 4) (by omega) (by decide)
  unfold Rf_X10_offer
  rcases line_cases fu gL x with ⟨h1, h2⟩ | ⟨l, hl, rfl, h1, h2⟩
  · refine ⟨-1, D, I, I, by rw [h1]; rfl, ?_, g⟩
    unfold Rf_X11_offer
    rw [h2, if_neg i1ne]
  · have hX := (gL.2.1 l hl).2
    obtain ⟨a1, a2, a3⟩ := hX.at
    have hlt := ofs_lt gO hL (fun _ => true) (nO I) (Nat.le_refl _)
    rw [h1]
    simp only [Option.bind_some, if_neg a1, x_offered fu hfu g (-1) (fun _ => true) has_m1, lt]
    rw [has_at (by omega) (by omega), e']
    -- the reference's search
    have step : ∀ (D' : Dn) (J : II), J 38 34 = nI (nO I) → (∀ k, k < nO I → J 63 k = I 63 k) → ∀ i, i < nO I → ∀ self, Rl_X11_offer_12 fu (mkS D') J (nI l) self (nI i) = if oL I i = l then some (-3, J) else self (nI (i + 1)) := by
      intro D' J z1 z2 i hi self
      have ei := nx_nI (k := i) (by omega)
      obtain ⟨o1, o2, o3⟩ := gO.2.1 i hi
      have hc : ¬ nI (nO I) ≤ nI i := by rw [nI_le_iff (by omega) (by omega)]; omega
      have ho : I 63 i = nI (oL I i) := o1.1
      have hq : nI (oL I i) = nI l ↔ oL I i = l := nI_eq_iff (by omega) (by omega)
      unfold Rl_X11_offer_12 rdN
      rw [z1, if_neg hc, gd_pos ⟨by decide, nI_nn (by omega), by rw [ei]; omega⟩, ei, z2 i hi, ho, nI_1]
      by_cases q : oL I i = l
      · rw [if_pos (hq.mpr q), if_pos q]
      · rw [if_neg (fun z => q (hq.mp z)), if_neg q]
    by_cases hb : (ofs I (fun _ => true) (nO I)).testBit l = true
    · rw [if_pos hb, if_neg i1ne]
      refine ⟨-3, D, I, I, rfl, ?_, g⟩
      obtain ⟨k, hk, -, hkl⟩ := (ofs_bit I _ l (nO I)).mp hb
      unfold Rf_X11_offer
      rw [h2, if_pos rfl]
      refine fix1_run (F := Rl_X11_offer_12 fu (mkS D) I (nI l)) (fun i => nI i) k (fun i hi self => ?_) (fun self => ?_) fu (by omega)
      · rw [step D I e (fun _ _ => rfl) i (by omega), if_neg (fun z => gO.2.2 i k hi hk (z.trans hkl.symm))]
      · rw [step D I e (fun _ _ => rfl) k hk, if_pos hkl]
    · rw [if_neg hb, if_pos rfl]
      have hno : ∀ k, k < nO I → oL I k ≠ l := fun k hk z => hb ((ofs_bit I _ l (nO I)).mpr ⟨k, hk, rfl, z⟩)
      have run : ∀ (D' : Dn) (J : II) (out : Option (Int32 × II)), J 38 34 = nI (nO I) → J 38 4 = I 38 4 → (∀ k, k < nO I → J 63 k = I 63 k) → (∀ self, Rl_X11_offer_12 fu (mkS D') J (nI l) self (nI (nO I)) = out) → Rf_X11_offer fu (mkS D') J (nI l) = out := by
        intro D' J out z1 z2 z3 z4
        unfold Rf_X11_offer
        rw [noLine_co z2, h2, if_pos rfl]
        exact fix1_run (F := Rl_X11_offer_12 fu (mkS D') J (nI l)) (fun i => nI i) (nO I) (fun i hi self => by rw [step D' J z1 z3 i hi, if_neg (hno i hi)]) z4 fu (by omega)
      by_cases q : nO I = 4
      · rw [if_neg (fun z => by have := c1.mp z; omega)]
        refine ⟨-4, D, I, I, rfl, run D I _ e rfl (fun _ _ => rfl) (fun self => ?_), g⟩
        unfold Rl_X11_offer_12
        rw [e, if_pos (Int32.le_refl _), if_pos (c2.mpr q)]
      · obtain ⟨n, en⟩ : ∃ n, nO I = n := ⟨_, rfl⟩
        have kn := nx_nI (k := n) (by omega)
        have kn1 := nx_nI (k := n + 1) (by omega)
        have hN : 77 ≤ D.2.2.2 := g.1
        rw [if_pos (c1.mpr (by omega)), en]
        refine ⟨nI n, upP D 12 n (D.1 5 l), upI I 0 7 (nI (n + 1)), upI (upI (upI I 0 7 (nI (n + 1))) 63 n (nI l)) 38 34 (nI (n + 1)), ?_, ?_, ?_⟩
        · rw [gd_pos ⟨by decide, nI_nn (by omega), by rw [kn]; omega⟩, kn, nI_1, upI_at, ← nI_1, Int32.add_sub_cancel, mk_up rfl]
        · have kJ : upI I 0 7 (nI (n + 1)) 38 34 = nI (nO I) := by rw [upI_row (by decide)]; exact e
          refine run _ _ _ kJ (by rw [upI_row (by decide)]) (fun k _ => by rw [upI_row (by decide)]) (fun self => ?_)
          unfold Rl_X11_offer_12 wrN
          simp only [lt]
          rw [kJ, if_pos (Int32.le_refl _), if_neg (fun z => q (c2.mp z)), en, gd_pos ⟨by decide, nI_nn (by omega), by rw [kn]; omega⟩, kn, upI_at, upI_row (by decide), kJ, en, nI_1, ← nI_1, Int32.add_sub_cancel]
        · have hK : ∀ a k, ¬ ((a = 0 ∧ k = 7) ∨ (a = 38 ∧ k = 34) ∨ (a = 63 ∧ k = n)) → upI (upI (upI I 0 7 (nI (n + 1))) 63 n (nI l)) 38 34 (nI (n + 1)) a k = I a k := by
            intro a k z
            simp only [upI]
            rw [if_neg (by omega), if_neg (by omega), if_neg (by omega)]
          have v1 : upI (upI (upI I 0 7 (nI (n + 1))) 63 n (nI l)) 38 34 (nI (n + 1)) 38 34 = nI (n + 1) := upI_at
          have v2 : upI (upI (upI I 0 7 (nI (n + 1))) 63 n (nI l)) 38 34 (nI (n + 1)) 0 7 = nI (n + 1) := by rw [upI_row (by decide), upI_row (by decide), upI_at]
          have v3 : upI (upI (upI I 0 7 (nI (n + 1))) 63 n (nI l)) 38 34 (nI (n + 1)) 63 n = nI l := by rw [upI_row (by decide), upI_at]
          generalize upI (upI (upI I 0 7 (nI (n + 1))) 63 n (nI l)) 38 34 (nI (n + 1)) = K at hK v1 v2 v3
          have hrow : ∀ a j, ¬ (a = 12 ∧ j = n) → (upP D 12 n (D.1 5 l)).1 a j = D.1 a j := fun a j z => if_neg z
          have hold : Old D (upP D 12 n (D.1 5 l)) := ⟨Nat.le_refl _, fun a _ => ⟨rfl, rfl⟩, fun a k z _ => hrow a k (by omega)⟩
          obtain ⟨g0, g1, g2, g3, g4, g5, g6, g7, g8⟩ := g
          refine ⟨g0, g1.co (fun a k z => hK a k (by unfold rdS at z; omega)), g2.ce hold (fun t _ => hrow 5 t (by omega)) (fun a k z z2 => hK a k (by unfold rdL at z; omega)), g3.ce hold (fun t _ => hrow 6 t (by omega)) (fun a k z z2 => hK a k (by unfold rdT at z; omega)), g4.ce hold (fun t _ => hrow 7 t (by omega)) (fun a k z z2 => hK a k (by unfold rdP at z; omega)), ?_, g6.ce hold (fun t _ => hrow 13 t (by omega)) (fun a k z z2 => hK a k (by unfold rdD at z; omega)), g7.co (fun a k z => hK a k (by unfold rdR at z; omega)), g8.co (fun a k z => hK a k (by unfold rdH at z; omega))⟩
          have k4 : nL K = nL I := by unfold nL; rw [hK _ _ (by omega)]
          have k34 : nO K = n + 1 := by unfold nO; rw [v1, kn1]
          have oo : ∀ j, j < n → oL K j = oL I j := fun j hj => by unfold oL; rw [hK _ _ (by omega)]
          have on : oL K n = l := by unfold oL; rw [v3]; exact nx_nI (by omega)
          refine ⟨by rw [v1, v2]; exact ⟨isN_nI (by omega) (by decide), rfl⟩, fun k hk => ?_, fun j k hj hk => ?_⟩
          · rw [k34] at hk
            by_cases qk : k = n
            · subst qk
              rw [on, v3, k4]
              exact ⟨isN_nI (by omega) (by decide), hl, by rw [show (upP D 12 k (D.1 5 l)).1 12 k = D.1 5 l from if_pos ⟨rfl, rfl⟩, hrow 5 l (by omega)]⟩
            · obtain ⟨o1, o2, o3⟩ := g5.2.1 k (by omega)
              rw [oo k (by omega), hK 63 k (by omega), k4, hrow 12 k (by omega), hrow 5 _ (by omega)]
              exact ⟨o1, o2, o3⟩
          · rw [k34] at hk
            by_cases qk : k = n
            · subst qk
              rw [on, oo j hj]
              exact hno j (by omega)
            · rw [oo j (by omega), oo k (by omega)]
              exact g5.2.2 j k hj (by omega)
