/-! offer -/
/-- the lines of the first n offered that are chosen, as a set -/
def ofs (I : II) (sel : Nat → Bool) : Nat → Nat
  | 0 => 0
  | k + 1 => if sel k then ofs I sel k ||| 2 ^ oL I k else ofs I sel k
theorem ofs_lt {D : Dn} {I : II} (g : GO D I) (hL : nL I ≤ 14) (sel : Nat → Bool) : ∀ n, n ≤ nO I → ofs I sel n < 2 ^ 14
  | 0, _ => by decide
  | n + 1, hn => by
    have h1 := ofs_lt g hL sel n (by omega)
    have h2 := (g.2.1 n (by omega)).2.1
    have h3 : 2 ^ oL I n < 2 ^ 14 := Nat.pow_lt_pow_right (by decide) (by omega)
    unfold ofs
    split
    · exact Nat.or_lt_two_pow h1 h3
    · exact h1
theorem ofs_bit (I : II) (sel : Nat → Bool) (l : Nat) : ∀ n, (ofs I sel n).testBit l = true ↔ ∃ k, k < n ∧ sel k = true ∧ oL I k = l
  | 0 => by
    constructor
    · intro h; exact absurd h (by rw [show ofs I sel 0 = 0 from rfl, Nat.zero_testBit]; decide)
    · rintro ⟨k, h, -⟩; omega
  | n + 1 => by
    have ih := ofs_bit I sel l n
    unfold ofs
    cases hs : sel n with
    | false =>
      rw [if_neg (by decide), ih]
      constructor
      · rintro ⟨k, h1, h2, h3⟩; exact ⟨k, by omega, h2, h3⟩
      · rintro ⟨k, h1, h2, h3⟩
        by_cases q : k = n
        · subst q; rw [hs] at h2; exact absurd h2 (by decide)
        · exact ⟨k, by omega, h2, h3⟩
    | true =>
      rw [if_pos rfl, Nat.testBit_or, Nat.testBit_two_pow, Bool.or_eq_true, ih, decide_eq_true_iff]
      constructor
      · rintro (⟨k, h1, h2, h3⟩ | h)
        · exact ⟨k, by omega, h2, h3⟩
        · exact ⟨n, by omega, hs, h⟩
      · rintro ⟨k, h1, h2, h3⟩
        by_cases q : k = n
        · subst q; exact Or.inr h3
        · exact Or.inl ⟨k, by omega, h2, h3⟩
theorem x_offered (fu : Nat) (hfu : 100 < fu) {D : Dn} {I : II} (g : Inv D I) (v : Int32) (sel : Nat → Bool) (hv : ∀ k, k < 4 → t_X10_has v (nI k) = if sel k then 1 else 0) : Rf_X10_offeredLines fu (mkS D) I v = some (nI (ofs I sel (nO I))) := by
  have gO := g.2.2.2.2.2.1
  have gL := g.2.2.1
  have hL : nL I ≤ 14 := gL.1.1.2
  have hn : nO I ≤ 4 := gO.1.1.2
  have e : I 0 7 = nI (nO I) := gO.1.2.trans gO.1.1.1
  unfold Rf_X10_offeredLines
  refine fix2_run (F := Rl_X10_offeredLines_4 fu (mkS D) I v) (fun i => nI (ofs I sel i)) (fun i => nI i) (nO I) (fun i hi self => ?_) (fun self => ?_) fu (by omega)
  · have ei := nx_nI (k := i) (by omega)
    have hc : ¬ nI (nO I) ≤ nI i := by rw [nI_le_iff (by omega) (by omega)]; omega
    obtain ⟨o1, o2, o3⟩ := gO.2.1 i hi
    have hX := (gL.2.1 (oL I i) o2).2
    obtain ⟨a1, a2, a3⟩ := hX.at
    have hmk : (mkS D).1 12 i = D.1 5 (oL I i) := o3
    have hnum : I (la D (oL I i)) 0 = nI (oL I i) := hX.2.2.1.1
    have hlt := ofs_lt gO hL sel i (by omega)
    have h3 : 2 ^ oL I i < 2 ^ 14 := Nat.pow_lt_pow_right (by decide) (by omega)
    unfold Rl_X10_offeredLines_4 Rj_X10_offeredLines_34
    simp only [lt]
    rw [e, if_neg hc, hv i (by omega), gd_pos ⟨by decide, nI_nn (by omega), by rw [ei]; omega⟩, ei, hmk, gd_pos a1, a2, hnum, nI_one (by omega), nI_or (by omega) (by omega), nI_1]
    have ho : ofs I sel (i + 1) = if sel i then ofs I sel i ||| 2 ^ oL I i else ofs I sel i := rfl
    rw [ho]
    cases sel i with
    | true => rfl
    | false => rfl
  · unfold Rl_X10_offeredLines_4
    rw [e, if_pos (Int32.le_refl _)]
theorem has_m1 : ∀ k, k < 4 → t_X10_has (-1) (nI k) = if (fun _ => true) k then 1 else 0 := by decide
