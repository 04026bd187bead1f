/-! best -/
theorem ks_ofs {I J : II} (h : KS I J) (sel : Nat → Bool) : ∀ n, ofs J sel n = ofs I sel n
  | 0 => rfl
  | n + 1 => by
    have e := (ks_net h).2.2.2.2.2.1
    unfold ofs
    rw [ks_ofs h sel n, e]
theorem ks_sL {I J : II} (h : KS I J) (m : Nat) : ∀ n, sL J m n = sL I m n
  | 0 => rfl
  | n + 1 => by
    unfold sL
    rw [ks_sL h m n, (ks_net h).2.2.2.2.2.2.2]
theorem ks_rs {I J : II} (h : KS I J) (d : Int32) : ∀ n, rs J d n = rs I d n
  | 0 => rfl
  | n + 1 => by
    unfold rs
    rw [ks_rs h d n, (ks_net h).2.2.2.2.2.2.1]
theorem rs_bit (I : II) (d : Int32) (i : Nat) : ∀ n, (rs I d n).testBit i = true ↔ i < n ∧ gn I i d ≠ 0
  | 0 => by
    show (0 : Nat).testBit i = true ↔ _
    rw [Nat.zero_testBit]
    exact ⟨fun h => absurd h (by decide), fun h => absurd h.1 (Nat.not_lt_zero _)⟩
  | n + 1 => by
    show (rs I d n ||| (if gn I n d = 0 then 0 else 2 ^ n)).testBit i = true ↔ _
    rw [Nat.testBit_or, Bool.or_eq_true, rs_bit I d i n]
    by_cases q : gn I n d = 0
    · rw [if_pos q, Nat.zero_testBit]
      constructor
      · rintro (⟨h1, h2⟩ | h)
        · exact ⟨by omega, h2⟩
        · exact absurd h (by decide)
      · rintro ⟨h1, h2⟩
        by_cases e : i = n
        · subst e; exact absurd q h2
        · exact Or.inl ⟨by omega, h2⟩
    · rw [if_neg q, Nat.testBit_two_pow, decide_eq_true_iff]
      constructor
      · rintro (⟨h1, h2⟩ | h)
        · exact ⟨by omega, h2⟩
        · subst h; exact ⟨by omega, q⟩
      · rintro ⟨h1, h2⟩
        by_cases e : i = n
        · exact Or.inr e.symm
        · exact Or.inl ⟨by omega, h2⟩
/-- lines that run whatever is chosen -/
def alw (I : II) (d : Int32) : Nat := rs I d (nL I) &&& (ofs I (fun _ => true) (nO I) ^^^ 4294967295)
def lsS (I : II) (set : Nat) : Nat := ofs I set.testBit (nO I)
def okS (I : II) (d : Int32) (mi set : Nat) : Prop := (∀ k, k < nO I → set.testBit k = true → gn I (oL I k) d ≠ 0) ∧ bmS I set.testBit (nO I) ≤ mi
theorem ls_sub {D : Dn} {I : II} (g : Inv D I) (d : Int32) (set : Nat) : (lsS I set &&& (rs I d (nL I) ^^^ 4294967295)) = 0 ↔ ∀ k, k < nO I → set.testBit k = true → gn I (oL I k) d ≠ 0 := by
  have gO := g.2.2.2.2.2.1
  have hnL : nL I ≤ 14 := g.2.2.1.1.1.2
  have hlt := ofs_lt gO hnL set.testBit (nO I) (Nat.le_refl _)
  constructor
  · intro h k hk hb z
    have h1 : (lsS I set &&& (rs I d (nL I) ^^^ 4294967295)).testBit (oL I k) = true := by
      rw [andn_bit (by unfold lsS; omega), Bool.and_eq_true]
      refine ⟨(ofs_bit I _ _ _).mpr ⟨k, hk, hb, rfl⟩, ?_⟩
      cases q : (rs I d (nL I)).testBit (oL I k) with
      | false => rfl
      | true => exact absurd z ((rs_bit I d _ _).mp q).2
    rw [h, Nat.zero_testBit] at h1
    exact absurd h1 (by decide)
  · intro h
    apply Nat.eq_of_testBit_eq
    intro i
    rw [andn_bit (by unfold lsS; omega), Nat.zero_testBit]
    cases q : (lsS I set).testBit i with
    | false => rfl
    | true =>
      obtain ⟨k, h1, h2, h3⟩ := (ofs_bit I _ _ _).mp q
      have : (rs I d (nL I)).testBit i = true := (rs_bit I d _ _).mpr ⟨by rw [← h3]; exact (gO.2.1 k h1).2.1, by rw [← h3]; exact h k h1 h2⟩
      rw [this]
      rfl
theorem rn_eq {D : Dn} {I : II} (g : Inv D I) (d : Int32) (set : Nat) (h : ∀ k, k < nO I → set.testBit k = true → gn I (oL I k) d ≠ 0) : rn I set.testBit (rs I d (nL I)) (nO I) = alw I d ||| lsS I set := by
  have gO := g.2.2.2.2.2.1
  have hnL : nL I ≤ 14 := g.2.2.1.1.1.2
  have hm : rs I d (nL I) < 2 ^ 14 := rs_14 g d
  apply Nat.eq_of_testBit_eq
  intro i
  apply Bool.eq_iff_iff.mpr
  rw [rn_bit I _ hm, Nat.testBit_or, Bool.or_eq_true]
  unfold alw lsS
  rw [andn_bit (by omega), Bool.and_eq_true, ofs_bit]
  have hno : (!(ofs I (fun _ => true) (nO I)).testBit i) = true ↔ ∀ k, k < nO I → oL I k ≠ i := by
    constructor
    · intro z k hk e
      have : (ofs I (fun _ => true) (nO I)).testBit i = true := (ofs_bit I _ _ _).mpr ⟨k, hk, rfl, e⟩
      rw [this] at z
      exact absurd z (by decide)
    · intro z
      cases q : (ofs I (fun _ => true) (nO I)).testBit i with
      | false => rfl
      | true =>
        obtain ⟨k, h1, -, h3⟩ := (ofs_bit I _ _ _).mp q
        exact absurd h3 (z k h1)
  rw [hno]
  constructor
  · rintro ⟨h1, h2⟩
    by_cases q : ∃ k, k < nO I ∧ oL I k = i
    · obtain ⟨k, q1, q2⟩ := q
      right
      refine ⟨k, q1, ?_, q2⟩
      cases z : set.testBit k with
      | true => rfl
      | false => exact absurd q2 (h2 k q1 z)
    · exact Or.inl ⟨h1, fun k hk e => q ⟨k, hk, e⟩⟩
  · rintro (⟨h1, h2⟩ | ⟨k, h1, h2, h3⟩)
    · exact ⟨h1, fun k hk _ => h2 k hk⟩
    · refine ⟨(rs_bit I d _ _).mpr ⟨by rw [← h3]; exact (gO.2.1 k h1).2.1, by rw [← h3]; exact h k h1 h2⟩, fun k' hk' hs e => ?_⟩
      by_cases q : k' = k
      · subst q; rw [h2] at hs; exact absurd hs (by decide)
      · rcases (by omega : k' < k ∨ k < k') with y | y
        · exact gO.2.2 k' k y h1 (by omega)
        · exact gO.2.2 k k' y hk' (by omega)
/-- the best of the sets below k, as both find it -/
def Bs (I : II) (d : Int32) (mi k b go su : Nat) : Prop := b < k ∧ okS I d mi b ∧ go = tg I (alw I d ||| lsS I b) (nP I) ∧ su = ts I (alw I d ||| lsS I b) (nP I)
theorem fix5_ex {K ρ : Type} {F : K → (Int32 → Int32 → Int32 → Int32 → II → Option ρ) → Int32 → Int32 → Int32 → Int32 → II → Option ρ} (e : Nat → Int32) (P : Nat → Int32 → Int32 → Int32 → II → Prop) (out : K → Int32 → Int32 → Int32 → II → Option ρ) (N : Nat) (step : ∀ i u v w J, i < N → P i u v w J → ∃ u' v' w' J', P (i + 1) u' v' w' J' ∧ ∀ κ self, F κ self u v w (e i) J = self u' v' w' (e (i + 1)) J') (fin : ∀ u v w J, P N u v w J → ∀ κ self, F κ self u v w (e N) J = out κ u v w J) : ∀ k i u v w J, i + k = N → P i u v w J → ∀ n, k < n → ∃ u' v' w' J', P N u' v' w' J' ∧ ∀ κ, fix5 (F κ) n u v w (e i) J = out κ u' v' w' J' := by
  intro k
  induction k with
  | zero =>
    intro i u v w J hi hP n hn
    obtain ⟨m, rfl⟩ : ∃ m, n = m + 1 := ⟨n - 1, by omega⟩
    have : i = N := by omega
    subst this
    exact ⟨u, v, w, J, hP, fun κ => fin u v w J hP κ _⟩
  | succ k ih =>
    intro i u v w J hi hP n hn
    obtain ⟨m, rfl⟩ : ∃ m, n = m + 1 := ⟨n - 1, by omega⟩
    obtain ⟨u', v', w', J', h1, h2⟩ := step i u v w J (by omega) hP
    obtain ⟨u2, v2, w2, J2, h3, h4⟩ := ih (i + 1) u' v' w' J' (by omega) h1 m (by omega)
    refine ⟨u2, v2, w2, J2, h3, fun κ => ?_⟩
    rw [← h4 κ]
    exact h2 κ _
/-- the sets, one after the other -/
noncomputable def bst (I : II) (d : Int32) (mi : Nat) : Nat → Nat × Nat × Nat
  | 0 => (0, 0, 0)
  | k + 1 => if k = 0 then (0, tg I (alw I d ||| lsS I 0) (nP I), ts I (alw I d ||| lsS I 0) (nP I)) else @ite _ (okS I d mi k ∧ ((bst I d mi k).2.1 < tg I (alw I d ||| lsS I k) (nP I) ∨ (tg I (alw I d ||| lsS I k) (nP I) = (bst I d mi k).2.1 ∧ ts I (alw I d ||| lsS I k) (nP I) < (bst I d mi k).2.2))) (Classical.propDecidable _) (k, tg I (alw I d ||| lsS I k) (nP I), ts I (alw I d ||| lsS I k) (nP I)) (bst I d mi k)
theorem ok_0 (I : II) (d : Int32) (mi : Nat) : okS I d mi 0 := by
  have : ∀ n, bmS I (Nat.testBit 0) n = 0 := fun n => by
    induction n with
    | zero => rfl
    | succ n ih =>
      show bmS I (Nat.testBit 0) n + (if Nat.testBit 0 n = true then _ else 0) = 0
      rw [ih, Nat.zero_testBit, if_neg (by decide)]
  refine ⟨fun k _ h => ?_, by rw [this]; exact Nat.zero_le _⟩
  rw [Nat.zero_testBit] at h
  exact absurd h (by decide)
theorem bst_ok (I : II) (d : Int32) (mi : Nat) : ∀ k, Bs I d mi (k + 1) (bst I d mi (k + 1)).1 (bst I d mi (k + 1)).2.1 (bst I d mi (k + 1)).2.2
  | 0 => by
    show Bs I d mi 1 0 _ _
    exact ⟨by decide, ok_0 I d mi, rfl, rfl⟩
  | k + 1 => by
    obtain ⟨h1, h2, h3, h4⟩ := bst_ok I d mi k
    have e : bst I d mi (k + 1 + 1) = if k + 1 = 0 then _ else @ite _ (okS I d mi (k + 1) ∧ ((bst I d mi (k + 1)).2.1 < tg I (alw I d ||| lsS I (k + 1)) (nP I) ∨ (tg I (alw I d ||| lsS I (k + 1)) (nP I) = (bst I d mi (k + 1)).2.1 ∧ ts I (alw I d ||| lsS I (k + 1)) (nP I) < (bst I d mi (k + 1)).2.2))) (Classical.propDecidable _) (k + 1, tg I (alw I d ||| lsS I (k + 1)) (nP I), ts I (alw I d ||| lsS I (k + 1)) (nP I)) (bst I d mi (k + 1)) := rfl
    rw [if_neg (Nat.succ_ne_zero k)] at e
    rw [e]
    by_cases q : okS I d mi (k + 1) ∧ ((bst I d mi (k + 1)).2.1 < tg I (alw I d ||| lsS I (k + 1)) (nP I) ∨ (tg I (alw I d ||| lsS I (k + 1)) (nP I) = (bst I d mi (k + 1)).2.1 ∧ ts I (alw I d ||| lsS I (k + 1)) (nP I) < (bst I d mi (k + 1)).2.2))
    · rw [if_pos q]
      exact ⟨Nat.lt_succ_self _, q.1, rfl, rfl⟩
    · rw [if_neg q]
      exact ⟨by omega, h2, h3, h4⟩
