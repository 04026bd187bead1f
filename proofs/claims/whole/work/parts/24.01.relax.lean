/-! loops that relax a row -/
theorem fix2_ex {K ρ : Type} {F : K → (Int32 → II → Option ρ) → Int32 → II → Option ρ} (e : Nat → Int32) (P : Nat → II → Prop) (out : K → II → Option ρ) (N : Nat) (step : ∀ i J, i < N → P i J → ∃ J', P (i + 1) J' ∧ ∀ κ self, F κ self (e i) J = self (e (i + 1)) J') (fin : ∀ J, P N J → ∀ κ self, F κ self (e N) J = out κ J) : ∀ k i J, i + k = N → P i J → ∀ n, k < n → ∃ J', P N J' ∧ ∀ κ, fix2 (F κ) n (e i) J = out κ J' := by
  intro k
  induction k with
  | zero =>
    intro i J hi hP n hn
    obtain ⟨m, rfl⟩ : ∃ m, n = m + 1 := ⟨n - 1, by omega⟩
    have : i = N := by omega
    subst this
    exact ⟨J, hP, fun κ => fin J hP κ _⟩
  | succ k ih =>
    intro i J hi hP n hn
    obtain ⟨m, rfl⟩ : ∃ m, n = m + 1 := ⟨n - 1, by omega⟩
    obtain ⟨J', h1, h2⟩ := step i J (by omega) hP
    obtain ⟨J2, h3, h4⟩ := ih (i + 1) J' (by omega) h1 m (by omega)
    refine ⟨J2, h3, fun κ => ?_⟩
    rw [← h4 κ]
    exact h2 κ _
theorem fix3_ex {K ρ : Type} {F : K → (Int32 → Int32 → II → Option ρ) → Int32 → Int32 → II → Option ρ} (e : Nat → Int32) (P : Nat → Int32 → II → Prop) (out : K → Int32 → II → Option ρ) (N : Nat) (step : ∀ i v J, i < N → P i v J → ∃ v' J', P (i + 1) v' J' ∧ ∀ κ self, F κ self v (e i) J = self v' (e (i + 1)) J') (fin : ∀ v J, P N v J → ∀ κ self, F κ self v (e N) J = out κ v J) : ∀ k i v J, i + k = N → P i v J → ∀ n, k < n → ∃ v' J', P N v' J' ∧ ∀ κ, fix3 (F κ) n v (e i) J = out κ v' J' := by
  intro k
  induction k with
  | zero =>
    intro i v J hi hP n hn
    obtain ⟨m, rfl⟩ : ∃ m, n = m + 1 := ⟨n - 1, by omega⟩
    have : i = N := by omega
    subst this
    exact ⟨v, J, hP, fun κ => fin v J hP κ _⟩
  | succ k ih =>
    intro i v J hi hP n hn
    obtain ⟨m, rfl⟩ : ∃ m, n = m + 1 := ⟨n - 1, by omega⟩
    obtain ⟨v', J', h1, h2⟩ := step i v J (by omega) hP
    obtain ⟨v2, J2, h3, h4⟩ := ih (i + 1) v' J' (by omega) h1 m (by omega)
    refine ⟨v2, J2, h3, fun κ => ?_⟩
    rw [← h4 κ]
    exact h2 κ _
/-- a row as numbers -/
def rw_ (J : II) (a : Nat) : Nat → Nat := fun j => nx (J a j)
/-- a row of so many numbers, none above B -/
def Row (n B : Nat) (J : II) (a : Nat) : Prop := ∀ j, j < n → J a j = nI (rw_ J a j) ∧ rw_ J a j ≤ B
def Rlx (n : Nat) (U : Nat → Nat → Prop) (f f' : Nat → Nat) : Prop := (∀ j, j < n → f' j ≤ f j) ∧ (∀ j v, j < n → U j v → f' j ≤ v) ∧ ∀ j, j < n → f' j = f j ∨ U j (f' j)
theorem Rlx.rf {n : Nat} {f : Nat → Nat} {U : Nat → Nat → Prop} (h : ∀ j v, ¬ U j v) : Rlx n U f f := ⟨fun _ _ => Nat.le_refl _, fun j v _ q => absurd q (h j v), fun _ _ => Or.inl rfl⟩
theorem Rlx.tr {n : Nat} {f g h : Nat → Nat} {U V W : Nat → Nat → Prop} (h1 : Rlx n U f g) (h2 : Rlx n V g h) (hW : ∀ j v, W j v ↔ U j v ∨ V j v) : Rlx n W f h := by
  refine ⟨fun j hj => Nat.le_trans (h2.1 j hj) (h1.1 j hj), fun j v hj q => ?_, fun j hj => ?_⟩
  · rcases (hW j v).mp q with q | q
    · exact Nat.le_trans (h2.1 j hj) (h1.2.1 j v hj q)
    · exact h2.2.1 j v hj q
  · rcases h2.2.2 j hj with e | e
    · rcases h1.2.2 j hj with e2 | e2
      · exact Or.inl (e.trans e2)
      · right; rw [e]; exact (hW _ _).mpr (Or.inl e2)
    · exact Or.inr ((hW _ _).mpr (Or.inr e))
/-- only row a differs, and it is relaxed -/
def Rl1 (n B a : Nat) (U : Nat → Nat → Prop) (J J' : II) : Prop := (∀ b, b ≠ a → J' b = J b) ∧ Row n B J' a ∧ Rlx n U (rw_ J a) (rw_ J' a)
theorem Rl1.rf {n B a : Nat} {U : Nat → Nat → Prop} {J : II} (hr : Row n B J a) (h : ∀ j v, ¬ U j v) : Rl1 n B a U J J := ⟨fun _ _ => rfl, hr, Rlx.rf h⟩
theorem Rl1.tr {n B a : Nat} {U V W : Nat → Nat → Prop} {J J1 J2 : II} (h1 : Rl1 n B a U J J1) (h2 : Rl1 n B a V J1 J2) (hW : ∀ j v, W j v ↔ U j v ∨ V j v) : Rl1 n B a W J J2 := ⟨fun b hb => (h2.1 b hb).trans (h1.1 b hb), h2.2.1, h1.2.2.tr h2.2.2 hW⟩
theorem Rl1.im {n B a : Nat} {U V : Nat → Nat → Prop} {J J1 : II} (h1 : Rl1 n B a U J J1) (hW : ∀ j v, j < n → (U j v ↔ V j v)) : Rl1 n B a V J J1 := ⟨h1.1, h1.2.1, h1.2.2.1, fun j v hj q => h1.2.2.2.1 j v hj ((hW j v hj).mpr q), fun j hj => (h1.2.2.2.2 j hj).imp id (hW j _ hj).mp⟩
/-- one place gets the lesser -/
theorem Rl1.one {n B a : Nat} {J : II} (hr : Row n B J a) (hB : B < 2147483648) {at_ v : Nat} (hat : at_ < n) (U : Nat → Nat → Prop) (hU : U at_ v) (hU2 : ∀ j u, j < n → U j u → j = at_ ∧ v ≤ u) {x : Int32} (hx : x = nI (min (rw_ J a at_) v)) : Rl1 n B a U J (upI J a at_ x) := by
  have hv := (hr at_ hat).2
  have e1 : ∀ j, j ≠ at_ → rw_ (upI J a at_ x) a j = rw_ J a j := fun j hj => by unfold rw_; rw [upI_cell hj]
  have e2 : rw_ (upI J a at_ x) a at_ = min (rw_ J a at_) v := by
    unfold rw_ at *
    rw [upI_at, hx, nx_nI (by omega)]
  refine ⟨fun b hb => upI_row hb, fun j hj => ?_, fun j hj => ?_, fun j u hj q => ?_, fun j hj => ?_⟩
  · by_cases q : j = at_
    · subst q
      rw [e2, upI_at]
      exact ⟨hx, by omega⟩
    · rw [e1 j q, upI_cell q]; exact hr j hj
  · by_cases q : j = at_
    · subst q; rw [e2]; omega
    · rw [e1 j q]; exact Nat.le_refl _
  · obtain ⟨rfl, h2⟩ := hU2 j u hj q
    rw [e2]; omega
  · by_cases q : j = at_
    · subst q
      rw [e2]
      by_cases z : rw_ J a j ≤ v
      · left; omega
      · right; rw [show min (rw_ J a j) v = v by omega]; exact hU
    · left; exact e1 j q
