/-! night: orders, and the first that is done soonest -/
def dnt (fr : Nat → Nat → Nat) (st op : Nat → Nat) (at_ now b : Nat) : Nat := max (now + fr at_ (st b)) (op b) + 5
def Vn (n : Nat) (fr : Nat → Nat → Nat) (st op cl : Nat → Nat) : Nat → Nat → Nat → Nat → Nat → Nat
  | 0, _, now, _, _ => now
  | r + 1, at_, now, tk, x => if tk.testBit (x / n ^ r) = true then NB else if dnt fr st op at_ now (x / n ^ r) ≤ cl (x / n ^ r) then Vn n fr st op cl r (st (x / n ^ r)) (dnt fr st op at_ now (x / n ^ r)) (tk ||| 2 ^ (x / n ^ r)) (x % n ^ r) else NB
theorem Vn_ge (n : Nat) (fr : Nat → Nat → Nat) (st op cl : Nat → Nat) : ∀ r at_ now tk x, now ≤ NB → now ≤ Vn n fr st op cl r at_ now tk x ∨ NB ≤ Vn n fr st op cl r at_ now tk x
  | 0, _, _, _, _, _ => Or.inl (Nat.le_refl _)
  | r + 1, at_, now, tk, x, h => by
    unfold Vn
    split
    · exact Or.inr (Nat.le_refl _)
    · split
      · have hd : now ≤ dnt fr st op at_ now (x / n ^ r) := by unfold dnt; omega
        by_cases z : dnt fr st op at_ now (x / n ^ r) ≤ NB
        · rcases Vn_ge n fr st op cl r (st (x / n ^ r)) (dnt fr st op at_ now (x / n ^ r)) (tk ||| 2 ^ (x / n ^ r)) (x % n ^ r) z with y | y
          · left; omega
          · exact Or.inr y
        · left
          have : ∀ r' a w t y, NB ≤ w → NB ≤ Vn n fr st op cl r' a w t y := fun r' => by
            induction r' with
            | zero => intro a w t y hw; exact hw
            | succ r' ih =>
              intro a w t y hw
              unfold Vn
              split
              · exact Nat.le_refl _
              · split
                · exact ih _ _ _ _ (by unfold dnt; omega)
                · exact Nat.le_refl _
          have := this r (st (x / n ^ r)) (dnt fr st op at_ now (x / n ^ r)) (tk ||| 2 ^ (x / n ^ r)) (x % n ^ r) (by omega)
          omega
      · exact Or.inr (Nat.le_refl _)
/-- of the rows below m: none is below A, or x0 is the first least -/
def Out (V : Nat → Nat) (A m : Nat) (o : Option Nat) : Prop := match o with
  | none => ∀ x, x < m → A ≤ V x
  | some x0 => x0 < m ∧ V x0 < A ∧ ∀ x, x < m → V x0 ≤ V x ∧ (x < x0 → V x0 < V x)
def best (V : Nat → Nat) (A : Nat) (o : Option Nat) : Nat := match o with
  | none => A
  | some x0 => V x0
/-- a block of rows more -/
theorem Out.more {V : Nat → Nat} {A m k : Nat} {o o' : Option Nat} (h : Out V A m o) (h' : Out (fun x => V (m + x)) (best V A o) k o') : ∃ o2, Out V A (m + k) o2 ∧ best V A o2 = best (fun x => V (m + x)) (best V A o) o' ∧ ((o' = none ∧ o2 = o) ∨ ∃ x', o' = some x' ∧ o2 = some (m + x')) := by
  cases o' with
  | none =>
    refine ⟨o, ?_, rfl, Or.inl ⟨rfl, rfl⟩⟩
    have h2 : ∀ x, x < k → best V A o ≤ V (m + x) := h'
    cases o with
    | none =>
      intro x hx
      by_cases q : x < m
      · exact h x q
      · have := h2 (x - m) (by omega)
        rw [show m + (x - m) = x by omega] at this
        exact this
    | some x0 =>
      obtain ⟨a1, a2, a3⟩ := h
      refine ⟨by omega, a2, fun x hx => ?_⟩
      by_cases q : x < m
      · exact a3 x q
      · have := h2 (x - m) (by omega)
        rw [show m + (x - m) = x by omega] at this
        have h3 : V x0 ≤ V x := this
        exact ⟨h3, fun z => by omega⟩
  | some x' =>
    obtain ⟨b1, b2, b3⟩ := h'
    have b2' : V (m + x') < best V A o := b2
    refine ⟨some (m + x'), ?_, rfl, Or.inr ⟨x', rfl, rfl⟩⟩
    have hA : V (m + x') < A ∧ ∀ x, x < m → V (m + x') < V x := by
      cases o with
      | none => exact ⟨b2', fun x hx => Nat.lt_of_lt_of_le b2' (h x hx)⟩
      | some x0 =>
        obtain ⟨a1, a2, a3⟩ := h
        have c : V (m + x') < V x0 := b2'
        exact ⟨by omega, fun x hx => by have := (a3 x hx).1; omega⟩
    refine ⟨by omega, hA.1, fun x hx => ?_⟩
    by_cases q : x < m
    · have := hA.2 x q
      exact ⟨by omega, fun _ => this⟩
    · have := b3 (x - m) (by omega)
      have e : m + (x - m) = x := by omega
      have t1 : V (m + x') ≤ V (m + (x - m)) := this.1
      have t2 : x - m < x' → V (m + x') < V (m + (x - m)) := this.2
      rw [e] at t1 t2
      exact ⟨t1, fun z => t2 (by omega)⟩
theorem best_le {V : Nat → Nat} {A m : Nat} {o : Option Nat} (h : Out V A m o) : best V A o ≤ A := by
  cases o with
  | none => exact Nat.le_refl _
  | some x0 => exact Nat.le_of_lt h.2.1
/-- the sequence's own way -/
def Db (fr : Nat → Nat → Nat) (st op cl a : Nat → Nat) : Nat → Nat → Nat → Nat → Nat
  | 0, _, _, now => now
  | r + 1, i, at_, now => if dnt fr st op at_ now (a i) ≤ cl (a i) then Db fr st op cl a r (i + 1) (st (a i)) (dnt fr st op at_ now (a i)) else NB
theorem Vn_un {n x : Nat} {fr : Nat → Nat → Nat} {st op cl : Nat → Nat} : ∀ r i at_ now tk, i + r = n → now < NB → Vn n fr st op cl r at_ now tk (x % n ^ r) < NB → (∀ k, i ≤ k → k < n → tk.testBit (dgt n n x k) = false) ∧ ∀ j k, i ≤ j → j < k → k < n → dgt n n x j ≠ dgt n n x k
  | 0, i, at_, now, tk, hi, _, _ => ⟨fun k h1 h2 => by omega, fun j k h1 h2 h3 => by omega⟩
  | r + 1, i, at_, now, tk, hi, hnow, h => by
    have e1 : x % n ^ (r + 1) / n ^ r = dgt n n x i := by
      have := dgt_at (pc := n) (n := n) (x := x) (k := i) (by omega)
      rw [show n - i = r + 1 by omega, show n - 1 - i = r by omega] at this
      exact this
    have e2 : x % n ^ (r + 1) % n ^ r = x % n ^ r := by
      have := mod_at (pc := n) (n := n) (x := x) (k := i) (by omega)
      rw [show n - i = r + 1 by omega, show n - 1 - i = r by omega] at this
      exact this
    unfold Vn at h
    rw [e1, e2] at h
    by_cases q : tk.testBit (dgt n n x i) = true
    · rw [if_pos q] at h; exact absurd h (Nat.lt_irrefl _)
    · rw [if_neg q] at h
      by_cases z : dnt fr st op at_ now (dgt n n x i) ≤ cl (dgt n n x i)
      · rw [if_pos z] at h
        have hd : dnt fr st op at_ now (dgt n n x i) < NB := by
          rcases (by omega : dnt fr st op at_ now (dgt n n x i) < NB ∨ NB ≤ dnt fr st op at_ now (dgt n n x i)) with w | w
          · exact w
          · exfalso
            have : ∀ r' a w t y, NB ≤ w → NB ≤ Vn n fr st op cl r' a w t y := fun r' => by
              induction r' with
              | zero => intro a w t y hw; exact hw
              | succ r' ih =>
                intro a w t y hw
                unfold Vn
                split
                · exact Nat.le_refl _
                · split
                  · exact ih _ _ _ _ (by unfold dnt; omega)
                  · exact Nat.le_refl _
            have := this r (st (dgt n n x i)) _ (tk ||| 2 ^ dgt n n x i) (x % n ^ r) w
            omega
        obtain ⟨y1, y2⟩ := Vn_un r (i + 1) _ _ _ (by omega) hd h
        refine ⟨fun k h1 h2 => ?_, fun j k h1 h2 h3 => ?_⟩
        · by_cases e : k = i
          · subst e
            cases w : tk.testBit (dgt n n x k) with
            | false => rfl
            | true => exact absurd w q
          · have := y1 k (by omega) h2
            rw [Nat.testBit_or, Bool.or_eq_false_iff] at this
            exact this.1
        · by_cases e : j = i
          · subst e
            have := y1 k (by omega) h3
            rw [Nat.testBit_or, Bool.or_eq_false_iff, Nat.testBit_two_pow] at this
            exact of_decide_eq_false this.2
          · exact y2 j k (by omega) h2 h3
      · rw [if_neg z] at h; exact absurd h (Nat.lt_irrefl _)
theorem Vn_db {n x : Nat} {fr : Nat → Nat → Nat} {st op cl : Nat → Nat} (hu : ∀ j k, j < k → k < n → dgt n n x j ≠ dgt n n x k) : ∀ r i at_ now tk, i + r = n → (∀ b, tk.testBit b = true ↔ ∃ j, j < i ∧ dgt n n x j = b) → Vn n fr st op cl r at_ now tk (x % n ^ r) = Db fr st op cl (dgt n n x) r i at_ now
  | 0, i, at_, now, tk, hi, _ => rfl
  | r + 1, i, at_, now, tk, hi, htk => by
    have e1 : x % n ^ (r + 1) / n ^ r = dgt n n x i := by
      have := dgt_at (pc := n) (n := n) (x := x) (k := i) (by omega)
      rw [show n - i = r + 1 by omega, show n - 1 - i = r by omega] at this
      exact this
    have e2 : x % n ^ (r + 1) % n ^ r = x % n ^ r := by
      have := mod_at (pc := n) (n := n) (x := x) (k := i) (by omega)
      rw [show n - i = r + 1 by omega, show n - 1 - i = r by omega] at this
      exact this
    have q : ¬ tk.testBit (dgt n n x i) = true := fun z => by
      obtain ⟨j, j1, j2⟩ := (htk _).mp z
      exact hu j i j1 (by omega) j2
    unfold Vn Db
    rw [e1, e2, if_neg q]
    by_cases z : dnt fr st op at_ now (dgt n n x i) ≤ cl (dgt n n x i)
    · rw [if_pos z, if_pos z]
      refine Vn_db hu r (i + 1) _ _ _ (by omega) (fun b => ?_)
      rw [Nat.testBit_or, Bool.or_eq_true, htk b, Nat.testBit_two_pow, decide_eq_true_iff]
      constructor
      · rintro (⟨j, j1, j2⟩ | h)
        · exact ⟨j, by omega, j2⟩
        · exact ⟨i, by omega, h⟩
      · rintro ⟨j, j1, j2⟩
        by_cases e : j = i
        · subst e; exact Or.inr j2
        · exact Or.inl ⟨j, by omega, j2⟩
    · rw [if_neg z, if_neg z]
theorem dgt_0 {n r b x : Nat} (hx : x < n ^ r) (hb : b < n) : dgt n (r + 1) (b * n ^ r + x) 0 = b := by
  unfold dgt
  have hpos : 0 < n ^ r := by omega
  rw [show r + 1 - 1 - 0 = r by omega, Nat.mul_comm, Nat.mul_add_div hpos, Nat.div_eq_of_lt hx, Nat.add_zero, Nat.mod_eq_of_lt hb]
theorem dgt_s {n r b x k : Nat} (hn : 0 < n) (hk : k < r) : dgt n (r + 1) (b * n ^ r + x) (k + 1) = dgt n r x k := by
  unfold dgt
  rw [show r + 1 - 1 - (k + 1) = r - 1 - k by omega]
  have e : b * n ^ r = n ^ (r - 1 - k) * (n * (b * n ^ k)) := by
    rw [show r = (r - 1 - k) + (k + 1) by omega, Nat.pow_add, Nat.pow_succ, show (r - 1 - k) + (k + 1) - 1 - k = r - 1 - k by omega]
    rw [Nat.mul_comm (n ^ k) n, ← Nat.mul_assoc, ← Nat.mul_assoc, Nat.mul_comm b, Nat.mul_assoc, Nat.mul_assoc, Nat.mul_left_comm b n]
  rw [e, Nat.mul_add_div (Nat.pow_pos hn), Nat.mul_add_mod]
