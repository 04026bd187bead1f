/-! sharing: states as numbers, what is kept of them -/
def stp (rm : Nat → Nat) : Nat → Nat
  | 0 => 1
  | p + 1 => stp rm p * (rm p + 1)
def cdU (rm u : Nat → Nat) : Nat → Nat
  | 0 => 0
  | p + 1 => cdU rm u p + u p * stp rm p
def smu (u : Nat → Nat) : Nat → Nat
  | 0 => 0
  | p + 1 => smu u p + u p
theorem stp_pos (rm : Nat → Nat) : ∀ n, 0 < stp rm n
  | 0 => by show 0 < 1; decide
  | n + 1 => Nat.mul_pos (stp_pos rm n) (Nat.succ_pos _)
theorem stp_le (rm : Nat → Nat) : ∀ n m, m ≤ n → stp rm m ≤ stp rm n
  | 0, m, h => by rw [show m = 0 by omega]; exact Nat.le_refl _
  | n + 1, m, h => by
    by_cases e : m = n + 1
    · subst e; exact Nat.le_refl _
    · exact Nat.le_trans (stp_le rm n m (by omega)) (Nat.le_mul_of_pos_right _ (Nat.succ_pos _))
theorem cdU_lt {rm u : Nat → Nat} : ∀ n, (∀ p, p < n → u p ≤ rm p) → cdU rm u n < stp rm n
  | 0, _ => by show 0 < 1; decide
  | n + 1, h => by
    have h1 := cdU_lt n (fun p hp => h p (by omega))
    have h2 := Nat.mul_le_mul_right (stp rm n) (h n (by omega))
    show cdU rm u n + u n * stp rm n < stp rm n * (rm n + 1)
    rw [Nat.mul_add, Nat.mul_one, Nat.mul_comm (stp rm n)]
    omega
theorem cdU_inj {rm u v : Nat → Nat} : ∀ n, (∀ p, p < n → u p ≤ rm p) → (∀ p, p < n → v p ≤ rm p) → cdU rm u n = cdU rm v n → ∀ p, p < n → u p = v p
  | 0, _, _, _, p, hp => absurd hp (Nat.not_lt_zero _)
  | n + 1, hu, hv, e, p, hp => by
    have h1 := cdU_lt (rm := rm) (u := u) n (fun p hp => hu p (by omega))
    have h2 := cdU_lt (rm := rm) (u := v) n (fun p hp => hv p (by omega))
    have e' : cdU rm u n + u n * stp rm n = cdU rm v n + v n * stp rm n := e
    have hn : u n = v n := by
      have a1 : (cdU rm u n + u n * stp rm n) / stp rm n = u n := by
        rw [Nat.add_comm, Nat.mul_comm, Nat.mul_add_div (stp_pos rm n), Nat.div_eq_of_lt h1, Nat.add_zero]
      have a2 : (cdU rm v n + v n * stp rm n) / stp rm n = v n := by
        rw [Nat.add_comm, Nat.mul_comm, Nat.mul_add_div (stp_pos rm n), Nat.div_eq_of_lt h2, Nat.add_zero]
      rw [← a1, ← a2, e']
    by_cases q : p = n
    · subst q; exact hn
    · rw [hn] at e'
      exact cdU_inj n (fun p hp => hu p (by omega)) (fun p hp => hv p (by omega)) (by omega) p (by omega)
theorem cdU_up {rm u : Nat → Nat} {q : Nat} : ∀ n, q < n → cdU rm (upw u q (u q + 1)) n = cdU rm u n + stp rm q
  | 0, h => absurd h (Nat.not_lt_zero _)
  | n + 1, h => by
    show cdU rm (upw u q (u q + 1)) n + upw u q (u q + 1) n * stp rm n = cdU rm u n + u n * stp rm n + stp rm q
    by_cases e : q = n
    · subst e
      have : ∀ m, m ≤ q → cdU rm (upw u q (u q + 1)) m = cdU rm u m := fun m => by
        induction m with
        | zero => intro _; rfl
        | succ m ih =>
          intro hm
          show cdU rm (upw u q (u q + 1)) m + upw u q (u q + 1) m * stp rm m = cdU rm u m + u m * stp rm m
          rw [ih (by omega), show upw u q (u q + 1) m = u m from if_neg (by omega)]
      rw [this q (Nat.le_refl _), show upw u q (u q + 1) q = u q + 1 from if_pos rfl, Nat.add_mul, Nat.one_mul]
      omega
    · rw [cdU_up n (by omega), show upw u q (u q + 1) n = u n from if_neg (fun z => e z.symm)]
      omega
theorem smu_up {u : Nat → Nat} {q : Nat} : ∀ n, q < n → smu (upw u q (u q + 1)) n = smu u n + 1
  | 0, h => absurd h (Nat.not_lt_zero _)
  | n + 1, h => by
    show smu (upw u q (u q + 1)) n + upw u q (u q + 1) n = smu u n + u n + 1
    by_cases e : q = n
    · subst e
      have : ∀ m, m ≤ q → smu (upw u q (u q + 1)) m = smu u m := fun m => by
        induction m with
        | zero => intro _; rfl
        | succ m ih =>
          intro hm
          show smu (upw u q (u q + 1)) m + upw u q (u q + 1) m = smu u m + u m
          rw [ih (by omega), show upw u q (u q + 1) m = u m from if_neg (by omega)]
      rw [this q (Nat.le_refl _), show upw u q (u q + 1) q = u q + 1 from if_pos rfl]
      omega
    · rw [smu_up n (by omega), show upw u q (u q + 1) n = u n from if_neg (fun z => e z.symm)]
      omega
theorem smu_cg {u v : Nat → Nat} : ∀ n, (∀ p, p < n → u p = v p) → smu u n = smu v n
  | 0, _ => rfl
  | n + 1, h => by
    show smu u n + u n = smu v n + v n
    rw [smu_cg n (fun p hp => h p (by omega)), h n (by omega)]
/-- what the class's sharing holds: n lines, pc places -/
def SH (n pc : Nat) (rm : Nat → Nat) (cs : Nat → Nat → Nat) (J : II) : Prop :=
  (J 15 1 = nI n ∧ n ≤ 8) ∧ (J 15 3 = nI pc ∧ pc ≤ 6) ∧ (∀ p, p < pc → J 17 p = nI (rm p) ∧ rm p ≤ 9 ∧ J 18 p = nI (stp rm p)) ∧ stp rm pc ≤ 6561 ∧ ∀ i p, i < n → p < pc → J 20 (6 * i + p) = nI (cs i p) ∧ cs i p ≤ 1000
theorem SH.fr {n pc : Nat} {rm : Nat → Nat} {cs : Nat → Nat → Nat} {J J' : II} (h : SH n pc rm cs J) (h15 : J' 15 = J 15) (h17 : J' 17 = J 17) (h18 : J' 18 = J 18) (h20 : J' 20 = J 20) : SH n pc rm cs J' := by
  unfold SH
  rw [h15, h17, h18, h20]
  exact h
def Mem (n pc : Nat) (rm : Nat → Nat) (cs : Nat → Nat → Nat) (J : II) : Prop := ∀ v, (∀ p, p < pc → v p ≤ rm p) → smu v pc < n → J 21 (cdU rm v pc) = -1 ∨ J 21 (cdU rm v pc) = nI (opt pc rm cs (n - smu v pc) (smu v pc) v)
theorem opt_bd {n pc : Nat} {rm : Nat → Nat} {cs : Nat → Nat → Nat} (hcs : ∀ i p, i < n → p < pc → cs i p ≤ 1000) : ∀ r i u, i + r ≤ n → opt pc rm cs r i u = NB ∨ opt pc rm cs r i u ≤ 1000 * r
  | 0, _, _, _ => Or.inr (Nat.le_refl _)
  | r + 1, i, u, h => by
    rcases mnf_ex (wth rm cs (opt pc rm cs r) i u) pc with e | ⟨p, p1, p2⟩
    · exact Or.inl e
    · have e : opt pc rm cs (r + 1) i u = wth rm cs (opt pc rm cs r) i u p := p2.symm
      rw [e]
      by_cases q : u p < rm p
      · have ew : wth rm cs (opt pc rm cs r) i u p = cs i p + opt pc rm cs r (i + 1) (upw u p (u p + 1)) := if_pos q
        have h1 := hcs i p (by omega) p1
        have h2 := (mnf_le (wth rm cs (opt pc rm cs r) i u) pc).1
        rw [← p2, ew] at h2
        rw [ew]
        rcases opt_bd (rm := rm) hcs r (i + 1) (upw u p (u p + 1)) (by omega) with z | z
        · left; omega
        · right; omega
      · exact Or.inl (if_neg q)
