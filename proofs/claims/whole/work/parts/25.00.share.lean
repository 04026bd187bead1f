/-! sharing lines out: the least cost, and the first row with it -/
def mnf (f : Nat → Nat) : Nat → Nat
  | 0 => NB
  | p + 1 => min (mnf f p) (f p)
theorem mnf_le (f : Nat → Nat) : ∀ n, mnf f n ≤ NB ∧ ∀ p, p < n → mnf f n ≤ f p
  | 0 => ⟨Nat.le_refl _, fun p h => absurd h (Nat.not_lt_zero _)⟩
  | n + 1 => by
    obtain ⟨h1, h2⟩ := mnf_le f n
    unfold mnf
    refine ⟨by omega, fun p hp => ?_⟩
    by_cases e : p = n
    · subst e; omega
    · have := h2 p (by omega); omega
theorem mnf_ex (f : Nat → Nat) : ∀ n, mnf f n = NB ∨ ∃ p, p < n ∧ f p = mnf f n
  | 0 => Or.inl rfl
  | n + 1 => by
    unfold mnf
    by_cases q : f n < mnf f n
    · exact Or.inr ⟨n, by omega, by omega⟩
    · rw [show min (mnf f n) (f n) = mnf f n by omega]
      rcases mnf_ex f n with h | ⟨p, h1, h2⟩
      · exact Or.inl h
      · exact Or.inr ⟨p, by omega, h2⟩
theorem mnf_cg {f g : Nat → Nat} : ∀ n, (∀ p, p < n → f p = g p) → mnf f n = mnf g n
  | 0, _ => rfl
  | n + 1, h => by
    unfold mnf
    rw [mnf_cg n (fun p hp => h p (by omega)), h n (by omega)]
/-- from p on, the first of k with the value, or the one behind them -/
def fpr (f : Nat → Nat) (v : Nat) : Nat → Nat → Nat
  | 0, p => p
  | k + 1, p => if f p = v then p else fpr f v k (p + 1)
theorem fpr_at (f : Nat → Nat) (v : Nat) : ∀ k p, p ≤ fpr f v k p ∧ fpr f v k p ≤ p + k ∧ (∀ q, p ≤ q → q < fpr f v k p → f q ≠ v) ∧ (fpr f v k p < p + k → f (fpr f v k p) = v)
  | 0, p => ⟨Nat.le_refl _, Nat.le_refl _, fun q h1 h2 => by unfold fpr at h2; omega, fun h => by unfold fpr at h; omega⟩
  | k + 1, p => by
    unfold fpr
    by_cases q : f p = v
    · rw [if_pos q]
      exact ⟨Nat.le_refl _, by omega, fun q h1 h2 => by omega, fun _ => q⟩
    · rw [if_neg q]
      obtain ⟨h1, h2, h3, h4⟩ := fpr_at f v k (p + 1)
      refine ⟨by omega, by omega, fun q' z1 z2 => ?_, fun z => h4 (by omega)⟩
      by_cases e : q' = p
      · subst e; exact q
      · exact h3 q' (by omega) z2
theorem fpr_first (f : Nat → Nat) {n : Nat} (h : mnf f n < NB) : fpr f (mnf f n) (n - 1) 0 < n ∧ f (fpr f (mnf f n) (n - 1) 0) = mnf f n ∧ ∀ q, q < fpr f (mnf f n) (n - 1) 0 → mnf f n < f q := by
  obtain ⟨h1, h2, h3, h4⟩ := fpr_at f (mnf f n) (n - 1) 0
  rcases mnf_ex f n with e | ⟨p, p1, p2⟩
  · omega
  have hat : f (fpr f (mnf f n) (n - 1) 0) = mnf f n := by
    by_cases q : fpr f (mnf f n) (n - 1) 0 < 0 + (n - 1)
    · exact h4 q
    · have e : fpr f (mnf f n) (n - 1) 0 = n - 1 := by omega
      by_cases z : p = n - 1
      · rw [e, ← z]; exact p2
      · exact absurd p2 (h3 p (Nat.zero_le _) (by omega))
  refine ⟨by omega, hat, fun q hq => ?_⟩
  have z1 := h3 q (Nat.zero_le _) hq
  have z2 := (mnf_le f n).2 q (by omega)
  omega
/-- the cost with place p for the i-th -/
def wth (rm : Nat → Nat) (cs : Nat → Nat → Nat) (o : Nat → (Nat → Nat) → Nat) (i : Nat) (u : Nat → Nat) (p : Nat) : Nat := if u p < rm p then cs i p + o (i + 1) (upw u p (u p + 1)) else NB
def opt (pc : Nat) (rm : Nat → Nat) (cs : Nat → Nat → Nat) : Nat → Nat → (Nat → Nat) → Nat
  | 0, _, _ => 0
  | r + 1, i, u => mnf (wth rm cs (opt pc rm cs r) i u) pc
theorem opt_le (pc : Nat) (rm : Nat → Nat) (cs : Nat → Nat → Nat) : ∀ r i u, opt pc rm cs r i u ≤ NB
  | 0, _, _ => Nat.zero_le _
  | _ + 1, _, _ => (mnf_le _ _).1
theorem opt_cg (pc : Nat) (rm : Nat → Nat) (cs : Nat → Nat → Nat) : ∀ r i u v, (∀ p, p < pc → u p = v p) → opt pc rm cs r i u = opt pc rm cs r i v
  | 0, _, _, _, _ => rfl
  | r + 1, i, u, v, h => by
    refine mnf_cg pc (fun p hp => ?_)
    unfold wth
    rw [h p hp, opt_cg pc rm cs r (i + 1) (upw u p (v p + 1)) (upw v p (v p + 1)) (fun q hq => by
      unfold upw
      by_cases e : q = p
      · rw [if_pos e, if_pos e]
      · rw [if_neg e, if_neg e]; exact h q hq)]
/-- the cost of a row -/
def Vr (pc : Nat) (rm : Nat → Nat) (cs : Nat → Nat → Nat) : Nat → Nat → (Nat → Nat) → Nat → Nat
  | 0, _, _, _ => 0
  | r + 1, i, u, x => if u (x / pc ^ r) < rm (x / pc ^ r) then cs i (x / pc ^ r) + Vr pc rm cs r (i + 1) (upw u (x / pc ^ r) (u (x / pc ^ r) + 1)) (x % pc ^ r) else NB
/-- the first best row -/
def Rr (pc : Nat) (rm : Nat → Nat) (cs : Nat → Nat → Nat) : Nat → Nat → (Nat → Nat) → Nat
  | 0, _, _ => 0
  | r + 1, i, u => fpr (wth rm cs (opt pc rm cs r) i u) (opt pc rm cs (r + 1) i u) (pc - 1) 0 * pc ^ r + Rr pc rm cs r (i + 1) (upw u (fpr (wth rm cs (opt pc rm cs r) i u) (opt pc rm cs (r + 1) i u) (pc - 1) 0) (u (fpr (wth rm cs (opt pc rm cs r) i u) (opt pc rm cs (r + 1) i u) (pc - 1) 0) + 1))
theorem first_min (pc : Nat) (rm : Nat → Nat) (cs : Nat → Nat → Nat) : ∀ r i u, (∀ x, x < pc ^ r → opt pc rm cs r i u ≤ Vr pc rm cs r i u x) ∧ (opt pc rm cs r i u < NB → Rr pc rm cs r i u < pc ^ r ∧ Vr pc rm cs r i u (Rr pc rm cs r i u) = opt pc rm cs r i u ∧ ∀ x, x < Rr pc rm cs r i u → opt pc rm cs r i u < Vr pc rm cs r i u x)
  | 0, i, u => ⟨fun _ _ => Nat.zero_le _, fun _ => ⟨by show 0 < 1; decide, rfl, fun x h => absurd h (Nat.not_lt_zero _)⟩⟩
  | r + 1, i, u => by
    have ih := first_min pc rm cs r (i + 1)
    have hstep : ∀ p x', p < pc → x' < pc ^ r → wth rm cs (opt pc rm cs r) i u p ≤ Vr pc rm cs (r + 1) i u (p * pc ^ r + x') ∧ (p * pc ^ r + x') / pc ^ r = p ∧ (p * pc ^ r + x') % pc ^ r = x' := by
      intro p x' hp hx
      have hpos : 0 < pc ^ r := by omega
      have e1 : (p * pc ^ r + x') / pc ^ r = p := by
        rw [Nat.mul_comm, Nat.mul_add_div hpos, Nat.div_eq_of_lt hx, Nat.add_zero]
      have e2 : (p * pc ^ r + x') % pc ^ r = x' := by
        rw [Nat.mul_comm, Nat.mul_add_mod, Nat.mod_eq_of_lt hx]
      refine ⟨?_, e1, e2⟩
      unfold Vr wth
      rw [e1, e2]
      split
      · have := (ih (upw u p (u p + 1))).1 x' hx
        omega
      · exact Nat.le_refl _
    have hdec : ∀ x, x < pc ^ (r + 1) → x / pc ^ r < pc ∧ x % pc ^ r < pc ^ r ∧ x = x / pc ^ r * pc ^ r + x % pc ^ r := by
      intro x hx
      rw [Nat.pow_succ] at hx
      have hpos : 0 < pc ^ r := by
        rcases Nat.eq_zero_or_pos (pc ^ r) with z | z
        · rw [z, Nat.zero_mul] at hx; omega
        · exact z
      refine ⟨Nat.div_lt_of_lt_mul hx, Nat.mod_lt _ hpos, ?_⟩
      have := Nat.div_add_mod x (pc ^ r)
      rw [Nat.mul_comm] at this
      exact this.symm
    have hmn := mnf_le (wth rm cs (opt pc rm cs r) i u) pc
    constructor
    · intro x hx
      obtain ⟨h1, h2, h3⟩ := hdec x hx
      have := (hstep _ _ h1 h2).1
      rw [← h3] at this
      exact Nat.le_trans (hmn.2 _ h1) this
    · intro hlt
      obtain ⟨f1, f2, f3⟩ := fpr_first (wth rm cs (opt pc rm cs r) i u) (n := pc) hlt
      have eo : opt pc rm cs (r + 1) i u = mnf (wth rm cs (opt pc rm cs r) i u) pc := rfl
      have eR : Rr pc rm cs (r + 1) i u = fpr (wth rm cs (opt pc rm cs r) i u) (opt pc rm cs (r + 1) i u) (pc - 1) 0 * pc ^ r + Rr pc rm cs r (i + 1) (upw u (fpr (wth rm cs (opt pc rm cs r) i u) (opt pc rm cs (r + 1) i u) (pc - 1) 0) (u (fpr (wth rm cs (opt pc rm cs r) i u) (opt pc rm cs (r + 1) i u) (pc - 1) 0) + 1)) := rfl
      rw [← eo] at f1 f2 f3
      rw [eR]
      generalize fpr (wth rm cs (opt pc rm cs r) i u) (opt pc rm cs (r + 1) i u) (pc - 1) 0 = p at *
      have hu : u p < rm p := by
        by_cases z : u p < rm p
        · exact z
        · unfold wth at f2
          rw [if_neg z] at f2
          omega
      have f2' : cs i p + opt pc rm cs r (i + 1) (upw u p (u p + 1)) = opt pc rm cs (r + 1) i u := by
        have := f2
        unfold wth at this
        rw [if_pos hu] at this
        exact this
      obtain ⟨g1, g2, g3⟩ := (ih (upw u p (u p + 1))).2 (by omega)
      generalize Rr pc rm cs r (i + 1) (upw u p (u p + 1)) = y at *
      have hlt2 : p * pc ^ r + y < pc ^ (r + 1) := by
        rw [Nat.pow_succ, Nat.mul_comm (pc ^ r) pc]
        have := Nat.mul_le_mul_right (pc ^ r) (show p + 1 ≤ pc by omega)
        rw [Nat.add_mul] at this
        omega
      obtain ⟨s1, s2, s3⟩ := hstep p y f1 g1
      refine ⟨hlt2, ?_, fun x hx => ?_⟩
      · unfold Vr
        rw [s2, s3, if_pos hu, g2, f2']
      · obtain ⟨d1, d2, d3⟩ := hdec x (by omega)
        obtain ⟨t1, t2, t3⟩ := hstep _ _ d1 d2
        rw [← d3] at t1
        by_cases q : x / pc ^ r < p
        · have := f3 _ q
          omega
        · have ep : x / pc ^ r = p := by
            rcases (by omega : x / pc ^ r = p ∨ p + 1 ≤ x / pc ^ r) with z | z
            · exact z
            · exfalso
              have h6 := Nat.mul_le_mul_right (pc ^ r) z
              rw [Nat.add_mul] at h6
              have h5 := Nat.div_mul_le_self x (pc ^ r)
              clear d3 t1 t2 t3 s1 s2 s3
              omega
          have hy : x % pc ^ r < y := by
            rw [ep] at d3
            omega
          have := g3 _ hy
          unfold Vr
          rw [ep, if_pos hu]
          omega
/-- a row's places, k-th of n -/
def dgt (pc n x k : Nat) : Nat := x / pc ^ (n - 1 - k) % pc
theorem dgt_at {pc n x k : Nat} (hk : k < n) : x % pc ^ (n - k) / pc ^ (n - 1 - k) = dgt pc n x k := by
  unfold dgt
  rw [show n - k = n - 1 - k + 1 by omega, Nat.pow_succ, Nat.mod_mul_right_div_self]
theorem mod_at {pc n x k : Nat} (hk : k < n) : x % pc ^ (n - k) % pc ^ (n - 1 - k) = x % pc ^ (n - 1 - k) := by
  rw [show n - k = n - 1 - k + 1 by omega, Nat.pow_succ]
  exact Nat.mod_mod_of_dvd x ⟨pc, rfl⟩
/-- how often p stands at the places i .. i + r - 1 -/
def cnt (a : Nat → Nat) (p i : Nat) : Nat → Nat
  | 0 => 0
  | r + 1 => (if a i = p then 1 else 0) + cnt a p (i + 1) r
def sma (cs : Nat → Nat → Nat) (a : Nat → Nat) (i : Nat) : Nat → Nat
  | 0 => 0
  | r + 1 => cs i (a i) + sma cs a (i + 1) r
theorem Vr_val {pc n x : Nat} {rm : Nat → Nat} {cs : Nat → Nat → Nat} : ∀ r i u, i + r = n → (∀ p, u p ≤ rm p) → (((∀ p, u p + cnt (dgt pc n x) p i r ≤ rm p) ∧ Vr pc rm cs r i u (x % pc ^ r) = sma cs (dgt pc n x) i r) ∨ ((∃ p, rm p < u p + cnt (dgt pc n x) p i r) ∧ NB ≤ Vr pc rm cs r i u (x % pc ^ r)))
  | 0, i, u, _, hu => Or.inl ⟨fun p => hu p, rfl⟩
  | r + 1, i, u, hi, hu => by
    have e1 : x % pc ^ (r + 1) / pc ^ r = dgt pc n x i := by
      have := dgt_at (pc := pc) (n := n) (x := x) (k := i) (by omega)
      rw [show n - i = r + 1 by omega, show n - 1 - i = r by omega] at this
      exact this
    have e2 : x % pc ^ (r + 1) % pc ^ r = x % pc ^ r := by
      have := mod_at (pc := pc) (n := n) (x := x) (k := i) (by omega)
      rw [show n - i = r + 1 by omega, show n - 1 - i = r by omega] at this
      exact this
    have hcn : ∀ p, cnt (dgt pc n x) p i (r + 1) = (if dgt pc n x i = p then 1 else 0) + cnt (dgt pc n x) p (i + 1) r := fun p => rfl
    have hsm : sma cs (dgt pc n x) i (r + 1) = cs i (dgt pc n x i) + sma cs (dgt pc n x) (i + 1) r := rfl
    unfold Vr
    rw [e1, e2]
    generalize hP : dgt pc n x i = P at *
    by_cases q : u P < rm P
    · rw [if_pos q]
      have hup : ∀ p, upw u P (u P + 1) p = u p + (if P = p then 1 else 0) := fun p => by
        unfold upw
        by_cases e : p = P
        · rw [if_pos e, if_pos e.symm, e]
        · rw [if_neg e, if_neg (fun z => e z.symm)]
          rfl
      have hu' : ∀ p, upw u P (u P + 1) p ≤ rm p := fun p => by
        rw [hup]
        by_cases e : P = p
        · subst e; rw [if_pos rfl]; omega
        · rw [if_neg e]; exact hu p
      rcases Vr_val (pc := pc) (n := n) (x := x) (rm := rm) (cs := cs) r (i + 1) (upw u P (u P + 1)) (by omega) hu' with ⟨h1, h2⟩ | ⟨⟨p, h1⟩, h2⟩
      · refine Or.inl ⟨fun p => ?_, by rw [h2, hsm]⟩
        have := h1 p
        rw [hup] at this
        rw [hcn]
        omega
      · refine Or.inr ⟨⟨p, ?_⟩, by omega⟩
        rw [hup] at h1
        rw [hcn]
        omega
    · rw [if_neg q]
      refine Or.inr ⟨⟨P, ?_⟩, Nat.le_refl _⟩
      rw [hcn, if_pos rfl]
      have := hu P
      omega
