/-! fit, roster: what is told -/
/-- what both answer -/
def Tld (n pc : Nat) (rm : Nat → Nat) (cs : Nat → Nat → Nat) (ln : Nat → Nat) (x v : Int32) : Prop := (opt pc rm cs n 0 (fun _ => 0) = NB ∧ v = -9) ∨ (opt pc rm cs n 0 (fun _ => 0) < NB ∧ ((x = -1 ∧ v = nI (opt pc rm cs n 0 (fun _ => 0))) ∨ ∃ l, l < 14 ∧ x = nI l ∧ ((∃ k, k < n ∧ ln k = l ∧ v = nI (dgt pc n (Rr pc rm cs n 0 (fun _ => 0)) k)) ∨ ((∀ k, k < n → ln k ≠ l) ∧ v = -9))))
theorem Tld.uq {n pc : Nat} {rm : Nat → Nat} {cs : Nat → Nat → Nat} {ln : Nat → Nat} (hln : ∀ j k, j < k → k < n → ln j ≠ ln k) {x v w : Int32} (h : Tld n pc rm cs ln x v) (h' : Tld n pc rm cs ln x w) : v = w := by
  rcases h with ⟨a1, a2⟩ | ⟨a1, a2⟩
  · rcases h' with ⟨b1, b2⟩ | ⟨b1, b2⟩
    · rw [a2, b2]
    · omega
  · rcases h' with ⟨b1, b2⟩ | ⟨b1, b2⟩
    · omega
    · rcases a2 with ⟨c1, c2⟩ | ⟨l, c0, c1, c2⟩
      · rcases b2 with ⟨d1, d2⟩ | ⟨l', d0, d1, -⟩
        · rw [c2, d2]
        · rw [c1] at d1
          exact absurd (show nI l' < 0 by rw [← d1]; decide) (nI_nn (by omega))
      · rcases b2 with ⟨d1, d2⟩ | ⟨l', d0, d1, d2⟩
        · rw [d1] at c1
          exact absurd (show nI l < 0 by rw [← c1]; decide) (nI_nn (by omega))
        · have el : l = l' := (nI_eq_iff (by omega) (by omega)).mp (c1.symm.trans d1)
          subst el
          rcases c2 with ⟨k, e1, e2, e3⟩ | ⟨e1, e2⟩
          · rcases d2 with ⟨k', f1, f2, f3⟩ | ⟨f1, f2⟩
            · have : k = k' := by
                rcases (by omega : k < k' ∨ k = k' ∨ k' < k) with z | z | z
                · exact absurd (e2.trans f2.symm) (hln k k' z f1)
                · exact z
                · exact absurd (f2.trans e2.symm) (hln k' k z e1)
              rw [e3, f3, this]
            · exact absurd e2 (f1 k e1)
          · rcases d2 with ⟨k', f1, f2, f3⟩ | ⟨f1, f2⟩
            · exact absurd f2 (e1 k' f1)
            · rw [e2, f2]
theorem m_told (fu : Nat) (hfu : 100 < fu) {S : Sk} {I J : II} (hK : Keep I J) {n pc : Nat} {rm : Nat → Nat} {cs : Nat → Nat → Nat} {ln : Nat → Nat} {x : Int32} (hn : n ≤ 8) (hpc6 : pc ≤ 6) (hpw : pc ^ n ≤ 65536) (hln14 : ∀ k, k < n → ln k < 14) (hx : x = -1 ∨ ∃ l, l < 14 ∧ x = nI l) (e40 : J 38 40 = nI n) (h67 : ∀ k, k < n → J 67 k = nI (ln k)) (hr : (J 38 43 = -9 ∧ opt pc rm cs n 0 (fun _ => 0) = NB) ∨ (opt pc rm cs n 0 (fun _ => 0) < NB ∧ J 38 43 = nI (Rr pc rm cs n 0 (fun _ => 0)) ∧ J 38 44 = nI (opt pc rm cs n 0 (fun _ => 0)))) :
    ∃ v J', Rf_X11_rowTold fu S J x (nI pc) = some (v, J') ∧ Keep I J' ∧ Tld n pc rm cs ln x v := by
  rcases hr with ⟨a1, a2⟩ | ⟨a1, a2, a3⟩
  · refine ⟨-9, J, ?_, hK, Or.inl ⟨a2, rfl⟩⟩
    unfold Rf_X11_rowTold Rj_X11_rowTold_11
    rw [a1, if_pos (by decide), if_neg (by decide)]
  · have hR := ((first_min pc rm cs n 0 (fun _ => 0)).2 a1).1
    have n43 : ¬ J 38 43 < 0 := by rw [a2]; exact nI_nn (by omega)
    have p43 : 0 ≤ J 38 43 := Int32.not_lt.mp n43
    rcases hx with rfl | ⟨l, hl, rfl⟩
    · refine ⟨_, J, ?_, hK, Or.inr ⟨a1, Or.inl ⟨rfl, rfl⟩⟩⟩
      unfold Rf_X11_rowTold Rj_X11_rowTold_11
      rw [if_neg n43, if_neg (by decide), if_pos p43, a3]
    · have hp : 0 < pc ∨ n = 0 := by
        rcases Nat.eq_zero_or_pos pc with z | z
        · right
          by_cases e : n = 0
          · exact e
          · rw [z, Nat.zero_pow (by omega)] at hR; omega
        · exact Or.inl z
      obtain ⟨J1, b1, b2, b3⟩ := m_layRow fu hfu (S := S) (x := Rr pc rm cs n 0 (fun _ => 0)) e40 (by omega) hp hpc6 (by omega)
      have k1 : Keep I J1 := hK.tr (fun a j z => by rw [b2 a (fun e => z (by unfold scr; omega))])
      have e40' : J1 38 40 = nI n := by rw [b2 38 (by decide)]; exact e40
      have step : ∀ k, k < n → ∀ self, Rl_X11_rowTold_39 fu S J1 (nI l) self (nI k) = if ln k = l then some (nI (dgt pc n (Rr pc rm cs n 0 (fun _ => 0)) k), J1) else self (nI (k + 1)) := by
        intro k hk self
        have kk := nx_nI (k := k) (by omega)
        have h14 := hln14 k hk
        have in14 : ∀ b : Nat, b ≠ 0 → inbL b 14 (nI k) := fun b hb => ⟨hb, nI_nn (by omega), by rw [kk]; omega⟩
        unfold Rl_X11_rowTold_39 rdN
        rw [e40', if_neg (by rw [nI_le_iff (by omega) (by omega)]; omega), gd_pos (in14 _ (by decide)), gd_pos (in14 _ (by decide)), kk, b2 67 (by decide), h67 k hk, b3 k hk, nI_p1]
        by_cases q : ln k = l
        · rw [if_pos (by rw [q]), if_pos q]
        · rw [if_neg (by rw [nI_eq_iff (by omega) (by omega)]; exact q), if_neg q]
      have hpre : Rf_X11_rowTold fu S J (nI l) (nI pc) = fix1 (Rl_X11_rowTold_39 fu S J1 (nI l)) fu 0 := by
        unfold Rf_X11_rowTold
        rw [if_neg n43, if_pos (nonneg_nI (by omega)), a2, b1, Option.bind_some]
      rcases fsts (fun k => ln k ≠ l) n with h | ⟨N, h1, h2, h3⟩
      · refine ⟨-9, J1, ?_, k1, Or.inr ⟨a1, Or.inr ⟨l, hl, rfl, Or.inr ⟨h, rfl⟩⟩⟩⟩
        rw [hpre]
        refine fix1_run (F := Rl_X11_rowTold_39 fu S J1 (nI l)) (fun k => nI k) n (fun k hk self => ?_) (fun self => ?_) fu (by omega)
        · exact (step k hk self).trans (if_neg (h k hk))
        · unfold Rl_X11_rowTold_39
          rw [e40', if_pos (Int32.le_refl _)]
      · have h3' : ln N = l := Classical.not_not.mp h3
        refine ⟨_, J1, ?_, k1, Or.inr ⟨a1, Or.inr ⟨l, hl, rfl, Or.inl ⟨N, h1, h3', rfl⟩⟩⟩⟩
        rw [hpre]
        refine fix1_run (F := Rl_X11_rowTold_39 fu S J1 (nI l)) (fun k => nI k) N (fun k hk self => ?_) (fun self => ?_) fu (by omega)
        · exact (step k (by omega) self).trans (if_neg (h2 k hk))
        · exact (step N h1 self).trans (if_pos h3')
theorem w_m1 {x : Int32} {n : Nat} (hn : n < 100) : ((x = -1 ∨ ∃ k, k < n ∧ x = nI k) → t_X11_in x.toInt64 (-1) ((nI n).toInt64 - 1) = 1) ∧ (¬ (x = -1 ∨ ∃ k, k < n ∧ x = nI k) → t_X11_in x.toInt64 (-1) ((nI n).toInt64 - 1) = 0) := by
  have e := i64_pred (n := n) (by omega)
  have key : ((-1 : Int64) ≤ x.toInt64 ∧ x.toInt64 ≤ (nI n).toInt64 - 1) ↔ (x = -1 ∨ ∃ k, k < n ∧ x = nI k) := by
    rw [Int64.le_iff_toInt_le, Int64.le_iff_toInt_le, e, Int32.toInt_toInt64, show (-1 : Int64).toInt = -1 from rfl]
    constructor
    · rintro ⟨h1, h2⟩
      by_cases q : x.toInt = -1
      · left
        exact Int32.toInt_inj.mp (q.trans rfl)
      · right
        refine ⟨x.toInt.toNat, by omega, ?_⟩
        apply Int32.toInt_inj.mp
        rw [toInt_nI (by omega)]
        omega
    · rintro (rfl | ⟨k, hk, rfl⟩)
      · exact ⟨by decide, by show (-1 : Int) ≤ _; omega⟩
      · rw [toInt_nI (by omega)]
        omega
  rw [w_in]
  exact ⟨fun h => if_pos (key.mpr h), fun h => if_neg (fun z => h (key.mp z))⟩
theorem stp_9 {rm : Nat → Nat} {b : Nat} : ∀ q, (∀ p, p < q → rm p + 1 ≤ b) → stp rm q ≤ b ^ q
  | 0, _ => Nat.le_refl _
  | q + 1, h => by
    have h1 := stp_9 q (fun p hp => h p (by omega))
    show stp rm q * (rm q + 1) ≤ b ^ q * b
    exact Nat.mul_le_mul h1 (h q (by omega))
theorem cnp_0 {a : Nat → Nat} {p : Nat} : ∀ n, (∀ k, k < n → a k ≠ p) → cnp a p n = 0
  | 0, _ => rfl
  | n + 1, h => by
    show cnp a p n + (if a n = p then 1 else 0) = 0
    rw [cnp_0 n (fun k hk => h k (by omega)), if_neg (h n (by omega))]
theorem cnp_1 {a : Nat → Nat} {p j : Nat} (e : a j = p) : ∀ n, j < n → 1 ≤ cnp a p n
  | 0, h => absurd h (Nat.not_lt_zero _)
  | n + 1, h => by
    show 1 ≤ cnp a p n + (if a n = p then 1 else 0)
    by_cases q : j = n
    · subst q; rw [if_pos e]; omega
    · have := cnp_1 e n (by omega); omega
theorem un_cnp (a : Nat → Nat) : ∀ n, un a n = true ↔ ∀ p, cnp a p n ≤ 1
  | 0 => ⟨fun _ p => Nat.zero_le _, fun _ => rfl⟩
  | n + 1 => by
    show (un a n && ua a n n) = true ↔ _
    rw [Bool.and_eq_true, un_cnp a n, ua_iff]
    constructor
    · rintro ⟨h1, h2⟩ p
      show cnp a p n + (if a n = p then 1 else 0) ≤ 1
      by_cases e : a n = p
      · subst e
        rw [cnp_0 n (fun k hk z => h2 k hk z.symm), if_pos rfl]
        exact Nat.le_refl _
      · rw [if_neg e]; exact h1 p
    · intro h
      refine ⟨fun p => ?_, fun j hj z => ?_⟩
      · have h1 : cnp a p n + (if a n = p then 1 else 0) ≤ 1 := h p
        omega
      · have h1 : cnp a (a n) n + (if a n = a n then 1 else 0) ≤ 1 := h (a n)
        rw [if_pos rfl] at h1
        have := cnp_1 (a := a) z.symm n hj
        omega
def cap (rm u : Nat → Nat) : Nat → Nat
  | 0 => 0
  | p + 1 => cap rm u p + (rm p - u p)
theorem cap_up {rm u : Nat → Nat} {q : Nat} (hq : u q < rm q) : ∀ n, q < n → cap rm (upw u q (u q + 1)) n + 1 = cap rm u n
  | 0, h => absurd h (Nat.not_lt_zero _)
  | n + 1, h => by
    show cap rm (upw u q (u q + 1)) n + (rm n - upw u q (u q + 1) n) + 1 = cap rm u n + (rm n - u n)
    by_cases e : q = n
    · subst e
      have : ∀ m, m ≤ q → cap rm (upw u q (u q + 1)) m = cap rm u m := fun m => by
        induction m with
        | zero => intro _; rfl
        | succ m ih =>
          intro hm
          show cap rm (upw u q (u q + 1)) m + (rm m - upw u q (u q + 1) m) = cap rm u m + (rm m - u m)
          rw [ih (by omega), show upw u q (u q + 1) m = u m from if_neg (by omega)]
      rw [this q (Nat.le_refl _), show upw u q (u q + 1) q = u q + 1 from if_pos rfl]
      omega
    · have := cap_up hq n (by omega)
      rw [show upw u q (u q + 1) n = u n from if_neg (fun z => e z.symm)]
      omega
theorem opt_cap {pc : Nat} {rm : Nat → Nat} {cs : Nat → Nat → Nat} : ∀ r i u, opt pc rm cs r i u < NB → r ≤ cap rm u pc
  | 0, _, _, _ => Nat.zero_le _
  | r + 1, i, u, h => by
    rcases mnf_ex (wth rm cs (opt pc rm cs r) i u) pc with e | ⟨p, p1, p2⟩
    · have h' : mnf (wth rm cs (opt pc rm cs r) i u) pc < NB := h
      omega
    · have h' : wth rm cs (opt pc rm cs r) i u p < NB := by rw [p2]; exact h
      by_cases q : u p < rm p
      · have ew : wth rm cs (opt pc rm cs r) i u p = cs i p + opt pc rm cs r (i + 1) (upw u p (u p + 1)) := if_pos q
        rw [ew] at h'
        have h1 := opt_cap (pc := pc) (rm := rm) (cs := cs) r (i + 1) (upw u p (u p + 1)) (Nat.lt_of_le_of_lt (Nat.le_add_left _ _) h')
        have h2 := cap_up q pc p1
        omega
      · have ew : wth rm cs (opt pc rm cs r) i u p = NB := if_neg q
        omega
