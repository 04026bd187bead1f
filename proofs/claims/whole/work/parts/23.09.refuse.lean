/-! line: what is refused -/
theorem fsts (p : Nat → Prop) : ∀ n, (∀ i, i < n → p i) ∨ ∃ N, N < n ∧ (∀ i, i < N → p i) ∧ ¬ p N
  | 0 => Or.inl (fun i hi => absurd hi (Nat.not_lt_zero i))
  | n + 1 => by
    rcases fsts p n with h | ⟨N, h1, h2, h3⟩
    · by_cases q : p n
      · left
        intro i hi
        by_cases e : i = n
        · subst e; exact q
        · exact h i (by omega)
      · exact Or.inr ⟨n, Nat.lt_succ_self n, h, q⟩
    · exact Or.inr ⟨N, by omega, h2, h3⟩
def ua (c : Nat → Nat) (a : Nat) : Nat → Bool
  | 0 => true
  | b + 1 => ua c a b && !(decide (c a = c b))
def un (c : Nat → Nat) : Nat → Bool
  | 0 => true
  | a + 1 => un c a && ua c a a
theorem ua_iff (c : Nat → Nat) (a : Nat) : ∀ b, ua c a b = true ↔ ∀ j, j < b → c a ≠ c j
  | 0 => ⟨fun _ j hj => absurd hj (Nat.not_lt_zero j), fun _ => rfl⟩
  | b + 1 => by
    unfold ua
    rw [Bool.and_eq_true, ua_iff c a b]
    constructor
    · rintro ⟨h1, h2⟩ j hj
      by_cases e : j = b
      · subst e
        intro z
        rw [decide_eq_true z] at h2
        exact absurd h2 (by decide)
      · exact h1 j (by omega)
    · intro h
      refine ⟨fun j hj => h j (by omega), ?_⟩
      rw [decide_eq_false (h b (by omega))]
      rfl
theorem un_iff (c : Nat → Nat) : ∀ n, un c n = true ↔ ∀ j k, j < k → k < n → c j ≠ c k
  | 0 => ⟨fun _ j k _ hk => absurd hk (Nat.not_lt_zero k), fun _ => rfl⟩
  | n + 1 => by
    unfold un
    rw [Bool.and_eq_true, un_iff c n, ua_iff c n]
    constructor
    · rintro ⟨h1, h2⟩ j k hj hk
      by_cases e : k = n
      · subst e; exact fun z => h2 j hj z.symm
      · exact h1 j k hj (by omega)
    · intro h
      exact ⟨fun j k hj hk => h j k hj (by omega), fun j hj z => h j n hj (by omega) z.symm⟩
def bs (c : Nat → Nat) : Nat → Nat
  | 0 => 0
  | i + 1 => bs c i ||| 2 ^ c i
theorem bs_bit (c : Nat → Nat) (s : Nat) : ∀ i, (bs c i).testBit s = true ↔ ∃ j, j < i ∧ c j = s
  | 0 => by
    show (0 : Nat).testBit s = true ↔ _
    rw [Nat.zero_testBit]
    exact ⟨fun h => absurd h (by decide), fun ⟨j, hj, _⟩ => absurd hj (Nat.not_lt_zero j)⟩
  | i + 1 => by
    show (bs c i ||| 2 ^ c i).testBit s = true ↔ _
    rw [Nat.testBit_or, Bool.or_eq_true, bs_bit c s i, Nat.testBit_two_pow]
    constructor
    · rintro (⟨j, h1, h2⟩ | h)
      · exact ⟨j, by omega, h2⟩
      · exact ⟨i, by omega, of_decide_eq_true h⟩
    · rintro ⟨j, h1, h2⟩
      by_cases e : j = i
      · subst e; exact Or.inr (decide_eq_true h2)
      · exact Or.inl ⟨j, by omega, h2⟩
theorem bs_lt (c : Nat → Nat) : ∀ i, (∀ j, j < i → c j < 16) → bs c i < 2 ^ 16
  | 0, _ => by show 0 < 2 ^ 16; decide
  | i + 1, h => Nat.or_lt_two_pow (bs_lt c i (fun j hj => h j (by omega))) (Nat.pow_lt_pow_right (by decide) (h i (by omega)))
theorem bs_ua (c : Nat → Nat) (i : Nat) : (bs c i).testBit (c i) = !(ua c i i) := by
  cases h : ua c i i with
  | true =>
    have := (ua_iff c i i).mp h
    cases h2 : (bs c i).testBit (c i) with
    | false => rfl
    | true =>
      obtain ⟨j, hj, e⟩ := (bs_bit c (c i) i).mp h2
      exact absurd e.symm (this j hj)
  | false =>
    cases h2 : (bs c i).testBit (c i) with
    | true => rfl
    | false =>
      exfalso
      have : ua c i i = true := (ua_iff c i i).mpr (fun j hj z => by
        have := (bs_bit c (c i) i).mpr ⟨j, hj, z.symm⟩
        rw [h2] at this
        exact absurd this (by decide))
      rw [h] at this
      exact absurd this (by decide)
/-- the stop that the x-th pair of codes names -/
def cst (c : Nat → Int32) (x : Nat) : Nat := nx (c (2 * x))
def mok (c : Nat → Int32) (x : Nat) : Prop := 1 ≤ c (2 * x + 1) ∧ c (2 * x + 1) ≤ 30
def sok (c : Nat → Int32) (ns x : Nat) : Prop := c (2 * x) = nI (cst c x) ∧ cst c x < ns
theorem hs_ok {I : II} {a ns : Nat} {v : Int32} (e : I a 3 = nI ns) (hns : ns ≤ 16) : t_X2_hasStop I a v = if v = nI (nx v) ∧ nx v < ns then 1 else 0 := by
  unfold t_X2_hasStop
  rw [e]
  rcases cnt_cases v (n := ns) (by omega) with h | ⟨k, h1, h2, h3, h4⟩
  · have : ¬ (v = nI (nx v) ∧ nx v < ns) := by
      rintro ⟨z1, z2⟩
      rcases h with h | h
      · rw [z1] at h
        exact nI_nn (nx_bd _) h
      · rw [z1, nI_le_iff (by omega) (nx_bd _)] at h
        omega
    rw [if_neg this]
    rcases h with h | h
    · rw [if_pos h]
    · rw [if_pos h]; exact ite_self _
  · rw [if_neg h3, if_neg h4, if_pos]
    rw [h2, nx_nI (by omega)]
    exact ⟨rfl, h1⟩
theorem ns_ok {I : II} {ns : Nat} {v : Int32} (e : I 38 1 = nI ns) (hns : ns ≤ 16) : t_X11_noStop I 38 v = if v = nI (nx v) ∧ nx v < ns then 0 else 1 := by
  unfold t_X11_noStop
  rw [e]
  rcases cnt_cases v (n := ns) (by omega) with h | ⟨k, h1, h2, h3, h4⟩
  · have : ¬ (v = nI (nx v) ∧ nx v < ns) := by
      rintro ⟨z1, z2⟩
      rcases h with h | h
      · rw [z1] at h
        exact nI_nn (nx_bd _) h
      · rw [z1, nI_le_iff (by omega) (nx_bd _)] at h
        omega
    rw [if_neg this, w_up_no (by omega) h, if_pos rfl]
  · rw [w_up_yes (by omega) h3 h4, if_neg i1ne, if_pos]
    rw [h2, nx_nI (by omega)]
    exact ⟨rfl, h1⟩
theorem nI_m2 (x : Nat) : (2 : Int32) * nI x = nI (2 * x) := by rw [show (2 : Int32) = nI 2 from rfl, nI_mul]
theorem nI_p2 (x : Nat) : nI x + 2 = nI (x + 2) := nI_add x 2
theorem x_ref2 (fu : Nat) (hfu : 100 < fu) {S : Sk} {I : II} {r n ns : Nat} {c : Nat → Int32} (hl : S.2.2.1 r = 2 * n) (hn : 2 ≤ n) (hn8 : n ≤ 8) (hns : ns ≤ 16) (e3 : I 1 3 = nI ns) (hc : ∀ t, t < 2 * n → I r t = c t) :
    ((∃ x, x < n ∧ ¬ sok c ns x) → fix3 (lp_X2_refusalOf_38 fu S I 1 (r + 1)) fu 0 0 0 = some (-1)) ∧ ((∀ x, x < n → sok c ns x) → fix3 (lp_X2_refusalOf_38 fu S I 1 (r + 1)) fu 0 0 0 = some (if un (cst c) n = true then 0 else -3)) := by
  have el : (S.2.2.1 (r + 1 - 1)).toInt32 = nI (2 * n) := by rw [Nat.add_sub_cancel, hl]; rfl
  have step : ∀ i, i < n → (∀ j, j < i → sok c ns j) → ∀ self, lp_X2_refusalOf_38 fu S I 1 (r + 1) self (nI (bs (cst c) i)) (if un (cst c) i = true then 0 else 1) (nI (2 * i)) = if c (2 * i) = nI (cst c i) ∧ cst c i < ns then self (nI (bs (cst c) (i + 1))) (if un (cst c) (i + 1) = true then 0 else 1) (nI (2 * (i + 1))) else some (-1) := by
    intro i hi hj self
    have k2 := nx_nI (k := 2 * i) (by omega)
    have hb : bs (cst c) i < 2 ^ 16 := bs_lt _ _ (fun j z => by have := (hj j z).2; omega)
    unfold lp_X2_refusalOf_38
    rw [gd_pos (Nat.succ_ne_zero r), el, if_neg (by rw [nI_le_iff (by omega) (by omega)]; omega), gd_pos ⟨Nat.succ_ne_zero r, nI_nn (by omega), by rw [k2, Nat.add_sub_cancel, hl]; omega⟩]
    have erd : rd I (r + 1) (nI (2 * i)) = c (2 * i) := by unfold rd; rw [k2]; exact hc _ (by omega)
    rw [erd, hs_ok e3 hns]
    by_cases q : c (2 * i) = nI (cst c i) ∧ cst c i < ns
    · have q' : c (2 * i) = nI (nx (c (2 * i))) ∧ nx (c (2 * i)) < ns := q
      rw [if_pos q', if_neg i1ne, if_pos q]
      simp only [lt]
      rw [q.1, has_at (by omega) (by omega), nI_one (by omega), nI_or (by omega) (by have := Nat.pow_lt_pow_right (a := 2) (by decide) (show cst c i < 16 by omega); omega), nI_p2, bs_ua]
      have e1 : nI (bs (cst c) i ||| 2 ^ cst c i) = nI (bs (cst c) (i + 1)) := rfl
      have e2 : un (cst c) (i + 1) = (un (cst c) i && ua (cst c) i i) := rfl
      rw [e1, e2, show 2 * i + 2 = 2 * (i + 1) by omega]
      congr 1
      cases un (cst c) i <;> cases ua (cst c) i i <;> rfl
    · have q' : ¬ (c (2 * i) = nI (nx (c (2 * i))) ∧ nx (c (2 * i)) < ns) := q
      rw [if_neg q', if_pos rfl, if_neg q]
  constructor
  · rintro ⟨x, hx, hbad⟩
    rcases fsts (sok c ns) n with h | ⟨N, h1, h2, h3⟩
    · exact absurd (h x hx) hbad
    · refine fix3_run (F := lp_X2_refusalOf_38 fu S I 1 (r + 1)) (fun i => nI (bs (cst c) i)) (fun i => if un (cst c) i = true then 0 else 1) (fun i => nI (2 * i)) N (fun i hi self => ?_) (fun self => ?_) fu (by omega)
      · exact (step i (by omega) (fun j hj => h2 j (by omega)) _).trans (if_pos (h2 i hi))
      · exact (step N h1 h2 _).trans (if_neg h3)
  · intro h
    refine fix3_run (F := lp_X2_refusalOf_38 fu S I 1 (r + 1)) (fun i => nI (bs (cst c) i)) (fun i => if un (cst c) i = true then 0 else 1) (fun i => nI (2 * i)) n (fun i hi self => ?_) (fun self => ?_) fu (by omega)
    · exact (step i (by omega) (fun j hj => h j (by omega)) _).trans (if_pos (h i hi))
    · unfold lp_X2_refusalOf_38
      rw [gd_pos (Nat.succ_ne_zero r), el, if_pos (Int32.le_refl _)]
      cases un (cst c) n <;> rfl
/-- what class and reference say of the codes -/
def lrf (c : Nat → Int32) (n ns : Nat) (v : Int32) : Prop := ((∃ x, x < n - 1 ∧ ¬ mok c x) ∧ v = -2) ∨ ((∀ x, x < n - 1 → mok c x) ∧ (∃ x, x < n ∧ ¬ sok c ns x) ∧ v = -1) ∨ ((∀ x, x < n - 1 → mok c x) ∧ (∀ x, x < n → sok c ns x) ∧ un (cst c) n = false ∧ v = -3) ∨ ((∀ x, x < n - 1 → mok c x) ∧ (∀ x, x < n → sok c ns x) ∧ un (cst c) n = true ∧ v = 0)
theorem lrf_ex (c : Nat → Int32) (n ns : Nat) : ∃ v, lrf c n ns v := by
  unfold lrf
  rcases fsts (mok c) (n - 1) with h | ⟨N, h1, h2, h3⟩
  · rcases fsts (sok c ns) n with h' | ⟨N, h1, h2, h3⟩
    · cases q : un (cst c) n with
      | false => exact ⟨-3, Or.inr (Or.inr (Or.inl ⟨h, h', rfl, rfl⟩))⟩
      | true => exact ⟨0, Or.inr (Or.inr (Or.inr ⟨h, h', rfl, rfl⟩))⟩
    · exact ⟨-1, Or.inr (Or.inl ⟨h, ⟨N, h1, h3⟩, rfl⟩)⟩
  · exact ⟨-2, Or.inl ⟨⟨N, h1, h3⟩, rfl⟩⟩
theorem x_refusal (fu : Nat) (hfu : 100 < fu) {S : Sk} {I : II} {r n ns : Nat} {c : Nat → Int32} (hl : S.2.2.1 r = 2 * n) (hn : 2 ≤ n) (hn8 : n ≤ 8) (hns : ns ≤ 16) (e3 : I 1 3 = nI ns) (hc : ∀ t, t < 2 * n → I r t = c t) {v : Int32} (hv : lrf c n ns v) : f_X2_refusalOf fu S I 1 (r + 1) = some v := by
  have el : (S.2.2.1 (r + 1 - 1)).toInt32 - 2 = nI (2 * n - 2) := by rw [Nat.add_sub_cancel, hl]; exact nI_sub (b := 2) (by omega)
  unfold f_X2_refusalOf
  have step : ∀ i, i < n - 1 → ∀ self, lp_X2_refusalOf_2 fu S I 1 (r + 1) self (nI (1 + 2 * i)) = if 1 ≤ c (2 * i + 1) ∧ c (2 * i + 1) ≤ 30 then self (nI (1 + 2 * (i + 1))) else some (-2) := by
    intro i hi self
    have k2 := nx_nI (k := 1 + 2 * i) (by omega)
    unfold lp_X2_refusalOf_2
    rw [gd_pos (Nat.succ_ne_zero r), el, if_neg (by rw [nI_le_iff (by omega) (by omega)]; omega), gd_pos ⟨Nat.succ_ne_zero r, nI_nn (by omega), by rw [k2, Nat.add_sub_cancel, hl]; omega⟩]
    have erd : rd I (r + 1) (nI (1 + 2 * i)) = c (2 * i + 1) := by unfold rd; rw [k2, Nat.add_comm 1]; exact hc _ (by omega)
    rw [erd, w_within, nI_p2]
    by_cases q : 1 ≤ c (2 * i + 1) ∧ c (2 * i + 1) ≤ 30
    · rw [if_pos q, if_neg i1ne, if_pos q]
      rfl
    · rw [if_neg q, if_pos rfl, if_neg q]
  have goodR : (∀ x, x < n - 1 → mok c x) → fix1 (lp_X2_refusalOf_2 fu S I 1 (r + 1)) fu 1 = fix3 (lp_X2_refusalOf_38 fu S I 1 (r + 1)) fu 0 0 0 := by
    intro h
    refine fix1_run (F := lp_X2_refusalOf_2 fu S I 1 (r + 1)) (fun i => nI (1 + 2 * i)) (n - 1) (fun i hi self => ?_) (fun self => ?_) fu (by omega)
    · exact (step i hi _).trans (if_pos (h i hi))
    · unfold lp_X2_refusalOf_2
      rw [gd_pos (Nat.succ_ne_zero r), el, if_pos (by rw [nI_le_iff (by omega) (by omega)]; omega)]
  obtain ⟨a1, a2⟩ := x_ref2 fu hfu hl hn hn8 hns e3 hc
  rcases hv with ⟨⟨x, hx, hb⟩, rfl⟩ | ⟨hm, hb, rfl⟩ | ⟨hm, hs, hu, rfl⟩ | ⟨hm, hs, hu, rfl⟩
  · rcases fsts (mok c) (n - 1) with h | ⟨N, h1, h2, h3⟩
    · exact absurd (h x hx) hb
    · refine fix1_run (F := lp_X2_refusalOf_2 fu S I 1 (r + 1)) (fun i => nI (1 + 2 * i)) N (fun i hi self => ?_) (fun self => ?_) fu (by omega)
      · exact (step i (by omega) _).trans (if_pos (h2 i hi))
      · exact (step N h1 _).trans (if_neg h3)
  · rw [goodR hm, a1 hb]
  · rw [goodR hm, a2 hs, hu]; rfl
  · rw [goodR hm, a2 hs, hu]; rfl
theorem m_unlike (fu : Nat) (hfu : 100 < fu) {S : Sk} {I : II} {f n ns : Nat} {c : Nat → Int32} (hn8 : n ≤ 8) (hns : ns ≤ 16) (hf : f + 2 * n ≤ 240) (hc : ∀ t, t < 2 * n → I 75 (f + t) = c t) (hs : ∀ x, x < n → sok c ns x) : Rf_X11_areUnlike fu S I (nI f) (nI n) = some (if un (cst c) n = true then 1 else 0) := by
  unfold Rf_X11_areUnlike
  refine fix2_run (F := Rl_X11_areUnlike_5 fu S I (nI f) (nI n)) (fun a => if un (cst c) a = true then 1 else 0) (fun a => nI a) n (fun a ha self => ?_) (fun self => ?_) fu (by omega)
  · unfold Rl_X11_areUnlike_5
    rw [if_neg (by rw [nI_le_iff (by omega) (by omega)]; omega)]
    have := fix2_run (F := Rl_X11_areUnlike_14 fu S I self (nI f) (nI n) (nI a)) (out := self (if un (cst c) (a + 1) = true then 1 else 0) (nI (a + 1))) (fun b => if (un (cst c) a && ua (cst c) a b) = true then 1 else 0) (fun b => nI b) a (fun b hb self2 => ?_) (fun self2 => ?_) fu (by omega)
    · rw [show (un (cst c) a && ua (cst c) a 0) = un (cst c) a from Bool.and_true _] at this
      exact this
    · have ka := nx_nI (k := f + 2 * a) (by omega)
      have kb := nx_nI (k := f + 2 * b) (by omega)
      have e1 : rdN I 75 (nI (f + 2 * a)) = nI (cst c a) := by unfold rdN; rw [ka, hc _ (by omega)]; exact (hs a ha).1
      have e2 : rdN I 75 (nI (f + 2 * b)) = nI (cst c b) := by unfold rdN; rw [kb, hc _ (by omega)]; exact (hs b (by omega)).1
      have s1 := (hs a ha).2
      have s2 := (hs b (by omega)).2
      unfold Rl_X11_areUnlike_14 Rj_X11_areUnlike_54 Rj_X11_areUnlike_55
      rw [if_neg (by rw [nI_le_iff (by omega) (by omega)]; omega), nI_m2, nI_m2, nI_add, nI_add, gd_pos ⟨by decide, nI_nn (by omega), by rw [ka]; omega⟩, gd_pos ⟨by decide, nI_nn (by omega), by rw [kb]; omega⟩, e1, e2, nI_p1]
      have e3 : ua (cst c) a (b + 1) = (ua (cst c) a b && !(decide (cst c a = cst c b))) := rfl
      rw [e3]
      by_cases q : cst c a = cst c b
      · rw [if_pos (show nI (cst c a) = nI (cst c b) by rw [q]), decide_eq_true q, ite_self]
        cases un (cst c) a <;> cases ua (cst c) a b <;> rfl
      · have c1 : ¬ nI (cst c a) = nI (cst c b) := by rw [nI_eq_iff (by omega) (by omega)]; exact q
        rw [if_neg c1, decide_eq_false q]
        cases un (cst c) a <;> cases ua (cst c) a b <;> rfl
    · unfold Rl_X11_areUnlike_14
      rw [if_pos (Int32.le_refl _), nI_p1]
      rfl
  · unfold Rl_X11_areUnlike_5
    rw [if_pos (Int32.le_refl _)]
    cases un (cst c) n <;> rfl
