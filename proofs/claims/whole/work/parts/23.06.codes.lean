/-! text: what the codes say -/
def dg (v : Int32) : Bool := decide (48 ≤ v ∧ v ≤ 57)
theorem dg_at {v : Int32} (h : dg v = true) : v = nI (nx v) ∧ 48 ≤ nx v ∧ nx v ≤ 57 := by
  obtain ⟨h1, h2⟩ := of_decide_eq_true h
  have h0 : ¬ v < 0 := by
    intro z
    exact absurd (Int32.lt_of_le_of_lt h1 z) (by decide)
  have e := nI_nx h0
  refine ⟨e, ?_, nx_le h0 (n := 57) (by decide) h2⟩
  rw [e] at h1
  exact (nI_le_iff (a := 48) (by decide) (nx_bd _)).mp h1
def sc (c : Nat → Int32) (n : Nat) : Nat → Nat → Nat → Nat × Nat
  | 0, e, v => (e, v)
  | k + 1, e, v => if e < n ∧ dg (c e) = true then sc c n k (e + 1) (10 * v + (nx (c e) - 48)) else (e, v)
theorem sc_ge (c : Nat → Int32) (n : Nat) : ∀ k e v, e ≤ (sc c n k e v).1 ∧ (sc c n k e v).1 ≤ e + k ∧ (e ≤ n → (sc c n k e v).1 ≤ n) ∧ (sc c n k e v).2 + 1 ≤ (v + 1) * 10 ^ k
  | 0, e, v => by
    refine ⟨Nat.le_refl _, Nat.le_refl _, fun h => h, ?_⟩
    show v + 1 ≤ (v + 1) * 10 ^ 0
    omega
  | k + 1, e, v => by
    unfold sc
    by_cases q : e < n ∧ dg (c e) = true
    · rw [if_pos q]
      obtain ⟨h1, h2, h3, h4⟩ := sc_ge c n k (e + 1) (10 * v + (nx (c e) - 48))
      obtain ⟨-, d1, d2⟩ := dg_at q.2
      refine ⟨by omega, by omega, fun _ => h3 q.1, Nat.le_trans h4 ?_⟩
      rw [Nat.pow_succ, Nat.mul_comm (10 ^ k) 10, ← Nat.mul_assoc]
      exact Nat.mul_le_mul_right _ (by omega)
    · rw [if_neg q]
      refine ⟨Nat.le_refl _, Nat.le_add_right _ _, fun h => h, ?_⟩
      show v + 1 ≤ (v + 1) * 10 ^ (k + 1)
      have : 0 < 10 ^ (k + 1) := Nat.pow_pos (by decide)
      exact Nat.le_mul_of_pos_right _ this
theorem nI_p1 (e : Nat) : nI e + 1 = nI (e + 1) := nI_1 e
theorem x_end (fu : Nat) {S : Sk} {I : II} {r n b : Nat} {c : Nat → Int32} (hl : S.2.2.1 r = n) (hn : n ≤ 60) (hc : ∀ t, t < n → I r t = c t) (hb : b ≤ 100) : ∀ k e v m, e + k = b + 3 → k < m → fix1 (lp_X7_endOfNumber_2 fu S I (r + 1) (nI b)) m (nI e) = some (nI (sc c n k e v).1)
  | 0, e, v, m, he, hm => by
    obtain ⟨m, rfl⟩ : ∃ j, m = j + 1 := ⟨m - 1, by omega⟩
    show lp_X7_endOfNumber_2 fu S I (r + 1) (nI b) _ (nI e) = some (nI e)
    have e3 : nI b + (3 : Int32) ≤ nI e := by
      rw [show nI b + (3 : Int32) = nI (b + 3) from nI_add _ _, nI_le_iff (by omega) (by omega)]
      omega
    unfold lp_X7_endOfNumber_2
    rw [gd_pos (Nat.succ_ne_zero r), if_pos e3]
    exact ite_self _
  | k + 1, e, v, m, he, hm => by
    obtain ⟨m, rfl⟩ : ∃ j, m = j + 1 := ⟨m - 1, by omega⟩
    show lp_X7_endOfNumber_2 fu S I (r + 1) (nI b) (fix1 (lp_X7_endOfNumber_2 fu S I (r + 1) (nI b)) m) (nI e) = _
    have e3 : ¬ nI b + (3 : Int32) ≤ nI e := by
      rw [show nI b + (3 : Int32) = nI (b + 3) from nI_add _ _, nI_le_iff (by omega) (by omega)]
      omega
    have el : (S.2.2.1 (r + 1 - 1)).toInt32 = nI n := by rw [Nat.add_sub_cancel, hl]; rfl
    have ke := nx_nI (k := e) (by omega)
    have ih := x_end fu hl hn hc hb k (e + 1) (10 * v + (nx (c e) - 48)) m (by omega) (by omega)
    generalize fix1 (lp_X7_endOfNumber_2 fu S I (r + 1) (nI b)) m = self at ih ⊢
    unfold lp_X7_endOfNumber_2
    rw [gd_pos (Nat.succ_ne_zero r), el, if_neg e3]
    unfold sc
    by_cases q : e < n
    · rw [if_neg (by rw [nI_le_iff (by omega) (by omega)]; omega), gd_pos ⟨Nat.succ_ne_zero r, nI_nn (by omega), by rw [ke, Nat.add_sub_cancel, hl]; exact q⟩]
      unfold rd
      rw [ke, Nat.add_sub_cancel, hc e q]
      by_cases q1 : c e < 48
      · rw [if_pos q1, if_neg]
        rintro ⟨-, z⟩
        exact absurd (of_decide_eq_true z).1 (Int32.not_le.mpr q1)
      · rw [if_neg q1]
        by_cases q2 : 57 < c e
        · rw [if_pos q2, if_neg]
          rintro ⟨-, z⟩
          exact absurd (of_decide_eq_true z).2 (Int32.not_le.mpr q2)
        · rw [if_neg q2, if_pos ⟨q, decide_eq_true ⟨Int32.not_lt.mp q1, Int32.not_lt.mp q2⟩⟩, nI_p1]
          exact ih
    · rw [if_pos (by rw [nI_le_iff (by omega) (by omega)]; omega), if_neg (fun z => q z.1)]
theorem dg_val {v : Int32} {m : Nat} (h : dg v = true) : (10 : Int32) * nI m + v - 48 = nI (10 * m + (nx v - 48)) := by
  obtain ⟨h1, h2, h3⟩ := dg_at h
  rw [h1, show (10 : Int32) = nI 10 from rfl, show (48 : Int32) = nI 48 from rfl, nI_mul, nI_add, nI_sub (by omega), nx_nI (nx_bd _)]
  congr 1
  omega
theorem x_val (fu : Nat) {S : Sk} {I : II} {r n : Nat} {c : Nat → Int32} (hl : S.2.2.1 r = n) (hn : n ≤ 60) (hc : ∀ t, t < n → I r t = c t) : ∀ k e v m, e + k < 1000 → k < m → fix2 (lp_X7_valueOf_5 fu S I (r + 1) (nI (sc c n k e v).1)) m (nI v) (nI e) = some (nI (sc c n k e v).2)
  | 0, e, v, m, he, hm => by
    obtain ⟨m, rfl⟩ : ∃ j, m = j + 1 := ⟨m - 1, by omega⟩
    show lp_X7_valueOf_5 fu S I (r + 1) (nI e) _ (nI v) (nI e) = some (nI v)
    unfold lp_X7_valueOf_5
    rw [if_pos (Int32.le_refl _)]
  | k + 1, e, v, m, he, hm => by
    obtain ⟨m, rfl⟩ : ∃ j, m = j + 1 := ⟨m - 1, by omega⟩
    by_cases q : e < n ∧ dg (c e) = true
    · have es : sc c n (k + 1) e v = sc c n k (e + 1) (10 * v + (nx (c e) - 48)) := if_pos q
      obtain ⟨h1, h2, h3, h4⟩ := sc_ge c n k (e + 1) (10 * v + (nx (c e) - 48))
      have ke := nx_nI (k := e) (by omega)
      rw [es]
      show lp_X7_valueOf_5 fu S I (r + 1) _ (fix2 (lp_X7_valueOf_5 fu S I (r + 1) _) m) (nI v) (nI e) = _
      have ih := x_val fu hl hn hc k (e + 1) (10 * v + (nx (c e) - 48)) m (by omega) (by omega)
      generalize sc c n k (e + 1) (10 * v + (nx (c e) - 48)) = K at *
      generalize fix2 (lp_X7_valueOf_5 fu S I (r + 1) (nI K.1)) m = self at ih ⊢
      unfold lp_X7_valueOf_5 rd
      rw [if_neg (by rw [nI_le_iff (by omega) (by omega)]; omega), gd_pos ⟨Nat.succ_ne_zero r, nI_nn (by omega), by rw [ke, Nat.add_sub_cancel, hl]; exact q.1⟩]
      unfold lt
      rw [ke, Nat.add_sub_cancel, hc e q.1, dg_val q.2, nI_p1]
      exact ih
    · have es : sc c n (k + 1) e v = (e, v) := if_neg q
      rw [es]
      show lp_X7_valueOf_5 fu S I (r + 1) (nI e) _ (nI v) (nI e) = some (nI v)
      unfold lp_X7_valueOf_5
      rw [if_pos (Int32.le_refl _)]
theorem t_dg (v : Int32) : t_X11_in v.toInt64 48 57 = if dg v = true then 1 else 0 := by
  rw [show t_X11_in v.toInt64 48 57 = t_X10_isWithin v 48 57 from w_in32 (lo := 48) (hi := 57), w_within]
  unfold dg
  by_cases q : (48 : Int32) ≤ v ∧ v ≤ 57
  · rw [if_pos q, if_pos (decide_eq_true q)]
  · rw [if_neg q, if_neg (by rw [decide_eq_false q]; decide)]
theorem m_num (fu : Nat) {S : Sk} {n f b p : Nat} {c : Nat → Int32} (hn : n ≤ 60) (hf : f + n ≤ 240) (hp : p < 4) (hb : b ≤ 100) : ∀ k e v m I, (∀ t, t < n → I 75 (f + t) = c t) → I 38 21 = nI e → I 55 p = nI v → e + k = b + 3 → k < m →
    ∃ J, fix1 (Rl_X11_readsNumber_13 fu S (nI p) (nI f) (nI n) (nI b)) m I = Rj_X11_readsNumber_99 fu S J (nI p) (nI b) ∧ J 38 21 = nI (sc c n k e v).1 ∧ J 55 p = nI (sc c n k e v).2 ∧ ∀ a j, ¬ (a = 38 ∧ j = 21) → ¬ (a = 55 ∧ j = p) → J a j = I a j
  | 0, e, v, m, I, hc, h1, h2, he, hm => by
    obtain ⟨m, rfl⟩ : ∃ j, m = j + 1 := ⟨m - 1, by omega⟩
    refine ⟨I, ?_, h1, h2, fun _ _ _ _ => rfl⟩
    show Rl_X11_readsNumber_13 fu S (nI p) (nI f) (nI n) (nI b) _ I = _
    have e3 : nI b + (3 : Int32) ≤ I 38 21 := by
      rw [h1, show nI b + (3 : Int32) = nI (b + 3) from nI_add _ _, nI_le_iff (by omega) (by omega)]
      omega
    unfold Rl_X11_readsNumber_13
    rw [if_pos e3]
    exact ite_self _
  | k + 1, e, v, m, I, hc, h1, h2, he, hm => by
    obtain ⟨m, rfl⟩ : ∃ j, m = j + 1 := ⟨m - 1, by omega⟩
    have e3 : ¬ nI b + (3 : Int32) ≤ nI e := by
      rw [show nI b + (3 : Int32) = nI (b + 3) from nI_add _ _, nI_le_iff (by omega) (by omega)]
      omega
    have kp := nx_nI (k := p) (by omega)
    have kf := nx_nI (k := f + e) (by omega)
    by_cases q : e < n
    · by_cases q1 : dg (c e) = true
      · have es : sc c n (k + 1) e v = sc c n k (e + 1) (10 * v + (nx (c e) - 48)) := if_pos ⟨q, q1⟩
        rw [es]
        obtain ⟨J, j1, j2, j3, j4⟩ := m_num fu (S := S) (c := c) hn hf hp hb k (e + 1) (10 * v + (nx (c e) - 48)) m (upI (upI I 55 p (nI (10 * v + (nx (c e) - 48)))) 38 21 (nI (e + 1))) (fun t ht => by rw [upI_row (by decide), upI_row (by decide)]; exact hc t ht) upI_at (by rw [upI_row (by decide), upI_at]) (by omega) (by omega)
        refine ⟨J, ?_, j2, j3, fun a j z1 z2 => ?_⟩
        · rw [← j1]
          show Rl_X11_readsNumber_13 fu S (nI p) (nI f) (nI n) (nI b) (fix1 (Rl_X11_readsNumber_13 fu S (nI p) (nI f) (nI n) (nI b)) m) I = _
          generalize fix1 (Rl_X11_readsNumber_13 fu S (nI p) (nI f) (nI n) (nI b)) m = self
          unfold Rl_X11_readsNumber_13
          rw [h1, if_neg (by rw [nI_le_iff (by omega) (by omega)]; omega), if_neg e3, nI_add, gd_pos ⟨by decide, nI_nn (by omega), by rw [kf]; omega⟩, gd_pos ⟨by decide, nI_nn (by omega), by rw [kp]; omega⟩]
          simp only [lt, rdN, wrN, kp, kf, hc e q, h2, t_dg, q1, dg_val q1]
          rw [if_pos trivial, if_neg i1ne, upI_row (by decide), h1, nI_p1]
        · rw [j4 a j z1 z2]
          unfold upI
          rw [if_neg z1, if_neg z2]
      · have es : sc c n (k + 1) e v = (e, v) := if_neg (fun z => q1 z.2)
        rw [es]
        refine ⟨I, ?_, h1, h2, fun _ _ _ _ => rfl⟩
        show Rl_X11_readsNumber_13 fu S (nI p) (nI f) (nI n) (nI b) _ I = _
        unfold Rl_X11_readsNumber_13
        rw [h1, if_neg (by rw [nI_le_iff (by omega) (by omega)]; omega), if_neg e3, nI_add, gd_pos ⟨by decide, nI_nn (by omega), by rw [kf]; omega⟩]
        unfold rdN
        rw [kf, hc e q, t_dg, if_neg q1, if_pos rfl]
    · have es : sc c n (k + 1) e v = (e, v) := if_neg (fun z => q z.1)
      rw [es]
      refine ⟨I, ?_, h1, h2, fun _ _ _ _ => rfl⟩
      show Rl_X11_readsNumber_13 fu S (nI p) (nI f) (nI n) (nI b) _ I = _
      unfold Rl_X11_readsNumber_13
      rw [h1, if_pos (by rw [nI_le_iff (by omega) (by omega)]; omega)]
def upw (w : Nat → Nat) (p v : Nat) : Nat → Nat := fun j => if j = p then v else w j
def gB (ns p : Nat) (w : Nat → Nat) : Bool := if p = 0 then decide (w 0 < ns) else if p = 2 then decide (w 2 ≤ 59) else if p = 3 then decide (w 2 ≤ w 3 ∧ w 3 ≤ 59) else true
def ps (c : Nat → Int32) (n ns : Nat) : Nat → Nat → Nat → (Nat → Nat) → Int32 × (Nat → Nat)
  | 0, _, e, w => (if e = n then -1 else nI e, w)
  | k + 1, p, e, w => if e < n ∧ c e = sgF p then (if (sc c n 3 (e + 1) 0).1 = e + 1 then (nI (e + 1), w) else if gB ns p (upw w p (sc c n 3 (e + 1) 0).2) = true then ps c n ns k (p + 1) (sc c n 3 (e + 1) 0).1 (upw w p (sc c n 3 (e + 1) 0).2) else (nI (e + 1), upw w p (sc c n 3 (e + 1) 0).2)) else (nI e, w)
theorem ps_out (c : Nat → Int32) (n ns : Nat) (hn : n ≤ 60) : ∀ k p e w, e ≤ n → ((ps c n ns k p e w).1 = -1 ∨ ∃ i, i ≤ 61 ∧ (ps c n ns k p e w).1 = nI i)
  | 0, p, e, w, he => by
    unfold ps
    by_cases q : e = n
    · exact Or.inl (if_pos q)
    · exact Or.inr ⟨e, by omega, if_neg q⟩
  | k + 1, p, e, w, he => by
    unfold ps
    by_cases q : e < n ∧ c e = sgF p
    · rw [if_pos q]
      by_cases q1 : (sc c n 3 (e + 1) 0).1 = e + 1
      · rw [if_pos q1]; exact Or.inr ⟨e + 1, by omega, rfl⟩
      · rw [if_neg q1]
        by_cases q2 : gB ns p (upw w p (sc c n 3 (e + 1) 0).2) = true
        · rw [if_pos q2]
          exact ps_out c n ns hn k (p + 1) _ _ ((sc_ge c n 3 (e + 1) 0).2.2.1 q.1)
        · rw [if_neg q2]; exact Or.inr ⟨e + 1, by omega, rfl⟩
    · rw [if_neg q]; exact Or.inr ⟨e, by omega, rfl⟩
def wOK (p : Nat) (w : Nat → Nat) : Prop := ∀ j, j < p → w j ≤ 999 ∧ (2 ≤ j → w j ≤ 59)
theorem ps_ok (c : Nat → Int32) (n ns : Nat) (hn : n ≤ 60) : ∀ k p e w, p + k = 4 → e ≤ n → wOK p w → (ps c n ns k p e w).1 = -1 → wOK 4 (ps c n ns k p e w).2
  | 0, p, e, w, hp, he, hw, h => by
    have : p = 4 := by omega
    subst this
    exact hw
  | k + 1, p, e, w, hp, he, hw, h => by
    have no : ∀ i, i ≤ 61 → ¬ nI i = (-1 : Int32) := fun i hi z => nI_nn (k := i) (by omega) (by rw [z]; decide)
    unfold ps at h ⊢
    by_cases q : e < n ∧ c e = sgF p
    · rw [if_pos q] at h ⊢
      by_cases q1 : (sc c n 3 (e + 1) 0).1 = e + 1
      · rw [if_pos q1] at h; exact absurd h (no _ (by omega))
      · rw [if_neg q1] at h ⊢
        by_cases q2 : gB ns p (upw w p (sc c n 3 (e + 1) 0).2) = true
        · rw [if_pos q2] at h ⊢
          refine ps_ok c n ns hn k (p + 1) _ _ (by omega) ((sc_ge c n 3 (e + 1) 0).2.2.1 q.1) (fun j hj => ?_) h
          have hv := (sc_ge c n 3 (e + 1) 0).2.2.2
          by_cases z : j = p
          · subst z
            have e1 : upw w j (sc c n 3 (e + 1) 0).2 j = (sc c n 3 (e + 1) 0).2 := if_pos rfl
            refine ⟨by rw [e1]; omega, fun z2 => ?_⟩
            rcases (by omega : j = 2 ∨ j = 3) with rfl | rfl
            · exact of_decide_eq_true q2
            · exact (of_decide_eq_true q2).2
          · have e1 : upw w p (sc c n 3 (e + 1) 0).2 j = w j := if_neg z
            rw [e1]
            exact hw j (by omega)
        · rw [if_neg q2] at h; exact absurd h (no _ (by omega))
    · rw [if_neg q] at h; exact absurd h (no _ (by omega))
