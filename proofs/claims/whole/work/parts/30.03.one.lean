/-! the law answers 1 -/
theorem map_some {α β : Type} {o : Option α} {f : α → β} {v : β} (h : o.map f = some v) : ∃ q, o = some q ∧ f q = v := by
  cases o with
  | none => exact absurd h (by simp)
  | some q => exact ⟨q, rfl, Option.some.inj h⟩
theorem all_range {n : Nat} {f : Nat → Bool} (h : (List.range n).all f = true) : ∀ k, k < n → f k = true := fun k hk => (List.all_eq_true.mp h) k (List.mem_range.mpr hk)
theorem mk_self {S : Sk} (h1 : ∀ a k, (stT.getD a []).getD k 0 ≠ 0 → S.1 a k = (stT.getD a []).getD k 0) (h2 : ∀ a, stLn.getD a 0 ≠ 0 → S.2.2.1 a = stLn.getD a 0) : mkS S = S := by
  have e1 : (fun a k => stPf a k (S.1 a k)) = S.1 := by
    funext a k
    have := h1 a k
    unfold stPf
    generalize (stT.getD a []).getD k 0 = t at *
    cases t with
    | zero => rfl
    | succ t => exact (this (Nat.succ_ne_zero t)).symm
  have e2 : (fun a => stNf a (S.2.2.1 a)) = S.2.2.1 := by
    funext a
    have := h2 a
    unfold stNf
    generalize stLn.getD a 0 = t at *
    cases t with
    | zero => rfl
    | succ t => exact (this (Nat.succ_ne_zero t)).symm
  show (_, _, _, _) = S
  rw [show (fun a k => stPf a k (S.1 a k)) = S.1 from e1, show (fun a => stNf a (S.2.2.1 a)) = S.2.2.1 from e2]
theorem ini_inv : ∃ q, ini2 = some q ∧ mkS q.1 = q.1 ∧ Inv q.1 q.2 := by
  obtain ⟨q, hq, e1⟩ := map_some ini2_n
  have hS : ((List.range 77).all fun a => (List.range (stT.getD a []).length).all fun k => (stT.getD a []).getD k 0 == 0 || q.1.1 a k == (stT.getD a []).getD k 0) = true := by
    have := ini2_S
    rw [hq] at this
    exact Option.some.inj this
  have hN : ((List.range 77).all fun a => stLn.getD a 0 == 0 || q.1.2.2.1 a == stLn.getD a 0) = true := by
    have := ini2_N
    rw [hq] at this
    exact Option.some.inj this
  have hI := ini2_I
  rw [hq] at hI
  have hI := Option.some.inj hI
  refine ⟨q, hq, mk_self (fun a k h => ?_) (fun a h => ?_), ?_⟩
  · have ha : a < 77 := by
      by_cases z : a < 77
      · exact z
      · exact absurd (stT_big (by omega)) h
    have hk : k < (stT.getD a []).length := by
      by_cases z : k < (stT.getD a []).length
      · exact z
      · exfalso
        apply h
        rw [List.getD_eq_getElem?_getD, List.getElem?_eq_none (by omega)]
        rfl
    have := all_range (all_range hS a ha) k hk
    rw [Bool.or_eq_true, beq_iff_eq, beq_iff_eq] at this
    exact this.resolve_left h
  · have ha : a < 77 := by
      by_cases z : a < 77
      · exact z
      · exfalso
        apply h
        rw [List.getD_eq_getElem?_getD, List.getElem?_eq_none (by show stLn.length ≤ a; show 77 ≤ a; omega)]
        rfl
    have := all_range hN a ha
    rw [Bool.or_eq_true, beq_iff_eq, beq_iff_eq] at this
    exact this.resolve_left h
  · simp only [Bool.and_eq_true, beq_iff_eq] at hI
    obtain ⟨⟨⟨⟨⟨⟨⟨⟨⟨⟨⟨⟨⟨⟨⟨⟨⟨⟨a1, a2⟩, a3⟩, a4⟩, a5⟩, a6⟩, a7⟩, a8⟩, a9⟩, a10⟩, a11⟩, a12⟩, a13⟩, a14⟩, ⟨⟨⟨⟨⟨b1, b2⟩, b3⟩, b4⟩, b5⟩, b6⟩⟩, c1⟩, c2⟩, c3⟩, c4⟩ := hI
    have d1 := all_range c1
    have d2 := all_range c2
    have d3 := all_range c3
    have d4 := all_range c4
    have z0 : isN (0 : Int32) 16 ∧ isN (0 : Int32) 14 ∧ isN (0 : Int32) 12 ∧ isN (0 : Int32) 6 ∧ isN (0 : Int32) 4 ∧ isN (0 : Int32) 16383 ∧ isN (0 : Int32) 65535 := by
      refine ⟨?_, ?_, ?_, ?_, ?_, ?_, ?_⟩ <;> exact isN_nI (k := 0) (Nat.zero_le _) (by decide)
    have nz : ∀ v : Int32, v = 0 → nx v = 0 := fun v h => by rw [h]; rfl
    refine ⟨by omega, ⟨⟨by rw [a1]; exact z0.1, by rw [a1, a2]⟩, fun s hs => ?_, fun a b ha => ?_⟩, ⟨⟨by rw [a3]; exact z0.2.1, by rw [a3, a4]⟩, fun l hl => ?_, fun j l _ hl => ?_, fun l _ hl => ?_, fun j _ hj => ?_⟩, ⟨⟨by rw [a5]; exact z0.2.2.1, by rw [a5, a6]⟩, fun t ht => ?_⟩, ⟨⟨by rw [a7]; exact z0.2.2.2.1, by rw [a7, a8]⟩, fun t ht => ?_⟩, ⟨⟨by rw [a9]; exact z0.2.2.2.2.1, by rw [a9, a10]⟩, fun k hk => ?_, fun j k _ hk => ?_⟩, ⟨⟨by rw [a11]; exact z0.2.2.2.2.1, by rw [a11, a12]⟩, fun t ht => ?_⟩, ⟨⟨by rw [a13]; exact z0.2.2.2.1, by rw [a13, a14]⟩, fun d hd => ?_, ?_, ?_, b5, b6⟩, fun k hk => ?_⟩
    · exact absurd hs (by unfold nS; rw [nz _ a1]; exact Nat.not_lt_zero _)
    · exact absurd ha (by unfold nS; rw [nz _ a1]; exact Nat.not_lt_zero _)
    · exact absurd hl (by unfold nL; rw [nz _ a3]; exact Nat.not_lt_zero _)
    · exact absurd hl (by unfold nL; rw [nz _ a3]; exact Nat.not_lt_zero _)
    · exact beq_iff_eq.mp (d2 l hl)
    · exact beq_iff_eq.mp (d3 j hj)
    · exact absurd ht (by unfold nT; rw [nz _ a5]; exact Nat.not_lt_zero _)
    · exact absurd ht (by unfold nP; rw [nz _ a7]; exact Nat.not_lt_zero _)
    · exact absurd hk (by unfold nO; rw [nz _ a9]; exact Nat.not_lt_zero _)
    · exact absurd hk (by unfold nO; rw [nz _ a9]; exact Nat.not_lt_zero _)
    · exact absurd ht (by unfold nD; rw [nz _ a11]; exact Nat.not_lt_zero _)
    · have := d1 d hd
      rw [Bool.and_eq_true, beq_iff_eq, beq_iff_eq] at this
      rw [this.1, this.2]
      exact ⟨rfl, z0.2.2.2.2.2.1⟩
    · unfold nS
      rw [b1, b2, nz _ a1]
      exact ⟨rfl, z0.2.2.2.2.2.2, by decide, by decide⟩
    · rw [b3, b4]
      exact ⟨isN_nI (k := 40) (by decide) (by decide), by decide, rfl⟩
    · have := d4 k hk
      rw [Bool.and_eq_true, beq_iff_eq, beq_iff_eq] at this
      exact Or.inl this
theorem law_one {sL : Nat} {sx : Nat → Int32} (hL : sL ≤ 4608) : ∃ S' I', f_L_law FU s00 i00 sL sx = some (1, S', I') := by
  obtain ⟨q, hq, hm, g⟩ := ini_inv
  obtain ⟨q1, hq1, e1⟩ := map_some ini1_n
  have hq2 : f_X11_init FU (nwS q1.1 11 0) (nwI q1.1 q1.2) 38 = some q := by
    unfold ini2 at hq
    rw [hq1, Option.bind_some, e1] at hq
    exact hq
  obtain ⟨S', I', h⟩ := law_loop (fu := FU) (by show 70000 < 70001; omega) (sx := sx) hL 512 0 q.1 q.2 513 g (Nat.zero_le _) (by omega) (by omega)
  refine ⟨S', I', ?_⟩
  unfold f_L_law
  simp only [lt]
  rw [show f_X10_init FU (nwS s00 10 0) (nwI s00 i00) s00.2.2.2 = some q1 from hq1, Option.bind_some, e1, hq2, Option.bind_some]
  rw [hm] at h
  exact h
