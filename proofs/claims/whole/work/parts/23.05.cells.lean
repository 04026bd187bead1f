/-! cellsFrom: a copy of so many cells of a sheet -/
theorem x_cells (fu : Nat) {S : Sk} {I : II} {a0 r i n : Nat} (h3 : S.1 a0 3 = r + 1) (hl : S.2.2.1 r = 60) (hr : r < S.2.2.2) (hin : i + n ≤ 60) : ∃ I', f_X5_cellsFrom fu S I a0 (nI i) (nI n) = some (S.2.2.2 + 1, nwS S 100 n, I') ∧ (∀ a c, a ≠ S.2.2.2 → I' a c = I a c) ∧ ∀ c, c < n → I' S.2.2.2 c = I r (i + c) := by
  have ki := nx_nI (k := i) (by omega)
  have kn := nx_nI (k := n) (by omega)
  have hmain : ∃ I', jn_J7_copyOfRange_feecc_10 fu S I (r + 1) (nI i) (nI (i + n)) = some (S.2.2.2 + 1, nwS S 100 n, I') ∧ (∀ a c, a ≠ S.2.2.2 → I' a c = I a c) ∧ ∀ c, c < n → I' S.2.2.2 c = I r (i + c) := by
    unfold jn_J7_copyOfRange_feecc_10 f_J7_copyOfRangeInt_feecc f_J7_checkLength_df160
    have e1 : nI (i + n) - nI i = nI n := by rw [nI_sub (by omega), Nat.add_sub_cancel_left]
    have hle : nI i ≤ nI (i + n) := by rw [nI_le_iff (by omega) (by omega)]; omega
    have hl6 : (nwS S 100 n).2.2.1 r = 60 := by
      show (if r = S.2.2.2 then n else S.2.2.1 r) = 60
      rw [if_neg (by omega), hl]
    have hl7 : (nwS S 100 n).2.2.1 S.2.2.2 = n := if_pos rfl
    have hmin : jmin ((60 : Nat).toInt32 - nI i) (nI n) = nI n := by
      rw [show (60 : Nat).toInt32 = nI 60 from rfl, nI_sub (by omega), jmin_nI (by omega) (by omega)]
      congr 1
      omega
    simp only [lt, e1, if_pos hle, Option.bind_some, kn]
    rw [gd_pos ⟨nI_nn (by omega), by omega⟩, gd_pos (Nat.succ_ne_zero r)]
    simp only [Nat.add_sub_cancel, hl6, hmin]
    rw [gd_pos ⟨Nat.succ_ne_zero r, Nat.succ_ne_zero _, nI_nn (by omega), by decide, nI_nn (by omega), by rw [ki, kn, Nat.add_sub_cancel, hl6]; exact hin, by rw [kn, Nat.add_sub_cancel, hl7]; show 0 + n ≤ n; omega⟩]
    refine ⟨_, rfl, fun a c ha => ?_, fun c hc => ?_⟩
    · unfold cpI
      exact (if_neg (fun z => ha z.1)).trans (if_neg ha)
    · unfold cpI
      refine (if_pos ⟨rfl, Nat.zero_le _, by show c < 0 + nx (nI n); rw [kn]; omega⟩).trans ?_
      show (if r = S.2.2.2 then 0 else I r (nx (nI i) + (c - 0))) = _
      rw [if_neg (by omega), ki, Nat.sub_zero]
  unfold f_X5_cellsFrom f_J7_copyOfRange_feecc
  rw [h3, nI_add, Nat.add_sub_cancel, hl]
  by_cases q : nI i = 0
  · have qi : i = 0 := (nI_eq_iff (b := 0) (by omega) (by decide)).mp q
    subst qi
    rw [if_pos q, gd_pos (Nat.succ_ne_zero r)]
    by_cases q2 : nI (0 + n) = (60 : Nat).toInt32
    · have qn : 0 + n = 60 := (nI_eq_iff (b := 60) (by omega) (by decide)).mp q2
      have qn' : n = 60 := by omega
      subst qn'
      rw [if_pos q2, gd_pos (Nat.le_refl 60)]
      simp only [lt]
      refine ⟨_, rfl, fun a c ha => if_neg ha, fun c hc => ?_⟩
      show (if S.2.2.2 = S.2.2.2 then I (r + 1 - 1) c else _) = _
      rw [if_pos rfl, Nat.add_sub_cancel, Nat.zero_add]
    · rw [if_neg q2]
      obtain ⟨I', z1, z2⟩ := hmain
      exact ⟨I', by rw [z1]; rfl, z2⟩
  · rw [if_neg q]
    obtain ⟨I', z1, z2⟩ := hmain
    exact ⟨I', by rw [z1]; rfl, z2⟩
