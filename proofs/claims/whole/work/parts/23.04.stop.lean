/-! stop -/
theorem wf_at (fu : Nat) {S : Sk} {J : II} {t a b p q : Nat} (ht : t < 16) (ha : a ≤ 40) (hb : b ≤ 40) (hp : p ≤ 40) (hq : q ≤ 40) (e1 : J 2 t = nI p) (e2 : J 3 t = nI q) : Rf_X2_walkFrom fu S J (nI t) (nI a) (nI b) = some (nI (adf p a + adf q b)) := by
  have e := nx_nI (k := t) (by omega)
  unfold Rf_X2_walkFrom rdN
  rw [gd_pos ⟨by decide, nI_nn (by omega), by rw [e]; omega⟩, gd_pos ⟨by decide, nI_nn (by omega), by rw [e]; omega⟩, e, e1, e2, jabs_adf (by omega) (by omega), jabs_adf (by omega) (by omega), nI_add]
def ww (w : Nat → Nat) (n : Nat) (J : II) (t : Nat) : II := fun r c => if r = 4 ∧ c % 16 = n ∧ c / 16 < t then nI (w (c / 16)) else if r = 4 ∧ c / 16 = n ∧ c % 16 < t then nI (w (c % 16)) else J r c
theorem ww_row {w : Nat → Nat} {n : Nat} {J : II} {t r : Nat} (h : r ≠ 4) : ww w n J t r = J r := by
  funext c
  unfold ww
  rw [if_neg (fun z => h z.1), if_neg (fun z => h z.1)]
theorem ww_step {w : Nat → Nat} {n : Nat} {J : II} {t : Nat} (hn : n < 16) (ht : t ≤ n) : upI (upI (ww w n J t) 4 (16 * t + n) (nI (w t))) 4 (16 * n + t) (nI (w t)) = ww w n J (t + 1) := by
  funext r c
  simp only [upI, ww]
  by_cases h : r = 4
  · subst h
    by_cases h1 : c = 16 * n + t
    · rw [if_pos ⟨rfl, h1⟩]
      have d1 : c / 16 = n := by omega
      have d2 : c % 16 = t := by omega
      by_cases q : t = n
      · rw [if_pos (by omega), d1, q]
      · rw [if_neg (by omega), if_pos (by omega), d2]
    · rw [if_neg (by omega)]
      by_cases h2 : c = 16 * t + n
      · have d1 : c / 16 = t := by omega
        rw [if_pos ⟨rfl, h2⟩, if_pos (by omega), d1]
      · rw [if_neg (by omega)]
        by_cases h3 : c % 16 = n ∧ c / 16 < t
        · rw [if_pos ⟨rfl, h3⟩, if_pos (by omega)]
        · by_cases h4 : c / 16 = n ∧ c % 16 < t
          · rw [if_neg (by omega), if_pos ⟨rfl, h4⟩, if_neg (by omega), if_pos (by omega)]
          · rw [if_neg (by omega), if_neg (by omega), if_neg (by omega), if_neg (by omega)]
  · rw [if_neg (by omega), if_neg (by omega), if_neg (by omega), if_neg (by omega), if_neg (by omega), if_neg (by omega)]
theorem adf_comm (a b : Nat) : adf a b = adf b a := by unfold adf; omega
