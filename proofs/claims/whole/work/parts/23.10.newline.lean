/-! line: the new line's cells -/
def lgn (kd m : Nat) : Nat := if kd = 2 then max 1 (m - 1) else m
def ol (c : Nat → Int32) (kd : Nat) : Nat → Nat
  | 0 => 0
  | x + 1 => ol c kd x + lgn kd (nx (c (2 * x + 1)))
theorem mok_at {c : Nat → Int32} {x : Nat} (h : mok c x) : c (2 * x + 1) = nI (nx (c (2 * x + 1))) ∧ 1 ≤ nx (c (2 * x + 1)) ∧ nx (c (2 * x + 1)) ≤ 30 := by
  obtain ⟨h1, h2⟩ := h
  have h0 : ¬ c (2 * x + 1) < 0 := by
    intro z
    exact absurd (Int32.lt_of_le_of_lt h1 z) (by decide)
  have e := nI_nx h0
  refine ⟨e, ?_, nx_le h0 (n := 30) (by decide) h2⟩
  rw [e] at h1
  exact (nI_le_iff (a := 1) (by decide) (nx_bd _)).mp h1
theorem lgn_at {kd m : Nat} (h1 : 1 ≤ m) (h2 : m ≤ 30) : 1 ≤ lgn kd m ∧ lgn kd m ≤ 30 := by
  unfold lgn
  split <;> omega
theorem ol_le {c : Nat → Int32} {kd n : Nat} (h : ∀ x, x < n - 1 → mok c x) : ∀ k, k ≤ n - 1 → ol c kd k ≤ 30 * k
  | 0, _ => Nat.le_refl _
  | k + 1, hk => by
    obtain ⟨-, h1, h2⟩ := mok_at (h k (by omega))
    have := ol_le h (kd := kd) k (by omega)
    have := (lgn_at (kd := kd) h1 h2).2
    show ol c kd k + lgn kd (nx (c (2 * k + 1))) ≤ _
    omega
theorem ol_lt {c : Nat → Int32} {kd n : Nat} (h : ∀ x, x < n - 1 → mok c x) : ∀ j k, j < k → k ≤ n - 1 → ol c kd j < ol c kd k
  | j, 0, hj, _ => absurd hj (Nat.not_lt_zero j)
  | j, k + 1, hj, hk => by
    obtain ⟨-, h1, h2⟩ := mok_at (h k (by omega))
    have := (lgn_at (kd := kd) h1 h2).1
    show _ < ol c kd k + lgn kd (nx (c (2 * k + 1)))
    by_cases e : j = k
    · subst e; omega
    · have := ol_lt h (kd := kd) j k (by omega) (by omega)
      omega
theorem x_leg {kd m : Nat} (h1 : 1 ≤ m) (h2 : m ≤ 30) (hk : kd ≤ 2) : t_X1_legOf (nI kd) (nI m) = nI (lgn kd m) := by
  unfold t_X1_legOf lgn
  by_cases q : kd = 2
  · rw [if_pos (show nI kd = 2 by rw [q]; rfl), if_pos q, show nI m - 1 = nI (m - 1) from nI_sub (b := 1) h1]
    exact jmax_nI (a := 1) (by decide) (by omega)
  · rw [if_neg (show ¬ nI kd = 2 from fun z => q ((nI_eq_iff (b := 2) (by omega) (by decide)).mp z)), if_neg q]
def xW (c : Nat → Int32) (kd A : Nat) (J : II) (x : Nat) : II := fun a j => if a = A + 1 ∧ j < x then c (2 * j) else if a = A + 2 ∧ j < x then nI (ol c kd j) else J a j
theorem x_lineInit (fu : Nat) (hfu : 100 < fu) {S : Sk} {I : II} {A R n l kd : Nat} {x3 x4 x5 : Int32} {c : Nat → Int32} (hA : S.2.2.2 = A + 1) (hR : R < A) (hl : S.2.2.1 R = 2 * n) (hn : 2 ≤ n) (hn8 : n ≤ 8) (hkd : kd ≤ 2) (hc : ∀ t, t < 2 * n → I R t = c t) (hm : ∀ x, x < n - 1 → mok c x) :
    ∃ J, f_X1_init fu S I A (nI l) (nI kd) x3 x4 x5 (R + 1) = some (upP (nwS (upP (nwS (upP (nwS S 100 8) A 6 (A + 2)) 100 8) A 7 (A + 3)) 100 8) A 8 (A + 4), J) ∧ (∀ a j, a < A → J a j = I a j) ∧ (J A 0 = nI l ∧ J A 1 = nI kd ∧ J A 2 = x3 ∧ J A 3 = jmax 1 x4 ∧ J A 4 = x5 ∧ J A 5 = nI n ∧ J A 9 = 0 ∧ J A 10 = 59) ∧ (∀ k, k < n → J (A + 1) k = c (2 * k) ∧ J (A + 2) k = nI (ol c kd k) ∧ J (A + 3) k = 0) := by
  obtain ⟨T, eT⟩ : ∃ T : Sk, upP (nwS (upP (nwS (upP (nwS S 100 8) A 6 (A + 2)) 100 8) A 7 (A + 3)) 100 8) A 8 (A + 4) = T := ⟨_, rfl⟩
  have t1 : T.1 A 6 = A + 2 := by
    rw [← eT]
    show (if A = A ∧ 6 = 8 then _ else if A = S.2.2.2 + 1 + 1 then 0 else if A = A ∧ 6 = 7 then _ else if A = S.2.2.2 + 1 then 0 else if A = A ∧ 6 = 6 then A + 2 else _) = _
    rw [if_neg (by omega), if_neg (by omega), if_neg (by omega), if_neg (by omega), if_pos ⟨rfl, rfl⟩]
  have t2 : T.1 A 7 = A + 3 := by
    rw [← eT]
    show (if A = A ∧ 7 = 8 then _ else if A = S.2.2.2 + 1 + 1 then 0 else if A = A ∧ 7 = 7 then A + 3 else _) = _
    rw [if_neg (by omega), if_neg (by omega), if_pos ⟨rfl, rfl⟩]
  have t3 : ∀ a, T.2.2.1 a = if a = A + 3 then 8 else if a = A + 2 then 8 else if a = A + 1 then 8 else S.2.2.1 a := by
    intro a
    rw [← eT]
    show (if a = S.2.2.2 + 1 + 1 then 8 else if a = S.2.2.2 + 1 then 8 else if a = S.2.2.2 then 8 else S.2.2.1 a) = _
    rw [hA]
  obtain ⟨K, eK⟩ : ∃ K : II, upI (upI (upI (upI (upI (upI (upI (upI (nwI (upP (nwS (upP (nwS S 100 8) A 6 (A + 2)) 100 8) A 7 (A + 3)) (nwI (upP (nwS S 100 8) A 6 (A + 2)) (nwI S I))) A 9 0) A 10 59) A 0 (nI l)) A 1 (nI kd)) A 2 x3) A 3 (jmax 1 x4)) A 4 x5) A 5 (nI n) = K := ⟨_, rfl⟩
  have k1 : ∀ a j, a < A → K a j = I a j := by
    intro a j ha
    rw [← eK, upI_row (by omega), upI_row (by omega), upI_row (by omega), upI_row (by omega), upI_row (by omega), upI_row (by omega), upI_row (by omega), upI_row (by omega)]
    show (if a = S.2.2.2 + 1 + 1 then 0 else if a = S.2.2.2 + 1 then 0 else if a = S.2.2.2 then 0 else I a j) = _
    rw [if_neg (by omega), if_neg (by omega), if_neg (by omega)]
  have k2 : ∀ b j, b = A + 1 ∨ b = A + 2 ∨ b = A + 3 → K b j = 0 := by
    intro b j hb
    rw [← eK, upI_row (by omega), upI_row (by omega), upI_row (by omega), upI_row (by omega), upI_row (by omega), upI_row (by omega), upI_row (by omega), upI_row (by omega)]
    show (if b = S.2.2.2 + 1 + 1 then 0 else if b = S.2.2.2 + 1 then 0 else if b = S.2.2.2 then 0 else I b j) = _
    rcases hb with rfl | rfl | rfl
    · rw [if_neg (by omega), if_neg (by omega), if_pos (by omega)]
    · rw [if_neg (by omega), if_pos (by omega)]
    · rw [if_pos (by omega)]
  have k3 : K A 0 = nI l ∧ K A 1 = nI kd ∧ K A 2 = x3 ∧ K A 3 = jmax 1 x4 ∧ K A 4 = x5 ∧ K A 5 = nI n ∧ K A 9 = 0 ∧ K A 10 = 59 := by
    rw [← eK]
    simp [upI]
  have hrow : ∀ x a, a ≠ A + 1 → a ≠ A + 2 → xW c kd A K x a = K a := by
    intro x a z1 z2
    funext j
    unfold xW
    rw [if_neg (fun z => z1 z.1), if_neg (fun z => z2 z.1)]
  have hloop : fix2 (lp_X1_init_87 fu T A (nI kd) (R + 1)) fu 0 K = some (T, xW c kd A K n) := by
    have := fix2_run (F := lp_X1_init_87 fu T A (nI kd) (R + 1)) (out := some (T, xW c kd A K n)) (fun x => nI x) (fun x => xW c kd A K x) n (fun x hx self => ?_) (fun self => ?_) fu (by omega)
    · have e0 : xW c kd A K 0 = K := by
        funext a j
        unfold xW
        rw [if_neg (by omega), if_neg (by omega)]
      rw [e0] at this
      exact this
    · have kx := nx_nI (k := x) (by omega)
      have k2x := nx_nI (k := 2 * x) (by omega)
      have e5 : xW c kd A K x A 5 = nI n := by rw [hrow x A (by omega) (by omega)]; exact k3.2.2.2.2.2.1
      have hR3 : T.2.2.1 R = 2 * n := by rw [t3, if_neg (by omega), if_neg (by omega), if_neg (by omega), hl]
      have hin : ∀ t, t < 2 * n → inb T (R + 1) (nI t) := fun t ht => ⟨Nat.succ_ne_zero R, nI_nn (by omega), by rw [nx_nI (by omega), Nat.add_sub_cancel, hR3]; exact ht⟩
      have hi6 : inb T (T.1 A 6) (nI x) := ⟨by rw [t1]; omega, nI_nn (by omega), by rw [kx, t1, show A + 2 - 1 = A + 1 from rfl, t3, if_neg (by omega), if_neg (by omega), if_pos rfl]; omega⟩
      have hi7 : ∀ t, t < 8 → inb T (T.1 A 7) (nI t) := fun t ht => ⟨by rw [t2]; omega, nI_nn (by omega), by rw [nx_nI (by omega), t2, show A + 3 - 1 = A + 2 from rfl, t3, if_neg (by omega), if_pos rfl]; exact ht⟩
      have er : rd (xW c kd A K x) (R + 1) (nI (2 * x)) = c (2 * x) := by
        unfold rd
        rw [k2x, Nat.add_sub_cancel, hrow x R (by omega) (by omega), k1 R _ hR, hc _ (by omega)]
      have ew : wr (xW c kd A K x) (T.1 A 6) (nI x) (c (2 * x)) = upI (xW c kd A K x) (A + 1) x (c (2 * x)) := by
        unfold wr
        rw [kx, t1]
        rfl
      unfold lp_X1_init_87 jn_X1_init_145
      rw [e5, if_neg (by rw [nI_le_iff (by omega) (by omega)]; omega), nI_m2, gd_pos (hin _ (by omega)), gd_pos hi6, er, ew]
      simp only [lt]
      by_cases q : x = 0
      · subst q
        rw [if_pos (show nI 0 ≤ 0 by decide), nI_p1]
        congr 1
        funext a j
        simp only [xW, upI]
        by_cases z1 : a = A + 1 ∧ j = 0
        · rw [if_pos z1, if_pos ⟨z1.1, by omega⟩, z1.2]
        · rw [if_neg z1, if_neg (by omega), if_neg (by omega), if_neg (by omega)]
          by_cases z2 : a = A + 2 ∧ j < 0 + 1
          · rw [if_pos z2]
            have : j = 0 := by omega
            subst this
            rw [z2.1, k2 _ _ (by omega)]
            rfl
          · rw [if_neg z2]
      · have kx1 := nx_nI (k := x - 1) (by omega)
        obtain ⟨m1, m2, m3⟩ := mok_at (hm (x - 1) (by omega))
        have e21 : 2 * (x - 1) + 1 = 2 * x - 1 := by omega
        rw [e21] at m1 m2 m3
        have e7 : nI x - 1 = nI (x - 1) := nI_sub (b := 1) (by omega)
        have e8 : nI (2 * x) - 1 = nI (2 * x - 1) := nI_sub (b := 1) (by omega)
        have er1 : rd (upI (xW c kd A K x) (A + 1) x (c (2 * x))) (T.1 A 7) (nI (x - 1)) = nI (ol c kd (x - 1)) := by
          unfold rd
          rw [kx1, t2, show A + 3 - 1 = A + 2 from rfl, upI_row (by omega)]
          unfold xW
          rw [if_neg (by omega), if_pos ⟨rfl, by omega⟩]
        have er2 : rd (upI (xW c kd A K x) (A + 1) x (c (2 * x))) (R + 1) (nI (2 * x - 1)) = nI (nx (c (2 * x - 1))) := by
          unfold rd
          rw [nx_nI (by omega), Nat.add_sub_cancel, upI_row (by omega), hrow x R (by omega) (by omega), k1 R _ hR, hc _ (by omega)]
          exact m1
        rw [if_neg (show ¬ nI x ≤ 0 by rw [show (0 : Int32) = nI 0 from rfl, nI_le_iff (by omega) (by decide)]; omega), e7, e8, gd_pos (hi7 _ (by omega)), gd_pos (hin _ (by omega)), gd_pos (hi7 _ (by omega)), er1, er2, x_leg m2 m3 hkd, nI_add, nI_p1]
        congr 1
        unfold wr
        rw [kx, t2, show A + 3 - 1 = A + 2 from rfl]
        have eo : ol c kd x = ol c kd (x - 1) + lgn kd (nx (c (2 * x - 1))) := by
          obtain ⟨y, rfl⟩ : ∃ y, x = y + 1 := ⟨x - 1, by omega⟩
          show ol c kd y + lgn kd (nx (c (2 * y + 1))) = ol c kd y + lgn kd (nx (c (2 * (y + 1) - 1)))
          rw [show 2 * (y + 1) - 1 = 2 * y + 1 by omega]
        rw [← eo]
        funext a j
        simp only [xW, upI]
        by_cases z1 : a = A + 2 ∧ j = x
        · rw [if_pos z1, if_neg (by omega), if_pos ⟨z1.1, by omega⟩, z1.2]
        · rw [if_neg z1]
          by_cases z2 : a = A + 1 ∧ j = x
          · rw [if_pos z2, if_pos ⟨z2.1, by omega⟩, z2.2]
          · rw [if_neg z2]
            by_cases z3 : a = A + 1 ∧ j < x
            · rw [if_pos z3, if_pos ⟨z3.1, by omega⟩]
            · rw [if_neg z3]
              by_cases z4 : a = A + 2 ∧ j < x
              · rw [if_pos z4, if_neg (by omega), if_pos ⟨z4.1, by omega⟩]
              · rw [if_neg z4, if_neg (by omega), if_neg (by omega)]
    · unfold lp_X1_init_87
      rw [hrow n A (by omega) (by omega), k3.2.2.2.2.2.1, if_pos (Int32.le_refl _)]
  refine ⟨xW c kd A K n, ?_, fun a j ha => by rw [hrow n a (by omega) (by omega)]; exact k1 a j ha, by rw [hrow n A (by omega) (by omega)]; exact k3, fun k hk => ⟨?_, ?_, ?_⟩⟩
  · have hlen : jmin (8 : Int32) ((T.2.2.1 (R + 1 - 1)).toInt32 / 2) = nI n := by
      rw [Nat.add_sub_cancel, t3, if_neg (by omega), if_neg (by omega), if_neg (by omega), hl, show (2 * n).toInt32 = nI (2 * n) from rfl, show (2 : Int32) = nI 2 from rfl, nI_div (by omega) (by decide), show (8 : Int32) = nI 8 from rfl, jmin_nI (by decide) (by omega)]
      congr 1
      omega
    unfold f_X1_init
    simp only [lt]
    rw [gd_pos (Nat.succ_ne_zero R)]
    have eS1 : S.2.2.2 + 1 = A + 2 := by omega
    have eS2 : (upP (nwS S 100 (nx (8 : Int32))) A 6 (A + 2)).2.2.2 + 1 = A + 3 := by show S.2.2.2 + 1 + 1 = _; omega
    have eS3 : (upP (nwS (upP (nwS S 100 (nx (8 : Int32))) A 6 (A + 2)) 100 (nx (8 : Int32))) A 7 (A + 3)).2.2.2 + 1 = A + 4 := by show S.2.2.2 + 1 + 1 + 1 = _; omega
    rw [eS1, eS2, eS3, show nx (8 : Int32) = 8 from rfl, eT, hlen, eK]
    exact hloop
  · show (if A + 1 = A + 1 ∧ k < n then c (2 * k) else _) = _
    rw [if_pos ⟨rfl, hk⟩]
  · show (if A + 2 = A + 1 ∧ k < n then _ else if A + 2 = A + 2 ∧ k < n then nI (ol c kd k) else _) = _
    rw [if_neg (by omega), if_pos ⟨rfl, hk⟩]
  · rw [hrow n (A + 3) (by omega) (by omega)]
    exact k2 _ _ (by omega)
theorem m_leg {kd m : Nat} (h1 : 1 ≤ m) (h2 : m ≤ 30) : t_X11_greater 1 (nI m - (if kd = 2 then 1 else 0)) = nI (lgn kd m) := by
  unfold lgn
  by_cases q : kd = 2
  · rw [if_pos q, if_pos q, show nI m - 1 = nI (m - 1) from nI_sub (b := 1) h1]
    exact gre_nI (a := 1) (by decide) (by omega)
  · rw [if_neg q, if_neg q, Int32.sub_zero]
    refine (gre_nI (a := 1) (by decide) (by omega)).trans ?_
    congr 1
    omega
def mV (c : Nat → Int32) (kd l : Nat) (J : II) (x : Nat) : II := fun a j => if a = 43 ∧ 8 * l ≤ j ∧ j < 8 * l + x then c (2 * (j - 8 * l)) else if a = 44 ∧ 8 * l ≤ j ∧ j < 8 * l + x then nI (ol c kd (j - 8 * l)) else J a j
theorem mV_row {c : Nat → Int32} {kd l : Nat} {J : II} {x a : Nat} (h : a ≠ 43) (h2 : a ≠ 44) : mV c kd l J x a = J a := by
  funext j
  unfold mV
  rw [if_neg (fun z => h z.1), if_neg (fun z => h2 z.1)]
theorem m_lineLoop (fu : Nat) (hfu : 100 < fu) {S : Sk} {J : II} {n l kd f : Nat} {c : Nat → Int32} (h44 : S.2.2.1 44 = 112) (hl : l < 14) (hn8 : n ≤ 8) (hkd : kd ≤ 2) (hf : f + 2 * n ≤ 240) (e4 : J 38 4 = nI l) (hc : ∀ t, t < 2 * n → J 75 (f + t) = c t) (hm : ∀ x, x < n - 1 → mok c x) :
    fix2 (Rl_X11_line_322 fu S (nI kd) (nI n) (nI f)) fu 0 J = some (nI l, upI (upI (mV c kd l J n) 38 4 (nI (l + 1))) 38 0 0) := by
  have := fix2_run (F := Rl_X11_line_322 fu S (nI kd) (nI n) (nI f)) (out := some (nI l, upI (upI (mV c kd l J n) 38 4 (nI (l + 1))) 38 0 0)) (fun x => nI x) (fun x => mV c kd l J x) n (fun x hx self => ?_) (fun self => ?_) fu (by omega)
  · have e0 : mV c kd l J 0 = J := by
      funext a j
      unfold mV
      rw [if_neg (by omega), if_neg (by omega)]
    rw [e0] at this
    exact this
  · have kx := nx_nI (k := 8 * l + x) (by omega)
    have kf := nx_nI (k := f + 2 * x) (by omega)
    have e4x : mV c kd l J x 38 4 = nI l := by rw [mV_row (by decide) (by decide)]; exact e4
    have er : rdN (mV c kd l J x) 75 (nI (f + 2 * x)) = c (2 * x) := by
      unfold rdN
      rw [kf, mV_row (by decide) (by decide), hc _ (by omega)]
    have ew : wrN (mV c kd l J x) 43 (nI (8 * l + x)) (c (2 * x)) = upI (mV c kd l J x) 43 (8 * l + x) (c (2 * x)) := by
      unfold wrN
      rw [kx]
    have hin : ∀ a t, a ≠ 0 → t < 112 → inbL a 112 (nI t) := fun a t ha ht => ⟨ha, nI_nn (by omega), by rw [nx_nI (by omega)]; exact ht⟩
    have hinS : inb S 45 (nI (8 * l + x)) := ⟨by decide, nI_nn (by omega), by rw [kx]; show _ < S.2.2.1 44; rw [h44]; omega⟩
    have hin2 : ∀ t, t < 240 → inbL 76 240 (nI t) := fun t ht => ⟨by decide, nI_nn (by omega), by rw [nx_nI (by omega)]; exact ht⟩
    have e4y : upI (mV c kd l J x) 43 (8 * l + x) (c (2 * x)) 38 4 = nI l := by rw [upI_row (by decide)]; exact e4x
    unfold Rl_X11_line_322 Rj_X11_line_421 Rj_X11_line_426
    rw [if_neg (by rw [nI_le_iff (by omega) (by omega)]; omega), nI_m2, nI_add, e4x, ix8, gd_pos (hin2 _ (by omega)), gd_pos (hin _ _ (by decide) (by omega)), er, ew]
    simp only [lt]
    rw [e4y, ix8, gd_pos hinS]
    have ewr : ∀ (I' : II) v, wr I' 45 (nI (8 * l + x)) v = upI I' 44 (8 * l + x) v := fun I' v => by unfold wr; rw [kx]
    by_cases q : x = 0
    · subst q
      rw [if_pos (show nI 0 = 0 from rfl), ewr, nI_p1]
      congr 1
      funext a j
      simp only [mV, upI]
      by_cases z1 : a = 44 ∧ j = 8 * l + 0
      · rw [if_pos z1, if_neg (by omega), if_pos (by omega), show j - 8 * l = 0 by omega]
        rfl
      · rw [if_neg z1]
        by_cases z2 : a = 43 ∧ j = 8 * l + 0
        · rw [if_pos z2, if_pos (by omega), show j - 8 * l = 0 by omega]
        · rw [if_neg z2, if_neg (by omega), if_neg (by omega), if_neg (by omega), if_neg (by omega)]
    · obtain ⟨m1, m2, m3⟩ := mok_at (hm (x - 1) (by omega))
      have e21 : 2 * (x - 1) + 1 = 2 * x - 1 := by omega
      rw [e21] at m1 m2 m3
      have e7 : nI (8 * l + x) - 1 = nI (8 * l + x - 1) := nI_sub (b := 1) (by omega)
      have e8 : nI (f + 2 * x) - 1 = nI (f + 2 * x - 1) := nI_sub (b := 1) (by omega)
      have er1 : rdN (upI (mV c kd l J x) 43 (8 * l + x) (c (2 * x))) 44 (nI (8 * l + x - 1)) = nI (ol c kd (x - 1)) := by
        unfold rdN
        rw [nx_nI (by omega), upI_row (by decide)]
        unfold mV
        rw [if_neg (by omega), if_pos (by omega), show 8 * l + x - 1 - 8 * l = x - 1 by omega]
      have er2 : rdN (upI (mV c kd l J x) 43 (8 * l + x) (c (2 * x))) 75 (nI (f + 2 * x - 1)) = nI (nx (c (2 * x - 1))) := by
        unfold rdN
        rw [nx_nI (by omega), upI_row (by decide), mV_row (by decide) (by decide), show f + 2 * x - 1 = f + (2 * x - 1) by omega, hc _ (by omega)]
        exact m1
      have eo : ol c kd x = ol c kd (x - 1) + lgn kd (nx (c (2 * x - 1))) := by
        obtain ⟨y, rfl⟩ : ∃ y, x = y + 1 := ⟨x - 1, by omega⟩
        show ol c kd y + lgn kd (nx (c (2 * y + 1))) = ol c kd y + lgn kd (nx (c (2 * (y + 1) - 1)))
        rw [show 2 * (y + 1) - 1 = 2 * y + 1 by omega]
      have hg : ∀ v : Int32, t_X11_greater 1 (nI (nx (c (2 * x - 1))) - v) = nI (lgn kd (nx (c (2 * x - 1)))) → self (nI x + 1) (wr (upI (mV c kd l J x) 43 (8 * l + x) (c (2 * x))) 45 (nI (8 * l + x)) (nI (ol c kd (x - 1)) + t_X11_greater 1 (nI (nx (c (2 * x - 1))) - v))) = self (nI (x + 1)) (mV c kd l J (x + 1)) := by
        intro v hv
        rw [hv, nI_add, ← eo, ewr, nI_p1]
        congr 1
        funext a j
        simp only [mV, upI]
        by_cases z1 : a = 44 ∧ j = 8 * l + x
        · rw [if_pos z1, if_neg (by omega), if_pos (by omega), show j - 8 * l = x by omega]
        · rw [if_neg z1]
          by_cases z2 : a = 43 ∧ j = 8 * l + x
          · rw [if_pos z2, if_pos (by omega), show j - 8 * l = x by omega]
          · rw [if_neg z2]
            by_cases z3 : a = 43 ∧ 8 * l ≤ j ∧ j < 8 * l + x
            · rw [if_pos z3, if_pos (by omega)]
            · rw [if_neg z3]
              by_cases z4 : a = 44 ∧ 8 * l ≤ j ∧ j < 8 * l + x
              · rw [if_pos z4, if_neg (by omega), if_pos (by omega)]
              · rw [if_neg z4, if_neg (by omega), if_neg (by omega)]
      rw [if_neg (show ¬ nI x = 0 by rw [show (0 : Int32) = nI 0 from rfl, nI_eq_iff (by omega) (by decide)]; exact q), e7, e8, gd_pos (hin _ _ (by decide) (by omega)), gd_pos (hin2 _ (by omega)), er1, er2]
      have hml := m_leg (kd := kd) m2 m3
      by_cases qk : kd = 2
      · rw [if_pos qk] at hml
        rw [if_pos (show nI kd = 2 by rw [qk]; rfl), gd_pos hinS]
        exact hg 1 hml
      · rw [if_neg qk] at hml
        rw [if_neg (show ¬ nI kd = 2 from fun z => qk ((nI_eq_iff (b := 2) (by omega) (by decide)).mp z)), gd_pos hinS]
        exact hg 0 hml
  · unfold Rl_X11_line_322
    simp only [lt]
    rw [if_pos (Int32.le_refl _), mV_row (by decide) (by decide), e4, nI_p1, upI_at, m_refused, ← nI_1, Int32.add_sub_cancel]
    rfl
