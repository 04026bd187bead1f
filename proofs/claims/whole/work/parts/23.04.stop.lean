/-! stop -/
theorem wf_at (fu : Nat) {S : Sk} {J : II} {t a b p q : Nat} (ht : t < 16) (ha : a ≤ 40) (hb : b ≤ 40) (hp : p ≤ 40) (hq : q ≤ 40) (e1 : J 2 t = nI p) (e2 : J 3 t = nI q) : Rf_X2_walkFrom fu S J (nI t) (nI a) (nI b) = some (nI (adf p a + adf q b)) := by
  have e := nx_nI (k := t) (by omega)
  unfold Rf_X2_walkFrom rdN
  rw [gd_pos ⟨by decide, nI_nn (by omega), by rw [e]; omega⟩, gd_pos ⟨by decide, nI_nn (by omega), by rw [e]; omega⟩, e, e1, e2, jabs_adf (by omega) (by omega), jabs_adf (by omega) (by omega), nI_add]
def ww (w : Nat → Nat) (n : Nat) (J : II) (t : Nat) : II := fun r c => if r = 4 ∧ c % 16 = n ∧ c / 16 < t then nI (w (c / 16)) else if r = 4 ∧ c / 16 = n ∧ c % 16 < t then nI (w (c % 16)) else J r c
theorem ww_row {w : Nat → Nat} {n : Nat} {J : II} {t r : Nat} (h : r ≠ 4) : ww w n J t r = J r := by
  funext c
  unfold ww
  rw [if_neg (fun z => h z.1), if_neg (fun z => h z.1)]
theorem ww_step {w : Nat → Nat} {n : Nat} {J : II} {t : Nat} (hn : n < 16) (ht : t ≤ n) : upI (upI (ww w n J t) 4 (16 * t + n) (nI (w t))) 4 (16 * n + t) (nI (w t)) = ww w n J (t + 1) := by
  funext r c
  simp only [upI, ww]
  by_cases h : r = 4
  · subst h
    by_cases h1 : c = 16 * n + t
    · rw [if_pos ⟨rfl, h1⟩]
      have d1 : c / 16 = n := by omega
      have d2 : c % 16 = t := by omega
      by_cases q : t = n
      · rw [if_pos (by omega), d1, q]
      · rw [if_neg (by omega), if_pos (by omega), d2]
    · rw [if_neg (by omega)]
      by_cases h2 : c = 16 * t + n
      · have d1 : c / 16 = t := by omega
        rw [if_pos ⟨rfl, h2⟩, if_pos (by omega), d1]
      · rw [if_neg (by omega)]
        by_cases h3 : c % 16 = n ∧ c / 16 < t
        · rw [if_pos ⟨rfl, h3⟩, if_pos (by omega)]
        · by_cases h4 : c / 16 = n ∧ c % 16 < t
          · rw [if_neg (by omega), if_pos ⟨rfl, h4⟩, if_neg (by omega), if_pos (by omega)]
          · rw [if_neg (by omega), if_neg (by omega), if_neg (by omega), if_neg (by omega)]
  · rw [if_neg (by omega), if_neg (by omega), if_neg (by omega), if_neg (by omega), if_neg (by omega), if_neg (by omega)]
theorem adf_comm (a b : Nat) : adf a b = adf b a := by unfold adf; omega
/-- more stops: what speaks of stops goes on to hold -/
theorem GL.more {D : Dn} {I I' : II} (hS : nS I ≤ nS I') (h : ∀ a k, rdL a k → ¬ (a = 38 ∧ k = 1) → I' a k = I a k) (g : GL D I) : GL D I' := by
  have g' : GL D (upI I' 38 1 (I 38 1)) := g.co (fun a k q => by
    by_cases z : a = 38 ∧ k = 1
    · obtain ⟨rfl, rfl⟩ := z; rw [upI_at]
    · have : upI I' 38 1 (I 38 1) a k = I' a k := by simp only [upI]; rw [if_neg z]
      rw [this]; exact h a k q z)
  have r : ∀ a k, ¬ (a = 38 ∧ k = 1) → upI I' 38 1 (I 38 1) a k = I' a k := fun a k z => by simp only [upI]; rw [if_neg z]
  have hs : nS (upI I' 38 1 (I 38 1)) ≤ nS I' := by unfold nS at *; rw [upI_at]; exact hS
  obtain ⟨g1, g2, g3, g4, g5⟩ := g'
  have en : nL (upI I' 38 1 (I 38 1)) = nL I' := by unfold nL; rw [r 38 4 (by omega)]
  rw [en] at g2 g3 g4 g5
  refine ⟨by rw [r 38 4 (by omega), r 1 5 (by omega)] at g1; exact g1, fun l hl => ?_, g3, fun l z1 z2 => by have := g4 l z1 z2; rw [r 48 l (by omega)] at this; exact this, fun j z1 z2 => by have := g5 j z1 z2; rw [r 50 j (by omega)] at this; exact this⟩
  obtain ⟨⟨r1, r2, r3⟩, x⟩ := g2 l hl
  have rr : ∀ a, a ≠ 38 → upI I' 38 1 (I 38 1) a = I' a := fun a z => upI_row z
  have hA := x.at.2.2
  refine ⟨⟨?_, fun k hk => ?_, ?_⟩, ?_⟩
  · unfold lZ lE lF lL at *
    simp only [rr 41 (by decide), rr 42 (by decide), rr 45 (by decide), rr 46 (by decide), rr 47 (by decide), rr 48 (by decide), rr 49 (by decide)] at r1
    exact r1
  · have := r2 k (by unfold lZ at *; rw [rr 42 (by decide)]; exact hk)
    unfold lS at *
    rw [rr 43 (by decide), rr 44 (by decide), rr 50 (by decide)] at this
    exact ⟨this.1, Nat.lt_of_lt_of_le this.2.1 hs, this.2.2⟩
  · unfold lZ lS lO at *
    rw [rr 42 (by decide), rr 43 (by decide), rr 44 (by decide)] at r3
    exact r3
  · unfold XLn lZ at *
    simp only [rr 41 (by decide), rr 42 (by decide), rr 43 (by decide), rr 44 (by decide), rr 45 (by decide), rr 46 (by decide), rr 47 (by decide), rr 48 (by decide), rr 49 (by decide), rr 50 (by decide), rr (la D l) (by omega), rr (la D l + 1) (by omega), rr (la D l + 2) (by omega), rr (la D l + 3) (by omega)] at x
    exact x
theorem p_stop (fu : Nat) (hfu : 100 < fu) {D : Dn} {I : II} (g : Inv D I) (x y : Int32) : ∃ r I1 I2, Rf_X10_stop fu (mkS D) I x y = some (r, I1) ∧ Rf_X11_stop fu (mkS D) I1 x y = some (r, I2) ∧ Inv D I2 := by
  have gS := g.2.1
  have hnS : nS I ≤ 16 := gS.1.1.2
  have e : I 38 1 = nI (nS I) := gS.1.1.1
  have e' : I 1 3 = nI (nS I) := gS.1.2.trans e
  have c1 : nI (nS I) < (16 : Int32) ↔ nS I < 16 := nI_lt_iff (b := 16) (by omega) (by decide)
  have c2 : nI (nS I) = (16 : Int32) ↔ nS I = 16 := nI_eq_iff (b := 16) (by omega) (by decide)
  have ex : ∀ z : Int32, t_X11_in z.toInt64 0 40 = t_X10_isWithin z 0 40 := fun z => w_in32 (lo := 0) (hi := 40)
  unfold Rf_X10_stop
  rw [place_eq]
  rcases within_cases x 0 40 with h | ⟨h, hx1, hx2⟩
  · refine ⟨-2, I, I, by rw [h]; rfl, ?_, g⟩
    unfold Rf_X11_stop
    rw [ex, h, if_pos rfl]
  rcases within_cases y 0 40 with h3 | ⟨h3, hy1, hy2⟩
  · refine ⟨-2, I, I, by rw [h, h3]; rfl, ?_, g⟩
    unfold Rf_X11_stop
    rw [ex, ex, h, h3, if_neg i1ne, if_pos rfl]
  rw [h, h3, if_neg i1ne, if_neg i1ne, if_neg i1ne, e']
  by_cases q : nS I = 16
  · refine ⟨-4, I, I, by rw [if_neg (fun z => by have := c1.mp z; omega)], ?_, g⟩
    unfold Rf_X11_stop
    rw [ex, ex, h, h3, if_neg i1ne, if_neg i1ne, e, if_pos (c2.mpr q)]
  · rw [if_pos (c1.mpr (by omega))]
    obtain ⟨n, en⟩ : ∃ n, nS I = n := ⟨_, rfl⟩
    have kn := nx_nI (k := n) (by omega)
    have kn1 := nx_nI (k := n + 1) (by omega)
    obtain ⟨a, ea⟩ : ∃ a, nx x = a := ⟨_, rfl⟩
    obtain ⟨b, eb⟩ : ∃ b, nx y = b := ⟨_, rfl⟩
    have ha : a ≤ 40 := by rw [← ea]; exact nx_le (le0 hx1) (n := 40) (by decide) hx2
    have hb : b ≤ 40 := by rw [← eb]; exact nx_le (le0 hy1) (n := 40) (by decide) hy2
    have vx : x = nI a := by rw [← ea]; exact nI_nx (le0 hx1)
    have vy : y = nI b := by rw [← eb]; exact nI_nx (le0 hy1)
    -- what the walks to the new stop are
    obtain ⟨w, hw⟩ : ∃ w : Nat → Nat, ∀ t, w t = (if t = n then 0 else adf (nx (I 39 t)) a + adf (nx (I 40 t)) b) := ⟨_, fun t => rfl⟩
    obtain ⟨J, hJ⟩ : ∃ J, J = upI (upI (upI I 2 n (nI a)) 3 n (nI b)) 1 3 (nI (n + 1)) := ⟨_, rfl⟩
    have jr : ∀ r c, ¬ ((r = 2 ∧ c = n) ∨ (r = 3 ∧ c = n) ∨ (r = 1 ∧ c = 3)) → J r c = I r c := fun r c z => by
      rw [hJ]; simp only [upI]; rw [if_neg (by omega), if_neg (by omega), if_neg (by omega)]
    have j13 : J 1 3 = nI (n + 1) := by rw [hJ, upI_at]
    have j2n : J 2 n = nI a := by rw [hJ, upI_row (by decide), upI_row (by decide), upI_at]
    have j3n : J 3 n = nI b := by rw [hJ, upI_row (by decide), upI_at]
    have wf : ∀ (K : II) t, K 2 = J 2 → K 3 = J 3 → t ≤ n → Rf_X2_walkFrom fu (mkS D) K (nI t) (nI a) (nI b) = some (nI (w t)) := by
      intro K t z1 z2 z3
      by_cases qt : t = n
      · subst qt
        rw [wf_at fu (p := a) (q := b) (by omega) ha hb ha hb (by rw [z1, j2n]) (by rw [z2, j3n]), hw, if_pos rfl]
        congr 2
        unfold adf; omega
      · obtain ⟨⟨s1, s2⟩, s3, s4⟩ := gS.2.1 t (by omega)
        rw [wf_at fu (p := nx (I 39 t)) (q := nx (I 40 t)) (by omega) ha hb s1.2 s2.2 (by rw [z1, jr _ _ (by omega), s3]; exact s1.1) (by rw [z2, jr _ _ (by omega), s4]; exact s2.1), hw, if_neg qt]
    have hrun : Rf_X2_addStop fu (mkS D) I x y = some (nI n, ww w n J (n + 1)) := by
      unfold Rf_X2_addStop wrN
      simp only [lt]
      rw [e', en, gd_pos ⟨by decide, nI_nn (by omega), by rw [kn]; omega⟩, gd_pos ⟨by decide, nI_nn (by omega), by rw [kn]; omega⟩, kn, vx, vy, upI_row (by decide), upI_row (by decide), e', en, nI_1, ← hJ]
      have := fix2_run (F := Rl_X2_addStop_32 fu (mkS D) (nI a) (nI b) (nI n)) (out := some (nI n, ww w n J (n + 1))) (fun i => nI i) (fun i => ww w n J i) (n + 1) (fun t ht self => ?_) (fun self => ?_) fu (by omega)
      · have e0 : ww w n J 0 = J := by
          funext r c
          unfold ww
          rw [if_neg (by omega), if_neg (by omega)]
        rw [e0] at this
        exact this
      · have hc : ¬ nI (n + 1) ≤ nI t := by rw [nI_le_iff (by omega) (by omega)]; omega
        have k1 := nx_nI (k := 16 * t + n) (by omega)
        have k2 := nx_nI (k := 16 * n + t) (by omega)
        unfold Rl_X2_addStop_32 wrN
        simp only [lt]
        rw [ww_row (by decide), j13, if_neg hc, wf _ t (ww_row (by decide)) (ww_row (by decide)) (by omega), Option.bind_some, ix16, ix16, gd_pos ⟨by decide, nI_nn (by omega), by rw [k1]; omega⟩, k1, wf _ t (by rw [upI_row (by decide), ww_row (by decide)]) (by rw [upI_row (by decide), ww_row (by decide)]) (by omega), Option.bind_some, gd_pos ⟨by decide, nI_nn (by omega), by rw [k2]; omega⟩, k2, nI_1, ww_step (by omega) (by omega)]
      · unfold Rl_X2_addStop_32
        rw [ww_row (by decide), j13, if_pos (Int32.le_refl _)]
    rw [hrun, Option.bind_some]
    have k38 : ww w n J (n + 1) 38 1 = nI n := by rw [ww_row (by decide), jr _ _ (by omega), e, en]
    refine ⟨nI n, ww w n J (n + 1), upI (upI (upI (ww w n J (n + 1)) 39 n x) 40 n y) 38 1 (nI (n + 1)), rfl, ?_, ?_⟩
    · have r1 : upI (ww w n J (n + 1)) 39 n x 38 1 = nI n := by rw [upI_row (by decide), k38]
      have r2 : upI (upI (ww w n J (n + 1)) 39 n x) 40 n y 38 1 = nI n := by rw [upI_row (by decide), r1]
      unfold Rf_X11_stop wrN
      simp only [lt]
      rw [ex, ex, h, h3, if_neg i1ne, if_neg i1ne, k38, if_neg (fun z => q (c2.mp (by rw [en]; exact z))), gd_pos ⟨by decide, nI_nn (by omega), by rw [kn]; omega⟩, kn, r1, gd_pos ⟨by decide, nI_nn (by omega), by rw [kn]; omega⟩, kn, r2, upI_at, nI_1, ← nI_1, Int32.add_sub_cancel]
    · have hK : ∀ r c, ¬ ((r = 2 ∧ c = n) ∨ (r = 3 ∧ c = n) ∨ (r = 1 ∧ c = 3) ∨ r = 4 ∨ (r = 39 ∧ c = n) ∨ (r = 40 ∧ c = n) ∨ (r = 38 ∧ c = 1)) → upI (upI (upI (ww w n J (n + 1)) 39 n x) 40 n y) 38 1 (nI (n + 1)) r c = I r c := by
        intro r c z
        have : upI (upI (upI (ww w n J (n + 1)) 39 n x) 40 n y) 38 1 (nI (n + 1)) r c = ww w n J (n + 1) r c := by
          simp only [upI]
          rw [if_neg (by omega), if_neg (by omega), if_neg (by omega)]
        rw [this, ww_row (by omega), jr _ _ (by omega)]
      have v1 : upI (upI (upI (ww w n J (n + 1)) 39 n x) 40 n y) 38 1 (nI (n + 1)) 38 1 = nI (n + 1) := upI_at
      have v2 : upI (upI (upI (ww w n J (n + 1)) 39 n x) 40 n y) 38 1 (nI (n + 1)) 1 3 = nI (n + 1) := by
        rw [upI_row (by decide), upI_row (by decide), upI_row (by decide), ww_row (by decide), j13]
      have v39 : upI (upI (upI (ww w n J (n + 1)) 39 n x) 40 n y) 38 1 (nI (n + 1)) 39 n = nI a := by
        rw [upI_row (by decide), upI_row (by decide), upI_at, vx]
      have v40 : upI (upI (upI (ww w n J (n + 1)) 39 n x) 40 n y) 38 1 (nI (n + 1)) 40 n = nI b := by
        rw [upI_row (by decide), upI_at, vy]
      have u2 : upI (upI (upI (ww w n J (n + 1)) 39 n x) 40 n y) 38 1 (nI (n + 1)) 2 n = nI a := by
        rw [upI_row (by decide), upI_row (by decide), upI_row (by decide), ww_row (by decide), j2n]
      have u3 : upI (upI (upI (ww w n J (n + 1)) 39 n x) 40 n y) 38 1 (nI (n + 1)) 3 n = nI b := by
        rw [upI_row (by decide), upI_row (by decide), upI_row (by decide), ww_row (by decide), j3n]
      have v4 : ∀ c, upI (upI (upI (ww w n J (n + 1)) 39 n x) 40 n y) 38 1 (nI (n + 1)) 4 c = if c % 16 = n ∧ c / 16 < n + 1 then nI (w (c / 16)) else if c / 16 = n ∧ c % 16 < n + 1 then nI (w (c % 16)) else I 4 c := by
        intro c
        rw [upI_row (by decide), upI_row (by decide), upI_row (by decide)]
        unfold ww
        rw [jr 4 c (by omega)]
        simp only [true_and]
      generalize upI (upI (upI (ww w n J (n + 1)) 39 n x) 40 n y) 38 1 (nI (n + 1)) = K at hK v1 v2 v39 v40 u2 u3 v4
      have kS : nS K = n + 1 := by unfold nS; rw [v1, kn1]
      have na : nx (nI a) = a := nx_nI (by omega)
      have nb' : nx (nI b) = b := nx_nI (by omega)
      obtain ⟨g0, g1, g2, g3, g4, g5, g6, g7, g8⟩ := g
      refine ⟨g0, ?_, g2.more (by omega) (fun r c z z2 => hK r c (by unfold rdL at z; omega)), g3.co (fun r c z => hK r c (by unfold rdT at z; omega)), ?_, g5.co (fun r c z => hK r c (by unfold rdO at z; omega)), g6.co (fun r c z => hK r c (by unfold rdD at z; omega)), ?_, g8.co (fun r c z => hK r c (by unfold rdH at z; omega))⟩
      · refine ⟨⟨by rw [v1]; exact isN_nI (by omega) (by decide), by rw [v1, v2]⟩, fun s hs => ?_, fun p s hp hs => ?_⟩
        · rw [kS] at hs
          by_cases z : s = n
          · subst z
            rw [v39, v40, u2, u3]
            exact ⟨⟨isN_nI ha (by decide), isN_nI hb (by decide)⟩, rfl, rfl⟩
          · rw [hK 39 s (by omega), hK 40 s (by omega), hK 2 s (by omega), hK 3 s (by omega)]
            exact g1.2.1 s (by omega)
        · rw [kS] at hp hs
          rw [v4]
          have d1 : (16 * p + s) % 16 = s := by omega
          have d2 : (16 * p + s) / 16 = p := by omega
          rw [d1, d2]
          unfold far
          by_cases z : s = n
          · subst z
            rw [if_pos ⟨rfl, hp⟩, hw, v39, v40, na, nb']
            by_cases z2 : p = s
            · subst z2
              rw [if_pos rfl, v39, v40, na, nb']
              congr 1
              unfold adf; omega
            · rw [if_neg z2, hK 39 p (by omega), hK 40 p (by omega)]
          · rw [if_neg (fun q => z q.1)]
            by_cases z2 : p = n
            · subst z2
              rw [if_pos ⟨rfl, hs⟩, hw, if_neg z, v39, v40, na, nb', hK 39 s (by omega), hK 40 s (by omega), adf_comm a, adf_comm b]
            · rw [if_neg (fun q => z2 q.1), hK 39 p (by omega), hK 40 p (by omega), hK 39 s (by omega), hK 40 s (by omega)]
              exact g1.2.2 p s (by omega) (by omega)
      · refine ⟨by rw [hK 38 22 (by omega), hK 0 4 (by omega)]; exact g4.1, fun t ht => ?_⟩
        have ht' : t < nP I := by unfold nP at *; rw [hK 38 22 (by omega)] at ht; exact ht
        obtain ⟨x1, ⟨y1, y2, y3, y4, y5⟩, x3⟩ := g4.2 t ht'
        have hA : 77 ≤ pa D t := by have := x1.1; unfold pa; omega
        rw [kS, hK 56 t (by omega), hK 57 t (by omega), hK 58 t (by omega), hK 59 t (by omega), hK 60 t (by omega), hK (pa D t) 0 (by omega), hK (pa D t) 1 (by omega), hK (pa D t) 2 (by omega), hK (pa D t) 3 (by omega), hK (pa D t) 4 (by omega)]
        exact ⟨x1, ⟨y1, by omega, y3, by omega, y5⟩, x3⟩
      · obtain ⟨r1, r2, ⟨r3, r4, r5, r6⟩, r7, r8, r9⟩ := g7
        have hp : 2 ^ nS I ≤ 2 ^ nS K := Nat.pow_le_pow_right (by decide) (by omega)
        refine ⟨by rw [hK 38 45 (by omega), hK 0 11 (by omega)]; exact r1, fun d hd => by rw [hK 14 d (by omega), hK 69 d (by omega)]; exact r2 d hd, by rw [hK 0 13 (by omega), hK 38 47 (by omega)]; exact ⟨r3, r4, by omega, r6⟩, by rw [hK 38 51 (by omega), hK 0 15 (by omega)]; exact r7, by rw [hK 0 17 (by omega), hK 38 56 (by omega)]; exact r8, by rw [hK 0 18 (by omega), hK 38 0 (by omega)]; exact r9⟩
