/-! the law's round -/
theorem lg_self (x : Int64) : lg_cmp x x = 0 := by
  unfold lg_cmp
  rw [if_neg (fun h => Int64.lt_irrefl h), if_pos rfl]
def Okk (i : Nat) (t : (Int32 → Sk → II → Option (Int32 × Sk × II)) → Option (Int32 × Sk × II)) : Prop := ∃ D' I', Inv D' I' ∧ ∀ self, t self = self (nI (i + 9)) (mkS D') I'
theorem Okk.ite {i : Nat} {c : Prop} [Decidable c] {a b : (Int32 → Sk → II → Option (Int32 × Sk × II)) → Option (Int32 × Sk × II)} (h1 : c → Okk i a) (h2 : ¬ c → Okk i b) : Okk i (fun self => if c then a self else b self) := by
  by_cases q : c
  · obtain ⟨D', I', x, y⟩ := h1 q
    exact ⟨D', I', x, fun self => (if_pos q).trans (y self)⟩
  · obtain ⟨D', I', x, y⟩ := h2 q
    exact ⟨D', I', x, fun self => (if_neg q).trans (y self)⟩
theorem Okk.gd {i : Nat} {c : Prop} [Decidable c] {a : (Int32 → Sk → II → Option (Int32 × Sk × II)) → Option (Int32 × Sk × II)} (hc : c) (h1 : Okk i a) : Okk i (fun self => gd c (a self)) := by
  obtain ⟨D', I', x, y⟩ := h1
  exact ⟨D', I', x, fun self => (gd_pos hc).trans (y self)⟩
theorem Okk.bd {i : Nat} {α : Type} {fx : Option α} {v : α} {k : α → (Int32 → Sk → II → Option (Int32 × Sk × II)) → Option (Int32 × Sk × II)} (h : fx = some v) (hk : Okk i (k v)) : Okk i (fun self => fx.bind fun q => k q self) := by
  obtain ⟨D', I', x, y⟩ := hk
  exact ⟨D', I', x, fun self => by rw [h]; exact y self⟩
theorem Okk.nx_ {fu i sL : Nat} {sx : Nat → Int32} {r1 r2 : Nat} {D : Dn} {I : II} (g : Inv D I) : Okk i (fun self => jn_L_law_1754 fu (mkS D) I sL sx self r1 r2 (nI i)) := ⟨D, I, g, fun self => by
  unfold jn_L_law_1754
  rw [show nI i + (9 : Int32) = nI (i + 9) from nI_add i 9]⟩
theorem in_s {i k sL : Nat} (hi : i + 9 ≤ sL) (hL : sL ≤ 4608) (hk : k ≤ 8) : ¬ (nI i + nI k) < 0 ∧ nx (nI i + nI k) < sL := by
  rw [nI_add, nx_nI (by omega)]
  exact ⟨nI_nn (by omega), by omega⟩
theorem ok_know {fu : Nat} (hfu : 70000 < fu) {sL : Nat} {sx : Nat → Int32} {i : Nat} (hi : i + 9 ≤ sL) (hL : sL ≤ 4608) {D : Dn} {I : II} (g : Inv D I) (v : Int32) (hv : ((sx (nx (nI i + (3 : Int32)))) = 0 ∧ v = 0) ∨ (¬ (sx (nx (nI i + (3 : Int32)))) = 0 ∧ v = 1)) : Okk i (fun self => jn_L_law_1108 fu (mkS D) I sL sx self 1 39 (nI i) 1 (sx (nx (nI i + (1 : Int32)))) (sx (nx (nI i + (2 : Int32)))) v) := by
  obtain ⟨r, I1, I2, h1, h2, h3⟩ := p_know fu g (sx (nx (nI i + (1 : Int32)))) (sx (nx (nI i + (2 : Int32)))) v (hv.elim (fun z => Or.inl z.2) (fun z => Or.inr z.2))
  unfold jn_L_law_1108 jn_L_law_1135
  refine Okk.gd (by decide) (Okk.bd ((re_X10_know _ _ _ _ _ _).trans h1) (Okk.gd (in_s (k := 1) hi hL (by decide)) (Okk.gd (in_s (k := 2) hi hL (by decide)) (Okk.gd (in_s (k := 3) hi hL (by decide)) (?_)))))
  refine Okk.ite (fun z => ?_) (fun z => ?_)
  · have e : v = 0 := hv.elim (fun y => y.2) (fun y => absurd z y.1)
    subst e
    exact Okk.gd (by decide) (Okk.bd ((re_X11_know _ _ _ _ _ _).trans h2) (Okk.ite (fun _ => Okk.nx_ h3) (fun z => absurd rfl z)))
  · have e : v = 1 := hv.elim (fun y => absurd y.1 z) (fun y => y.2)
    subst e
    exact Okk.gd (by decide) (Okk.bd ((re_X11_know _ _ _ _ _ _).trans h2) (Okk.ite (fun _ => Okk.nx_ h3) (fun z => absurd rfl z)))
theorem ok_board {fu : Nat} (hfu : 70000 < fu) {sL : Nat} {sx : Nat → Int32} {i : Nat} (hi : i + 9 ≤ sL) (hL : sL ≤ 4608) {D : Dn} {I : II} (g : Inv D I) (v : Int32) (hv : ((sx (nx (nI i + (2 : Int32)))) = 0 ∧ v = 0) ∨ (¬ (sx (nx (nI i + (2 : Int32)))) = 0 ∧ v = 1)) : Okk i (fun self => jn_L_law_1195 fu (mkS D) I sL sx self 1 39 (nI i) 1 (sx (nx (nI i + (1 : Int32)))) v) := by
  obtain ⟨r, I1, I2, h1, h2, h3⟩ := p_board fu (by omega) g (sx (nx (nI i + (1 : Int32)))) v (hv.elim (fun z => Or.inl z.2) (fun z => Or.inr z.2))
  unfold jn_L_law_1195 jn_L_law_1217
  refine Okk.gd (by decide) (Okk.bd ((re_X10_board _ _ _ _ _).trans h1) (Okk.gd (in_s (k := 1) hi hL (by decide)) (Okk.gd (in_s (k := 2) hi hL (by decide)) (?_))))
  refine Okk.ite (fun z => ?_) (fun z => ?_)
  · have e : v = 0 := hv.elim (fun y => y.2) (fun y => absurd z y.1)
    subst e
    exact Okk.gd (by decide) (Okk.bd ((re_X11_board _ _ _ _ _).trans h2) (Okk.ite (fun _ => Okk.nx_ h3) (fun z => absurd rfl z)))
  · have e : v = 1 := hv.elim (fun y => absurd y.1 z) (fun y => y.2)
    subst e
    exact Okk.gd (by decide) (Okk.bd ((re_X11_board _ _ _ _ _).trans h2) (Okk.ite (fun _ => Okk.nx_ h3) (fun z => absurd rfl z)))
theorem law_step {fu : Nat} (hfu : 70000 < fu) {sL : Nat} {sx : Nat → Int32} {i : Nat} (hi : i + 9 ≤ sL) (hL : sL ≤ 4608) {D : Dn} {I : II} (g : Inv D I) : Okk i (fun self => lp_L_law_18 fu sL sx 1 39 self (nI i) (mkS D) I) := by
  unfold lp_L_law_18
  refine Okk.ite (fun z => ?_) (fun _ => ?_)
  · exfalso
    rw [show sL.toInt32 = nI sL from rfl, show (9 : Int32) = nI 9 from rfl, nI_sub (by omega), nI_lt_iff (by omega) (by omega)] at z
    omega
  refine Okk.gd ⟨nI_nn (by omega), by rw [nx_nI (by omega)]; omega⟩ ?_
  refine Okk.ite (fun _ => by
    obtain ⟨r, I1, I2, h1, h2, h3⟩ := p_stop fu (by omega) g (sx (nx (nI i + (1 : Int32)))) (sx (nx (nI i + (2 : Int32))))
    exact Okk.gd (in_s (k := 1) hi hL (by decide)) (Okk.gd (in_s (k := 2) hi hL (by decide)) (Okk.gd (by decide) (Okk.bd ((re_X10_stop _ _ _ _ _).trans h1) (Okk.gd (by decide) (Okk.bd ((re_X11_stop _ _ _ _ _).trans h2) (Okk.ite (fun _ => Okk.nx_ h3) (fun z => absurd rfl z)))))))) (fun _ => ?_)
  refine Okk.ite (fun _ => by
    obtain ⟨r, D', I1, I2, h1, h2, h3⟩ := p_line fu (by omega) g (sx (nx (nI i + (1 : Int32)))) (sx (nx (nI i + (2 : Int32)))) (sx (nx (nI i + (3 : Int32)))) (sx (nx (nI i + (4 : Int32)))) (sx (nx (nI i + (5 : Int32)))) (sx (nx (nI i + (6 : Int32)))) (sx (nx (nI i + (7 : Int32)))) (sx (nx (nI i + (8 : Int32))))
    exact Okk.gd (in_s (k := 1) hi hL (by decide)) (Okk.gd (in_s (k := 2) hi hL (by decide)) (Okk.gd (in_s (k := 3) hi hL (by decide)) (Okk.gd (in_s (k := 4) hi hL (by decide)) (Okk.gd (in_s (k := 5) hi hL (by decide)) (Okk.gd (in_s (k := 6) hi hL (by decide)) (Okk.gd (in_s (k := 7) hi hL (by decide)) (Okk.gd (in_s (k := 8) hi hL (by decide)) (Okk.gd (by decide) (Okk.bd (h1) (Okk.gd (in_s (k := 1) hi hL (by decide)) (Okk.gd (in_s (k := 2) hi hL (by decide)) (Okk.gd (in_s (k := 3) hi hL (by decide)) (Okk.gd (in_s (k := 4) hi hL (by decide)) (Okk.gd (in_s (k := 5) hi hL (by decide)) (Okk.gd (in_s (k := 6) hi hL (by decide)) (Okk.gd (in_s (k := 7) hi hL (by decide)) (Okk.gd (in_s (k := 8) hi hL (by decide)) (Okk.gd (by decide) (Okk.bd ((re_X11_line _ _ _ _ _ _ _ _ _ _ _).trans h2) (Okk.ite (fun _ => Okk.nx_ h3) (fun z => absurd rfl z)))))))))))))))))))))) (fun _ => ?_)
  refine Okk.ite (fun _ => by
    obtain ⟨r, I1, I2, h1, h2, h3⟩ := p_days fu g (sx (nx (nI i + (1 : Int32)))) (sx (nx (nI i + (2 : Int32)))) (sx (nx (nI i + (3 : Int32))))
    exact Okk.gd (in_s (k := 1) hi hL (by decide)) (Okk.gd (in_s (k := 2) hi hL (by decide)) (Okk.gd (in_s (k := 3) hi hL (by decide)) (Okk.gd (by decide) (Okk.bd ((re_X10_days _ _ _ _ _ _).trans h1) (Okk.gd (by decide) (Okk.bd ((re_X11_days _ _ _ _ _ _).trans h2) (Okk.ite (fun _ => Okk.nx_ h3) (fun z => absurd rfl z))))))))) (fun _ => ?_)
  refine Okk.ite (fun _ => by
    obtain ⟨r, h1, h2⟩ := p_ofLine fu g (sx (nx (nI i + (1 : Int32)))) (sx (nx (nI i + (2 : Int32))))
    exact Okk.gd (in_s (k := 1) hi hL (by decide)) (Okk.gd (in_s (k := 2) hi hL (by decide)) (Okk.gd (by decide) (Okk.bd ((re_X10_ofLine _ _ _ _ _).trans h1) (Okk.gd (by decide) (Okk.bd ((re_X11_ofLine _ _ _ _ _).trans h2) (Okk.ite (fun _ => Okk.nx_ g) (fun z => absurd rfl z)))))))) (fun _ => ?_)
  refine Okk.ite (fun _ => by
    obtain ⟨r, h1, h2⟩ := p_runs fu g (sx (nx (nI i + (1 : Int32)))) (sx (nx (nI i + (2 : Int32))))
    exact Okk.gd (in_s (k := 1) hi hL (by decide)) (Okk.gd (in_s (k := 2) hi hL (by decide)) (Okk.gd (by decide) (Okk.bd ((re_X10_runs _ _ _ _ _).trans h1) (Okk.gd (by decide) (Okk.bd ((re_X11_runs _ _ _ _ _).trans h2) (Okk.ite (fun _ => Okk.nx_ g) (fun z => absurd rfl z)))))))) (fun _ => ?_)
  refine Okk.ite (fun _ => by
    obtain ⟨r, h1, h2⟩ := p_minute fu g (sx (nx (nI i + (1 : Int32)))) (sx (nx (nI i + (2 : Int32)))) (sx (nx (nI i + (3 : Int32))))
    exact Okk.gd (in_s (k := 1) hi hL (by decide)) (Okk.gd (in_s (k := 2) hi hL (by decide)) (Okk.gd (in_s (k := 3) hi hL (by decide)) (Okk.gd (by decide) (Okk.bd ((re_X10_minute _ _ _ _ _ _).trans h1) (Okk.gd (by decide) (Okk.bd ((re_X11_minute _ _ _ _ _ _).trans h2) (Okk.ite (fun _ => Okk.nx_ g) (fun z => absurd rfl z))))))))) (fun _ => ?_)
  refine Okk.ite (fun _ => by
    obtain ⟨r, h1, h2⟩ := p_far fu g (sx (nx (nI i + (1 : Int32)))) (sx (nx (nI i + (2 : Int32))))
    exact Okk.gd (in_s (k := 1) hi hL (by decide)) (Okk.gd (in_s (k := 2) hi hL (by decide)) (Okk.gd (by decide) (Okk.bd ((re_X10_far _ _ _ _ _).trans h1) (Okk.gd (by decide) (Okk.bd ((re_X11_far _ _ _ _ _).trans h2) (Okk.ite (fun _ => Okk.nx_ g) (fun z => absurd rfl z)))))))) (fun _ => ?_)
  refine Okk.ite (fun _ => by
    obtain ⟨r, D', I1, I2, h1, h2, h3⟩ := p_text fu (by omega) g (sx (nx (nI i + (1 : Int32)))) (sx (nx (nI i + (2 : Int32)))) (sx (nx (nI i + (3 : Int32)))) (sx (nx (nI i + (4 : Int32))))
    exact Okk.gd (in_s (k := 1) hi hL (by decide)) (Okk.gd (in_s (k := 2) hi hL (by decide)) (Okk.gd (in_s (k := 3) hi hL (by decide)) (Okk.gd (in_s (k := 4) hi hL (by decide)) (Okk.gd (by decide) (Okk.bd ((re_X10_text _ _ _ _ _ _ _).trans h1) (Okk.gd (in_s (k := 1) hi hL (by decide)) (Okk.gd (in_s (k := 2) hi hL (by decide)) (Okk.gd (in_s (k := 3) hi hL (by decide)) (Okk.gd (in_s (k := 4) hi hL (by decide)) (Okk.gd (by decide) (Okk.bd ((re_X11_text _ _ _ _ _ _ _).trans h2) (Okk.ite (fun _ => Okk.nx_ h3) (fun z => absurd rfl z)))))))))))))) (fun _ => ?_)
  refine Okk.ite (fun _ => by
    obtain ⟨r, h1, h2⟩ := p_owed fu (by omega) g (sx (nx (nI i + (1 : Int32)))) (sx (nx (nI i + (2 : Int32))))
    exact Okk.gd (in_s (k := 1) hi hL (by decide)) (Okk.gd (in_s (k := 2) hi hL (by decide)) (Okk.gd (by decide) (Okk.bd ((re_X10_owed _ _ _ _ _).trans h1) (Okk.gd (by decide) (Okk.bd ((re_X11_owed _ _ _ _ _).trans h2) (Okk.ite (fun _ => Okk.nx_ g) (fun z => absurd rfl z)))))))) (fun _ => ?_)
  refine Okk.ite (fun _ => by
    obtain ⟨r, h1, h2⟩ := p_why fu (by omega) g (sx (nx (nI i + (1 : Int32)))) (sx (nx (nI i + (2 : Int32))))
    exact Okk.gd (in_s (k := 1) hi hL (by decide)) (Okk.gd (in_s (k := 2) hi hL (by decide)) (Okk.gd (by decide) (Okk.bd ((re_X10_why _ _ _ _ _).trans h1) (Okk.gd (by decide) (Okk.bd ((re_X11_why _ _ _ _ _).trans h2) (Okk.ite (fun _ => Okk.nx_ g) (fun z => absurd rfl z)))))))) (fun _ => ?_)
  refine Okk.ite (fun _ => by
    obtain ⟨r, h1, h2⟩ := p_served fu (by omega) g (sx (nx (nI i + (1 : Int32)))) (sx (nx (nI i + (2 : Int32))))
    exact Okk.gd (in_s (k := 1) hi hL (by decide)) (Okk.gd (in_s (k := 2) hi hL (by decide)) (Okk.gd (by decide) (Okk.bd ((re_X10_served _ _ _ _ _).trans h1) (Okk.gd (by decide) (Okk.bd ((re_X11_served _ _ _ _ _).trans h2) (Okk.ite (fun _ => Okk.nx_ g) (fun z => absurd rfl z)))))))) (fun _ => ?_)
  refine Okk.ite (fun _ => by
    obtain ⟨r, h1, h2⟩ := p_breach fu (by omega) g (sx (nx (nI i + (1 : Int32))))
    exact Okk.gd (in_s (k := 1) hi hL (by decide)) (Okk.gd (by decide) (Okk.bd ((re_X10_breach _ _ _ _).trans h1) (Okk.gd (by decide) (Okk.bd ((re_X11_breach _ _ _ _).trans h2) (Okk.ite (fun _ => Okk.nx_ g) (fun z => absurd rfl z))))))) (fun _ => ?_)
  refine Okk.ite (fun _ => by
    obtain ⟨r, D', I1, I2, h1, h2, h3⟩ := p_trip fu g (sx (nx (nI i + (1 : Int32)))) (sx (nx (nI i + (2 : Int32)))) (sx (nx (nI i + (3 : Int32)))) (sx (nx (nI i + (4 : Int32)))) (sx (nx (nI i + (5 : Int32))))
    exact Okk.gd (in_s (k := 1) hi hL (by decide)) (Okk.gd (in_s (k := 2) hi hL (by decide)) (Okk.gd (in_s (k := 3) hi hL (by decide)) (Okk.gd (in_s (k := 4) hi hL (by decide)) (Okk.gd (in_s (k := 5) hi hL (by decide)) (Okk.gd (by decide) (Okk.bd (h1) (Okk.gd (in_s (k := 1) hi hL (by decide)) (Okk.gd (in_s (k := 2) hi hL (by decide)) (Okk.gd (in_s (k := 3) hi hL (by decide)) (Okk.gd (in_s (k := 4) hi hL (by decide)) (Okk.gd (in_s (k := 5) hi hL (by decide)) (Okk.gd (by decide) (Okk.bd ((re_X11_trip _ _ _ _ _ _ _ _).trans h2) (Okk.ite (fun _ => Okk.nx_ h3) (fun z => absurd rfl z)))))))))))))))) (fun _ => ?_)
  refine Okk.ite (fun _ => by
    obtain ⟨r, I1, I2, h1, h2, h3⟩ := p_way fu (by omega) g (sx (nx (nI i + (1 : Int32)))) (sx (nx (nI i + (2 : Int32)))) (sx (nx (nI i + (3 : Int32))))
    exact Okk.gd (in_s (k := 1) hi hL (by decide)) (Okk.gd (in_s (k := 2) hi hL (by decide)) (Okk.gd (in_s (k := 3) hi hL (by decide)) (Okk.gd (by decide) (Okk.bd ((re_X10_way _ _ _ _ _ _).trans h1) (Okk.gd (by decide) (Okk.bd ((re_X11_way _ _ _ _ _ _).trans h2) (Okk.ite (fun _ => Okk.nx_ h3) (fun z => absurd rfl z))))))))) (fun _ => ?_)
  refine Okk.ite (fun _ => by
    obtain ⟨r, I1, I2, h1, h2, h3⟩ := p_lose fu (by omega) g (sx (nx (nI i + (1 : Int32)))) (sx (nx (nI i + (2 : Int32)))) (sx (nx (nI i + (3 : Int32))))
    exact Okk.gd (in_s (k := 1) hi hL (by decide)) (Okk.gd (in_s (k := 2) hi hL (by decide)) (Okk.gd (in_s (k := 3) hi hL (by decide)) (Okk.gd (by decide) (Okk.bd ((re_X10_lose _ _ _ _ _ _).trans h1) (Okk.gd (by decide) (Okk.bd ((re_X11_lose _ _ _ _ _ _).trans h2) (Okk.ite (fun _ => Okk.nx_ h3) (fun z => absurd rfl z))))))))) (fun _ => ?_)
  refine Okk.ite (fun _ => by
    obtain ⟨r, I1, I2, h1, h2, h3⟩ := p_who fu (by omega) g (sx (nx (nI i + (1 : Int32)))) (sx (nx (nI i + (2 : Int32)))) (sx (nx (nI i + (3 : Int32))))
    exact Okk.gd (in_s (k := 1) hi hL (by decide)) (Okk.gd (in_s (k := 2) hi hL (by decide)) (Okk.gd (in_s (k := 3) hi hL (by decide)) (Okk.gd (by decide) (Okk.bd ((re_X10_who _ _ _ _ _ _).trans h1) (Okk.gd (by decide) (Okk.bd ((re_X11_who _ _ _ _ _ _).trans h2) (Okk.ite (fun _ => Okk.nx_ h3) (fun z => absurd rfl z))))))))) (fun _ => ?_)
  refine Okk.ite (fun _ => by
    obtain ⟨r, D', I1, I2, h1, h2, h3⟩ := p_offer fu (by omega) g (sx (nx (nI i + (1 : Int32))))
    exact Okk.gd (in_s (k := 1) hi hL (by decide)) (Okk.gd (by decide) (Okk.bd ((re_X10_offer _ _ _ _).trans h1) (Okk.gd (in_s (k := 1) hi hL (by decide)) (Okk.gd (by decide) (Okk.bd ((re_X11_offer _ _ _ _).trans h2) (Okk.ite (fun _ => Okk.nx_ h3) (fun z => absurd rfl z)))))))) (fun _ => ?_)
  refine Okk.ite (fun _ => by
    obtain ⟨r, D', I1, I2, h1, h2, h3⟩ := p_best fu (by omega) g (sx (nx (nI i + (1 : Int32)))) (sx (nx (nI i + (2 : Int32)))) (sx (nx (nI i + (3 : Int32))))
    exact Okk.gd (in_s (k := 1) hi hL (by decide)) (Okk.gd (in_s (k := 2) hi hL (by decide)) (Okk.gd (in_s (k := 3) hi hL (by decide)) (Okk.gd (by decide) (Okk.bd (h1) (Okk.gd (in_s (k := 1) hi hL (by decide)) (Okk.gd (in_s (k := 2) hi hL (by decide)) (Okk.gd (in_s (k := 3) hi hL (by decide)) (Okk.gd (by decide) (Okk.bd ((re_X11_best _ _ _ _ _ _).trans h2) (Okk.ite (fun _ => Okk.nx_ h3) (fun z => absurd rfl z)))))))))))) (fun _ => ?_)
  refine Okk.ite (fun _ => by
    obtain ⟨r, D', I1, I2, h1, h2, h3⟩ := p_depot fu g (sx (nx (nI i + (1 : Int32)))) (sx (nx (nI i + (2 : Int32)))) (sx (nx (nI i + (3 : Int32))))
    exact Okk.gd (in_s (k := 1) hi hL (by decide)) (Okk.gd (in_s (k := 2) hi hL (by decide)) (Okk.gd (in_s (k := 3) hi hL (by decide)) (Okk.gd (by decide) (Okk.bd (h1) (Okk.gd (in_s (k := 1) hi hL (by decide)) (Okk.gd (in_s (k := 2) hi hL (by decide)) (Okk.gd (in_s (k := 3) hi hL (by decide)) (Okk.gd (by decide) (Okk.bd ((re_X11_depot _ _ _ _ _ _).trans h2) (Okk.ite (fun _ => Okk.nx_ h3) (fun z => absurd rfl z)))))))))))) (fun _ => ?_)
  refine Okk.ite (fun _ => by
    obtain ⟨r, h1, h2⟩ := p_empty fu g (sx (nx (nI i + (1 : Int32)))) (sx (nx (nI i + (2 : Int32))))
    exact Okk.gd (in_s (k := 1) hi hL (by decide)) (Okk.gd (in_s (k := 2) hi hL (by decide)) (Okk.gd (by decide) (Okk.bd ((re_X10_empty _ _ _ _ _).trans h1) (Okk.gd (by decide) (Okk.bd ((re_X11_empty _ _ _ _ _).trans h2) (Okk.ite (fun _ => Okk.nx_ g) (fun z => absurd rfl z)))))))) (fun _ => ?_)
  refine Okk.ite (fun _ => by
    obtain ⟨r, I1, I2, h1, h2, h3⟩ := p_fit fu (by omega) g (sx (nx (nI i + (1 : Int32)))) (sx (nx (nI i + (2 : Int32))))
    exact Okk.gd (in_s (k := 1) hi hL (by decide)) (Okk.gd (in_s (k := 2) hi hL (by decide)) (Okk.gd (by decide) (Okk.bd ((re_X10_fit _ _ _ _ _).trans h1) (Okk.gd (by decide) (Okk.bd ((re_X11_fit _ _ _ _ _).trans h2) (Okk.ite (fun _ => Okk.nx_ h3) (fun z => absurd rfl z)))))))) (fun _ => ?_)
  refine Okk.ite (fun _ => by
    obtain ⟨r, I1, I2, h1, h2, h3⟩ := p_driver fu g 
    exact Okk.gd (by decide) (Okk.bd ((re_X10_driver _ _ _).trans h1) (Okk.gd (by decide) (Okk.bd ((re_X11_driver _ _ _).trans h2) (Okk.ite (fun _ => Okk.nx_ h3) (fun z => absurd rfl z)))))) (fun _ => ?_)
  refine Okk.ite (fun _ => Okk.gd (in_s (k := 1) hi hL (by decide)) (Okk.gd (in_s (k := 2) hi hL (by decide)) (Okk.gd (in_s (k := 3) hi hL (by decide)) (Okk.ite (fun z => ok_know hfu hi hL g 0 (Or.inl ⟨z, rfl⟩)) (fun z => ok_know hfu hi hL g 1 (Or.inr ⟨z, rfl⟩)))))) (fun _ => ?_)
  refine Okk.ite (fun _ => by
    obtain ⟨r, I1, I2, h1, h2, h3⟩ := p_roster fu (by omega) g (sx (nx (nI i + (1 : Int32)))) (sx (nx (nI i + (2 : Int32))))
    exact Okk.gd (in_s (k := 1) hi hL (by decide)) (Okk.gd (in_s (k := 2) hi hL (by decide)) (Okk.gd (by decide) (Okk.bd ((re_X10_roster _ _ _ _ _).trans h1) (Okk.gd (by decide) (Okk.bd ((re_X11_roster _ _ _ _ _).trans h2) (Okk.ite (fun _ => Okk.nx_ h3) (fun z => absurd rfl z)))))))) (fun _ => ?_)
  refine Okk.ite (fun _ => Okk.gd (in_s (k := 1) hi hL (by decide)) (Okk.gd (in_s (k := 2) hi hL (by decide)) (Okk.ite (fun z => ok_board hfu hi hL g 0 (Or.inl ⟨z, rfl⟩)) (fun z => ok_board hfu hi hL g 1 (Or.inr ⟨z, rfl⟩))))) (fun _ => ?_)
  refine Okk.ite (fun _ => by
    obtain ⟨r, I1, I2, h1, h2, h3⟩ := p_night fu (by omega) g (sx (nx (nI i + (1 : Int32)))) (sx (nx (nI i + (2 : Int32)))) (sx (nx (nI i + (3 : Int32)))) (sx (nx (nI i + (4 : Int32))))
    exact Okk.gd (in_s (k := 1) hi hL (by decide)) (Okk.gd (in_s (k := 2) hi hL (by decide)) (Okk.gd (in_s (k := 3) hi hL (by decide)) (Okk.gd (in_s (k := 4) hi hL (by decide)) (Okk.gd (by decide) (Okk.bd ((re_X10_night _ _ _ _ _ _ _).trans h1) (Okk.gd (by decide) (Okk.bd ((re_X11_night _ _ _ _ _ _ _).trans h2) (Okk.ite (fun _ => Okk.nx_ h3) (fun z => absurd rfl z)))))))))) (fun _ => ?_)
  refine Okk.ite (fun _ => by
    obtain ⟨r, I1, I2, h1, h2, h3⟩ := p_waiting fu g (sx (nx (nI i + (1 : Int32)))) (sx (nx (nI i + (2 : Int32)))) (sx (nx (nI i + (3 : Int32))))
    exact Okk.gd (in_s (k := 1) hi hL (by decide)) (Okk.gd (in_s (k := 2) hi hL (by decide)) (Okk.gd (in_s (k := 3) hi hL (by decide)) (Okk.gd (by decide) (Okk.bd ((re_X10_waiting _ _ _ _ _ _).trans h1) (Okk.gd (by decide) (Okk.bd ((re_X11_waiting _ _ _ _ _ _).trans h2) (Okk.ite (fun _ => Okk.nx_ h3) (fun z => absurd rfl z))))))))) (fun _ => ?_)
  refine Okk.ite (fun _ => by
    obtain ⟨r, I1, I2, h1, h2, h3⟩ := p_seats fu g (sx (nx (nI i + (1 : Int32))))
    exact Okk.gd (in_s (k := 1) hi hL (by decide)) (Okk.gd (by decide) (Okk.bd ((re_X10_seats _ _ _ _).trans h1) (Okk.gd (by decide) (Okk.bd ((re_X11_seats _ _ _ _).trans h2) (Okk.ite (fun _ => Okk.nx_ h3) (fun z => absurd rfl z))))))) (fun _ => ?_)
  refine Okk.ite (fun _ => by
    obtain ⟨r, h1, h2⟩ := p_standing fu (by omega) g (sx (nx (nI i + (1 : Int32)))) (sx (nx (nI i + (2 : Int32)))) (sx (nx (nI i + (3 : Int32))))
    exact Okk.gd (in_s (k := 1) hi hL (by decide)) (Okk.gd (in_s (k := 2) hi hL (by decide)) (Okk.gd (in_s (k := 3) hi hL (by decide)) (Okk.gd (by decide) (Okk.bd ((re_X10_standing _ _ _ _ _ _).trans h1) (Okk.gd (by decide) (Okk.bd ((re_X11_standing _ _ _ _ _ _).trans h2) (Okk.ite (fun _ => Okk.nx_ g) (fun z => absurd rfl z))))))))) (fun _ => ?_)
  refine Okk.ite (fun _ => by
    obtain ⟨r, h1, h2⟩ := p_extra fu (by omega) g (sx (nx (nI i + (1 : Int32))))
    exact Okk.gd (in_s (k := 1) hi hL (by decide)) (Okk.gd (by decide) (Okk.bd ((re_X10_extra _ _ _ _).trans h1) (Okk.gd (by decide) (Okk.bd ((re_X11_extra _ _ _ _).trans h2) (Okk.ite (fun _ => Okk.nx_ g) (fun z => absurd rfl z))))))) (fun _ => ?_)
  refine Okk.ite (fun _ => by
    obtain ⟨r, I1, I2, h1, h2, h3⟩ := p_sheet fu (by omega) g (sx (nx (nI i + (1 : Int32)))) (sx (nx (nI i + (2 : Int32)))) (sx (nx (nI i + (3 : Int32))))
    exact Okk.gd (in_s (k := 1) hi hL (by decide)) (Okk.gd (in_s (k := 2) hi hL (by decide)) (Okk.gd (in_s (k := 3) hi hL (by decide)) (Okk.gd (by decide) (Okk.bd ((re_X10_sheet _ _ _ _ _ _).trans h1) (Okk.gd (by decide) (Okk.bd ((re_X11_sheet _ _ _ _ _ _).trans h2) (Okk.ite (fun _ => Okk.nx_ h3) (fun z => absurd rfl z))))))))) (fun _ => ?_)
  refine Okk.ite (fun _ => by
    obtain ⟨r, I1, I2, h1, h2, h3⟩ := p_drop fu g (sx (nx (nI i + (1 : Int32))))
    exact Okk.gd (in_s (k := 1) hi hL (by decide)) (Okk.gd (by decide) (Okk.bd ((re_X10_drop _ _ _ _).trans h1) (Okk.gd (by decide) (Okk.bd ((re_X11_drop _ _ _ _).trans h2) (Okk.ite (fun _ => Okk.nx_ h3) (fun z => absurd rfl z))))))) (fun _ => ?_)
  refine Okk.ite (fun _ => by
    obtain ⟨r, I1, I2, h1, h2, h3⟩ := p_put fu g (sx (nx (nI i + (1 : Int32)))) (sx (nx (nI i + (2 : Int32)))) (sx (nx (nI i + (3 : Int32))))
    exact Okk.gd (in_s (k := 1) hi hL (by decide)) (Okk.gd (in_s (k := 2) hi hL (by decide)) (Okk.gd (in_s (k := 3) hi hL (by decide)) (Okk.gd (by decide) (Okk.bd ((re_X10_put _ _ _ _ _ _).trans h1) (Okk.gd (by decide) (Okk.bd ((re_X11_put _ _ _ _ _ _).trans h2) (Okk.ite (fun _ => Okk.nx_ h3) (fun z => absurd rfl z))))))))) (fun _ => ?_)
  refine Okk.ite (fun _ => by
    obtain ⟨r, I1, I2, h1, h2, h3⟩ := p_cell fu g (sx (nx (nI i + (1 : Int32)))) (sx (nx (nI i + (2 : Int32)))) (sx (nx (nI i + (3 : Int32))))
    exact Okk.gd (in_s (k := 1) hi hL (by decide)) (Okk.gd (in_s (k := 2) hi hL (by decide)) (Okk.gd (in_s (k := 3) hi hL (by decide)) (Okk.gd (by decide) (Okk.bd ((re_X10_cell _ _ _ _ _ _).trans h1) (Okk.gd (by decide) (Okk.bd ((re_X11_cell _ _ _ _ _ _).trans h2) (Okk.ite (fun _ => Okk.nx_ h3) (fun z => absurd (lg_self _) z))))))))) (fun _ => ?_)
  refine Okk.ite (fun _ => by
    obtain ⟨r, I1, I2, h1, h2, h3⟩ := p_copy fu (by omega) g (sx (nx (nI i + (1 : Int32)))) (sx (nx (nI i + (2 : Int32)))) (sx (nx (nI i + (3 : Int32)))) (sx (nx (nI i + (4 : Int32)))) (sx (nx (nI i + (5 : Int32))))
    exact Okk.gd (in_s (k := 1) hi hL (by decide)) (Okk.gd (in_s (k := 2) hi hL (by decide)) (Okk.gd (in_s (k := 3) hi hL (by decide)) (Okk.gd (in_s (k := 4) hi hL (by decide)) (Okk.gd (in_s (k := 5) hi hL (by decide)) (Okk.gd (by decide) (Okk.bd ((re_X10_copy _ _ _ _ _ _ _ _).trans h1) (Okk.gd (by decide) (Okk.bd ((re_X11_copy _ _ _ _ _ _ _ _).trans h2) (Okk.ite (fun _ => Okk.nx_ h3) (fun z => absurd rfl z))))))))))) (fun _ => ?_)
  refine Okk.ite (fun _ => by
    obtain ⟨r, I1, I2, h1, h2, h3⟩ := p_tell fu g (sx (nx (nI i + (1 : Int32))))
    exact Okk.gd (in_s (k := 1) hi hL (by decide)) (Okk.gd (by decide) (Okk.bd ((re_X10_tell _ _ _ _).trans h1) (Okk.gd (by decide) (Okk.bd ((re_X11_tell _ _ _ _).trans h2) (Okk.ite (fun _ => Okk.nx_ h3) (fun z => absurd rfl z))))))) (fun _ => ?_)
  refine Okk.ite (fun _ => by
    obtain ⟨r, I1, I2, h1, h2, h3⟩ := p_hail fu g (sx (nx (nI i + (1 : Int32))))
    exact Okk.gd (in_s (k := 1) hi hL (by decide)) (Okk.gd (by decide) (Okk.bd ((re_X10_hail _ _ _ _).trans h1) (Okk.gd (by decide) (Okk.bd ((re_X11_hail _ _ _ _).trans h2) (Okk.ite (fun _ => Okk.nx_ h3) (fun z => absurd rfl z))))))) (fun _ => ?_)
  refine Okk.ite (fun _ => by
    obtain ⟨r, I1, I2, h1, h2, h3⟩ := p_as fu g (sx (nx (nI i + (1 : Int32)))) (sx (nx (nI i + (2 : Int32))))
    exact Okk.gd (in_s (k := 1) hi hL (by decide)) (Okk.gd (in_s (k := 2) hi hL (by decide)) (Okk.gd (by decide) (Okk.bd ((re_X10_as _ _ _ _ _).trans h1) (Okk.gd (by decide) (Okk.bd ((re_X11_as _ _ _ _ _).trans h2) (Okk.ite (fun _ => Okk.nx_ h3) (fun z => absurd rfl z)))))))) (fun _ => ?_)
  refine Okk.ite (fun _ => Okk.gd (by decide) (Okk.gd (by decide) (Okk.ite (fun _ => Okk.nx_ g) (fun z => absurd (p_trace g) z)))) (fun _ => ?_)
  refine Okk.ite (fun _ => Okk.gd (by decide) (Okk.gd (by decide) (Okk.ite (fun _ => Okk.nx_ g) (fun z => absurd (p_fault g) z)))) (fun _ => ?_)
  refine Okk.ite (fun _ => by
    obtain ⟨r, h1, h2⟩ := p_many fu (by omega) g (sx (nx (nI i + (1 : Int32))))
    exact Okk.gd (in_s (k := 1) hi hL (by decide)) (Okk.gd (by decide) (Okk.bd ((re_X10_many _ _ _ _).trans h1) (Okk.gd (by decide) (Okk.bd ((re_X11_many _ _ _ _).trans h2) (Okk.ite (fun _ => Okk.nx_ g) (fun z => absurd rfl z))))))) (fun _ => ?_)
  exact Okk.nx_ g
