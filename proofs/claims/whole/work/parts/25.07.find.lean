/-! the reference's findRow, rowTold -/
/-- what a mode (0: depots, 1: drivers) asks of a row -/
def okR (md : Int32) (a rv : Nat → Nat) (n nd : Nat) : Bool := if md = 0 then dfB a rv n nd else un a n
theorem m_find (fu : Nat) (hfu : 70000 < fu) {D : Dn} {I J : II} (hK : Keep I J) {n pc : Nat} {md : Int32} {rm rv : Nat → Nat} {cs : Nat → Nat → Nat} {ln : Nat → Nat} (hmd : md = 0 ∨ md = 1) (hn : n ≤ 8) (hpc6 : pc ≤ 6) (hpw : pc ^ n ≤ 65536) (hcs : ∀ i p, i < n → p < pc → cs i p ≤ 1000) (e40 : J 38 40 = nI n) (h67 : ∀ k, k < n → J 67 k = nI (ln k))
    (hok : ∀ a : Nat → Nat, (∀ k, k < n → a k < pc) → (okR md a rv n pc = true ↔ ∀ p, cnt a p 0 n ≤ rm p))
    (h66 : md = 0 → I 38 36 = nI pc ∧ pc ≤ 4 ∧ ∀ d, d < pc → I 66 d = nI (rv d) ∧ rv d ≤ 9)
    (hc : ∀ J' k p, Keep I J' → k < n → p < pc → (if md = 0 then Rf_X11_emptyOf fu (mkS D) J' (nI (ln k)) (nI p) else Rf_X11_taught fu (mkS D) J' (nI (ln k)) (nI p)) = some (nI (cs k p))) :
    ∃ J', Rf_X11_findRow fu (mkS D) J md (nI pc) = some J' ∧ Keep I J' ∧ J' 38 40 = nI n ∧ (∀ k, k < n → J' 67 k = nI (ln k)) ∧ ((J' 38 43 = -9 ∧ opt pc rm cs n 0 (fun _ => 0) = NB) ∨ (opt pc rm cs n 0 (fun _ => 0) < NB ∧ J' 38 43 = nI (Rr pc rm cs n 0 (fun _ => 0)) ∧ J' 38 44 = nI (opt pc rm cs n 0 (fun _ => 0)))) := by
  obtain ⟨fm1, fm2⟩ := first_min pc rm cs n 0 (fun _ => 0)
  let V : Nat → Nat := fun x => Vr pc rm cs n 0 (fun _ => 0) x
  have hV : ∀ x, x < pc ^ n → (okR md (dgt pc n x) rv n pc = true ∧ V x = smp cs (dgt pc n x) n ∧ V x ≤ 8000) ∨ (okR md (dgt pc n x) rv n pc = false ∧ NB ≤ V x) := by
    intro x hx
    have hdl : ∀ k, k < n → dgt pc n x k < pc := fun k hk => by
      have : 0 < pc := by
        rcases Nat.eq_zero_or_pos pc with z | z
        · rw [z, Nat.zero_pow (by omega)] at hx; omega
        · exact z
      exact Nat.mod_lt _ this
    have hsl : ∀ m, m ≤ n → smp cs (dgt pc n x) m ≤ 1000 * m := fun m => by
      induction m with
      | zero => intro _; exact Nat.le_refl _
      | succ m ih =>
        intro hm
        have h1 := ih (by omega)
        have h2 := hcs m (dgt pc n x m) (by omega) (hdl m (by omega))
        show smp cs (dgt pc n x) m + cs m (dgt pc n x m) ≤ _
        omega
    rcases Vr_val (pc := pc) (n := n) (x := x) (rm := rm) (cs := cs) n 0 (fun _ => 0) (by omega) (fun p => Nat.zero_le _) with ⟨h1, h2⟩ | ⟨⟨p, h1⟩, h2⟩
    · left
      rw [Nat.mod_eq_of_lt hx, smp_eq] at h2
      have h3 := hsl n (Nat.le_refl _)
      refine ⟨(hok _ hdl).mpr (fun p => by have := h1 p; omega), h2, ?_⟩
      show Vr pc rm cs n 0 (fun _ => 0) x ≤ 8000
      omega
    · right
      rw [Nat.mod_eq_of_lt hx] at h2
      refine ⟨?_, h2⟩
      cases q : okR md (dgt pc n x) rv n pc with
      | false => rfl
      | true =>
        have := (hok _ hdl).mp q p
        omega
  obtain ⟨G, eG⟩ : ∃ G : II, upI (upI J 38 43 (-9)) 38 44 0 = G := ⟨_, rfl⟩
  have kG : Keep I G := hK.tr (fun a j z => by
    rw [← eG]
    unfold upI
    rw [if_neg (fun e => z (by unfold scr; omega)), if_neg (fun e => z (by unfold scr; omega))])
  have G43 : G 38 43 = -9 := by rw [← eG, upI_cell (by decide), upI_at]
  have G40 : G 38 40 = nI n := by rw [← eG, upI_cell (by decide), upI_cell (by decide)]; exact e40
  have G67 : ∀ k, k < n → G 67 k = nI (ln k) := fun k hk => by rw [← eG, upI_row (by decide), upI_row (by decide)]; exact h67 k hk
  let P : Nat → II → Prop := fun r J' => Keep I J' ∧ J' 38 40 = nI n ∧ (∀ k, k < n → J' 67 k = nI (ln k)) ∧ ((J' 38 43 = -9 ∧ ∀ x, x < r → NB ≤ V x) ∨ ∃ x0, x0 < r ∧ V x0 ≤ 8000 ∧ J' 38 43 = nI x0 ∧ J' 38 44 = nI (V x0) ∧ ∀ x, x < r → V x0 ≤ V x ∧ (x < x0 → V x0 < V x))
  have main := fix2_ex (K := Unit) (F := fun _ => Rl_X11_findRow_23 fu (mkS D) md (nI pc) (nI (pc ^ n))) (fun i => nI i) P (fun _ J' => some J') (pc ^ n) (fun x J' hx hP => ?_) (fun J' hP κ self => ?_) (pc ^ n) 0 G (by omega) ⟨kG, G40, G67, Or.inl ⟨G43, fun x hx => absurd hx (Nat.not_lt_zero _)⟩⟩ fu (by omega)
  · obtain ⟨J', ⟨q1, q2, q3, q4⟩, hrun⟩ := main
    refine ⟨J', ?_, q1, q2, q3, ?_⟩
    · unfold Rf_X11_findRow
      simp only [lt]
      rw [eG, G40, m_power fu (by omega) (by omega), Option.bind_some]
      exact hrun ()
    · rcases q4 with ⟨y1, y2⟩ | ⟨x0, y1, y2, y3, y4, y5⟩
      · left
        refine ⟨y1, ?_⟩
        by_cases z : opt pc rm cs n 0 (fun _ => 0) < NB
        · obtain ⟨f1, f2, -⟩ := fm2 z
          have := y2 _ f1
          have e : V (Rr pc rm cs n 0 (fun _ => 0)) = opt pc rm cs n 0 (fun _ => 0) := f2
          omega
        · have := opt_le pc rm cs n 0 (fun _ => 0)
          omega
      · right
        have h1 := fm1 x0 y1
        have h1' : opt pc rm cs n 0 (fun _ => 0) ≤ V x0 := h1
        have hlt : opt pc rm cs n 0 (fun _ => 0) < NB := by simp only [NB]; omega
        obtain ⟨f1, f2, f3⟩ := fm2 hlt
        have f2' : V (Rr pc rm cs n 0 (fun _ => 0)) = opt pc rm cs n 0 (fun _ => 0) := f2
        obtain ⟨z1, z2⟩ := y5 _ f1
        have ex : x0 = Rr pc rm cs n 0 (fun _ => 0) := by
          rcases (by omega : x0 < Rr pc rm cs n 0 (fun _ => 0) ∨ x0 = Rr pc rm cs n 0 (fun _ => 0) ∨ Rr pc rm cs n 0 (fun _ => 0) < x0) with w | w | w
          · have h3 : opt pc rm cs n 0 (fun _ => 0) < V x0 := f3 x0 w
            omega
          · exact w
          · have := z2 w; omega
        refine ⟨hlt, by rw [← ex]; exact y3, ?_⟩
        rw [y4, ← f2', ex]
  · obtain ⟨q1, q2, q3, q4⟩ := hP
    have hp : 0 < pc ∨ n = 0 := by
      rcases Nat.eq_zero_or_pos pc with z | z
      · right
        by_cases e : n = 0
        · exact e
        · rw [z, Nat.zero_pow (by omega)] at hx; omega
      · exact Or.inl z
    obtain ⟨J1, a1, a2, a3⟩ := m_layRow fu (by omega) (S := mkS D) (x := x) q2 (by omega) hp hpc6 (by omega)
    have k1 : Keep I J1 := q1.tr (fun a j z => by rw [a2 a (fun e => z (by unfold scr; omega))])
    have e40' : J1 38 40 = nI n := by rw [a2 38 (by decide)]; exact q2
    have e67' : ∀ k, k < n → J1 67 k = nI (ln k) := fun k hk => by rw [a2 67 (by decide)]; exact q3 k hk
    have hdl : ∀ k, k < n → dgt pc n x k < pc := fun k hk => Nat.mod_lt _ (hp.resolve_right (by omega))
    have h68 : ∀ k, k < n → J1 68 k = nI (dgt pc n x k) ∧ dgt pc n x k < 1000 := fun k hk => ⟨a3 k hk, by have := hdl k hk; omega⟩
    -- the check
    have hchk : ∀ self, Rl_X11_findRow_23 fu (mkS D) md (nI pc) (nI (pc ^ n)) self (nI x) J' = if okR md (dgt pc n x) rv n pc = true then Rj_X11_findRow_57 fu (mkS D) J1 self md (nI pc) (nI (pc ^ n)) (nI x) else self (nI (x + 1)) J1 := by
      intro self
      unfold Rl_X11_findRow_23 Rj_X11_findRow_154
      rw [if_neg (by rw [nI_le_iff (by omega) (by omega)]; omega), a1, Option.bind_some, nI_p1]
      rcases hmd with rfl | rfl
      · obtain ⟨w1, w2, w3⟩ := h66 rfl
        have hdf := m_doFit fu (by omega) (S := mkS D) (J := J1) (nd := pc) (rv := rv) (by omega) w2 e40' (by rw [k1 38 36 (by unfold scr; omega)]; exact w1) h68 (fun d hd => by rw [k1 66 d (by unfold scr; omega)]; exact w3 d hd)
        have eo : okR 0 (dgt pc n x) rv n pc = dfB (dgt pc n x) rv n pc := rfl
        rw [if_pos rfl, hdf, Option.bind_some, eo]
        cases dfB (dgt pc n x) rv n pc <;> rfl
      · have hun := m_allUn fu (by omega) (S := mkS D) (J := J1) (by omega) e40' h68
        have eo : okR 1 (dgt pc n x) rv n pc = un (dgt pc n x) n := rfl
        rw [if_neg (by decide), hun, Option.bind_some, eo]
        cases un (dgt pc n x) n <;> rfl
    -- the sum
    have hsum : ∀ self, Rj_X11_findRow_57 fu (mkS D) J1 self md (nI pc) (nI (pc ^ n)) (nI x) = if J1 38 43 < 0 ∨ ¬ J1 38 44 ≤ nI (smp cs (dgt pc n x) n) then self (nI (x + 1)) (upI (upI J1 38 43 (nI x)) 38 44 (nI (smp cs (dgt pc n x) n))) else self (nI (x + 1)) J1 := by
      intro self
      unfold Rj_X11_findRow_57
      refine fix2_run (F := Rl_X11_findRow_63 fu (mkS D) J1 self md (nI pc) (nI (pc ^ n)) (nI x)) (fun k => nI (smp cs (dgt pc n x) k)) (fun k => nI k) n (fun k hk self2 => ?_) (fun self2 => ?_) fu (by omega)
      · have kk := nx_nI (k := k) (by omega)
        have r67 : rdN J1 67 (nI k) = nI (ln k) := by unfold rdN; rw [kk]; exact e67' k hk
        have r68 : rdN J1 68 (nI k) = nI (dgt pc n x k) := by unfold rdN; rw [kk]; exact (h68 k hk).1
        have hcc := hc J1 k (dgt pc n x k) k1 hk (hdl k hk)
        have in14 : ∀ b : Nat, b ≠ 0 → inbL b 14 (nI k) := fun b hb => ⟨hb, nI_nn (by omega), by rw [kk]; omega⟩
        unfold Rl_X11_findRow_63 Rj_X11_findRow_117
        rw [e40', if_neg (by rw [nI_le_iff (by omega) (by omega)]; omega), gd_pos (in14 _ (by decide)), gd_pos (in14 _ (by decide)), gd_pos (in14 _ (by decide)), gd_pos (in14 _ (by decide)), r67, r68]
        rcases hmd with rfl | rfl
        · rw [if_pos rfl] at hcc
          rw [if_pos rfl, hcc, Option.bind_some]
          simp only [lt]
          rw [nI_add, nI_p1]
          rfl
        · rw [if_neg (by decide)] at hcc
          rw [if_neg (by decide), hcc, Option.bind_some]
          simp only [lt]
          rw [nI_add, nI_p1]
          rfl
      · unfold Rl_X11_findRow_63 Rj_X11_findRow_142 Rj_X11_findRow_154
        simp only [lt]
        rw [e40', if_pos (Int32.le_refl _), nI_p1]
        by_cases z1 : J1 38 43 < 0
        · rw [if_pos z1, if_pos (Or.inl z1)]
        · rw [if_neg z1]
          by_cases z2 : J1 38 44 ≤ nI (smp cs (dgt pc n x) n)
          · rw [if_pos z2, if_neg (fun y => y.elim z1 (fun w => w z2))]
          · rw [if_neg z2, if_pos (Or.inr z2)]
    have e43 : J1 38 43 = J' 38 43 := by rw [a2 38 (by decide)]
    have e44 : J1 38 44 = J' 38 44 := by rw [a2 38 (by decide)]
    have kUp : ∀ v, Keep I (upI (upI J1 38 43 (nI x)) 38 44 v) := fun v => k1.tr (fun a j z => by
      unfold upI
      rw [if_neg (fun e => z (by unfold scr; omega)), if_neg (fun e => z (by unfold scr; omega))])
    have u40 : ∀ v, upI (upI J1 38 43 (nI x)) 38 44 v 38 40 = nI n := fun v => by rw [upI_cell (by decide), upI_cell (by decide)]; exact e40'
    have u67 : ∀ v, ∀ k, k < n → upI (upI J1 38 43 (nI x)) 38 44 v 67 k = nI (ln k) := fun v k hk => by rw [upI_row (by decide), upI_row (by decide)]; exact e67' k hk
    have u43 : ∀ v, upI (upI J1 38 43 (nI x)) 38 44 v 38 43 = nI x := fun v => by rw [upI_cell (by decide), upI_at]
    rcases hV x hx with ⟨v1, v2, v3⟩ | ⟨v1, v2⟩
    · rw [e43, e44] at hsum
      rcases q4 with ⟨y1, y2⟩ | ⟨x0, y1, y2, y3, y4, y5⟩
      · refine ⟨_, ⟨kUp _, u40 _, u67 _, Or.inr ⟨x, by omega, v3, u43 _, by rw [upI_at, v2], fun x' hx' => ?_⟩⟩, fun _ self => (hchk self).trans ((if_pos v1).trans ((hsum self).trans (if_pos (Or.inl (by rw [y1]; decide)))))⟩
        by_cases e : x' = x
        · subst e; exact ⟨Nat.le_refl _, fun w => absurd w (Nat.lt_irrefl _)⟩
        · have := y2 x' (by omega)
          exact ⟨by simp only [NB] at this; omega, fun _ => by simp only [NB] at this; omega⟩
      · have n43 : ¬ J' 38 43 < 0 := by rw [y3]; exact nI_nn (by omega)
        have cc : J' 38 44 ≤ nI (smp cs (dgt pc n x) n) ↔ V x0 ≤ V x := by
          rw [y4, ← v2, nI_le_iff (by omega) (by omega)]
        by_cases z : V x0 ≤ V x
        · refine ⟨J1, ⟨k1, e40', e67', Or.inr ⟨x0, by omega, y2, by rw [e43]; exact y3, by rw [e44]; exact y4, fun x' hx' => ?_⟩⟩, fun _ self => (hchk self).trans ((if_pos v1).trans ((hsum self).trans (if_neg (fun y => y.elim n43 (fun w => w (cc.mpr z))))))⟩
          by_cases e : x' = x
          · subst e; exact ⟨z, fun w => by omega⟩
          · exact y5 x' (by omega)
        · refine ⟨_, ⟨kUp _, u40 _, u67 _, Or.inr ⟨x, by omega, v3, u43 _, by rw [upI_at, v2], fun x' hx' => ?_⟩⟩, fun _ self => (hchk self).trans ((if_pos v1).trans ((hsum self).trans (if_pos (Or.inr (fun w => z (cc.mp w))))))⟩
          by_cases e : x' = x
          · subst e; exact ⟨Nat.le_refl _, fun w => absurd w (Nat.lt_irrefl _)⟩
          · have := (y5 x' (by omega)).1
            exact ⟨by omega, fun _ => by omega⟩
    · have hskip : ∀ self, Rl_X11_findRow_23 fu (mkS D) md (nI pc) (nI (pc ^ n)) self (nI x) J' = self (nI (x + 1)) J1 := fun self => (hchk self).trans (if_neg (by rw [v1]; decide))
      refine ⟨J1, ⟨k1, e40', e67', ?_⟩, fun _ self => hskip self⟩
      rw [e43, e44]
      rcases q4 with ⟨y1, y2⟩ | ⟨x0, y1, y2, y3, y4, y5⟩
      · refine Or.inl ⟨y1, fun x' hx' => ?_⟩
        by_cases e : x' = x
        · subst e; exact v2
        · exact y2 x' (by omega)
      · refine Or.inr ⟨x0, by omega, y2, y3, y4, fun x' hx' => ?_⟩
        by_cases e : x' = x
        · subst e; exact ⟨by simp only [NB] at v2; omega, fun w => by omega⟩
        · exact y5 x' (by omega)
  · show Rl_X11_findRow_23 fu (mkS D) md (nI pc) (nI (pc ^ n)) self (nI (pc ^ n)) J' = _
    unfold Rl_X11_findRow_23
    rw [if_pos (Int32.le_refl _)]
