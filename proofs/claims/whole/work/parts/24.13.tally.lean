/-! best: what a set of lines does -/
def KS (I J : II) : Prop := ∀ a k, a < 77 → ¬ scr a k → J a k = I a k
theorem Keep.ks {I J : II} (h : Keep I J) : KS I J := fun a k _ z => h a k z
theorem KS.tr {I J K : II} (h : KS I J) (h' : KS J K) : KS I K := fun a k z1 z2 => (h' a k z1 z2).trans (h a k z1 z2)
def cL (I : II) (l : Nat) : Nat := nb I l * rnd I l
theorem ks_line {I J : II} (h : KS I J) (l : Nat) : (∀ k, lS J l k = lS I l k) ∧ (∀ k, lO J l k = lO I l k) ∧ lZ J l = lZ I l ∧ lF J l = lF I l ∧ lE J l = lE I l ∧ lL J l = lL I l ∧ nb J l = nb I l ∧ ∀ k u, bidx J l k u = bidx I l k u := by
  have e : ∀ a k, 41 ≤ a → a ≤ 50 → J a k = I a k := fun a k h1 h2 => h a k (by omega) (by unfold scr; omega)
  have e1 : ∀ k, lO J l k = lO I l k := fun k => by unfold lO; rw [e _ _ (by decide) (by decide)]
  have e2 : lF J l = lF I l := by unfold lF; rw [e _ _ (by decide) (by decide)]
  have e3 : lE J l = lE I l := by unfold lE; rw [e _ _ (by decide) (by decide)]
  have e4 : lL J l = lL I l := by unfold lL; rw [e _ _ (by decide) (by decide)]
  refine ⟨fun k => by unfold lS; rw [e _ _ (by decide) (by decide)], e1, by unfold lZ; rw [e _ _ (by decide) (by decide)], e2, e3, e4, by unfold nb; rw [e2, e3, e4], fun k u => by unfold bidx; rw [e1, e2, e3]⟩
theorem ks_net {I J : II} (h : KS I J) : nS J = nS I ∧ nL J = nL I ∧ nP J = nP I ∧ nO J = nO I ∧ far J = far I ∧ oL J = oL I ∧ (∀ l d, gn J l d = gn I l d) ∧ ∀ l, cL J l = cL I l := by
  have e : ∀ a k, a < 77 → ¬ scr a k → J a k = I a k := h
  refine ⟨by unfold nS; rw [h 38 1 (by decide) (by unfold scr; omega)], by unfold nL; rw [h 38 4 (by decide) (by unfold scr; omega)], by unfold nP; rw [h 38 22 (by decide) (by unfold scr; omega)], by unfold nO; rw [h 38 34 (by decide) (by unfold scr; omega)], ?_, ?_, ?_, ?_⟩
  · funext a b
    unfold far
    rw [h 39 a (by decide) (by unfold scr; omega), h 39 b (by decide) (by unfold scr; omega), h 40 a (by decide) (by unfold scr; omega), h 40 b (by decide) (by unfold scr; omega)]
  · funext k
    unfold oL
    rw [h 63 k (by decide) (by unfold scr; omega)]
  · intro l d
    unfold gn
    rw [h 48 l (by decide) (by unfold scr; omega), h 49 l (by decide) (by unfold scr; omega), h 41 l (by decide) (by unfold scr; omega)]
  · intro l
    obtain ⟨t1, t2, t3, t4, t5, t6, t7, t8⟩ := ks_line h l
    unfold cL rnd
    rw [t2, t3, t7]
theorem ks_RR {I J : II} (h : KS I J) (mask : Nat) : RR J mask = RR I mask := by
  funext s u s' t
  apply propext
  unfold RR
  rw [(ks_net h).2.1]
  constructor
  · rintro ⟨l, k, m, h1, h2, h3, h4, h5, h6, h7, h8⟩
    obtain ⟨t1, t2, t3, t4, t5, t6, t7, t8⟩ := ks_line h l
    rw [t3] at h4
    rw [t1] at h5 h6
    rw [t7, t8] at h7
    rw [t2, t4, t5, t8] at h8
    exact ⟨l, k, m, h1, h2, h3, h4, h5, h6, h7, h8⟩
  · rintro ⟨l, k, m, h1, h2, h3, h4, h5, h6, h7, h8⟩
    obtain ⟨t1, t2, t3, t4, t5, t6, t7, t8⟩ := ks_line h l
    rw [← t3] at h4
    rw [← t1] at h5 h6
    rw [← t7, ← t8] at h7
    rw [← t2, ← t4, ← t5, ← t8] at h8
    exact ⟨l, k, m, h1, h2, h3, h4, h5, h6, h7, h8⟩
theorem ks_AV {I J : II} (h : KS I J) (mask t : Nat) : AV J mask t = AV I mask t := by
  have e56 : tF J t = tF I t := by unfold tF; rw [h 56 t (by decide) (by unfold scr; omega)]
  have e57 : tT J t = tT I t := by unfold tT; rw [h 57 t (by decide) (by unfold scr; omega)]
  have e58 : tS J t = tS I t := by unfold tS; rw [h 58 t (by decide) (by unfold scr; omega)]
  have e59 : tM J t = tM I t := by unfold tM; rw [h 59 t (by decide) (by unfold scr; omega)]
  have e60 : tR J t = tR I t := by unfold tR; rw [h 60 t (by decide) (by unfold scr; omega)]
  unfold AV BrI
  rw [e56, e57, e58, e59, e60, ks_RR h, (ks_net h).1, (ks_net h).2.2.2.2.1]
noncomputable def tg (I : II) (mask : Nat) : Nat → Nat
  | 0 => 0
  | t + 1 => if AV I mask t = NB then tg I mask t else tg I mask t + 1
noncomputable def ts (I : II) (mask : Nat) : Nat → Nat
  | 0 => 0
  | t + 1 => if AV I mask t = NB then ts I mask t else ts I mask t + AV I mask t
theorem ks_tg {I J : II} (h : KS I J) (mask : Nat) : ∀ n, tg J mask n = tg I mask n ∧ ts J mask n = ts I mask n
  | 0 => ⟨rfl, rfl⟩
  | n + 1 => by
    obtain ⟨h1, h2⟩ := ks_tg h mask n
    constructor
    · show (if AV J mask n = NB then tg J mask n else tg J mask n + 1) = _
      rw [ks_AV h, h1]
      rfl
    · show (if AV J mask n = NB then ts J mask n else ts J mask n + AV J mask n) = _
      rw [ks_AV h, h2]
      rfl
theorem tg_le (fu : Nat) (hfu : 2100 < fu) {D : Dn} {I : II} (g : Inv D I) {mask : Nat} (hm : mask < 2147483648) : ∀ n, n ≤ nP I → tg I mask n ≤ n ∧ ts I mask n ≤ 1730 * n
  | 0, _ => ⟨Nat.le_refl _, Nat.le_refl _⟩
  | n + 1, hn => by
    obtain ⟨h1, h2⟩ := tg_le fu hfu g hm n (by omega)
    have h3 := AV_bd fu hfu g (mask := mask) (t := n) hm (by omega)
    unfold tg ts
    split <;> (simp only [NB] at *; omega)
theorem x_tally (fu : Nat) (hfu : 2100 < fu) {D : Dn} {I : II} (g : Inv D I) {mask : Nat} (hm : mask < 2147483648) (x1 : Int32) : ∃ D' J', Rf_X10_tallyOf fu (mkS D) I x1 (nI mask) = some (D.2.2.2 + 1, mkS D', J') ∧ Inv D' J' ∧ D'.2.2.2 = D.2.2.2 + 1 ∧ KS I J' ∧ (∀ a j, 77 ≤ a → a < D.2.2.2 → J' a j = I a j) ∧ J' D.2.2.2 0 = x1 ∧ J' D.2.2.2 1 = nI (tg I mask (nP I)) ∧ J' D.2.2.2 2 = nI (ts I mask (nP I)) := by
  have hN : 77 ≤ D.2.2.2 := g.1
  have hnP : nP I ≤ 6 := g.2.2.2.2.1.1.1.2
  have eP : I 0 4 = nI (nP I) := g.2.2.2.2.1.1.2.trans g.2.2.2.2.1.1.1.1
  have main := fix4_ex (K := Unit) (F := fun _ => Rl_X10_tallyOf_8 fu (mkS D) x1 (nI mask)) (fun i => nI i) (fun i u v J => u = nI (tg I mask i) ∧ v = nI (ts I mask i) ∧ Keep I J) (fun _ u v J => some (D.2.2.2 + 1, mkS (nwS D 6 0), upI (upI (upI (nwI (mkS D) J) D.2.2.2 0 x1) D.2.2.2 1 u) D.2.2.2 2 v)) (nP I) (fun t u v J ht hP => ?_) (fun u v J hP κ self => ?_) (nP I) 0 0 0 I (by omega) ⟨rfl, rfl, Keep.rf⟩ fu (by omega)
  · obtain ⟨u, v, J, ⟨rfl, rfl, hK⟩, hrun⟩ := main
    have hlow : ∀ a j, a < D.2.2.2 → upI (upI (upI (nwI (mkS D) J) D.2.2.2 0 x1) D.2.2.2 1 (nI (tg I mask (nP I)))) D.2.2.2 2 (nI (ts I mask (nP I))) a j = J a j := fun a j ha => by
      rw [upI_row (by omega), upI_row (by omega), upI_row (by omega)]
      show (if a = (mkS D).2.2.2 then 0 else J a j) = _
      rw [show (mkS D).2.2.2 = D.2.2.2 from rfl, if_neg (by omega)]
    refine ⟨nwS D 6 0, _, hrun (), ?_, rfl, fun a k z1 z2 => by rw [hlow a k (by omega)]; exact hK a k z2, fun a j z1 z2 => by rw [hlow a j z2]; exact hK a j (by unfold scr; omega), ?_, ?_, upI_at⟩
    · refine (g.keep hK).grow ⟨Nat.le_succ _, fun a ha => ⟨?_, ?_⟩, fun a k z1 z2 => ?_⟩ (fun a k z => ?_) (fun a k z1 _ _ _ => hlow a k z1) ?_
      · show (if a = D.2.2.2 then 6 else D.2.1 a) = _
        rw [if_neg (by omega)]
      · show (if a = D.2.2.2 then 0 else D.2.2.1 a) = _
        rw [if_neg (by omega)]
      · show (if a = D.2.2.2 then 0 else D.1 a k) = _
        rw [if_neg (by omega)]
      · show (if a = D.2.2.2 then 0 else D.1 a k) = _
        rw [if_neg (by omega)]
      · rw [hlow 0 18 (by omega), hlow 38 0 (by omega), hK 0 18 (by unfold scr; omega), hK 38 0 (by unfold scr; omega)]
        exact g.2.2.2.2.2.2.2.1.2.2.2.2.2
    · rw [upI_cell (by decide), upI_cell (by decide), upI_at]
    · rw [upI_cell (by decide), upI_at]
  · obtain ⟨rfl, rfl, hK⟩ := hP
    obtain ⟨J', rd, wk, a1, a2, -, -⟩ := x_arr fu (by omega) g hK hm ht
    have hbd := AV_bd fu hfu g hm ht
    have hts := (tg_le fu hfu g hm t (by omega))
    have cb : nI (AV I mask t) = (1073741824 : Int32) ↔ AV I mask t = NB := nI_eq_iff (b := 1073741824) (by simp only [NB] at *; omega) (by decide)
    have e1 : tg I mask (t + 1) = if AV I mask t = NB then tg I mask t else tg I mask t + 1 := rfl
    have e2 : ts I mask (t + 1) = if AV I mask t = NB then ts I mask t else ts I mask t + AV I mask t := rfl
    refine ⟨_, _, J', ⟨rfl, rfl, hK.tr a2⟩, fun _ self => ?_⟩
    show Rl_X10_tallyOf_8 fu (mkS D) x1 (nI mask) self _ _ (nI t) J = _
    unfold Rl_X10_tallyOf_8 Rj_X10_tallyOf_43
    simp only [lt]
    rw [hK 0 4 (by unfold scr; omega), eP, if_neg (by rw [nI_le_iff (by omega) (by omega)]; omega), a1, Option.bind_some, e1, e2]
    by_cases q : AV I mask t = NB
    · rw [if_pos (cb.mpr q), if_pos q, if_pos q, nI_p1]
    · rw [if_neg (fun z => q (cb.mp z)), if_neg q, if_neg q, nI_p1, nI_p1, nI_add]
  · obtain ⟨rfl, rfl, hK⟩ := hP
    show Rl_X10_tallyOf_8 fu (mkS D) x1 (nI mask) self _ _ (nI (nP I)) J = _
    unfold Rl_X10_tallyOf_8 f_X6_init
    simp only [lt]
    rw [hK 0 4 (by unfold scr; omega), eP, if_pos (Int32.le_refl _), mk_nw hN]
    rfl
def sL (I : II) (m : Nat) : Nat → Nat
  | 0 => 0
  | l + 1 => sL I m l + (if m.testBit l = true then cL I l else 0)
theorem cL_le {I : II} {l : Nat} (r : RLn I l) : cL I l ≤ 302400 := by
  have h1 := nb_le r
  have h2 : rnd I l ≤ 210 := lO_le r (by have := r.bds.2.1; omega)
  unfold cL
  exact Nat.le_trans (Nat.mul_le_mul h1 h2) (by decide)
theorem sL_le {D : Dn} {I : II} (g : Inv D I) (m : Nat) : ∀ n, n ≤ nL I → sL I m n ≤ 302400 * n
  | 0, _ => Nat.le_refl _
  | n + 1, hn => by
    have h1 := sL_le g m n (by omega)
    have h2 := cL_le (g.2.2.1.2.1 n (by omega)).1
    unfold sL
    split <;> omega
theorem x_busM (fu : Nat) (hfu : 100 < fu) {D : Dn} {I : II} (g : Inv D I) {m : Nat} (hm : m < 2147483648) : Rf_X2_busMinutes fu (mkS D) I (nI m) = some (nI (sL I m (nL I))) := by
  have hnL : nL I ≤ 14 := g.2.2.1.1.1.2
  have eL : I 1 5 = nI (nL I) := g.2.2.1.1.2.trans g.2.2.1.1.1.1
  unfold Rf_X2_busMinutes
  refine fix2_run (F := Rl_X2_busMinutes_4 fu (mkS D) I (nI m)) (fun l => nI (sL I m l)) (fun l => nI l) (nL I) (fun l hl self => ?_) (fun self => ?_) fu (by omega)
  · obtain ⟨r, x⟩ := g.2.2.1.2.1 l hl
    have kl := nx_nI (k := l) (by omega)
    have hh := has_at (s := l) hm (by omega)
    have e : sL I m (l + 1) = sL I m l + (if m.testBit l = true then cL I l else 0) := rfl
    unfold Rl_X2_busMinutes_4 Rj_X2_busMinutes_42
    rw [eL, if_neg (by rw [nI_le_iff (by omega) (by omega)]; omega), hh, e]
    by_cases q : m.testBit l = true
    · rw [if_pos q, if_neg i1ne, if_pos q, gd_pos ⟨by decide, nI_nn (by omega), by rw [kl]; omega⟩, kl, show (mkS D).1 5 l = D.1 5 l from rfl, gd_pos x.at.1, x.at.2.1, x_buses fu r x, Option.bind_some, x_round fu r x, Option.bind_some]
      simp only [lt]
      rw [nI_mul, nI_add, nI_p1]
      rfl
    · rw [if_neg q, if_pos rfl, if_neg q, nI_p1]
      rfl
  · unfold Rl_X2_busMinutes_4
    rw [eL, if_pos (Int32.le_refl _)]
theorem sL_add (I : II) {m a : Nat} (hm : m.testBit a = false) : ∀ n, sL I (m ||| 2 ^ a) n = sL I m n + (if a < n then cL I a else 0)
  | 0 => by rw [if_neg (Nat.not_lt_zero _)]; rfl
  | n + 1 => by
    show sL I (m ||| 2 ^ a) n + (if (m ||| 2 ^ a).testBit n = true then cL I n else 0) = sL I m n + (if m.testBit n = true then cL I n else 0) + _
    rw [sL_add I hm n, Nat.testBit_or, Nat.testBit_two_pow]
    by_cases q : a = n
    · subst q
      rw [hm, decide_eq_true rfl, if_neg (Nat.lt_irrefl _), if_pos (show (false || true) = true from rfl), if_neg (by decide), if_pos (Nat.lt_succ_self _)]
    · rw [decide_eq_false q, Bool.or_false]
      by_cases z : a < n
      · rw [if_pos z, if_pos (show a < n + 1 by omega)]; omega
      · rw [if_neg z, if_neg (show ¬ a < n + 1 by omega)]; omega
def bmS (I : II) (sel : Nat → Bool) : Nat → Nat
  | 0 => 0
  | k + 1 => bmS I sel k + (if sel k = true then cL I (oL I k) else 0)
theorem bm_eq {D : Dn} {I : II} (g : Inv D I) (sel : Nat → Bool) : ∀ n, n ≤ nO I → sL I (ofs I sel n) (nL I) = bmS I sel n
  | 0, _ => by
    show sL I 0 (nL I) = 0
    have : ∀ n, sL I 0 n = 0 := fun n => by
      induction n with
      | zero => rfl
      | succ n ih =>
        show sL I 0 n + (if (0 : Nat).testBit n = true then cL I n else 0) = 0
        rw [ih, Nat.zero_testBit, if_neg (by decide)]
    exact this _
  | n + 1, hn => by
    have gO := g.2.2.2.2.2.1
    have ih := bm_eq g sel n (by omega)
    unfold ofs bmS
    cases h : sel n with
    | false => rw [if_neg (by decide), if_neg (by decide), ih]; rfl
    | true =>
      have hb : (ofs I sel n).testBit (oL I n) = false := by
        cases h2 : (ofs I sel n).testBit (oL I n) with
        | false => rfl
        | true =>
          obtain ⟨k, h3, h4, h5⟩ := (ofs_bit I sel (oL I n) n).mp h2
          exact absurd h5 (gO.2.2 k n h3 (by omega))
      rw [if_pos rfl, if_pos rfl, sL_add I hb, ih, if_pos (gO.2.1 n (by omega)).2.1]
