/-! ways: what can be reached, and rounds that prune -/
abbrev NB : Nat := 1073741824
/-- by a walk from where one is -/
def Wk (ns most : Nat) (far : Nat → Nat → Nat) (A : Nat → Nat → Nat → Prop) (o w t : Nat) : Prop := ∃ s w' t0, s < ns ∧ A s w' t0 ∧ w' + far s o = w ∧ w ≤ most ∧ t = t0 + far s o
/-- after r rides -/
def Arr (ns most : Nat) (far : Nat → Nat → Nat) (RR : Nat → Nat → Nat → Nat → Prop) (s0 st0 : Nat) : Nat → Nat → Nat → Nat → Prop
  | 0, s, w, t => s = s0 ∧ w = 0 ∧ t = st0
  | r + 1, s, w, t => ∃ s1 u, s1 < ns ∧ Wk ns most far (Arr ns most far RR s0 st0 r) s1 w u ∧ RR s1 u s t
def Brr (ns most : Nat) (far : Nat → Nat → Nat) (RR : Nat → Nat → Nat → Nat → Prop) (s0 st0 r o w t : Nat) : Prop := Wk ns most far (Arr ns most far RR s0 st0 r) o w t
def Cov (so : Nat → Nat → Nat) (bb s w t : Nat) : Prop := (∃ w', w' ≤ w ∧ so s w' ≤ t) ∨ bb ≤ t
theorem Cov.up {so : Nat → Nat → Nat} {bb s w t w2 t2 : Nat} (h : Cov so bb s w t) (hw : w ≤ w2) (ht : t ≤ t2) : Cov so bb s w2 t2 := by
  rcases h with ⟨w', h1, h2⟩ | h
  · exact Or.inl ⟨w', by omega, by omega⟩
  · exact Or.inr (by omega)
theorem Cov.mo {so so' : Nat → Nat → Nat} {bb bb' s w t : Nat} (h : Cov so bb s w t) (hw : ∀ w', w' ≤ w → so' s w' ≤ so s w') (hb : bb' ≤ bb) : Cov so' bb' s w t := by
  rcases h with ⟨w', h1, h2⟩ | h
  · exact Or.inl ⟨w', h1, by have := hw w' h1; omega⟩
  · exact Or.inr (by omega)
/-- first least arrival of the rounds before r -/
def Lx (most d : Nat) (Br : Nat → Nat → Nat → Nat → Prop) (r bb rd wk : Nat) : Prop :=
  (bb = NB ∧ ∀ r' w t, r' < r → w ≤ most → ¬ Br r' d w t) ∨ (bb < NB ∧ rd < r ∧ wk ≤ most ∧ Br rd d wk bb ∧ ∀ r' w t, r' < r → w ≤ most → Br r' d w t → bb ≤ t ∧ (t = bb → rd < r' ∨ (rd = r' ∧ wk ≤ w)))
/-- what is struck out is dominated -/
def Thn (ns most : Nat) (so : Nat → Nat → Nat) (bb : Nat) (A A1 : Nat → Nat → Nat) : Prop :=
  (∀ s w, s < ns → w ≤ most → A1 s w = NB ∨ (A1 s w = A s w ∧ A1 s w < NB ∧ A1 s w < bb ∧ A1 s w < so s w)) ∧
  ∀ s w, s < ns → w ≤ most → A s w < NB → (∃ w', w' ≤ w ∧ A1 s w' ≤ A s w) ∨ Cov so bb s w (A s w)
def Wlk (ns most : Nat) (far : Nat → Nat → Nat) (A R : Nat → Nat → Nat) : Prop :=
  (∀ s w o, s < ns → o < ns → w + far s o ≤ most → A s w < NB → R o (w + far s o) ≤ A s w + far s o) ∧
  ∀ o w, o < ns → w ≤ most → R o w = NB ∨ ∃ s w', s < ns ∧ w' + far s o = w ∧ A s w' < NB ∧ R o w = A s w' + far s o
def Nte (most d r : Nat) (R : Nat → Nat → Nat) (bb rd wk bb' rd' wk' : Nat) : Prop :=
  (bb' = bb ∧ rd' = rd ∧ wk' = wk ∧ ∀ w, w ≤ most → bb ≤ R d w) ∨ (rd' = r ∧ wk' ≤ most ∧ bb' = R d wk' ∧ bb' < bb ∧ (∀ w, w ≤ most → bb' ≤ R d w) ∧ ∀ w, w < wk' → bb' < R d w)
def Rem (ns most : Nat) (R so so' : Nat → Nat → Nat) : Prop := ∀ s w, s < ns → w ≤ most → so' s w = if R s w = NB then so s w else R s w
def Rde (ns most : Nat) (RR : Nat → Nat → Nat → Nat → Prop) (R A' : Nat → Nat → Nat) : Prop :=
  (∀ s w s' t, s < ns → s' < ns → w ≤ most → R s w < NB → RR s (R s w) s' t → A' s' w ≤ t) ∧
  ∀ s' w, s' < ns → w ≤ most → A' s' w = NB ∨ ∃ s, s < ns ∧ R s w < NB ∧ RR s (R s w) s' (A' s' w)
def RI (ns most : Nat) (far : Nat → Nat → Nat) (RR : Nat → Nat → Nat → Nat → Prop) (s0 st0 d r : Nat) (A so : Nat → Nat → Nat) (bb rd wk : Nat) : Prop :=
  (∀ s w, s < ns → w ≤ most → A s w = NB ∨ (A s w ≤ 1700 ∧ Arr ns most far RR s0 st0 r s w (A s w))) ∧
  (∀ s w t, s < ns → w ≤ most → Arr ns most far RR s0 st0 r s w t → (∃ w', w' ≤ w ∧ A s w' ≤ t) ∨ Cov so bb s w t) ∧
  (∀ s w, s < ns → w ≤ most → so s w < NB → ∀ o, o < ns → w + far s o ≤ most → Cov so bb o (w + far s o) (so s w + far s o)) ∧
  (∀ s w, s < ns → w ≤ most → so s w < NB → ∀ s' t, s' < ns → RR s (so s w) s' t → (∃ w', w' ≤ w ∧ A s' w' ≤ t) ∨ Cov so bb s' w t) ∧
  (∀ w, w ≤ most → bb ≤ so d w) ∧ Lx most d (Brr ns most far RR s0 st0) r bb rd wk
/-- what both say of a net: walks are a metric, buses keep their order -/
def Net (ns most : Nat) (far : Nat → Nat → Nat) (RR : Nat → Nat → Nat → Nat → Prop) : Prop :=
  most ≤ 30 ∧ (∀ s, far s s = 0) ∧ (∀ a b c, far a c ≤ far a b + far b c) ∧ (∀ s u s' t, RR s u s' t → u ≤ t ∧ t ≤ 1700 ∧ s' < ns) ∧ ∀ s u s' t u', RR s u s' t → u' ≤ u → ∃ t', t' ≤ t ∧ RR s u' s' t'
theorem rnd_b {ns most : Nat} {far : Nat → Nat → Nat} {RR : Nat → Nat → Nat → Nat → Prop} {s0 st0 d r : Nat} {A so A1 R R1 so' : Nat → Nat → Nat} {bb rd wk : Nat} (N : Net ns most far RR) (h : RI ns most far RR s0 st0 d r A so bb rd wk) (h1 : Thn ns most so bb A A1) (h2 : Wlk ns most far A1 R) (h3 : Thn ns most so bb R R1) (h4 : Rem ns most R1 so so') :
    (∀ s w, s < ns → w ≤ most → so' s w ≤ so s w) ∧
    (∀ s w o, s < ns → o < ns → w + far s o ≤ most → A1 s w < NB → Cov so' bb o (w + far s o) (A1 s w + far s o)) ∧
    (∀ s w t, s < ns → w ≤ most → t < NB → (∃ w', w' ≤ w ∧ A s w' ≤ t) → (∃ w', w' ≤ w ∧ A1 s w' ≤ t) ∨ Cov so bb s w t) ∧
    (∀ s w, s < ns → w ≤ most → so' s w < NB → ∀ o, o < ns → w + far s o ≤ most → Cov so' bb o (w + far s o) (so' s w + far s o)) ∧
    (∀ o w t, o < ns → w ≤ most → t < NB → Brr ns most far RR s0 st0 r o w t → Cov so' bb o w t) ∧
    (∀ s w, s < ns → w ≤ most → R1 s w = NB ∨ (R1 s w ≤ 1730 ∧ Brr ns most far RR s0 st0 r s w (R1 s w))) := by
  obtain ⟨N1, N2, N3, N4, N5⟩ := N
  obtain ⟨iS, iP, i1, i2, i5, iL⟩ := h
  have hso : ∀ s w, s < ns → w ≤ most → so' s w ≤ so s w := by
    intro s w hs hw
    rw [h4 s w hs hw]
    split
    · exact Nat.le_refl _
    · rename_i q
      rcases h3.1 s w hs hw with z | ⟨z1, z2, z3, z4⟩
      · exact absurd z q
      · omega
  have hmo : ∀ o w t, o < ns → w ≤ most → Cov so bb o w t → Cov so' bb o w t := fun o w t ho hw hc => hc.mo (fun w' hw' => hso o w' ho (by omega)) (Nat.le_refl _)
  have hA : ∀ s w, s < ns → w ≤ most → A1 s w < NB → A1 s w = A s w ∧ A s w ≤ 1700 ∧ Arr ns most far RR s0 st0 r s w (A s w) := by
    intro s w hs hw hlt
    rcases h1.1 s w hs hw with z | ⟨z1, z2, z3, z4⟩
    · omega
    · rcases iS s w hs hw with y | ⟨y1, y2⟩
      · omega
      · exact ⟨z1, y1, y2⟩
  have hd : ∀ s w o, s < ns → o < ns → w + far s o ≤ most → A1 s w < NB → Cov so' bb o (w + far s o) (A1 s w + far s o) := by
    intro s w o hs ho hw hlt
    obtain ⟨a1, a2, a3⟩ := hA s w hs (by omega) hlt
    have hR := h2.1 s w o hs ho hw hlt
    rcases h3.2 o (w + far s o) ho hw (by simp only [NB] at *; omega) with ⟨w', y1, y2⟩ | y
    · refine Or.inl ⟨w', y1, ?_⟩
      rw [h4 o w' ho (by omega)]
      rw [if_neg (by simp only [NB] at *; omega)]
      omega
    · exact (hmo o _ _ ho hw y).up (Nat.le_refl _) hR
  have hc : ∀ s w t, s < ns → w ≤ most → t < NB → (∃ w', w' ≤ w ∧ A s w' ≤ t) → (∃ w', w' ≤ w ∧ A1 s w' ≤ t) ∨ Cov so bb s w t := by
    rintro s w t hs hw ht ⟨w', y1, y2⟩
    rcases h1.2 s w' hs (by omega) (by omega) with ⟨w2, z1, z2⟩ | z
    · exact Or.inl ⟨w2, by omega, by omega⟩
    · exact Or.inr (z.up y1 y2)
  have hprov : ∀ o w, o < ns → w ≤ most → R1 o w < NB → ∃ s w', s < ns ∧ w' + far s o = w ∧ A1 s w' < NB ∧ R1 o w = A1 s w' + far s o := by
    intro o w ho hw hlt
    rcases h3.1 o w ho hw with z | ⟨z1, z2, z3, z4⟩
    · omega
    · rcases h2.2 o w ho hw with y | ⟨s, w', y1, y2, y3, y4⟩
      · omega
      · exact ⟨s, w', y1, y2, y3, by omega⟩
  have hi1 : ∀ s w, s < ns → w ≤ most → so' s w < NB → ∀ o, o < ns → w + far s o ≤ most → Cov so' bb o (w + far s o) (so' s w + far s o) := by
    intro s w hs hw hlt o ho hwo
    have e := h4 s w hs hw
    by_cases q : R1 s w = NB
    · rw [if_pos q] at e
      rw [e] at hlt ⊢
      exact hmo _ _ _ ho hwo (i1 s w hs hw hlt o ho hwo)
    · rw [if_neg q] at e
      have hR : R1 s w < NB := by omega
      obtain ⟨s2, w2, y1, y2, y3, y4⟩ := hprov s w hs hw hR
      have tri := N3 s2 s o
      exact (hd s2 w2 o y1 ho (by omega) y3).up (by omega) (by omega)
  refine ⟨hso, hd, hc, hi1, ?_, ?_⟩
  · rintro o w t ho hw ht ⟨s, w', t0, b1, b2, b3, b4, b5⟩
    have key : (∃ w'', w'' ≤ w' ∧ A1 s w'' ≤ t0) ∨ Cov so bb s w' t0 := by
      rcases iP s w' t0 b1 (by omega) b2 with z | z
      · exact hc s w' t0 b1 (by omega) (by omega) z
      · exact Or.inr z
    rcases key with ⟨w'', z1, z2⟩ | ⟨w'', z1, z2⟩ | z
    · exact (hd s w'' o b1 ho (by omega) (by omega)).up (by omega) (by omega)
    · exact (hmo _ _ _ ho (by omega) (i1 s w'' b1 (by omega) (by omega) o ho (by omega))).up (by omega) (by omega)
    · exact Or.inr (by omega)
  · intro s w hs hw
    by_cases q : R1 s w = NB
    · exact Or.inl q
    · have hlt : R1 s w < NB := by
        rcases h3.1 s w hs hw with z | ⟨z1, z2, z3, z4⟩
        · exact absurd z q
        · exact z2
      obtain ⟨s2, w2, y1, y2, y3, y4⟩ := hprov s w hs hw hlt
      obtain ⟨a1, a2, a3⟩ := hA s2 w2 y1 (by omega) y3
      refine Or.inr ⟨by omega, s2, w2, A s2 w2, y1, a3, y2, hw, by omega⟩
theorem rnd_lex {ns most : Nat} {far : Nat → Nat → Nat} {RR : Nat → Nat → Nat → Nat → Prop} {s0 st0 d r : Nat} {A so A1 R R1 so' : Nat → Nat → Nat} {bb rd wk bb' rd' wk' : Nat} (hd : d < ns) (N : Net ns most far RR) (hst : st0 ≤ 1700) (h : RI ns most far RR s0 st0 d r A so bb rd wk) (h1 : Thn ns most so bb A A1) (h2 : Wlk ns most far A1 R) (h3 : Thn ns most so bb R R1) (h4 : Rem ns most R1 so so') (h5 : Nte most d r R1 bb rd wk bb' rd' wk') :
    bb' ≤ bb ∧ (∀ w, w ≤ most → bb' ≤ so' d w) ∧ Lx most d (Brr ns most far RR s0 st0) (r + 1) bb' rd' wk' := by
  obtain ⟨b1, b2, b3, b4, b5, b6⟩ := rnd_b N h h1 h2 h3 h4
  obtain ⟨N1, N2, N3, N4, N5⟩ := N
  obtain ⟨iS, iP, i1, i2, i5, iL⟩ := h
  have tb : ∀ r w t, Brr ns most far RR s0 st0 r d w t → t < NB := by
    rintro r w t ⟨s, w', t0, c1, c2, c3, c4, c5⟩
    have : t0 ≤ 1700 := by
      cases r with
      | zero => have := c2.2.2; omega
      | succ r =>
        obtain ⟨s1, u, -, -, c6⟩ := c2
        exact (N4 _ _ _ _ c6).2.1
    simp only [NB]
    omega
  have hbb : bb' ≤ bb ∧ ∀ w, w ≤ most → bb' ≤ R1 d w := by
    rcases h5 with ⟨e1, -, -, e4⟩ | ⟨-, -, -, e4, e5, -⟩
    · rw [e1]; exact ⟨Nat.le_refl _, e4⟩
    · exact ⟨by omega, e5⟩
  have hso : ∀ w, w ≤ most → bb' ≤ so' d w := by
    intro w hw
    rw [h4 d w hd hw]
    split
    · have := i5 w hw; omega
    · exact hbb.2 w hw
  have hall : ∀ w t, w ≤ most → Brr ns most far RR s0 st0 r d w t → bb' ≤ t := by
    intro w t hw hB
    rcases b5 d w t hd hw (tb r w t hB) hB with ⟨w', z1, z2⟩ | z
    · have := hso w' (by omega); omega
    · omega
  refine ⟨hbb.1, hso, ?_⟩
  rcases h5 with ⟨e1, e2, e3, e4⟩ | ⟨e1, e2, e3, e4, e5, e6⟩
  · subst e1 e2 e3
    rcases iL with ⟨y1, y2⟩ | ⟨y1, y2, y3, y4, y5⟩
    · left
      refine ⟨y1, fun r' w t hr hw hB => ?_⟩
      by_cases q : r' = r
      · subst q
        have := hall w t hw hB
        have := tb _ _ _ hB
        omega
      · exact y2 r' w t (by omega) hw hB
    · right
      refine ⟨y1, by omega, y3, y4, fun r' w t hr hw hB => ?_⟩
      by_cases q : r' = r
      · subst q
        exact ⟨hall w t hw hB, fun _ => Or.inl y2⟩
      · exact y5 r' w t (by omega) hw hB
  · have hlt : bb ≤ NB := by
      rcases iL with ⟨y1, y2⟩ | ⟨y1, _⟩ <;> omega
    have hR : R1 d wk' < NB := by omega
    have hB : Brr ns most far RR s0 st0 r d wk' bb' := by
      rcases b6 d wk' hd e2 with z | ⟨z1, z2⟩
      · omega
      · rw [e3]; exact z2
    right
    refine ⟨by omega, by omega, e2, by rw [e1]; exact hB, fun r' w t hr hw hBt => ?_⟩
    by_cases q : r' = r
    · subst q
      refine ⟨hall w t hw hBt, fun et => Or.inr ⟨e1, ?_⟩⟩
      subst et
      rcases b5 d w t hd hw (tb _ _ _ hBt) hBt with ⟨w', z1, z2⟩ | z
      · by_cases q2 : wk' ≤ w
        · exact q2
        · exfalso
          have hw' : w' ≤ most := by omega
          have e := h4 d w' hd hw'
          by_cases q3 : R1 d w' = NB
          · rw [if_pos q3] at e
            have := i5 w' hw'
            omega
          · rw [if_neg q3] at e
            have := e6 w' (by omega)
            omega
      · omega
    · rcases iL with ⟨y1, y2⟩ | ⟨y1, y2, y3, y4, y5⟩
      · exact absurd hBt (y2 r' w t (by omega) hw)
      · have := (y5 r' w t (by omega) hw hBt).1
        exact ⟨by omega, fun z => by omega⟩
theorem rnd_next {ns most : Nat} {far : Nat → Nat → Nat} {RR : Nat → Nat → Nat → Nat → Prop} {s0 st0 d r : Nat} {A so A1 R R1 so' A' : Nat → Nat → Nat} {bb rd wk bb' rd' wk' : Nat} (hd : d < ns) (N : Net ns most far RR) (hst : st0 ≤ 1700) (h : RI ns most far RR s0 st0 d r A so bb rd wk) (h1 : Thn ns most so bb A A1) (h2 : Wlk ns most far A1 R) (h3 : Thn ns most so bb R R1) (h4 : Rem ns most R1 so so') (h5 : Nte most d r R1 bb rd wk bb' rd' wk') (h6 : Rde ns most RR R1 A') :
    RI ns most far RR s0 st0 d (r + 1) A' so' bb' rd' wk' := by
  obtain ⟨l1, l2, l3⟩ := rnd_lex hd N hst h h1 h2 h3 h4 h5
  obtain ⟨b1, b2, b3, b4, b5, b6⟩ := rnd_b N h h1 h2 h3 h4
  obtain ⟨N1, N2, N3, N4, N5⟩ := N
  obtain ⟨iS, iP, i1, i2, i5, iL⟩ := h
  have hmo : ∀ o w t, o < ns → w ≤ most → Cov so bb o w t → Cov so' bb' o w t := fun o w t ho hw hc => hc.mo (fun w' hw' => b1 o w' ho (by omega)) l1
  have hm2 : ∀ o w t, Cov so' bb o w t → Cov so' bb' o w t := fun o w t hc => hc.mo (fun w' hw' => Nat.le_refl _) l1
  have k2 : ∀ s w, s < ns → w ≤ most → so' s w < NB → ∀ s' t, s' < ns → RR s (so' s w) s' t → (∃ w', w' ≤ w ∧ A' s' w' ≤ t) ∨ Cov so' bb' s' w t := by
    intro s w hs hw hlt s' t hs' hr
    have e := h4 s w hs hw
    have ht := (N4 _ _ _ _ hr).2.1
    by_cases q : R1 s w = NB
    · rw [if_pos q] at e
      rw [e] at hlt hr
      have h0 := N2 s'
      rcases i2 s w hs hw hlt s' t hs' hr with z | z
      · rcases b3 s' w t hs' hw (by simp only [NB]; omega) z with ⟨w', z1, z2⟩ | z
        · have := b2 s' w' s' hs' hs' (by omega) (by simp only [NB]; omega)
          exact Or.inr (hm2 _ _ _ (this.up (by omega) (by omega)))
        · exact Or.inr (hmo _ _ _ hs' hw z)
      · exact Or.inr (hmo _ _ _ hs' hw z)
    · rw [if_neg q] at e
      rw [e] at hlt hr
      exact Or.inl ⟨w, Nat.le_refl _, h6.1 s w s' t hs hs' hw hlt hr⟩
  refine ⟨fun s w hs hw => ?_, fun s w t hs hw ha => ?_, fun s w hs hw hlt o ho hwo => hm2 _ _ _ (b4 s w hs hw hlt o ho hwo), k2, l2, l3⟩
  · rcases h6.2 s w hs hw with z | ⟨s1, z1, z2, z3⟩
    · exact Or.inl z
    · refine Or.inr ⟨(N4 _ _ _ _ z3).2.1, s1, R1 s1 w, z1, ?_, z3⟩
      rcases b6 s1 w z1 hw with y | ⟨y1, y2⟩
      · omega
      · exact y2
  · obtain ⟨s1, u, c1, c2, c3⟩ := ha
    obtain ⟨c4, c5, c6⟩ := N4 _ _ _ _ c3
    rcases b5 s1 w u c1 hw (by simp only [NB]; omega) c2 with ⟨w', z1, z2⟩ | z
    · obtain ⟨t', y1, y2⟩ := N5 _ _ _ _ _ c3 z2
      rcases k2 s1 w' c1 (by omega) (by simp only [NB]; omega) s t' hs y2 with ⟨w2, x1, x2⟩ | x
      · exact Or.inl ⟨w2, by omega, by omega⟩
      · exact Or.inr (x.up z1 y1)
    · exact Or.inr (Or.inr (by omega))
