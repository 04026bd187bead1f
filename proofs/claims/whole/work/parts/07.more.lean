/-! more rows: names for values, places of locals, calls that make nothing, checks by program -/
abbrev lt {α β : Type} (a : α) (k : α → β) : β := k a
section
variable {ρ : Type} {E : EV} {Y : MI} {En : List Frame → Array Value → State → ρ → State → Prop} {S : Sk} {I : II} {cs : Nat × Nat} {pc : Nat} {L : List (Nat × LV)} {st st0 : List LV} {g : Option ρ}
theorem g_ltI {e : II} {k : II → Option ρ} (h : ∀ J, J = e → GG E Y En S J cs pc L st (k J)) : GG E Y En S e cs pc L st (lt e k) := h e rfl
theorem g_ltS {e : Sk} {k : Sk → Option ρ} (h : ∀ J, J = e → GG E Y En J I cs pc L st (k J)) : GG E Y En e I cs pc L st (lt e k) := h e rfl
theorem g_ltV {e : Int32} {k : Int32 → Option ρ} (h : ∀ x, x = e → GG E Y En S I cs pc L (vI x :: st) (k x)) : GG E Y En S I cs pc L (vI e :: st) (lt e k) := h e rfl
theorem g_Lp {L' : List (Nat × LV)} (ks : List Nat) (hk : ks.filterMap (fun k => L[k]?) = L') (k : GG E Y En S I cs pc L' st g) : GG E Y En S I cs pc L st g :=
  g_L (fun q hq => by rw [← hk] at hq; obtain ⟨i, -, hi⟩ := List.mem_filterMap.mp hq; exact List.mem_of_getElem? hi) k
def CS0 (own : String) (idx : Nat) (y : MethodName) (Y' : MI) (n : Nat) : Prop := LkB own idx y Y' n ∧ Cond.static y ∈ lw_good
def CN0 (own : String) (idx : Nat) (y : MethodName) (host : String) (Y' : MI) (n : Nat) : Prop := LkN own idx y host Y' n ∧ Cond.static y ∈ lw_good
def CV0 (own : String) (idx : Nat) (y : MethodName) (Y' : MI) (n ci : Nat) : Prop := LkB own idx y Y' n ∧ (Cond.instanceMethod y ∈ lw_good ∧ Cond.selects y.cls y y ∈ lw_good) ∧ (vwCl[ci]?).map (·.1) = some y.cls ∧ ci < 12
abbrev rmZ (R R' : Room) (nL : Nat) (cs : Nat × Nat) : Prop := (R'.frames + 1 ≤ R.frames ∧ 8 + (nL + 11) + R'.locals ≤ R.locals) ∧ (R'.cells = 0 ∧ R'.slots = 0) ∧ cs.1 ≤ R.cells ∧ cs.2 ≤ R.slots
theorem rmZ_ok {R R' : Room} {nL : Nat} {cs : Nat × Nat} (h : rmZ R R' nL cs) : rmOK R R' nL cs := ⟨h.1, by rw [h.2.1.1]; exact h.2.2.1, by rw [h.2.1.2]; exact h.2.2.2⟩
theorem rmZ_cs {R R' : Room} {nL : Nat} {c0 : Nat × Nat} (h : rmZ R R' nL c0) : (c0.1 + R'.cells, c0.2 + R'.slots) = c0 := by rw [h.2.1.1, h.2.1.2]; rfl
/-- calls that leave the references as they are -/
theorem h_callS {idx n : Nat} {y : MethodName} {Y' : MI} {av : List LV} {ov : Option LV} {J : II} (hM : MX E y Y' S I av (ov, S, J)) (hl : CS0 Y.1 idx y Y' n) (hn : av.length = n) (hst : st0 = av.reverse ++ st) (hrm : rmZ Y.2.2.2.2.2 Y'.2.2.2.2.2 Y'.2.2.1 cs) (hw : wid st ≤ 8) (hd : decode Y.2.1 pc = .ok (.invokestatic idx, 3))
    (kk : GG E Y En S J cs (pc + 3) L (ov.toList ++ st) g) : GG E Y En S I cs pc L st0 g :=
  g_callS hM hl.1 hl.2 hn hst (rmZ_ok hrm) hw hd (fun _ _ => by rw [rmZ_cs hrm]; exact kk)
theorem h_callSN {idx n : Nat} {y : MethodName} {host : String} {Y' : MI} {av : List LV} {ov : Option LV} {J : II} (hM : MX E y Y' S I av (ov, S, J)) (hl : CN0 Y.1 idx y host Y' n) (hn : av.length = n) (hst : st0 = av.reverse ++ st) (hrm : rmZ Y.2.2.2.2.2 Y'.2.2.2.2.2 Y'.2.2.1 cs) (hw : wid st ≤ 8) (hd : decode Y.2.1 pc = .ok (.invokestatic idx, 3))
    (kk : GG E Y En S J cs (pc + 3) L (ov.toList ++ st) g) : GG E Y En S I cs pc L st0 g :=
  g_callSN hM hl.1 hl.2 hn hst (rmZ_ok hrm) hw hd (fun _ _ => by rw [rmZ_cs hrm]; exact kk)
theorem h_callVt {idx n a ci : Nat} {y : MethodName} {Y' : MI} {av : List LV} {ov : Option LV} {J : II} (hM : MX E y Y' S I (vA (a + 1) :: av) (ov, S, J)) (hl : CV0 Y.1 idx y Y' n ci) (ht : tyO S ci a) (hn : av.length = n) (hst : st0 = av.reverse ++ vA (a + 1) :: st) (hrm : rmZ Y.2.2.2.2.2 Y'.2.2.2.2.2 Y'.2.2.1 cs) (hw : wid st ≤ 8) (hd : decode Y.2.1 pc = .ok (.invokevirtual idx, 3))
    (kk : GG E Y En S J cs (pc + 3) L (ov.toList ++ st) g) : GG E Y En S I cs pc L st0 g :=
  g_callVt hM hl.1 hl.2.1 hl.2.2.1 hl.2.2.2 ht hn hst (rmZ_ok hrm) hw hd (fun _ _ => by rw [rmZ_cs hrm]; exact kk)
theorem h_callV {idx n x ci : Nat} {y : MethodName} {Y' : MI} {av : List LV} {ov : Option LV} {J : II} (hM : MX E y Y' S I (vA (x - 1 + 1) :: av) (ov, S, J)) (hl : CV0 Y.1 idx y Y' n ci) (ht : tyR S ci x) (hx : x ≠ 0) (hn : av.length = n) (hst : st0 = av.reverse ++ vA x :: st) (hrm : rmZ Y.2.2.2.2.2 Y'.2.2.2.2.2 Y'.2.2.1 cs) (hw : wid st ≤ 8) (hd : decode Y.2.1 pc = .ok (.invokevirtual idx, 3))
    (kk : GG E Y En S J cs (pc + 3) L (ov.toList ++ st) g) : GG E Y En S I cs pc L st0 g := by
  cases x with
  | zero => exact absurd rfl hx
  | succ a => exact h_callVt hM hl (ht.nz hx) hn hst hrm hw hd kk
theorem h_callVtA {idx n a ci v t : Nat} {y : MethodName} {Y' : MI} {av : List LV} {J : II} (hM : MX E y Y' S I (vA (a + 1) :: av) (some (vA v), S, J)) (htg : rtag Y'.2.2.2.1 = t) (hl : CV0 Y.1 idx y Y' n ci) (ht : tyO S ci a) (hn : av.length = n) (hst : st0 = av.reverse ++ vA (a + 1) :: st) (hrm : rmZ Y.2.2.2.2.2 Y'.2.2.2.2.2 Y'.2.2.1 cs) (hw : wid st ≤ 8) (hd : decode Y.2.1 pc = .ok (.invokevirtual idx, 3))
    (kk : tyR S t v → GG E Y En S J cs (pc + 3) L (vA v :: st) g) : GG E Y En S I cs pc L st0 g :=
  g_callVt hM hl.1 hl.2.1 hl.2.2.1 hl.2.2.2 ht hn hst (rmZ_ok hrm) hw hd (fun _ h => by rw [rmZ_cs hrm]; exact kk (htg ▸ h))
theorem h_callVA {idx n x ci v t : Nat} {y : MethodName} {Y' : MI} {av : List LV} {J : II} (hM : MX E y Y' S I (vA (x - 1 + 1) :: av) (some (vA v), S, J)) (htg : rtag Y'.2.2.2.1 = t) (hl : CV0 Y.1 idx y Y' n ci) (ht : tyR S ci x) (hx : x ≠ 0) (hn : av.length = n) (hst : st0 = av.reverse ++ vA x :: st) (hrm : rmZ Y.2.2.2.2.2 Y'.2.2.2.2.2 Y'.2.2.1 cs) (hw : wid st ≤ 8) (hd : decode Y.2.1 pc = .ok (.invokevirtual idx, 3))
    (kk : tyR S t v → GG E Y En S J cs (pc + 3) L (vA v :: st) g) : GG E Y En S I cs pc L st0 g := by
  cases x with
  | zero => exact absurd rfl hx
  | succ a => exact h_callVtA hM htg hl (ht.nz hx) hn hst hrm hw hd kk
theorem g_callV' {idx n x ci : Nat} {y : MethodName} {Y' : MI} {av : List LV} {out : Option LV × Sk × II} (hM : MX E y Y' S I (vA (x - 1 + 1) :: av) out) (hl : LkB Y.1 idx y Y' n) (hs : Cond.instanceMethod y ∈ lw_good ∧ Cond.selects y.cls y y ∈ lw_good) (hc : (vwCl[ci]?).map (·.1) = some y.cls) (hc12 : ci < 12) (ht : tyR S ci x) (hx : x ≠ 0) (hn : av.length = n) (hst : st0 = av.reverse ++ vA x :: st) (hrm : rmOK Y.2.2.2.2.2 Y'.2.2.2.2.2 Y'.2.2.1 cs) (hw : wid st ≤ 8) (hd : decode Y.2.1 pc = .ok (.invokevirtual idx, 3))
    (kk : Sx S out.2.1 → tyV out.2.1 (rtag Y'.2.2.2.1) out.1 → GG E Y En out.2.1 out.2.2 (cs.1 + Y'.2.2.2.2.2.cells, cs.2 + Y'.2.2.2.2.2.slots) (pc + 3) L (out.1.toList ++ st) g) : GG E Y En S I cs pc L st0 g := by
  cases x with
  | zero => exact absurd rfl hx
  | succ a => exact g_callVt hM hl hs hc hc12 (ht.nz hx) hn hst hrm hw hd kk
theorem g_none : GG E Y En S I cs pc L st none := fun r hr => by cases hr
end
theorem nar_b {v : Int32} (h : v = 0 ∨ v = 1) : narrow .boolean (.int v) = .int v := by rcases h with rfl | rfl <;> decide +kernel
theorem fit_b {v : Int32} (h : v = 0 ∨ v = 1) : fits .boolean (.int v) = true := by rcases h with rfl | rfl <;> decide +kernel
def tbOK (cc : ByteArray) (tb : List (Nat × Instr × Nat)) : Prop := ∀ q ∈ tb, decode cc q.1 = .ok (q.2.1, q.2.2)
theorem dk {cc : ByteArray} {tb : List (Nat × Instr × Nat)} (h : tbOK cc tb) (k : Nat) {pc n : Nat} {i : Instr} (hk : tb[k]? = some (pc, i, n)) : decode cc pc = .ok (i, n) :=
  h (pc, i, n) (List.mem_of_getElem? hk)
theorem tabOut {x : Int32} {n : Nat} (hn : n < 1000) (h : ∀ k, k < n → x ≠ nI k) : x.toInt < 0 ∨ (n : Int) - 1 < x.toInt := by
  by_cases h1 : x.toInt < 0
  · exact Or.inl h1
  · by_cases h2 : (n : Int) - 1 < x.toInt
    · exact Or.inr h2
    · exfalso
      refine h x.toInt.toNat (by omega) ?_
      apply Int32.toInt_inj.mp
      rw [nI_toInt (by omega)]
      omega
def fix1 {α1 ρ : Type} (F : (α1 → Option ρ) → α1 → Option ρ) : Nat → α1 → Option ρ
  | 0, _ => none
  | n + 1, a1 => F (fix1 F n) a1
theorem g_fix1 {α1 ρ : Type} {E : EV} {Y : MI} {En : List Frame → Array Value → State → ρ → State → Prop} {cs : Nat × Nat} {pc : Nat} {F : (α1 → Option ρ) → α1 → Option ρ} (cS : α1 → Sk) (cI : α1 → II) (cL : α1 → List (Nat × LV)) (inv : α1 → Prop)
    (h : ∀ self : α1 → Option ρ, (∀ b1, inv b1 → GG E Y En (cS b1) (cI b1) cs pc (cL b1) [] (self b1)) → ∀ a1, inv a1 → GG E Y En (cS a1) (cI a1) cs pc (cL a1) [] (F self a1)) : ∀ (n : Nat) a1, inv a1 → GG E Y En (cS a1) (cI a1) cs pc (cL a1) [] (fix1 F n a1) := by
  intro n
  induction n with
  | zero => intro a1 _ r hr; cases hr
  | succ n ih => intro a1 ha; exact h (fix1 F n) ih a1 ha
theorem g_fix1A {α1 ρ : Type} {E : EV} {Y : MI} {En : List Frame → Array Value → State → ρ → State → Prop} {pc qc qs CT CS : Nat} {F : (α1 → Option ρ) → α1 → Option ρ} (cS : α1 → Sk) (cI : α1 → II) (cL : α1 → List (Nat × LV)) (inv : α1 → Prop)
    (h : ∀ (n : Nat) (self : α1 → Option ρ), (∀ (c s : Nat), c + n * qc ≤ CT → s + n * qs ≤ CS → ∀ b1, inv b1 → GG E Y En (cS b1) (cI b1) (c, s) pc (cL b1) [] (self b1)) → ∀ (c s : Nat), c + (n + 1) * qc ≤ CT → s + (n + 1) * qs ≤ CS → ∀ a1, inv a1 → GG E Y En (cS a1) (cI a1) (c, s) pc (cL a1) [] (F self a1)) : ∀ (n c s : Nat), c + n * qc ≤ CT → s + n * qs ≤ CS → ∀ a1, inv a1 → GG E Y En (cS a1) (cI a1) (c, s) pc (cL a1) [] (fix1 F n a1) := by
  intro n
  induction n with
  | zero => intro c s _ _ a1 _ r hr; cases hr
  | succ n ih => intro c s h1 h2 a1 ha; exact h n (fix1 F n) ih c s h1 h2 a1 ha
def fix2 {α1 α2 ρ : Type} (F : (α1 → α2 → Option ρ) → α1 → α2 → Option ρ) : Nat → α1 → α2 → Option ρ
  | 0, _, _ => none
  | n + 1, a1, a2 => F (fix2 F n) a1 a2
theorem g_fix2 {α1 α2 ρ : Type} {E : EV} {Y : MI} {En : List Frame → Array Value → State → ρ → State → Prop} {cs : Nat × Nat} {pc : Nat} {F : (α1 → α2 → Option ρ) → α1 → α2 → Option ρ} (cS : α1 → α2 → Sk) (cI : α1 → α2 → II) (cL : α1 → α2 → List (Nat × LV)) (inv : α1 → α2 → Prop)
    (h : ∀ self : α1 → α2 → Option ρ, (∀ b1 b2, inv b1 b2 → GG E Y En (cS b1 b2) (cI b1 b2) cs pc (cL b1 b2) [] (self b1 b2)) → ∀ a1 a2, inv a1 a2 → GG E Y En (cS a1 a2) (cI a1 a2) cs pc (cL a1 a2) [] (F self a1 a2)) : ∀ (n : Nat) a1 a2, inv a1 a2 → GG E Y En (cS a1 a2) (cI a1 a2) cs pc (cL a1 a2) [] (fix2 F n a1 a2) := by
  intro n
  induction n with
  | zero => intro a1 a2 _ r hr; cases hr
  | succ n ih => intro a1 a2 ha; exact h (fix2 F n) ih a1 a2 ha
theorem g_fix2A {α1 α2 ρ : Type} {E : EV} {Y : MI} {En : List Frame → Array Value → State → ρ → State → Prop} {pc qc qs CT CS : Nat} {F : (α1 → α2 → Option ρ) → α1 → α2 → Option ρ} (cS : α1 → α2 → Sk) (cI : α1 → α2 → II) (cL : α1 → α2 → List (Nat × LV)) (inv : α1 → α2 → Prop)
    (h : ∀ (n : Nat) (self : α1 → α2 → Option ρ), (∀ (c s : Nat), c + n * qc ≤ CT → s + n * qs ≤ CS → ∀ b1 b2, inv b1 b2 → GG E Y En (cS b1 b2) (cI b1 b2) (c, s) pc (cL b1 b2) [] (self b1 b2)) → ∀ (c s : Nat), c + (n + 1) * qc ≤ CT → s + (n + 1) * qs ≤ CS → ∀ a1 a2, inv a1 a2 → GG E Y En (cS a1 a2) (cI a1 a2) (c, s) pc (cL a1 a2) [] (F self a1 a2)) : ∀ (n c s : Nat), c + n * qc ≤ CT → s + n * qs ≤ CS → ∀ a1 a2, inv a1 a2 → GG E Y En (cS a1 a2) (cI a1 a2) (c, s) pc (cL a1 a2) [] (fix2 F n a1 a2) := by
  intro n
  induction n with
  | zero => intro c s _ _ a1 a2 _ r hr; cases hr
  | succ n ih => intro c s h1 h2 a1 a2 ha; exact h n (fix2 F n) ih c s h1 h2 a1 a2 ha
def fix3 {α1 α2 α3 ρ : Type} (F : (α1 → α2 → α3 → Option ρ) → α1 → α2 → α3 → Option ρ) : Nat → α1 → α2 → α3 → Option ρ
  | 0, _, _, _ => none
  | n + 1, a1, a2, a3 => F (fix3 F n) a1 a2 a3
theorem g_fix3 {α1 α2 α3 ρ : Type} {E : EV} {Y : MI} {En : List Frame → Array Value → State → ρ → State → Prop} {cs : Nat × Nat} {pc : Nat} {F : (α1 → α2 → α3 → Option ρ) → α1 → α2 → α3 → Option ρ} (cS : α1 → α2 → α3 → Sk) (cI : α1 → α2 → α3 → II) (cL : α1 → α2 → α3 → List (Nat × LV)) (inv : α1 → α2 → α3 → Prop)
    (h : ∀ self : α1 → α2 → α3 → Option ρ, (∀ b1 b2 b3, inv b1 b2 b3 → GG E Y En (cS b1 b2 b3) (cI b1 b2 b3) cs pc (cL b1 b2 b3) [] (self b1 b2 b3)) → ∀ a1 a2 a3, inv a1 a2 a3 → GG E Y En (cS a1 a2 a3) (cI a1 a2 a3) cs pc (cL a1 a2 a3) [] (F self a1 a2 a3)) : ∀ (n : Nat) a1 a2 a3, inv a1 a2 a3 → GG E Y En (cS a1 a2 a3) (cI a1 a2 a3) cs pc (cL a1 a2 a3) [] (fix3 F n a1 a2 a3) := by
  intro n
  induction n with
  | zero => intro a1 a2 a3 _ r hr; cases hr
  | succ n ih => intro a1 a2 a3 ha; exact h (fix3 F n) ih a1 a2 a3 ha
theorem g_fix3A {α1 α2 α3 ρ : Type} {E : EV} {Y : MI} {En : List Frame → Array Value → State → ρ → State → Prop} {pc qc qs CT CS : Nat} {F : (α1 → α2 → α3 → Option ρ) → α1 → α2 → α3 → Option ρ} (cS : α1 → α2 → α3 → Sk) (cI : α1 → α2 → α3 → II) (cL : α1 → α2 → α3 → List (Nat × LV)) (inv : α1 → α2 → α3 → Prop)
    (h : ∀ (n : Nat) (self : α1 → α2 → α3 → Option ρ), (∀ (c s : Nat), c + n * qc ≤ CT → s + n * qs ≤ CS → ∀ b1 b2 b3, inv b1 b2 b3 → GG E Y En (cS b1 b2 b3) (cI b1 b2 b3) (c, s) pc (cL b1 b2 b3) [] (self b1 b2 b3)) → ∀ (c s : Nat), c + (n + 1) * qc ≤ CT → s + (n + 1) * qs ≤ CS → ∀ a1 a2 a3, inv a1 a2 a3 → GG E Y En (cS a1 a2 a3) (cI a1 a2 a3) (c, s) pc (cL a1 a2 a3) [] (F self a1 a2 a3)) : ∀ (n c s : Nat), c + n * qc ≤ CT → s + n * qs ≤ CS → ∀ a1 a2 a3, inv a1 a2 a3 → GG E Y En (cS a1 a2 a3) (cI a1 a2 a3) (c, s) pc (cL a1 a2 a3) [] (fix3 F n a1 a2 a3) := by
  intro n
  induction n with
  | zero => intro c s _ _ a1 a2 a3 _ r hr; cases hr
  | succ n ih => intro c s h1 h2 a1 a2 a3 ha; exact h n (fix3 F n) ih c s h1 h2 a1 a2 a3 ha
def fix4 {α1 α2 α3 α4 ρ : Type} (F : (α1 → α2 → α3 → α4 → Option ρ) → α1 → α2 → α3 → α4 → Option ρ) : Nat → α1 → α2 → α3 → α4 → Option ρ
  | 0, _, _, _, _ => none
  | n + 1, a1, a2, a3, a4 => F (fix4 F n) a1 a2 a3 a4
theorem g_fix4 {α1 α2 α3 α4 ρ : Type} {E : EV} {Y : MI} {En : List Frame → Array Value → State → ρ → State → Prop} {cs : Nat × Nat} {pc : Nat} {F : (α1 → α2 → α3 → α4 → Option ρ) → α1 → α2 → α3 → α4 → Option ρ} (cS : α1 → α2 → α3 → α4 → Sk) (cI : α1 → α2 → α3 → α4 → II) (cL : α1 → α2 → α3 → α4 → List (Nat × LV)) (inv : α1 → α2 → α3 → α4 → Prop)
    (h : ∀ self : α1 → α2 → α3 → α4 → Option ρ, (∀ b1 b2 b3 b4, inv b1 b2 b3 b4 → GG E Y En (cS b1 b2 b3 b4) (cI b1 b2 b3 b4) cs pc (cL b1 b2 b3 b4) [] (self b1 b2 b3 b4)) → ∀ a1 a2 a3 a4, inv a1 a2 a3 a4 → GG E Y En (cS a1 a2 a3 a4) (cI a1 a2 a3 a4) cs pc (cL a1 a2 a3 a4) [] (F self a1 a2 a3 a4)) : ∀ (n : Nat) a1 a2 a3 a4, inv a1 a2 a3 a4 → GG E Y En (cS a1 a2 a3 a4) (cI a1 a2 a3 a4) cs pc (cL a1 a2 a3 a4) [] (fix4 F n a1 a2 a3 a4) := by
  intro n
  induction n with
  | zero => intro a1 a2 a3 a4 _ r hr; cases hr
  | succ n ih => intro a1 a2 a3 a4 ha; exact h (fix4 F n) ih a1 a2 a3 a4 ha
theorem g_fix4A {α1 α2 α3 α4 ρ : Type} {E : EV} {Y : MI} {En : List Frame → Array Value → State → ρ → State → Prop} {pc qc qs CT CS : Nat} {F : (α1 → α2 → α3 → α4 → Option ρ) → α1 → α2 → α3 → α4 → Option ρ} (cS : α1 → α2 → α3 → α4 → Sk) (cI : α1 → α2 → α3 → α4 → II) (cL : α1 → α2 → α3 → α4 → List (Nat × LV)) (inv : α1 → α2 → α3 → α4 → Prop)
    (h : ∀ (n : Nat) (self : α1 → α2 → α3 → α4 → Option ρ), (∀ (c s : Nat), c + n * qc ≤ CT → s + n * qs ≤ CS → ∀ b1 b2 b3 b4, inv b1 b2 b3 b4 → GG E Y En (cS b1 b2 b3 b4) (cI b1 b2 b3 b4) (c, s) pc (cL b1 b2 b3 b4) [] (self b1 b2 b3 b4)) → ∀ (c s : Nat), c + (n + 1) * qc ≤ CT → s + (n + 1) * qs ≤ CS → ∀ a1 a2 a3 a4, inv a1 a2 a3 a4 → GG E Y En (cS a1 a2 a3 a4) (cI a1 a2 a3 a4) (c, s) pc (cL a1 a2 a3 a4) [] (F self a1 a2 a3 a4)) : ∀ (n c s : Nat), c + n * qc ≤ CT → s + n * qs ≤ CS → ∀ a1 a2 a3 a4, inv a1 a2 a3 a4 → GG E Y En (cS a1 a2 a3 a4) (cI a1 a2 a3 a4) (c, s) pc (cL a1 a2 a3 a4) [] (fix4 F n a1 a2 a3 a4) := by
  intro n
  induction n with
  | zero => intro c s _ _ a1 a2 a3 a4 _ r hr; cases hr
  | succ n ih => intro c s h1 h2 a1 a2 a3 a4 ha; exact h n (fix4 F n) ih c s h1 h2 a1 a2 a3 a4 ha
def fix5 {α1 α2 α3 α4 α5 ρ : Type} (F : (α1 → α2 → α3 → α4 → α5 → Option ρ) → α1 → α2 → α3 → α4 → α5 → Option ρ) : Nat → α1 → α2 → α3 → α4 → α5 → Option ρ
  | 0, _, _, _, _, _ => none
  | n + 1, a1, a2, a3, a4, a5 => F (fix5 F n) a1 a2 a3 a4 a5
theorem g_fix5 {α1 α2 α3 α4 α5 ρ : Type} {E : EV} {Y : MI} {En : List Frame → Array Value → State → ρ → State → Prop} {cs : Nat × Nat} {pc : Nat} {F : (α1 → α2 → α3 → α4 → α5 → Option ρ) → α1 → α2 → α3 → α4 → α5 → Option ρ} (cS : α1 → α2 → α3 → α4 → α5 → Sk) (cI : α1 → α2 → α3 → α4 → α5 → II) (cL : α1 → α2 → α3 → α4 → α5 → List (Nat × LV)) (inv : α1 → α2 → α3 → α4 → α5 → Prop)
    (h : ∀ self : α1 → α2 → α3 → α4 → α5 → Option ρ, (∀ b1 b2 b3 b4 b5, inv b1 b2 b3 b4 b5 → GG E Y En (cS b1 b2 b3 b4 b5) (cI b1 b2 b3 b4 b5) cs pc (cL b1 b2 b3 b4 b5) [] (self b1 b2 b3 b4 b5)) → ∀ a1 a2 a3 a4 a5, inv a1 a2 a3 a4 a5 → GG E Y En (cS a1 a2 a3 a4 a5) (cI a1 a2 a3 a4 a5) cs pc (cL a1 a2 a3 a4 a5) [] (F self a1 a2 a3 a4 a5)) : ∀ (n : Nat) a1 a2 a3 a4 a5, inv a1 a2 a3 a4 a5 → GG E Y En (cS a1 a2 a3 a4 a5) (cI a1 a2 a3 a4 a5) cs pc (cL a1 a2 a3 a4 a5) [] (fix5 F n a1 a2 a3 a4 a5) := by
  intro n
  induction n with
  | zero => intro a1 a2 a3 a4 a5 _ r hr; cases hr
  | succ n ih => intro a1 a2 a3 a4 a5 ha; exact h (fix5 F n) ih a1 a2 a3 a4 a5 ha
theorem g_fix5A {α1 α2 α3 α4 α5 ρ : Type} {E : EV} {Y : MI} {En : List Frame → Array Value → State → ρ → State → Prop} {pc qc qs CT CS : Nat} {F : (α1 → α2 → α3 → α4 → α5 → Option ρ) → α1 → α2 → α3 → α4 → α5 → Option ρ} (cS : α1 → α2 → α3 → α4 → α5 → Sk) (cI : α1 → α2 → α3 → α4 → α5 → II) (cL : α1 → α2 → α3 → α4 → α5 → List (Nat × LV)) (inv : α1 → α2 → α3 → α4 → α5 → Prop)
    (h : ∀ (n : Nat) (self : α1 → α2 → α3 → α4 → α5 → Option ρ), (∀ (c s : Nat), c + n * qc ≤ CT → s + n * qs ≤ CS → ∀ b1 b2 b3 b4 b5, inv b1 b2 b3 b4 b5 → GG E Y En (cS b1 b2 b3 b4 b5) (cI b1 b2 b3 b4 b5) (c, s) pc (cL b1 b2 b3 b4 b5) [] (self b1 b2 b3 b4 b5)) → ∀ (c s : Nat), c + (n + 1) * qc ≤ CT → s + (n + 1) * qs ≤ CS → ∀ a1 a2 a3 a4 a5, inv a1 a2 a3 a4 a5 → GG E Y En (cS a1 a2 a3 a4 a5) (cI a1 a2 a3 a4 a5) (c, s) pc (cL a1 a2 a3 a4 a5) [] (F self a1 a2 a3 a4 a5)) : ∀ (n c s : Nat), c + n * qc ≤ CT → s + n * qs ≤ CS → ∀ a1 a2 a3 a4 a5, inv a1 a2 a3 a4 a5 → GG E Y En (cS a1 a2 a3 a4 a5) (cI a1 a2 a3 a4 a5) (c, s) pc (cL a1 a2 a3 a4 a5) [] (fix5 F n a1 a2 a3 a4 a5) := by
  intro n
  induction n with
  | zero => intro c s _ _ a1 a2 a3 a4 a5 _ r hr; cases hr
  | succ n ih => intro c s h1 h2 a1 a2 a3 a4 a5 ha; exact h n (fix5 F n) ih c s h1 h2 a1 a2 a3 a4 a5 ha
def fix6 {α1 α2 α3 α4 α5 α6 ρ : Type} (F : (α1 → α2 → α3 → α4 → α5 → α6 → Option ρ) → α1 → α2 → α3 → α4 → α5 → α6 → Option ρ) : Nat → α1 → α2 → α3 → α4 → α5 → α6 → Option ρ
  | 0, _, _, _, _, _, _ => none
  | n + 1, a1, a2, a3, a4, a5, a6 => F (fix6 F n) a1 a2 a3 a4 a5 a6
theorem g_fix6 {α1 α2 α3 α4 α5 α6 ρ : Type} {E : EV} {Y : MI} {En : List Frame → Array Value → State → ρ → State → Prop} {cs : Nat × Nat} {pc : Nat} {F : (α1 → α2 → α3 → α4 → α5 → α6 → Option ρ) → α1 → α2 → α3 → α4 → α5 → α6 → Option ρ} (cS : α1 → α2 → α3 → α4 → α5 → α6 → Sk) (cI : α1 → α2 → α3 → α4 → α5 → α6 → II) (cL : α1 → α2 → α3 → α4 → α5 → α6 → List (Nat × LV)) (inv : α1 → α2 → α3 → α4 → α5 → α6 → Prop)
    (h : ∀ self : α1 → α2 → α3 → α4 → α5 → α6 → Option ρ, (∀ b1 b2 b3 b4 b5 b6, inv b1 b2 b3 b4 b5 b6 → GG E Y En (cS b1 b2 b3 b4 b5 b6) (cI b1 b2 b3 b4 b5 b6) cs pc (cL b1 b2 b3 b4 b5 b6) [] (self b1 b2 b3 b4 b5 b6)) → ∀ a1 a2 a3 a4 a5 a6, inv a1 a2 a3 a4 a5 a6 → GG E Y En (cS a1 a2 a3 a4 a5 a6) (cI a1 a2 a3 a4 a5 a6) cs pc (cL a1 a2 a3 a4 a5 a6) [] (F self a1 a2 a3 a4 a5 a6)) : ∀ (n : Nat) a1 a2 a3 a4 a5 a6, inv a1 a2 a3 a4 a5 a6 → GG E Y En (cS a1 a2 a3 a4 a5 a6) (cI a1 a2 a3 a4 a5 a6) cs pc (cL a1 a2 a3 a4 a5 a6) [] (fix6 F n a1 a2 a3 a4 a5 a6) := by
  intro n
  induction n with
  | zero => intro a1 a2 a3 a4 a5 a6 _ r hr; cases hr
  | succ n ih => intro a1 a2 a3 a4 a5 a6 ha; exact h (fix6 F n) ih a1 a2 a3 a4 a5 a6 ha
theorem g_fix6A {α1 α2 α3 α4 α5 α6 ρ : Type} {E : EV} {Y : MI} {En : List Frame → Array Value → State → ρ → State → Prop} {pc qc qs CT CS : Nat} {F : (α1 → α2 → α3 → α4 → α5 → α6 → Option ρ) → α1 → α2 → α3 → α4 → α5 → α6 → Option ρ} (cS : α1 → α2 → α3 → α4 → α5 → α6 → Sk) (cI : α1 → α2 → α3 → α4 → α5 → α6 → II) (cL : α1 → α2 → α3 → α4 → α5 → α6 → List (Nat × LV)) (inv : α1 → α2 → α3 → α4 → α5 → α6 → Prop)
    (h : ∀ (n : Nat) (self : α1 → α2 → α3 → α4 → α5 → α6 → Option ρ), (∀ (c s : Nat), c + n * qc ≤ CT → s + n * qs ≤ CS → ∀ b1 b2 b3 b4 b5 b6, inv b1 b2 b3 b4 b5 b6 → GG E Y En (cS b1 b2 b3 b4 b5 b6) (cI b1 b2 b3 b4 b5 b6) (c, s) pc (cL b1 b2 b3 b4 b5 b6) [] (self b1 b2 b3 b4 b5 b6)) → ∀ (c s : Nat), c + (n + 1) * qc ≤ CT → s + (n + 1) * qs ≤ CS → ∀ a1 a2 a3 a4 a5 a6, inv a1 a2 a3 a4 a5 a6 → GG E Y En (cS a1 a2 a3 a4 a5 a6) (cI a1 a2 a3 a4 a5 a6) (c, s) pc (cL a1 a2 a3 a4 a5 a6) [] (F self a1 a2 a3 a4 a5 a6)) : ∀ (n c s : Nat), c + n * qc ≤ CT → s + n * qs ≤ CS → ∀ a1 a2 a3 a4 a5 a6, inv a1 a2 a3 a4 a5 a6 → GG E Y En (cS a1 a2 a3 a4 a5 a6) (cI a1 a2 a3 a4 a5 a6) (c, s) pc (cL a1 a2 a3 a4 a5 a6) [] (fix6 F n a1 a2 a3 a4 a5 a6) := by
  intro n
  induction n with
  | zero => intro c s _ _ a1 a2 a3 a4 a5 a6 _ r hr; cases hr
  | succ n ih => intro c s h1 h2 a1 a2 a3 a4 a5 a6 ha; exact h n (fix6 F n) ih c s h1 h2 a1 a2 a3 a4 a5 a6 ha
def fix7 {α1 α2 α3 α4 α5 α6 α7 ρ : Type} (F : (α1 → α2 → α3 → α4 → α5 → α6 → α7 → Option ρ) → α1 → α2 → α3 → α4 → α5 → α6 → α7 → Option ρ) : Nat → α1 → α2 → α3 → α4 → α5 → α6 → α7 → Option ρ
  | 0, _, _, _, _, _, _, _ => none
  | n + 1, a1, a2, a3, a4, a5, a6, a7 => F (fix7 F n) a1 a2 a3 a4 a5 a6 a7
theorem g_fix7 {α1 α2 α3 α4 α5 α6 α7 ρ : Type} {E : EV} {Y : MI} {En : List Frame → Array Value → State → ρ → State → Prop} {cs : Nat × Nat} {pc : Nat} {F : (α1 → α2 → α3 → α4 → α5 → α6 → α7 → Option ρ) → α1 → α2 → α3 → α4 → α5 → α6 → α7 → Option ρ} (cS : α1 → α2 → α3 → α4 → α5 → α6 → α7 → Sk) (cI : α1 → α2 → α3 → α4 → α5 → α6 → α7 → II) (cL : α1 → α2 → α3 → α4 → α5 → α6 → α7 → List (Nat × LV)) (inv : α1 → α2 → α3 → α4 → α5 → α6 → α7 → Prop)
    (h : ∀ self : α1 → α2 → α3 → α4 → α5 → α6 → α7 → Option ρ, (∀ b1 b2 b3 b4 b5 b6 b7, inv b1 b2 b3 b4 b5 b6 b7 → GG E Y En (cS b1 b2 b3 b4 b5 b6 b7) (cI b1 b2 b3 b4 b5 b6 b7) cs pc (cL b1 b2 b3 b4 b5 b6 b7) [] (self b1 b2 b3 b4 b5 b6 b7)) → ∀ a1 a2 a3 a4 a5 a6 a7, inv a1 a2 a3 a4 a5 a6 a7 → GG E Y En (cS a1 a2 a3 a4 a5 a6 a7) (cI a1 a2 a3 a4 a5 a6 a7) cs pc (cL a1 a2 a3 a4 a5 a6 a7) [] (F self a1 a2 a3 a4 a5 a6 a7)) : ∀ (n : Nat) a1 a2 a3 a4 a5 a6 a7, inv a1 a2 a3 a4 a5 a6 a7 → GG E Y En (cS a1 a2 a3 a4 a5 a6 a7) (cI a1 a2 a3 a4 a5 a6 a7) cs pc (cL a1 a2 a3 a4 a5 a6 a7) [] (fix7 F n a1 a2 a3 a4 a5 a6 a7) := by
  intro n
  induction n with
  | zero => intro a1 a2 a3 a4 a5 a6 a7 _ r hr; cases hr
  | succ n ih => intro a1 a2 a3 a4 a5 a6 a7 ha; exact h (fix7 F n) ih a1 a2 a3 a4 a5 a6 a7 ha
theorem g_fix7A {α1 α2 α3 α4 α5 α6 α7 ρ : Type} {E : EV} {Y : MI} {En : List Frame → Array Value → State → ρ → State → Prop} {pc qc qs CT CS : Nat} {F : (α1 → α2 → α3 → α4 → α5 → α6 → α7 → Option ρ) → α1 → α2 → α3 → α4 → α5 → α6 → α7 → Option ρ} (cS : α1 → α2 → α3 → α4 → α5 → α6 → α7 → Sk) (cI : α1 → α2 → α3 → α4 → α5 → α6 → α7 → II) (cL : α1 → α2 → α3 → α4 → α5 → α6 → α7 → List (Nat × LV)) (inv : α1 → α2 → α3 → α4 → α5 → α6 → α7 → Prop)
    (h : ∀ (n : Nat) (self : α1 → α2 → α3 → α4 → α5 → α6 → α7 → Option ρ), (∀ (c s : Nat), c + n * qc ≤ CT → s + n * qs ≤ CS → ∀ b1 b2 b3 b4 b5 b6 b7, inv b1 b2 b3 b4 b5 b6 b7 → GG E Y En (cS b1 b2 b3 b4 b5 b6 b7) (cI b1 b2 b3 b4 b5 b6 b7) (c, s) pc (cL b1 b2 b3 b4 b5 b6 b7) [] (self b1 b2 b3 b4 b5 b6 b7)) → ∀ (c s : Nat), c + (n + 1) * qc ≤ CT → s + (n + 1) * qs ≤ CS → ∀ a1 a2 a3 a4 a5 a6 a7, inv a1 a2 a3 a4 a5 a6 a7 → GG E Y En (cS a1 a2 a3 a4 a5 a6 a7) (cI a1 a2 a3 a4 a5 a6 a7) (c, s) pc (cL a1 a2 a3 a4 a5 a6 a7) [] (F self a1 a2 a3 a4 a5 a6 a7)) : ∀ (n c s : Nat), c + n * qc ≤ CT → s + n * qs ≤ CS → ∀ a1 a2 a3 a4 a5 a6 a7, inv a1 a2 a3 a4 a5 a6 a7 → GG E Y En (cS a1 a2 a3 a4 a5 a6 a7) (cI a1 a2 a3 a4 a5 a6 a7) (c, s) pc (cL a1 a2 a3 a4 a5 a6 a7) [] (fix7 F n a1 a2 a3 a4 a5 a6 a7) := by
  intro n
  induction n with
  | zero => intro c s _ _ a1 a2 a3 a4 a5 a6 a7 _ r hr; cases hr
  | succ n ih => intro c s h1 h2 a1 a2 a3 a4 a5 a6 a7 ha; exact h n (fix7 F n) ih c s h1 h2 a1 a2 a3 a4 a5 a6 a7 ha
theorem look_out2 {x a b : Int32} {ia ib oa ob d : Int} (ea : a.toInt = ia) (eb : b.toInt = ib) (h1 : ¬ x = a) (h2 : ¬ x = b) : Op.lookupswitch.offset [(ia, oa), (ib, ob)] d x.toInt = d := by
  have k1 : ¬ ia = x.toInt := fun h => h1 (Int32.toInt_inj.mp (h.symm.trans ea.symm))
  have k2 : ¬ ib = x.toInt := fun h => h2 (Int32.toInt_inj.mp (h.symm.trans eb.symm))
  unfold Op.lookupswitch.offset
  simp [k1]
  unfold Op.lookupswitch.offset
  simp [k2]
  unfold Op.lookupswitch.offset
  rfl
theorem gm (i : Nat) {w : Cond} (h : lw_tbl[i]? = some w) (hg : goodB w = true) : w ∈ lw_good := List.mem_filter.mpr ⟨List.mem_of_getElem? h, hg⟩
theorem gmN (i : Nat) {w : Cond} (h : lw_tbl[i]? = some w) (hg : isNst w = true) : w ∈ nestW := List.mem_filter.mpr ⟨List.mem_of_getElem? h, hg⟩
theorem gmL {ws : List Cond} (ps : List Nat) (h : ws = ps.filterMap (fun i => lw_tbl[i]?)) (hg : ws.all goodB = true) : ∀ w ∈ ws, w ∈ lw_good := fun w hw => by
  have h1 := List.all_eq_true.mp hg w hw
  rw [h] at hw
  obtain ⟨i, -, hi⟩ := List.mem_filterMap.mp hw
  exact gm i hi h1
