/-! more rows: names for values, places of locals, calls that make nothing, checks by program -/
abbrev lt {α β : Type} (a : α) (k : α → β) : β := k a
section
variable {ρ : Type} {E : EV} {Y : MI} {En : List Frame → Array Value → State → ρ → State → Prop} {S : Sk} {I : II} {cs : Nat × Nat} {pc : Nat} {L : List (Nat × LV)} {st st0 : List LV} {g : Option ρ}
theorem g_ltI {e : II} {k : II → Option ρ} (h : ∀ J, J = e → GG E Y En S J cs pc L st (k J)) : GG E Y En S e cs pc L st (lt e k) := h e rfl
theorem g_ltS {e : Sk} {k : Sk → Option ρ} (h : ∀ J, J = e → GG E Y En J I cs pc L st (k J)) : GG E Y En e I cs pc L st (lt e k) := h e rfl
theorem g_ltV {e : Int32} {k : Int32 → Option ρ} (h : ∀ x, x = e → GG E Y En S I cs pc L (vI x :: st) (k x)) : GG E Y En S I cs pc L (vI e :: st) (lt e k) := h e rfl
theorem g_Lp {L' : List (Nat × LV)} (ks : List Nat) (hk : ks.filterMap (fun k => L[k]?) = L') (k : GG E Y En S I cs pc L' st g) : GG E Y En S I cs pc L st g :=
  g_L (fun q hq => by rw [← hk] at hq; obtain ⟨i, -, hi⟩ := List.mem_filterMap.mp hq; exact List.mem_of_getElem? hi) k
def CS0 (own : String) (idx : Nat) (y : MethodName) (Y' : MI) (n : Nat) : Prop := LkB own idx y Y' n ∧ Cond.static y ∈ lw_good
def CN0 (own : String) (idx : Nat) (y : MethodName) (host : String) (Y' : MI) (n : Nat) : Prop := LkN own idx y host Y' n ∧ Cond.static y ∈ lw_good
def CV0 (own : String) (idx : Nat) (y : MethodName) (Y' : MI) (n ci : Nat) : Prop := LkB own idx y Y' n ∧ (Cond.instanceMethod y ∈ lw_good ∧ Cond.selects y.cls y y ∈ lw_good) ∧ (vwCl[ci]?).map (·.1) = some y.cls ∧ ci < 12
abbrev rmZ (R R' : Room) (nL : Nat) (cs : Nat × Nat) : Prop := (R'.frames + 1 ≤ R.frames ∧ 8 + (nL + 11) + R'.locals ≤ R.locals) ∧ (R'.cells = 0 ∧ R'.slots = 0) ∧ cs.1 ≤ R.cells ∧ cs.2 ≤ R.slots
theorem rmZ_ok {R R' : Room} {nL : Nat} {cs : Nat × Nat} (h : rmZ R R' nL cs) : rmOK R R' nL cs := ⟨h.1, by rw [h.2.1.1]; exact h.2.2.1, by rw [h.2.1.2]; exact h.2.2.2⟩
theorem rmZ_cs {R R' : Room} {nL : Nat} {c0 : Nat × Nat} (h : rmZ R R' nL c0) : (c0.1 + R'.cells, c0.2 + R'.slots) = c0 := by rw [h.2.1.1, h.2.1.2]; rfl
/-- calls that leave the references as they are -/
theorem h_callS {idx n : Nat} {y : MethodName} {Y' : MI} {av : List LV} {ov : Option LV} {J : II} (hM : MX E y Y' S I av (ov, S, J)) (hl : CS0 Y.1 idx y Y' n) (hn : av.length = n) (hst : st0 = av.reverse ++ st) (hrm : rmZ Y.2.2.2.2.2 Y'.2.2.2.2.2 Y'.2.2.1 cs) (hw : wid st ≤ 8) (hd : decode Y.2.1 pc = .ok (.invokestatic idx, 3))
    (kk : GG E Y En S J cs (pc + 3) L (ov.toList ++ st) g) : GG E Y En S I cs pc L st0 g :=
  g_callS hM hl.1 hl.2 hn hst (rmZ_ok hrm) hw hd (fun _ => by rw [(rmZ_cs hrm)]; exact kk)
theorem h_callSN {idx n : Nat} {y : MethodName} {host : String} {Y' : MI} {av : List LV} {ov : Option LV} {J : II} (hM : MX E y Y' S I av (ov, S, J)) (hl : CN0 Y.1 idx y host Y' n) (hn : av.length = n) (hst : st0 = av.reverse ++ st) (hrm : rmZ Y.2.2.2.2.2 Y'.2.2.2.2.2 Y'.2.2.1 cs) (hw : wid st ≤ 8) (hd : decode Y.2.1 pc = .ok (.invokestatic idx, 3))
    (kk : GG E Y En S J cs (pc + 3) L (ov.toList ++ st) g) : GG E Y En S I cs pc L st0 g :=
  g_callSN hM hl.1 hl.2 hn hst (rmZ_ok hrm) hw hd (fun _ => by rw [(rmZ_cs hrm)]; exact kk)
theorem h_callVt {idx n a ci : Nat} {y : MethodName} {Y' : MI} {av : List LV} {ov : Option LV} {J : II} (hM : MX E y Y' S I (vA (a + 1) :: av) (ov, S, J)) (hl : CV0 Y.1 idx y Y' n ci) (ht : tyO S ci a) (hn : av.length = n) (hst : st0 = av.reverse ++ vA (a + 1) :: st) (hrm : rmZ Y.2.2.2.2.2 Y'.2.2.2.2.2 Y'.2.2.1 cs) (hw : wid st ≤ 8) (hd : decode Y.2.1 pc = .ok (.invokevirtual idx, 3))
    (kk : GG E Y En S J cs (pc + 3) L (ov.toList ++ st) g) : GG E Y En S I cs pc L st0 g :=
  g_callVt hM hl.1 hl.2.1 hl.2.2.1 hl.2.2.2 ht hn hst (rmZ_ok hrm) hw hd (fun _ => by rw [(rmZ_cs hrm)]; exact kk)
theorem h_callV {idx n x ci : Nat} {y : MethodName} {Y' : MI} {av : List LV} {ov : Option LV} {J : II} (hM : MX E y Y' S I (vA (x - 1 + 1) :: av) (ov, S, J)) (hl : CV0 Y.1 idx y Y' n ci) (ht : tyR S ci x) (hx : x ≠ 0) (hn : av.length = n) (hst : st0 = av.reverse ++ vA x :: st) (hrm : rmZ Y.2.2.2.2.2 Y'.2.2.2.2.2 Y'.2.2.1 cs) (hw : wid st ≤ 8) (hd : decode Y.2.1 pc = .ok (.invokevirtual idx, 3))
    (kk : GG E Y En S J cs (pc + 3) L (ov.toList ++ st) g) : GG E Y En S I cs pc L st0 g := by
  cases x with
  | zero => exact absurd rfl hx
  | succ a => exact h_callVt hM hl (ht.nz hx) hn hst hrm hw hd kk
end
theorem nar_b {v : Int32} (h : v = 0 ∨ v = 1) : narrow .boolean (.int v) = .int v := by rcases h with rfl | rfl <;> decide +kernel
def tbOK (cc : ByteArray) (tb : List (Nat × Instr × Nat)) : Prop := ∀ q ∈ tb, decode cc q.1 = .ok (q.2.1, q.2.2)
theorem dk {cc : ByteArray} {tb : List (Nat × Instr × Nat)} (h : tbOK cc tb) (k : Nat) {pc n : Nat} {i : Instr} (hk : tb[k]? = some (pc, i, n)) : decode cc pc = .ok (i, n) :=
  h (pc, i, n) (List.mem_of_getElem? hk)
theorem tabOut {x : Int32} {n : Nat} (hn : n < 1000) (h : ∀ k, k < n → x ≠ nI k) : x.toInt < 0 ∨ (n : Int) - 1 < x.toInt := by
  by_cases h1 : x.toInt < 0
  · exact Or.inl h1
  · by_cases h2 : (n : Int) - 1 < x.toInt
    · exact Or.inr h2
    · exfalso
      refine h x.toInt.toNat (by omega) ?_
      apply Int32.toInt_inj.mp
      rw [nI_toInt (by omega)]
      omega
