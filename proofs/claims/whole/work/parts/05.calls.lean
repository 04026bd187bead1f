/-! a method's entry and end, and calls -/
def argL : Nat → List LV → List (Nat × LV)
  | _, [] => []
  | i, v :: vs => (i, v) :: argL (if isW v = true then i + 2 else i + 1) vs
def wid : List LV → Nat
  | [] => 0
  | v :: vs => (if isW v = true then 2 else 1) + wid vs
theorem lvV_cat2 {E : EV} {v : LV} : (lvV E v).category = if isW v = true then 2 else 1 := by
  match v with
  | .inl _ => rfl
  | .inr (.inl r) => exact rv_cat E r
  | .inr (.inr (.inl _)) => rfl
  | .inr (.inr (.inr _)) => rfl
theorem lv_argsM {E : EV} : ∀ (av : List LV) (n : Nat), lv_args n (av.map (lvV E)) = lvM E (argL n av)
  | [], _ => rfl
  | v :: vs, n => by
    show (n, lvV E v) :: lv_args _ _ = (n, lvV E v) :: lvM E _
    rw [← lv_argsM vs, lvV_cat2]
    congr 1
    cases isW v <;> rfl
theorem wid_sl {E : EV} : ∀ (av : List LV), (lg_sl (av.map (lvV E))).length = wid av
  | [] => rfl
  | v :: vs => by
    have ih := wid_sl (E := E) vs
    unfold lg_sl at ih ⊢
    rw [List.map_cons, List.flatMap_cons, List.length_append, ih, lvV_cat2]
    show _ = (if isW v = true then 2 else 1) + wid vs
    cases isW v <;> rfl
theorem wid_sum {E : EV} : ∀ (st : List LV), ((st.map (lvV E)).map fun v => v.category).sum = wid st
  | [] => rfl
  | v :: vs => by
    rw [List.map_cons, List.map_cons, List.sum_cons, wid_sum vs, lvV_cat2]
    rfl
section
variable {ρ : Type} {E : EV} {Y : MI} {S S0 : Sk} {I : II} {cs : Nat × Nat} {pc : Nat} {L : List (Nat × LV)} {st : List LV} {g : Option ρ} {po : ρ → Option LV × Sk × II}
theorem MX.of {y : MethodName} {av : List LV} {r : ρ} (hr : g = some r) (hy : plainName y.cls = true) (ho : y.cls = Y.1) (hn : y.name = Y.2.2.2.2.1) (hw : wid av ≤ Y.2.2.1) (h : GG E Y (enM E Y S po) S I (0, 0) 0 (argL 0 av) [] g) : MX E y Y S I av (po r) := by
  intro l
  refine Met.ofW (cc := Y.2.1) (maxL := Y.2.2.1) (ret := Y.2.2.2.1) hy rfl ?_
  intro p e s m args below meth c s₁ B hml hv
  obtain ⟨rfl, hR, hK⟩ := hv
  have hts := atoms_spec (ws := .code y Y.2.1 Y.2.2.1 Y.2.2.2.1 :: lw_good) B.pre
  have hown : s.vm.findClass Y.1 = some m.cls := ho ▸ findClass_of_methodNamed B.named
  have hl := lv_entry (av.map (lvV E)) (n := Y.2.2.1) (by rw [wid_sl]; exact hw)
  rw [lv_argsM] at hl
  rw [lg_entry_eq]
  exact h r hr p l e s m _ below meth c ⟨B.exec, B.bytes, hml, hown, fun w hw => hts w (List.mem_cons_of_mem _ hw), hK, B.returns, B.notSynchronized, ((name_of_methodNamed B.named B.method).1).trans hn⟩ s.heap [] _ hR (fun q hq => by cases hq) hl
theorem g_ireturn {v : Int32} {r0 : ρ} (hg : g = some r0) (hpo : po r0 = (some (vI v), S, I)) (hx : Sx S0 S) (hret : Y.2.2.2.1 = some .int) (hc1 : cs.1 ≤ Y.2.2.2.2.2.cells) (hc2 : cs.2 ≤ Y.2.2.2.2.2.slots) (hd : decode Y.2.1 pc = .ok (.ireturn, 1)) : GG E Y (enM E Y S0 po) S I cs pc L [vI v] g := by
  intro r hr p l e s m args below meth c C H locs ls h1 h2 h3
  cases hg.symm.trans hr
  refine W.widen hc1 hc2 ?_
  exact W.iret (v := v) C.1 C.2.1 (C.2.2.2.2.2.2.1.trans hret) (fun t ht hW => ⟨by rw [hpo]; rfl, by rw [hpo, ht]; exact h1, by rw [hpo]; exact ⟨hx, trivial⟩⟩) h2 hd (hlocks := C.2.2.2.2.2.2.2.1)
theorem g_zreturn {v : Int32} {r0 : ρ} (hg : g = some r0) (hpo : po r0 = (some (vI v), S, I)) (hb : v = 0 ∨ v = 1) (hx : Sx S0 S) (hret : Y.2.2.2.1 = some .boolean) (hc1 : cs.1 ≤ Y.2.2.2.2.2.cells) (hc2 : cs.2 ≤ Y.2.2.2.2.2.slots) (hd : decode Y.2.1 pc = .ok (.ireturn, 1)) : GG E Y (enM E Y S0 po) S I cs pc L [vI v] g := by
  intro r hr p l e s m args below meth c C H locs ls h1 h2 h3
  cases hg.symm.trans hr
  refine W.widen hc1 hc2 ?_
  exact W.zret (v := v) C.1 C.2.1 (C.2.2.2.2.2.2.1.trans hret) (by rcases hb with rfl | rfl <;> decide +kernel) (fun t ht hW => ⟨by rw [hpo]; rfl, by rw [hpo, ht]; exact h1, by rw [hpo]; exact ⟨hx, trivial⟩⟩) h2 hd (hlocks := C.2.2.2.2.2.2.2.1)
theorem g_lreturn {v : Int64} {r0 : ρ} (hg : g = some r0) (hpo : po r0 = (some (vL v), S, I)) (hx : Sx S0 S) (hret : Y.2.2.2.1 = some .long) (hc1 : cs.1 ≤ Y.2.2.2.2.2.cells) (hc2 : cs.2 ≤ Y.2.2.2.2.2.slots) (hd : decode Y.2.1 pc = .ok (.lreturn, 1)) : GG E Y (enM E Y S0 po) S I cs pc L [vL v] g := by
  intro r hr p l e s m args below meth c C H locs ls h1 h2 h3
  cases hg.symm.trans hr
  refine W.widen hc1 hc2 ?_
  exact W.lret (v := v) C.1 C.2.1 (C.2.2.2.2.2.2.1.trans hret) (fun t ht hW => ⟨by rw [hpo]; rfl, by rw [hpo, ht]; exact h1, by rw [hpo]; exact ⟨hx, trivial⟩⟩) h2 hd (hlocks := C.2.2.2.2.2.2.2.1)
theorem g_areturn {v t : Nat} {r0 : ρ} {rt : FieldType} (hg : g = some r0) (hpo : po r0 = (some (vA v), S, I)) (hx : Sx S0 S) (hret : Y.2.2.2.1 = some rt) (htg : rtag Y.2.2.2.1 = t) (hty : tyR S t v) (hrt : (∃ n, rt = .object n) ∨ ∃ t, rt = .array t) (hc1 : cs.1 ≤ Y.2.2.2.2.2.cells) (hc2 : cs.2 ≤ Y.2.2.2.2.2.slots) (hd : decode Y.2.1 pc = .ok (.areturn, 1)) : GG E Y (enM E Y S0 po) S I cs pc L [vA v] g := by
  intro r hr p l e s m args below meth c C H locs ls h1 h2 h3
  cases hg.symm.trans hr
  refine W.widen hc1 hc2 ?_
  exact W.aret (v := rv E v) C.1 C.2.1 (C.2.2.2.2.2.2.1.trans hret) hrt (by cases v with | zero => exact Or.inl rfl | succ a => exact Or.inr ⟨_, rfl⟩) (fun t ht hW => ⟨by rw [hpo]; rfl, by rw [hpo, ht]; exact h1, by rw [hpo]; exact ⟨hx, by show tyR S _ v; rw [htg]; exact hty⟩⟩) h2 hd (hlocks := C.2.2.2.2.2.2.2.1)
theorem g_return {r0 : ρ} (hg : g = some r0) (hpo : po r0 = (none, S, I)) (hx : Sx S0 S) (hret : Y.2.2.2.1 = none) (hc1 : cs.1 ≤ Y.2.2.2.2.2.cells) (hc2 : cs.2 ≤ Y.2.2.2.2.2.slots) (hd : decode Y.2.1 pc = .ok (.return_, 1)) : GG E Y (enM E Y S0 po) S I cs pc L [] g := by
  intro r hr p l e s m args below meth c C H locs ls h1 h2 h3
  cases hg.symm.trans hr
  refine W.widen hc1 hc2 ?_
  exact W.vret C.1 C.2.1 (C.2.2.2.2.2.2.1.trans hret) (fun t ht hW => ⟨by rw [hpo]; rfl, by rw [hpo, ht]; exact h1, by rw [hpo]; exact ⟨hx, trivial⟩⟩) h2 hd (hlocks := C.2.2.2.2.2.2.2.1)
end
/-- a call as the pool of 'own' names it -/
def LkB (own : String) (idx : Nat) (y : MethodName) (Y' : MI) (n : Nat) : Prop := Cond.methodLink own idx y ∈ lw_good ∧ Cond.initialized y.cls ∈ lw_good ∧ Cond.code y Y'.2.1 Y'.2.2.1 Y'.2.2.2.1 ∈ lw_good ∧ y.cls ≠ "java/lang/invoke/MethodHandle" ∧ y.cls ≠ "java/lang/invoke/VarHandle" ∧ (parseMethodDescriptor y.desc).map (fun d => d.parameters.length) = some n
def LkN (own : String) (idx : Nat) (y : MethodName) (host : String) (Y' : MI) (n : Nat) : Prop := Cond.methodLinkNest own idx y host ∈ nestW ∧ Cond.initialized y.cls ∈ lw_good ∧ Cond.code y Y'.2.1 Y'.2.2.1 Y'.2.2.2.1 ∈ lw_good ∧ y.cls ≠ "java/lang/invoke/MethodHandle" ∧ y.cls ≠ "java/lang/invoke/VarHandle" ∧ (parseMethodDescriptor y.desc).map (fun d => d.parameters.length) = some n
abbrev rmOK (R R' : Room) (nL : Nat) (cs : Nat × Nat) : Prop := (R'.frames + 1 ≤ R.frames ∧ 8 + (nL + 11) + R'.locals ≤ R.locals) ∧ cs.1 + R'.cells ≤ R.cells ∧ cs.2 + R'.slots ≤ R.slots
theorem good_sub {c : Cond} (h : c ∈ lw_good) : GoodIn lw_good (c :: lw_good) := fun w hw => by
  rcases List.mem_cons.mp hw with rfl | hw
  · exact ⟨h, good_ok h⟩
  · exact ⟨hw, good_ok hw⟩
section
variable {ρ : Type} {E : EV} {Y : MI} {En : List Frame → Array Value → State → ρ → State → Prop} {S S' : Sk} {I I' : II} {cs : Nat × Nat} {pc : Nat} {L : List (Nat × LV)} {st st0 : List LV} {g : Option ρ}
theorem w_call {p : Program} {l : Launch} {e : Env} {R : Room} {s : State} {m : MethodId} {args : Array Value} {below : List Frame} {meth : Method} {c : Code} {H : Heap} {locs : List Loc} {cells slots mc ms : Nat} {Q : State → Prop} {ls : Array Slot} {st0 rest : List Value} {ov : Option Value} {Q0 : Prop}
    (hr : va_Run p l e R s m args below meth c H locs cells slots mc ms (F0 m pc ls st0) rest (fun _ o t => o = .returned ov ∧ Rl E S' I' t.heap ∧ Sx S S' ∧ Q0) (fun q => E.1 ≤ q)) (h2 : ∀ q ∈ locs, E.1 ≤ q.base)
    (kk : ∀ (H1 : Heap) (locs1 : List Loc), Rl E S' I' H1 → Sx S S' → Q0 → (∀ q ∈ locs1, E.1 ≤ q.base) → W p l e R s m args below meth c H1 locs1 (cells + mc) (slots + ms) Q (F0 m (pc + 3) ls (ov.toList ++ rest))) : W p l e R s m args below meth c H locs cells slots Q (F0 m pc ls st0) := by
  intro T hT X
  obtain ⟨v, st₀, t, T', L, h0, X', hL, e1, e2, ⟨hv, hR, hx, h0'⟩, st⟩ := hr T hT X
  cases hv
  obtain ⟨t2, a1, b1⟩ := kk T'.heap (locs ++ L) (e1 ▸ hR) hx h0' (fun q hq => by
    rcases List.mem_append.mp hq with h | h
    · exact h2 q h
    · exact hL q h) T' rfl X'
  exact ⟨t2, st t2 a1, b1⟩
theorem w_pre {s : State} {H : Heap} {av : List Value} (hK : Kn E s) (h1 : Rl E S I H) : PreS s H (fun v U => v = av.toArray ∧ Rl E S I U.heap ∧ Kn E U) av :=
  ⟨fun a U g mk q => ⟨q.1, q.2.1, Kn.same (u := U) (U := U.calling g mk a) rfl q.2.2⟩, fun U hU hW => ⟨rfl, by rw [hU]; exact h1, hK.moved hW⟩⟩
theorem ov_map {ov : Option LV} : ((ov.map (lvV E)).toList ++ st.map (lvV E)) = (ov.toList ++ st).map (lvV E) := by
  cases ov <;> simp
theorem g_callS {idx n : Nat} {y : MethodName} {Y' : MI} {av : List LV} {out : Option LV × Sk × II} (hM : MX E y Y' S I av out) (hl : LkB Y.1 idx y Y' n) (hs : Cond.static y ∈ lw_good) (hn : av.length = n) (hst : st0 = av.reverse ++ st) (hrm : rmOK Y.2.2.2.2.2 Y'.2.2.2.2.2 Y'.2.2.1 cs) (hw : wid st ≤ 8) (hd : decode Y.2.1 pc = .ok (.invokestatic idx, 3))
    (kk : Sx S out.2.1 → tyV out.2.1 (rtag Y'.2.2.2.1) out.1 → GG E Y En out.2.1 out.2.2 (cs.1 + Y'.2.2.2.2.2.cells, cs.2 + Y'.2.2.2.2.2.slots) (pc + 3) L (out.1.toList ++ st) g) : GG E Y En S I cs pc L st0 g := by
  intro r hr p l e s m args below meth c C H locs ls h1 h2 h3
  obtain ⟨l1, l2, l3, l4, l5, l6⟩ := hl
  refine w_call (va_runS (As := av.map (lvV E)) (rest := st.map (lvV E)) (Ts := lw_good) ⟨C.1, C.2.1, C.2.2.1, C.2.2.2.1, C.2.2.2.2.1⟩ (hM l) ⟨callB_of n C.2.2.2.2.1 (good_sub l3) rfl rfl rfl (C.2.2.2.2.1 _ l2) (C.2.2.2.2.1 _ l1) ⟨l4, l5, l6⟩ hrm.1, C.2.2.2.2.1 _ hs⟩ (w_pre C.2.2.2.2.2.1 h1) rfl (by rw [List.length_map]; exact hn) h3.1 (by show st0.map (lvV E) = _; rw [hst]; simp) (lv_room (by rw [wid_sum]; exact hw)) hd hrm.2) h2 (fun H1 locs1 hR hx h0 hL => ?_)
  rw [ov_map]
  exact kk hx h0 r hr p l e s m args below meth c C H1 locs1 ls hR hL h3
theorem g_callSN {idx n : Nat} {y : MethodName} {host : String} {Y' : MI} {av : List LV} {out : Option LV × Sk × II} (hM : MX E y Y' S I av out) (hl : LkN Y.1 idx y host Y' n) (hs : Cond.static y ∈ lw_good) (hn : av.length = n) (hst : st0 = av.reverse ++ st) (hrm : rmOK Y.2.2.2.2.2 Y'.2.2.2.2.2 Y'.2.2.1 cs) (hw : wid st ≤ 8) (hd : decode Y.2.1 pc = .ok (.invokestatic idx, 3))
    (kk : Sx S out.2.1 → tyV out.2.1 (rtag Y'.2.2.2.1) out.1 → GG E Y En out.2.1 out.2.2 (cs.1 + Y'.2.2.2.2.2.cells, cs.2 + Y'.2.2.2.2.2.slots) (pc + 3) L (out.1.toList ++ st) g) : GG E Y En S I cs pc L st0 g := by
  intro r hr p l e s m args below meth c C H locs ls h1 h2 h3
  obtain ⟨l1, l2, l3, l4, l5, l6⟩ := hl
  refine w_call (va_runSN (As := av.map (lvV E)) (rest := st.map (lvV E)) (Ts := lw_good) (host := host) ⟨C.1, C.2.1, C.2.2.1, C.2.2.2.1, C.2.2.2.2.1⟩ (hM l) ⟨va_cnB n C.2.2.2.2.1 (good_sub l3) rfl rfl rfl (C.2.2.2.2.2.1.2.2.2.2.2.2.1 _ l1) (C.2.2.2.2.1 _ l2) ⟨l4, l5, l6⟩ hrm.1, C.2.2.2.2.1 _ hs, trivial⟩ (w_pre C.2.2.2.2.2.1 h1) rfl (by rw [List.length_map]; exact hn) h3.1 (by show st0.map (lvV E) = _; rw [hst]; simp) (lv_room (by rw [wid_sum]; exact hw)) hd hrm.2) h2 (fun H1 locs1 hR hx h0 hL => ?_)
  rw [ov_map]
  exact kk hx h0 r hr p l e s m args below meth c C H1 locs1 ls hR hL h3
theorem g_callI {idx n a : Nat} {y : MethodName} {Y' : MI} {av : List LV} {out : Sk × II} (hM : MX E y Y' S I (vA (a + 1) :: av) (none, out)) (hl : LkB Y.1 idx y Y' n) (hret : Y'.2.2.2.1 = none) (hs : Cond.instanceMethod y ∈ lw_good) (hi : y.name = "<init>") (hn : av.length = n) (hst : st0 = av.reverse ++ vA (a + 1) :: st) (hrm : rmOK Y.2.2.2.2.2 Y'.2.2.2.2.2 Y'.2.2.1 cs) (hw : wid st ≤ 8) (hd : decode Y.2.1 pc = .ok (.invokespecial idx, 3))
    (kk : Sx S out.1 → GG E Y En out.1 out.2 (cs.1 + Y'.2.2.2.2.2.cells, cs.2 + Y'.2.2.2.2.2.slots) (pc + 3) L st g) : GG E Y En S I cs pc L st0 g := by
  intro r hr p l e s m args below meth c C H locs ls h1 h2 h3
  obtain ⟨l1, l2, l3, l4, l5, l6⟩ := hl
  rw [hret] at l3
  unfold MX at hM
  rw [hret] at hM
  refine w_call (va_runI (As := av.map (lvV E)) (rest := st.map (lvV E)) (Ts := lw_good) (b := E.1 + a) ⟨C.1, C.2.1, C.2.2.1, C.2.2.2.1, C.2.2.2.2.1⟩ (hM l) ⟨callB_of n C.2.2.2.2.1 (good_sub l3) rfl rfl rfl (C.2.2.2.2.1 _ l2) (C.2.2.2.2.1 _ l1) ⟨l4, l5, l6⟩ hrm.1, hi, C.2.2.2.2.1 _ hs⟩ (w_pre C.2.2.2.2.2.1 h1) rfl (by rw [List.length_map]; exact hn) h3.1 (by show st0.map (lvV E) = _; rw [hst]; simp; rfl) (lv_room (by rw [wid_sum]; exact hw)) hd hrm.2) h2 (fun H1 locs1 hR hx h0 hL => ?_)
  exact kk hx r hr p l e s m args below meth c C H1 locs1 ls hR hL h3
theorem g_callIN {idx n a : Nat} {y : MethodName} {host : String} {Y' : MI} {av : List LV} {out : Sk × II} (hM : MX E y Y' S I (vA (a + 1) :: av) (none, out)) (hl : LkN Y.1 idx y host Y' n) (hret : Y'.2.2.2.1 = none) (hs : Cond.instanceMethod y ∈ lw_good) (hi : y.name = "<init>") (hn : av.length = n) (hst : st0 = av.reverse ++ vA (a + 1) :: st) (hrm : rmOK Y.2.2.2.2.2 Y'.2.2.2.2.2 Y'.2.2.1 cs) (hw : wid st ≤ 8) (hd : decode Y.2.1 pc = .ok (.invokespecial idx, 3))
    (kk : Sx S out.1 → GG E Y En out.1 out.2 (cs.1 + Y'.2.2.2.2.2.cells, cs.2 + Y'.2.2.2.2.2.slots) (pc + 3) L st g) : GG E Y En S I cs pc L st0 g := by
  intro r hr p l e s m args below meth c C H locs ls h1 h2 h3
  obtain ⟨l1, l2, l3, l4, l5, l6⟩ := hl
  rw [hret] at l3
  unfold MX at hM
  rw [hret] at hM
  refine w_call (va_runIN (As := av.map (lvV E)) (rest := st.map (lvV E)) (Ts := lw_good) (b := E.1 + a) (host := host) ⟨C.1, C.2.1, C.2.2.1, C.2.2.2.1, C.2.2.2.2.1⟩ (hM l) ⟨va_cnB n C.2.2.2.2.1 (good_sub l3) rfl rfl rfl (C.2.2.2.2.2.1.2.2.2.2.2.2.1 _ l1) (C.2.2.2.2.1 _ l2) ⟨l4, l5, l6⟩ hrm.1, hi, C.2.2.2.2.1 _ hs⟩ (w_pre C.2.2.2.2.2.1 h1) rfl (by rw [List.length_map]; exact hn) h3.1 (by show st0.map (lvV E) = _; rw [hst]; simp; rfl) (lv_room (by rw [wid_sum]; exact hw)) hd hrm.2) h2 (fun H1 locs1 hR hx h0 hL => ?_)
  exact kk hx r hr p l e s m args below meth c C H1 locs1 ls hR hL h3
theorem w_preV {s : State} {H : Heap} {a ci : Nat} {av : List Value} {CN : String} (hc : (vwCl[ci]?).map (·.1) = some CN) (hc12 : ci < 12) (hK : Kn E s) (h1 : Rl E S I H) (ht : tyO S ci a) : PreV s H CN (E.1 + a) (fun v U => v = (Value.ref (E.1 + a) :: av).toArray ∧ Rl E S I U.heap ∧ Kn E U) av := by
  obtain ⟨q, hq, rfl⟩ := Option.map_eq_some_iff.mp hc
  obtain ⟨cell, g1, g2, g3, -⟩ := h1.obj ht hc12
  exact ⟨fun a U g mk q => ⟨q.1, q.2.1, Kn.same (u := U) (U := U.calling g mk a) rfl q.2.2⟩, ⟨cell, g1, by rw [g3]; rfl, by rw [g2]; exact (hK.1 ci q hq).2.1⟩, fun U hU hW => ⟨rfl, by rw [hU]; exact h1, hK.moved hW⟩⟩
theorem g_callVt {idx n a ci : Nat} {y : MethodName} {Y' : MI} {av : List LV} {out : Option LV × Sk × II} (hM : MX E y Y' S I (vA (a + 1) :: av) out) (hl : LkB Y.1 idx y Y' n) (hs : Cond.instanceMethod y ∈ lw_good ∧ Cond.selects y.cls y y ∈ lw_good) (hc : (vwCl[ci]?).map (·.1) = some y.cls) (hc12 : ci < 12) (ht : tyO S ci a) (hn : av.length = n) (hst : st0 = av.reverse ++ vA (a + 1) :: st) (hrm : rmOK Y.2.2.2.2.2 Y'.2.2.2.2.2 Y'.2.2.1 cs) (hw : wid st ≤ 8) (hd : decode Y.2.1 pc = .ok (.invokevirtual idx, 3))
    (kk : Sx S out.2.1 → tyV out.2.1 (rtag Y'.2.2.2.1) out.1 → GG E Y En out.2.1 out.2.2 (cs.1 + Y'.2.2.2.2.2.cells, cs.2 + Y'.2.2.2.2.2.slots) (pc + 3) L (out.1.toList ++ st) g) : GG E Y En S I cs pc L st0 g := by
  intro r hr p l e s m args below meth c C H locs ls h1 h2 h3
  obtain ⟨l1, l2, l3, l4, l5, l6⟩ := hl
  refine w_call (va_runV (As := av.map (lvV E)) (rest := st.map (lvV E)) (Ts := lw_good) (b := E.1 + a) (C := y.cls) ⟨C.1, C.2.1, C.2.2.1, C.2.2.2.1, C.2.2.2.2.1⟩ (hM l) ⟨callB_of n C.2.2.2.2.1 (good_sub l3) rfl rfl rfl (C.2.2.2.2.1 _ l2) (C.2.2.2.2.1 _ l1) ⟨l4, l5, l6⟩ hrm.1, C.2.2.2.2.1 _ hs.1, C.2.2.2.2.1 _ hs.2⟩ (w_preV hc hc12 C.2.2.2.2.2.1 h1 ht) rfl (by rw [List.length_map]; exact hn) h3.1 (by show st0.map (lvV E) = _; rw [hst]; simp; rfl) (lv_room (by rw [wid_sum]; exact hw)) hd hrm.2) h2 (fun H1 locs1 hR hx h0 hL => ?_)
  rw [ov_map]
  exact kk hx h0 r hr p l e s m args below meth c C H1 locs1 ls hR hL h3
theorem g_callV {idx n x ci : Nat} {y : MethodName} {Y' : MI} {av : List LV} {out : Option LV × Sk × II} (hM : MX E y Y' S I (vA x :: av) out) (hl : LkB Y.1 idx y Y' n) (hs : Cond.instanceMethod y ∈ lw_good ∧ Cond.selects y.cls y y ∈ lw_good) (hc : (vwCl[ci]?).map (·.1) = some y.cls) (hc12 : ci < 12) (ht : tyR S ci x) (hx : x ≠ 0) (hn : av.length = n) (hst : st0 = av.reverse ++ vA x :: st) (hrm : rmOK Y.2.2.2.2.2 Y'.2.2.2.2.2 Y'.2.2.1 cs) (hw : wid st ≤ 8) (hd : decode Y.2.1 pc = .ok (.invokevirtual idx, 3))
    (kk : Sx S out.2.1 → tyV out.2.1 (rtag Y'.2.2.2.1) out.1 → GG E Y En out.2.1 out.2.2 (cs.1 + Y'.2.2.2.2.2.cells, cs.2 + Y'.2.2.2.2.2.slots) (pc + 3) L (out.1.toList ++ st) g) : GG E Y En S I cs pc L st0 g := by
  cases x with
  | zero => exact absurd rfl hx
  | succ a => exact g_callVt hM hl hs hc hc12 (ht.nz hx) hn hst hrm hw hd kk
end
