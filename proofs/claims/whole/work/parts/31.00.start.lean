/-! the start: what the tables and the start say, as Kn wants it -/
theorem nw_kn {own : String} {idx ci : Nat} {s : State} {args : Array Value} (h : NW own idx ci) (hts : ∀ w ∈ lw_good, w.before args s = true) : ∃ (cC : ClassId) (iS : Nat → Nat), ∀ q : vw_C, vwCl[ci]? = some q → u_Kn s q.1 q.2.1 q.2.2 cC iS := by
  obtain ⟨C, T, N, ty0, hq, -, -, -, -, -, hi, -, hw⟩ := h
  obtain ⟨cC, iS, hk⟩ := u_known (C := C) (T := T) (N := N) (n := N) hts hw (hts _ hi)
  exact ⟨cC, iS, fun q e => by cases hq.symm.trans e; exact hk⟩
theorem kn_all {s : State} {args : Array Value} (hts : ∀ w ∈ lw_good, w.before args s = true) : ∃ (dC : Nat → ClassId) (dI : Nat → Nat → Nat), ∀ (k : Nat) (q : vw_C), vwCl[k]? = some q → u_Kn s q.1 q.2.1 q.2.2 (dC k) (dI k) := by
  have h : ∀ k : Nat, ∃ (cC : ClassId) (iS : Nat → Nat), ∀ q : vw_C, vwCl[k]? = some q → u_Kn s q.1 q.2.1 q.2.2 cC iS := by
    intro k
    match k with
    | 0 => exact nw_kn nw_RX10_55 hts
    | 1 => exact nw_kn nw_RX10_46 hts
    | 2 => exact nw_kn nw_RX10_9 hts
    | 3 => exact nw_kn nw_RX10_81 hts
    | 4 => exact nw_kn nw_RX10_71 hts
    | 5 => exact nw_kn nw_RX10_91 hts
    | 6 => exact nw_kn nw_RX10_269 hts
    | 7 => exact nw_kn nw_RX10_18 hts
    | 8 => exact nw_kn nw_RX10_28 hts
    | 9 => exact nw_kn nw_RX10_37 hts
    | 10 => exact nw_kn nw_RL_7 hts
    | 11 => exact nw_kn nw_RL_10 hts
    | k + 12 =>
      obtain ⟨cC, iS, -⟩ := nw_kn nw_RL_10 hts
      exact ⟨cC, iS, fun q e => absurd e (by simp [vwCl])⟩
  exact ⟨fun k => Classical.choose (h k), fun k => Classical.choose (Classical.choose_spec (h k)), fun k => Classical.choose_spec (Classical.choose_spec (h k))⟩
theorem ao_kn {C : String} {s : State} (h : va_AO C s) : ∃ cA : ClassId, ArrOfT s cA (.object C) ∧ va_RA s cA (.object C) := by
  obtain ⟨comp, c, k, h1, h2, h3, h4, h5⟩ := Cond.arrayOver_spec h
  exact ⟨c, fun n z => ⟨fun k h => (by cases h), k, h3, comp, h4⟩, k, comp, h3, h4, h1, h5⟩
theorem ao_all {s : State} {args : Array Value} (hts : ∀ w ∈ lw_tbl, w.before args s = true) : ∀ C ∈ aoL, va_AO C s := by
  intro C hC
  simp only [aoL, List.mem_cons, List.not_mem_nil, or_false] at hC
  rcases hC with rfl | rfl | rfl | rfl | rfl
  · exact va_AO.of (hts (.arrayOver (.object RX0)) (List.mem_of_getElem? (i := 163) (by decide +kernel)))
  · exact va_AO.of (hts (.arrayOver (.object RX1)) (List.mem_of_getElem? (i := 97) (by decide +kernel)))
  · exact va_AO.of (hts (.arrayOver (.object RX5)) (List.mem_of_getElem? (i := 241) (by decide +kernel)))
  · exact va_AO.of (hts (.arrayOver (.object RX7)) (List.mem_of_getElem? (i := 126) (by decide +kernel)))
  · exact va_AO.of (hts (.arrayOver (.object RX8)) (List.mem_of_getElem? (i := 128) (by decide +kernel)))
theorem kn_arr {s : State} (hao : ∀ C ∈ aoL, va_AO C s) : ∃ dA : Nat → ClassId, ∀ (c : Nat) (q : vw_C), vwCl[c]? = some q → (c = 0 ∨ c = 1 ∨ c = 5 ∨ c = 7 ∨ c = 8) → ArrOfT s (dA c) (.object q.1) ∧ va_RA s (dA c) (.object q.1) := by
  have z0 : ∀ c : Nat, (c = 0 ∨ c = 1 ∨ c = 5 ∨ c = 7 ∨ c = 8) → ∃ cA : ClassId, ∀ q : vw_C, vwCl[c]? = some q → ArrOfT s cA (.object q.1) ∧ va_RA s cA (.object q.1) := by
    intro c hc
    rcases hc with rfl | rfl | rfl | rfl | rfl
    · obtain ⟨cA, h⟩ := ao_kn (hao RX0 (by decide +kernel))
      exact ⟨cA, fun q e => by cases e; exact h⟩
    · obtain ⟨cA, h⟩ := ao_kn (hao RX1 (by decide +kernel))
      exact ⟨cA, fun q e => by cases e; exact h⟩
    · obtain ⟨cA, h⟩ := ao_kn (hao RX5 (by decide +kernel))
      exact ⟨cA, fun q e => by cases e; exact h⟩
    · obtain ⟨cA, h⟩ := ao_kn (hao RX7 (by decide +kernel))
      exact ⟨cA, fun q e => by cases e; exact h⟩
    · obtain ⟨cA, h⟩ := ao_kn (hao RX8 (by decide +kernel))
      exact ⟨cA, fun q e => by cases e; exact h⟩
  have z1 : ∀ c : Nat, ∃ cA : ClassId, ∀ q : vw_C, vwCl[c]? = some q → (c = 0 ∨ c = 1 ∨ c = 5 ∨ c = 7 ∨ c = 8) → ArrOfT s cA (.object q.1) ∧ va_RA s cA (.object q.1) := by
    intro c
    by_cases hc : c = 0 ∨ c = 1 ∨ c = 5 ∨ c = 7 ∨ c = 8
    · obtain ⟨cA, h⟩ := z0 c hc
      exact ⟨cA, fun q e _ => h q e⟩
    · obtain ⟨cA, h⟩ := z0 0 (Or.inl rfl)
      exact ⟨cA, fun q _ z => absurd z hc⟩
  exact ⟨fun c => Classical.choose (z1 c), fun c => Classical.choose_spec (z1 c)⟩
theorem len_small {t : Term} {v : Value} {args : Array Value} {s : State} {b : Addr} {cell : Cell} (hv : (Term.length t).eval args s none [] s = some v) (ht : t.eval args s none [] s = some (.ref b)) (harr : s.arrayAt? b = some cell) : cell.slots.size < 2 ^ 31 := by
  simp only [Term.eval, ht, harr, Option.bind_eq_bind, Option.bind_some] at hv
  by_cases hlt : cell.slots.size < 2147483648
  · exact hlt
  · simp [hlt] at hv
theorem el_at {t : Term} {v : Value} {j : Int32} {args : Array Value} {s : State} {b : Addr} {cell : Cell} (h : (Term.elem t (.int j)).eval args s none [] s = some v) (ht : t.eval args s none [] s = some (.ref b)) (harr : s.arrayAt? b = some cell) : cell.slots[j.toNatClampNeg]? = some v := by
  obtain ⟨a, i, cell2, h1, h2, h3, h4, h5⟩ := Term.elem_spec h
  cases ht.symm.trans h1
  cases harr.symm.trans h3
  have e : (Term.int j).eval args s none [] s = some (.int j) := rfl
  cases e.symm.trans h2
  exact h5
theorem kn_signs {s : State} {args : Array Value} (hl : (Cond.laysStatic "RedrawnLines$Text" "SIGNS" "[I").before args s = true) (hini : (Cond.initialized "RedrawnLines$Text").before args s = true) (hgv : (Jvm.Cond.and given_1 narrow_1).before args s = true) : ∃ t : Nat, t < s.heap.size ∧ va_X t 4 (fun j => if j = 0 then 115 else if j = 1 then 62 else if j = 2 then 64 else 45) s s.heap ∧ va_Z "RedrawnLines$Text" "SIGNS" "[I" (.ref t) (fun q => s.heap.size ≤ q) s s.heap := by
  have hs := flat_of_before _ hgv
  have harr : (Cond.arrayOf (.static "RedrawnLines$Text" "SIGNS" "[I") .int).before args s = true := hs _ (by decide +kernel)
  have hlen := va_eqt (hs (Cond.eq (.length (.static "RedrawnLines$Text" "SIGNS" "[I")) (.int 4)) (by decide +kernel))
  have e0 := va_eqt (hs (Cond.eq (.elem (.static "RedrawnLines$Text" "SIGNS" "[I") (.int 0)) (.int 115)) (by decide +kernel))
  have e1 := va_eqt (hs (Cond.eq (.elem (.static "RedrawnLines$Text" "SIGNS" "[I") (.int 1)) (.int 62)) (by decide +kernel))
  have e2 := va_eqt (hs (Cond.eq (.elem (.static "RedrawnLines$Text" "SIGNS" "[I") (.int 2)) (.int 64)) (by decide +kernel))
  have e3 := va_eqt (hs (Cond.eq (.elem (.static "RedrawnLines$Text" "SIGNS" "[I") (.int 3)) (.int 45)) (by decide +kernel))
  obtain ⟨t, cell, ht, hat, hv⟩ := Term.length_spec hlen
  have hsz := len_small hlen ht hat
  obtain ⟨hcell, hkn, -, -⟩ := State.arrayAt?_spec hat
  obtain ⟨hof, -⟩ := Cond.arrayOf_spec harr ht hcell
  have h4 : cell.slots.size = 4 := by
    have q : (4 : Int32) = Int32.ofNat cell.slots.size := Value.int.inj hv
    have q2 := congrArg Int32.toInt q
    rw [Int32.toInt_ofNat_small hsz] at q2
    have q3 : (4 : Int32).toInt = 4 := rfl
    omega
  refine ⟨t, (Array.getElem?_eq_some_iff.mp hcell).1, ⟨cell, hcell, hof, hkn, h4, fun j hj => ?_⟩, va_Zof hl hini ht (fun a ha => Nat.not_le.mpr ha)⟩
  rcases (show j = 0 ∨ j = 1 ∨ j = 2 ∨ j = 3 by omega) with rfl | rfl | rfl | rfl
  · exact el_at e0 ht hat
  · exact el_at e1 ht hat
  · exact el_at e2 ht hat
  · exact el_at e3 ht hat
theorem nst_tab {w : Cond} (h : isNst w = true) : w.onTables = true := by
  unfold isNst at h
  cases w <;> simp at h
  rfl
set_option maxHeartbeats 4000000 in
set_option maxRecDepth 100000 in
/-- from the entry, for every script of at most 4608 ints, the law comes to its end with true -/
theorem whole_start {p : Program} {e : Env} {s : State} {m : MethodId} {below : List Frame} {meth : Method} {c : Code} (l : Launch) {b L : Nat} {xs : Nat → Int32} (hL : L ≤ 4608) (hnm : meth.name = "law") (C0 : lw_At p s m meth c b L xs) : W p l e room_1 s m #[Value.ref b] below meth c s.heap [] 0 0 (lw_Z below #[Value.ref b] s) (entryFrame m ([Value.ref b] : List Value).toArray 4) := by
  obtain ⟨hx, hb, hr, hml, hown, hts, hX, hbl, hlocks, hgv⟩ := id C0
  have hgd : ∀ w ∈ lw_good, w.before #[Value.ref b] s = true := fun w hw => hts w (good_in hw)
  have hao := ao_all hts
  obtain ⟨dC, dI, hKc⟩ := kn_all hgd
  obtain ⟨dA, hKa⟩ := kn_arr hao
  obtain ⟨cA, kA, comp, i1, i2, i3⟩ := Cond.arrayClass_spec (hgd _ lk_arr)
  obtain ⟨t, ht, htX, htZ⟩ := kn_signs (hts (.laysStatic "RedrawnLines$Text" "SIGNS" "[I") (List.mem_of_getElem? (i := 546) (by decide +kernel))) (hts (.initialized "RedrawnLines$Text") (List.mem_of_getElem? (i := 77) (by decide +kernel))) hgv
  obtain ⟨S', I', hlaw⟩ := law_one (sL := L) (sx := xs) hL
  obtain ⟨E, hE⟩ : ∃ E : EV, E = (s.heap.size, s.heap, (dC, dI), cA, dA, (b, L, xs), t) := ⟨_, rfl⟩
  have hK : Kn E s := by
    rw [hE]
    exact ⟨hKc, ⟨fun n z => ⟨fun k h => (by cases h), kA, i2, comp, i3⟩, i1⟩, hKa, rfl, ⟨hbl, hX⟩, ⟨ht, htX, htZ⟩, fun w hw => va_Nw.of (nst_tab (List.mem_filter.mp hw).2) (hts w (List.mem_filter.mp hw).1), hao, va_Nw.of rfl (hts (.castable "[I" "java/lang/Cloneable") (List.mem_of_getElem? (i := 394) (by decide +kernel)))⟩
  have hR : Rl E s00 i00 s.heap := by
    rw [hE]
    exact ⟨fun q _ => rfl, rfl, fun a h => absurd h (Nat.not_lt_zero _), fun a h => absurd h (Nat.not_lt_zero _)⟩
  have hl := lv_entry ([.ref b]) (n := 4) (Nat.le_of_ble_eq_true rfl)
  rw [lg_entry_eq]
  generalize (lg_sl ([.ref b]) ++ List.replicate (4 - (lg_sl ([.ref b])).length) Slot.unset).toArray = ls at hl ⊢
  have hl : lv_has ls 4 (lvM E [(0, vS false)]) := by rw [hE]; exact hl
  have hlaw : f_L_law FU s00 i00 E.2.2.2.2.2.1.2.1 E.2.2.2.2.2.1.2.2 = some (1, S', I') := by rw [hE]; exact hlaw
  have ha : (#[Value.ref b] : Array Value) = #[Value.ref E.2.2.2.2.2.1.1] := by rw [hE]
  have hz : s.heap.size = E.1 := by rw [hE]
  have k := gg_L_law (E := E) FU s00 i00 (1, S', I') hlaw p l e s m #[Value.ref b] below meth c ⟨hx, hb, hml, hown, hgd, hK, hr, hlocks, hnm⟩ s.heap [] ls hR (fun q hq => by cases hq) hl
  intro T hT X
  obtain ⟨u, a1, a2⟩ := k T hT X
  exact ⟨u, a1, a2 rfl ha hz⟩
