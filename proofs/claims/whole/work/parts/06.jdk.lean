/-! rows of the JDK's members, of the static row and of the script -/
def jmax (x y : Int32) : Int32 := if x < y then y else x
def jmin (x y : Int32) : Int32 := if y < x then y else x
def jabs (x : Int32) : Int32 := if 0 ≤ x then x else 0 - x
/-- so many ints of row r from sp on go to row t from dp on, as they were -/
def cpI (I : II) (r : Nat) (sp : Int32) (t : Nat) (dp n : Int32) : II := fun a k => if a = t - 1 ∧ nx dp ≤ k ∧ k < nx dp + nx n then I (r - 1) (nx sp + (k - nx dp)) else I a k
abbrev inC (S : Sk) (r : Nat) (sp : Int32) (t : Nat) (dp n : Int32) : Prop := r ≠ 0 ∧ t ≠ 0 ∧ ¬ sp < 0 ∧ ¬ dp < 0 ∧ ¬ n < 0 ∧ nx sp + nx n ≤ S.2.2.1 (r - 1) ∧ nx dp + nx n ≤ S.2.2.1 (t - 1)
/-- a new row that holds what row r holds -/
def clI (S : Sk) (I : II) (r : Nat) : II := fun a k => if a = S.2.2.2 then I (r - 1) k else I a k
section
variable {ρ : Type} {E : EV} {Y : MI} {En : List Frame → Array Value → State → ρ → State → Prop} {S : Sk} {I : II} {cs : Nat × Nat} {pc : Nat} {L : List (Nat × LV)} {st : List LV} {g : Option ρ}
theorem g_mmax {idx : Nat} {x y : Int32} (hl : Cond.methodLink Y.1 idx Lib.Math.max.name ∈ lw_good) (hq : Cond.static Lib.Math.max.name ∈ lw_good ∧ Cond.initialized "java/lang/Math" ∈ lw_good ∧ Cond.code Lib.Math.max.name Lib.Math.max.code 2 (some .int) ∈ lw_good) (hf : 1 ≤ Y.2.2.2.2.2.frames) (hlo : wid st + 13 ≤ Y.2.2.2.2.2.locals) (hc : cs.1 ≤ Y.2.2.2.2.2.cells) (hs : cs.2 ≤ Y.2.2.2.2.2.slots) (hd : decode Y.2.1 pc = .ok (.invokestatic idx, 3)) (kk : GG E Y En S I cs (pc + 3) L (vI (jmax x y) :: st) g) : GG E Y En S I cs pc L (vI y :: vI x :: st) g :=
  fun r hr p l e s m args below meth c C H locs ls h1 h2 h3 => va_mmax C.1 C.2.1 (by rw [C.2.2.1]; exact h3.1.symm) C.2.2.2.1 (C.2.2.2.2.1 _ hl) (C.2.2.2.2.1 _ hq.1) (C.2.2.2.2.1 _ hq.2.1) (C.2.2.2.2.1 _ hq.2.2) hf (by rw [wid_sum]; exact hlo) hc hs hd (kk r hr p l e s m args below meth c C H locs ls h1 h2 h3)
theorem g_mmin {idx : Nat} {x y : Int32} (hl : Cond.methodLink Y.1 idx Lib.Math.min.name ∈ lw_good) (hq : Cond.static Lib.Math.min.name ∈ lw_good ∧ Cond.initialized "java/lang/Math" ∈ lw_good ∧ Cond.code Lib.Math.min.name Lib.Math.min.code 2 (some .int) ∈ lw_good) (hf : 1 ≤ Y.2.2.2.2.2.frames) (hlo : wid st + 13 ≤ Y.2.2.2.2.2.locals) (hc : cs.1 ≤ Y.2.2.2.2.2.cells) (hs : cs.2 ≤ Y.2.2.2.2.2.slots) (hd : decode Y.2.1 pc = .ok (.invokestatic idx, 3)) (kk : GG E Y En S I cs (pc + 3) L (vI (jmin x y) :: st) g) : GG E Y En S I cs pc L (vI y :: vI x :: st) g :=
  fun r hr p l e s m args below meth c C H locs ls h1 h2 h3 => va_mmin C.1 C.2.1 (by rw [C.2.2.1]; exact h3.1.symm) C.2.2.2.1 (C.2.2.2.2.1 _ hl) (C.2.2.2.2.1 _ hq.1) (C.2.2.2.2.1 _ hq.2.1) (C.2.2.2.2.1 _ hq.2.2) hf (by rw [wid_sum]; exact hlo) hc hs hd (kk r hr p l e s m args below meth c C H locs ls h1 h2 h3)
theorem g_mabs {idx : Nat} {x : Int32} (hl : Cond.methodLink Y.1 idx Lib.Math.abs.name ∈ lw_good) (hq : Cond.static Lib.Math.abs.name ∈ lw_good ∧ Cond.initialized "java/lang/Math" ∈ lw_good ∧ Cond.code Lib.Math.abs.name Lib.Math.abs.code 1 (some .int) ∈ lw_good) (hf : 1 ≤ Y.2.2.2.2.2.frames) (hlo : wid st + 13 ≤ Y.2.2.2.2.2.locals) (hc : cs.1 ≤ Y.2.2.2.2.2.cells) (hs : cs.2 ≤ Y.2.2.2.2.2.slots) (hd : decode Y.2.1 pc = .ok (.invokestatic idx, 3)) (kk : GG E Y En S I cs (pc + 3) L (vI (jabs x) :: st) g) : GG E Y En S I cs pc L (vI x :: st) g :=
  fun r hr p l e s m args below meth c C H locs ls h1 h2 h3 => va_mabs C.1 C.2.1 (by rw [C.2.2.1]; exact h3.1.symm) C.2.2.2.1 (C.2.2.2.2.1 _ hl) (C.2.2.2.2.1 _ hq.1) (C.2.2.2.2.1 _ hq.2.1) (C.2.2.2.2.1 _ hq.2.2) hf (by rw [wid_sum]; exact hlo) hc hs hd (kk r hr p l e s m args below meth c C H locs ls h1 h2 h3)
/-- the rows that were there before -/
theorem stat_at {E : EV} {s : State} {H : Heap} (hK : Kn E s) (h1 : Rl E S I H) (b : Bool) {n : Nat} {f : Nat → Int32} (hf : (b = true → n = 4 ∧ f = fun j => if j = 0 then 115 else if j = 1 then 62 else if j = 2 then 64 else 45) ∧ (b = false → n = E.2.2.2.2.2.1.2.1 ∧ f = E.2.2.2.2.2.1.2.2)) : va_X (if b = true then E.2.2.2.2.2.2 else E.2.2.2.2.2.1.1) n f s H := by
  cases b with
  | true =>
    obtain ⟨rfl, rfl⟩ := hf.1 rfl
    obtain ⟨q1, ⟨scr, e1, e2⟩, -⟩ := hK.2.2.2.2.2.1
    exact ⟨scr, (h1.1 _ q1).trans e1, e2⟩
  | false =>
    obtain ⟨rfl, rfl⟩ := hf.2 rfl
    obtain ⟨q1, ⟨scr, e1, e2⟩⟩ := hK.2.2.2.2.1
    exact ⟨scr, (h1.1 _ q1).trans e1, e2⟩
def sgF (j : Nat) : Int32 := if j = 0 then 115 else if j = 1 then 62 else if j = 2 then 64 else 45
theorem g_sgld {j : Int32} (hi : ¬ j < 0 ∧ nx j < 4) (hd : decode Y.2.1 pc = .ok (.iaload, 1)) (kk : GG E Y En S I cs (pc + 1) L (vI (sgF (nx j)) :: st) g) : GG E Y En S I cs pc L (vI j :: vS true :: st) g := by
  intro r hr p l e s m args below meth c C H locs ls h1 h2 h3
  obtain ⟨scr, e1, e2, e3, e4, e5⟩ := stat_at C.2.2.2.2.2.1 h1 true ⟨fun _ => ⟨rfl, rfl⟩, fun h => (by cases h)⟩
  exact W.iald (v := .int (sgF (nx j))) C.1 C.2.1 e1 e2 e3 (by rw [e4]; rintro (q | q); exact hi.1 q; have := hi.2; unfold nx at this; omega) (e5 _ hi.2) rfl rfl hd (kk r hr p l e s m args below meth c C H locs ls h1 h2 h3)
theorem g_sglen (hd : decode Y.2.1 pc = .ok (.arraylength, 1)) (kk : GG E Y En S I cs (pc + 1) L (vI 4 :: st) g) : GG E Y En S I cs pc L (vS true :: st) g := by
  intro r hr p l e s m args below meth c C H locs ls h1 h2 h3
  obtain ⟨scr, e1, e2, e3, e4, e5⟩ := stat_at C.2.2.2.2.2.1 h1 true ⟨fun _ => ⟨rfl, rfl⟩, fun h => (by cases h)⟩
  exact W.alen (n := 4) C.1 C.2.1 e1 e2 (by rw [e4]; rfl) rfl rfl hd (kk r hr p l e s m args below meth c C H locs ls h1 h2 h3)
theorem g_scld {j : Int32} (hi : ¬ j < 0 ∧ nx j < E.2.2.2.2.2.1.2.1) (hd : decode Y.2.1 pc = .ok (.iaload, 1)) (kk : GG E Y En S I cs (pc + 1) L (vI (E.2.2.2.2.2.1.2.2 (nx j)) :: st) g) : GG E Y En S I cs pc L (vI j :: vS false :: st) g := by
  intro r hr p l e s m args below meth c C H locs ls h1 h2 h3
  obtain ⟨scr, e1, e2, e3, e4, e5⟩ := stat_at C.2.2.2.2.2.1 h1 false ⟨fun h => (by cases h), fun _ => ⟨rfl, rfl⟩⟩
  exact W.iald (v := .int (E.2.2.2.2.2.1.2.2 (nx j))) C.1 C.2.1 e1 e2 e3 (by rw [e4]; rintro (q | q); exact hi.1 q; have := hi.2; unfold nx at this; omega) (e5 _ hi.2) rfl rfl hd (kk r hr p l e s m args below meth c C H locs ls h1 h2 h3)
theorem g_sclen (hd : decode Y.2.1 pc = .ok (.arraylength, 1)) (kk : GG E Y En S I cs (pc + 1) L (vI E.2.2.2.2.2.1.2.1.toInt32 :: st) g) : GG E Y En S I cs pc L (vS false :: st) g := by
  intro r hr p l e s m args below meth c C H locs ls h1 h2 h3
  obtain ⟨scr, e1, e2, e3, e4, e5⟩ := stat_at C.2.2.2.2.2.1 h1 false ⟨fun h => (by cases h), fun _ => ⟨rfl, rfl⟩⟩
  exact W.alen C.1 C.2.1 e1 e2 (by rw [e4]) rfl rfl hd (kk r hr p l e s m args below meth c C H locs ls h1 h2 h3)
theorem g_aloadS_n {i : Fin 4} {b : Bool} (hd : decode Y.2.1 pc = .ok (.aload_n i, 1)) (hl : lkL i L = some (vS b)) (k : GG E Y En S I cs (pc + 1) L (vS b :: st) g) : GG E Y En S I cs pc L st g :=
  fun r hr p l e s m args below meth c C H locs ls h1 h2 h3 => lv_aload_n C.1 C.2.1 hd rfl (lkL_at h3 hl) (k r hr p l e s m args below meth c C H locs ls h1 h2 h3)
theorem g_getsS {idx : Nat} (hl : Cond.fieldLink Y.1 idx "RedrawnLines$Text" "SIGNS" "[I" ∈ lw_good) (hd : decode Y.2.1 pc = .ok (.getstatic idx, 3)) (k : GG E Y En S I cs (pc + 3) L (vS true :: st) g) : GG E Y En S I cs pc L st g := by
  intro r hr p l e s m args below meth c C H locs ls h1 h2 h3
  obtain ⟨q1, -, cf, kf, fi, f, a, cell, e1, e2, e3, e4, e5, e6, e7, e8⟩ := C.2.2.2.2.2.1.2.2.2.2.2.1
  have ha : a < E.1 := by omega
  exact W.gets C.1 C.2.1 C.2.2.2.1 (C.2.2.2.2.1 _ hl) e1 e2 e3 e4 ((h1.1 _ ha).trans e5) (fun h => by rw [h] at e6; cases e6) e7 rfl hd (k r hr p l e s m args below meth c C H locs ls h1 h2 h3)
theorem nn32 {z : Int32} (hz : ¬ z < 0) : z.toInt = (nx z : Int) := by
  have hz0 : (0 : Int) ≤ z.toInt := by
    have := Int32.not_lt.mp hz
    simpa using Int32.le_iff_toInt_le.mp this
  show z.toInt = ((z.toInt.toNat : Nat) : Int)
  omega
theorem g_acopy {idx x t : Nat} {sp dp n : Int32} (hl : Cond.methodLink Y.1 idx arraycopyName ∈ lw_good) (hq : Cond.native arraycopyName ∈ lw_good ∧ Cond.static arraycopyName ∈ lw_good ∧ Cond.initialized "java/lang/System" ∈ lw_good) (hx : tyR S 100 x) (ht : tyR S 100 t) (hi : inC S x sp t dp n) (hf : 1 ≤ Y.2.2.2.2.2.frames) (hlo : wid st + (nativeFrameWords "java/lang/System" "arraycopy" 5 + 11) ≤ Y.2.2.2.2.2.locals) (hd : decode Y.2.1 pc = .ok (.invokestatic idx, 3)) (kk : GG E Y En S (cpI I x sp t dp n) cs (pc + 3) L st g) : GG E Y En S I cs pc L (vI n :: vI dp :: vA t :: vI sp :: vA x :: st) g := by
  intro r hr p l e s m args below meth c C H locs ls h1 h2 h3
  obtain ⟨i1, i2, i3, i4, i5, i6, i7⟩ := hi
  cases x with
  | zero => exact absurd rfl i1
  | succ a0 =>
  cases t with
  | zero => exact absurd rfl i2
  | succ a =>
  intro T hT X
  have o0 := hx.nz i1
  have o1 := ht.nz i2
  have hc0 := h1.arr o0
  have hc1 := h1.arr o1
  obtain ⟨-, k0, hk0, cm0, hkk0⟩ := C.2.2.2.2.2.1.2.1.1 0 (fun _ => .null)
  obtain ⟨vm', X', step⟩ := X.arraycopy C.1 C.2.2.2.1 (C.2.2.2.2.1 _ hl) (C.2.2.2.2.1 _ hq.1) (C.2.2.2.2.1 _ hq.2.1) (C.2.2.2.2.1 _ hq.2.2) (src := E.1 + a0) (dst := E.1 + a) (cs := (arrV E.2.2.2.1 (S.2.2.1 (a0 + 1 - 1)) (fun j => Value.int (I (a0 + 1 - 1) j)))) (cd := (arrV E.2.2.2.1 (S.2.2.1 (a + 1 - 1)) (fun j => Value.int (I (a + 1 - 1) j)))) (srcPos := sp) (destPos := dp) (n := n) (by rw [hT]; exact hc0) (by rw [hT]; exact hc1)
    (fun _ h => (by cases h)) (fun _ h => (by cases h)) (fun h => (by cases h)) (fun h => (by cases h)) hk0 hk0 hkk0 hkk0 (by decide) i3 i4 i5
    (by rw [nn32 i3, nn32 i5, arrV_size]; have := i6; simp only [Nat.add_sub_cancel] at this ⊢; omega)
    (by rw [nn32 i4, nn32 i5, arrV_size]; have := i7; simp only [Nat.add_sub_cancel] at this ⊢; omega)
    (fun vm₁ _ i hi => by
      have e : (arrV E.2.2.2.1 (S.2.2.1 (a0 + 1 - 1)) (fun j => Value.int (I (a0 + 1 - 1) j))).slots.getD (sp.toNatClampNeg + i) .null = .int (I (a0 + 1 - 1) (sp.toNatClampNeg + i)) := by
        rw [Array.getD_eq_getD_getElem?, arrV_read _ _ (by have := i6; unfold nx at this; omega)]
        rfl
      refine ⟨?_, ?_⟩
      · rw [e]; rfl
      · rw [e]; exact trivial)
    (g := F0 m pc ls (.int n :: .int dp :: .ref (E.1 + a) :: .int sp :: .ref (E.1 + a0) :: st.map (lvV E))) rfl (by rw [C.2.2.1]; exact h3.1) (rest := st.map (lvV E)) rfl (by rw [C.2.1]; exact hd) hf (by rw [wid_sum]; show 2 * 0 + _ + _ ≤ _; omega)
  have e1 := va_copied (fun z => Value.int z) E.2.2.2.1 E.2.2.2.1 (n0 := S.2.2.1 (a0 + 1 - 1)) (n1 := S.2.2.1 (a + 1 - 1)) (sp := sp.toNatClampNeg) (dp := dp.toNatClampNeg) (n := n.toNatClampNeg) (I (a0 + 1 - 1)) (I (a + 1 - 1)) i6
  have hl1 : E.1 + a < H.size := (Array.getElem?_eq_some_iff.mp hc1).1
  have hH : ((T.setVm vm').setCell (E.1 + a) (copied (arrV E.2.2.2.1 (S.2.2.1 (a0 + 1 - 1)) (fun j => Value.int (I (a0 + 1 - 1) j))) (arrV E.2.2.2.1 (S.2.2.1 (a + 1 - 1)) (fun j => Value.int (I (a + 1 - 1) j))) sp dp n)).heap = H.setIfInBounds (E.1 + a) (copied (arrV E.2.2.2.1 (S.2.2.1 (a0 + 1 - 1)) (fun j => Value.int (I (a0 + 1 - 1) j))) (arrV E.2.2.2.1 (S.2.2.1 (a + 1 - 1)) (fun j => Value.int (I (a + 1 - 1) j))) sp dp n) := by rw [← hT]; rfl
  have e3 : (H.setIfInBounds (E.1 + a) (copied (arrV E.2.2.2.1 (S.2.2.1 (a0 + 1 - 1)) (fun j => Value.int (I (a0 + 1 - 1) j))) (arrV E.2.2.2.1 (S.2.2.1 (a + 1 - 1)) (fun j => Value.int (I (a + 1 - 1) j))) sp dp n))[E.1 + (a + 1 - 1)]? = some (copied (arrV E.2.2.2.1 (S.2.2.1 (a0 + 1 - 1)) (fun j => Value.int (I (a0 + 1 - 1) j))) (arrV E.2.2.2.1 (S.2.2.1 (a + 1 - 1)) (fun j => Value.int (I (a + 1 - 1) j))) sp dp n) := by
    show (H.setIfInBounds (E.1 + a) _)[E.1 + a]? = _
    simp [Array.getElem?_setIfInBounds, hl1]
  have hR : Rl E S (cpI I (a0 + 1) sp (a + 1) dp n) ((T.setVm vm').setCell (E.1 + a) (copied (arrV E.2.2.2.1 (S.2.2.1 (a0 + 1 - 1)) (fun j => Value.int (I (a0 + 1 - 1) j))) (arrV E.2.2.2.1 (S.2.2.1 (a + 1 - 1)) (fun j => Value.int (I (a + 1 - 1) j))) sp dp n)).heap := by
    refine h1.store o1.1 (by rw [hH]; simp) (fun q hq => by rw [hH]; exact Array.getElem?_setIfInBounds_ne (Ne.symm hq)) rfl (fun _ _ => rfl) (fun b hb => ?_) (Or.inl ⟨o1.2, ?_⟩) h1.2.2.2
    · funext k; unfold cpI; exact if_neg (fun q => hb q.1)
    · rw [hH, e3]
      refine (congrArg some e1).trans ?_
      congr 2
      funext k
      unfold cpI va_cpy nx
      simp
  obtain ⟨t2, a1, b1⟩ := kk r hr p l e s m args below meth c C _ _ ls hR (fun q hq => by
    rcases List.mem_append.mp hq with h | h
    · exact h2 q h
    · obtain ⟨z, -, hz⟩ := List.mem_map.mp h
      rw [← hz]; exact Nat.le_add_right _ _) h3 _ rfl X'
  exact ⟨t2, step t2 a1, b1⟩
theorem g_clone {idx x : Nat} (hl : Cond.methodLink Y.1 idx ⟨"[I", "clone", "()Ljava/lang/Object;"⟩ ∈ lw_good ∧ Cond.sameMethod "[I" "java/lang/Object" "clone" "()Ljava/lang/Object;" ∈ lw_good ∧ Cond.native ⟨"java/lang/Object", "clone", "()Ljava/lang/Object;"⟩ ∈ lw_good ∧ Cond.instanceMethod ⟨"java/lang/Object", "clone", "()Ljava/lang/Object;"⟩ ∈ lw_good ∧ Cond.selects "[I" ⟨"[I", "clone", "()Ljava/lang/Object;"⟩ ⟨"java/lang/Object", "clone", "()Ljava/lang/Object;"⟩ ∈ lw_good) (hx : tyR S 100 x) (hx0 : x ≠ 0) (hf : 1 ≤ Y.2.2.2.2.2.frames) (hlo : wid st + 14 ≤ Y.2.2.2.2.2.locals) (hcl : cs.1 + 1 ≤ Y.2.2.2.2.2.cells) (hsl : cs.2 + S.2.2.1 (x - 1) ≤ Y.2.2.2.2.2.slots) (hd : decode Y.2.1 pc = .ok (.invokevirtual idx, 3))
    (kk : GG E Y En (nwS S 100 (S.2.2.1 (x - 1))) (clI S I x) (cs.1 + 1, cs.2 + S.2.2.1 (x - 1)) (pc + 3) L (vA (S.2.2.2 + 1) :: st) g) : GG E Y En S I cs pc L (vA x :: st) g := by
  intro r hr p l e s m args below meth c C H locs ls h1 h2 h3
  cases x with
  | zero => exact absurd rfl hx0
  | succ a =>
  have o1 := hx.nz hx0
  have hc := h1.arr o1
  have hK := C.2.2.2.2.2.1
  obtain ⟨c0, t0', f1, f2, f3⟩ := Cond.castable_spec (va_Nw.use (A := args) rfl hK.2.2.2.2.2.2.2.2)
  cases (hK.2.1.2 : s.vm.findClass "[I" = some E.2.2.2.1).symm.trans f1
  intro T hT X
  obtain ⟨-, kA, hkA, comp, hkind⟩ := State.isArrayOf_alike X.warmed.alike (hK.2.1.1 0 (fun _ => .null))
  obtain ⟨-, kS, hkS, compS, hkindS⟩ := hK.2.1.1 0 (fun _ => .null)
  obtain ⟨vm', X', st'⟩ := X.cloneArray C.1 C.2.2.2.1 (C.2.2.2.2.1 _ hl.1) (C.2.2.2.2.1 _ hl.2.1) (C.2.2.2.2.1 _ hl.2.2.1) (C.2.2.2.2.1 _ hl.2.2.2.1) (C.2.2.2.2.1 _ hl.2.2.2.2) (a := E.1 + a) (cell := (arrV E.2.2.2.1 (S.2.2.1 (a + 1 - 1)) (fun j => Value.int (I (a + 1 - 1) j)))) (by rw [hT]; exact hc) (fun k h => (by cases h)) (fun h => (by cases h)) f1 f2 f3
    (fun i v hv => by
      have hk' : T.vm.classes[E.2.2.2.1]? = some kA := hkA
      have hlt : i < S.2.2.1 (a + 1 - 1) := by have := (Array.getElem?_eq_some_iff.mp hv).1; rw [arrV_size] at this; exact this
      rw [arrV_read _ _ hlt] at hv
      cases hv
      change State.fitsSlot _ E.2.2.2.1 _ _ _ = true
      simp [State.fitsSlot, State.slotType?, hk', hkind, fits])
    (g := F0 m pc ls (.ref (E.1 + a) :: st.map (lvV E))) rfl (by rw [C.2.2.1]; exact h3.1) rfl (by rw [C.2.1]; exact hd) hf (by rw [wid_sum]; show 2 * 0 + _ + 14 ≤ _; omega) hcl (by rw [arrV_size]; exact hsl) (hloader := Vm.clonesLoader_of_array hkS hkindS)
  rw [arrV_size] at X'
  have hR : Rl E (nwS S 100 (S.2.2.1 (a + 1 - 1))) (clI S I (a + 1)) (H.push (arrV E.2.2.2.1 (S.2.2.1 (a + 1 - 1)) (fun j => Value.int (I (a + 1 - 1) j)))) := by
    have hp := h1.push (t := 100) (ln := S.2.2.1 (a + 1 - 1)) (H1 := H.push (arrV E.2.2.2.1 (S.2.2.1 (a + 1 - 1)) (fun j => Value.int 0))) (by simp) (fun q hq => Array.getElem?_push_lt hq ▸ by rw [Array.getElem?_eq_getElem hq]) (Or.inl ⟨by unfold nwS; simp, by
      have : (nwS S 100 (S.2.2.1 (a + 1 - 1))).2.2.1 S.2.2.2 = S.2.2.1 (a + 1 - 1) := by unfold nwS; simp
      rw [this, ← h1.2.1, Array.getElem?_push_size]
      congr 2
      funext j
      unfold nwI
      simp⟩)
    have ha : S.2.2.2 < (nwS S 100 (S.2.2.1 (a + 1 - 1))).2.2.2 := by unfold nwS; exact Nat.lt_succ_self _
    refine hp.store ha (by simp) (fun q hq => ?_) rfl (fun _ _ => rfl) (fun b hb => ?_) (Or.inl ⟨by unfold nwS; simp, ?_⟩) hp.2.2.2
    · rw [Array.getElem?_push, Array.getElem?_push, h1.2.1, if_neg hq, if_neg hq]
    · funext k; unfold clI nwI; rw [if_neg hb, if_neg hb]
    · have : (nwS S 100 (S.2.2.1 (a + 1 - 1))).2.2.1 S.2.2.2 = S.2.2.1 (a + 1 - 1) := by unfold nwS; simp
      rw [this, ← h1.2.1, Array.getElem?_push_size]
      congr 2
      funext j
      unfold clI
      simp
  obtain ⟨t2, a1, b1⟩ := kk r hr p l e s m args below meth c C _ _ ls hR h2 h3 _ (by rw [← hT]; rfl) X'
  rw [show vA (S.2.2.2 + 1) = vA (S.2.2.2 + 1) from rfl] at a1
  refine ⟨t2, st' t2 ?_, b1⟩
  have : (F0 m (pc + 3) ls ((vA (S.2.2.2 + 1) :: st).map (lvV E))) = F0 m (pc + 3) ls (.ref T.heap.size :: st.map (lvV E)) := by
    rw [hT, h1.2.1]; rfl
  rw [this] at a1
  exact a1
theorem g_castI {idx x : Nat} (hl : Cond.classLink Y.1 idx "[I" ∈ lw_good) (hx : tyR S 100 x) (hx0 : x ≠ 0) (hd : decode Y.2.1 pc = .ok (.checkcast idx, 3)) (kk : GG E Y En S I cs (pc + 3) L (vA x :: st) g) : GG E Y En S I cs pc L (vA x :: st) g := by
  intro r hr p l e s m args below meth c C H locs ls h1 h2 h3
  cases x with
  | zero => exact absurd rfl hx0
  | succ a =>
  have o1 := hx.nz hx0
  intro T hT X
  obtain ⟨vm', X', st'⟩ := X.checkcastYes C.1 C.2.2.2.1 (C.2.2.2.2.1 _ hl) (by rw [hT]; exact h1.arr o1) rfl C.2.2.2.2.2.1.2.1.2 (va_asg _ _) (g := F0 m pc ls (.ref (E.1 + a) :: st.map (lvV E))) rfl rfl (by rw [C.2.1]; exact hd)
  obtain ⟨t, a1, b1⟩ := kk r hr p l e s m args below meth c C H locs ls h1 h2 h3 (T.setVm vm') hT X'
  exact ⟨t, st' t a1, b1⟩
end
