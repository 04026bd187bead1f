/-! rows of the heap: fields, arrays, new cells -/
/-- a field of a class, as the pool of 'own' names it at idx -/
def FL (own : String) (idx ci k : Nat) : Prop := ∃ (C : String) (T : u_T) (N : Nat), vwCl[ci]? = some (C, T, N) ∧ k < N ∧ fN ci = N ∧ ci < 12 ∧ Cond.fieldLink own idx (T k).1 (T k).2.1 (T k).2.2.1 ∈ lw_good ∧ ∀ w ∈ u_ws C T N, w ∈ lw_good
/-- .. and what may be stored there: its type, whether it is final -/
def FP (ci k : Nat) (ty : FieldType) (fin : Bool) : Prop := ∃ (C : String) (T : u_T) (N : Nat) (ty0 : Nat → FieldType), vwCl[ci]? = some (C, T, N) ∧ (∀ j, j < N → parseFieldDescriptor (T j).2.2.1 = some (ty0 j)) ∧ (∀ a, a < N → ∀ b, b < N → a ≠ b → (T a).2.1 ≠ (T b).2.1) ∧ ty0 k = ty ∧ (T k).2.2.2 = fin ∧ (T k).1 = C
theorem Rl.obj {E : EV} {S : Sk} {I : II} {H : Heap} (h : Rl E S I H) {ci a : Nat} (ht : tyO S ci a) (hc : ci < 12) : t_OB (E.1 + a) (E.2.2.1.1 ci) (fN ci) (E.2.2.1.2 ci) H (fun k => fv E S I ci a k) := by
  obtain ⟨h1, h2⟩ := ht
  rcases h.2.2.1 a h1 with q | q | q
  · exact absurd q.1 (by omega)
  · exact absurd q.1.1 (by omega)
  · have q2 := q.2; rw [h2] at q2; exact q2
theorem Rl.arr {E : EV} {S : Sk} {I : II} {H : Heap} (h : Rl E S I H) {a : Nat} (ht : tyO S 100 a) : H[E.1 + a]? = some (arrV E.2.2.2.1 (S.2.2.1 a) (fun j => .int (I a j))) := by
  obtain ⟨h1, h2⟩ := ht
  rcases h.2.2.1 a h1 with q | q | q
  · exact q.2
  · exact absurd q.1.1 (by omega)
  · exact absurd q.1 (by omega)
theorem Rl.rarr {E : EV} {S : Sk} {I : II} {H : Heap} (h : Rl E S I H) {a c : Nat} (ht : tyO S (110 + c) a) : H[E.1 + a]? = some (arrV (E.2.2.2.2.1 c) (S.2.2.1 a) (fun j => rv E (S.1 a j))) := by
  obtain ⟨h1, h2⟩ := ht
  rcases h.2.2.1 a h1 with q | q | q
  · exact absurd q.1 (by omega)
  · have q2 := q.2; rw [h2, Nat.add_sub_cancel_left] at q2; exact q2
  · exact absurd q.1 (by omega)
/-- the heap behind a store at one cell -/
theorem Rl.store {E : EV} {S S' : Sk} {I I' : II} {H H1 : Heap} (h : Rl E S I H) {a : Nat} (ha : a < S.2.2.2) (z : H1.size = H.size) (o : ∀ q : Nat, q ≠ E.1 + a → H1[q]? = H[q]?)
    (hT : S'.2 = S.2) (hP : ∀ b, b ≠ a → S'.1 b = S.1 b) (hI : ∀ b, b ≠ a → I' b = I b) (hc : cOK E S' I' H1 a) (hw : WF S') : Rl E S' I' H1 := by
  refine ⟨fun q hq => (o q (by omega)).trans (h.1 q hq), by rw [z, hT]; exact h.2.1, fun b hb => ?_, hw⟩
  by_cases hba : b = a
  · subst hba; exact hc
  · rw [hT] at hb
    have e : H1[E.1 + b]? = H[E.1 + b]? := o _ (by omega)
    rcases h.2.2.1 b hb with q | q | q
    · exact Or.inl ⟨by rw [hT]; exact q.1, by rw [e, q.2, hT, hI b hba]⟩
    · exact Or.inr (Or.inl ⟨by rw [hT]; exact q.1, by rw [e, q.2, hT, hP b hba]⟩)
    · refine Or.inr (Or.inr ⟨by rw [hT]; exact q.1, ?_⟩)
      rw [hT]
      have e2 : (fun k => fv E S' I' (S.2.1 b) b k) = fun k => fv E S I (S.2.1 b) b k := by
        funext k; unfold fv; rw [hI b hba, hP b hba]
      rw [e2]
      exact q.2.kept e
theorem upI_ne {I : II} {a k : Nat} {v : Int32} {b : Nat} (h : b ≠ a) : upI I a k v b = I b := by
  funext j; unfold upI; rw [if_neg (fun q => h q.1)]
theorem upP_ne {S : Sk} {a k r : Nat} {b : Nat} (h : b ≠ a) : (upP S a k r).1 b = S.1 b := by
  funext j; unfold upP; exact if_neg (fun q => h q.1)
/-- a new cell at the end -/
theorem Rl.push {E : EV} {S : Sk} {I : II} {H H1 : Heap} (h : Rl E S I H) {t ln : Nat} (z : H1.size = H.size + 1) (o : ∀ q : Nat, q < H.size → H1[q]? = H[q]?) (hc : cOK E (nwS S t ln) (nwI S I) H1 S.2.2.2) : Rl E (nwS S t ln) (nwI S I) H1 := by
  obtain ⟨g1, g2, g3, g4⟩ := h
  have hx : Sx S (nwS S t ln) := ⟨by unfold nwS; exact Nat.le_succ _, fun a ha => ⟨by unfold nwS; exact if_neg (by omega), by unfold nwS; exact if_neg (by omega)⟩⟩
  have hP : ∀ b, b < S.2.2.2 → (nwS S t ln).1 b = S.1 b := fun b hb => by funext k; unfold nwS; exact if_neg (by omega)
  have hI : ∀ b, b < S.2.2.2 → nwI S I b = I b := fun b hb => by funext k; unfold nwI; exact if_neg (by omega)
  refine ⟨fun q hq => (o q (by omega)).trans (g1 q hq), by rw [z, g2]; show E.1 + S.2.2.2 + 1 = E.1 + (S.2.2.2 + 1); omega, fun b hb => ?_, fun b hb => ?_⟩
  · by_cases hbn : b = S.2.2.2
    · rw [hbn]; exact hc
    · have hb' : b < S.2.2.2 := by have : b < S.2.2.2 + 1 := hb; omega
      have e : H1[E.1 + b]? = H[E.1 + b]? := o _ (by omega)
      obtain ⟨x1, x2⟩ := hx.2 b hb'
      rcases g3 b hb' with q | q | q
      · exact Or.inl ⟨by rw [x1]; exact q.1, by rw [e, q.2, x2, hI b hb']⟩
      · exact Or.inr (Or.inl ⟨by rw [x1]; exact q.1, by rw [e, q.2, x1, x2, hP b hb']⟩)
      · refine Or.inr (Or.inr ⟨by rw [x1]; exact q.1, ?_⟩)
        rw [x1]
        have e2 : (fun k => fv E (nwS S t ln) (nwI S I) (S.2.1 b) b k) = fun k => fv E S I (S.2.1 b) b k := by
          funext k; unfold fv; rw [hI b hb', hP b hb']
        rw [e2]
        exact q.2.kept e
  · by_cases hbn : b = S.2.2.2
    · subst hbn
      have h0 : ∀ k, (nwS S t ln).1 S.2.2.2 k = 0 := fun k => by unfold nwS; exact if_pos rfl
      exact ⟨fun _ k _ _ => by rw [h0]; exact tyR.null, fun _ j _ => by rw [h0]; exact tyR.null⟩
    · have hb' : b < S.2.2.2 := by have : b < S.2.2.2 + 1 := hb; omega
      obtain ⟨x1, x2⟩ := hx.2 b hb'
      rw [x1, x2, hP b hb']
      exact ⟨fun a1 k a2 a3 => ((g4 b hb').1 a1 k a2 a3).x hx, fun a1 j a2 => ((g4 b hb').2 a1 j a2).x hx⟩
theorem nwS_x {S : Sk} {t ln : Nat} : Sx S (nwS S t ln) := ⟨by unfold nwS; exact Nat.le_succ _, fun a ha => ⟨by unfold nwS; exact if_neg (by omega), by unfold nwS; exact if_neg (by omega)⟩⟩
theorem nwS_ty {S : Sk} {t ln : Nat} : tyO (nwS S t ln) t S.2.2.2 := ⟨by unfold nwS; exact Nat.lt_succ_self _, by unfold nwS; exact if_pos rfl⟩
theorem upP_x {S : Sk} {a k r : Nat} : Sx S (upP S a k r) := ⟨Nat.le_refl _, fun _ _ => ⟨rfl, rfl⟩⟩
section
variable {ρ : Type} {E : EV} {Y : MI} {En : List Frame → Array Value → State → ρ → State → Prop} {S : Sk} {I : II} {cs : Nat × Nat} {pc : Nat} {L : List (Nat × LV)} {st : List LV} {g : Option ρ}
theorem fv_int {E : EV} {S : Sk} {I : II} {ci a k : Nat} (h : fk ci k < 2) : fv E S I ci a k = .int (I a k) := by unfold fv; rw [if_pos h]
theorem fv_ref {E : EV} {S : Sk} {I : II} {ci a k : Nat} (h : 2 ≤ fk ci k) : fv E S I ci a k = rv E (S.1 a k) := by unfold fv; rw [if_neg (by omega)]
/-- getfield of any kind -/
theorem w_get {p : Program} {l : Launch} {e : Env} {s : State} {m : MethodId} {args : Array Value} {below : List Frame} {meth : Method} {c : Code} {H : Heap} {locs : List Loc} {Q : State → Prop} {ls : Array Slot} {rest : List Value} {index ci k a : Nat} (C : Cx E Y p s m args meth c) (hf : FL Y.1 index ci k) (ht : tyO S ci a) (h1 : Rl E S I H) (hd : decode Y.2.1 pc = .ok (.getfield index, 3))
    (kk : W p l e Y.2.2.2.2.2 s m args below meth c H locs cs.1 cs.2 Q (F0 m (pc + 3) ls (fv E S I ci a k :: rest))) : W p l e Y.2.2.2.2.2 s m args below meth c H locs cs.1 cs.2 Q (F0 m pc ls (.ref (E.1 + a) :: rest)) := by
  obtain ⟨CC, T, N, q1, q2, q3, q4, q5, q6⟩ := hf
  obtain ⟨hx, hb, -, hown, hts, hK, -⟩ := C
  obtain ⟨cell, e1, e2, e3, e4⟩ := h1.obj ht q4
  obtain ⟨hS, hfc, kC, hkC, hkind⟩ := hK.1 ci _ q1
  obtain ⟨cf, kf, fi, f, hi, hsl⟩ := hS k q2
  refine W.getf hx hb hown (hts _ q5) hi (u_facts hfc hkC (u_lays hts q6 q2) hi).1 e1 (by rw [e3]; exact fun h => by cases h) (v := fv E S I ci a k) ?_ rfl rfl hd kk
  rw [hsl]
  exact e4 k (by rw [q3]; exact q2)
theorem g_getIt {index ci k a : Nat} (hf : FL Y.1 index ci k) (hk : fk ci k < 2) (ht : tyO S ci a) (hd : decode Y.2.1 pc = .ok (.getfield index, 3)) (kk : GG E Y En S I cs (pc + 3) L (vI (I a k) :: st) g) : GG E Y En S I cs pc L (vA (a + 1) :: st) g :=
  fun r hr p l e s m args below meth c C H locs ls h1 h2 h3 => w_get C hf ht h1 hd (by rw [fv_int hk]; exact kk r hr p l e s m args below meth c C H locs ls h1 h2 h3)
theorem g_getI {index ci k x : Nat} (hf : FL Y.1 index ci k) (hk : fk ci k < 2) (ht : tyR S ci x) (hx : x ≠ 0) (hd : decode Y.2.1 pc = .ok (.getfield index, 3)) (kk : GG E Y En S I cs (pc + 3) L (vI (I (x - 1) k) :: st) g) : GG E Y En S I cs pc L (vA x :: st) g := by
  cases x with
  | zero => exact absurd rfl hx
  | succ a => exact g_getIt hf hk (ht.nz hx) hd kk
theorem Rl.fref {E : EV} {S : Sk} {I : II} {H : Heap} (h : Rl E S I H) {ci a k : Nat} (ht : tyO S ci a) (hc : ci < 12) (hk : k < fN ci) (h2 : 2 ≤ fk ci k) : tyR S (fk ci k - 2) (S.1 a k) := by
  have := (h.2.2.2 a ht.1).1
  rw [ht.2] at this
  exact this hc k hk h2
theorem g_getAt {index ci k a t : Nat} (hf : FL Y.1 index ci k) (hk : fk ci k = 2 + t) (ht : tyO S ci a) (hd : decode Y.2.1 pc = .ok (.getfield index, 3)) (kk : tyR S t (S.1 a k) → GG E Y En S I cs (pc + 3) L (vA (S.1 a k) :: st) g) : GG E Y En S I cs pc L (vA (a + 1) :: st) g :=
  fun r hr p l e s m args below meth c C H locs ls h1 h2 h3 => w_get C hf ht h1 hd (by
    rw [fv_ref (by omega)]
    obtain ⟨CC, T, N, q1, q2, q3, q4, q5, q6⟩ := hf
    refine kk ?_ r hr p l e s m args below meth c C H locs ls h1 h2 h3
    have := h1.fref ht q4 (by rw [q3]; exact q2) (by omega)
    rw [hk, Nat.add_sub_cancel_left] at this
    exact this)
theorem g_getA {index ci k x t : Nat} (hf : FL Y.1 index ci k) (hk : fk ci k = 2 + t) (ht : tyR S ci x) (hx : x ≠ 0) (hd : decode Y.2.1 pc = .ok (.getfield index, 3)) (kk : tyR S t (S.1 (x - 1) k) → GG E Y En S I cs (pc + 3) L (vA (S.1 (x - 1) k) :: st) g) : GG E Y En S I cs pc L (vA x :: st) g := by
  cases x with
  | zero => exact absurd rfl hx
  | succ a => exact g_getAt hf hk (ht.nz hx) hd kk
/-- putfield of any kind, final or not -/
theorem w_put {p : Program} {l : Launch} {e : Env} {s : State} {m : MethodId} {args : Array Value} {below : List Frame} {meth : Method} {c : Code} {H : Heap} {locs : List Loc} {Q : State → Prop} {ls : Array Slot} {rest : List Value} {index ci k a : Nat} {ty : FieldType} {fin : Bool} {v : Value} (C : Cx E Y p s m args meth c) (hf : FL Y.1 index ci k) (hp : FP ci k ty fin) (hfi : fin = true → Y.2.2.2.2.1 = "<init>" ∧ ∀ q, vwCl[ci]? = some q → q.1 = Y.1) (hn : narrow ty v = v) (hfit : fits ty v = true) (ht : tyO S ci a) (h1 : Rl E S I H) (h2 : ∀ q ∈ locs, E.1 ≤ q.base) (hd : decode Y.2.1 pc = .ok (.putfield index, 3))
    (kk : ∀ (H1 : Heap) (locs1 : List Loc), H1.size = H.size → (∀ q : Nat, q ≠ E.1 + a → H1[q]? = H[q]?) → t_OB (E.1 + a) (E.2.2.1.1 ci) (fN ci) (E.2.2.1.2 ci) H1 (updV (fun k => fv E S I ci a k) k v) → (∀ q ∈ locs1, E.1 ≤ q.base) → W p l e Y.2.2.2.2.2 s m args below meth c H1 locs1 cs.1 cs.2 Q (F0 m (pc + 3) ls rest)) : W p l e Y.2.2.2.2.2 s m args below meth c H locs cs.1 cs.2 Q (F0 m pc ls (v :: .ref (E.1 + a) :: rest)) := by
  obtain ⟨CC, T, N, q1, q2, q3, q4, q5, q6⟩ := hf
  obtain ⟨CC', T', N', ty0, p1, p2, p3, p4, p5, p6⟩ := hp
  cases q1.symm.trans p1
  obtain ⟨hx, hb, -, hown, hts, hK, -, -, hnm⟩ := C
  obtain ⟨cell, e1, e2, e3, e4⟩ := h1.obj ht q4
  obtain ⟨hS, hfc, kC, hkC, hkind⟩ := hK.1 ci _ q1
  obtain ⟨cf, kf, fi, f, hi, hsl⟩ := hS k q2
  have hst := (u_facts hfc hkC (u_lays hts q6 q2) hi).1
  have hap : ∀ x y, x < fN ci → y < fN ci → x ≠ y → (E.2.2.1.2 ci) x ≠ (E.2.2.1.2 ci) y := by
    rw [q3]
    intro x y hx hy hne
    obtain ⟨_, _, _, fa, hia, ea⟩ := hS x hx
    obtain ⟨_, _, _, fb, hib, eb⟩ := hS y hy
    rw [← ea, ← eb]
    refine u_apart (u_lays hts q6 hx) (u_lays hts q6 hy) hia hib ?_
    rw [(State.fieldFound?_type hia (p2 x hx)).1, (State.fieldFound?_type hib (p2 y hy)).1]
    exact p3 x hx y hy hne
  have hk' : k < fN ci := by rw [q3]; exact q2
  have hpd : parseFieldDescriptor (T k).2.2.1 = some ty := by rw [p2 k q2, p4]
  have hlay := hts _ (q6 _ (u_in_lay q2))
  unfold u_lay at hlay
  have hloc : ∀ (j : Nat) (q : Loc), q ∈ locs ++ [⟨E.1 + a, j⟩] → E.1 ≤ q.base := by
    intro j q hq
    rcases List.mem_append.mp hq with h | h
    · exact h2 q h
    · rw [List.mem_singleton.mp h]; exact Nat.le_add_right _ _
  cases fin with
  | false =>
    rw [if_neg (by rw [p5]; decide)] at hlay
    have h6 := u_store hfc hkC hkind hlay hi hpd hn hfit
    refine W.putK hx hb (f := f) ⟨hown, hts _ q5, ⟨_, _, _, hi⟩, hst⟩ (by rw [e2]; exact h6) e1 e3 (by rw [hsl]; exact k2_hasslot (e4 k hk')) rfl rfl hd fun H' z1 z2 z3 => ?_
    rw [hsl] at z1
    exact kk H' _ z2 z3 ⟨_, z1, e2, e3, t_set e4 hap hk' v⟩ (hloc _)
  | true =>
    obtain ⟨a1, a2⟩ := hfi rfl
    rw [if_pos p5] at hlay
    have hcf : m.cls = cf := by
      obtain ⟨_, _, c', _, _, _, -, -, hf', -, -, -, hown2, -⟩ := Cond.laysFinal_spec hlay
      have e1 : c' = cf := by have := hi.symm.trans hf'; simp at this; exact this.1.symm
      have a3 : CC = Y.1 := a2 _ q1
      rw [p6, a3] at hown2
      rw [← e1]; exact Option.some.inj (hown.symm.trans hown2)
    have h6 := u_fits hfc hkC hkind (Or.inr hlay) hi hpd hn hfit
    refine W.putFinK hx hb hown (hts _ q5) hi hst hcf (hnm.trans a1) (by rw [e2]; exact h6) e1 e3 (by rw [hsl]; exact k2_hasslot (e4 k hk')) rfl rfl hd fun H' z1 z2 z3 => ?_
    rw [hsl] at z1
    exact kk H' _ z2 z3 ⟨_, z1, e2, e3, t_set e4 hap hk' v⟩ (hloc _)
def FI (own nm : String) (ci : Nat) (fin : Bool) : Prop := fin = true → nm = "<init>" ∧ ∀ q, vwCl[ci]? = some q → q.1 = own
theorem g_putIt {index ci k a : Nat} {ty : FieldType} {fin : Bool} {v : Int32} (hf : FL Y.1 index ci k) (hp : FP ci k ty fin) (hfi : FI Y.1 Y.2.2.2.2.1 ci fin) (hk : fk ci k < 2) (hn : narrow ty (.int v) = .int v) (hfit : fits ty (.int v) = true) (ht : tyO S ci a) (hd : decode Y.2.1 pc = .ok (.putfield index, 3))
    (kk : GG E Y En S (upI I a k v) cs (pc + 3) L st g) : GG E Y En S I cs pc L (vI v :: vA (a + 1) :: st) g :=
  fun r hr p l e s m args below meth c C H locs ls h1 h2 h3 => w_put C hf hp hfi hn hfit ht h1 h2 hd (fun H1 locs1 z o hO hl => by
    refine kk r hr p l e s m args below meth c C H1 locs1 ls ?_ hl h3
    obtain ⟨CC, T, N, q1, q2, q3, q4, q5, q6⟩ := hf
    refine h1.store ht.1 z o rfl (fun _ _ => rfl) (fun b hb => upI_ne hb) (Or.inr (Or.inr ⟨by rw [ht.2]; exact q4, ?_⟩)) h1.2.2.2
    rw [ht.2]
    refine hO.to (fun j hj => ?_)
    unfold updV
    by_cases hjk : j = k
    · subst hjk; rw [if_pos rfl, fv_int hk]; unfold upI; simp; rfl
    · rw [if_neg hjk]; unfold fv upI; simp [hjk])
theorem g_putI {index ci k x : Nat} {ty : FieldType} {fin : Bool} {v : Int32} (hf : FL Y.1 index ci k) (hp : FP ci k ty fin) (hfi : FI Y.1 Y.2.2.2.2.1 ci fin) (hk : fk ci k < 2) (hn : narrow ty (.int v) = .int v) (hfit : fits ty (.int v) = true) (ht : tyR S ci x) (hx : x ≠ 0) (hd : decode Y.2.1 pc = .ok (.putfield index, 3))
    (kk : GG E Y En S (upI I (x - 1) k v) cs (pc + 3) L st g) : GG E Y En S I cs pc L (vI v :: vA x :: st) g := by
  cases x with
  | zero => exact absurd rfl hx
  | succ a => exact g_putIt hf hp hfi hk hn hfit (ht.nz hx) hd kk
theorem WF.up {S : Sk} (h : WF S) {a k r : Nat} (hr : (S.2.1 a < 12 → k < fN (S.2.1 a) → 2 ≤ fk (S.2.1 a) k → tyR S (fk (S.2.1 a) k - 2) r) ∧ (110 ≤ S.2.1 a → tyR S (S.2.1 a - 110) r)) : WF (upP S a k r) := by
  intro b hb
  have e1 : (upP S a k r).2 = S.2 := rfl
  rw [e1] at hb ⊢
  refine ⟨fun a1 j a2 a3 => ?_, fun a1 j a2 => ?_⟩
  · show tyR (upP S a k r) _ (if b = a ∧ j = k then r else S.1 b j)
    split
    · next q => obtain ⟨rfl, rfl⟩ := q; exact (hr.1 a1 a2 a3).x upP_x
    · exact ((h b hb).1 a1 j a2 a3).x upP_x
  · show tyR (upP S a k r) _ (if b = a ∧ j = k then r else S.1 b j)
    split
    · next q => obtain ⟨rfl, rfl⟩ := q; exact (hr.2 a1).x upP_x
    · exact ((h b hb).2 a1 j a2).x upP_x
theorem rv_fits {E : EV} {r : Nat} {ty : FieldType} (h : (∃ n, ty = .object n) ∨ ∃ t, ty = .array t) : narrow ty (rv E r) = rv E r ∧ fits ty (rv E r) = true := by
  rcases h with ⟨n, rfl⟩ | ⟨t, rfl⟩ <;> cases r <;> exact ⟨rfl, rfl⟩
theorem g_putAt {index ci k a t x : Nat} {ty : FieldType} {fin : Bool} (hf : FL Y.1 index ci k) (hp : FP ci k ty fin) (hfi : FI Y.1 Y.2.2.2.2.1 ci fin) (hk : fk ci k = 2 + t) (hty : (∃ n, ty = .object n) ∨ ∃ t, ty = .array t) (hx : tyR S t x) (ht : tyO S ci a) (hd : decode Y.2.1 pc = .ok (.putfield index, 3))
    (kk : GG E Y En (upP S a k x) I cs (pc + 3) L st g) : GG E Y En S I cs pc L (vA x :: vA (a + 1) :: st) g :=
  fun r hr p l e s m args below meth c C H locs ls h1 h2 h3 => w_put C hf hp hfi (rv_fits hty).1 (rv_fits hty).2 ht h1 h2 hd (fun H1 locs1 z o hO hl => by
    refine kk r hr p l e s m args below meth c C H1 locs1 ls ?_ hl h3
    obtain ⟨CC, T, N, q1, q2, q3, q4, q5, q6⟩ := hf
    refine h1.store ht.1 z o rfl (fun b hb => upP_ne hb) (fun _ _ => rfl) (Or.inr (Or.inr ⟨by show S.2.1 a < 12; rw [ht.2]; exact q4, ?_⟩)) (h1.2.2.2.up ⟨fun _ _ _ => by rw [ht.2, hk, Nat.add_sub_cancel_left]; exact hx, fun q => by rw [ht.2] at q; omega⟩)
    show t_OB _ (E.2.2.1.1 (S.2.1 a)) (fN (S.2.1 a)) (E.2.2.1.2 (S.2.1 a)) H1 (fun j => fv E (upP S a k x) I (S.2.1 a) a j)
    rw [ht.2]
    refine hO.to (fun j hj => ?_)
    unfold updV
    by_cases hjk : j = k
    · subst hjk; rw [if_pos rfl, fv_ref (by omega)]; unfold upP; simp; rfl
    · rw [if_neg hjk]; unfold fv upP; simp [hjk])
/-- arrays of ints -/
theorem inb_in {S : Sk} {x : Nat} {j : Int32} (h : inb S x j) : ¬ (j < 0 ∨ S.2.2.1 (x - 1) ≤ j.toNatClampNeg) := by
  rintro (q | q)
  · exact h.2.1 q
  · have := h.2.2; unfold nx at this; omega
theorem g_iaload {x : Nat} {j : Int32} (ht : tyR S 100 x) (hi : inb S x j) (hd : decode Y.2.1 pc = .ok (.iaload, 1)) (kk : GG E Y En S I cs (pc + 1) L (vI (rd I x j) :: st) g) : GG E Y En S I cs pc L (vI j :: vA x :: st) g := by
  intro r hr p l e s m args below meth c C H locs ls h1 h2 h3
  have hk := kk r hr p l e s m args below meth c C H locs ls h1 h2 h3
  have ho := ht.nz hi.1
  have hin := inb_in hi
  have hlt : nx j < S.2.2.1 (x - 1) := hi.2.2
  cases x with
  | zero => exact absurd rfl hi.1
  | succ a =>
    exact W.iald (v := .int (rd I (a + 1) j)) C.1 C.2.1 (h1.arr ho) (C.2.2.2.2.2.1.2.1.1 _ _) (fun q => by cases q) (by rw [arrV_size]; exact hin) (arrV_read _ _ hlt) rfl rfl hd hk
theorem g_iastore {x : Nat} {j v : Int32} (ht : tyR S 100 x) (hi : inb S x j) (hd : decode Y.2.1 pc = .ok (.iastore, 1)) (kk : GG E Y En S (wr I x j v) cs (pc + 1) L st g) : GG E Y En S I cs pc L (vI v :: vI j :: vA x :: st) g := by
  intro r hr p l e s m args below meth c C H locs ls h1 h2 h3
  have ho := ht.nz hi.1
  have hin := inb_in hi
  cases x with
  | zero => exact absurd rfl hi.1
  | succ a =>
    refine W.iast C.1 C.2.1 (h1.arr ho) (C.2.2.2.2.2.1.2.1.1 _ _) (fun q => by cases q) (by rw [arrV_size]; exact hin) rfl rfl hd (fun H1 e1 z o => ?_)
    refine kk r hr p l e s m args below meth c C H1 _ ls ?_ ?_ h3
    · refine h1.store ho.1 z o rfl (fun _ _ => rfl) (fun b hb => upI_ne hb) (Or.inl ⟨ho.2, ?_⟩) h1.2.2.2
      refine e1.trans ?_
      rw [arrV_store]
      congr 2
      funext q
      unfold updV wr upI nx
      by_cases hq : q = j.toNatClampNeg
      · simp [hq]
      · simp [hq]
    · intro q hq
      rcases List.mem_append.mp hq with h | h
      · exact h2 q h
      · rw [List.mem_singleton.mp h]; exact Nat.le_add_right _ _
theorem g_alen {x t : Nat} {n : Int32} (ht : tyR S 100 x) (hx : x ≠ 0) (hn : (S.2.2.1 (x - 1)).toInt32 = n) (hd : decode Y.2.1 pc = .ok (.arraylength, 1)) (kk : GG E Y En S I cs (pc + 1) L (vI n :: st) g) : GG E Y En S I cs pc L (vA x :: st) g := by
  intro r hr p l e s m args below meth c C H locs ls h1 h2 h3
  have hk := kk r hr p l e s m args below meth c C H locs ls h1 h2 h3
  cases x with
  | zero => exact absurd rfl hx
  | succ a => exact W.alen C.1 C.2.1 (h1.arr (ht.nz hx)) (C.2.2.2.2.2.1.2.1.1 _ _) (by rw [arrV_size]; exact hn) rfl rfl hd hk
/-- arrays of objects -/
def aoC (c : Nat) : Prop := c = 0 ∨ c = 1 ∨ c = 5 ∨ c = 7 ∨ c = 8
theorem g_aaload {x c0 : Nat} {j : Int32} (hc0 : aoC c0) (ht : tyR S (110 + c0) x) (hi : inb S x j) (hd : decode Y.2.1 pc = .ok (.aaload, 1)) (kk : tyR S c0 (S.1 (x - 1) (nx j)) → GG E Y En S I cs (pc + 1) L (vA (S.1 (x - 1) (nx j)) :: st) g) : GG E Y En S I cs pc L (vI j :: vA x :: st) g := by
  intro r hr p l e s m args below meth c C H locs ls h1 h2 h3
  have ho := ht.nz hi.1
  have hin := inb_in hi
  have hlt : nx j < S.2.2.1 (x - 1) := hi.2.2
  have hty : tyR S c0 (S.1 (x - 1) (nx j)) := by
    have := (h1.2.2.2 _ ho.1).2 (by rw [ho.2]; omega) (nx j) hlt
    rw [ho.2, Nat.add_sub_cancel_left] at this
    exact this
  have hk := kk hty r hr p l e s m args below meth c C H locs ls h1 h2 h3
  obtain ⟨q, hq⟩ : ∃ q, vwCl[c0]? = some q := by rcases hc0 with rfl | rfl | rfl | rfl | rfl <;> exact ⟨_, rfl⟩
  cases x with
  | zero => exact absurd rfl hi.1
  | succ a =>
    exact W.aald (v := rv E (S.1 a (nx j))) (ty := .object q.1) C.1 C.2.1 (h1.rarr ho) ((C.2.2.2.2.2.1.2.2.1 c0 q hq hc0).1 _ _) rfl (fun q => by cases q) (by rw [arrV_size]; exact hin) (arrV_read _ _ hlt) rfl rfl hd hk
theorem g_aastore {x c0 v : Nat} {j : Int32} (hc0 : aoC c0) (ht : tyR S (110 + c0) x) (hi : inb S x j) (hv : tyR S c0 v) (hv0 : v ≠ 0) (hd : decode Y.2.1 pc = .ok (.aastore, 1)) (kk : GG E Y En (upP S (x - 1) (nx j) v) I cs (pc + 1) L st g) : GG E Y En S I cs pc L (vA v :: vI j :: vA x :: st) g := by
  intro r hr p l e s m args below meth c C H locs ls h1 h2 h3
  have ho := ht.nz hi.1
  have hlt : nx j < S.2.2.1 (x - 1) := hi.2.2
  obtain ⟨q, hq⟩ : ∃ q, vwCl[c0]? = some q := by rcases hc0 with rfl | rfl | rfl | rfl | rfl <;> exact ⟨_, rfl⟩
  have hK := C.2.2.2.2.2.1
  have hcls := (hK.1 c0 q hq).2
  obtain ⟨kA, comp, k1, k2, k3, -⟩ := (hK.2.2.1 c0 q hq hc0).2
  have hcomp : comp = E.2.2.1.1 c0 := Option.some.inj (k3.symm.trans hcls.1)
  subst hcomp
  obtain ⟨kC, hkC, -⟩ := id hcls.2
  have hc12 : c0 < 12 := by rcases hc0 with rfl | rfl | rfl | rfl | rfl <;> decide
  cases x with
  | zero => exact absurd rfl hi.1
  | succ a =>
    cases v with
    | zero => exact absurd rfl hv0
    | succ v =>
      obtain ⟨cellV, g1, g2, g3, -⟩ := h1.obj (hv.nz hv0) hc12
      refine W.aast C.1 C.2.1 (h1.rarr ho) (fun q h => by cases h) (fun h => by cases h) k1 k2 rfl hkC ⟨hi.2.1, by rw [arrV_size]; exact hlt⟩ g1 (fun q h => by rw [g3] at h; cases h) (by rw [g2]; exact hkC) (by rw [g2]; exact va_assign hcls) rfl rfl hd fun H1 e1 z o => ?_
      refine kk r hr p l e s m args below meth c C H1 _ ls ?_ ?_ h3
      · refine h1.store ho.1 z o rfl (fun b hb => upP_ne hb) (fun _ _ => rfl) (Or.inr (Or.inl ⟨by show 110 ≤ S.2.1 a ∧ S.2.1 a < 122; rw [show S.2.1 a = 110 + c0 from ho.2]; omega, ?_⟩)) (h1.2.2.2.up ⟨fun h => by rw [ho.2] at h; omega, fun _ => by rw [ho.2, Nat.add_sub_cancel_left]; exact hv⟩)
        show H1[E.1 + a]? = some (arrV (E.2.2.2.2.1 (S.2.1 a - 110)) (S.2.2.1 a) _)
        rw [show S.2.1 a = 110 + c0 from ho.2, Nat.add_sub_cancel_left]
        refine e1.trans ?_
        rw [arrV_store]
        congr 2
        funext q
        unfold updV upP nx
        by_cases hq : q = j.toNatClampNeg
        · simp [hq]; rfl
        · simp [hq]
      · intro q hq
        rcases List.mem_append.mp hq with h | h
        · exact h2 q h
        · rw [List.mem_singleton.mp h]; exact Nat.le_add_right _ _
/-- new cells -/
theorem g_newarray {n : Int32} (hn : ¬ n < 0) (hnb : nx n ≤ 10000) (hcl : cs.1 + 1 ≤ Y.2.2.2.2.2.cells) (hsl : cs.2 + nx n ≤ Y.2.2.2.2.2.slots) (hac : Cond.arrayClass .int ∈ lw_good) (hd : decode Y.2.1 pc = .ok (.newarray .int, 2)) (kk : GG E Y En (nwS S 100 (nx n)) (nwI S I) (cs.1 + 1, cs.2 + nx n) (pc + 2) L (vA (S.2.2.2 + 1) :: st) g) : GG E Y En S I cs pc L (vI n :: st) g := by
  intro r hr p l e s m args below meth c C H locs ls h1 h2 h3
  refine W.newa C.1 C.2.1 (atype := .int) (C.2.2.2.2.1 _ hac) rfl hd rfl hn (by show nx n * _ ≤ _; have : componentBytes (newarray.typeOf .int) = 4 := rfl; rw [this]; omega) hcl hsl (fun cA kA comp f1 f2 f3 => ?_)
  have hcA : cA = E.2.2.2.1 := Option.some.inj (f1.symm.trans C.2.2.2.2.2.1.2.1.2)
  have hk := kk r hr p l e s m args below meth c C (H.push { cls := cA, slots := Array.replicate n.toNatClampNeg (defaultValue (newarray.typeOf .int)), vm := .none }) locs ls ?_ h2 h3
  · rw [h1.2.1]
    exact hk
  · refine h1.push (by simp) (fun q hq => Array.getElem?_push_lt hq ▸ by rw [Array.getElem?_eq_getElem hq]) (Or.inl ⟨by unfold nwS; simp, ?_⟩)
    have : (nwS S 100 (nx n)).2.2.1 S.2.2.2 = nx n := by unfold nwS; simp
    rw [this, ← h1.2.1, Array.getElem?_push_size, arrV_new, hcA]
    congr 2
    funext j
    unfold nwI
    simp
    rfl
theorem g_anewarray {n : Int32} {idx c0 : Nat} (hc0 : aoC c0) {CN : String} (hCN : (vwCl[c0]?).map (·.1) = some CN) (hn : ¬ n < 0) (hnb : nx n ≤ 10000) (hcl : cs.1 + 1 ≤ Y.2.2.2.2.2.cells) (hsl : cs.2 + nx n ≤ Y.2.2.2.2.2.slots) (hac : Cond.classLink Y.1 idx CN ∈ lw_good) (hd : decode Y.2.1 pc = .ok (.anewarray idx, 3)) (kk : GG E Y En (nwS S (110 + c0) (nx n)) (nwI S I) (cs.1 + 1, cs.2 + nx n) (pc + 3) L (vA (S.2.2.2 + 1) :: st) g) : GG E Y En S I cs pc L (vI n :: st) g := by
  intro r hr p l e s m args below meth c C H locs ls h1 h2 h3
  have hK := C.2.2.2.2.2.1
  obtain ⟨q, hq⟩ : ∃ q, vwCl[c0]? = some q := by rcases hc0 with rfl | rfl | rfl | rfl | rfl <;> exact ⟨_, rfl⟩
  rw [hq] at hCN
  cases hCN
  have hao : va_AO q.1 s := hK.2.2.2.2.2.2.2.1 _ (by rcases hc0 with rfl | rfl | rfl | rfl | rfl <;> cases hq <;> decide +kernel)
  refine W.anew C.1 C.2.1 C.2.2.2.1 (C.2.2.2.2.1 _ hac) (va_AO.use hao) rfl hd rfl hn (by show nx n * 4 ≤ _; omega) hcl hsl (fun cA kA comp f1 f2 f3 f4 => ?_)
  obtain ⟨kA', comp', k1, k2, k3, k4⟩ := (hK.2.2.1 c0 q hq hc0).2
  have hcA : cA = E.2.2.2.2.1 c0 := Option.some.inj (f1.symm.trans k4)
  have hc12 : c0 < 12 := by rcases hc0 with rfl | rfl | rfl | rfl | rfl <;> decide
  have hk := kk r hr p l e s m args below meth c C (H.push { cls := cA, slots := Array.replicate n.toNatClampNeg .null, vm := .none }) locs ls ?_ h2 h3
  · rw [h1.2.1]
    exact hk
  · refine h1.push (by simp) (fun q hq => Array.getElem?_push_lt hq ▸ by rw [Array.getElem?_eq_getElem hq]) (Or.inr (Or.inl ⟨by unfold nwS; simp; omega, ?_⟩))
    have e1 : (nwS S (110 + c0) (nx n)).2.2.1 S.2.2.2 = nx n := by unfold nwS; simp
    have e2 : (nwS S (110 + c0) (nx n)).2.1 S.2.2.2 = 110 + c0 := by unfold nwS; simp
    rw [e1, e2, Nat.add_sub_cancel_left, ← h1.2.1, Array.getElem?_push_size, arrV_new, hcA]
    congr 2
    funext j
    unfold nwS
    simp [h1.2.1]
    rfl
def NW (own : String) (idx ci : Nat) : Prop := ∃ (C : String) (T : u_T) (N : Nat) (ty0 : Nat → FieldType), vwCl[ci]? = some (C, T, N) ∧ fN ci = N ∧ ci < 12 ∧ (∀ j, j < N → parseFieldDescriptor (T j).2.2.1 = some (ty0 j)) ∧ (∀ j, j < N → (fk ci j < 2 → defaultValue (ty0 j) = .int 0) ∧ (2 ≤ fk ci j → defaultValue (ty0 j) = .null)) ∧ Cond.classLink own idx C ∈ lw_good ∧ Cond.instantiable C N ∈ lw_good ∧ Cond.initialized C ∈ lw_good ∧ ∀ w ∈ u_ws C T N, w ∈ lw_good
theorem g_new {idx ci : Nat} (hw : NW Y.1 idx ci) (hcl : cs.1 + 1 ≤ Y.2.2.2.2.2.cells) (hsl : cs.2 + fN ci ≤ Y.2.2.2.2.2.slots) (hd : decode Y.2.1 pc = .ok (.new idx, 3)) (kk : GG E Y En (nwS S ci 0) (nwI S I) (cs.1 + 1, cs.2 + fN ci) (pc + 3) L (vA (S.2.2.2 + 1) :: st) g) : GG E Y En S I cs pc L st g := by
  intro r hr p l e s m args below meth c C H locs ls h1 h2 h3
  obtain ⟨CN, T, N, ty0, q1, q2, q3, q4, q5, q6, q7, q8, q9⟩ := hw
  obtain ⟨hx, hb, -, hown, hts, hK, -⟩ := id C
  have hKn := hK.1 ci _ q1
  rw [q2] at hsl kk
  refine W.newcK hx hb hown (hts _ q6) (hts _ q7) (hts _ q8) rfl hd hcl hsl hKn.2.1 rfl fun H1 kC hkC e1 z1 o1 => ?_
  have hk := kk r hr p l e s m args below meth c C H1 locs ls ?_ h2 h3
  · rw [h1.2.1]
    exact hk
  · refine h1.push z1 o1 (Or.inr (Or.inr ⟨by unfold nwS; simp; exact q3, ?_⟩))
    have e2 : (nwS S ci 0).2.1 S.2.2.2 = ci := by unfold nwS; simp
    rw [e2, ← h1.2.1, q2]
    refine (u_born ty0 hts q9 hKn hkC e1 q4).to (fun j hj => ?_)
    unfold fv
    split
    · next h => rw [(q5 j hj).1 h]; unfold nwI; simp
    · next h => rw [(q5 j hj).2 (by omega)]; unfold nwS; simp; rfl
theorem g_objInit {idx x : Nat} (hl : Cond.methodLink Y.1 idx Lib.objectInit ∈ lw_good) (hi : Cond.instanceMethod Lib.objectInit ∈ lw_good) (hc : Cond.code Lib.objectInit ⟨#[0xb1]⟩ 1 none ∈ lw_good) (hx : x ≠ 0) (hf : 1 ≤ Y.2.2.2.2.2.frames) (hlo : ((st.map (lvV E)).map fun v => v.category).sum + 12 ≤ Y.2.2.2.2.2.locals) (hd : decode Y.2.1 pc = .ok (.invokespecial idx, 3)) (kk : GG E Y En S I cs (pc + 3) L st g) : GG E Y En S I cs pc L (vA x :: st) g := by
  intro r hr p l e s m args below meth c C H locs ls h1 h2 h3
  have hk := kk r hr p l e s m args below meth c C H locs ls h1 h2 h3
  cases x with
  | zero => exact absurd rfl hx
  | succ a =>
    refine W.objInit C.1 C.2.1 C.2.2.2.1 (C.2.2.2.2.1 _ hl) (C.2.2.2.2.1 _ hi) (C.2.2.2.2.1 _ hc) rfl (by rw [C.2.2.1]; exact h3.1) rfl hd hf (by show 2 * 0 + _ + 12 ≤ _; omega) hk
end
