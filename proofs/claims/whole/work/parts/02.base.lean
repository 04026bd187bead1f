/-! the base: a heap by numbers (I: int contents, P: references, 0 is null, a+1 the cell a; T: tags; len; n), and the judgement GG -/
abbrev II : Type := Nat → Nat → Int32
abbrev Sk : Type := (Nat → Nat → Nat) × (Nat → Nat) × (Nat → Nat) × Nat
abbrev EV : Type := Nat × Heap × va_G × ClassId × (Nat → ClassId) × (Nat × Nat × (Nat → Int32)) × Nat
def goodB (w : Cond) : Bool := (w.onTables && w.keeps) || (match w with | .arrayClass _ => true | _ => false)
def lw_good : List Cond := lw_tbl.filter goodB
theorem good_in {w : Cond} (h : w ∈ lw_good) : w ∈ lw_tbl := (List.mem_filter.mp h).1
theorem good_ok {w : Cond} (h : w ∈ lw_good) : (w.onTables && w.keeps) = true ∨ ∃ ty, w = .arrayClass ty := by
  have h2 := (List.mem_filter.mp h).2
  unfold goodB at h2
  rw [Bool.or_eq_true] at h2
  rcases h2 with h2 | h2
  · exact Or.inl h2
  · cases w <;> simp at h2 <;> exact Or.inr ⟨_, rfl⟩
def rv (E : EV) (r : Nat) : Value := match r with
  | 0 => .null
  | a + 1 => .ref (E.1 + a)
theorem rv_nz {E : EV} {r : Nat} (h : r ≠ 0) : rv E r = .ref (E.1 + (r - 1)) := by
  cases r with
  | zero => exact absurd rfl h
  | succ a => rfl
theorem rv_cat (E : EV) (r : Nat) : (rv E r).category = 1 := by
  cases r <;> rfl
/-- a field's kind: 0 int, 1 boolean, 2 + t a reference of tag t (a class by its number, 100 int[], 110 + c an array of class c) -/
def fkt : List (List Nat) := [[0, 0, 0], [0, 0, 0, 0, 0, 0, 102, 102, 102, 0, 0], [102, 102, 102, 0, 113, 0], [4, 102, 102, 102, 102, 0, 102, 0], [102, 0, 1, 0, 0, 102, 102, 102, 102, 102, 102], [1, 0, 0, 102], [0, 0, 0], [102], [0, 0, 0, 0, 0], [4, 102, 102, 102, 0, 0, 0], [4, 119, 0, 120, 0, 11, 113, 0, 112, 0, 102, 0, 6, 0, 5, 0, 117, 0, 0], [0, 0, 102, 102, 0, 102, 102, 102, 102, 102, 102, 102, 102, 102, 102, 0, 102, 102, 102, 102, 102, 0, 0, 102, 102, 102, 102, 102, 0, 102, 102, 0, 0, 0, 0, 102, 0, 102, 102, 102, 0, 102, 102, 0, 0, 0, 102, 0, 102, 102, 102, 0, 102, 102, 102, 102, 0]]
def fk (ci k : Nat) : Nat := (fkt.getD ci []).getD k 0
def fN (ci : Nat) : Nat := (fkt.getD ci []).length
def tyO (S : Sk) (t a : Nat) : Prop := a < S.2.2.2 ∧ S.2.1 a = t
def tyR (S : Sk) (t r : Nat) : Prop := r = 0 ∨ tyO S t (r - 1)
theorem tyR.nz {S : Sk} {t r : Nat} (h : tyR S t r) (hr : r ≠ 0) : tyO S t (r - 1) := h.resolve_left hr
theorem tyO.R {S : Sk} {t a : Nat} (h : tyO S t a) : tyR S t (a + 1) := Or.inr h
theorem tyR.null {S : Sk} {t : Nat} : tyR S t 0 := Or.inl rfl
def Sx (S S' : Sk) : Prop := S.2.2.2 ≤ S'.2.2.2 ∧ ∀ a, a < S.2.2.2 → S'.2.1 a = S.2.1 a ∧ S'.2.2.1 a = S.2.2.1 a
theorem Sx.rf {S : Sk} : Sx S S := ⟨Nat.le_refl _, fun _ _ => ⟨rfl, rfl⟩⟩
theorem Sx.tr {S S1 S2 : Sk} (h : Sx S S1) (h' : Sx S1 S2) : Sx S S2 :=
  ⟨Nat.le_trans h.1 h'.1, fun a ha => ⟨(h'.2 a (Nat.lt_of_lt_of_le ha h.1)).1.trans (h.2 a ha).1, (h'.2 a (Nat.lt_of_lt_of_le ha h.1)).2.trans (h.2 a ha).2⟩⟩
theorem tyO.x {S S' : Sk} {t a : Nat} (h : tyO S t a) (hx : Sx S S') : tyO S' t a := ⟨Nat.lt_of_lt_of_le h.1 hx.1, (hx.2 a h.1).1.trans h.2⟩
theorem tyR.x {S S' : Sk} {t r : Nat} (h : tyR S t r) (hx : Sx S S') : tyR S' t r := h.elim Or.inl (fun h => Or.inr (h.x hx))
def WF (S : Sk) : Prop := ∀ a, a < S.2.2.2 → (S.2.1 a < 12 → ∀ k, k < fN (S.2.1 a) → 2 ≤ fk (S.2.1 a) k → tyR S (fk (S.2.1 a) k - 2) (S.1 a k)) ∧ (110 ≤ S.2.1 a → ∀ j, j < S.2.2.1 a → tyR S (S.2.1 a - 110) (S.1 a j))
def fv (E : EV) (S : Sk) (I : II) (ci a k : Nat) : Value := if fk ci k < 2 then .int (I a k) else rv E (S.1 a k)
def cOK (E : EV) (S : Sk) (I : II) (H : Heap) (a : Nat) : Prop :=
  (S.2.1 a = 100 ∧ H[E.1 + a]? = some (arrV E.2.2.2.1 (S.2.2.1 a) (fun j => .int (I a j)))) ∨
  ((110 ≤ S.2.1 a ∧ S.2.1 a < 122) ∧ H[E.1 + a]? = some (arrV (E.2.2.2.2.1 (S.2.1 a - 110)) (S.2.2.1 a) (fun j => rv E (S.1 a j)))) ∨
  (S.2.1 a < 12 ∧ t_OB (E.1 + a) (E.2.2.1.1 (S.2.1 a)) (fN (S.2.1 a)) (E.2.2.1.2 (S.2.1 a)) H (fun k => fv E S I (S.2.1 a) a k))
def Rl (E : EV) (S : Sk) (I : II) (H : Heap) : Prop :=
  (∀ q : Nat, q < E.1 → H[q]? = E.2.1[q]?) ∧ H.size = E.1 + S.2.2.2 ∧ (∀ a, a < S.2.2.2 → cOK E S I H a) ∧ WF S
def isNst (w : Cond) : Bool := match w with | .methodLinkNest .. => true | _ => false
def nestW : List Cond := lw_tbl.filter isNst
def aoL : List String := [RX0, RX1, RX5, RX7, RX8]
/-- what the tables say of the classes and of the arrays; the script; the static row of signs; calls of nest mates; arrays of classes -/
def Kn (E : EV) (U : State) : Prop :=
  (∀ (c : Nat) (q : vw_C), vwCl[c]? = some q → u_Kn U q.1 q.2.1 q.2.2 (E.2.2.1.1 c) (E.2.2.1.2 c)) ∧
  (ArrOfT U E.2.2.2.1 .int ∧ va_RA U E.2.2.2.1 .int) ∧
  (∀ (c : Nat) (q : vw_C), vwCl[c]? = some q → (c = 0 ∨ c = 1 ∨ c = 5 ∨ c = 7 ∨ c = 8) → ArrOfT U (E.2.2.2.2.1 c) (.object q.1) ∧ va_RA U (E.2.2.2.2.1 c) (.object q.1)) ∧
  E.2.1.size = E.1 ∧
  (E.2.2.2.2.2.1.1 < E.1 ∧ va_X E.2.2.2.2.2.1.1 E.2.2.2.2.2.1.2.1 E.2.2.2.2.2.1.2.2 U E.2.1) ∧
  (E.2.2.2.2.2.2 < E.1 ∧ va_X E.2.2.2.2.2.2 4 (fun j => if j = 0 then 115 else if j = 1 then 62 else if j = 2 then 64 else 45) U E.2.1 ∧ va_Z "RedrawnLines$Text" "SIGNS" "[I" (.ref E.2.2.2.2.2.2) (fun q => E.1 ≤ q) U E.2.1) ∧
  (∀ w ∈ nestW, va_Nw w U) ∧ (∀ C ∈ aoL, va_AO C U) ∧ va_Nw (.castable "[I" "java/lang/Cloneable") U
/-- a method as the walk knows it: its class, code, locals, what it returns, its name, its room -/
abbrev MI : Type := String × ByteArray × Nat × Option FieldType × String × Room
def Cx (E : EV) (Y : MI) (p : Program) (s : State) (m : MethodId) (args : Array Value) (meth : Method) (c : Code) : Prop :=
  p.tables.exec = Jvm.exec ∧ c.code = Y.2.1 ∧ c.maxLocals = Y.2.2.1 ∧ s.vm.findClass Y.1 = some m.cls ∧ (∀ w ∈ lw_good, w.before args s = true) ∧ Kn E s ∧ meth.sig.returnType = Y.2.2.2.1 ∧ meth.locks = false ∧ meth.name = Y.2.2.2.2.1
/-- a local or a word of the stack: an int, a reference, a long; or a row that was there before: the script (false), the signs (true) -/
abbrev LV : Type := Int32 ⊕ Nat ⊕ Int64 ⊕ Bool
def lvV (E : EV) (v : LV) : Value := match v with
  | .inl x => .int x
  | .inr (.inl r) => rv E r
  | .inr (.inr (.inl n)) => .long n
  | .inr (.inr (.inr b)) => .ref (if b = true then E.2.2.2.2.2.2 else E.2.2.2.2.2.1.1)
def isW (v : LV) : Bool := match v with
  | .inl _ => false
  | .inr (.inl _) => false
  | .inr (.inr (.inl _)) => true
  | .inr (.inr (.inr _)) => false
abbrev vI (x : Int32) : LV := .inl x
abbrev vA (r : Nat) : LV := .inr (.inl r)
abbrev vL (n : Int64) : LV := .inr (.inr (.inl n))
abbrev vS (b : Bool) : LV := .inr (.inr (.inr b))
theorem lvV_cat {E : EV} {v : LV} (h : isW v = false) : (lvV E v).category = 1 := by
  match v with
  | .inl _ => rfl
  | .inr (.inl r) => exact rv_cat E r
  | .inr (.inr (.inl _)) => cases h
  | .inr (.inr (.inr _)) => rfl
def lkL (i : Nat) : List (Nat × LV) → Option LV
  | [] => none
  | (j, v) :: t => if i = j then some v else lkL i t
theorem lkL_mem {i : Nat} {v : LV} : ∀ {L : List (Nat × LV)}, lkL i L = some v → (i, v) ∈ L
  | (j, w) :: t, h => by
    unfold lkL at h
    split at h
    · next e => cases h; subst e; exact List.mem_cons_self
    · exact List.mem_cons_of_mem _ (lkL_mem h)
def insL (i : Nat) (v : LV) : List (Nat × LV) → List (Nat × LV)
  | [] => [(i, v)]
  | (j, w) :: t => if i < j then (i, v) :: (j, w) :: t else (j, w) :: insL i v t
theorem insL_mem {i : Nat} {v : LV} {q : Nat × LV} : ∀ {L : List (Nat × LV)}, q ∈ insL i v L → q = (i, v) ∨ q ∈ L
  | [], h => by unfold insL at h; exact Or.inl (List.mem_singleton.mp h)
  | (j, w) :: t, h => by
    unfold insL at h
    split at h
    · exact (List.mem_cons.mp h)
    · rcases List.mem_cons.mp h with h | h
      · exact Or.inr (by rw [h]; exact List.mem_cons_self)
      · rcases insL_mem h with h | h
        · exact Or.inl h
        · exact Or.inr (List.mem_cons_of_mem _ h)
def stL (i : Nat) (v : LV) (L : List (Nat × LV)) : List (Nat × LV) := insL i v (L.filter (fun q => !(q.1 == i) && !(q.1 + 1 == i && isW q.2)))
abbrev lvM (E : EV) (L : List (Nat × LV)) : List (Nat × Value) := L.map (fun q => (q.1, lvV E q.2))
theorem lkL_at {E : EV} {ls : Array Slot} {nL i : Nat} {v : LV} {L : List (Nat × LV)} (h : lv_has ls nL (lvM E L)) (hk : lkL i L = some v) : ls[i]? = some (.val (lvV E v)) :=
  h.2.2 (i, lvV E v) (List.mem_map.mpr ⟨_, lkL_mem hk, rfl⟩)
theorem lv_sel {ls : Array Slot} {nL : Nat} {l l' : List (Nat × Value)} (h : lv_has ls nL l) (hs : ∀ q ∈ l', q ∈ l) : lv_has ls nL l' := ⟨h.1, h.2.1, fun q hq => h.2.2 q (hs q hq)⟩
theorem stL_has {E : EV} {ls : Array Slot} {nL i : Nat} {v : LV} {L : List (Nat × LV)} (h : lv_has ls nL ((i, lvV E v) :: (lvM E L).filter (fun q => !(q.1 == i) && !(q.1 + 1 == i && q.2.category == 2)))) : lv_has ls nL (lvM E (stL i v L)) := by
  refine lv_sel h (fun q hq => ?_)
  obtain ⟨z, hz, rfl⟩ := List.mem_map.mp hq
  rcases insL_mem hz with rfl | hz
  · exact List.mem_cons_self
  · refine List.mem_cons_of_mem _ (List.mem_filter.mpr ⟨List.mem_map.mpr ⟨z, (List.mem_filter.mp hz).1, rfl⟩, ?_⟩)
    have h2 := (List.mem_filter.mp hz).2
    simp only [Bool.and_eq_true, Bool.not_eq_true'] at h2 ⊢
    refine ⟨h2.1, ?_⟩
    cases hw : isW z.2 with
    | true =>
      rw [hw, Bool.and_true] at h2
      show (z.1 + 1 == i && _) = false
      rw [h2.2]; rfl
    | false =>
      show (z.1 + 1 == i && (lvV E z.2).category == 2) = false
      rw [lvV_cat hw]; simp
def GG {ρ : Type} (E : EV) (Y : MI) (En : List Frame → Array Value → State → ρ → State → Prop) (S : Sk) (I : II) (cs : Nat × Nat) (pc : Nat) (L : List (Nat × LV)) (st : List LV) (g : Option ρ) : Prop :=
  ∀ r, g = some r → ∀ (p : Program) (l : Launch) (e : Env) (s : State) (m : MethodId) (args : Array Value) (below : List Frame) (meth : Method) (c : Code), Cx E Y p s m args meth c → ∀ (H : Heap) (locs : List Loc) (ls : Array Slot), Rl E S I H → (∀ q ∈ locs, E.1 ≤ q.base) → lv_has ls Y.2.2.1 (lvM E L) →
    W p l e Y.2.2.2.2.2 s m args below meth c H locs cs.1 cs.2 (En below args s r) (F0 m pc ls (st.map (lvV E)))
/-- what a reference that is answered is -/
def rtag (ft : Option FieldType) : Nat := match ft with
  | some (.array _) => 100
  | some (.object n) => if n = RX1 then 1 else 6
  | _ => 0
def tyV (S : Sk) (t : Nat) (ov : Option LV) : Prop := match ov with
  | some (.inr (.inl v)) => tyR S t v
  | _ => True
/-- a method's end: what it answers, and the numbers that the heap then has -/
def enM {ρ : Type} (E : EV) (Y : MI) (S0 : Sk) (po : ρ → Option LV × Sk × II) : List Frame → Array Value → State → ρ → State → Prop := fun below args s r =>
  MQ below (fun _ _ o t => o = .returned ((po r).1.map (lvV E)) ∧ Rl E (po r).2.1 (po r).2.2 t.heap ∧ Sx S0 (po r).2.1 ∧ tyV (po r).2.1 (rtag Y.2.2.2.1) (po r).1) args s Y.2.2.2.2.2.cells Y.2.2.2.2.2.slots (fun q => E.1 ≤ q)
def MX (E : EV) (y : MethodName) (Y : MI) (S : Sk) (I : II) (av : List LV) (out : Option LV × Sk × II) : Prop :=
  ∀ l : Launch, Met l y (.code y Y.2.1 Y.2.2.1 Y.2.2.2.1 :: lw_good) Y.2.2.2.2.2 (fun v U => v = (av.map (lvV E)).toArray ∧ Rl E S I U.heap ∧ Kn E U) (fun _ _ o t => o = .returned (out.1.map (lvV E)) ∧ Rl E out.2.1 out.2.2 t.heap ∧ Sx S out.2.1 ∧ tyV out.2.1 (rtag Y.2.2.2.1) out.1) Y.2.2.2.2.2.cells Y.2.2.2.2.2.slots (fun q => E.1 ≤ q)
theorem Kn.movedA {E : EV} {u U : State} (hvm : u.vm.Alike U.vm) (hN : ∀ w ∈ nestW, va_Nw w u → va_Nw w U) (hC : va_Nw (.castable "[I" "java/lang/Cloneable") u → va_Nw (.castable "[I" "java/lang/Cloneable") U) (h : Kn E u) : Kn E U := by
  obtain ⟨h1, h2, h3, h4, ⟨h5, h5'⟩, ⟨h6, h7, h8⟩, h9, h10, h11⟩ := h
  refine ⟨fun c q hq => u_Kn_moved hvm (h1 c q hq), ⟨arrOfT_moved hvm h2.1, h2.2.moved hvm⟩, fun c q hq hc => ⟨arrOfT_moved hvm (h3 c q hq hc).1, (h3 c q hq hc).2.moved hvm⟩, h4, ⟨h5, ?_⟩, ⟨h6, ?_, h8.moved hvm⟩, fun w hw => hN w hw (h9 w hw), fun C hC => (h10 C hC).moved hvm, hC h11⟩
  · obtain ⟨scr, a1, a2, a3⟩ := h5'
    exact ⟨scr, a1, State.isArrayOf_alike hvm a2, a3⟩
  · obtain ⟨scr, a1, a2, a3⟩ := h7
    exact ⟨scr, a1, State.isArrayOf_alike hvm a2, a3⟩
theorem nest_form {w : Cond} (h : w ∈ nestW) : ∃ a i x h, w = .methodLinkNest a i x h := by
  have h2 := (List.mem_filter.mp h).2
  unfold isNst at h2
  cases w <;> simp at h2 <;> exact ⟨_, _, _, _, rfl⟩
theorem Kn.moved {E : EV} {u U : State} (hW : u.WarmedH U.vm) (h : Kn E u) : Kn E U :=
  h.movedA hW.alike (fun w hw hz => by obtain ⟨a, i, x, h, rfl⟩ := nest_form hw; exact va_Nw.warmM hW hz) (va_Nw.warmC hW)
theorem Kn.same {E : EV} {u U : State} (hv : u.vm = U.vm) (h : Kn E u) : Kn E U :=
  h.movedA (hv ▸ Vm.Alike.refl u.vm) (fun w hw hz => by obtain ⟨a, i, x, h, rfl⟩ := nest_form hw; exact va_Nw.same rfl hv hz) (va_Nw.same rfl hv)
/-- programs in pieces: a guard, and a loop with fuel -/
def gd {ρ : Type} (c : Prop) [Decidable c] (x : Option ρ) : Option ρ := if c then x else none
def fixn {α ρ : Type} (F : (α → Option ρ) → α → Option ρ) : Nat → α → Option ρ
  | 0, _ => none
  | n + 1, a => F (fixn F n) a
def nx (j : Int32) : Nat := j.toNatClampNeg
abbrev inb (S : Sk) (r : Nat) (j : Int32) : Prop := r ≠ 0 ∧ ¬ j < 0 ∧ nx j < S.2.2.1 (r - 1)
def rd (I : II) (r : Nat) (j : Int32) : Int32 := I (r - 1) (nx j)
def upI (I : II) (a k : Nat) (v : Int32) : II := fun a' k' => if a' = a ∧ k' = k then v else I a' k'
def wr (I : II) (r : Nat) (j v : Int32) : II := upI I (r - 1) (nx j) v
def upP (S : Sk) (a k r : Nat) : Sk := (fun a' k' => if a' = a ∧ k' = k then r else S.1 a' k', S.2.1, S.2.2.1, S.2.2.2)
/-- a new cell of a tag, of so many elements: all zero -/
def nwS (S : Sk) (t ln : Nat) : Sk := (fun a k => if a = S.2.2.2 then 0 else S.1 a k, fun a => if a = S.2.2.2 then t else S.2.1 a, fun a => if a = S.2.2.2 then ln else S.2.2.1 a, S.2.2.2 + 1)
def nwI (S : Sk) (I : II) : II := fun a k => if a = S.2.2.2 then 0 else I a k
