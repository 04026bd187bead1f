section
variable {ρ : Type} {E : EV} {Y : MI} {En : List Frame → Array Value → State → ρ → State → Prop} {S : Sk} {I : II} {cs : Nat × Nat} {pc : Nat} {L : List (Nat × LV)} {st : List LV} {g : Option ρ}
theorem g_iconst {n : Int} {v : Int32} (hd : decode Y.2.1 pc = .ok (.iconst n, 1)) (hv : Int32.ofInt n = v) (k : GG E Y En S I cs (pc + 1) L (vI v :: st) g) : GG E Y En S I cs pc L (st) g :=
  fun r hr p l e s m args below meth c C H locs ls h1 h2 h3 => lv_iconst (v := v) C.1 C.2.1 hd hv (k r hr p l e s m args below meth c C H locs ls h1 h2 h3)
theorem g_bipush {n : Int} {v : Int32} (hd : decode Y.2.1 pc = .ok (.bipush n, 2)) (hv : (Int8.ofInt n).toInt32 = v) (k : GG E Y En S I cs (pc + 2) L (vI v :: st) g) : GG E Y En S I cs pc L (st) g :=
  fun r hr p l e s m args below meth c C H locs ls h1 h2 h3 => lv_bipush (v := v) C.1 C.2.1 hd hv (k r hr p l e s m args below meth c C H locs ls h1 h2 h3)
theorem g_sipush {n : Int} {v : Int32} (hd : decode Y.2.1 pc = .ok (.sipush n, 3)) (hv : (Int16.ofInt n).toInt32 = v) (k : GG E Y En S I cs (pc + 3) L (vI v :: st) g) : GG E Y En S I cs pc L (st) g :=
  fun r hr p l e s m args below meth c C H locs ls h1 h2 h3 => lv_sipush (v := v) C.1 C.2.1 hd hv (k r hr p l e s m args below meth c C H locs ls h1 h2 h3)
theorem g_lconst {n : Fin 2} {v : Int64} (hd : decode Y.2.1 pc = .ok (.lconst n, 1)) (hv : Int64.ofNat (n : Nat) = v) (k : GG E Y En S I cs (pc + 1) L (vL v :: st) g) : GG E Y En S I cs pc L (st) g :=
  fun r hr p l e s m args below meth c C H locs ls h1 h2 h3 => lv_lconst (v := v) C.1 C.2.1 hd hv (k r hr p l e s m args below meth c C H locs ls h1 h2 h3)
theorem g_ldc {n : Nat} {v : Int32} (hd : decode Y.2.1 pc = .ok (.ldc n, 2)) (hv : Cond.constant Y.1 n v ∈ lw_good) (k : GG E Y En S I cs (pc + 2) L (vI v :: st) g) : GG E Y En S I cs pc L (st) g :=
  fun r hr p l e s m args below meth c C H locs ls h1 h2 h3 => lv_ldc C.1 C.2.1 C.2.2.2.1 (C.2.2.2.2.1 _ hv) hd (k r hr p l e s m args below meth c C H locs ls h1 h2 h3)
theorem g_ldcw {n : Nat} {v : Int32} (hd : decode Y.2.1 pc = .ok (.ldc_w n, 3)) (hv : Cond.constant Y.1 n v ∈ lw_good) (k : GG E Y En S I cs (pc + 3) L (vI v :: st) g) : GG E Y En S I cs pc L (st) g :=
  fun r hr p l e s m args below meth c C H locs ls h1 h2 h3 => lv_ldcw C.1 C.2.1 C.2.2.2.1 (C.2.2.2.2.1 _ hv) hd (k r hr p l e s m args below meth c C H locs ls h1 h2 h3)
theorem g_ldc2 {n : Nat} {v : Int64} (hd : decode Y.2.1 pc = .ok (.ldc2_w n, 3)) (hv : Cond.constantLong Y.1 n v ∈ lw_good) (k : GG E Y En S I cs (pc + 3) L (vL v :: st) g) : GG E Y En S I cs pc L (st) g :=
  fun r hr p l e s m args below meth c C H locs ls h1 h2 h3 => lv_ldc2 C.1 C.2.1 C.2.2.2.1 (C.2.2.2.2.1 _ hv) hd (k r hr p l e s m args below meth c C H locs ls h1 h2 h3)
theorem g_null  (hd : decode Y.2.1 pc = .ok (.aconst_null, 1)) (k : GG E Y En S I cs (pc + 1) L (vA 0 :: st) g) : GG E Y En S I cs pc L (st) g :=
  fun r hr p l e s m args below meth c C H locs ls h1 h2 h3 => lv_null C.1 C.2.1 hd (k r hr p l e s m args below meth c C H locs ls h1 h2 h3)
theorem g_iload_n {i : Fin 4} {x : Int32} (hd : decode Y.2.1 pc = .ok (.iload_n i, 1)) (hl : lkL i L = some (vI x)) (k : GG E Y En S I cs (pc + 1) L (vI x :: st) g) : GG E Y En S I cs pc L (st) g :=
  fun r hr p l e s m args below meth c C H locs ls h1 h2 h3 => lv_iload_n C.1 C.2.1 hd rfl (lkL_at h3 hl) (k r hr p l e s m args below meth c C H locs ls h1 h2 h3)
theorem g_iload {i : Nat} {x : Int32} (hd : decode Y.2.1 pc = .ok (.iload i, 2)) (hl : lkL i L = some (vI x)) (k : GG E Y En S I cs (pc + 2) L (vI x :: st) g) : GG E Y En S I cs pc L (st) g :=
  fun r hr p l e s m args below meth c C H locs ls h1 h2 h3 => lv_iload C.1 C.2.1 hd (lkL_at h3 hl) (k r hr p l e s m args below meth c C H locs ls h1 h2 h3)
theorem g_lload_n {i : Fin 4} {x : Int64} (hd : decode Y.2.1 pc = .ok (.lload_n i, 1)) (hl : lkL i L = some (vL x)) (k : GG E Y En S I cs (pc + 1) L (vL x :: st) g) : GG E Y En S I cs pc L (st) g :=
  fun r hr p l e s m args below meth c C H locs ls h1 h2 h3 => lv_lload_n C.1 C.2.1 hd rfl (lkL_at h3 hl) (k r hr p l e s m args below meth c C H locs ls h1 h2 h3)
theorem g_lload {i : Nat} {x : Int64} (hd : decode Y.2.1 pc = .ok (.lload i, 2)) (hl : lkL i L = some (vL x)) (k : GG E Y En S I cs (pc + 2) L (vL x :: st) g) : GG E Y En S I cs pc L (st) g :=
  fun r hr p l e s m args below meth c C H locs ls h1 h2 h3 => lv_lload C.1 C.2.1 hd (lkL_at h3 hl) (k r hr p l e s m args below meth c C H locs ls h1 h2 h3)
theorem g_aload_n {i : Fin 4} {x : Nat} (hd : decode Y.2.1 pc = .ok (.aload_n i, 1)) (hl : lkL i L = some (vA x)) (k : GG E Y En S I cs (pc + 1) L (vA x :: st) g) : GG E Y En S I cs pc L (st) g := by
  intro r hr p l e s m args below meth c C H locs ls h1 h2 h3
  have hk := k r hr p l e s m args below meth c C H locs ls h1 h2 h3
  have hq := lkL_at h3 hl
  cases x with
  | zero => exact lv_aload_nN C.1 C.2.1 hd rfl hq hk
  | succ a => exact lv_aload_n C.1 C.2.1 hd rfl hq hk
theorem g_aload {i : Nat} {x : Nat} (hd : decode Y.2.1 pc = .ok (.aload i, 2)) (hl : lkL i L = some (vA x)) (k : GG E Y En S I cs (pc + 2) L (vA x :: st) g) : GG E Y En S I cs pc L (st) g := by
  intro r hr p l e s m args below meth c C H locs ls h1 h2 h3
  have hk := k r hr p l e s m args below meth c C H locs ls h1 h2 h3
  have hq := lkL_at h3 hl
  cases x with
  | zero => exact lv_aloadN C.1 C.2.1 hd hq hk
  | succ a => exact lv_aload C.1 C.2.1 hd hq hk
theorem g_istore_n {i : Fin 4} {x : Int32} {L' : List (Nat × LV)} (hd : decode Y.2.1 pc = .ok (.istore_n i, 1)) (hn : (i : Nat) < Y.2.2.1) (hL : stL i (vI x) L = L') (k : GG E Y En S I cs (pc + 1) L' (st) g) : GG E Y En S I cs pc L (vI x :: st) g :=
  fun r hr p l e s m args below meth c C H locs ls h1 h2 h3 => lv_istore_n C.1 C.2.1 hd rfl h3 hn rfl (fun ls h4 => k r hr p l e s m args below meth c C H locs ls h1 h2 (hL ▸ stL_has (v := vI x) h4))
theorem g_istore {i : Nat} {x : Int32} {L' : List (Nat × LV)} (hd : decode Y.2.1 pc = .ok (.istore i, 2)) (hn : (i : Nat) < Y.2.2.1) (hL : stL i (vI x) L = L') (k : GG E Y En S I cs (pc + 2) L' (st) g) : GG E Y En S I cs pc L (vI x :: st) g :=
  fun r hr p l e s m args below meth c C H locs ls h1 h2 h3 => lv_istore C.1 C.2.1 hd h3 hn rfl (fun ls h4 => k r hr p l e s m args below meth c C H locs ls h1 h2 (hL ▸ stL_has (v := vI x) h4))
theorem g_astore_n {i : Fin 4} {x : Nat} {L' : List (Nat × LV)} (hd : decode Y.2.1 pc = .ok (.astore_n i, 1)) (hn : (i : Nat) < Y.2.2.1) (hL : stL i (vA x) L = L') (k : GG E Y En S I cs (pc + 1) L' (st) g) : GG E Y En S I cs pc L (vA x :: st) g := by
  intro r hr p l e s m args below meth c C H locs ls h1 h2 h3
  cases x with
  | zero => exact lv_astore_nN C.1 C.2.1 hd rfl h3 hn rfl (fun ls h4 => k r hr p l e s m args below meth c C H locs ls h1 h2 (hL ▸ stL_has (v := vA 0) h4))
  | succ a => exact lv_astore_n C.1 C.2.1 hd rfl h3 hn rfl (fun ls h4 => k r hr p l e s m args below meth c C H locs ls h1 h2 (hL ▸ stL_has (v := vA (a + 1)) h4))
theorem g_astore {i : Nat} {x : Nat} {L' : List (Nat × LV)} (hd : decode Y.2.1 pc = .ok (.astore i, 2)) (hn : (i : Nat) < Y.2.2.1) (hL : stL i (vA x) L = L') (k : GG E Y En S I cs (pc + 2) L' (st) g) : GG E Y En S I cs pc L (vA x :: st) g := by
  intro r hr p l e s m args below meth c C H locs ls h1 h2 h3
  cases x with
  | zero => exact lv_astoreN C.1 C.2.1 hd h3 hn rfl (fun ls h4 => k r hr p l e s m args below meth c C H locs ls h1 h2 (hL ▸ stL_has (v := vA 0) h4))
  | succ a => exact lv_astore C.1 C.2.1 hd h3 hn rfl (fun ls h4 => k r hr p l e s m args below meth c C H locs ls h1 h2 (hL ▸ stL_has (v := vA (a + 1)) h4))
theorem g_iinc {i : Nat} {n : Int} {x v : Int32} {L' : List (Nat × LV)} (hd : decode Y.2.1 pc = .ok (.iinc i n, 3)) (hl : lkL i L = some (vI x)) (hv : Int32.ofInt n = v) (hn : i < Y.2.2.1) (hL : stL i (vI (x + v)) L = L') (k : GG E Y En S I cs (pc + 3) L' (st) g) : GG E Y En S I cs pc L (st) g := by
  intro r hr p l e s m args below meth c C H locs ls h1 h2 h3
  obtain ⟨kk, hk⟩ := List.getElem?_of_mem (List.mem_map.mpr ⟨_, lkL_mem hl, rfl⟩ : (i, lvV E (vI x)) ∈ lvM E L)
  exact lv_iinc C.1 C.2.1 hd h3 hk (by rw [hv]) hn rfl (fun ls h4 => k r hr p l e s m args below meth c C H locs ls h1 h2 (hL ▸ stL_has (v := vI (x + v)) h4))
theorem g_iadd {x y : Int32} (hd : decode Y.2.1 pc = .ok (.iadd, 1)) (k : GG E Y En S I cs (pc + 1) L (vI (x + y) :: st) g) : GG E Y En S I cs pc L (vI y :: vI x :: st) g :=
  fun r hr p l e s m args below meth c C H locs ls h1 h2 h3 => lv_iadd C.1 C.2.1 hd (k r hr p l e s m args below meth c C H locs ls h1 h2 h3)
theorem g_isub {x y : Int32} (hd : decode Y.2.1 pc = .ok (.isub, 1)) (k : GG E Y En S I cs (pc + 1) L (vI (x - y) :: st) g) : GG E Y En S I cs pc L (vI y :: vI x :: st) g :=
  fun r hr p l e s m args below meth c C H locs ls h1 h2 h3 => lv_isub C.1 C.2.1 hd (k r hr p l e s m args below meth c C H locs ls h1 h2 h3)
theorem g_imul {x y : Int32} (hd : decode Y.2.1 pc = .ok (.imul, 1)) (k : GG E Y En S I cs (pc + 1) L (vI (x * y) :: st) g) : GG E Y En S I cs pc L (vI y :: vI x :: st) g :=
  fun r hr p l e s m args below meth c C H locs ls h1 h2 h3 => lv_imul C.1 C.2.1 hd (k r hr p l e s m args below meth c C H locs ls h1 h2 h3)
theorem g_iand {x y : Int32} (hd : decode Y.2.1 pc = .ok (.iand, 1)) (k : GG E Y En S I cs (pc + 1) L (vI (x &&& y) :: st) g) : GG E Y En S I cs pc L (vI y :: vI x :: st) g :=
  fun r hr p l e s m args below meth c C H locs ls h1 h2 h3 => lv_iand C.1 C.2.1 hd (k r hr p l e s m args below meth c C H locs ls h1 h2 h3)
theorem g_ior {x y : Int32} (hd : decode Y.2.1 pc = .ok (.ior, 1)) (k : GG E Y En S I cs (pc + 1) L (vI (x ||| y) :: st) g) : GG E Y En S I cs pc L (vI y :: vI x :: st) g :=
  fun r hr p l e s m args below meth c C H locs ls h1 h2 h3 => lv_ior C.1 C.2.1 hd (k r hr p l e s m args below meth c C H locs ls h1 h2 h3)
theorem g_ixor {x y : Int32} (hd : decode Y.2.1 pc = .ok (.ixor, 1)) (k : GG E Y En S I cs (pc + 1) L (vI (x ^^^ y) :: st) g) : GG E Y En S I cs pc L (vI y :: vI x :: st) g :=
  fun r hr p l e s m args below meth c C H locs ls h1 h2 h3 => lv_ixor C.1 C.2.1 hd (k r hr p l e s m args below meth c C H locs ls h1 h2 h3)
theorem g_ishl {x y : Int32} (hd : decode Y.2.1 pc = .ok (.ishl, 1)) (k : GG E Y En S I cs (pc + 1) L (vI (x <<< (y &&& 31)) :: st) g) : GG E Y En S I cs pc L (vI y :: vI x :: st) g :=
  fun r hr p l e s m args below meth c C H locs ls h1 h2 h3 => lv_ishl C.1 C.2.1 hd (k r hr p l e s m args below meth c C H locs ls h1 h2 h3)
theorem g_ishr {x y : Int32} (hd : decode Y.2.1 pc = .ok (.ishr, 1)) (k : GG E Y En S I cs (pc + 1) L (vI (x >>> (y &&& 31)) :: st) g) : GG E Y En S I cs pc L (vI y :: vI x :: st) g :=
  fun r hr p l e s m args below meth c C H locs ls h1 h2 h3 => lv_ishr C.1 C.2.1 hd (k r hr p l e s m args below meth c C H locs ls h1 h2 h3)
theorem g_ladd {x y : Int64} (hd : decode Y.2.1 pc = .ok (.ladd, 1)) (k : GG E Y En S I cs (pc + 1) L (vL (x + y) :: st) g) : GG E Y En S I cs pc L (vL y :: vL x :: st) g :=
  fun r hr p l e s m args below meth c C H locs ls h1 h2 h3 => lv_ladd C.1 C.2.1 hd (k r hr p l e s m args below meth c C H locs ls h1 h2 h3)
theorem g_lsub {x y : Int64} (hd : decode Y.2.1 pc = .ok (.lsub, 1)) (k : GG E Y En S I cs (pc + 1) L (vL (x - y) :: st) g) : GG E Y En S I cs pc L (vL y :: vL x :: st) g :=
  fun r hr p l e s m args below meth c C H locs ls h1 h2 h3 => lv_lsub C.1 C.2.1 hd (k r hr p l e s m args below meth c C H locs ls h1 h2 h3)
theorem g_lmul {x y : Int64} (hd : decode Y.2.1 pc = .ok (.lmul, 1)) (k : GG E Y En S I cs (pc + 1) L (vL (x * y) :: st) g) : GG E Y En S I cs pc L (vL y :: vL x :: st) g :=
  fun r hr p l e s m args below meth c C H locs ls h1 h2 h3 => lv_lmul C.1 C.2.1 hd (k r hr p l e s m args below meth c C H locs ls h1 h2 h3)
theorem g_ineg {x : Int32} (hd : decode Y.2.1 pc = .ok (.ineg, 1)) (k : GG E Y En S I cs (pc + 1) L (vI (-x) :: st) g) : GG E Y En S I cs pc L (vI x :: st) g :=
  fun r hr p l e s m args below meth c C H locs ls h1 h2 h3 => lv_ineg C.1 C.2.1 hd (k r hr p l e s m args below meth c C H locs ls h1 h2 h3)
theorem g_i2l {x : Int32} (hd : decode Y.2.1 pc = .ok (.i2l, 1)) (k : GG E Y En S I cs (pc + 1) L (vL x.toInt64 :: st) g) : GG E Y En S I cs pc L (vI x :: st) g :=
  fun r hr p l e s m args below meth c C H locs ls h1 h2 h3 => lv_i2l C.1 C.2.1 hd rfl (k r hr p l e s m args below meth c C H locs ls h1 h2 h3)
theorem g_i2b {x : Int32} (hd : decode Y.2.1 pc = .ok (.i2b, 1)) (k : GG E Y En S I cs (pc + 1) L (vI x.toInt8.toInt32 :: st) g) : GG E Y En S I cs pc L (vI x :: st) g :=
  fun r hr p l e s m args below meth c C H locs ls h1 h2 h3 => lv_i2b C.1 C.2.1 hd rfl (k r hr p l e s m args below meth c C H locs ls h1 h2 h3)
theorem g_i2s {x : Int32} (hd : decode Y.2.1 pc = .ok (.i2s, 1)) (k : GG E Y En S I cs (pc + 1) L (vI x.toInt16.toInt32 :: st) g) : GG E Y En S I cs pc L (vI x :: st) g :=
  fun r hr p l e s m args below meth c C H locs ls h1 h2 h3 => lv_i2s C.1 C.2.1 hd rfl (k r hr p l e s m args below meth c C H locs ls h1 h2 h3)
theorem g_iushr {x y : Int32} (hd : decode Y.2.1 pc = .ok (.iushr, 1)) (k : GG E Y En S I cs (pc + 1) L (vI ((x.toUInt32 >>> (y.toUInt32 &&& Int32.toUInt32 31)).toInt32) :: st) g) : GG E Y En S I cs pc L (vI y :: vI x :: st) g :=
  fun r hr p l e s m args below meth c C H locs ls h1 h2 h3 => lv_iushr C.1 C.2.1 hd rfl (k r hr p l e s m args below meth c C H locs ls h1 h2 h3)
theorem g_lcmp {x y : Int64} (hd : decode Y.2.1 pc = .ok (.lcmp, 1)) (k : GG E Y En S I cs (pc + 1) L (vI (lg_cmp x y) :: st) g) : GG E Y En S I cs pc L (vL y :: vL x :: st) g :=
  fun r hr p l e s m args below meth c C H locs ls h1 h2 h3 => W.lcmp C.1 C.2.1 hd (k r hr p l e s m args below meth c C H locs ls h1 h2 h3)
theorem g_idiv {x y : Int32} (hd : decode Y.2.1 pc = .ok (.idiv, 1)) (hne : ¬ y = 0) (k : GG E Y En S I cs (pc + 1) L (vI (x / y) :: st) g) : GG E Y En S I cs pc L (vI y :: vI x :: st) g :=
  fun r hr p l e s m args below meth c C H locs ls h1 h2 h3 => lv_idiv C.1 C.2.1 hd hne (k r hr p l e s m args below meth c C H locs ls h1 h2 h3)
theorem g_irem {x y : Int32} (hd : decode Y.2.1 pc = .ok (.irem, 1)) (hne : ¬ y = 0) (k : GG E Y En S I cs (pc + 1) L (vI (x - x / y * y) :: st) g) : GG E Y En S I cs pc L (vI y :: vI x :: st) g :=
  fun r hr p l e s m args below meth c C H locs ls h1 h2 h3 => lv_irem C.1 C.2.1 hd hne (k r hr p l e s m args below meth c C H locs ls h1 h2 h3)
theorem g_dup {x : LV} (hd : decode Y.2.1 pc = .ok (.dup, 1)) (hx : isW x = false) (k : GG E Y En S I cs (pc + 1) L (x :: x :: st) g) : GG E Y En S I cs pc L (x :: st) g :=
  fun r hr p l e s m args below meth c C H locs ls h1 h2 h3 => lv_dup C.1 C.2.1 hd (lvV_cat hx) (k r hr p l e s m args below meth c C H locs ls h1 h2 h3)
theorem g_pop {x : LV} (hd : decode Y.2.1 pc = .ok (.pop, 1)) (hx : isW x = false) (k : GG E Y En S I cs (pc + 1) L (st) g) : GG E Y En S I cs pc L (x :: st) g :=
  fun r hr p l e s m args below meth c C H locs ls h1 h2 h3 => lv_pop C.1 C.2.1 hd (lvV_cat hx) (k r hr p l e s m args below meth c C H locs ls h1 h2 h3)
theorem g_dup2 {x y : LV} (hd : decode Y.2.1 pc = .ok (.dup2, 1)) (hx : isW x = false) (hy : isW y = false) (k : GG E Y En S I cs (pc + 1) L (x :: y :: x :: y :: st) g) : GG E Y En S I cs pc L (x :: y :: st) g :=
  fun r hr p l e s m args below meth c C H locs ls h1 h2 h3 => lv_dup2_11 C.1 C.2.1 hd (lvV_cat hx) (lvV_cat hy) (k r hr p l e s m args below meth c C H locs ls h1 h2 h3)
theorem g_dup_x1 {x y : LV} (hd : decode Y.2.1 pc = .ok (.dup_x1, 1)) (hx : isW x = false) (hy : isW y = false) (k : GG E Y En S I cs (pc + 1) L (x :: y :: x :: st) g) : GG E Y En S I cs pc L (x :: y :: st) g :=
  fun r hr p l e s m args below meth c C H locs ls h1 h2 h3 => lv_dup_x1 C.1 C.2.1 hd (lvV_cat hx) (lvV_cat hy) (k r hr p l e s m args below meth c C H locs ls h1 h2 h3)
theorem g_if_eq {x : Int32} {off : Int} {tgt : Nat} {A B : Option ρ} (hd : decode Y.2.1 pc = .ok (.ifCond .eq off, 3)) (ht : (pc : Int) + off = (tgt : Int)) (kt : x = 0 → GG E Y En S I cs tgt L (st) A) (kf : ¬ (x = 0) → GG E Y En S I cs (pc + 3) L (st) B) : GG E Y En S I cs pc L (vI x :: st) (if x = 0 then A else B) :=
  fun r hr p l e s m args below meth c C H locs ls h1 h2 h3 => lv_if_eq C.1 C.2.1 hd ht (fun hc => kt hc r (by rw [if_pos hc] at hr; exact hr) p l e s m args below meth c C H locs ls h1 h2 h3) (fun hc => kf hc r (by rw [if_neg hc] at hr; exact hr) p l e s m args below meth c C H locs ls h1 h2 h3)
theorem g_icmp_eq {x y : Int32} {off : Int} {tgt : Nat} {A B : Option ρ} (hd : decode Y.2.1 pc = .ok (.if_icmp .eq off, 3)) (ht : (pc : Int) + off = (tgt : Int)) (kt : x = y → GG E Y En S I cs tgt L (st) A) (kf : ¬ (x = y) → GG E Y En S I cs (pc + 3) L (st) B) : GG E Y En S I cs pc L (vI y :: vI x :: st) (if x = y then A else B) :=
  fun r hr p l e s m args below meth c C H locs ls h1 h2 h3 => lv_icmp_eq C.1 C.2.1 hd ht (fun hc => kt hc r (by rw [if_pos hc] at hr; exact hr) p l e s m args below meth c C H locs ls h1 h2 h3) (fun hc => kf hc r (by rw [if_neg hc] at hr; exact hr) p l e s m args below meth c C H locs ls h1 h2 h3)
theorem g_if_ne {x : Int32} {off : Int} {tgt : Nat} {A B : Option ρ} (hd : decode Y.2.1 pc = .ok (.ifCond .ne off, 3)) (ht : (pc : Int) + off = (tgt : Int)) (kt : ¬ (x = 0) → GG E Y En S I cs tgt L (st) A) (kf : x = 0 → GG E Y En S I cs (pc + 3) L (st) B) : GG E Y En S I cs pc L (vI x :: st) (if x = 0 then B else A) :=
  fun r hr p l e s m args below meth c C H locs ls h1 h2 h3 => lv_if_ne C.1 C.2.1 hd ht (fun hc => kt hc r (by rw [if_neg hc] at hr; exact hr) p l e s m args below meth c C H locs ls h1 h2 h3) (fun hc => kf hc r (by rw [if_pos hc] at hr; exact hr) p l e s m args below meth c C H locs ls h1 h2 h3)
theorem g_icmp_ne {x y : Int32} {off : Int} {tgt : Nat} {A B : Option ρ} (hd : decode Y.2.1 pc = .ok (.if_icmp .ne off, 3)) (ht : (pc : Int) + off = (tgt : Int)) (kt : ¬ (x = y) → GG E Y En S I cs tgt L (st) A) (kf : x = y → GG E Y En S I cs (pc + 3) L (st) B) : GG E Y En S I cs pc L (vI y :: vI x :: st) (if x = y then B else A) :=
  fun r hr p l e s m args below meth c C H locs ls h1 h2 h3 => lv_icmp_ne C.1 C.2.1 hd ht (fun hc => kt hc r (by rw [if_neg hc] at hr; exact hr) p l e s m args below meth c C H locs ls h1 h2 h3) (fun hc => kf hc r (by rw [if_pos hc] at hr; exact hr) p l e s m args below meth c C H locs ls h1 h2 h3)
theorem g_if_lt {x : Int32} {off : Int} {tgt : Nat} {A B : Option ρ} (hd : decode Y.2.1 pc = .ok (.ifCond .lt off, 3)) (ht : (pc : Int) + off = (tgt : Int)) (kt : x < 0 → GG E Y En S I cs tgt L (st) A) (kf : ¬ (x < 0) → GG E Y En S I cs (pc + 3) L (st) B) : GG E Y En S I cs pc L (vI x :: st) (if x < 0 then A else B) :=
  fun r hr p l e s m args below meth c C H locs ls h1 h2 h3 => lv_if_lt C.1 C.2.1 hd ht (fun hc => kt hc r (by rw [if_pos hc] at hr; exact hr) p l e s m args below meth c C H locs ls h1 h2 h3) (fun hc => kf hc r (by rw [if_neg hc] at hr; exact hr) p l e s m args below meth c C H locs ls h1 h2 h3)
theorem g_icmp_lt {x y : Int32} {off : Int} {tgt : Nat} {A B : Option ρ} (hd : decode Y.2.1 pc = .ok (.if_icmp .lt off, 3)) (ht : (pc : Int) + off = (tgt : Int)) (kt : x < y → GG E Y En S I cs tgt L (st) A) (kf : ¬ (x < y) → GG E Y En S I cs (pc + 3) L (st) B) : GG E Y En S I cs pc L (vI y :: vI x :: st) (if x < y then A else B) :=
  fun r hr p l e s m args below meth c C H locs ls h1 h2 h3 => lv_icmp_lt C.1 C.2.1 hd ht (fun hc => kt hc r (by rw [if_pos hc] at hr; exact hr) p l e s m args below meth c C H locs ls h1 h2 h3) (fun hc => kf hc r (by rw [if_neg hc] at hr; exact hr) p l e s m args below meth c C H locs ls h1 h2 h3)
theorem g_if_ge {x : Int32} {off : Int} {tgt : Nat} {A B : Option ρ} (hd : decode Y.2.1 pc = .ok (.ifCond .ge off, 3)) (ht : (pc : Int) + off = (tgt : Int)) (kt : 0 ≤ x → GG E Y En S I cs tgt L (st) A) (kf : ¬ (0 ≤ x) → GG E Y En S I cs (pc + 3) L (st) B) : GG E Y En S I cs pc L (vI x :: st) (if 0 ≤ x then A else B) :=
  fun r hr p l e s m args below meth c C H locs ls h1 h2 h3 => lv_if_ge C.1 C.2.1 hd ht (fun hc => kt hc r (by rw [if_pos hc] at hr; exact hr) p l e s m args below meth c C H locs ls h1 h2 h3) (fun hc => kf hc r (by rw [if_neg hc] at hr; exact hr) p l e s m args below meth c C H locs ls h1 h2 h3)
theorem g_icmp_ge {x y : Int32} {off : Int} {tgt : Nat} {A B : Option ρ} (hd : decode Y.2.1 pc = .ok (.if_icmp .ge off, 3)) (ht : (pc : Int) + off = (tgt : Int)) (kt : y ≤ x → GG E Y En S I cs tgt L (st) A) (kf : ¬ (y ≤ x) → GG E Y En S I cs (pc + 3) L (st) B) : GG E Y En S I cs pc L (vI y :: vI x :: st) (if y ≤ x then A else B) :=
  fun r hr p l e s m args below meth c C H locs ls h1 h2 h3 => lv_icmp_ge C.1 C.2.1 hd ht (fun hc => kt hc r (by rw [if_pos hc] at hr; exact hr) p l e s m args below meth c C H locs ls h1 h2 h3) (fun hc => kf hc r (by rw [if_neg hc] at hr; exact hr) p l e s m args below meth c C H locs ls h1 h2 h3)
theorem g_if_gt {x : Int32} {off : Int} {tgt : Nat} {A B : Option ρ} (hd : decode Y.2.1 pc = .ok (.ifCond .gt off, 3)) (ht : (pc : Int) + off = (tgt : Int)) (kt : 0 < x → GG E Y En S I cs tgt L (st) A) (kf : ¬ (0 < x) → GG E Y En S I cs (pc + 3) L (st) B) : GG E Y En S I cs pc L (vI x :: st) (if 0 < x then A else B) :=
  fun r hr p l e s m args below meth c C H locs ls h1 h2 h3 => lv_if_gt C.1 C.2.1 hd ht (fun hc => kt hc r (by rw [if_pos hc] at hr; exact hr) p l e s m args below meth c C H locs ls h1 h2 h3) (fun hc => kf hc r (by rw [if_neg hc] at hr; exact hr) p l e s m args below meth c C H locs ls h1 h2 h3)
theorem g_icmp_gt {x y : Int32} {off : Int} {tgt : Nat} {A B : Option ρ} (hd : decode Y.2.1 pc = .ok (.if_icmp .gt off, 3)) (ht : (pc : Int) + off = (tgt : Int)) (kt : y < x → GG E Y En S I cs tgt L (st) A) (kf : ¬ (y < x) → GG E Y En S I cs (pc + 3) L (st) B) : GG E Y En S I cs pc L (vI y :: vI x :: st) (if y < x then A else B) :=
  fun r hr p l e s m args below meth c C H locs ls h1 h2 h3 => lv_icmp_gt C.1 C.2.1 hd ht (fun hc => kt hc r (by rw [if_pos hc] at hr; exact hr) p l e s m args below meth c C H locs ls h1 h2 h3) (fun hc => kf hc r (by rw [if_neg hc] at hr; exact hr) p l e s m args below meth c C H locs ls h1 h2 h3)
theorem g_if_le {x : Int32} {off : Int} {tgt : Nat} {A B : Option ρ} (hd : decode Y.2.1 pc = .ok (.ifCond .le off, 3)) (ht : (pc : Int) + off = (tgt : Int)) (kt : x ≤ 0 → GG E Y En S I cs tgt L (st) A) (kf : ¬ (x ≤ 0) → GG E Y En S I cs (pc + 3) L (st) B) : GG E Y En S I cs pc L (vI x :: st) (if x ≤ 0 then A else B) :=
  fun r hr p l e s m args below meth c C H locs ls h1 h2 h3 => lv_if_le C.1 C.2.1 hd ht (fun hc => kt hc r (by rw [if_pos hc] at hr; exact hr) p l e s m args below meth c C H locs ls h1 h2 h3) (fun hc => kf hc r (by rw [if_neg hc] at hr; exact hr) p l e s m args below meth c C H locs ls h1 h2 h3)
theorem g_icmp_le {x y : Int32} {off : Int} {tgt : Nat} {A B : Option ρ} (hd : decode Y.2.1 pc = .ok (.if_icmp .le off, 3)) (ht : (pc : Int) + off = (tgt : Int)) (kt : x ≤ y → GG E Y En S I cs tgt L (st) A) (kf : ¬ (x ≤ y) → GG E Y En S I cs (pc + 3) L (st) B) : GG E Y En S I cs pc L (vI y :: vI x :: st) (if x ≤ y then A else B) :=
  fun r hr p l e s m args below meth c C H locs ls h1 h2 h3 => lv_icmp_le C.1 C.2.1 hd ht (fun hc => kt hc r (by rw [if_pos hc] at hr; exact hr) p l e s m args below meth c C H locs ls h1 h2 h3) (fun hc => kf hc r (by rw [if_neg hc] at hr; exact hr) p l e s m args below meth c C H locs ls h1 h2 h3)
theorem g_ifnull {x : Nat} {off : Int} {tgt : Nat} {A B : Option ρ} (hd : decode Y.2.1 pc = .ok (.ifnull off, 3)) (ht : (pc : Int) + off = (tgt : Int)) (kt : x = 0 → GG E Y En S I cs tgt L (st) A) (kf : ¬ x = 0 → GG E Y En S I cs (pc + 3) L (st) B) : GG E Y En S I cs pc L (vA x :: st) (if x = 0 then A else B) := by
  intro r hr p l e s m args below meth c C H locs ls h1 h2 h3
  cases x with
  | zero => exact lv_ifnullN C.1 C.2.1 hd ht (kt rfl r (by rw [if_pos rfl] at hr; exact hr) p l e s m args below meth c C H locs ls h1 h2 h3)
  | succ a => exact lv_ifnull C.1 C.2.1 hd (kf (Nat.succ_ne_zero a) r (by rw [if_neg (Nat.succ_ne_zero a)] at hr; exact hr) p l e s m args below meth c C H locs ls h1 h2 h3)
theorem g_ifnonnull {x : Nat} {off : Int} {tgt : Nat} {A B : Option ρ} (hd : decode Y.2.1 pc = .ok (.ifnonnull off, 3)) (ht : (pc : Int) + off = (tgt : Int)) (kt : ¬ x = 0 → GG E Y En S I cs tgt L (st) A) (kf : x = 0 → GG E Y En S I cs (pc + 3) L (st) B) : GG E Y En S I cs pc L (vA x :: st) (if x = 0 then B else A) := by
  intro r hr p l e s m args below meth c C H locs ls h1 h2 h3
  cases x with
  | zero => exact lv_ifnonnullN C.1 C.2.1 hd (kf rfl r (by rw [if_pos rfl] at hr; exact hr) p l e s m args below meth c C H locs ls h1 h2 h3)
  | succ a => exact lv_ifnonnull C.1 C.2.1 hd ht (kt (Nat.succ_ne_zero a) r (by rw [if_neg (Nat.succ_ne_zero a)] at hr; exact hr) p l e s m args below meth c C H locs ls h1 h2 h3)
theorem g_goto {off : Int} {tgt : Nat} (hd : decode Y.2.1 pc = .ok (.goto off, 3)) (ht : (pc : Int) + off = (tgt : Int)) (k : GG E Y En S I cs tgt L (st) g) : GG E Y En S I cs pc L (st) g :=
  fun r hr p l e s m args below meth c C H locs ls h1 h2 h3 => lv_goto C.1 C.2.1 hd ht (k r hr p l e s m args below meth c C H locs ls h1 h2 h3)
theorem g_tabIn {dflt lo hi : Int} {offs : Array Int} {len : Nat} {x : Int32} {off : Int} {tgt : Nat} (hd : decode Y.2.1 pc = .ok (.tableswitch dflt lo hi offs, len)) (a1 : ¬ x.toInt < lo) (a2 : ¬ hi < x.toInt) (ho : offs[(x.toInt - lo).toNat]? = some off) (ht : (pc : Int) + off = (tgt : Int)) (k : GG E Y En S I cs tgt L (st) g) : GG E Y En S I cs pc L (vI x :: st) g :=
  fun r hr p l e s m args below meth c C H locs ls h1 h2 h3 => lv_tableIn C.1 C.2.1 hd a1 a2 ho ht (k r hr p l e s m args below meth c C H locs ls h1 h2 h3)
theorem g_tabOut {dflt lo hi : Int} {offs : Array Int} {len : Nat} {x : Int32} {tgt : Nat} (hd : decode Y.2.1 pc = .ok (.tableswitch dflt lo hi offs, len)) (a1 : x.toInt < lo ∨ hi < x.toInt) (ht : (pc : Int) + dflt = (tgt : Int)) (k : GG E Y En S I cs tgt L (st) g) : GG E Y En S I cs pc L (vI x :: st) g :=
  fun r hr p l e s m args below meth c C H locs ls h1 h2 h3 => lv_tableOut C.1 C.2.1 hd a1 ht (k r hr p l e s m args below meth c C H locs ls h1 h2 h3)
theorem g_look {dflt : Int} {ps : Array (Int × Int)} {len : Nat} {x : Int32} {off : Int} {tgt : Nat} (hd : decode Y.2.1 pc = .ok (.lookupswitch dflt ps, len)) (hp : (ps.toList.zip (ps.toList.drop 1)).all (fun (a, next) => a.1 < next.1) = true) (ho : Op.lookupswitch.offset ps.toList dflt x.toInt = off) (ht : (pc : Int) + off = (tgt : Int)) (k : GG E Y En S I cs tgt L (st) g) : GG E Y En S I cs pc L (vI x :: st) g :=
  fun r hr p l e s m args below meth c C H locs ls h1 h2 h3 => lv_lookup C.1 C.2.1 hd hp ho ht (k r hr p l e s m args below meth c C H locs ls h1 h2 h3)
theorem g_ite {q : Prop} [Decidable q] {A B : Option ρ} (kt : q → GG E Y En S I cs pc L (st) A) (kf : ¬ q → GG E Y En S I cs pc L (st) B) : GG E Y En S I cs pc L (st) (if q then A else B) := by
  intro r hr p l e s m args below meth c C H locs ls h1 h2 h3
  by_cases hc : q
  · exact kt hc r (by rw [if_pos hc] at hr; exact hr) p l e s m args below meth c C H locs ls h1 h2 h3
  · exact kf hc r (by rw [if_neg hc] at hr; exact hr) p l e s m args below meth c C H locs ls h1 h2 h3
theorem g_gd {q : Prop} [Decidable q] (k : q → GG E Y En S I cs pc L (st) g) : GG E Y En S I cs pc L (st) (gd q g) := by
  intro r hr p l e s m args below meth c C H locs ls h1 h2 h3
  unfold gd at hr
  split at hr
  · next hc => exact k hc r hr p l e s m args below meth c C H locs ls h1 h2 h3
  · cases hr
theorem g_bind {α : Type} {f : Option α} {q : α → Option ρ} (k : ∀ x, f = some x → GG E Y En S I cs pc L (st) (q x)) : GG E Y En S I cs pc L (st) (f.bind q) := by
  intro r hr p l e s m args below meth c C H locs ls h1 h2 h3
  obtain ⟨x, hx, hq⟩ := Option.bind_eq_some_iff.mp hr
  exact k x hx r hq p l e s m args below meth c C H locs ls h1 h2 h3
theorem g_L {L' : List (Nat × LV)} (hs : ∀ q ∈ L', q ∈ L) (k : GG E Y En S I cs pc L' (st) g) : GG E Y En S I cs pc L (st) g :=
  fun r hr p l e s m args below meth c C H locs ls h1 h2 h3 => k r hr p l e s m args below meth c C H locs ls h1 h2 (lv_sel h3 (fun q hq => by obtain ⟨z, hz, rfl⟩ := List.mem_map.mp hq; exact List.mem_map.mpr ⟨z, hs z hz, rfl⟩))
theorem g_wide {cs' : Nat × Nat} (a1 : cs.1 ≤ cs'.1) (a2 : cs.2 ≤ cs'.2) (k : GG E Y En S I cs' pc L (st) g) : GG E Y En S I cs pc L (st) g :=
  fun r hr p l e s m args below meth c C H locs ls h1 h2 h3 => W.widen a1 a2 (k r hr p l e s m args below meth c C H locs ls h1 h2 h3)
end
theorem g_fix {ρ α : Type} {E : EV} {Y : MI} {En : List Frame → Array Value → State → ρ → State → Prop} {cs : Nat × Nat} {pc : Nat} {F : (α → Option ρ) → α → Option ρ} (cS : α → Sk) (cI : α → II) (cL : α → List (Nat × LV)) (inv : α → Prop)
    (h : ∀ (self : α → Option ρ) (a : α), inv a → (∀ b, inv b → GG E Y En (cS b) (cI b) cs pc (cL b) [] (self b)) → GG E Y En (cS a) (cI a) cs pc (cL a) [] (F self a)) : ∀ (n : Nat) (a : α), inv a → GG E Y En (cS a) (cI a) cs pc (cL a) [] (fixn F n a) := by
  intro n
  induction n with
  | zero => intro a _ r hr; cases hr
  | succ n ih => intro a ha; exact h (fixn F n) a ha ih
