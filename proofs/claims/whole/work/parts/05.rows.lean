section ZR
variable {G : zzG} {μ : zzMI} {t0 t1 t pc : Nat} {L : List (Option Value)} {st : List Value} {M : zzMem} {Q : Option Value → zzMem → Prop}
theorem r_iadd {x y : Int32} (hd : decode (zM_c μ) pc = .ok (.iadd, 1))  (k : zz_W G μ t0 t1 t (pc + 1) L (.int (x + y) :: st) M Q) : zz_W G μ t0 t1 t (pc) L (.int y :: .int x :: st) M Q := by
  intro p e s m args below meth c C H locs ls κ σ hκ hσ hS hH hL
  exact lv_iadd C.1 C.2.1 hd (k p e s m args below meth c C H locs ls κ σ hκ hσ hS hH hL)
theorem r_isub {x y : Int32} (hd : decode (zM_c μ) pc = .ok (.isub, 1))  (k : zz_W G μ t0 t1 t (pc + 1) L (.int (x - y) :: st) M Q) : zz_W G μ t0 t1 t (pc) L (.int y :: .int x :: st) M Q := by
  intro p e s m args below meth c C H locs ls κ σ hκ hσ hS hH hL
  exact lv_isub C.1 C.2.1 hd (k p e s m args below meth c C H locs ls κ σ hκ hσ hS hH hL)
theorem r_imul {x y : Int32} (hd : decode (zM_c μ) pc = .ok (.imul, 1))  (k : zz_W G μ t0 t1 t (pc + 1) L (.int (x * y) :: st) M Q) : zz_W G μ t0 t1 t (pc) L (.int y :: .int x :: st) M Q := by
  intro p e s m args below meth c C H locs ls κ σ hκ hσ hS hH hL
  exact lv_imul C.1 C.2.1 hd (k p e s m args below meth c C H locs ls κ σ hκ hσ hS hH hL)
theorem r_iand {x y : Int32} (hd : decode (zM_c μ) pc = .ok (.iand, 1))  (k : zz_W G μ t0 t1 t (pc + 1) L (.int (x &&& y) :: st) M Q) : zz_W G μ t0 t1 t (pc) L (.int y :: .int x :: st) M Q := by
  intro p e s m args below meth c C H locs ls κ σ hκ hσ hS hH hL
  exact lv_iand C.1 C.2.1 hd (k p e s m args below meth c C H locs ls κ σ hκ hσ hS hH hL)
theorem r_ior {x y : Int32} (hd : decode (zM_c μ) pc = .ok (.ior, 1))  (k : zz_W G μ t0 t1 t (pc + 1) L (.int (x ||| y) :: st) M Q) : zz_W G μ t0 t1 t (pc) L (.int y :: .int x :: st) M Q := by
  intro p e s m args below meth c C H locs ls κ σ hκ hσ hS hH hL
  exact lv_ior C.1 C.2.1 hd (k p e s m args below meth c C H locs ls κ σ hκ hσ hS hH hL)
theorem r_ixor {x y : Int32} (hd : decode (zM_c μ) pc = .ok (.ixor, 1))  (k : zz_W G μ t0 t1 t (pc + 1) L (.int (x ^^^ y) :: st) M Q) : zz_W G μ t0 t1 t (pc) L (.int y :: .int x :: st) M Q := by
  intro p e s m args below meth c C H locs ls κ σ hκ hσ hS hH hL
  exact lv_ixor C.1 C.2.1 hd (k p e s m args below meth c C H locs ls κ σ hκ hσ hS hH hL)
theorem r_ishl {x y : Int32} (hd : decode (zM_c μ) pc = .ok (.ishl, 1))  (k : zz_W G μ t0 t1 t (pc + 1) L (.int (x <<< (y &&& 31)) :: st) M Q) : zz_W G μ t0 t1 t (pc) L (.int y :: .int x :: st) M Q := by
  intro p e s m args below meth c C H locs ls κ σ hκ hσ hS hH hL
  exact lv_ishl C.1 C.2.1 hd (k p e s m args below meth c C H locs ls κ σ hκ hσ hS hH hL)
theorem r_ishr {x y : Int32} (hd : decode (zM_c μ) pc = .ok (.ishr, 1))  (k : zz_W G μ t0 t1 t (pc + 1) L (.int (x >>> (y &&& 31)) :: st) M Q) : zz_W G μ t0 t1 t (pc) L (.int y :: .int x :: st) M Q := by
  intro p e s m args below meth c C H locs ls κ σ hκ hσ hS hH hL
  exact lv_ishr C.1 C.2.1 hd (k p e s m args below meth c C H locs ls κ σ hκ hσ hS hH hL)
theorem r_idiv {x y : Int32} (hd : decode (zM_c μ) pc = .ok (.idiv, 1)) (hne : ¬ y = 0) (k : zz_W G μ t0 t1 t (pc + 1) L (.int (x / y) :: st) M Q) : zz_W G μ t0 t1 t (pc) L (.int y :: .int x :: st) M Q := by
  intro p e s m args below meth c C H locs ls κ σ hκ hσ hS hH hL
  exact lv_idiv C.1 C.2.1 hd hne (k p e s m args below meth c C H locs ls κ σ hκ hσ hS hH hL)
theorem r_irem {x y : Int32} (hd : decode (zM_c μ) pc = .ok (.irem, 1)) (hne : ¬ y = 0) (k : zz_W G μ t0 t1 t (pc + 1) L (.int (x - x / y * y) :: st) M Q) : zz_W G μ t0 t1 t (pc) L (.int y :: .int x :: st) M Q := by
  intro p e s m args below meth c C H locs ls κ σ hκ hσ hS hH hL
  exact lv_irem C.1 C.2.1 hd hne (k p e s m args below meth c C H locs ls κ σ hκ hσ hS hH hL)
theorem r_ladd {x y : Int64} (hd : decode (zM_c μ) pc = .ok (.ladd, 1))  (k : zz_W G μ t0 t1 t (pc + 1) L (.long (x + y) :: st) M Q) : zz_W G μ t0 t1 t (pc) L (.long y :: .long x :: st) M Q := by
  intro p e s m args below meth c C H locs ls κ σ hκ hσ hS hH hL
  exact lv_ladd C.1 C.2.1 hd (k p e s m args below meth c C H locs ls κ σ hκ hσ hS hH hL)
theorem r_land {x y : Int64} (hd : decode (zM_c μ) pc = .ok (.land, 1))  (k : zz_W G μ t0 t1 t (pc + 1) L (.long (x &&& y) :: st) M Q) : zz_W G μ t0 t1 t (pc) L (.long y :: .long x :: st) M Q := by
  intro p e s m args below meth c C H locs ls κ σ hκ hσ hS hH hL
  exact lv_land C.1 C.2.1 hd (k p e s m args below meth c C H locs ls κ σ hκ hσ hS hH hL)
theorem r_lor {x y : Int64} (hd : decode (zM_c μ) pc = .ok (.lor, 1))  (k : zz_W G μ t0 t1 t (pc + 1) L (.long (x ||| y) :: st) M Q) : zz_W G μ t0 t1 t (pc) L (.long y :: .long x :: st) M Q := by
  intro p e s m args below meth c C H locs ls κ σ hκ hσ hS hH hL
  exact lv_lor C.1 C.2.1 hd (k p e s m args below meth c C H locs ls κ σ hκ hσ hS hH hL)
theorem r_lshl {x : Int64} {y : Int32} (hd : decode (zM_c μ) pc = .ok (.lshl, 1))  (k : zz_W G μ t0 t1 t (pc + 1) L (.long (x <<< (y.toInt64 &&& 63)) :: st) M Q) : zz_W G μ t0 t1 t (pc) L (.int y :: .long x :: st) M Q := by
  intro p e s m args below meth c C H locs ls κ σ hκ hσ hS hH hL
  exact lv_lshl C.1 C.2.1 hd rfl (k p e s m args below meth c C H locs ls κ σ hκ hσ hS hH hL)
theorem r_lshr {x : Int64} {y : Int32} (hd : decode (zM_c μ) pc = .ok (.lshr, 1))  (k : zz_W G μ t0 t1 t (pc + 1) L (.long (x >>> (y.toInt64 &&& 63)) :: st) M Q) : zz_W G μ t0 t1 t (pc) L (.int y :: .long x :: st) M Q := by
  intro p e s m args below meth c C H locs ls κ σ hκ hσ hS hH hL
  exact lv_lshr C.1 C.2.1 hd rfl (k p e s m args below meth c C H locs ls κ σ hκ hσ hS hH hL)
theorem r_ineg {x : Int32} (hd : decode (zM_c μ) pc = .ok (.ineg, 1))  (k : zz_W G μ t0 t1 t (pc + 1) L (.int (-x) :: st) M Q) : zz_W G μ t0 t1 t (pc) L (.int x :: st) M Q := by
  intro p e s m args below meth c C H locs ls κ σ hκ hσ hS hH hL
  exact lv_ineg C.1 C.2.1 hd (k p e s m args below meth c C H locs ls κ σ hκ hσ hS hH hL)
theorem r_i2l {x : Int32} (hd : decode (zM_c μ) pc = .ok (.i2l, 1))  (k : zz_W G μ t0 t1 t (pc + 1) L (.long x.toInt64 :: st) M Q) : zz_W G μ t0 t1 t (pc) L (.int x :: st) M Q := by
  intro p e s m args below meth c C H locs ls κ σ hκ hσ hS hH hL
  exact lv_i2l C.1 C.2.1 hd rfl (k p e s m args below meth c C H locs ls κ σ hκ hσ hS hH hL)
theorem r_l2i {x : Int64} (hd : decode (zM_c μ) pc = .ok (.l2i, 1))  (k : zz_W G μ t0 t1 t (pc + 1) L (.int x.toInt32 :: st) M Q) : zz_W G μ t0 t1 t (pc) L (.long x :: st) M Q := by
  intro p e s m args below meth c C H locs ls κ σ hκ hσ hS hH hL
  exact lv_l2i C.1 C.2.1 hd rfl (k p e s m args below meth c C H locs ls κ σ hκ hσ hS hH hL)
theorem r_i2b {x : Int32} (hd : decode (zM_c μ) pc = .ok (.i2b, 1))  (k : zz_W G μ t0 t1 t (pc + 1) L (.int x.toInt8.toInt32 :: st) M Q) : zz_W G μ t0 t1 t (pc) L (.int x :: st) M Q := by
  intro p e s m args below meth c C H locs ls κ σ hκ hσ hS hH hL
  exact lv_i2b C.1 C.2.1 hd rfl (k p e s m args below meth c C H locs ls κ σ hκ hσ hS hH hL)
theorem r_lcmp {x y : Int64} (hd : decode (zM_c μ) pc = .ok (.lcmp, 1))  (k : zz_W G μ t0 t1 t (pc + 1) L (.int (lg_cmp x y) :: st) M Q) : zz_W G μ t0 t1 t (pc) L (.long y :: .long x :: st) M Q := by
  intro p e s m args below meth c C H locs ls κ σ hκ hσ hS hH hL
  exact W.lcmp C.1 C.2.1 hd (k p e s m args below meth c C H locs ls κ σ hκ hσ hS hH hL)
theorem r_dup {v : Value} (hd : decode (zM_c μ) pc = .ok (.dup, 1)) (hv : v.category = 1) (k : zz_W G μ t0 t1 t (pc + 1) L (v :: v :: st) M Q) : zz_W G μ t0 t1 t (pc) L (v :: st) M Q := by
  intro p e s m args below meth c C H locs ls κ σ hκ hσ hS hH hL
  exact lv_dup C.1 C.2.1 hd ((zz_rv_cat G v).trans hv) (k p e s m args below meth c C H locs ls κ σ hκ hσ hS hH hL)
theorem r_pop {v : Value} (hd : decode (zM_c μ) pc = .ok (.pop, 1)) (hv : v.category = 1) (k : zz_W G μ t0 t1 t (pc + 1) L (st) M Q) : zz_W G μ t0 t1 t (pc) L (v :: st) M Q := by
  intro p e s m args below meth c C H locs ls κ σ hκ hσ hS hH hL
  exact lv_pop C.1 C.2.1 hd ((zz_rv_cat G v).trans hv) (k p e s m args below meth c C H locs ls κ σ hκ hσ hS hH hL)
theorem r_dup2 {v w : Value} (hd : decode (zM_c μ) pc = .ok (.dup2, 1)) (hv : v.category = 1) (hw : w.category = 1) (k : zz_W G μ t0 t1 t (pc + 1) L (v :: w :: v :: w :: st) M Q) : zz_W G μ t0 t1 t (pc) L (v :: w :: st) M Q := by
  intro p e s m args below meth c C H locs ls κ σ hκ hσ hS hH hL
  exact lv_dup2_11 C.1 C.2.1 hd ((zz_rv_cat G v).trans hv) ((zz_rv_cat G w).trans hw) (k p e s m args below meth c C H locs ls κ σ hκ hσ hS hH hL)
theorem r_iconst {n : Int} {v : Int32} (hd : decode (zM_c μ) pc = .ok (.iconst n, 1)) (hv : Int32.ofInt n = v) (k : zz_W G μ t0 t1 t (pc + 1) L (.int v :: st) M Q) : zz_W G μ t0 t1 t (pc) L (st) M Q := by
  intro p e s m args below meth c C H locs ls κ σ hκ hσ hS hH hL
  exact lv_iconst C.1 C.2.1 hd hv (k p e s m args below meth c C H locs ls κ σ hκ hσ hS hH hL)
theorem r_bipush {n : Int} {v : Int32} (hd : decode (zM_c μ) pc = .ok (.bipush n, 2)) (hv : (Int8.ofInt n).toInt32 = v) (k : zz_W G μ t0 t1 t (pc + 2) L (.int v :: st) M Q) : zz_W G μ t0 t1 t (pc) L (st) M Q := by
  intro p e s m args below meth c C H locs ls κ σ hκ hσ hS hH hL
  exact lv_bipush C.1 C.2.1 hd hv (k p e s m args below meth c C H locs ls κ σ hκ hσ hS hH hL)
theorem r_sipush {n : Int} {v : Int32} (hd : decode (zM_c μ) pc = .ok (.sipush n, 3)) (hv : (Int16.ofInt n).toInt32 = v) (k : zz_W G μ t0 t1 t (pc + 3) L (.int v :: st) M Q) : zz_W G μ t0 t1 t (pc) L (st) M Q := by
  intro p e s m args below meth c C H locs ls κ σ hκ hσ hS hH hL
  exact lv_sipush C.1 C.2.1 hd hv (k p e s m args below meth c C H locs ls κ σ hκ hσ hS hH hL)
theorem r_lconst {n : Fin 2} {v : Int64} (hd : decode (zM_c μ) pc = .ok (.lconst n, 1)) (hv : Int64.ofNat (n : Nat) = v) (k : zz_W G μ t0 t1 t (pc + 1) L (.long v :: st) M Q) : zz_W G μ t0 t1 t (pc) L (st) M Q := by
  intro p e s m args below meth c C H locs ls κ σ hκ hσ hS hH hL
  exact lv_lconst C.1 C.2.1 hd hv (k p e s m args below meth c C H locs ls κ σ hκ hσ hS hH hL)
theorem r_ldc {idx : Nat} {v : Int32} (hd : decode (zM_c μ) pc = .ok (.ldc idx, 2)) (hw : Cond.constant (zM_y μ).cls idx v ∈ zz_tbl) (k : zz_W G μ t0 t1 t (pc + 2) L (.int v :: st) M Q) : zz_W G μ t0 t1 t (pc) L (st) M Q := by
  intro p e s m args below meth c C H locs ls κ σ hκ hσ hS hH hL
  exact lv_ldc C.1 C.2.1 C.2.2.2.2.1 (C.2.2.2.2.2.1 _ hw) hd (k p e s m args below meth c C H locs ls κ σ hκ hσ hS hH hL)
theorem r_ldc2 {idx : Nat} {v : Int64} (hd : decode (zM_c μ) pc = .ok (.ldc2_w idx, 3)) (hw : Cond.constantLong (zM_y μ).cls idx v ∈ zz_tbl) (k : zz_W G μ t0 t1 t (pc + 3) L (.long v :: st) M Q) : zz_W G μ t0 t1 t (pc) L (st) M Q := by
  intro p e s m args below meth c C H locs ls κ σ hκ hσ hS hH hL
  exact lv_ldc2 C.1 C.2.1 C.2.2.2.2.1 (C.2.2.2.2.2.1 _ hw) hd (k p e s m args below meth c C H locs ls κ σ hκ hσ hS hH hL)
theorem r_iload_n {i : Fin 4} {x : Int32} (hd : decode (zM_c μ) pc = .ok (.iload_n i, 1)) (hl : L[(i : Nat)]? = some (some (.int x))) (k : zz_W G μ t0 t1 t (pc + 1) L (.int x :: st) M Q) : zz_W G μ t0 t1 t (pc) L (st) M Q := by
  intro p e s m args below meth c C H locs ls κ σ hκ hσ hS hH hL
  exact lv_iload_n C.1 C.2.1 hd rfl (hL.2.2 _ _ hl) (k p e s m args below meth c C H locs ls κ σ hκ hσ hS hH hL)
theorem r_iload {i : Nat} {x : Int32} (hd : decode (zM_c μ) pc = .ok (.iload i, 2)) (hl : L[i]? = some (some (.int x))) (k : zz_W G μ t0 t1 t (pc + 2) L (.int x :: st) M Q) : zz_W G μ t0 t1 t (pc) L (st) M Q := by
  intro p e s m args below meth c C H locs ls κ σ hκ hσ hS hH hL
  exact lv_iload C.1 C.2.1 hd (hL.2.2 _ _ hl) (k p e s m args below meth c C H locs ls κ σ hκ hσ hS hH hL)
theorem r_lload_n {i : Fin 4} {x : Int64} (hd : decode (zM_c μ) pc = .ok (.lload_n i, 1)) (hl : L[(i : Nat)]? = some (some (.long x))) (k : zz_W G μ t0 t1 t (pc + 1) L (.long x :: st) M Q) : zz_W G μ t0 t1 t (pc) L (st) M Q := by
  intro p e s m args below meth c C H locs ls κ σ hκ hσ hS hH hL
  exact lv_lload_n C.1 C.2.1 hd rfl (hL.2.2 _ _ hl) (k p e s m args below meth c C H locs ls κ σ hκ hσ hS hH hL)
theorem r_lload {i : Nat} {x : Int64} (hd : decode (zM_c μ) pc = .ok (.lload i, 2)) (hl : L[i]? = some (some (.long x))) (k : zz_W G μ t0 t1 t (pc + 2) L (.long x :: st) M Q) : zz_W G μ t0 t1 t (pc) L (st) M Q := by
  intro p e s m args below meth c C H locs ls κ σ hκ hσ hS hH hL
  exact lv_lload C.1 C.2.1 hd (hL.2.2 _ _ hl) (k p e s m args below meth c C H locs ls κ σ hκ hσ hS hH hL)
theorem r_aload_n {i : Fin 4} {x : Nat} (hd : decode (zM_c μ) pc = .ok (.aload_n i, 1)) (hl : L[(i : Nat)]? = some (some (.ref x))) (k : zz_W G μ t0 t1 t (pc + 1) L (.ref x :: st) M Q) : zz_W G μ t0 t1 t (pc) L (st) M Q := by
  intro p e s m args below meth c C H locs ls κ σ hκ hσ hS hH hL
  exact lv_aload_n C.1 C.2.1 hd rfl (hL.2.2 _ _ hl) (k p e s m args below meth c C H locs ls κ σ hκ hσ hS hH hL)
theorem r_aload {i : Nat} {x : Nat} (hd : decode (zM_c μ) pc = .ok (.aload i, 2)) (hl : L[i]? = some (some (.ref x))) (k : zz_W G μ t0 t1 t (pc + 2) L (.ref x :: st) M Q) : zz_W G μ t0 t1 t (pc) L (st) M Q := by
  intro p e s m args below meth c C H locs ls κ σ hκ hσ hS hH hL
  exact lv_aload C.1 C.2.1 hd (hL.2.2 _ _ hl) (k p e s m args below meth c C H locs ls κ σ hκ hσ hS hH hL)
theorem r_istore_n {i : Fin 4} {x : Int32} (L' : Int32 → List (Option Value)) (hd : decode (zM_c μ) pc = .ok (.istore_n i, 1)) (hn : (i : Nat) < zM_n μ) (ok : zz_okS L (i : Nat) = true) (hL' : ∀ y, (L.set (i : Nat) (some (.int y))) = L' y) (k : ∀ y : Int32, y = x → zz_W G μ t0 t1 t (pc + 1) (L' y) (st) M Q) : zz_W G μ t0 t1 t (pc) L (.int x :: st) M Q := by
  intro p e s m args below meth c C H locs ls κ σ hκ hσ hS hH hL
  refine lv_istore_n C.1 C.2.1 hd rfl hL.has hn rfl (fun ls' h' => ?_)
  exact k x rfl p e s m args below meth c C H locs ls' κ σ hκ hσ hS hH (hL' x ▸ zz_L.store (ls := ls) (v := .int x) ok h')
theorem r_istore {i : Nat} {x : Int32} (L' : Int32 → List (Option Value)) (hd : decode (zM_c μ) pc = .ok (.istore i, 2)) (hn : i < zM_n μ) (ok : zz_okS L i = true) (hL' : ∀ y, (L.set i (some (.int y))) = L' y) (k : ∀ y : Int32, y = x → zz_W G μ t0 t1 t (pc + 2) (L' y) (st) M Q) : zz_W G μ t0 t1 t (pc) L (.int x :: st) M Q := by
  intro p e s m args below meth c C H locs ls κ σ hκ hσ hS hH hL
  refine lv_istore C.1 C.2.1 hd hL.has hn rfl (fun ls' h' => ?_)
  exact k x rfl p e s m args below meth c C H locs ls' κ σ hκ hσ hS hH (hL' x ▸ zz_L.store (ls := ls) (v := .int x) ok h')
theorem r_lstore_n {i : Fin 4} {x : Int64} (L' : Int64 → List (Option Value)) (hd : decode (zM_c μ) pc = .ok (.lstore_n i, 1)) (hn : (i : Nat) + 1 < zM_n μ) (ok : zz_okS L (i : Nat) = true) (hL' : ∀ y, ((L.set (i : Nat) (some (.long y))).set ((i : Nat) + 1) none) = L' y) (k : ∀ y : Int64, y = x → zz_W G μ t0 t1 t (pc + 1) (L' y) (st) M Q) : zz_W G μ t0 t1 t (pc) L (.long x :: st) M Q := by
  intro p e s m args below meth c C H locs ls κ σ hκ hσ hS hH hL
  refine lv_lstore_n C.1 C.2.1 hd rfl hL.has hn rfl (fun ls' h' => ?_)
  exact k x rfl p e s m args below meth c C H locs ls' κ σ hκ hσ hS hH (hL' x ▸ zz_L.store2 (ls := ls) (v := .long x) ok h')
theorem r_lstore {i : Nat} {x : Int64} (L' : Int64 → List (Option Value)) (hd : decode (zM_c μ) pc = .ok (.lstore i, 2)) (hn : i + 1 < zM_n μ) (ok : zz_okS L i = true) (hL' : ∀ y, ((L.set i (some (.long y))).set (i + 1) none) = L' y) (k : ∀ y : Int64, y = x → zz_W G μ t0 t1 t (pc + 2) (L' y) (st) M Q) : zz_W G μ t0 t1 t (pc) L (.long x :: st) M Q := by
  intro p e s m args below meth c C H locs ls κ σ hκ hσ hS hH hL
  refine lv_lstore C.1 C.2.1 hd hL.has hn rfl (fun ls' h' => ?_)
  exact k x rfl p e s m args below meth c C H locs ls' κ σ hκ hσ hS hH (hL' x ▸ zz_L.store2 (ls := ls) (v := .long x) ok h')
theorem r_astore_n {i : Fin 4} {x : Nat} (L' : Nat → List (Option Value)) (hd : decode (zM_c μ) pc = .ok (.astore_n i, 1)) (hn : (i : Nat) < zM_n μ) (ok : zz_okS L (i : Nat) = true) (hL' : ∀ y, (L.set (i : Nat) (some (.ref y))) = L' y) (k : ∀ y : Nat, y = x → zz_W G μ t0 t1 t (pc + 1) (L' y) (st) M Q) : zz_W G μ t0 t1 t (pc) L (.ref x :: st) M Q := by
  intro p e s m args below meth c C H locs ls κ σ hκ hσ hS hH hL
  refine lv_astore_n C.1 C.2.1 hd rfl hL.has hn rfl (fun ls' h' => ?_)
  exact k x rfl p e s m args below meth c C H locs ls' κ σ hκ hσ hS hH (hL' x ▸ zz_L.store (ls := ls) (v := .ref x) ok h')
theorem r_astore {i : Nat} {x : Nat} (L' : Nat → List (Option Value)) (hd : decode (zM_c μ) pc = .ok (.astore i, 2)) (hn : i < zM_n μ) (ok : zz_okS L i = true) (hL' : ∀ y, (L.set i (some (.ref y))) = L' y) (k : ∀ y : Nat, y = x → zz_W G μ t0 t1 t (pc + 2) (L' y) (st) M Q) : zz_W G μ t0 t1 t (pc) L (.ref x :: st) M Q := by
  intro p e s m args below meth c C H locs ls κ σ hκ hσ hS hH hL
  refine lv_astore C.1 C.2.1 hd hL.has hn rfl (fun ls' h' => ?_)
  exact k x rfl p e s m args below meth c C H locs ls' κ σ hκ hσ hS hH (hL' x ▸ zz_L.store (ls := ls) (v := .ref x) ok h')
theorem r_iinc {i : Nat} {n : Int} {x : Int32} (d : Int32) (L' : Int32 → List (Option Value)) (hd : decode (zM_c μ) pc = .ok (.iinc i n, 3)) (hl : L[i]? = some (some (.int x))) (hn : i < zM_n μ) (hv : Int32.ofInt n = d) (ok : zz_okS L i = true) (hL' : ∀ y, L.set i (some (.int y)) = L' y) (k : ∀ y : Int32, y = x + d → zz_W G μ t0 t1 t (pc + 3) (L' y) (st) M Q) : zz_W G μ t0 t1 t (pc) L (st) M Q := by
  intro p e s m args below meth c C H locs ls κ σ hκ hσ hS hH hL
  obtain ⟨q, hq⟩ := List.getElem?_of_mem (zz_lv_mem (G := G) hl)
  refine lv_iinc (v := x + d) C.1 C.2.1 hd hL.has hq (by rw [hv]) hn rfl (fun ls' h' => ?_)
  exact k _ rfl p e s m args below meth c C H locs ls' κ σ hκ hσ hS hH (hL' _ ▸ zz_L.store (ls := ls) (v := .int (x + d)) ok h')
theorem r_icmp_eq {x y : Int32} {off : Int} (tgt : Nat) (hd : decode (zM_c μ) pc = .ok (.if_icmp .eq off, 3)) (ht : (pc : Int) + off = (tgt : Int)) (kt : x = y → zz_W G μ t0 t1 t (tgt) L (st) M Q) (kf : ¬ x = y → zz_W G μ t0 t1 t (pc + 3) L (st) M Q) : zz_W G μ t0 t1 t (pc) L (.int y :: .int x :: st) M Q := by
  intro p e s m args below meth c C H locs ls κ σ hκ hσ hS hH hL
  exact lv_icmp_eq C.1 C.2.1 hd ht (fun h => kt h p e s m args below meth c C H locs ls κ σ hκ hσ hS hH hL) (fun h => kf h p e s m args below meth c C H locs ls κ σ hκ hσ hS hH hL)
theorem r_if_eq {x : Int32} {off : Int} (tgt : Nat) (hd : decode (zM_c μ) pc = .ok (.ifCond .eq off, 3)) (ht : (pc : Int) + off = (tgt : Int)) (kt : x = 0 → zz_W G μ t0 t1 t (tgt) L (st) M Q) (kf : ¬ x = 0 → zz_W G μ t0 t1 t (pc + 3) L (st) M Q) : zz_W G μ t0 t1 t (pc) L (.int x :: st) M Q := by
  intro p e s m args below meth c C H locs ls κ σ hκ hσ hS hH hL
  exact lv_if_eq C.1 C.2.1 hd ht (fun h => kt h p e s m args below meth c C H locs ls κ σ hκ hσ hS hH hL) (fun h => kf h p e s m args below meth c C H locs ls κ σ hκ hσ hS hH hL)
theorem r_icmp_ne {x y : Int32} {off : Int} (tgt : Nat) (hd : decode (zM_c μ) pc = .ok (.if_icmp .ne off, 3)) (ht : (pc : Int) + off = (tgt : Int)) (kt : ¬ x = y → zz_W G μ t0 t1 t (tgt) L (st) M Q) (kf : x = y → zz_W G μ t0 t1 t (pc + 3) L (st) M Q) : zz_W G μ t0 t1 t (pc) L (.int y :: .int x :: st) M Q := by
  intro p e s m args below meth c C H locs ls κ σ hκ hσ hS hH hL
  exact lv_icmp_ne C.1 C.2.1 hd ht (fun h => kt h p e s m args below meth c C H locs ls κ σ hκ hσ hS hH hL) (fun h => kf h p e s m args below meth c C H locs ls κ σ hκ hσ hS hH hL)
theorem r_if_ne {x : Int32} {off : Int} (tgt : Nat) (hd : decode (zM_c μ) pc = .ok (.ifCond .ne off, 3)) (ht : (pc : Int) + off = (tgt : Int)) (kt : ¬ x = 0 → zz_W G μ t0 t1 t (tgt) L (st) M Q) (kf : x = 0 → zz_W G μ t0 t1 t (pc + 3) L (st) M Q) : zz_W G μ t0 t1 t (pc) L (.int x :: st) M Q := by
  intro p e s m args below meth c C H locs ls κ σ hκ hσ hS hH hL
  exact lv_if_ne C.1 C.2.1 hd ht (fun h => kt h p e s m args below meth c C H locs ls κ σ hκ hσ hS hH hL) (fun h => kf h p e s m args below meth c C H locs ls κ σ hκ hσ hS hH hL)
theorem r_icmp_lt {x y : Int32} {off : Int} (tgt : Nat) (hd : decode (zM_c μ) pc = .ok (.if_icmp .lt off, 3)) (ht : (pc : Int) + off = (tgt : Int)) (kt : x < y → zz_W G μ t0 t1 t (tgt) L (st) M Q) (kf : ¬ x < y → zz_W G μ t0 t1 t (pc + 3) L (st) M Q) : zz_W G μ t0 t1 t (pc) L (.int y :: .int x :: st) M Q := by
  intro p e s m args below meth c C H locs ls κ σ hκ hσ hS hH hL
  exact lv_icmp_lt C.1 C.2.1 hd ht (fun h => kt h p e s m args below meth c C H locs ls κ σ hκ hσ hS hH hL) (fun h => kf h p e s m args below meth c C H locs ls κ σ hκ hσ hS hH hL)
theorem r_if_lt {x : Int32} {off : Int} (tgt : Nat) (hd : decode (zM_c μ) pc = .ok (.ifCond .lt off, 3)) (ht : (pc : Int) + off = (tgt : Int)) (kt : x < 0 → zz_W G μ t0 t1 t (tgt) L (st) M Q) (kf : ¬ x < 0 → zz_W G μ t0 t1 t (pc + 3) L (st) M Q) : zz_W G μ t0 t1 t (pc) L (.int x :: st) M Q := by
  intro p e s m args below meth c C H locs ls κ σ hκ hσ hS hH hL
  exact lv_if_lt C.1 C.2.1 hd ht (fun h => kt h p e s m args below meth c C H locs ls κ σ hκ hσ hS hH hL) (fun h => kf h p e s m args below meth c C H locs ls κ σ hκ hσ hS hH hL)
theorem r_icmp_ge {x y : Int32} {off : Int} (tgt : Nat) (hd : decode (zM_c μ) pc = .ok (.if_icmp .ge off, 3)) (ht : (pc : Int) + off = (tgt : Int)) (kt : y ≤ x → zz_W G μ t0 t1 t (tgt) L (st) M Q) (kf : ¬ y ≤ x → zz_W G μ t0 t1 t (pc + 3) L (st) M Q) : zz_W G μ t0 t1 t (pc) L (.int y :: .int x :: st) M Q := by
  intro p e s m args below meth c C H locs ls κ σ hκ hσ hS hH hL
  exact lv_icmp_ge C.1 C.2.1 hd ht (fun h => kt h p e s m args below meth c C H locs ls κ σ hκ hσ hS hH hL) (fun h => kf h p e s m args below meth c C H locs ls κ σ hκ hσ hS hH hL)
theorem r_if_ge {x : Int32} {off : Int} (tgt : Nat) (hd : decode (zM_c μ) pc = .ok (.ifCond .ge off, 3)) (ht : (pc : Int) + off = (tgt : Int)) (kt : 0 ≤ x → zz_W G μ t0 t1 t (tgt) L (st) M Q) (kf : ¬ 0 ≤ x → zz_W G μ t0 t1 t (pc + 3) L (st) M Q) : zz_W G μ t0 t1 t (pc) L (.int x :: st) M Q := by
  intro p e s m args below meth c C H locs ls κ σ hκ hσ hS hH hL
  exact lv_if_ge C.1 C.2.1 hd ht (fun h => kt h p e s m args below meth c C H locs ls κ σ hκ hσ hS hH hL) (fun h => kf h p e s m args below meth c C H locs ls κ σ hκ hσ hS hH hL)
theorem r_icmp_gt {x y : Int32} {off : Int} (tgt : Nat) (hd : decode (zM_c μ) pc = .ok (.if_icmp .gt off, 3)) (ht : (pc : Int) + off = (tgt : Int)) (kt : y < x → zz_W G μ t0 t1 t (tgt) L (st) M Q) (kf : ¬ y < x → zz_W G μ t0 t1 t (pc + 3) L (st) M Q) : zz_W G μ t0 t1 t (pc) L (.int y :: .int x :: st) M Q := by
  intro p e s m args below meth c C H locs ls κ σ hκ hσ hS hH hL
  exact lv_icmp_gt C.1 C.2.1 hd ht (fun h => kt h p e s m args below meth c C H locs ls κ σ hκ hσ hS hH hL) (fun h => kf h p e s m args below meth c C H locs ls κ σ hκ hσ hS hH hL)
theorem r_if_gt {x : Int32} {off : Int} (tgt : Nat) (hd : decode (zM_c μ) pc = .ok (.ifCond .gt off, 3)) (ht : (pc : Int) + off = (tgt : Int)) (kt : 0 < x → zz_W G μ t0 t1 t (tgt) L (st) M Q) (kf : ¬ 0 < x → zz_W G μ t0 t1 t (pc + 3) L (st) M Q) : zz_W G μ t0 t1 t (pc) L (.int x :: st) M Q := by
  intro p e s m args below meth c C H locs ls κ σ hκ hσ hS hH hL
  exact lv_if_gt C.1 C.2.1 hd ht (fun h => kt h p e s m args below meth c C H locs ls κ σ hκ hσ hS hH hL) (fun h => kf h p e s m args below meth c C H locs ls κ σ hκ hσ hS hH hL)
theorem r_icmp_le {x y : Int32} {off : Int} (tgt : Nat) (hd : decode (zM_c μ) pc = .ok (.if_icmp .le off, 3)) (ht : (pc : Int) + off = (tgt : Int)) (kt : x ≤ y → zz_W G μ t0 t1 t (tgt) L (st) M Q) (kf : ¬ x ≤ y → zz_W G μ t0 t1 t (pc + 3) L (st) M Q) : zz_W G μ t0 t1 t (pc) L (.int y :: .int x :: st) M Q := by
  intro p e s m args below meth c C H locs ls κ σ hκ hσ hS hH hL
  exact lv_icmp_le C.1 C.2.1 hd ht (fun h => kt h p e s m args below meth c C H locs ls κ σ hκ hσ hS hH hL) (fun h => kf h p e s m args below meth c C H locs ls κ σ hκ hσ hS hH hL)
theorem r_if_le {x : Int32} {off : Int} (tgt : Nat) (hd : decode (zM_c μ) pc = .ok (.ifCond .le off, 3)) (ht : (pc : Int) + off = (tgt : Int)) (kt : x ≤ 0 → zz_W G μ t0 t1 t (tgt) L (st) M Q) (kf : ¬ x ≤ 0 → zz_W G μ t0 t1 t (pc + 3) L (st) M Q) : zz_W G μ t0 t1 t (pc) L (.int x :: st) M Q := by
  intro p e s m args below meth c C H locs ls κ σ hκ hσ hS hH hL
  exact lv_if_le C.1 C.2.1 hd ht (fun h => kt h p e s m args below meth c C H locs ls κ σ hκ hσ hS hH hL) (fun h => kf h p e s m args below meth c C H locs ls κ σ hκ hσ hS hH hL)
theorem r_goto {off : Int} (tgt : Nat) (hd : decode (zM_c μ) pc = .ok (.goto off, 3)) (ht : (pc : Int) + off = (tgt : Int)) (k : zz_W G μ t0 t1 t (tgt) L (st) M Q) : zz_W G μ t0 t1 t (pc) L (st) M Q := by
  intro p e s m args below meth c C H locs ls κ σ hκ hσ hS hH hL
  exact lv_goto C.1 C.2.1 hd ht (k p e s m args below meth c C H locs ls κ σ hκ hσ hS hH hL)
theorem r_tabIn {dflt lo hi : Int} {offs : Array Int} {len : Nat} {x : Int32} {off : Int} (tgt : Nat) (hd : decode (zM_c μ) pc = .ok (.tableswitch dflt lo hi offs, len)) (h1 : ¬ x.toInt < lo) (h2 : ¬ hi < x.toInt) (ho : offs[(x.toInt - lo).toNat]? = some off) (ht : (pc : Int) + off = (tgt : Int)) (k : zz_W G μ t0 t1 t (tgt) L (st) M Q) : zz_W G μ t0 t1 t (pc) L (.int x :: st) M Q := by
  intro p e s m args below meth c C H locs ls κ σ hκ hσ hS hH hL
  exact lv_tableIn C.1 C.2.1 hd h1 h2 ho ht (k p e s m args below meth c C H locs ls κ σ hκ hσ hS hH hL)
theorem r_tabOut {dflt lo hi : Int} {offs : Array Int} {len : Nat} {x : Int32} (tgt : Nat) (hd : decode (zM_c μ) pc = .ok (.tableswitch dflt lo hi offs, len)) (h : x.toInt < lo ∨ hi < x.toInt) (ht : (pc : Int) + dflt = (tgt : Int)) (k : zz_W G μ t0 t1 t (tgt) L (st) M Q) : zz_W G μ t0 t1 t (pc) L (.int x :: st) M Q := by
  intro p e s m args below meth c C H locs ls κ σ hκ hσ hS hH hL
  exact lv_tableOut C.1 C.2.1 hd h ht (k p e s m args below meth c C H locs ls κ σ hκ hσ hS hH hL)
theorem r_lookup {dflt : Int} {ps : Array (Int × Int)} {len : Nat} {x : Int32} {off : Int} (tgt : Nat) (hd : decode (zM_c μ) pc = .ok (.lookupswitch dflt ps, len)) (hp : (ps.toList.zip (ps.toList.drop 1)).all (fun (a, next) => a.1 < next.1) = true) (ho : Op.lookupswitch.offset ps.toList dflt x.toInt = off) (ht : (pc : Int) + off = (tgt : Int)) (k : zz_W G μ t0 t1 t (tgt) L (st) M Q) : zz_W G μ t0 t1 t (pc) L (.int x :: st) M Q := by
  intro p e s m args below meth c C H locs ls κ σ hκ hσ hS hH hL
  exact lv_lookup C.1 C.2.1 hd hp ho ht (k p e s m args below meth c C H locs ls κ σ hκ hσ hS hH hL)
end ZR
