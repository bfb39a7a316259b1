theorem zw_max : Cond.static Lib.Math.max.name ∈ zz_tbl ∧ Cond.initialized "java/lang/Math" ∈ zz_tbl ∧ Cond.code Lib.Math.max.name Lib.Math.max.code 2 (some .int) ∈ zz_tbl := ⟨zz_in (List.mem_of_getElem? (i := 743) (by decide +kernel)) rfl, zz_in (List.mem_of_getElem? (i := 100) (by decide +kernel)) rfl, zz_in (List.mem_of_getElem? (i := 744) (by decide +kernel)) rfl⟩
theorem zw_min : Cond.static Lib.Math.min.name ∈ zz_tbl ∧ Cond.initialized "java/lang/Math" ∈ zz_tbl ∧ Cond.code Lib.Math.min.name Lib.Math.min.code 2 (some .int) ∈ zz_tbl := ⟨zz_in (List.mem_of_getElem? (i := 510) (by decide +kernel)) rfl, zz_in (List.mem_of_getElem? (i := 100) (by decide +kernel)) rfl, zz_in (List.mem_of_getElem? (i := 511) (by decide +kernel)) rfl⟩
def zmx (x y : Int32) : Int32 := if x < y then y else x
def zmn (x y : Int32) : Int32 := if y < x then y else x
theorem r_mmax {G : zzG} {μ : zzMI} {t pc : Nat} {L : List (Option Value)} {st : List Value} {M : zzMem} {Q : Option Value → zzMem → Prop} {idx : Nat} {x y : Int32} (hd : decode (zM_c μ) pc = .ok (.invokestatic idx, 3)) (hl : Cond.methodLink (zM_y μ).cls idx Lib.Math.max.name ∈ zz_tbl) (hf : 1 ≤ zM_f μ) (hlo : (st.map fun v => v.category).sum + 13 ≤ zM_l μ)
    (kk : zz_W G μ t t t (pc + 3) L (.int (zmx x y) :: st) M Q) : zz_W G μ t t t pc L (.int y :: .int x :: st) M Q := by
  intro p e s m args below meth c C H locs ls κ σ hκ hσ hS hH hL
  have hts := C.2.2.2.2.2.1
  exact va_mmax C.1 C.2.1 (C.2.2.2.1.trans hL.1.symm) C.2.2.2.2.1 (hts _ hl) (hts _ zw_max.1) (hts _ zw_max.2.1) (hts _ zw_max.2.2) hf (by rw [zz_cats]; exact hlo) (by show κ ≤ zM_mc μ; omega) (by show σ ≤ zM_ms μ; omega) hd (kk p e s m args below meth c C H locs ls κ σ hκ hσ hS hH hL)
theorem r_mmin {G : zzG} {μ : zzMI} {t pc : Nat} {L : List (Option Value)} {st : List Value} {M : zzMem} {Q : Option Value → zzMem → Prop} {idx : Nat} {x y : Int32} (hd : decode (zM_c μ) pc = .ok (.invokestatic idx, 3)) (hl : Cond.methodLink (zM_y μ).cls idx Lib.Math.min.name ∈ zz_tbl) (hf : 1 ≤ zM_f μ) (hlo : (st.map fun v => v.category).sum + 13 ≤ zM_l μ)
    (kk : zz_W G μ t t t (pc + 3) L (.int (zmn x y) :: st) M Q) : zz_W G μ t t t pc L (.int y :: .int x :: st) M Q := by
  intro p e s m args below meth c C H locs ls κ σ hκ hσ hS hH hL
  have hts := C.2.2.2.2.2.1
  exact va_mmin C.1 C.2.1 (C.2.2.2.1.trans hL.1.symm) C.2.2.2.2.1 (hts _ hl) (hts _ zw_min.1) (hts _ zw_min.2.1) (hts _ zw_min.2.2) hf (by rw [zz_cats]; exact hlo) (by show κ ≤ zM_mc μ; omega) (by show σ ≤ zM_ms μ; omega) hd (kk p e s m args below meth c C H locs ls κ σ hκ hσ hS hH hL)
def zrm (x y : Int32) : Int32 := x - x / y * y
