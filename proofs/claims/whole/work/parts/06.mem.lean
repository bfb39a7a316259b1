/-! ===== rows of memory: fields, arrays, returns ===== -/
/-- the cell k is there and of this kind -/
def zz_O (t k a n : Nat) : Prop := k < zz_N t ∧ zz_kd k = (a, n)
theorem zz_N_le (t : Nat) : zz_N t < 1000 := by
  unfold zz_N
  refine Nat.lt_of_le_of_lt (List.length_filter_le _ _) ?_
  rw [List.length_take]
  exact Nat.lt_of_le_of_lt (Nat.min_le_right _ _) (by decide +kernel)
theorem zz_O.ad {G : zzG} {t k a n : Nat} (h : zz_O t k a n) : zz_ad G k = zG_sz G + k := zz_ad_lt (Nat.lt_trans h.1 (zz_N_le t))
theorem zz_O.mono {t t' k a n : Nat} (h : zz_O t k a n) (ht : t ≤ t') : zz_O t' k a n := ⟨Nat.lt_of_lt_of_le h.1 (zz_N_mono ht), h.2⟩
theorem zz_ent_o {G : zzG} {t k a n : Nat} {M : zzMem} (h : zz_kd k = (a, n)) (ha : a < 20) : zz_ent G t M k = .inr (a, (List.range n).map (zz_fv G t M k)) := by
  unfold zz_ent
  rw [h, if_neg (by omega), if_neg (by omega), if_neg (by omega)]
theorem zz_ent_i {G : zzG} {t k n : Nat} {M : zzMem} (h : zz_kd k = (20, n)) : zz_ent G t M k = .inl (zG_cI G, n, .inl (M.1 k)) := by
  unfold zz_ent
  rw [h, if_pos rfl]
theorem zz_ent_l {G : zzG} {t k n : Nat} {M : zzMem} (h : zz_kd k = (21, n)) : zz_ent G t M k = .inl (zG_cJ G, n, .inr (.inl (M.2 k))) := by
  unfold zz_ent
  rw [h, if_neg (by simp), if_pos rfl]
theorem zz_ent_b {G : zzG} {t k n : Nat} {M : zzMem} (h : zz_kd k = (22, n)) : zz_ent G t M k = .inl (zG_cB G, n, .inl (M.1 k)) := by
  unfold zz_ent
  rw [h, if_neg (by simp), if_neg (by simp), if_pos rfl]
/-- a field: place j of a class of n fields, named by the entry idx of the class own -/
def zz_F (own : String) (idx ci n j : Nat) : Prop := ci < 20 ∧ ∃ (C : String) (T : u_T), vwCl[ci]? = some (C, T, n) ∧ (∀ w ∈ u_ws C T n, w ∈ zz_tbl) ∧ j < n ∧ Cond.fieldLink own idx (T j).1 (T j).2.1 (T j).2.2.1 ∈ zz_tbl
/-- the same, to be written -/
def zz_Fp (own : String) (idx ci n j : Nat) (ty : FieldType) (fin : Bool) : Prop := ci < 20 ∧ ∃ (C : String) (T : u_T) (ty0 : Nat → FieldType), vwCl[ci]? = some (C, T, n) ∧ (∀ w ∈ u_ws C T n, w ∈ zz_tbl) ∧ (∀ k, k < n → parseFieldDescriptor (T k).2.2.1 = some (ty0 k)) ∧ (∀ a, a < n → ∀ b, b < n → a ≠ b → (T a).2.1 ≠ (T b).2.1) ∧ j < n ∧ Cond.fieldLink own idx (T j).1 (T j).2.1 (T j).2.2.1 ∈ zz_tbl ∧ (T j).2.2.2 = fin ∧ parseFieldDescriptor (T j).2.2.1 = some ty ∧ (T j).1 = own
/-- a field of another class, not final -/
def zz_Fq (own : String) (idx ci n j : Nat) (ty : FieldType) : Prop := ci < 20 ∧ ∃ (C : String) (T : u_T) (ty0 : Nat → FieldType), vwCl[ci]? = some (C, T, n) ∧ (∀ w ∈ u_ws C T n, w ∈ zz_tbl) ∧ (∀ k, k < n → parseFieldDescriptor (T k).2.2.1 = some (ty0 k)) ∧ (∀ a, a < n → ∀ b, b < n → a ≠ b → (T a).2.1 ≠ (T b).2.1) ∧ j < n ∧ Cond.fieldLink own idx (T j).1 (T j).2.1 (T j).2.2.1 ∈ zz_tbl ∧ (T j).2.2.2 = false ∧ parseFieldDescriptor (T j).2.2.1 = some ty
section ZM
variable {G : zzG} {μ : zzMI} {t0 t1 t pc : Nat} {L : List (Option Value)} {st : List Value} {M : zzMem} {Q : Option Value → zzMem → Prop}
theorem zz_rv_ref {k a n : Nat} (h : zz_O t k a n) : zz_rv G (.ref k) = .ref (zG_sz G + k) := by
  show Value.ref (zz_ad G k) = _
  rw [h.ad]
theorem r_getI {k idx ci n j : Nat} (hd : decode (zM_c μ) pc = .ok (.getfield idx, 3)) (hf : zz_F (zM_y μ).cls idx ci n j) (hk : zz_O t k ci n) (hr : zz_rf k j = 0)
    (kk : zz_W G μ t0 t1 t (pc + 3) L (.int (M.1 k j) :: st) M Q) : zz_W G μ t0 t1 t pc L (.ref k :: st) M Q := by
  intro p e s m args below meth c C H locs ls κ σ hκ hσ hS hH hL
  obtain ⟨hci, CC, T, hc, hin, hj, hlink⟩ := hf
  rw [List.map_cons, zz_rv_ref hk]
  refine va_get (v := .int (M.1 k j)) C.1 C.2.1 C.2.2.2.2.2.1 hin C.2.2.2.2.1 C.2.2.2.2.2.2.2.2.1 hH.1 k (by rw [zz_ws_get hk.1, zz_ent_o hk.2 hci]) hc j hj (C.2.2.2.2.2.1 _ hlink) (fun _ h => h) ?_ hd (kk p e s m args below meth c C H locs ls κ σ hκ hσ hS hH hL)
  simp [hj, zz_fv, hr]
theorem r_getR {k idx ci n j q : Nat} (hd : decode (zM_c μ) pc = .ok (.getfield idx, 3)) (hf : zz_F (zM_y μ).cls idx ci n j) (hk : zz_O t k ci n) (hr : zz_rf k j = q) (hq : 0 < q ∧ q < 1000) (ha : zz_as t k j = true)
    (kk : zz_W G μ t0 t1 t (pc + 3) L (.ref q :: st) M Q) : zz_W G μ t0 t1 t pc L (.ref k :: st) M Q := by
  intro p e s m args below meth c C H locs ls κ σ hκ hσ hS hH hL
  obtain ⟨hci, CC, T, hc, hin, hj, hlink⟩ := hf
  have h1 := kk p e s m args below meth c C H locs ls κ σ hκ hσ hS hH hL
  rw [List.map_cons, show zz_rv G (.ref q) = .ref (zG_sz G + q) from congrArg Value.ref (zz_ad_lt hq.2)] at h1
  rw [List.map_cons, zz_rv_ref hk]
  refine va_get (v := .ref (zG_sz G + q)) C.1 C.2.1 C.2.2.2.2.2.1 hin C.2.2.2.2.1 C.2.2.2.2.2.2.2.2.1 hH.1 k (by rw [zz_ws_get hk.1, zz_ent_o hk.2 hci]) hc j hj (C.2.2.2.2.2.1 _ hlink) (fun _ h => h) ?_ hd h1
  have h0 : ¬ q = 0 := by omega
  simp [hj, zz_fv, h0, ha, hr]
theorem zz_range_set {f : Nat → Value} {n j : Nat} {v : Value} : ((List.range n).map f).set j v = (List.range n).map (fun i => if i = j then v else f i) := by
  apply List.ext_getElem?
  intro i
  by_cases hi : i < n
  · by_cases hij : i = j
    · subst hij
      rw [List.getElem?_set_self (by simpa using hi)]
      simp [hi]
    · rw [List.getElem?_set_ne (Ne.symm hij)]
      simp [hi, hij]
  · rw [List.getElem?_eq_none (by simpa using hi), List.getElem?_eq_none (by simpa using hi)]
/-- the heap's size follows: nothing else was made -/
theorem zz_size {p : Program} {l : Launch} {e : Env} {R : Room} {s : State} {m : MethodId} {args : Array Value} {below : List Frame} {meth : Method} {c : Code} {H : Heap} {locs : List Loc} {κ σ : Nat} {Z : State → Prop} {g : JFrame}
    (hs : s.heap.size = zG_sz G + zz_N t0) (hκ : zz_N t0 + κ = zz_N t) (hS : va_S (zz_A G) s.heap H locs) (hP : va_P (zG_D G) vwCl (zz_ws G t M) H)
    (k : zz_H G t M H → W p l e R s m args below meth c H locs κ σ Z g) : W p l e R s m args below meth c H locs κ σ Z g := by
  intro T hT X
  refine k ⟨hP, ?_⟩ T hT X
  have h1 := X.heapSize
  rw [hT] at h1
  have h2 := hS.1
  by_cases h0 : zz_N t = 0
  · omega
  · have h3 := (hP (zz_N t - 1) _ (zz_ws_get (by omega))).lt
    simp only at h3
    omega
theorem zz_putE {k ci n j : Nat} {x : Int32} (hkd : zz_kd k = (ci, n)) (hci : ci < 20) (hr : zz_rf k j = 0) : (.inr (ci, ((List.range n).map (zz_fv G t M k)).set j (.int x)) : va_E) = zz_ent G t (zz_si M k j x) k := by
  rw [zz_ent_o hkd hci, zz_range_set]
  congr 2
  apply List.map_congr_left
  intro i _
  unfold zz_fv
  rw [zz_si_eq]
  by_cases hij : i = j
  · subst hij
    simp [hr, upd]
  · simp [hij, upd]
theorem r_putQ {k idx ci n j : Nat} {x : Int32} {ty : FieldType} (hd : decode (zM_c μ) pc = .ok (.putfield idx, 3)) (hf : zz_Fq (zM_y μ).cls idx ci n j ty) (hk : zz_O t k ci n) (hr : zz_rf k j = 0) (hn : narrow ty (.int x) = .int x) (hfit : fits ty (.int x) = true)
    (kk : ∀ M', M' = zz_si M k j x → zz_W G μ t0 t1 t (pc + 3) L st M' Q) : zz_W G μ t0 t1 t pc L (.int x :: .ref k :: st) M Q := by
  intro p e s m args below meth c C H locs ls κ σ hκ hσ hS hH hL
  obtain ⟨hci, CC, T, ty0, hc, hin, hty, hnm, hj, hlink, hfin, hd2⟩ := hf
  rw [List.map_cons, List.map_cons, zz_rv_ref hk]
  refine va_put (v := .int x) C.1 C.2.1 C.2.2.2.2.2.1 hin ty0 hty hnm C.2.2.2.2.1 C.2.2.2.2.2.2.2.2.1 hH.1 (zz_D G t M) hS k (by rw [zz_ws_get hk.1, zz_ent_o hk.2 hci]) hc j hj (C.2.2.2.2.2.1 _ hlink) (fun _ h => h) hfin hd2 hn hfit (by simpa using hj) hd ?_
  intro H1 locs1 hP1 hD1 hS1
  rw [zz_ws_set (t' := t) (M' := zz_si M k j x) rfl hk.1 (zz_putE hk.2 hci hr) (fun i _ hi => zz_ent_congr (zz_si_ne hi) rfl)] at hP1
  exact zz_size C.2.2.2.2.2.2.2.2.2.1 hκ hS1 hP1 (fun hH1 => kk _ rfl p e s m args below meth c C H1 locs1 ls κ σ hκ hσ hS1 hH1 hL)
theorem zz_Fp.q {own : String} {idx ci n j : Nat} {ty : FieldType} (h : zz_Fp own idx ci n j ty false) : zz_Fq own idx ci n j ty := by
  obtain ⟨hci, CC, T, ty0, hc, hin, hty, hnm, hj, hlink, hfin, hd2, hown⟩ := h
  exact ⟨hci, CC, T, ty0, hc, hin, hty, hnm, hj, hlink, hfin, hd2⟩
theorem r_putI {k idx ci n j : Nat} {x : Int32} {ty : FieldType} (hd : decode (zM_c μ) pc = .ok (.putfield idx, 3)) (hf : zz_Fp (zM_y μ).cls idx ci n j ty false) (hk : zz_O t k ci n) (hr : zz_rf k j = 0) (hn : narrow ty (.int x) = .int x) (hfit : fits ty (.int x) = true)
    (kk : ∀ M', M' = zz_si M k j x → zz_W G μ t0 t1 t (pc + 3) L st M' Q) : zz_W G μ t0 t1 t pc L (.int x :: .ref k :: st) M Q := r_putQ hd hf.q hk hr hn hfit kk
/-- a reference is assigned to a final field, in a constructor -/
theorem r_putR {k idx ci n j q : Nat} {ty : FieldType} (hd : decode (zM_c μ) pc = .ok (.putfield idx, 3)) (hf : zz_Fp (zM_y μ).cls idx ci n j ty true) (hin2 : (zM_y μ).name = "<init>") (hk : zz_O t k ci n) (hr : zz_rf k j = q) (hq : 0 < q ∧ q < 1000) (hev : zz_evL[t]? = some (1, k, j)) (hn : ∀ a, narrow ty (.ref a) = .ref a) (hfit : ∀ a, fits ty (.ref a) = true)
    (kk : zz_W G μ t0 t1 (t + 1) (pc + 3) L st M Q) : zz_W G μ t0 t1 t pc L (.ref q :: .ref k :: st) M Q := by
  intro p e s m args below meth c C H locs ls κ σ hκ hσ hS hH hL
  obtain ⟨hci, CC, T, ty0, hc, hin, hty, hnm, hj, hlink, hfin, hd2, hown⟩ := hf
  rw [List.map_cons, List.map_cons, zz_rv_ref hk, show zz_rv G (.ref q) = .ref (zG_sz G + q) from congrArg Value.ref (zz_ad_lt hq.2)]
  refine va_putF (v := .ref (zG_sz G + q)) C.1 C.2.1 C.2.2.2.2.2.1 hin ty0 hty hnm C.2.2.2.2.1 C.2.2.2.2.2.2.2.2.1 hH.1 (zz_D G t M) hS k (by rw [zz_ws_get hk.1, zz_ent_o hk.2 hci]) hc j hj (C.2.2.2.2.2.1 _ hlink) (fun _ h => h) hfin (C.2.2.2.2.2.2.2.1.trans hin2) hown hd2 (hn _) (hfit _) (by simpa using hj) hd ?_
  intro H1 locs1 hP1 hD1 hS1
  have hN := zz_N_as hev
  rw [zz_ws_set (t' := t + 1) (M' := M) hN hk.1 (by
    rw [zz_ent_o hk.2 hci, zz_range_set]
    congr 2
    apply List.map_congr_left
    intro i _
    unfold zz_fv
    rw [zz_as_as hev]
    by_cases hij : i = j
    · subst hij
      have h0 : ¬ q = 0 := by omega
      simp [h0, hr]
    · simp [hij]) (fun i _ hi => by
    unfold zz_ent zz_fv
    have : ∀ b, zz_as (t + 1) i b = zz_as t i b := fun b => by rw [zz_as_as hev]; simp [hi]
    simp only [this])] at hP1
  have hκ' : zz_N t0 + κ = zz_N (t + 1) := by rw [hN]; exact hκ
  exact zz_size C.2.2.2.2.2.2.2.2.2.1 hκ' hS1 hP1 (fun hH1 => kk p e s m args below meth c C H1 locs1 ls κ σ hκ' (by rw [zz_Z_as hev]; exact hσ) hS1 hH1 hL)
theorem r_iald {k n : Nat} {i : Int32} (hd : decode (zM_c μ) pc = .ok (.iaload, 1)) (hk : zz_O t k 20 n) (hin : vp_in i n)
    (kk : zz_W G μ t0 t1 t (pc + 1) L (.int (M.1 k i.toNatClampNeg) :: st) M Q) : zz_W G μ t0 t1 t pc L (.int i :: .ref k :: st) M Q := by
  intro p e s m args below meth c C H locs ls κ σ hκ hσ hS hH hL
  rw [List.map_cons, List.map_cons, zz_rv_ref hk]
  exact va_iald C.1 C.2.1 C.2.2.2.2.2.2.2.2.1 hH.1 k 0 (by rw [zz_ws_get hk.1, zz_ent_i hk.2]) rfl hin hd (kk p e s m args below meth c C H locs ls κ σ hκ hσ hS hH hL)
theorem r_bald {k n : Nat} {i : Int32} (hd : decode (zM_c μ) pc = .ok (.baload, 1)) (hk : zz_O t k 22 n) (hin : vp_in i n)
    (kk : zz_W G μ t0 t1 t (pc + 1) L (.int (M.1 k i.toNatClampNeg) :: st) M Q) : zz_W G μ t0 t1 t pc L (.int i :: .ref k :: st) M Q := by
  intro p e s m args below meth c C H locs ls κ σ hκ hσ hS hH hL
  rw [List.map_cons, List.map_cons, zz_rv_ref hk]
  exact va_bald C.1 C.2.1 C.2.2.2.2.2.2.2.2.1 hH.1 k 2 (by rw [zz_ws_get hk.1, zz_ent_b hk.2]) rfl hin hd (kk p e s m args below meth c C H locs ls κ σ hκ hσ hS hH hL)
theorem r_lald {k n : Nat} {i : Int32} (hd : decode (zM_c μ) pc = .ok (.laload, 1)) (hk : zz_O t k 21 n) (hin : vp_in i n)
    (kk : zz_W G μ t0 t1 t (pc + 1) L (.long (M.2 k i.toNatClampNeg) :: st) M Q) : zz_W G μ t0 t1 t pc L (.int i :: .ref k :: st) M Q := by
  intro p e s m args below meth c C H locs ls κ σ hκ hσ hS hH hL
  rw [List.map_cons, List.map_cons, zz_rv_ref hk]
  exact va_lald C.1 C.2.1 C.2.2.2.2.2.2.2.2.1 hH.1 k 1 (by rw [zz_ws_get hk.1, zz_ent_l hk.2]) rfl hin hd (kk p e s m args below meth c C H locs ls κ σ hκ hσ hS hH hL)
theorem r_iast {k n : Nat} {i x : Int32} (hd : decode (zM_c μ) pc = .ok (.iastore, 1)) (hk : zz_O t k 20 n) (hin : vp_in i n)
    (kk : ∀ M', M' = zz_si M k i.toNatClampNeg x → zz_W G μ t0 t1 t (pc + 1) L st M' Q) : zz_W G μ t0 t1 t pc L (.int x :: .int i :: .ref k :: st) M Q := by
  intro p e s m args below meth c C H locs ls κ σ hκ hσ hS hH hL
  rw [List.map_cons, List.map_cons, List.map_cons, zz_rv_ref hk]
  refine va_iast C.1 C.2.1 C.2.2.2.2.2.2.2.2.1 hH.1 (zz_D G t M) hS k 0 (by rw [zz_ws_get hk.1, zz_ent_i hk.2]) rfl hin hd (fun H1 locs1 hP1 hD1 hS1 => ?_)
  rw [zz_ws_set (t' := t) (M' := zz_si M k i.toNatClampNeg x) rfl hk.1 (by rw [zz_ent_i hk.2, zz_si_eq]) (fun i _ hi => zz_ent_congr (zz_si_ne hi) rfl)] at hP1
  exact zz_size C.2.2.2.2.2.2.2.2.2.1 hκ hS1 hP1 (fun hH1 => kk _ rfl p e s m args below meth c C H1 locs1 ls κ σ hκ hσ hS1 hH1 hL)
theorem r_bast {k n : Nat} {i x : Int32} (hd : decode (zM_c μ) pc = .ok (.bastore, 1)) (hk : zz_O t k 22 n) (hin : vp_in i n)
    (kk : ∀ M', M' = zz_si M k i.toNatClampNeg (vp_nar .byte x) → zz_W G μ t0 t1 t (pc + 1) L st M' Q) : zz_W G μ t0 t1 t pc L (.int x :: .int i :: .ref k :: st) M Q := by
  intro p e s m args below meth c C H locs ls κ σ hκ hσ hS hH hL
  rw [List.map_cons, List.map_cons, List.map_cons, zz_rv_ref hk]
  refine va_bast C.1 C.2.1 C.2.2.2.2.2.2.2.2.1 hH.1 (zz_D G t M) hS k 2 (by rw [zz_ws_get hk.1, zz_ent_b hk.2]) rfl hin hd (fun H1 locs1 hP1 hD1 hS1 => ?_)
  rw [zz_ws_set (t' := t) (M' := zz_si M k i.toNatClampNeg (vp_nar .byte x)) rfl hk.1 (by rw [zz_ent_b hk.2, zz_si_eq]) (fun i _ hi => zz_ent_congr (zz_si_ne hi) rfl)] at hP1
  exact zz_size C.2.2.2.2.2.2.2.2.2.1 hκ hS1 hP1 (fun hH1 => kk _ rfl p e s m args below meth c C H1 locs1 ls κ σ hκ hσ hS1 hH1 hL)
theorem zz_sl_ne {k i j : Nat} {v : Int64} (h : j ≠ k) : (zz_sl M k i v).2 j = M.2 j := if_neg h
theorem zz_sl_eq {k i : Nat} {v : Int64} : (zz_sl M k i v).2 k = vp_updL (M.2 k) i v := if_pos rfl
theorem r_last {k n : Nat} {i : Int32} {x : Int64} (hd : decode (zM_c μ) pc = .ok (.lastore, 1)) (hk : zz_O t k 21 n) (hin : vp_in i n)
    (kk : ∀ M', M' = zz_sl M k i.toNatClampNeg x → zz_W G μ t0 t1 t (pc + 1) L st M' Q) : zz_W G μ t0 t1 t pc L (.long x :: .int i :: .ref k :: st) M Q := by
  intro p e s m args below meth c C H locs ls κ σ hκ hσ hS hH hL
  rw [List.map_cons, List.map_cons, List.map_cons, zz_rv_ref hk]
  refine va_last C.1 C.2.1 C.2.2.2.2.2.2.2.2.1 hH.1 (zz_D G t M) hS k 1 (by rw [zz_ws_get hk.1, zz_ent_l hk.2]) rfl hin hd (fun H1 locs1 hP1 hD1 hS1 => ?_)
  rw [zz_ws_set (t' := t) (M := M) (M' := zz_sl M k i.toNatClampNeg x) rfl hk.1 (by rw [zz_ent_l hk.2, zz_sl_eq]) (fun i _ hi => zz_ent_congr rfl (zz_sl_ne hi))] at hP1
  exact zz_size C.2.2.2.2.2.2.2.2.2.1 hκ hS1 hP1 (fun hH1 => kk _ rfl p e s m args below meth c C H1 locs1 ls κ σ hκ hσ hS1 hH1 hL)
theorem r_alen {k n : Nat} {v : Int32} (hd : decode (zM_c μ) pc = .ok (.arraylength, 1)) (hk : zz_O t k 20 n) (hv : Int32.ofNat n = v)
    (kk : zz_W G μ t0 t1 t (pc + 1) L (.int v :: st) M Q) : zz_W G μ t0 t1 t pc L (.ref k :: st) M Q := by
  intro p e s m args below meth c C H locs ls κ σ hκ hσ hS hH hL
  rw [List.map_cons, zz_rv_ref hk]
  exact va_alen C.1 C.2.1 C.2.2.2.2.2.2.2.2.1 hH.1 k 0 (by rw [zz_ws_get hk.1, zz_ent_i hk.2]) rfl hv hd (kk p e s m args below meth c C H locs ls κ σ hκ hσ hS hH hL)
/-- arraycopy -/
def zz_ci (M : zzMem) (k0 : Nat) (sp : Int32) (k1 : Nat) (dp n : Int32) : zzMem := (fun a => if a = k1 then va_cpy (M.1 k0) (M.1 k1) sp.toNatClampNeg dp.toNatClampNeg n.toNatClampNeg else M.1 a, M.2)
def zz_cl (M : zzMem) (k0 : Nat) (sp : Int32) (k1 : Nat) (dp n : Int32) : zzMem := (M.1, fun a => if a = k1 then va_cpy (M.2 k0) (M.2 k1) sp.toNatClampNeg dp.toNatClampNeg n.toNatClampNeg else M.2 a)
/-- what an arraycopy asks for -/
def zz_cpok (n0 n1 : Nat) (sp dp n : Int32) : Prop := ¬ sp < 0 ∧ ¬ dp < 0 ∧ ¬ n < 0 ∧ sp.toNatClampNeg + n.toNatClampNeg ≤ n0 ∧ dp.toNatClampNeg + n.toNatClampNeg ≤ n1
theorem r_copyi {k0 k1 n0 n1 idx : Nat} {sp dp n : Int32} (hd : decode (zM_c μ) pc = .ok (.invokestatic idx, 3)) (hl : Cond.methodLink (zM_y μ).cls idx arraycopyName ∈ zz_tbl) (hw : Cond.native arraycopyName ∈ zz_tbl ∧ Cond.static arraycopyName ∈ zz_tbl ∧ Cond.initialized "java/lang/System" ∈ zz_tbl)
    (hk0 : zz_O t k0 20 n0) (hk1 : zz_O t k1 20 n1) (ok : zz_cpok n0 n1 sp dp n) (hf : 1 ≤ zM_f μ) (hlo : (st.map fun v => v.category).sum + (nativeFrameWords "java/lang/System" "arraycopy" 5 + 11) ≤ zM_l μ)
    (kk : ∀ M', M' = zz_ci M k0 sp k1 dp n → zz_W G μ t0 t1 t (pc + 3) L st M' Q) : zz_W G μ t0 t1 t pc L (.int n :: .int dp :: .ref k1 :: .int sp :: .ref k0 :: st) M Q := by
  intro p e s m args below meth c C H locs ls κ σ hκ hσ hS hH hL
  have h1000 : k1 < 1000 := Nat.lt_trans hk1.1 (zz_N_le t)
  simp only [List.map_cons, zz_rv_ref hk0, zz_rv_ref hk1]
  have hts := C.2.2.2.2.2.1
  refine va_copyi C.1 C.2.1 (C.2.2.2.1.trans hL.1.symm) C.2.2.2.2.1 (hts _ hl) (hts _ hw.1) (hts _ hw.2.1) (hts _ hw.2.2) C.2.2.2.2.2.2.2.2.1 hH.1 (zz_D G t M) hS k0 k1 0 0 (by rw [zz_ws_get hk0.1, zz_ent_i hk0.2]) (by rw [zz_ws_get hk1.1, zz_ent_i hk1.2]) rfl rfl rfl ok.1 ok.2.1 ok.2.2.1 ok.2.2.2.1 ok.2.2.2.2 (fun _ _ => rfl) hf
    (by rw [List.map_map, show ((fun v : Value => v.category) ∘ zz_rv G) = (fun v => v.category) from funext (zz_rv_cat G)]; exact hlo) hd (fun H1 locs1 hP1 hD1 hS1 => ?_)
  rw [zz_ws_set (t' := t) (M' := zz_ci M k0 sp k1 dp n) rfl hk1.1 (by rw [zz_ent_i hk1.2]; simp [zz_ci]) (fun i _ hi => zz_ent_congr (if_neg hi) rfl)] at hP1
  exact zz_size C.2.2.2.2.2.2.2.2.2.1 hκ hS1 hP1 (fun hH1 => kk _ rfl p e s m args below meth c C H1 locs1 ls κ σ hκ hσ hS1 hH1 hL)
theorem r_copyl {k0 k1 n0 n1 idx : Nat} {sp dp n : Int32} (hd : decode (zM_c μ) pc = .ok (.invokestatic idx, 3)) (hl : Cond.methodLink (zM_y μ).cls idx arraycopyName ∈ zz_tbl) (hw : Cond.native arraycopyName ∈ zz_tbl ∧ Cond.static arraycopyName ∈ zz_tbl ∧ Cond.initialized "java/lang/System" ∈ zz_tbl)
    (hk0 : zz_O t k0 21 n0) (hk1 : zz_O t k1 21 n1) (ok : zz_cpok n0 n1 sp dp n) (hf : 1 ≤ zM_f μ) (hlo : (st.map fun v => v.category).sum + (nativeFrameWords "java/lang/System" "arraycopy" 5 + 11) ≤ zM_l μ)
    (kk : ∀ M', M' = zz_cl M k0 sp k1 dp n → zz_W G μ t0 t1 t (pc + 3) L st M' Q) : zz_W G μ t0 t1 t pc L (.int n :: .int dp :: .ref k1 :: .int sp :: .ref k0 :: st) M Q := by
  intro p e s m args below meth c C H locs ls κ σ hκ hσ hS hH hL
  simp only [List.map_cons, zz_rv_ref hk0, zz_rv_ref hk1]
  have hts := C.2.2.2.2.2.1
  refine va_copyl C.1 C.2.1 (C.2.2.2.1.trans hL.1.symm) C.2.2.2.2.1 (hts _ hl) (hts _ hw.1) (hts _ hw.2.1) (hts _ hw.2.2) C.2.2.2.2.2.2.2.2.1 hH.1 (zz_D G t M) hS k0 k1 1 1 (by rw [zz_ws_get hk0.1, zz_ent_l hk0.2]) (by rw [zz_ws_get hk1.1, zz_ent_l hk1.2]) rfl rfl rfl ok.1 ok.2.1 ok.2.2.1 ok.2.2.2.1 ok.2.2.2.2 (fun _ _ => rfl) hf
    (by rw [List.map_map, show ((fun v : Value => v.category) ∘ zz_rv G) = (fun v => v.category) from funext (zz_rv_cat G)]; exact hlo) hd (fun H1 locs1 hP1 hD1 hS1 => ?_)
  rw [zz_ws_set (t' := t) (M := M) (M' := zz_cl M k0 sp k1 dp n) rfl hk1.1 (by rw [zz_ent_l hk1.2]; simp [zz_cl]) (fun i _ hi => zz_ent_congr rfl (if_neg hi))] at hP1
  exact zz_size C.2.2.2.2.2.2.2.2.2.1 hκ hS1 hP1 (fun hH1 => kk _ rfl p e s m args below meth c C H1 locs1 ls κ σ hκ hσ hS1 hH1 hL)
/-- the law's script -/
theorem r_sld {i : Int32} (hlaw : (zM_y μ).cls = RL) (hd : decode (zM_c μ) pc = .ok (.iaload, 1)) (hin : vp_in i (zG_L G))
    (kk : zz_W G μ t0 t1 t (pc + 1) L (.int (zG_xs G i.toNatClampNeg) :: st) M Q) : zz_W G μ t0 t1 t pc L (.int i :: .ref 1000 :: st) M Q := by
  intro p e s m args below meth c C H locs ls κ σ hκ hσ hS hH hL
  obtain ⟨hX, hb⟩ := C.2.2.2.2.2.2.2.2.2.2.1 hlaw
  exact va_sld C.1 C.2.1 hX (by rw [C.2.2.2.2.2.2.2.2.2.1]; omega) (Nat.not_le.mpr hb) hS hin hd (kk p e s m args below meth c C H locs ls κ σ hκ hσ hS hH hL)
theorem r_slen (hlaw : (zM_y μ).cls = RL) (hd : decode (zM_c μ) pc = .ok (.arraylength, 1))
    (kk : zz_W G μ t0 t1 t (pc + 1) L (.int (Int32.ofNat (zG_L G)) :: st) M Q) : zz_W G μ t0 t1 t pc L (.ref 1000 :: st) M Q := by
  intro p e s m args below meth c C H locs ls κ σ hκ hσ hS hH hL
  obtain ⟨hX, hb⟩ := C.2.2.2.2.2.2.2.2.2.2.1 hlaw
  have hbl : zG_b G < s.heap.size := by rw [C.2.2.2.2.2.2.2.2.2.1]; omega
  exact va_slen C.1 C.2.1 hX hbl (Nat.not_le.mpr hb) hS hd (kk p e s m args below meth c C H locs ls κ σ hκ hσ hS hH hL)
/-- returns: at the time t1, with as many cells and slots made as the method's room has -/
def zb (b : Bool) : Int32 := if b then 1 else 0
theorem r_vret (hd : decode (zM_c μ) pc = .ok (.return_, 1)) (hr : zM_r μ = none) (hc : zz_N t0 + zM_mc μ = zz_N t) (hz : zz_Z t0 + zM_ms μ = zz_Z t) (hq : Q none M) : zz_W G μ t0 t t pc L [] M Q := by
  intro p e s m args below meth c C H locs ls κ σ hκ hσ hS hH hL
  obtain rfl : κ = zM_mc μ := by omega
  obtain rfl : σ = zM_ms μ := by omega
  exact W.vret C.1 C.2.1 (C.2.2.1.trans hr) (fun u hu hW => ⟨⟨none, M, rfl, hq, by rw [hu]; exact hH⟩, hS.F hu⟩) hS.2.2 hd C.2.2.2.2.2.2.1
theorem r_iret {x : Int32} (hd : decode (zM_c μ) pc = .ok (.ireturn, 1)) (hr : zM_r μ = some .int) (hc : zz_N t0 + zM_mc μ = zz_N t) (hz : zz_Z t0 + zM_ms μ = zz_Z t) (hq : Q (some (.int x)) M) : zz_W G μ t0 t t pc L [.int x] M Q := by
  intro p e s m args below meth c C H locs ls κ σ hκ hσ hS hH hL
  obtain rfl : κ = zM_mc μ := by omega
  obtain rfl : σ = zM_ms μ := by omega
  exact W.iret C.1 C.2.1 (C.2.2.1.trans hr) (fun u hu hW => ⟨⟨some (.int x), M, rfl, hq, by rw [hu]; exact hH⟩, hS.F hu⟩) hS.2.2 hd C.2.2.2.2.2.2.1
theorem r_zret {b : Bool} (hd : decode (zM_c μ) pc = .ok (.ireturn, 1)) (hr : zM_r μ = some .boolean) (hc : zz_N t0 + zM_mc μ = zz_N t) (hz : zz_Z t0 + zM_ms μ = zz_Z t) (hq : Q (some (.int (zb b))) M) : zz_W G μ t0 t t pc L [.int (zb b)] M Q := by
  intro p e s m args below meth c C H locs ls κ σ hκ hσ hS hH hL
  obtain rfl : κ = zM_mc μ := by omega
  obtain rfl : σ = zM_ms μ := by omega
  exact W.zret C.1 C.2.1 (C.2.2.1.trans hr) (by cases b <;> rfl) (fun u hu hW => ⟨⟨some (.int (zb b)), M, rfl, hq, by rw [hu]; exact hH⟩, hS.F hu⟩) hS.2.2 hd C.2.2.2.2.2.2.1
theorem r_lret {x : Int64} (hd : decode (zM_c μ) pc = .ok (.lreturn, 1)) (hr : zM_r μ = some .long) (hc : zz_N t0 + zM_mc μ = zz_N t) (hz : zz_Z t0 + zM_ms μ = zz_Z t) (hq : Q (some (.long x)) M) : zz_W G μ t0 t t pc L [.long x] M Q := by
  intro p e s m args below meth c C H locs ls κ σ hκ hσ hS hH hL
  obtain rfl : κ = zM_mc μ := by omega
  obtain rfl : σ = zM_ms μ := by omega
  exact W.lret C.1 C.2.1 (C.2.2.1.trans hr) (fun u hu hW => ⟨⟨some (.long x), M, rfl, hq, by rw [hu]; exact hH⟩, hS.F hu⟩) hS.2.2 hd C.2.2.2.2.2.2.1
theorem r_objI {idx k : Nat} (hd : decode (zM_c μ) pc = .ok (.invokespecial idx, 3)) (hl : Cond.methodLink (zM_y μ).cls idx objectInit ∈ zz_tbl) (hw : Cond.instanceMethod objectInit ∈ zz_tbl ∧ Cond.code objectInit ⟨#[0xb1]⟩ 1 none ∈ zz_tbl) (hf : 1 ≤ zM_f μ) (hlo : (st.map fun v => v.category).sum + 12 ≤ zM_l μ)
    (kk : zz_W G μ t0 t1 t (pc + 3) L st M Q) : zz_W G μ t0 t1 t pc L (.ref k :: st) M Q := by
  intro p e s m args below meth c C H locs ls κ σ hκ hσ hS hH hL
  have hts := C.2.2.2.2.2.1
  refine W.objInit C.1 C.2.1 C.2.2.2.2.1 (hts _ hl) (hts _ hw.1) (hts _ hw.2) rfl (hL.1.trans C.2.2.2.1.symm) rfl hd hf ?_ (kk p e s m args below meth c C H locs ls κ σ hκ hσ hS hH hL)
  show 2 * 0 + _ + 12 ≤ _
  rw [List.map_map, show ((fun v : Value => v.category) ∘ zz_rv G) = (fun v => v.category) from funext (zz_rv_cat G), Nat.mul_zero, Nat.zero_add]
  exact hlo
end ZM
