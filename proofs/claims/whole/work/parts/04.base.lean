/-! ===== the memory, the layout, the world ===== -/
/-- the words that every method takes with it; those of nest mates go by the states -/
def zz_tbl : List Cond := lw_tbl.filter goodWord
theorem zz_in {w : Cond} (h : w ∈ lw_tbl) (g : goodWord w = true) : w ∈ zz_tbl := List.mem_filter.mpr ⟨h, g⟩
def zz_NN (U : State) : Prop := ∀ (a : String) (i : Nat) (x : MethodName) (h : String), Cond.methodLinkNest a i x h ∈ lw_tbl → va_Nw (.methodLinkNest a i x h) U
abbrev zzMem : Type := (Nat → Nat → Int32) × (Nat → Nat → Int64)
/-- a method: its name, code, locals, return type, then its room: frames, words of locals, cells, slots -/
abbrev zzMI : Type := MethodName × ByteArray × Nat × Option FieldType × Nat × Nat × Nat × Nat
/-- the start: launch, classes, their slots, the classes of int[], long[], byte[], the heap's size, the script: its place, length, ints -/
abbrev zzG : Type := Launch × (Nat → ClassId) × (Nat → Nat → Nat) × ClassId × ClassId × ClassId × Nat × Nat × Nat × (Nat → Int32)
abbrev zG_l (G : zzG) : Launch := G.1
abbrev zG_C (G : zzG) : Nat → ClassId := G.2.1
abbrev zG_S (G : zzG) : Nat → Nat → Nat := G.2.2.1
abbrev zG_cI (G : zzG) : ClassId := G.2.2.2.1
abbrev zG_cJ (G : zzG) : ClassId := G.2.2.2.2.1
abbrev zG_cB (G : zzG) : ClassId := G.2.2.2.2.2.1
abbrev zG_sz (G : zzG) : Nat := G.2.2.2.2.2.2.1
abbrev zG_b (G : zzG) : Nat := G.2.2.2.2.2.2.2.1
abbrev zG_L (G : zzG) : Nat := G.2.2.2.2.2.2.2.2.1
abbrev zG_xs (G : zzG) : Nat → Int32 := G.2.2.2.2.2.2.2.2.2
abbrev zG_tys (G : zzG) : List (ClassId × FieldType) := [(zG_cI G, .int), (zG_cJ G, .long), (zG_cB G, .byte)]
abbrev zG_D (G : zzG) : va_G := (zG_C G, zG_S G)
abbrev zM_y (μ : zzMI) : MethodName := μ.1
abbrev zM_c (μ : zzMI) : ByteArray := μ.2.1
abbrev zM_n (μ : zzMI) : Nat := μ.2.2.1
abbrev zM_r (μ : zzMI) : Option FieldType := μ.2.2.2.1
abbrev zM_f (μ : zzMI) : Nat := μ.2.2.2.2.1
abbrev zM_l (μ : zzMI) : Nat := μ.2.2.2.2.2.1
abbrev zM_mc (μ : zzMI) : Nat := μ.2.2.2.2.2.2.1
abbrev zM_ms (μ : zzMI) : Nat := μ.2.2.2.2.2.2.2
abbrev zM_R (μ : zzMI) : Room := { frames := zM_f μ, cells := zM_mc μ, slots := zM_ms μ, locals := zM_l μ }
abbrev zM_w (μ : zzMI) : List Cond := .code (zM_y μ) (zM_c μ) (zM_n μ) (zM_r μ) :: zz_tbl
def zz_kdL : List (Nat × Nat) := [(8, 8), (7, 5), (20, 320), (3, 6), (20, 60), (20, 6), (20, 7), (6, 5), (20, 20), (20, 20), (20, 20), (20, 20), (1, 15), (2, 3), (20, 60), (20, 8), (0, 12), (20, 256), (20, 256), (20, 256), (20, 256), (21, 1536), (20, 64), (20, 64), (20, 64), (20, 64), (21, 300), (4, 2), (21, 300), (5, 2), (20, 4), (20, 4), (1, 15), (2, 3), (20, 60), (20, 8), (0, 12), (20, 256), (20, 256), (20, 256), (20, 256), (21, 1536), (20, 64), (20, 64), (20, 64), (20, 64), (21, 300), (4, 2), (21, 300), (5, 2), (20, 4), (20, 4), (1, 15), (2, 3), (20, 60), (20, 8), (0, 12), (20, 256), (20, 256), (20, 256), (20, 256), (21, 1536), (20, 64), (20, 64), (20, 64), (20, 64), (21, 300), (4, 2), (21, 300), (5, 2), (20, 4), (20, 4), (20, 64), (9, 30), (20, 5676), (22, 320), (20, 140), (20, 70), (20, 70), (20, 300), (20, 20), (20, 20), (20, 20), (20, 20), (20, 300), (20, 300), (20, 64), (20, 300), (20, 300), (20, 256), (20, 300)]
def zz_rfL : List (List Nat) := [[1, 3, 7, 12, 32, 52, 72, 0], [2, 0, 0, 0, 0], [], [4, 0, 5, 6, 0, 0], [], [], [], [8, 9, 10, 11, 0], [], [], [], [], [13, 16, 27, 29, 0, 0, 0, 0, 0, 0, 0, 0, 0, 0, 0], [14, 15, 0], [], [], [17, 18, 19, 20, 21, 22, 23, 24, 25, 26, 0, 0], [], [], [], [], [], [], [], [], [], [], [28, 0], [], [30, 31], [], [], [33, 36, 47, 49, 0, 0, 0, 0, 0, 0, 0, 0, 0, 0, 0], [34, 35, 0], [], [], [37, 38, 39, 40, 41, 42, 43, 44, 45, 46, 0, 0], [], [], [], [], [], [], [], [], [], [], [48, 0], [], [50, 51], [], [], [53, 56, 67, 69, 0, 0, 0, 0, 0, 0, 0, 0, 0, 0, 0], [54, 55, 0], [], [], [57, 58, 59, 60, 61, 62, 63, 64, 65, 66, 0, 0], [], [], [], [], [], [], [], [], [], [], [68, 0], [], [70, 71], [], [], [], [74, 0, 75, 76, 77, 78, 0, 0, 0, 0, 0, 0, 0, 0, 79, 0, 80, 81, 82, 83, 0, 84, 85, 86, 87, 88, 89, 0, 0, 90], [], [], [], [], [], [], [], [], [], [], [], [], [], [], [], [], []]
def zz_evL : List (Nat × Nat × Nat) := [(0, 0, 8), (0, 1, 5), (0, 2, 320), (1, 1, 0), (1, 0, 0), (0, 3, 6), (0, 4, 60), (1, 3, 0), (0, 5, 6), (1, 3, 2), (0, 6, 7), (1, 3, 3), (1, 0, 1), (0, 7, 5), (0, 8, 20), (1, 7, 0), (0, 9, 20), (1, 7, 1), (0, 10, 20), (1, 7, 2), (0, 11, 20), (1, 7, 3), (1, 0, 2), (0, 12, 15), (0, 13, 3), (0, 14, 60), (1, 13, 0), (0, 15, 8), (1, 13, 1), (1, 12, 0), (0, 16, 12), (0, 17, 256), (1, 16, 0), (0, 18, 256), (1, 16, 1), (0, 19, 256), (1, 16, 2), (0, 20, 256), (1, 16, 3), (0, 21, 1536), (1, 16, 4), (0, 22, 64), (1, 16, 5), (0, 23, 64), (1, 16, 6), (0, 24, 64), (1, 16, 7), (0, 25, 64), (1, 16, 8), (0, 26, 300), (1, 16, 9), (1, 12, 1), (0, 27, 2), (0, 28, 300), (1, 27, 0), (1, 12, 2), (0, 29, 2), (0, 30, 4), (1, 29, 0), (0, 31, 4), (1, 29, 1), (1, 12, 3), (1, 0, 3), (0, 32, 15), (0, 33, 3), (0, 34, 60), (1, 33, 0), (0, 35, 8), (1, 33, 1), (1, 32, 0), (0, 36, 12), (0, 37, 256), (1, 36, 0), (0, 38, 256), (1, 36, 1), (0, 39, 256), (1, 36, 2), (0, 40, 256), (1, 36, 3), (0, 41, 1536), (1, 36, 4), (0, 42, 64), (1, 36, 5), (0, 43, 64), (1, 36, 6), (0, 44, 64), (1, 36, 7), (0, 45, 64), (1, 36, 8), (0, 46, 300), (1, 36, 9), (1, 32, 1), (0, 47, 2), (0, 48, 300), (1, 47, 0), (1, 32, 2), (0, 49, 2), (0, 50, 4), (1, 49, 0), (0, 51, 4), (1, 49, 1), (1, 32, 3), (1, 0, 4), (0, 52, 15), (0, 53, 3), (0, 54, 60), (1, 53, 0), (0, 55, 8), (1, 53, 1), (1, 52, 0), (0, 56, 12), (0, 57, 256), (1, 56, 0), (0, 58, 256), (1, 56, 1), (0, 59, 256), (1, 56, 2), (0, 60, 256), (1, 56, 3), (0, 61, 1536), (1, 56, 4), (0, 62, 64), (1, 56, 5), (0, 63, 64), (1, 56, 6), (0, 64, 64), (1, 56, 7), (0, 65, 64), (1, 56, 8), (0, 66, 300), (1, 56, 9), (1, 52, 1), (0, 67, 2), (0, 68, 300), (1, 67, 0), (1, 52, 2), (0, 69, 2), (0, 70, 4), (1, 69, 0), (0, 71, 4), (1, 69, 1), (1, 52, 3), (1, 0, 5), (0, 72, 64), (1, 0, 6), (0, 73, 30), (0, 74, 5676), (1, 73, 0), (0, 75, 320), (1, 73, 2), (0, 76, 140), (1, 73, 3), (0, 77, 70), (1, 73, 4), (0, 78, 70), (1, 73, 5), (0, 79, 300), (1, 73, 14), (0, 80, 20), (1, 73, 16), (0, 81, 20), (1, 73, 17), (0, 82, 20), (1, 73, 18), (0, 83, 20), (1, 73, 19), (0, 84, 300), (1, 73, 21), (0, 85, 300), (1, 73, 22), (0, 86, 64), (1, 73, 23), (0, 87, 300), (1, 73, 24), (0, 88, 300), (1, 73, 25), (0, 89, 256), (1, 73, 26), (0, 90, 300), (1, 73, 29)]
def zz_kd (k : Nat) : Nat × Nat := zz_kdL.getD k (99, 0)
def zz_rf (k j : Nat) : Nat := (zz_rfL.getD k []).getD j 0
/-- how many cells there are at a time -/
def zz_N (t : Nat) : Nat := ((zz_evL.take t).filter (fun q => q.1 == 0)).length
def zz_Z (t : Nat) : Nat := (((zz_evL.take t).filter (fun q => q.1 == 0)).map (fun q => q.2.2)).sum
/-- whether a field that holds a reference has been assigned -/
def zz_as (t k j : Nat) : Bool := (zz_evL.take t).contains (1, k, j)
theorem zz_evL_app {t : Nat} {q : Nat × Nat × Nat} (h : zz_evL[t]? = some q) : zz_evL.take (t + 1) = zz_evL.take t ++ [q] := by
  rw [List.take_add_one, h]; rfl
theorem zz_N_new {t k n : Nat} (h : zz_evL[t]? = some (0, k, n)) : zz_N (t + 1) = zz_N t + 1 := by
  unfold zz_N; rw [zz_evL_app h]; simp
theorem zz_Z_new {t k n : Nat} (h : zz_evL[t]? = some (0, k, n)) : zz_Z (t + 1) = zz_Z t + n := by
  unfold zz_Z; rw [zz_evL_app h]; simp
theorem zz_as_new {t k n : Nat} (h : zz_evL[t]? = some (0, k, n)) (a b : Nat) : zz_as (t + 1) a b = zz_as t a b := by
  unfold zz_as; rw [zz_evL_app h]; simp
theorem zz_N_as {t k n : Nat} (h : zz_evL[t]? = some (1, k, n)) : zz_N (t + 1) = zz_N t := by
  unfold zz_N; rw [zz_evL_app h]; simp
theorem zz_Z_as {t k n : Nat} (h : zz_evL[t]? = some (1, k, n)) : zz_Z (t + 1) = zz_Z t := by
  unfold zz_Z; rw [zz_evL_app h]; simp
theorem zz_as_as {t k n : Nat} (h : zz_evL[t]? = some (1, k, n)) (a b : Nat) : zz_as (t + 1) a b = (zz_as t a b || (a == k && b == n)) := by
  unfold zz_as; rw [zz_evL_app h]
  rw [List.contains_eq_mem, List.contains_eq_mem]
  by_cases h1 : (1, a, b) ∈ zz_evL.take t <;> by_cases h2 : a = k <;> by_cases h3 : b = n <;> simp [h1, h2, h3] <;> simp_all
theorem zz_as_mono {t t' k j : Nat} (h : zz_as t k j = true) (ht : t ≤ t') : zz_as t' k j = true := by
  unfold zz_as at h ⊢
  rw [List.contains_eq_mem, decide_eq_true_eq] at h ⊢
  have e : zz_evL.take t = (zz_evL.take t').take t := by rw [List.take_take, Nat.min_eq_left ht]
  rw [e] at h
  exact List.mem_of_mem_take h
theorem zz_N_mono {t t' : Nat} (ht : t ≤ t') : zz_N t ≤ zz_N t' := by
  unfold zz_N
  have e : zz_evL.take t = (zz_evL.take t').take t := by rw [List.take_take, Nat.min_eq_left ht]
  rw [e]
  exact ((List.take_sublist t (zz_evL.take t')).filter _).length_le
/-- an address, a value as the machine has it -/
def zz_ad (G : zzG) (k : Nat) : Nat := if k = 1000 then zG_b G else zG_sz G + k
def zz_rv (G : zzG) : Value → Value
  | .ref k => .ref (zz_ad G k)
  | v => v
theorem zz_ad_lt {G : zzG} {k : Nat} (h : k < 1000) : zz_ad G k = zG_sz G + k := if_neg (Nat.ne_of_lt h)
theorem zz_rv_cat (G : zzG) (v : Value) : (zz_rv G v).category = v.category := by cases v <;> rfl
def zz_fv (G : zzG) (t : Nat) (M : zzMem) (k j : Nat) : Value := if zz_rf k j = 0 then .int (M.1 k j) else if zz_as t k j = true then .ref (zG_sz G + zz_rf k j) else .null
def zz_ent (G : zzG) (t : Nat) (M : zzMem) (k : Nat) : va_E :=
  if (zz_kd k).1 = 20 then .inl (zG_cI G, (zz_kd k).2, .inl (M.1 k))
  else if (zz_kd k).1 = 21 then .inl (zG_cJ G, (zz_kd k).2, .inr (.inl (M.2 k)))
  else if (zz_kd k).1 = 22 then .inl (zG_cB G, (zz_kd k).2, .inl (M.1 k))
  else .inr ((zz_kd k).1, (List.range (zz_kd k).2).map (zz_fv G t M k))
def zz_ws (G : zzG) (t : Nat) (M : zzMem) : va_W := (List.range (zz_N t)).map (fun k => (zG_sz G + k, zz_ent G t M k))
def zz_A (G : zzG) : Nat → Prop := fun q => zG_sz G ≤ q
theorem zz_ws_get {G : zzG} {t : Nat} {M : zzMem} {k : Nat} (h : k < zz_N t) : (zz_ws G t M)[k]? = some (zG_sz G + k, zz_ent G t M k) := by
  simp [zz_ws, h]
theorem zz_ws_out {G : zzG} {t : Nat} {M : zzMem} {k : Nat} {q : Nat × va_E} (h : (zz_ws G t M)[k]? = some q) : k < zz_N t ∧ q = (zG_sz G + k, zz_ent G t M k) := by
  have hk : k < zz_N t := by
    have := (List.getElem?_eq_some_iff.mp h).1
    simpa [zz_ws] using this
  rw [zz_ws_get hk] at h
  exact ⟨hk, (Option.some.inj h).symm⟩
theorem zz_D (G : zzG) (t : Nat) (M : zzMem) : va_D (zz_A G) (zz_ws G t M) := by
  refine ⟨fun i j p q hp hq he => ?_, fun k q hq => ?_⟩
  · obtain ⟨-, rfl⟩ := zz_ws_out hp
    obtain ⟨-, rfl⟩ := zz_ws_out hq
    simp only at he
    omega
  · obtain ⟨-, rfl⟩ := zz_ws_out hq
    exact Nat.le_add_right _ _
theorem zz_ws_set {G : zzG} {t t' : Nat} {M M' : zzMem} {k : Nat} {e : va_E} (hN : zz_N t' = zz_N t) (hk : k < zz_N t) (he : e = zz_ent G t' M' k) (ho : ∀ j, j < zz_N t → j ≠ k → zz_ent G t' M' j = zz_ent G t M j) :
    (zz_ws G t M).set k (zG_sz G + k, e) = zz_ws G t' M' := by
  apply List.ext_getElem?
  intro j
  subst he
  by_cases hj : j < zz_N t
  · rw [zz_ws_get (by rw [hN]; exact hj)]
    by_cases hjk : j = k
    · subst hjk
      rw [List.getElem?_set_self (by simpa [zz_ws] using hk)]
    · rw [List.getElem?_set_ne (Ne.symm hjk), zz_ws_get hj, ho j hj hjk]
  · rw [List.getElem?_eq_none (by simpa [zz_ws] using Nat.not_lt.mp hj), List.getElem?_eq_none (by simpa [zz_ws, hN] using Nat.not_lt.mp hj)]
theorem zz_ws_push {G : zzG} {t t' : Nat} {M M' : zzMem} {e : va_E} (hN : zz_N t' = zz_N t + 1) (he : e = zz_ent G t' M' (zz_N t)) (ho : ∀ j, j < zz_N t → zz_ent G t' M' j = zz_ent G t M j) :
    zz_ws G t M ++ [(zG_sz G + zz_N t, e)] = zz_ws G t' M' := by
  unfold zz_ws
  rw [hN, List.range_succ, List.map_append, he]
  congr 1
  exact List.map_congr_left (fun j hj => by rw [ho j (List.mem_range.mp hj)])
/-- the heap holds the memory at a time -/
def zz_H (G : zzG) (t : Nat) (M : zzMem) (H : Heap) : Prop := va_P (zG_D G) vwCl (zz_ws G t M) H ∧ H.size = zG_sz G + zz_N t
def zz_si (M : zzMem) (k i : Nat) (v : Int32) : zzMem := (fun a => if a = k then upd (M.1 a) i v else M.1 a, M.2)
def zz_sl (M : zzMem) (k i : Nat) (v : Int64) : zzMem := (M.1, fun a => if a = k then vp_updL (M.2 a) i v else M.2 a)
theorem zz_si_ne {M : zzMem} {k i j : Nat} {v : Int32} (h : j ≠ k) : (zz_si M k i v).1 j = M.1 j := if_neg h
theorem zz_si_eq {M : zzMem} {k i : Nat} {v : Int32} : (zz_si M k i v).1 k = upd (M.1 k) i v := if_pos rfl
theorem zz_ent_congr {G : zzG} {t : Nat} {M M' : zzMem} {k : Nat} (h1 : M'.1 k = M.1 k) (h2 : M'.2 k = M.2 k) : zz_ent G t M' k = zz_ent G t M k := by
  unfold zz_ent zz_fv
  rw [h1, h2]
/-- the locals -/
def zz_L (G : zzG) (L : List (Option Value)) (ls : Array Slot) (n : Nat) : Prop := ls.size = n ∧ lv_wf ls ∧ ∀ (i : Nat) (v : Value), L[i]? = some (some v) → ls[i]? = some (.val (zz_rv G v))
def zz_lv (G : zzG) (L : List (Option Value)) : List (Nat × Value) := (List.range L.length).filterMap (fun i => match L[i]? with
  | some (some v) => some (i, zz_rv G v)
  | _ => none)
theorem zz_lv_mem {G : zzG} {L : List (Option Value)} {i : Nat} {v : Value} (h : L[i]? = some (some v)) : (i, zz_rv G v) ∈ zz_lv G L := by
  refine List.mem_filterMap.mpr ⟨i, List.mem_range.mpr (List.getElem?_eq_some_iff.mp h).1, ?_⟩
  rw [h]
theorem zz_lv_out {G : zzG} {L : List (Option Value)} {q : Nat × Value} (h : q ∈ zz_lv G L) : ∃ v, L[q.1]? = some (some v) ∧ q.2 = zz_rv G v := by
  obtain ⟨i, -, hi⟩ := List.mem_filterMap.mp h
  split at hi
  next v hv => cases hi; exact ⟨v, hv, rfl⟩
  next => cases hi
theorem zz_L.has {G : zzG} {L : List (Option Value)} {ls : Array Slot} {n : Nat} (h : zz_L G L ls n) : lv_has ls n (zz_lv G L) :=
  ⟨h.1, h.2.1, fun q hq => by obtain ⟨v, h1, h2⟩ := zz_lv_out hq; rw [h2]; exact h.2.2 _ _ h1⟩
/-- the place before i holds no long -/
def zz_okS (L : List (Option Value)) (i : Nat) : Bool := match i with
  | 0 => true
  | j + 1 => match L[j]? with
    | some (some v) => v.category == 1
    | _ => true
theorem zz_L.store {G : zzG} {L : List (Option Value)} {ls ls' : Array Slot} {n i : Nat} {v : Value} (ok : zz_okS L i = true)
    (h : lv_has ls' n ((i, zz_rv G v) :: (zz_lv G L).filter (fun q => !(q.1 == i) && !(q.1 + 1 == i && q.2.category == 2)))) : zz_L G (L.set i (some v)) ls' n := by
  refine ⟨h.1, h.2.1, fun j w hj => ?_⟩
  by_cases hij : j = i
  · subst hij
    have hlt : j < L.length := by simpa using (List.getElem?_eq_some_iff.mp hj).1
    rw [List.getElem?_set_self hlt] at hj
    cases hj
    exact h.2.2 _ List.mem_cons_self
  · rw [List.getElem?_set_ne (Ne.symm hij)] at hj
    refine h.2.2 (j, zz_rv G w) (List.mem_cons_of_mem _ (List.mem_filter.mpr ⟨zz_lv_mem hj, ?_⟩))
    have h1 : (j == i) = false := by simpa using hij
    simp only [h1, Bool.not_false, Bool.true_and]
    by_cases h2 : j + 1 = i
    · subst h2
      simp only [zz_okS, hj] at ok
      simp only [zz_rv_cat]
      have := eq_of_beq ok
      simp [this]
    · simp [h2]
theorem zz_L.store2 {G : zzG} {L : List (Option Value)} {ls ls' : Array Slot} {n i : Nat} {v : Value} (ok : zz_okS L i = true)
    (h : lv_has ls' n ((i, zz_rv G v) :: (zz_lv G L).filter (fun q => !(q.1 == i) && (!(q.1 == i + 1) && !(q.1 + 1 == i && q.2.category == 2))))) : zz_L G ((L.set i (some v)).set (i + 1) none) ls' n := by
  refine ⟨h.1, h.2.1, fun j w hj => ?_⟩
  by_cases hij1 : j = i + 1
  · subst hij1
    by_cases hlt : i + 1 < (L.set i (some v)).length
    · rw [List.getElem?_set_self hlt] at hj
      cases hj
    · rw [List.getElem?_eq_none (by simpa using Nat.not_lt.mp (by simpa using hlt))] at hj
      cases hj
  rw [List.getElem?_set_ne (Ne.symm hij1)] at hj
  by_cases hij : j = i
  · subst hij
    have hlt : j < L.length := by simpa using (List.getElem?_eq_some_iff.mp hj).1
    rw [List.getElem?_set_self hlt] at hj
    cases hj
    exact h.2.2 _ List.mem_cons_self
  · rw [List.getElem?_set_ne (Ne.symm hij)] at hj
    refine h.2.2 (j, zz_rv G w) (List.mem_cons_of_mem _ (List.mem_filter.mpr ⟨zz_lv_mem hj, ?_⟩))
    have h1 : (j == i) = false := by simpa using hij
    have h1' : (j == i + 1) = false := by simpa using hij1
    simp only [h1, h1', Bool.not_false, Bool.true_and]
    by_cases h2 : j + 1 = i
    · subst h2
      simp only [zz_okS, hj] at ok
      simp only [zz_rv_cat]
      have := eq_of_beq ok
      simp [this]
    · simp [h2]
/-- what holds of a method's body: the machine, the code, the tables' words, the classes -/
def zz_C (G : zzG) (μ : zzMI) (t0 : Nat) (p : Program) (s : State) (m : MethodId) (args : Array Value) (meth : Method) (c : Code) : Prop :=
  p.tables.exec = Jvm.exec ∧ c.code = zM_c μ ∧ meth.sig.returnType = zM_r μ ∧ c.maxLocals = zM_n μ ∧ s.vm.findClass (zM_y μ).cls = some m.cls ∧ (∀ w ∈ zz_tbl, w.before args s = true) ∧ meth.locks = false ∧ meth.name = (zM_y μ).name ∧
  va_K (zG_D G) vwCl (zG_tys G) s ∧ s.heap.size = zG_sz G + zz_N t0 ∧ ((zM_y μ).cls = RL → va_X (zG_b G) (zG_L G) (zG_xs G) s s.heap ∧ zG_b G < zG_sz G) ∧ zz_NN s
def zz_Q (G : zzG) (t1 : Nat) (Q : Option Value → zzMem → Prop) : Array Value → State → Outcome → State → Prop := fun _ st oc t => (∃ (r : Option Value) (M' : zzMem), oc = .returned (r.map (zz_rv G)) ∧ Q r M' ∧ zz_H G t1 M' t.heap) ∧ va_F (zz_A G) st t
/-- from here on: the method, begun at time t0, now at time t, returns at time t1 with Q -/
def zz_W (G : zzG) (μ : zzMI) (t0 t1 t pc : Nat) (L : List (Option Value)) (st : List Value) (M : zzMem) (Q : Option Value → zzMem → Prop) : Prop :=
  ∀ (p : Program) (e : Env) (s : State) (m : MethodId) (args : Array Value) (below : List Frame) (meth : Method) (c : Code), zz_C G μ t0 p s m args meth c →
  ∀ (H : Heap) (locs : List Loc) (ls : Array Slot) (κ σ : Nat), zz_N t0 + κ = zz_N t → zz_Z t0 + σ = zz_Z t → va_S (zz_A G) s.heap H locs → zz_H G t M H → zz_L G L ls (zM_n μ) →
  W p (zG_l G) e (zM_R μ) s m args below meth c H locs κ σ (MQ below (zz_Q G t1 Q) args s (zM_mc μ) (zM_ms μ) (zz_A G)) (F0 m pc ls (st.map (zz_rv G)))
/-- a method's contract: called at time t0 with these arguments and this memory it returns at time t1, with Q -/
def zz_S (G : zzG) (μ : zzMI) (t0 t1 : Nat) (as : List Value) (M : zzMem) (Q : Option Value → zzMem → Prop) : Prop :=
  Met (zG_l G) (zM_y μ) (zM_w μ) (zM_R μ) (va_Pc (as.map (zz_rv G)) (fun U => zz_H G t0 M U.heap ∧ va_K (zG_D G) vwCl (zG_tys G) U ∧ zz_NN U)) (zz_Q G t1 Q) (zM_mc μ) (zM_ms μ) (zz_A G)
/-- the locals with which a method begins -/
def zz_en : List Value → Nat → List (Option Value)
  | [], n => List.replicate n none
  | v :: vs, n => if v.category = 2 then some v :: none :: zz_en vs (n - 2) else some v :: zz_en vs (n - 1)
theorem zz_en_args (vs : List Value) : ∀ (n i j : Nat) (v : Value), (zz_en vs n)[j]? = some (some v) → (i + j, v) ∈ lv_args i vs := by
  induction vs with
  | nil =>
    intro n i j v h
    simp only [zz_en, List.getElem?_replicate] at h
    split at h <;> simp at h
  | cons w ws ih =>
    intro n i j v h
    unfold zz_en at h
    unfold lv_args
    by_cases hc : w.category = 2
    · rw [if_pos hc] at h ⊢
      match j, h with
      | 0, h => cases h; exact List.mem_cons_self
      | 1, h => cases h
      | j + 2, h =>
        have := ih (n - 2) (i + 2) j v h
        rw [show i + (j + 2) = i + 2 + j by omega]
        exact List.mem_cons_of_mem _ this
    · rw [if_neg hc] at h ⊢
      match j, h with
      | 0, h => cases h; exact List.mem_cons_self
      | j + 1, h =>
        have := ih (n - 1) (i + 1) j v h
        rw [show i + (j + 1) = i + 1 + j by omega]
        exact List.mem_cons_of_mem _ this
theorem zz_args_map (G : zzG) (vs : List Value) : ∀ (i : Nat) (q : Nat × Value), q ∈ lv_args i vs → (q.1, zz_rv G q.2) ∈ lv_args i (vs.map (zz_rv G)) := by
  induction vs with
  | nil => intro i q h; cases h
  | cons w ws ih =>
    intro i q h
    simp only [lv_args, List.map_cons, zz_rv_cat, List.mem_cons] at h ⊢
    rcases h with rfl | h
    · exact Or.inl rfl
    · exact Or.inr (ih _ q h)
theorem zz_S_of {G : zzG} {μ : zzMI} {t0 t1 : Nat} {as : List Value} {M : zzMem} {Q : Option Value → zzMem → Prop} (hy : plainName (zM_y μ).cls = true) (hlaw : (zM_y μ).cls ≠ RL) (hlen : (lg_sl (as.map (zz_rv G))).length ≤ zM_n μ)
    (h : zz_W G μ t0 t1 t0 0 (zz_en as (zM_n μ)) [] M Q) : zz_S G μ t0 t1 as M Q := by
  refine Met.ofW (cc := zM_c μ) (maxL := zM_n μ) (ret := zM_r μ) hy rfl ?_
  intro p e s m args below meth c s₁ B hml hv
  obtain ⟨rfl, hH, hK, hNN⟩ := hv
  have hts := atoms_spec (ws := zM_w μ) B.pre
  have hl := lv_entry (as.map (zz_rv G)) (n := zM_n μ) hlen
  rw [lg_entry_eq]
  generalize (lg_sl (as.map (zz_rv G)) ++ List.replicate (zM_n μ - (lg_sl (as.map (zz_rv G))).length) Slot.unset).toArray = ls at hl ⊢
  exact h p e s m _ below meth c ⟨B.exec, B.bytes, B.returns, hml, findClass_of_methodNamed B.named, fun w hw => hts w (List.mem_cons_of_mem _ hw), B.notSynchronized, (name_of_methodNamed B.named B.method).1, hK, hH.2, fun hc => absurd hc hlaw, hNN⟩
    s.heap [] ls 0 0 rfl rfl va_S.rf hH ⟨hl.1, hl.2.1, fun i v hi => by
      have h1 := zz_en_args as (zM_n μ) 0 i v hi
      have h2 := zz_args_map G as 0 _ h1
      simp only [Nat.zero_add] at h2
      exact hl.2.2 _ h2⟩
