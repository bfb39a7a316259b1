/-! ===== the reference's entries and pages by place ===== -/
theorem pw_lt {l : List Nat} {f : Nat → Nat} (h : l.Pairwise (fun x y => f x < f y)) {i j x y : Nat} (hi : l[i]? = some x) (hj : l[j]? = some y) : f x < f y ↔ i < j := by
  obtain ⟨i1, i2⟩ := List.getElem?_eq_some_iff.mp hi
  obtain ⟨j1, j2⟩ := List.getElem?_eq_some_iff.mp hj
  have hp := List.pairwise_iff_getElem.mp h
  constructor
  · intro hxy
    rcases Nat.lt_trichotomy i j with hh | hh | hh
    · exact hh
    · subst hh
      have : x = y := by rw [← i2, ← j2]
      rw [this] at hxy; omega
    · have := hp j i j1 i1 hh
      rw [i2, j2] at this; omega
  · intro hij
    have := hp i j i1 j1 hij
    rw [i2, j2] at this
    exact this
theorem zleast {P : Nat → Prop} (h : ∃ x, P x) : ∃ x, P x ∧ ∀ y, y < x → ¬ P y := by
  obtain ⟨x, hx⟩ := h
  induction x using Nat.strongRecOn with
  | ind x ih =>
    by_cases hy : ∃ y, y < x ∧ P y
    · obtain ⟨y, h1, h2⟩ := hy
      exact ih y h1 h2
    · exact ⟨x, hx, fun y h1 h2 => hy ⟨y, h1, h2⟩⟩
section ME
variable {M : zzMem} {m cm : Nat} {E : Nat → List (Nat × Nat)} {xs : Nat → List Nat} {ke ve be se : Nat → Nat}
theorem mPlaceOf (hm : M.1 74 7 = nI m) (hm3 : m ≤ 300) (e : zMe M 0 m cm E xs ke ve be se) (hcm : cm < 2147483648) (hB : ∀ x, x < m → be x < 64) {b i x : Nat} (hi : (xs b)[i]? = some x) : f_X10_placeOf (nI x) M = some (nI i) := by
  have hx := e.2.2.1 b x (List.mem_of_getElem? hi)
  have hil := (List.getElem?_eq_some_iff.mp hi).1
  have hc : zcnt (fun q => decide (be q = b ∧ se q < se x)) m = i := by
    rw [zcnt_list (l := (xs b).take i) ((e.xnd b).sublist (List.take_sublist i _)) (fun q => ?_)]
    · rw [List.length_take]; omega
    · constructor
      · intro hq
        have hq2 := e.2.2.1 b q (List.mem_of_mem_take hq)
        obtain ⟨j, hj⟩ := List.getElem?_of_mem hq
        rw [List.getElem?_take] at hj
        split at hj
        · rename_i hji
          have := (pw_lt (e.2.2.2.1 b) hj hi).mpr hji
          exact ⟨hq2.1, by simp [hq2.2, this]⟩
        · cases hj
      · rintro ⟨h1, h2⟩
        have h2 : be q = b ∧ se q < se x := by simpa using h2
        have hmem : q ∈ xs b := by rw [← h2.1]; exact (e.2.1 q h1).2.2.2.2.2
        obtain ⟨j, hj⟩ := List.getElem?_of_mem hmem
        have := (pw_lt (e.2.2.2.1 b) hj hi).mp h2.2
        refine List.mem_of_getElem? (i := j) ?_
        rw [List.getElem?_take, if_pos this]; exact hj
  have hbx := (e.2.1 x hx.1).2.2.1
  have hsx := (e.2.1 x hx.1).2.2.2.1
  have hsc := (e.2.1 x hx.1).2.2.2.2.1
  have hb64 := hB x hx.1
  rw [hx.2] at hb64 hbx
  simp only [Nat.zero_add] at hbx hsx
  unfold f_X10_placeOf j_X10_placeOf_4
  rw [← hc]
  refine zlp_for (B := fun s : (Int32 × Int32) => b_X10_placeOf_4 (nI x) s.1 s.2 M) (fun t => (nI (zcnt (fun q => decide (be q = b ∧ se q < se x)) t), nI t)) m _ (fun t ht => ?_) ?_ 0 (by omega)
  · have hbt := (e.2.1 t ht).2.2.1
    have hst := (e.2.1 t ht).2.2.2.1
    have hstc := (e.2.1 t ht).2.2.2.2.1
    have hbt64 := hB t ht
    simp only [Nat.zero_add] at hbt hst
    unfold b_X10_placeOf_4
    by_cases h1 : be t = b
    · by_cases h2 : se t < se x
      · simp (disch := omega) only [hm, ifLe_f, nIadd, zgd_in, nIc, hbt, hbx, hst, hsx, h1, if_true, zbd, zcnt, h2, and_self, decide_true]
      · simp (disch := omega) only [hm, ifLe_f, ifLe_t, nIadd, zgd_in, nIc, hbt, hbx, hst, hsx, h1, if_true, zbd, zcnt, h2, and_false, decide_false, Bool.false_eq_true, if_false, Nat.add_zero]
    · simp (disch := omega) only [hm, ifLe_f, nIadd, zgd_in, nIc, hbt, hbx, ifEq_f, zbd, zcnt, h1, false_and, decide_false, Bool.false_eq_true, if_false, Nat.add_zero]
  · unfold b_X10_placeOf_4
    simp (disch := omega) only [hm, ifLe_t]
theorem mEntryAt (hm : M.1 74 7 = nI m) (hm3 : m ≤ 300) (e : zMe M 0 m cm E xs ke ve be se) (hcm : cm < 2147483648) (hB : ∀ x, x < m → be x < 64) {b i x : Nat} (hi : (xs b)[i]? = some x) : f_X10_entryAt (nI b) (nI i) M = some (nI x) := by
  have hx := e.2.2.1 b x (List.mem_of_getElem? hi)
  have hil := (List.getElem?_eq_some_iff.mp hi).1
  have hlen : ∀ b, (xs b).length ≤ m := fun b => by
    have : zcnt (fun q => decide (q ∈ xs b)) m = (xs b).length := zcnt_list (e.xnd b) (fun q => ⟨fun h => ⟨(e.2.2.1 b q h).1, by simp [h]⟩, fun h => by simpa using h.2⟩)
    rw [← this]; exact zcnt_le _ _
  have hb64 := hB x hx.1
  rw [hx.2] at hb64
  have hl := hlen b
  unfold f_X10_entryAt j_X10_entryAt_2
  refine zlp_for (B := fun s : Int32 => b_X10_entryAt_2 (nI b) (nI i) s M) (fun t => nI t) x _ (fun t ht => ?_) ?_ 0 (by omega)
  · have hbt := (e.2.1 t (by omega)).2.2.1
    have hbt64 := hB t (by omega)
    simp only [Nat.zero_add] at hbt
    unfold b_X10_entryAt_2
    by_cases h1 : be t = b
    · have hmem : t ∈ xs b := by rw [← h1]; exact (e.2.1 t (by omega)).2.2.2.2.2
      obtain ⟨j, hj⟩ := List.getElem?_of_mem hmem
      have hjl := (List.getElem?_eq_some_iff.mp hj).1
      have hji : j ≠ i := fun h => by rw [h, hi] at hj; cases hj; omega
      simp (disch := omega) only [hm, ifLe_f, nIadd, zgd_in, nIc, hbt, h1, if_true, mPlaceOf hm hm3 e hcm hB hj, Option.bind_some, ifEq_f, zbd]
    · simp (disch := omega) only [hm, ifLe_f, nIadd, zgd_in, nIc, hbt, ifEq_f, zbd]
  · have hbt := (e.2.1 x hx.1).2.2.1
    simp only [Nat.zero_add] at hbt
    unfold b_X10_entryAt_2
    simp (disch := omega) only [hm, ifLe_f, nIadd, zgd_in, nIc, hbt, hx.2, if_true, mPlaceOf hm hm3 e hcm hB hi, Option.bind_some]
theorem mEntryOf {sl k s0 : Nat} (hs0 : s0 = 1892 * sl) (hsl : sl ≤ 2) (hm : M.1 74 (s0 + 7) = nI m) (hm3 : m ≤ 300) (e : zMe M s0 m cm E xs ke ve be se) (hk : ∀ x, x < m → ke x < 65536) (hkk : k < 65536) : (∃ x, x < m ∧ ke x = k ∧ f_X10_entryOf (nI sl) (nI k) M = some (nI x)) ∨ ((∀ x, x < m → ke x ≠ k) ∧ f_X10_entryOf (nI sl) (nI k) M = some (-1 : Int32)) := by
  have step : ∀ t, t < m → ke t ≠ k → b_X10_entryOf_2 (nI sl) (nI k) (nI t) M = some (.inl (nI (t + 1))) := by
    intro t ht hne
    have h1 := (e.2.1 t ht).1
    have h2 := hk t ht
    unfold b_X10_entryOf_2
    rw [hs0] at hm h1
    simp (disch := omega) only [nImul, nIadd, zgd_in, nIc, hm, ifLe_f, h1, ifEq_f, zbd]
  by_cases hex : ∃ x, x < m ∧ ke x = k
  · left
    have hex2 : ∃ x, x < m ∧ ke x = k ∧ ∀ y, y < x → ke y ≠ k := by
      obtain ⟨x, hx, hmin⟩ := zleast hex
      exact ⟨x, hx.1, hx.2, fun y hy hh => hmin y hy ⟨by omega, hh⟩⟩
    obtain ⟨x, hx, hxk, hmin⟩ := hex2
    refine ⟨x, hx, hxk, ?_⟩
    unfold f_X10_entryOf j_X10_entryOf_2
    refine zlp_for (B := fun s : Int32 => b_X10_entryOf_2 (nI sl) (nI k) s M) (fun t => nI t) x _ (fun t ht => step t (by omega) (hmin t ht)) ?_ 0 (by omega)
    have h1 := (e.2.1 x hx).1
    unfold b_X10_entryOf_2
    rw [hs0] at hm h1
    simp (disch := omega) only [nImul, nIadd, zgd_in, nIc, hm, ifLe_f, h1, hxk, if_true]
  · right
    have hno : ∀ x, x < m → ke x ≠ k := fun x hx hh => hex ⟨x, hx, hh⟩
    refine ⟨hno, ?_⟩
    unfold f_X10_entryOf j_X10_entryOf_2
    refine zlp_for (B := fun s : Int32 => b_X10_entryOf_2 (nI sl) (nI k) s M) (fun t => nI t) m _ (fun t ht => step t ht (hno t ht)) ?_ 0 (by omega)
    unfold b_X10_entryOf_2
    rw [hs0] at hm
    simp (disch := omega) only [nImul, nIadd, zgd_in, nIc, hm, ifLe_t]
theorem mPageAt {G : Nat → List Nat} (hG : zGok G) (h : zMp M 0 G) {b i p : Nat} (hb : b < 64) (hi : (G b)[i]? = some p) (hi2 : i < 2147483648) : f_X10_pageAt (nI b) (nI i) M = some (nI p) := by
  have hp := hG.1 b p (List.mem_of_getElem? hi)
  have h1 := h.1
  have h2 := h.2
  simp only [Nat.zero_add] at h1 h2
  unfold f_X10_pageAt j_X10_pageAt_2
  refine zlp_for (B := fun s : Int32 => b_X10_pageAt_2 (nI b) (nI i) s M) (fun t => nI t) p _ (fun t ht => ?_) ?_ 0 (by omega)
  · unfold b_X10_pageAt_2
    by_cases hx : ∀ b, b < 64 → t ∉ G b
    · have := h1 t (by omega) hx
      have hne : ¬ (-1 : Int32) = nI b := fun hh => nI_nm1 (by omega) hh.symm
      simp (disch := omega) only [ifLe_f, nIadd, zgd_in, nIc, this, if_neg hne, zbd]
    · simp only [Classical.not_forall, Classical.not_not] at hx
      obtain ⟨b', hb', hpb⟩ := hx
      obtain ⟨j, hj⟩ := List.getElem?_of_mem hpb
      obtain ⟨g1, g2⟩ := h2 b' hb' j t hj
      by_cases hbb : b' = b
      · subst hbb
        have hji : j ≠ i := fun hh => by rw [hh, hi] at hj; cases hj; omega
        have hjl := (List.getElem?_eq_some_iff.mp hj).1
        have hl : (G b').length ≤ 256 := by
          have : zcnt (fun p => decide (p ∈ G b')) 256 = (G b').length := zcnt_list (hG.2.1 b') (fun x => ⟨fun h => ⟨hG.1 b' x h, by simp [h]⟩, fun h => by simpa using h.2⟩)
          rw [← this]; exact zcnt_le _ _
        simp (disch := omega) only [ifLe_f, nIadd, zgd_in, nIc, g1, g2, if_true, ifEq_f, zbd]
      · simp (disch := omega) only [ifLe_f, nIadd, zgd_in, nIc, g1, ifEq_f, zbd]
  · obtain ⟨g1, g2⟩ := h2 b hb i p hi
    unfold b_X10_pageAt_2
    simp (disch := omega) only [ifLe_f, nIadd, zgd_in, nIc, g1, g2, if_true]
theorem mChainG {G : Nat → List Nat} (hG : zGok G) (hm : zMp M 0 G) {b : Nat} (hb : b < 64) : f_X10_chainOf (nI b) M = some (nI (G b).length) := by
  rw [chainOf_eq]
  congr 2
  refine zcnt_list (hG.2.1 b) (fun p => ?_)
  have hm1 := hm.1
  have hm2 := hm.2
  simp only [Nat.zero_add] at hm1 hm2
  constructor
  · intro hp
    obtain ⟨i, hi⟩ := List.getElem?_of_mem hp
    exact ⟨hG.1 b p hp, by simp [(hm2 b hb i p hi).1]⟩
  · rintro ⟨hp, he⟩
    have he : M.1 74 (1240 + p) = nI b := by simpa using he
    by_cases hx : ∀ b, b < 64 → p ∉ G b
    · rw [hm1 p hp hx] at he
      exact absurd he.symm (nI_nm1 (by omega))
    · simp only [Classical.not_forall, Classical.not_not] at hx
      obtain ⟨b', hb', hpb⟩ := hx
      obtain ⟨i, hi⟩ := List.getElem?_of_mem hpb
      rw [(hm2 b' hb' i p hi).1, nI_eq (by omega) (by omega)] at he
      rw [← he]; exact hpb
theorem mKeysG (hs : M.1 74 7 = nI m) (hm3 : m ≤ 300) (e : zMe M 0 m cm E xs ke ve be se) (hB : ∀ x, x < m → be x < 64) {b : Nat} (hb : b < 64) : f_X10_keysIn (nI b) M = some (nI (E b).length) := by
  have hc : zcnt (fun x => decide (be x = b)) m = (E b).length := by
    rw [e.2.2.2.2, List.length_map]
    refine zcnt_list (e.xnd b) (fun x => ?_)
    constructor
    · intro hx
      have := e.2.2.1 b x hx
      exact ⟨this.1, by simp [this.2]⟩
    · rintro ⟨h1, h2⟩
      have h3 : be x = b := by simpa using h2
      rw [← h3]
      exact (e.2.1 x h1).2.2.2.2.2
  rw [← hc]
  unfold f_X10_keysIn j_X10_keysIn_4
  refine zlp_for (B := fun s : (Int32 × Int32) => b_X10_keysIn_4 (nI b) s.1 s.2 M) (fun i => (nI (zcnt (fun x => decide (be x = b)) i), nI i)) m _ (fun i hi => ?_) ?_ 0 (by omega)
  · unfold b_X10_keysIn_4
    have hbe := (e.2.1 i hi).2.2.1
    simp only [Nat.zero_add] at hbe
    have hbi := hB i hi
    by_cases hd : be i = b
    · simp (disch := omega) only [hs, ifLe_f, nIadd, zgd_in, nIc, hbe, ifEq_t, hd, zbd, zcnt, decide_true, if_true]
    · simp (disch := omega) only [hs, ifLe_f, nIadd, zgd_in, nIc, hbe, ifEq_f, hd, zbd, zcnt, decide_false, Bool.false_eq_true, if_false, Nat.add_zero]
  · unfold b_X10_keysIn_4
    simp (disch := omega) only [hs, ifLe_t]
theorem zMe.xlen {s0 : Nat} (e : zMe M s0 m cm E xs ke ve be se) (b : Nat) : (xs b).length ≤ m := by
  have : zcnt (fun q => decide (q ∈ xs b)) m = (xs b).length := zcnt_list (e.xnd b) (fun q => ⟨fun h => ⟨(e.2.2.1 b q h).1, by simp [h]⟩, fun h => by simpa using h.2⟩)
  rw [← this]; exact zcnt_le _ _
theorem zMe.elen {s0 : Nat} (e : zMe M s0 m cm E xs ke ve be se) (b : Nat) : (E b).length = (xs b).length := by rw [e.2.2.2.2, List.length_map]
end ME
theorem zGok.len {G : Nat → List Nat} (h : zGok G) (b : Nat) : (G b).length ≤ 256 := by
  have : zcnt (fun p => decide (p ∈ G b)) 256 = (G b).length := zcnt_list (h.2.1 b) (fun x => ⟨fun h1 => ⟨h.1 b x h1, by simp [h1]⟩, fun h => by simpa using h.2⟩)
  rw [← this]; exact zcnt_le _ _
theorem zWF.gok {N : Nat} {A : zzA} (h : zWF N A) : zGok (zA_G A) := ⟨h.2.2.2.2.2.1, h.2.2.2.2.2.2.1, h.2.2.2.2.2.2.2.1⟩
