/-! ===== buckets and chains read ===== -/
theorem zcnt_list {p : Nat → Bool} {n : Nat} {l : List Nat} (hn : l.Nodup) (h : ∀ x, x ∈ l ↔ x < n ∧ p x = true) : zcnt p n = l.length := by
  rw [zcnt_range, List.countP_eq_length_filter]
  apply List.Perm.length_eq
  refine (List.perm_ext_iff_of_nodup ((List.nodup_range (n := n)).filter p) hn).mpr (fun x => ?_)
  rw [List.mem_filter, List.mem_range, h x]
theorem mKeysIn {N : Nat} {M : zzMem} {cm : Nat} {A : zzA} {xs : Nat → List Nat} {ke ve be se : Nat → Nat} (hW : zWF N A) (hm : zMi M 0 A) (e : zMe M 0 (zA_S A).length cm (zA_E A) xs ke ve be se) {b : Nat} (hb : b < 64) : f_X10_keysIn (nI b) M = some (nI (zA_E A b).length) := by
  have hlen := hW.2.2.2.2.2.2.2.2.1.1
  have hs : M.1 74 7 = nI (zA_S A).length := by have := hm.2.2.2.2.2.2.2.1; simpa using this
  have hB : ∀ x, x < (zA_S A).length → be x < 64 := by
    intro x hx
    have h1 : (ke x, ve x) ∈ zA_E A (be x) := by rw [e.2.2.2.2]; exact List.mem_map.mpr ⟨x, (e.2.1 x hx).2.2.2.2.2, rfl⟩
    rcases Nat.lt_or_ge (be x) (zA_B A) with h | h
    · exact Nat.lt_of_lt_of_le h hW.sB.2.2.1
    · rw [(hW.2.1 _ h).1] at h1; cases h1
  have hc : zcnt (fun x => decide (be x = b)) (zA_S A).length = (zA_E A b).length := by
    rw [e.2.2.2.2, List.length_map]
    refine zcnt_list (e.xnd b) (fun x => ?_)
    constructor
    · intro hx
      have := e.2.2.1 b x hx
      exact ⟨this.1, by simp [this.2]⟩
    · rintro ⟨h1, h2⟩
      have h3 : be x = b := by simpa using h2
      rw [← h3]
      exact (e.2.1 x h1).2.2.2.2.2
  rw [← hc]
  unfold f_X10_keysIn j_X10_keysIn_4
  refine zlp_for (B := fun s : (Int32 × Int32) => b_X10_keysIn_4 (nI b) s.1 s.2 M) (fun i => (nI (zcnt (fun x => decide (be x = b)) i), nI i)) (zA_S A).length _ (fun i hi => ?_) ?_ 0 (by omega)
  · unfold b_X10_keysIn_4
    have hbe := (e.2.1 i hi).2.2.1
    simp only [Nat.zero_add] at hbe
    have hbi := hB i hi
    by_cases hd : be i = b
    · simp (disch := omega) only [hs, ifLe_f, nIadd, zgd_in, nIc, hbe, ifEq_t, hd, zbd, zcnt, decide_true, if_true]
    · simp (disch := omega) only [hs, ifLe_f, nIadd, zgd_in, nIc, hbe, ifEq_f, hd, zbd, zcnt, decide_false, Bool.false_eq_true, if_false, Nat.add_zero]
  · unfold b_X10_keysIn_4
    simp (disch := omega) only [hs, ifLe_t]
/-- a page is free for both, or for neither -/
theorem zfree {M : zzMem} {c : Nat} {h : Nat → Nat} {E : Nat → List (Nat × Nat)} {G : Nat → List Nat} {ch s0 : Nat} (hc : zCh M ch c h E G) (hm : zMp M s0 G) {p : Nat} (hp : p < 256) : (M.1 (ch + 1) p = (-1 : Int32) ∧ M.1 74 (s0 + 1240 + p) = (-1 : Int32) ∧ ∀ b, b < 64 → p ∉ G b) ∨ ∃ (b i : Nat), b < 64 ∧ (G b)[i]? = some p ∧ M.1 (ch + 1) p = nI b ∧ M.1 74 (s0 + 1240 + p) = nI b := by
  by_cases hx : ∀ b, b < 64 → p ∉ G b
  · exact Or.inl ⟨hc.2.2.2.2.1 p hp hx, hm.1 p hp hx, hx⟩
  · right
    simp only [Classical.not_forall, Classical.not_not] at hx
    obtain ⟨b, hb, hpb⟩ := hx
    obtain ⟨i, hi⟩ := List.getElem?_of_mem hpb
    exact ⟨b, i, hb, hi, (hc.2.2.2.2.2.1 b hb i p hi).1, (hm.2 b hb i p hi).1⟩
theorem mChainOf {N : Nat} {M : zzMem} {A : zzA} (hW : zWF N A) (hm : zMp M 0 (zA_G A)) {b : Nat} (hb : b < 64) : f_X10_chainOf (nI b) M = some (nI (zA_G A b).length) := by
  rw [chainOf_eq]
  congr 2
  refine zcnt_list (hW.2.2.2.2.2.2.1 b) (fun p => ?_)
  have hm1 := hm.1
  have hm2 := hm.2
  simp only [Nat.zero_add] at hm1 hm2
  constructor
  · intro hp
    obtain ⟨i, hi⟩ := List.getElem?_of_mem hp
    exact ⟨hW.2.2.2.2.2.1 b p hp, by simp [(hm2 b hb i p hi).1]⟩
  · rintro ⟨hp, he⟩
    have he : M.1 74 (1240 + p) = nI b := by simpa using he
    by_cases hx : ∀ b, b < 64 → p ∉ zA_G A b
    · rw [hm1 p hp hx] at he
      exact absurd he.symm (nI_nm1 (by omega))
    · simp only [Classical.not_forall, Classical.not_not] at hx
      obtain ⟨b', hb', hpb⟩ := hx
      obtain ⟨i, hi⟩ := List.getElem?_of_mem hpb
      rw [(hm2 b' hb' i p hi).1, nI_eq (by omega) (by omega)] at he
      rw [← he]; exact hpb
theorem zWF.G256 {N : Nat} {A : zzA} (hW : zWF N A) (b : Nat) : (zA_G A b).length ≤ 256 := by
  have h1 := hW.2.2.2.2.2.2.1 b
  have h2 : ∀ p ∈ zA_G A b, p < 256 := hW.2.2.2.2.2.1 b
  have : zcnt (fun p => decide (p ∈ zA_G A b)) 256 = (zA_G A b).length := zcnt_list h1 (fun x => ⟨fun h => ⟨h2 x h, by simp [h]⟩, fun h => by simpa using h.2⟩)
  rw [← this]
  exact zcnt_le _ _
theorem op_chains (N : Nat) (a : Int32) : zSame N (zR (f_X9_chains a)) (zR (f_X10_chains a)) := by
  refine zSame.rr (fun hN M hI => ?_)
  obtain ⟨tp, A, h1, h2, h3, h4, h5⟩ := hI
  have hB := h2.sB.2.2.1
  unfold f_X9_chains f_X10_chains
  rw [in_eq]
  rcases inC a 1 150 (by decide) (by decide) with ⟨ha, k, hk1, hk2, rfl⟩ | ha
  · simp only [ha, if_true, zbd, cBuck (o := 12) h2 h3.1]
    refine ⟨nI (zcnt (fun b => decide ((zA_G A b).length = k)) (zA_B A)), ?_, ?_⟩
    · unfold j_X9_chains_26
      refine zlp_for (B := fun s : (Int32 × Int32) => b_X9_chains_26 (nI k) s.1 (nI (zA_B A)) s.2 M) (fun i => (nI (zcnt (fun b => decide ((zA_G A b).length = k)) i), nI i)) (zA_B A) _ (fun i hi => ?_) ?_ 0 (by omega)
      · unfold b_X9_chains_26
        have hv : M.1 25 i = nI (zA_G A i).length := h3.2.2.1.2.1 i (by omega)
        have hl := h2.G256 i
        by_cases hd : (zA_G A i).length = k
        · simp (disch := omega) only [ifLe_f, zgd_in, nIc, hv, ifEq_t, hd, zbd, nIadd, zcnt, decide_true, if_true]
        · simp (disch := omega) only [ifLe_f, zgd_in, nIc, hv, ifEq_f, hd, zbd, nIadd, zcnt, decide_false, Bool.false_eq_true, if_false, Nat.add_zero]
      · unfold b_X9_chains_26
        simp (disch := omega) only [ifLe_t]
    · unfold j_X10_chains_17
      refine zlp_for (B := fun s : (Int32 × Int32) => b_X10_chains_17 (nI k) s.1 s.2 M) (fun i => (nI (zcnt (fun b => decide ((zA_G A b).length = k)) i), nI i)) (zA_B A) _ (fun i hi => ?_) ?_ 0 (by omega)
      · unfold b_X10_chains_17
        have hl := h2.G256 i
        simp (disch := omega) only [mBuck h2 h4.1, Option.bind_some, ifLe_f, mChainOf h2 h4.2.2.2.1]
        by_cases hd : (zA_G A i).length = k
        · simp (disch := omega) only [ifEq_t, hd, zbd, nIadd, zcnt, decide_true, if_true]
        · simp (disch := omega) only [ifEq_f, hd, zbd, nIadd, zcnt, decide_false, Bool.false_eq_true, if_false, Nat.add_zero]
      · unfold b_X10_chains_17
        simp (disch := omega) only [mBuck h2 h4.1, Option.bind_some, ifLe_t]
  · simp only [ha, Bool.false_eq_true, if_false]
    exact ⟨_, rfl, rfl⟩
/-- pages in use, for both -/
def zused (G : Nat → List Nat) (p : Nat) : Prop := ∃ b, b < 64 ∧ p ∈ G b
theorem cUsed {N o : Nat} {M : zzMem} {A : zzA} {f : Nat → Bool} (hf : ∀ p, p < 256 → f p = !decide (M.1 (o + 1) p = (-1 : Int32))) : f_X0_usedPages o M = some (nI (zcnt f 256)) := by
  unfold f_X0_usedPages j_X0_usedPages_4
  refine zlp_for (B := fun s : (Int32 × Int32) => b_X0_usedPages_4 o s.1 s.2 M) (fun i => (nI (zcnt f i), nI i)) 256 _ (fun i hi => ?_) ?_ 0 (by omega)
  · unfold b_X0_usedPages_4
    have hfi := hf i hi
    simp (disch := omega) only [ifLe_f, zgd_in, nIc, zbd, nIadd, zcnt]
    by_cases hd : M.1 (o + 1) i = (-1 : Int32)
    · simp [hd, hfi]
    · simp [hd, hfi]
  · unfold b_X0_usedPages_4
    simp (disch := omega) only [ifLe_t]
theorem mUsed {M : zzMem} {f : Nat → Bool} (hf : ∀ p, p < 256 → f p = !decide (M.1 74 (1240 + p) = (-1 : Int32))) : f_X10_pagesTaken M = some (nI (zcnt f 256)) := by
  unfold f_X10_pagesTaken j_X10_pagesTaken_4
  refine zlp_for (B := fun s : (Int32 × Int32) => b_X10_pagesTaken_4 s.1 s.2 M) (fun i => (nI (zcnt f i), nI i)) 256 _ (fun i hi => ?_) ?_ 0 (by omega)
  · unfold b_X10_pagesTaken_4
    have hfi := hf i hi
    simp (disch := omega) only [ifLe_f, nIadd, zgd_in, nIc, zbd, zcnt]
    by_cases hd : M.1 74 (1240 + i) = (-1 : Int32)
    · simp [hd, hfi]
    · simp [hd, hfi]
  · unfold b_X10_pagesTaken_4
    simp (disch := omega) only [ifLe_t]
theorem usedB {N : Nat} {M : zzMem} {A : zzA} (hW : zWF N A) (h3 : zRC M 12 A) (h4 : zRM M 0 N A) : ∃ u, u ≤ 256 ∧ f_X0_usedPages 16 M = some (nI u) ∧ f_X10_pagesTaken M = some (nI u) := by
  refine ⟨zcnt (fun p => !decide (M.1 (16 + 1) p = (-1 : Int32))) 256, zcnt_le _ _, cUsed (N := N) (A := A) (fun p _ => rfl), mUsed (fun p hp => ?_)⟩
  rcases zfree h3.2.2.1 h4.2.2.2.1 hp with ⟨e1, e2, -⟩ | ⟨b, i, hb, -, e1, e2⟩
  · simp only [Nat.zero_add] at e2
    rw [e2]
    simp only [Nat.reduceAdd] at e1 ⊢
    rw [e1]
    simp
  · simp only [Nat.zero_add] at e2
    rw [e2]
    simp only [Nat.reduceAdd] at e1 ⊢
    rw [e1]
