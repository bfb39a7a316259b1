/-! ===== the two new objects ===== -/
theorem zFr.z {S : Nat → Nat → Prop} {M : zzMem} {k : Nat} (h : ∀ i, S k i) : zFr S M (zz_z M k) := fun a b hs => by
  have ha : a ≠ k := fun e => hs (by rw [e]; exact h b)
  unfold zz_z
  simp [ha]
theorem rd_z {M : zzMem} {k i : Nat} : (zz_z M k).1 k i = 0 := by unfold zz_z; simp
theorem i3_12 (M : zzMem) : ∃ M', n_X3_init_13 M = some M' ∧ M'.1 13 2 = nI 1 ∧ M'.1 14 0 = (-1 : Int32) ∧ zFr (fun k _ => 13 ≤ k ∧ k ≤ 15) M M' := by
  unfold n_X3_init_13
  simp only [zbd]
  refine ⟨_, rfl, ?_, ?_, (((zFr.z ?_).trans (zFr.z ?_)).trans (zFr.si ?_)).trans (zFr.si ?_)⟩
  · simp (disch := omega) only [rd_ne, rd_eq]
  · simp (disch := omega) only [rd_eq]
  · intro i; omega
  · intro i; omega
  · omega
  · omega
theorem i0_12 (M : zzMem) : ∃ M', n_X0_init_16 M = some M' ∧ zFr (fun k _ => 16 ≤ k ∧ k ≤ 26) M M' := by
  unfold n_X0_init_16
  simp only [zbd]
  refine ⟨_, rfl, (((((((((((zFr.z ?_).trans (zFr.z ?_)).trans (zFr.z ?_)).trans (zFr.z ?_)).trans (zFr.z ?_)).trans (zFr.z ?_)).trans (zFr.z ?_)).trans (zFr.z ?_)).trans (zFr.z ?_)).trans (zFr.z ?_)).trans (zFr.si ?_)).trans (zFr.si ?_)⟩
  all_goals first
    | omega
    | (intro i; omega)
theorem i5_12 (M : zzMem) : ∃ M', n_X5_init_27 M = some M' ∧ M'.1 27 1 = nI 0 ∧ zFr (fun k _ => 27 ≤ k ∧ k ≤ 28) M M' := by
  unfold n_X5_init_27
  simp only [zbd]
  refine ⟨_, rfl, rd_eq, (zFr.z ?_).trans (zFr.si ?_)⟩
  · intro i; omega
  · omega
theorem i6_12 (M : zzMem) : ∃ M', n_X6_init_29 M = some M' ∧ (∀ s, s < 4 → M'.1 30 s = (-1 : Int32)) ∧ zFr (fun k _ => 29 ≤ k ∧ k ≤ 31) M M' := by
  unfold n_X6_init_29
  simp only [zbd]
  obtain ⟨M3, a1, a2, a3⟩ := cFill (p := 30) (n := 4) (v := (-1 : Int32)) (zz_z (zz_z M 30) 31) (by decide)
  refine ⟨M3, by rw [a1]; rfl, a2, ((zFr.z ?_).trans (zFr.z ?_)).trans (a3.weak (fun k i h => ?_))⟩
  · intro i; omega
  · intro i; omega
  · omega
theorem i2_12 (M : zzMem) : ∃ M', n_X2_init_12 M = some M' ∧ zRC M' 12 (zA0 2 3 80 40 1 1 [(1, 0)]) ∧ zFr (fun k _ => 12 ≤ k ∧ k ≤ 31) M M' := by
  obtain ⟨M2, a1, a2, a3, a4⟩ := i3_12 (zz_z M 13)
  obtain ⟨M4, b1, b2⟩ := i0_12 (zz_z M2 16)
  obtain ⟨M6, c1, c2, c3⟩ := i5_12 (zz_z M4 27)
  obtain ⟨M8, d1, d2, d3⟩ := i6_12 (zz_z M6 29)
  have z1 := zFr.z (S := fun k _ => k = 13) (M := M) (k := 13) (fun i => rfl)
  have z2 := zFr.z (S := fun k _ => k = 16) (M := M2) (k := 16) (fun i => rfl)
  have z3 := zFr.z (S := fun k _ => k = 27) (M := M4) (k := 27) (fun i => rfl)
  have z4 := zFr.z (S := fun k _ => k = 29) (M := M6) (k := 29) (fun i => rfl)
  let X : zzMem := zz_si (zz_si (zz_si (zz_si (zz_si (zz_si (zz_si (zz_si (zz_si (zz_si (zz_si M8 12 4 (nI 2)) 12 5 (nI 80)) 12 6 (nI 40)) 12 7 (nI 1)) 12 8 (nI 0)) 12 9 (nI 0)) 12 10 (nI 0)) 12 11 (nI 0)) 12 12 (nI 0)) 12 13 (nI 0)) 12 14 (nI 1)
  have fX : zFr (fun k _ => k = 12) M8 X := by
    refine ((((((((((zFr.si ?_).trans (zFr.si ?_)).trans (zFr.si ?_)).trans (zFr.si ?_)).trans (zFr.si ?_)).trans (zFr.si ?_)).trans (zFr.si ?_)).trans (zFr.si ?_)).trans (zFr.si ?_)).trans (zFr.si ?_)).trans (zFr.si ?_) <;> rfl
  have x4 : X.1 12 4 = nI 2 := by simp (disch := omega) only [X, rd_ne, rd_eq]
  obtain ⟨M20, e1, e2, e3, e4⟩ := cClear (ch := 16) (c := 3) (n := 2) X (zA_h (zA0 2 3 80 40 1 1 [(1, 0)])) (by omega) (by omega)
  have t : ∀ i, M20.1 12 i = X.1 12 i := fun i => (e4 12 i (by omega)).1
  refine ⟨M20, ?_, ⟨⟨?_, ?_, ?_, ?_, ?_, ?_, ?_, ?_, ?_, ?_, ?_, ?_⟩, ⟨?_, fun j hj => ?_⟩, ?_, ⟨?_, fun i k hk => ?_⟩, fun s hs => ⟨fun _ => ?_, fun q hq => ?_⟩⟩, ?_⟩
  · unfold n_X2_init_12
    simp only [zbd, a1, b1, c1, d1, Option.bind_some]
    have x4' : (zz_si (zz_si (zz_si (zz_si (zz_si (zz_si (zz_si (zz_si (zz_si (zz_si (zz_si M8 12 4 (nI 2)) 12 5 (nI 80)) 12 6 (nI 40)) 12 7 (nI 1)) 12 8 (nI 0)) 12 9 (nI 0)) 12 10 (nI 0)) 12 11 (nI 0)) 12 12 (nI 0)) 12 13 (nI 0)) 12 14 (nI 1)).1 12 4 = nI 2 := x4
    rw [x4']
    have e1' : f_X0_clear 16 (nI 3) (nI 2) (zz_si (zz_si (zz_si (zz_si (zz_si (zz_si (zz_si (zz_si (zz_si (zz_si (zz_si M8 12 4 (nI 2)) 12 5 (nI 80)) 12 6 (nI 40)) 12 7 (nI 1)) 12 8 (nI 0)) 12 9 (nI 0)) 12 10 (nI 0)) 12 11 (nI 0)) 12 12 (nI 0)) 12 13 (nI 0)) 12 14 (nI 1)) = some M20 := e1
    rw [e1']
    rfl
  · rw [t]; exact x4
  · rw [t]; simp (disch := omega) only [X, rd_ne, rd_eq]; rfl
  · rw [t]; simp (disch := omega) only [X, rd_ne, rd_eq]; rfl
  · rw [t]; simp (disch := omega) only [X, rd_ne, rd_eq]; rfl
  · rw [t]; simp (disch := omega) only [X, rd_ne, rd_eq]; rfl
  · rw [t]; simp (disch := omega) only [X, rd_ne, rd_eq]; rfl
  · rw [t]; simp (disch := omega) only [X, rd_ne, rd_eq]; rfl
  · rw [t]; simp (disch := omega) only [X, rd_ne, rd_eq]; rfl
  · rw [t]; simp (disch := omega) only [X, rd_ne, rd_eq]; rfl
  · rw [t]; simp (disch := omega) only [X, rd_ne, rd_eq]; rfl
  · rw [t]; simp (disch := omega) only [X, rd_ne, rd_eq]; rfl
  · exact e2
  · rw [(e4 _ _ (by omega)).1, (fX _ _ (by omega)).1, (d3 _ _ (by omega)).1, (z4 _ _ (by omega)).1, (c3 _ _ (by omega)).1, (z3 _ _ (by omega)).1, (b2 _ _ (by omega)).1, (z2 _ _ (by omega)).1]; exact a2
  · have hj0 : j = 0 := by have : j < 1 := hj; omega
    subst hj0
    rw [(e4 _ _ (by omega)).1, (fX _ _ (by omega)).1, (d3 _ _ (by omega)).1, (z4 _ _ (by omega)).1, (c3 _ _ (by omega)).1, (z3 _ _ (by omega)).1, (b2 _ _ (by omega)).1, (z2 _ _ (by omega)).1]; exact a3
  · exact e3
  · rw [(e4 _ _ (by omega)).1, (fX _ _ (by omega)).1, (d3 _ _ (by omega)).1, (z4 _ _ (by omega)).1]; exact c2
  · have hk : ([] : List Nat)[i]? = some k := hk
    simp at hk
  · rw [(e4 _ _ (by omega)).1, (fX _ _ (by omega)).1]; exact d2 s hs
  · cases hq
  · refine (((((((((z1.weak ?_).trans (a4.weak ?_)).trans (z2.weak ?_)).trans (b2.weak ?_)).trans (z3.weak ?_)).trans (c3.weak ?_)).trans (z4.weak ?_)).trans (d3.weak ?_)).trans (fX.weak ?_)).trans (e4.weak ?_) <;> (intro k i h; omega)

theorem i3_32 (M : zzMem) : ∃ M', n_X3_init_33 M = some M' ∧ M'.1 33 2 = nI 1 ∧ M'.1 34 0 = (-1 : Int32) ∧ zFr (fun k _ => 33 ≤ k ∧ k ≤ 35) M M' := by
  unfold n_X3_init_33
  simp only [zbd]
  refine ⟨_, rfl, ?_, ?_, (((zFr.z ?_).trans (zFr.z ?_)).trans (zFr.si ?_)).trans (zFr.si ?_)⟩
  · simp (disch := omega) only [rd_ne, rd_eq]
  · simp (disch := omega) only [rd_eq]
  · intro i; omega
  · intro i; omega
  · omega
  · omega
theorem i0_32 (M : zzMem) : ∃ M', n_X0_init_36 M = some M' ∧ zFr (fun k _ => 36 ≤ k ∧ k ≤ 46) M M' := by
  unfold n_X0_init_36
  simp only [zbd]
  refine ⟨_, rfl, (((((((((((zFr.z ?_).trans (zFr.z ?_)).trans (zFr.z ?_)).trans (zFr.z ?_)).trans (zFr.z ?_)).trans (zFr.z ?_)).trans (zFr.z ?_)).trans (zFr.z ?_)).trans (zFr.z ?_)).trans (zFr.z ?_)).trans (zFr.si ?_)).trans (zFr.si ?_)⟩
  all_goals first
    | omega
    | (intro i; omega)
theorem i5_32 (M : zzMem) : ∃ M', n_X5_init_47 M = some M' ∧ M'.1 47 1 = nI 0 ∧ zFr (fun k _ => 47 ≤ k ∧ k ≤ 48) M M' := by
  unfold n_X5_init_47
  simp only [zbd]
  refine ⟨_, rfl, rd_eq, (zFr.z ?_).trans (zFr.si ?_)⟩
  · intro i; omega
  · omega
theorem i6_32 (M : zzMem) : ∃ M', n_X6_init_49 M = some M' ∧ (∀ s, s < 4 → M'.1 50 s = (-1 : Int32)) ∧ zFr (fun k _ => 49 ≤ k ∧ k ≤ 51) M M' := by
  unfold n_X6_init_49
  simp only [zbd]
  obtain ⟨M3, a1, a2, a3⟩ := cFill (p := 50) (n := 4) (v := (-1 : Int32)) (zz_z (zz_z M 50) 51) (by decide)
  refine ⟨M3, by rw [a1]; rfl, a2, ((zFr.z ?_).trans (zFr.z ?_)).trans (a3.weak (fun k i h => ?_))⟩
  · intro i; omega
  · intro i; omega
  · omega
theorem i2_32 (M : zzMem) : ∃ M', n_X2_init_32 M = some M' ∧ zRC M' 32 (zA0 2 3 80 40 1 1 [(1, 0)]) ∧ zFr (fun k _ => 32 ≤ k ∧ k ≤ 51) M M' := by
  obtain ⟨M2, a1, a2, a3, a4⟩ := i3_32 (zz_z M 33)
  obtain ⟨M4, b1, b2⟩ := i0_32 (zz_z M2 36)
  obtain ⟨M6, c1, c2, c3⟩ := i5_32 (zz_z M4 47)
  obtain ⟨M8, d1, d2, d3⟩ := i6_32 (zz_z M6 49)
  have z1 := zFr.z (S := fun k _ => k = 33) (M := M) (k := 33) (fun i => rfl)
  have z2 := zFr.z (S := fun k _ => k = 36) (M := M2) (k := 36) (fun i => rfl)
  have z3 := zFr.z (S := fun k _ => k = 47) (M := M4) (k := 47) (fun i => rfl)
  have z4 := zFr.z (S := fun k _ => k = 49) (M := M6) (k := 49) (fun i => rfl)
  let X : zzMem := zz_si (zz_si (zz_si (zz_si (zz_si (zz_si (zz_si (zz_si (zz_si (zz_si (zz_si M8 32 4 (nI 2)) 32 5 (nI 80)) 32 6 (nI 40)) 32 7 (nI 1)) 32 8 (nI 0)) 32 9 (nI 0)) 32 10 (nI 0)) 32 11 (nI 0)) 32 12 (nI 0)) 32 13 (nI 0)) 32 14 (nI 1)
  have fX : zFr (fun k _ => k = 32) M8 X := by
    refine ((((((((((zFr.si ?_).trans (zFr.si ?_)).trans (zFr.si ?_)).trans (zFr.si ?_)).trans (zFr.si ?_)).trans (zFr.si ?_)).trans (zFr.si ?_)).trans (zFr.si ?_)).trans (zFr.si ?_)).trans (zFr.si ?_)).trans (zFr.si ?_) <;> rfl
  have x4 : X.1 32 4 = nI 2 := by simp (disch := omega) only [X, rd_ne, rd_eq]
  obtain ⟨M20, e1, e2, e3, e4⟩ := cClear (ch := 36) (c := 3) (n := 2) X (zA_h (zA0 2 3 80 40 1 1 [(1, 0)])) (by omega) (by omega)
  have t : ∀ i, M20.1 32 i = X.1 32 i := fun i => (e4 32 i (by omega)).1
  refine ⟨M20, ?_, ⟨⟨?_, ?_, ?_, ?_, ?_, ?_, ?_, ?_, ?_, ?_, ?_, ?_⟩, ⟨?_, fun j hj => ?_⟩, ?_, ⟨?_, fun i k hk => ?_⟩, fun s hs => ⟨fun _ => ?_, fun q hq => ?_⟩⟩, ?_⟩
  · unfold n_X2_init_32
    simp only [zbd, a1, b1, c1, d1, Option.bind_some]
    have x4' : (zz_si (zz_si (zz_si (zz_si (zz_si (zz_si (zz_si (zz_si (zz_si (zz_si (zz_si M8 32 4 (nI 2)) 32 5 (nI 80)) 32 6 (nI 40)) 32 7 (nI 1)) 32 8 (nI 0)) 32 9 (nI 0)) 32 10 (nI 0)) 32 11 (nI 0)) 32 12 (nI 0)) 32 13 (nI 0)) 32 14 (nI 1)).1 32 4 = nI 2 := x4
    rw [x4']
    have e1' : f_X0_clear 36 (nI 3) (nI 2) (zz_si (zz_si (zz_si (zz_si (zz_si (zz_si (zz_si (zz_si (zz_si (zz_si (zz_si M8 32 4 (nI 2)) 32 5 (nI 80)) 32 6 (nI 40)) 32 7 (nI 1)) 32 8 (nI 0)) 32 9 (nI 0)) 32 10 (nI 0)) 32 11 (nI 0)) 32 12 (nI 0)) 32 13 (nI 0)) 32 14 (nI 1)) = some M20 := e1
    rw [e1']
    rfl
  · rw [t]; exact x4
  · rw [t]; simp (disch := omega) only [X, rd_ne, rd_eq]; rfl
  · rw [t]; simp (disch := omega) only [X, rd_ne, rd_eq]; rfl
  · rw [t]; simp (disch := omega) only [X, rd_ne, rd_eq]; rfl
  · rw [t]; simp (disch := omega) only [X, rd_ne, rd_eq]; rfl
  · rw [t]; simp (disch := omega) only [X, rd_ne, rd_eq]; rfl
  · rw [t]; simp (disch := omega) only [X, rd_ne, rd_eq]; rfl
  · rw [t]; simp (disch := omega) only [X, rd_ne, rd_eq]; rfl
  · rw [t]; simp (disch := omega) only [X, rd_ne, rd_eq]; rfl
  · rw [t]; simp (disch := omega) only [X, rd_ne, rd_eq]; rfl
  · rw [t]; simp (disch := omega) only [X, rd_ne, rd_eq]; rfl
  · exact e2
  · rw [(e4 _ _ (by omega)).1, (fX _ _ (by omega)).1, (d3 _ _ (by omega)).1, (z4 _ _ (by omega)).1, (c3 _ _ (by omega)).1, (z3 _ _ (by omega)).1, (b2 _ _ (by omega)).1, (z2 _ _ (by omega)).1]; exact a2
  · have hj0 : j = 0 := by have : j < 1 := hj; omega
    subst hj0
    rw [(e4 _ _ (by omega)).1, (fX _ _ (by omega)).1, (d3 _ _ (by omega)).1, (z4 _ _ (by omega)).1, (c3 _ _ (by omega)).1, (z3 _ _ (by omega)).1, (b2 _ _ (by omega)).1, (z2 _ _ (by omega)).1]; exact a3
  · exact e3
  · rw [(e4 _ _ (by omega)).1, (fX _ _ (by omega)).1, (d3 _ _ (by omega)).1, (z4 _ _ (by omega)).1]; exact c2
  · have hk : ([] : List Nat)[i]? = some k := hk
    simp at hk
  · rw [(e4 _ _ (by omega)).1, (fX _ _ (by omega)).1]; exact d2 s hs
  · cases hq
  · refine (((((((((z1.weak ?_).trans (a4.weak ?_)).trans (z2.weak ?_)).trans (b2.weak ?_)).trans (z3.weak ?_)).trans (c3.weak ?_)).trans (z4.weak ?_)).trans (d3.weak ?_)).trans (fX.weak ?_)).trans (e4.weak ?_) <;> (intro k i h; omega)

theorem i3_52 (M : zzMem) : ∃ M', n_X3_init_53 M = some M' ∧ M'.1 53 2 = nI 1 ∧ M'.1 54 0 = (-1 : Int32) ∧ zFr (fun k _ => 53 ≤ k ∧ k ≤ 55) M M' := by
  unfold n_X3_init_53
  simp only [zbd]
  refine ⟨_, rfl, ?_, ?_, (((zFr.z ?_).trans (zFr.z ?_)).trans (zFr.si ?_)).trans (zFr.si ?_)⟩
  · simp (disch := omega) only [rd_ne, rd_eq]
  · simp (disch := omega) only [rd_eq]
  · intro i; omega
  · intro i; omega
  · omega
  · omega
theorem i0_52 (M : zzMem) : ∃ M', n_X0_init_56 M = some M' ∧ zFr (fun k _ => 56 ≤ k ∧ k ≤ 66) M M' := by
  unfold n_X0_init_56
  simp only [zbd]
  refine ⟨_, rfl, (((((((((((zFr.z ?_).trans (zFr.z ?_)).trans (zFr.z ?_)).trans (zFr.z ?_)).trans (zFr.z ?_)).trans (zFr.z ?_)).trans (zFr.z ?_)).trans (zFr.z ?_)).trans (zFr.z ?_)).trans (zFr.z ?_)).trans (zFr.si ?_)).trans (zFr.si ?_)⟩
  all_goals first
    | omega
    | (intro i; omega)
theorem i5_52 (M : zzMem) : ∃ M', n_X5_init_67 M = some M' ∧ M'.1 67 1 = nI 0 ∧ zFr (fun k _ => 67 ≤ k ∧ k ≤ 68) M M' := by
  unfold n_X5_init_67
  simp only [zbd]
  refine ⟨_, rfl, rd_eq, (zFr.z ?_).trans (zFr.si ?_)⟩
  · intro i; omega
  · omega
theorem i6_52 (M : zzMem) : ∃ M', n_X6_init_69 M = some M' ∧ (∀ s, s < 4 → M'.1 70 s = (-1 : Int32)) ∧ zFr (fun k _ => 69 ≤ k ∧ k ≤ 71) M M' := by
  unfold n_X6_init_69
  simp only [zbd]
  obtain ⟨M3, a1, a2, a3⟩ := cFill (p := 70) (n := 4) (v := (-1 : Int32)) (zz_z (zz_z M 70) 71) (by decide)
  refine ⟨M3, by rw [a1]; rfl, a2, ((zFr.z ?_).trans (zFr.z ?_)).trans (a3.weak (fun k i h => ?_))⟩
  · intro i; omega
  · intro i; omega
  · omega
theorem i2_52 (M : zzMem) : ∃ M', n_X2_init_52 M = some M' ∧ zRC M' 52 (zA0 2 3 80 40 1 1 [(1, 0)]) ∧ zFr (fun k _ => 52 ≤ k ∧ k ≤ 71) M M' := by
  obtain ⟨M2, a1, a2, a3, a4⟩ := i3_52 (zz_z M 53)
  obtain ⟨M4, b1, b2⟩ := i0_52 (zz_z M2 56)
  obtain ⟨M6, c1, c2, c3⟩ := i5_52 (zz_z M4 67)
  obtain ⟨M8, d1, d2, d3⟩ := i6_52 (zz_z M6 69)
  have z1 := zFr.z (S := fun k _ => k = 53) (M := M) (k := 53) (fun i => rfl)
  have z2 := zFr.z (S := fun k _ => k = 56) (M := M2) (k := 56) (fun i => rfl)
  have z3 := zFr.z (S := fun k _ => k = 67) (M := M4) (k := 67) (fun i => rfl)
  have z4 := zFr.z (S := fun k _ => k = 69) (M := M6) (k := 69) (fun i => rfl)
  let X : zzMem := zz_si (zz_si (zz_si (zz_si (zz_si (zz_si (zz_si (zz_si (zz_si (zz_si (zz_si M8 52 4 (nI 2)) 52 5 (nI 80)) 52 6 (nI 40)) 52 7 (nI 1)) 52 8 (nI 0)) 52 9 (nI 0)) 52 10 (nI 0)) 52 11 (nI 0)) 52 12 (nI 0)) 52 13 (nI 0)) 52 14 (nI 1)
  have fX : zFr (fun k _ => k = 52) M8 X := by
    refine ((((((((((zFr.si ?_).trans (zFr.si ?_)).trans (zFr.si ?_)).trans (zFr.si ?_)).trans (zFr.si ?_)).trans (zFr.si ?_)).trans (zFr.si ?_)).trans (zFr.si ?_)).trans (zFr.si ?_)).trans (zFr.si ?_)).trans (zFr.si ?_) <;> rfl
  have x4 : X.1 52 4 = nI 2 := by simp (disch := omega) only [X, rd_ne, rd_eq]
  obtain ⟨M20, e1, e2, e3, e4⟩ := cClear (ch := 56) (c := 3) (n := 2) X (zA_h (zA0 2 3 80 40 1 1 [(1, 0)])) (by omega) (by omega)
  have t : ∀ i, M20.1 52 i = X.1 52 i := fun i => (e4 52 i (by omega)).1
  refine ⟨M20, ?_, ⟨⟨?_, ?_, ?_, ?_, ?_, ?_, ?_, ?_, ?_, ?_, ?_, ?_⟩, ⟨?_, fun j hj => ?_⟩, ?_, ⟨?_, fun i k hk => ?_⟩, fun s hs => ⟨fun _ => ?_, fun q hq => ?_⟩⟩, ?_⟩
  · unfold n_X2_init_52
    simp only [zbd, a1, b1, c1, d1, Option.bind_some]
    have x4' : (zz_si (zz_si (zz_si (zz_si (zz_si (zz_si (zz_si (zz_si (zz_si (zz_si (zz_si M8 52 4 (nI 2)) 52 5 (nI 80)) 52 6 (nI 40)) 52 7 (nI 1)) 52 8 (nI 0)) 52 9 (nI 0)) 52 10 (nI 0)) 52 11 (nI 0)) 52 12 (nI 0)) 52 13 (nI 0)) 52 14 (nI 1)).1 52 4 = nI 2 := x4
    rw [x4']
    have e1' : f_X0_clear 56 (nI 3) (nI 2) (zz_si (zz_si (zz_si (zz_si (zz_si (zz_si (zz_si (zz_si (zz_si (zz_si (zz_si M8 52 4 (nI 2)) 52 5 (nI 80)) 52 6 (nI 40)) 52 7 (nI 1)) 52 8 (nI 0)) 52 9 (nI 0)) 52 10 (nI 0)) 52 11 (nI 0)) 52 12 (nI 0)) 52 13 (nI 0)) 52 14 (nI 1)) = some M20 := e1
    rw [e1']
    rfl
  · rw [t]; exact x4
  · rw [t]; simp (disch := omega) only [X, rd_ne, rd_eq]; rfl
  · rw [t]; simp (disch := omega) only [X, rd_ne, rd_eq]; rfl
  · rw [t]; simp (disch := omega) only [X, rd_ne, rd_eq]; rfl
  · rw [t]; simp (disch := omega) only [X, rd_ne, rd_eq]; rfl
  · rw [t]; simp (disch := omega) only [X, rd_ne, rd_eq]; rfl
  · rw [t]; simp (disch := omega) only [X, rd_ne, rd_eq]; rfl
  · rw [t]; simp (disch := omega) only [X, rd_ne, rd_eq]; rfl
  · rw [t]; simp (disch := omega) only [X, rd_ne, rd_eq]; rfl
  · rw [t]; simp (disch := omega) only [X, rd_ne, rd_eq]; rfl
  · rw [t]; simp (disch := omega) only [X, rd_ne, rd_eq]; rfl
  · exact e2
  · rw [(e4 _ _ (by omega)).1, (fX _ _ (by omega)).1, (d3 _ _ (by omega)).1, (z4 _ _ (by omega)).1, (c3 _ _ (by omega)).1, (z3 _ _ (by omega)).1, (b2 _ _ (by omega)).1, (z2 _ _ (by omega)).1]; exact a2
  · have hj0 : j = 0 := by have : j < 1 := hj; omega
    subst hj0
    rw [(e4 _ _ (by omega)).1, (fX _ _ (by omega)).1, (d3 _ _ (by omega)).1, (z4 _ _ (by omega)).1, (c3 _ _ (by omega)).1, (z3 _ _ (by omega)).1, (b2 _ _ (by omega)).1, (z2 _ _ (by omega)).1]; exact a3
  · exact e3
  · rw [(e4 _ _ (by omega)).1, (fX _ _ (by omega)).1, (d3 _ _ (by omega)).1, (z4 _ _ (by omega)).1]; exact c2
  · have hk : ([] : List Nat)[i]? = some k := hk
    simp at hk
  · rw [(e4 _ _ (by omega)).1, (fX _ _ (by omega)).1]; exact d2 s hs
  · cases hq
  · refine (((((((((z1.weak ?_).trans (a4.weak ?_)).trans (z2.weak ?_)).trans (b2.weak ?_)).trans (z3.weak ?_)).trans (c3.weak ?_)).trans (z4.weak ?_)).trans (d3.weak ?_)).trans (fX.weak ?_)).trans (e4.weak ?_) <;> (intro k i h; omega)

theorem zz_init : ∃ M2 M4, n_X9_init_0 (zz_z zz_M0 0) = some M2 ∧ n_X10_init_73 (zz_z M2 73) = some M4 ∧ zIv 0 M4 := by
  have a8 : ∃ M', n_X8_init_1 (zz_z (zz_z zz_M0 0) 1) = some M' ∧ M'.1 1 1 = nI 0 := by
    unfold n_X8_init_1
    simp only [zbd]
    exact ⟨_, rfl, by simp (disch := omega) only [rd_ne, rd_eq]⟩
  obtain ⟨M2, p1, p2⟩ := a8
  have a4 : ∃ M', n_X4_init_3 (zz_z M2 3) = some M' ∧ zFr (fun k _ => 3 ≤ k ∧ k ≤ 6) M2 M' := by
    unfold n_X4_init_3
    simp only [zbd]
    refine ⟨_, rfl, ((((((zFr.z ?_).trans (zFr.z ?_)).trans (zFr.si ?_)).trans (zFr.z ?_)).trans (zFr.z ?_)).trans (zFr.si ?_)).trans (zFr.si ?_)⟩
    all_goals first
      | omega
      | (intro i; omega)
  obtain ⟨M4, q1, q2⟩ := a4
  have a7 : ∃ M', n_X7_init_7 (zz_z M4 7) = some M' ∧ zFr (fun k _ => 7 ≤ k ∧ k ≤ 11) M4 M' := by
    unfold n_X7_init_7
    simp only [zbd]
    refine ⟨_, rfl, (((((zFr.z ?_).trans (zFr.z ?_)).trans (zFr.z ?_)).trans (zFr.z ?_)).trans (zFr.z ?_)).trans (zFr.si ?_)⟩
    all_goals first
      | omega
      | (intro i; omega)
  obtain ⟨M6, r1, r2⟩ := a7
  obtain ⟨M8, s1, s2, s3⟩ := i2_12 (zz_z M6 12)
  obtain ⟨M10, t1, t2, t3⟩ := i2_32 (zz_z M8 32)
  obtain ⟨M12, u1, u2, u3⟩ := i2_52 (zz_z M10 52)
  have z1 := zFr.z (S := fun k _ => k = 12) (M := M6) (k := 12) (fun i => rfl)
  have z2 := zFr.z (S := fun k _ => k = 32) (M := M8) (k := 32) (fun i => rfl)
  have z3 := zFr.z (S := fun k _ => k = 52) (M := M10) (k := 52) (fun i => rfl)
  have z4 := zFr.z (S := fun k _ => k = 72) (M := M12) (k := 72) (fun i => rfl)
  let W : zzMem := zz_si (zz_z M12 72) 0 7 (nI 0)
  have w1 : zFr (fun k _ => k = 0 ∨ (3 ≤ k ∧ k ≤ 72)) M2 W := by
    refine ((((((((q2.weak ?_).trans (r2.weak ?_)).trans (z1.weak ?_)).trans (s3.weak ?_)).trans (z2.weak ?_)).trans (t3.weak ?_)).trans (z3.weak ?_)).trans (u3.weak ?_)).trans ((z4.weak ?_).trans (zFr.si ?_))
    all_goals first
      | (intro k i h; omega)
      | omega
  have w2 : zFr (fun k _ => k = 0 ∨ (32 ≤ k ∧ k ≤ 72)) M8 W := by
    refine ((((z2.weak ?_).trans (t3.weak ?_)).trans (z3.weak ?_)).trans (u3.weak ?_)).trans ((z4.weak ?_).trans (zFr.si ?_))
    all_goals first
      | (intro k i h; omega)
      | omega
  have hW : n_X9_init_0 (zz_z zz_M0 0) = some W := by
    unfold n_X9_init_0
    simp only [zbd, p1, q1, r1, s1, t1, u1, Option.bind_some]
    rfl
  let Y : zzMem := zz_z (zz_z (zz_z (zz_z (zz_z (zz_z (zz_z (zz_z (zz_z (zz_z (zz_z (zz_z (zz_z (zz_z (zz_z (zz_z (zz_z (zz_z W 73) 74) 75) 76) 77) 78) 79) 80) 81) 82) 83) 84) 85) 86) 87) 88) 89) 90
  let Z : zzMem := zz_si (zz_si (zz_si Y 74 12 (nI 1)) 74 23 (nI 1)) 74 1752 (nI 65536)
  have y1 : zFr (fun k _ => 73 ≤ k ∧ k ≤ 90) W Y := by
    refine (((((((((((((((((zFr.z ?_).trans (zFr.z ?_)).trans (zFr.z ?_)).trans (zFr.z ?_)).trans (zFr.z ?_)).trans (zFr.z ?_)).trans (zFr.z ?_)).trans (zFr.z ?_)).trans (zFr.z ?_)).trans (zFr.z ?_)).trans (zFr.z ?_)).trans (zFr.z ?_)).trans (zFr.z ?_)).trans (zFr.z ?_)).trans (zFr.z ?_)).trans (zFr.z ?_)).trans (zFr.z ?_)).trans (zFr.z ?_) <;> (intro i; omega)
  have y2 : ∀ i, Y.1 73 i = 0 := fun i => by simp [Y, zz_z]
  have y3 : zFr (fun k _ => k = 74) Y Z := by
    refine ((zFr.si ?_).trans (zFr.si ?_)).trans (zFr.si ?_) <;> rfl
  have hl : zLm Z 0 [(1, 0)] := by
    refine ⟨by simp (disch := omega) only [Z, Nat.zero_add, rd_ne, rd_eq]; rfl, fun j hj => ?_⟩
    have hj0 : j = 0 := by have : j < 1 := hj; omega
    subst hj0
    simp (disch := omega) only [Z, Nat.zero_add, Nat.add_zero, rd_eq]
    rfl
  have hd : Z.1 74 12 = nI 1 := by simp (disch := omega) only [Z, rd_ne, rd_eq]
  obtain ⟨M21, g1, g2, g3⟩ := mEmpties (n := 2) (c := 3) (up := 80) (dn := 40) (po := 1) (N := 0) (by omega) (by omega) (by decide) hl hd
  refine ⟨W, M21, hW, ?_, ?_⟩
  · unfold n_X10_init_73
    simp only [zbd]
    have g1' : f_X10_empties (nI 2) (nI 3) (nI 80) (nI 40) (nI 1) (zz_si (zz_si (zz_si (zz_z (zz_z (zz_z (zz_z (zz_z (zz_z (zz_z (zz_z (zz_z (zz_z (zz_z (zz_z (zz_z (zz_z (zz_z (zz_z (zz_z (zz_z W 73) 74) 75) 76) 77) 78) 79) 80) 81) 82) 83) 84) 85) 86) 87) 88) 89) 90) 74 12 (nI 1)) 74 23 (nI 1)) 74 1752 (nI 65536)) = some M21 := g1
    rw [g1']
    rfl
  · have fA : zFr (fun k _ => 73 ≤ k ∧ k ≤ 90) W M21 := (y1.trans (y3.weak (fun k i h => by omega))).trans (g3.weak (fun k i h => by omega))
    have h73 : ∀ i, M21.1 73 i = 0 := fun i => by rw [(g3 _ _ (by omega)).1, (y3 _ _ (by omega)).1]; exact y2 i
    refine ⟨[], zA0 2 3 80 40 1 1 [(1, 0)], ⟨by simp, ?_, h73 6, fun i x hx => by simp at hx⟩, zA0_wf (by omega) (by omega) (by omega) (by omega) (by omega) (by omega) (by omega) (by omega) (by omega) ⟨⟨by omega, Or.inl ⟨by omega, by omega, rfl⟩⟩, by simp⟩, ?_, g2, Or.inl ⟨?_, h73 1⟩⟩
    · rw [(fA _ _ (by omega)).1, (w1 _ _ (by omega)).1]; exact p2
    · exact (s2.frS w2 (by intro k i; omega)).frS fA (by intro k i; omega)
    · rw [(fA _ _ (by omega)).1]
      simp only [W]
      rw [rd_eq]
      rfl
