theorem zlp_forI {σ ρ : Type} {B : σ → Option (σ ⊕ ρ)} (st : Nat → zzMem → σ) (J : Nat → zzMem → Prop) (n : Nat) (R : ρ → Prop) (hs : ∀ i, i < n → ∀ M, J i M → ∃ M', B (st i M) = some (.inl (st (i + 1) M')) ∧ J (i + 1) M') (he : ∀ M, J n M → ∃ r, B (st n M) = some (.inr r) ∧ R r) : ∀ i, i ≤ n → ∀ M, J i M → ∃ r, zlp B (st i M) = some r ∧ R r := by
  intro i hi
  obtain ⟨d, hd⟩ : ∃ d, n = i + d := ⟨n - i, by omega⟩
  induction d generalizing i with
  | zero =>
    intro M hJ
    have : i = n := by omega
    subst this
    obtain ⟨r, h1, h2⟩ := he M hJ
    exact ⟨r, zlp_done h1, h2⟩
  | succ d ih =>
    intro M hJ
    obtain ⟨M', h1, h2⟩ := hs i (by omega) M hJ
    obtain ⟨r, h3, h4⟩ := ih (i + 1) (by omega) (by omega) M' h2
    exact ⟨r, by rw [zlp_step h1]; exact h3, h4⟩
theorem mCopies {x y : Nat} (M : zzMem) (hx : x ≤ 2) (hy : y ≤ 2) (hxy : x ≠ y) : ∃ M', f_X10_copies (nI x) (nI y) M = some M' ∧ zFr (fun a b => a = 74 ∧ 1892 * y ≤ b ∧ b < 1892 * y + 1892) M M' ∧ ∀ k, k < 1892 → M'.1 74 (1892 * y + k) = M.1 74 (1892 * x + k) := by
  unfold f_X10_copies j_X10_copies_2
  have hZ := zlp_forI (B := fun s : (Int32 × zzMem) => b_X10_copies_2 (nI x) (nI y) s.1 s.2) (fun i M => (nI i, M)) (fun i M' => zFr (fun a b => a = 74 ∧ 1892 * y ≤ b ∧ b < 1892 * y + 1892) M M' ∧ ∀ k, k < i → M'.1 74 (1892 * y + k) = M.1 74 (1892 * x + k)) 1892 (fun r => zFr (fun a b => a = 74 ∧ 1892 * y ≤ b ∧ b < 1892 * y + 1892) M r ∧ ∀ k, k < 1892 → r.1 74 (1892 * y + k) = M.1 74 (1892 * x + k)) (fun i hi M1 hJ => ?_) (fun M1 hJ => ?_) 0 (by omega) M ⟨zFr.refl M, fun k hk => by omega⟩
  · obtain ⟨r, h1, h2, h3⟩ := hZ
    exact ⟨r, h1, h2, h3⟩
  · obtain ⟨j1, j2⟩ := hJ
    refine ⟨zz_si M1 74 (1892 * y + i) (M1.1 74 (1892 * x + i)), ?_, j1.trans (zFr.si ⟨rfl, by omega, by omega⟩), fun k hk => ?_⟩
    · unfold b_X10_copies_2
      simp (disch := omega) only [ifLe_f, nImul, nIadd, zgd_in, nIc, zbd]
    · by_cases hki : k = i
      · subst hki
        rw [rd_eq, (j1 74 _ (by omega)).1]
      · rw [rd_ne (by omega)]
        exact j2 k (by omega)
  · refine ⟨M1, ?_, hJ⟩
    unfold b_X10_copies_2
    simp (disch := omega) only [ifLe_t]
theorem zRM.copy {M M' : zzMem} {s t N N' : Nat} {A : zzA} (hW : zWF N' A) (hc : ∀ k, k < 1892 → M'.1 74 (t + k) = M.1 74 (s + k)) (h : zRM M s N A) : zRM M' t N A := by
  have hm : (zA_S A).length ≤ 300 := hW.2.2.2.2.2.2.2.2.1.1
  have hl : (zA_law A).length ≤ 60 := hW.1.2.2.2.2.2.2.2.2.2.2.2.2
  have hp : ∀ b, ∀ p ∈ zA_G A b, p < 256 := hW.2.2.2.2.2.1
  obtain ⟨h1, h2, ⟨cm, xs, ke, ve, be, se, hcm, e1, e2, e3, e4, e5⟩, h4, h5⟩ := h
  refine ⟨?_, ⟨?_, fun j hj => ?_⟩, ⟨cm, xs, ke, ve, be, se, hcm, ?_, fun e he => ?_, e3, e4, e5⟩, ⟨fun p hp hn => ?_, fun b hb i p hi => ?_⟩, ?_⟩
  · unfold zMi at h1 ⊢
    have h0 := hc 0 (by omega)
    simp only [Nat.add_zero] at h0
    rw [h0, hc 1 (by omega), hc 2 (by omega), hc 3 (by omega), hc 4 (by omega), hc 5 (by omega), hc 6 (by omega), hc 7 (by omega), hc 8 (by omega), hc 9 (by omega), hc 10 (by omega), hc 11 (by omega), hc 12 (by omega)]
    exact h1
  · rw [hc 23 (by omega)]; exact h2.1
  · rw [Nat.add_assoc, hc (1752 + j) (by omega), ← Nat.add_assoc]; exact h2.2 j hj
  · rw [hc 13 (by omega)]; exact e1
  · rw [Nat.add_assoc t, Nat.add_assoc t, Nat.add_assoc t, Nat.add_assoc t, hc (40 + e) (by omega), hc (340 + e) (by omega), hc (640 + e) (by omega), hc (940 + e) (by omega), ← Nat.add_assoc, ← Nat.add_assoc, ← Nat.add_assoc, ← Nat.add_assoc]
    exact e2 e he
  · rw [Nat.add_assoc, hc (1240 + p) (by omega), ← Nat.add_assoc]; exact h4.1 p hp hn
  · have := hW.2.2.2.2.2.1 b p (List.mem_of_getElem? hi)
    rw [Nat.add_assoc t, Nat.add_assoc t, hc (1240 + p) (by omega), hc (1496 + p) (by omega), ← Nat.add_assoc, ← Nat.add_assoc]; exact h4.2 b hb i p hi
  · obtain ⟨w, w1, w2, w3⟩ := h5
    refine ⟨w, w1, by rw [hc 14 (by omega)]; exact w2, fun u hu => ?_⟩
    rw [Nat.add_assoc t, Nat.add_assoc t, hc (15 + u) (by omega), hc (19 + u) (by omega), ← Nat.add_assoc, ← Nat.add_assoc]
    exact w3 u hu
theorem op_keep (N : Nat) : zSame N f_X9_keep f_X10_keep := by
  intro hN M hI
  obtain ⟨tp, A, h1, h2, h3, h4, h5⟩ := hI
  obtain ⟨M1, e1, e2, e3⟩ := cCopy (o := 32) (p := 12) (by omega) h2 h3
  obtain ⟨M3, g1, g2, g3⟩ := mCopies (x := 0) (y := 1) (zz_si (zz_si M1 0 7 (nI 1)) 73 1 (nI 1)) (by omega) (by omega) (by omega)
  have hf : zFr (fun k i => (k = 32 ∧ 4 ≤ i) ∨ (33 ≤ k ∧ k ≤ 51) ∨ (k = 0 ∧ i = 7) ∨ (k = 73 ∧ i = 1) ∨ (k = 74 ∧ 1892 ≤ i ∧ i < 3784)) M M3 := by
    refine (((e3.weak (fun k i h => ?_)).trans (zFr.si ?_)).trans (zFr.si ?_)).trans (g2.weak (fun k i h => ?_))
    · unfold zcpS at h; omega
    · simp
    · simp
    · omega
  have h27 : M1.1 27 1 = nI (zA_S A).length := by rw [(e3 27 1 (by unfold zcpS; omega)).1]; exact h3.2.2.2.1.1
  refine ⟨nI (zA_S A).length, zz_si M1 0 7 (nI 1), M3, ?_, ?_, ?_⟩
  · unfold f_X9_keep
    simp only [e1, Option.bind_some, zbd]
    rw [rd_ne (by omega), h27]
  · unfold f_X10_keep
    simp only [zbd]
    rw [show nI 0 = nI 0 from rfl, g1]
    simp only [Option.bind_some]
    have : M3.1 74 7 = nI (zA_S A).length := by
      rw [(hf 74 7 (by omega)).1]
      have := h4.1.2.2.2.2.2.2.2.1
      simpa using this
    rw [this]
  · have h3' : zRC M3 12 A := h3.frS hf (by intro k i; omega)
    have h4' : zRM M3 0 N A := h4.frS h2 hf (by intro i; omega)
    refine ⟨tp, A, h1.frS hf (by omega) (by omega) (by intro i; omega) (by intro i; omega), h2.up, h3', h4'.up, Or.inr ⟨?_, ?_, A, h2.up, ?_, ?_⟩⟩
    · rw [(g2 0 7 (by omega)).1, rd_ne (by omega), rd_eq]; rfl
    · rw [(g2 73 1 (by omega)).1, rd_eq]; rfl
    · have e2' : zRC (zz_si (zz_si M1 0 7 (nI 1)) 73 1 (nI 1)) 32 A := e2.frS (S := fun k i => k = 0 ∨ k = 73) ((zFr.si (by simp)).trans (zFr.si (by simp))) (by intro k i; omega)
      exact e2'.frS g2 (by intro k i; omega)
    · refine (zRM.copy (M := M3) (s := 0) (t := 1892) h2 (fun k hk => ?_) h4').up
      have := g3 k hk
      rw [Nat.mul_one, Nat.mul_zero] at this
      rw [this, (g2 74 (0 + k) (by omega)).1]
theorem op_undo (N : Nat) : zSame N f_X9_undo f_X10_undo := by
  intro hN M hI
  obtain ⟨tp, A, h1, h2, h3, h4, h5⟩ := id hI
  rcases h5 with ⟨k1, k2⟩ | ⟨k1, k2, K, w, r, m⟩
  · refine ⟨false, M, M, ?_, ?_, hI.up⟩
    · unfold f_X9_undo j_X9_undo_18
      rw [if_pos k1, zgd_t (Or.inl k1), k1]
      rfl
    · unfold f_X10_undo
      rw [if_pos k2]
  · obtain ⟨M1, e1, e2, e3⟩ := cCopy (o := 12) (p := 32) (by omega) w r
    obtain ⟨M3, g1, g2, g3⟩ := mCopies (x := 1) (y := 0) M1 (by omega) (by omega) (by omega)
    have hf : zFr (fun k i => (k = 12 ∧ 4 ≤ i) ∨ (13 ≤ k ∧ k ≤ 31) ∨ (k = 74 ∧ i < 1892)) M M3 := by
      refine (e3.weak (fun k i h => ?_)).trans (g2.weak (fun k i h => ?_))
      · unfold zcpS at h; omega
      · omega
    have q1 : M1.1 0 7 = 1 := by rw [(e3 0 7 (by unfold zcpS; omega)).1]; exact k1
    have q2 : M1.1 73 1 = 1 := by rw [(e3 73 1 (by unfold zcpS; omega)).1]; exact k2
    refine ⟨true, M1, M3, ?_, ?_, ?_⟩
    · unfold f_X9_undo j_X9_undo_18
      rw [if_neg (by rw [k1]; decide), e1]
      simp only [Option.bind_some]
      rw [zgd_t (Or.inr q1), q1]
      rfl
    · unfold f_X10_undo
      rw [if_neg (by rw [q2]; decide), g1]
      rfl
    · have m' : zRM M3 1892 N K := m.frS w hf (by intro i; omega)
      refine ⟨tp, K, h1.frS hf (by omega) (by omega) (by intro i; omega) (by intro i; omega), w.up, e2.frS g2 (by intro k i; omega), ?_, Or.inr ⟨?_, ?_, K, w.up, r.frS hf (by intro k i; omega), m'.up⟩⟩
      · refine (zRM.copy (M := M3) (s := 1892) (t := 0) w (fun k hk => ?_) m').up
        have := g3 k hk
        rw [Nat.mul_one, Nat.mul_zero] at this
        rw [this, (g2 74 (1892 + k) (by omega)).1]
      · rw [(hf 0 7 (by omega)).1]; exact k1
      · rw [(hf 73 1 (by omega)).1]; exact k2
