section FS
variable {M M' : zzMem} {S : Nat → Nat → Prop}
theorem zLc.frS {law : List (Nat × Nat)} {o : Nat} (hf : zFr S M M') (h0 : ¬ S o 2) (h1 : ∀ i, ¬ S (o + 1) i) (h : zLc M o law) : zLc M' o law :=
  ⟨by rw [(hf _ _ h0).1]; exact h.1, fun j hj => by rw [(hf _ _ (h1 j)).1]; exact h.2 j hj⟩
theorem zCh.frS {c ch : Nat} {h : Nat → Nat} {E : Nat → List (Nat × Nat)} {G : Nat → List Nat} (hf : zFr S M M') (hd : ∀ k i, 1 ≤ k → k ≤ 9 → ¬ S (ch + k) i) (hc : zCh M ch c h E G) : zCh M' ch c h E G := by
  have g : ∀ k i, 1 ≤ k → k ≤ 9 → M'.1 (ch + k) i = M.1 (ch + k) i := fun k i h1 h2 => (hf _ _ (hd k i h1 h2)).1
  have g2 : ∀ i, M'.2 (ch + 5) i = M.2 (ch + 5) i := fun i => (hf _ _ (hd 5 i (by omega) (by omega))).2
  obtain ⟨h1, h2, h3, h4, h5, h6, h7⟩ := hc
  refine ⟨fun b hb => ?_, fun b hb => ?_, fun b hb => ?_, fun b hb => ?_, fun p hp hn => ?_, fun b hb i p hi => ?_, fun b hb i q p hi hp => ?_⟩
  · rw [g 8 b (by omega) (by omega)]; exact h1 b hb
  · rw [g 9 b (by omega) (by omega)]; exact h2 b hb
  · rw [g 6 b (by omega) (by omega)]; exact h3 b hb
  · rw [g 7 b (by omega) (by omega)]; exact h4 b hb
  · rw [g 1 p (by omega) (by omega)]; exact h5 p hp hn
  · rw [g 1 p (by omega) (by omega), g 2 p (by omega) (by omega), g 3 p (by omega) (by omega), g 4 p (by omega) (by omega)]; exact h6 b hb i p hi
  · rw [g2]; exact h7 b hb i q p hi hp
theorem zOr.frS {cd : Nat → Nat} {L : List Nat} {o : Nat} (hf : zFr S M M') (h0 : ¬ S o 1) (h1 : ∀ i, ¬ S (o + 1) i) (h : zOr M o cd L) : zOr M' o cd L :=
  ⟨by rw [(hf _ _ h0).1]; exact h.1, fun i k hk => by rw [(hf _ _ (h1 i)).2]; exact h.2 i k hk⟩
theorem zSn.frS {f : Nat → Option (Nat × Int32)} {o : Nat} (hf : zFr S M M') (h1 : ∀ i, ¬ S (o + 1) i) (h2 : ∀ i, ¬ S (o + 2) i) (h : zSn M o f) : zSn M' o f := by
  intro s hs
  rw [(hf _ _ (h1 s)).1, (hf _ _ (h2 s)).1]
  exact h s hs
theorem zLm.frS {law : List (Nat × Nat)} {s0 : Nat} (hl : law.length ≤ 60) (hf : zFr S M M') (h1 : ∀ i, i = s0 + 23 ∨ (s0 + 1752 ≤ i ∧ i < s0 + 1812) → ¬ S 74 i) (h : zLm M s0 law) : zLm M' s0 law :=
  ⟨by rw [(hf _ _ (h1 _ (Or.inl rfl))).1]; exact h.1, fun j hj => by rw [(hf _ _ (h1 _ (Or.inr (by omega)))).1]; exact h.2 j hj⟩
theorem zMe.frS {s0 m cm : Nat} {E : Nat → List (Nat × Nat)} {xs : Nat → List Nat} {ke ve be se : Nat → Nat} (hm : m ≤ 300) (hf : zFr S M M') (h1 : ∀ i, i = s0 + 13 ∨ (s0 + 40 ≤ i ∧ i < s0 + 1240) → ¬ S 74 i) (h : zMe M s0 m cm E xs ke ve be se) : zMe M' s0 m cm E xs ke ve be se := by
  obtain ⟨e1, e2, e3⟩ := h
  refine ⟨by rw [(hf _ _ (h1 _ (Or.inl rfl))).1]; exact e1, fun e he => ?_, e3⟩
  rw [(hf _ _ (h1 (s0 + 40 + e) (Or.inr (by omega)))).1, (hf _ _ (h1 (s0 + 340 + e) (Or.inr (by omega)))).1, (hf _ _ (h1 (s0 + 640 + e) (Or.inr (by omega)))).1, (hf _ _ (h1 (s0 + 940 + e) (Or.inr (by omega)))).1]
  exact e2 e he
theorem zMp.frS {s0 : Nat} {G : Nat → List Nat} (hG : ∀ b, ∀ p ∈ G b, p < 256) (hf : zFr S M M') (h1 : ∀ i, s0 + 1240 ≤ i ∧ i < s0 + 1752 → ¬ S 74 i) (h : zMp M s0 G) : zMp M' s0 G := by
  refine ⟨fun p hp hn => ?_, fun b hb i p hi => ?_⟩
  · rw [(hf _ _ (h1 _ (by omega))).1]; exact h.1 p hp hn
  · have := hG b p (List.mem_of_getElem? hi)
    rw [(hf _ _ (h1 (s0 + 1240 + p) (by omega))).1, (hf _ _ (h1 (s0 + 1496 + p) (by omega))).1]; exact h.2 b hb i p hi
theorem zMs.frS {s0 : Nat} {f : Nat → Option (Nat × Int32)} (hf : zFr S M M') (h1 : ∀ i, s0 + 14 ≤ i ∧ i < s0 + 23 → ¬ S 74 i) (h : zMs M s0 f) : zMs M' s0 f := by
  obtain ⟨w, w1, w2, w3⟩ := h
  refine ⟨w, w1, by rw [(hf _ _ (h1 _ (by omega))).1]; exact w2, fun s hs => ?_⟩
  rw [(hf _ _ (h1 (s0 + 15 + s) (by omega))).1, (hf _ _ (h1 (s0 + 19 + s) (by omega))).1]
  exact w3 s hs
theorem zTp.frS {tp : List Nat} (hf : zFr S M M') (h1 : ¬ S 1 1) (h2 : ¬ S 73 6) (h3 : ∀ i, ¬ S 2 i) (h4 : ∀ i, ¬ S 75 i) (h : zTp M tp) : zTp M' tp := by
  refine ⟨h.1, by rw [(hf _ _ h1).1]; exact h.2.1, by rw [(hf _ _ h2).1]; exact h.2.2.1, fun i x hx => ?_⟩
  rw [(hf _ _ (h3 i)).1, (hf _ _ (h4 i)).1]; exact h.2.2.2 i x hx
theorem zCi.frS {A : zzA} {o : Nat} (hf : zFr S M M') (h1 : ∀ i, 4 ≤ i → ¬ S o i) (h2 : ¬ S (o + 4) 11) (h : zCi M o A) : zCi M' o A := by
  unfold zCi at h ⊢
  simp only [(hf _ _ (h1 4 (by omega))).1, (hf _ _ (h1 5 (by omega))).1, (hf _ _ (h1 6 (by omega))).1, (hf _ _ (h1 7 (by omega))).1, (hf _ _ (h1 8 (by omega))).1, (hf _ _ (h1 9 (by omega))).1, (hf _ _ (h1 10 (by omega))).1, (hf _ _ (h1 11 (by omega))).1, (hf _ _ (h1 12 (by omega))).1, (hf _ _ (h1 13 (by omega))).1, (hf _ _ (h1 14 (by omega))).1, (hf _ _ h2).1]
  exact h
theorem zMi.frS {A : zzA} {s0 : Nat} (hf : zFr S M M') (h1 : ∀ i, s0 ≤ i ∧ i < s0 + 13 → ¬ S 74 i) (h : zMi M s0 A) : zMi M' s0 A := by
  unfold zMi at h ⊢
  simp only [(hf _ _ (h1 s0 (by omega))).1, (hf _ _ (h1 (s0 + 1) (by omega))).1, (hf _ _ (h1 (s0 + 2) (by omega))).1, (hf _ _ (h1 (s0 + 3) (by omega))).1, (hf _ _ (h1 (s0 + 4) (by omega))).1, (hf _ _ (h1 (s0 + 5) (by omega))).1, (hf _ _ (h1 (s0 + 6) (by omega))).1, (hf _ _ (h1 (s0 + 7) (by omega))).1, (hf _ _ (h1 (s0 + 8) (by omega))).1, (hf _ _ (h1 (s0 + 9) (by omega))).1, (hf _ _ (h1 (s0 + 10) (by omega))).1, (hf _ _ (h1 (s0 + 11) (by omega))).1, (hf _ _ (h1 (s0 + 12) (by omega))).1]
  exact h
theorem zRC.frS {A : zzA} {o : Nat} (hf : zFr S M M') (h1 : ∀ k i, o ≤ k → k ≤ o + 19 → (k = o → 4 ≤ i) → k ≠ o + 3 → k ≠ o + 14 → (k = o + 4 → i = 11) → ¬ S k i) (h : zRC M o A) : zRC M' o A :=
  ⟨h.1.frS hf (fun i hi => h1 o i (by omega) (by omega) (fun _ => hi) (by omega) (by omega) (by omega)) (h1 _ _ (by omega) (by omega) (by omega) (by omega) (by omega) (by omega)),
   h.2.1.frS hf (h1 _ _ (by omega) (by omega) (by omega) (by omega) (by omega) (by omega)) (fun i => h1 _ _ (by omega) (by omega) (by omega) (by omega) (by omega) (by omega)),
   h.2.2.1.frS hf (fun k i h5 h6 => h1 _ _ (by omega) (by omega) (by omega) (by omega) (by omega) (by omega)),
   h.2.2.2.1.frS hf (h1 _ _ (by omega) (by omega) (by omega) (by omega) (by omega) (by omega)) (fun i => h1 _ _ (by omega) (by omega) (by omega) (by omega) (by omega) (by omega)),
   h.2.2.2.2.frS hf (fun i => h1 _ _ (by omega) (by omega) (by omega) (by omega) (by omega) (by omega)) (fun i => h1 _ _ (by omega) (by omega) (by omega) (by omega) (by omega) (by omega))⟩
theorem zRM.frS {A : zzA} {s0 N N' : Nat} (hW : zWF N' A) (hf : zFr S M M') (h1 : ∀ i, s0 ≤ i → i < s0 + 1892 → ¬ S 74 i) (h : zRM M s0 N A) : zRM M' s0 N A := by
  obtain ⟨g1, g2, ⟨cm, xs, ke, ve, be, se, hcm, e⟩, g4, g5⟩ := h
  have hm : (zA_S A).length ≤ 300 := hW.2.2.2.2.2.2.2.2.1.1
  have hl : (zA_law A).length ≤ 60 := hW.1.2.2.2.2.2.2.2.2.2.2.2.2
  exact ⟨g1.frS hf (fun i hi => h1 i (by omega) (by omega)), g2.frS hl hf (fun i hi => h1 i (by omega) (by omega)), ⟨cm, xs, ke, ve, be, se, hcm, e.frS hm hf (fun i hi => h1 i (by omega) (by omega))⟩,
    g4.frS hW.2.2.2.2.2.1 hf (fun i hi => h1 i (by omega) (by omega)), g5.frS hf (fun i hi => h1 i (by omega) (by omega))⟩
end FS
/-! ===== numbers from outside ===== -/
theorem inC (x : Int32) (lo hi : Nat) (hh : hi < 2147483648) (hl : lo ≤ hi) : (f_X9_within x (nI lo) (nI hi) = true ∧ ∃ k, lo ≤ k ∧ k ≤ hi ∧ x = nI k) ∨ f_X9_within x (nI lo) (nI hi) = false := by
  unfold f_X9_within
  by_cases h1 : x < nI lo
  · right; rw [if_pos h1]
  · by_cases h2 : nI hi < x
    · right; rw [if_neg h1, if_pos h2]
    · left
      rw [if_neg h1, if_neg h2]
      refine ⟨rfl, ?_⟩
      have hx : ¬ x < 0 := fun h => h1 (by
        rw [Int32.lt_iff_toInt_lt] at h ⊢
        rw [nI_toInt (by omega)]
        have h0 : (0 : Int32).toInt = 0 := by decide
        omega)
      obtain ⟨k, hk, rfl⟩ := nI_of hx
      refine ⟨k, ?_, ?_, rfl⟩
      · rcases Nat.lt_or_ge k lo with h | h
        · exact absurd (nI_lt h (by omega)) h1
        · exact h
      · rcases Nat.lt_or_ge hi k with h | h
        · exact absurd (nI_lt h hk) h2
        · exact h
theorem in_eq : f_X10_in = f_X9_within := rfl
theorem isKey_eq : f_X10_isKey = f_X9_isKey := rfl
theorem keyC (x : Int32) : (f_X9_isKey x = true ∧ ∃ k, k < 65536 ∧ x = nI k) ∨ f_X9_isKey x = false := by
  unfold f_X9_isKey
  rcases inC x 0 65535 (by decide) (by decide) with ⟨h, k, -, h2, h3⟩ | h
  · exact Or.inl ⟨h, k, by omega, h3⟩
  · exact Or.inr h
theorem in_nI {a lo hi : Nat} (ha : a < 2147483648) (hh : hi < 2147483648) (hl : lo < 2147483648) : f_X9_within (nI a) (nI lo) (nI hi) = decide (lo ≤ a ∧ a ≤ hi) := by
  unfold f_X9_within
  by_cases h1 : a < lo
  · rw [if_pos (nI_lt h1 hl)]; simp; omega
  · rw [if_neg (nI_nlt (by omega) ha)]
    by_cases h2 : hi < a
    · rw [if_pos (nI_lt h2 ha)]; simp; omega
    · rw [if_neg (nI_nlt (by omega) hh)]; simp; omega
/-! ===== seed ===== -/
theorem op_seed (N : Nat) (x : Int32) : zSame N (f_X9_seed x) (f_X10_seed x) := by
  intro hN M hI
  unfold f_X9_seed f_X10_seed
  rw [in_eq]
  rcases inC x 0 65535 (by decide) (by decide) with ⟨h, k, -, hk, rfl⟩ | h
  · simp only [h, if_true, zbd]
    obtain ⟨tp, A, h1, h2, h3, h4, h5⟩ := hI
    refine ⟨true, _, _, rfl, rfl, ?_⟩
    have hf : zFr (fun a b => (a = 12 ∧ b = 14) ∨ (a = 74 ∧ b = 12)) M (zz_si (zz_si M 12 14 (nI k)) 74 12 (nI k)) := (zFr.si (by simp)).trans (zFr.si (by simp))
    refine ⟨tp, (A.1, A.2.1, A.2.2.1, k, A.2.2.2.2), h1.frS hf (by simp) (by simp) (by simp) (by simp), ?_, ?_, ?_, ?_⟩
    · have h2 := h2.up
      exact ⟨⟨h2.1.1, h2.1.2.1, h2.1.2.2.1, h2.1.2.2.2.1, h2.1.2.2.2.2.1, h2.1.2.2.2.2.2.1, h2.1.2.2.2.2.2.2.1, h2.1.2.2.2.2.2.2.2.1, h2.1.2.2.2.2.2.2.2.2.1, h2.1.2.2.2.2.2.2.2.2.2.1, (show k < 65536 by omega), h2.1.2.2.2.2.2.2.2.2.2.2.2⟩, h2.2⟩
    · obtain ⟨c1, c2, c3, c4, c5⟩ := h3
      refine ⟨?_, c2.frS hf (by simp) (by simp), c3.frS hf (by intro k i h1 h2; simp; omega), c4.frS hf (by simp) (by simp), c5.frS hf (by simp) (by simp)⟩
      unfold zCi at c1 ⊢
      simp only [rd_si]
      simp
      simp only [Nat.reduceAdd] at c1
      exact ⟨c1.1, c1.2.1, c1.2.2.1, c1.2.2.2.1, c1.2.2.2.2.1, c1.2.2.2.2.2.1, c1.2.2.2.2.2.2.1, c1.2.2.2.2.2.2.2.1, c1.2.2.2.2.2.2.2.2.1, c1.2.2.2.2.2.2.2.2.2.1, c1.2.2.2.2.2.2.2.2.2.2.2⟩
    · have h4 := h4.up
      obtain ⟨g1, g2, ⟨cm, xs, ke, ve, be, se, hcm, e⟩, g4, g5⟩ := h4
      have hm : (zA_S A).length ≤ 300 := h2.2.2.2.2.2.2.2.2.1.1
      have hl : (zA_law A).length ≤ 60 := h2.1.2.2.2.2.2.2.2.2.2.2.2.2
      refine ⟨?_, g2.frS hl hf (by intro i hi; simp; omega), ⟨cm, xs, ke, ve, be, se, hcm, e.frS hm hf (by intro i hi; simp; omega)⟩, g4.frS h2.2.2.2.2.2.1 hf (by intro i hi; simp; omega), g5.frS hf (by intro i hi; simp; omega)⟩
      unfold zMi at g1 ⊢
      simp only [rd_si]
      simp
      simp only [Nat.zero_add] at g1
      exact ⟨g1.1, g1.2.1, g1.2.2.1, g1.2.2.2.1, g1.2.2.2.2.1, g1.2.2.2.2.2.1, g1.2.2.2.2.2.2.1, g1.2.2.2.2.2.2.2.1, g1.2.2.2.2.2.2.2.2.1, g1.2.2.2.2.2.2.2.2.2.1, g1.2.2.2.2.2.2.2.2.2.2.1, g1.2.2.2.2.2.2.2.2.2.2.2.1⟩
    · rw [(hf 0 7 (by simp)).1, (hf 73 1 (by simp)).1]
      rcases h5 with h | ⟨g1, g2, K, k1, k2, k3⟩
      · exact Or.inl h
      · exact Or.inr ⟨g1, g2, K, k1.up, k2.frS hf (by intro k i; simp; omega), k3.up.frS k1 hf (by intro i; simp; omega)⟩
  · simp only [h]
    exact ⟨false, M, M, by simp, by simp, hI.up⟩
