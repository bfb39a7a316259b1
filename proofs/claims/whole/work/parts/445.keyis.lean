/-! ===== keyIs ===== -/
noncomputable def zmvs (n h : Nat) : Nat → Nat := zcnt (fun j => !decide (zwh n (n + 1 + j) h = zwh n (n + j) h))
theorem cMoves {M : zzMem} {n h : Nat} (hn : M.1 12 4 = nI n) (h1 : 1 ≤ n) (h4 : n ≤ 4) (hh : h < 65536) : f_X9_movesOf (nI h) M = some (nI (zmvs n h (64 - n))) := by
  unfold f_X9_movesOf j_X9_movesOf_29
  simp (disch := omega) only [hn, cAddrAmong hn h1, Option.bind_some, zbd, nIadd]
  refine zlp_for (B := fun s : (Int32 × Int32 × Int32) => b_X9_movesOf_29 (nI h) s.1 s.2.1 s.2.2 M) (fun i => (nI (zmvs n h i), nI (zwh n (n + i) h), nI (n + 1 + i))) (64 - n) _ (fun i hi => ?_) ?_ 0 (by omega)
  · unfold b_X9_movesOf_29 j_X9_movesOf_57
    have w1 := zwh_lt (n := n) (b := n + 1 + i) (h := h) h1 (by omega) (by omega)
    have w2 := zwh_lt (n := n) (b := n + i) (h := h) h1 (by omega) (by omega)
    have hst : zmvs n h (i + 1) = zmvs n h i + (if (!decide (zwh n (n + 1 + i) h = zwh n (n + i) h)) = true then 1 else 0) := rfl
    by_cases hd : zwh n (n + 1 + i) h = zwh n (n + i) h
    · simp (disch := omega) only [ifLt_f, cAddrAmong hn h1, Option.bind_some, ifEq_t, zbd, nIadd]
      rw [hst, hd]
      simp [show n + 1 + i = n + (i + 1) by omega, show n + (i + 1) + 1 = n + 1 + (i + 1) by omega, ← hd]
    · simp (disch := omega) only [ifLt_f, cAddrAmong hn h1, Option.bind_some, ifEq_f, zbd, nIadd]
      rw [hst]
      simp [hd, show n + 1 + i = n + (i + 1) by omega, show n + (i + 1) + 1 = n + 1 + (i + 1) by omega]
      simp [show n + (i + 1) = n + 1 + i by omega, hd]
  · unfold b_X9_movesOf_29
    simp (disch := omega) only [ifLt_t]
theorem mMoves {M : zzMem} {n k : Nat} {law : List (Nat × Nat)} (hn : M.1 74 0 = nI n) (h1 : 1 ≤ n) (h4 : n ≤ 4) (hl : zLm M 0 law) (hok : zLok law) (hk : k < 65536) : ∃ M', f_X10_moves (nI k) M = some (nI (zmvs n (zhs law k) (64 - n)), M') ∧ zFr (fun a _ => a = 78) M M' := by
  unfold f_X10_moves j_X10_moves_11
  simp only [hn, zbd, nIadd]
  have hZ := zlp_forM (B := fun s : (Int32 × Int32 × zzMem) => b_X10_moves_11 (nI k) s.1 s.2.1 s.2.2) (fun i X => (nI (zmvs n (zhs law k) i), nI (n + 1 + i), X)) (fun X => zFr (fun a _ => a = 78) M X) (64 - n) (fun r => r.1 = nI (zmvs n (zhs law k) (64 - n)) ∧ zFr (fun a _ => a = 78) M r.2) (fun i hi X hX => ?_) (fun X hX => ?_) 0 (by omega) M (zFr.refl M)
  · obtain ⟨r, q1, q2, q3⟩ := hZ
    refine ⟨r.2, ?_, q3⟩
    have q1' : zlp (fun s : (Int32 × Int32 × zzMem) => b_X10_moves_11 (nI k) s.1 s.2.1 s.2.2) (nI 0, nI (n + 1), M) = some r := q1
    rw [q1', ← q2]
  · have hn' : X.1 74 0 = nI n := by rw [(hX 74 0 (by omega)).1]; exact hn
    have hl' : zLm X 0 law := hl.frS hok.2 hX (by intro i; omega)
    obtain ⟨M4, a1, a2⟩ := mWhereIn hn' h1 (b := n + 1 + i) (by omega) (by omega) hl' hok hk
    have hX4 := hX.trans a2
    have hn4 : M4.1 74 0 = nI n := by rw [(hX4 74 0 (by omega)).1]; exact hn
    have hl4 : zLm M4 0 law := hl.frS hok.2 hX4 (by intro i; omega)
    obtain ⟨M7, b1, b2⟩ := mWhereIn hn4 h1 (b := n + i) (by omega) (by omega) hl4 hok hk
    refine ⟨M7, ?_, hX4.trans b2⟩
    unfold b_X10_moves_11
    have hsub : nI (n + 1 + i) - nI 1 = nI (n + i) := by rw [nIsub (by omega)]; congr 1; omega
    have w1 := zwh_lt (n := n) (b := n + 1 + i) (h := zhs law k) h1 (by omega) (by omega)
    have w2 := zwh_lt (n := n) (b := n + i) (h := zhs law k) h1 (by omega) (by omega)
    have hst : zmvs n (zhs law k) (i + 1) = zmvs n (zhs law k) i + (if (!decide (zwh n (n + 1 + i) (zhs law k) = zwh n (n + i) (zhs law k))) = true then 1 else 0) := rfl
    by_cases hd : zwh n (n + 1 + i) (zhs law k) = zwh n (n + i) (zhs law k)
    · simp (disch := omega) only [ifLt_f, a1, Option.bind_some, zpr, hsub, b1, ifEq_t, zbd, nIadd]
      rw [hst, hd]
      simp [show n + 1 + i + 1 = n + 1 + (i + 1) by omega]
    · simp (disch := omega) only [ifLt_f, a1, Option.bind_some, zpr, hsub, b1, ifEq_f, zbd, nIadd]
      rw [hst]
      simp [hd, show n + 1 + i + 1 = n + 1 + (i + 1) by omega]
  · refine ⟨(nI (zmvs n (zhs law k) (64 - n)), X), ?_, rfl, hX⟩
    unfold b_X10_moves_11
    simp (disch := omega) only [ifLt_t]
theorem cFull {N o : Nat} {M : zzMem} {A : zzA} (hW : zWF N A) (h : zCi M o A) : f_X2_isFull o M = decide (zA_B A = 64) := by
  have hB := hW.sB.2.2.1
  unfold f_X2_isFull
  rw [cBuck hW h]
  by_cases h64 : zA_B A = 64
  · simp (disch := omega) only [ifLt_f, h64, decide_true]
  · simp (disch := omega) only [ifLt_t, h64, decide_false]
theorem op_keyIs (N : Nat) (a b : Int32) : zSame N (f_X9_keyIs a b) (f_X10_keyIs a b) := by
  refine zSame.ss (fun hN tp A M h1 h2 h3 h4 h5 => ?_)
  have hn : 1 ≤ zA_n A ∧ zA_n A ≤ 4 := ⟨h2.1.1, h2.1.2.1⟩
  have hok : zLok (zA_law A) := h2.hok
  have hB := h2.sB
  have hBn : zA_n A ≤ zA_B A := by
    have : zA_n A * 1 ≤ zA_n A * 2 ^ zA_lv A := Nat.mul_le_mul_left _ (Nat.one_le_two_pow)
    unfold zA_B zA_s; omega
  unfold f_X9_keyIs f_X10_keyIs
  rw [isKey_eq, in_eq]
  rcases keyC a with ⟨ha, k, hk, rfl⟩ | ha
  · simp only [ha, if_true]
    have hh := zhs_lt hk hok.1
    obtain ⟨M4, e1, e2⟩ := cHash (o := 13) h3.2.1 hok hk
    have hs : zFr zScr M M4 := e2.weak zScr15
    have h3' : zRC M4 12 A := h3.fr (Or.inl rfl) hs
    have hc4 : M4.1 12 4 = nI (zA_n A) := h3'.1.1
    simp only [e1, Option.bind_some, zpr]
    rcases inC b 0 4 (by decide) (by decide) with ⟨hb, w, -, hw, rfl⟩ | hb
    · simp only [hb, if_true]
      rcases (show w = 0 ∨ w = 1 ∨ w = 2 ∨ w = 3 ∨ w = 4 by omega) with rfl | rfl | rfl | rfl | rfl
      · simp only [if_true]
        refine ⟨_, ⟨M4, rfl, hs⟩, fun M1 hf => ?_⟩
        have h4' := h4.fr (Or.inl rfl) h2 hf
        obtain ⟨M2, g1, g2⟩ := mHashOf h4'.2.1 hok hk
        exact ⟨M2, by rw [g1]; rfl, g2.weak zScr78⟩
      · simp only [show ¬ nI 1 = nI 0 by decide, if_false, if_true]
        have hca := cAdr h2 h3'.1 hk
        refine ⟨_, ⟨M4, by rw [show nI (zhs (zA_law A) k) = nI (zA_h A k) from rfl, hca]; rfl, hs⟩, fun M1 hf => ?_⟩
        have h4' := h4.fr (Or.inl rfl) h2 hf
        obtain ⟨M2, g1, g2⟩ := mAdr h2 h4'.1 h4'.2.1 hk
        exact ⟨M2, by rw [g1]; rfl, g2.weak zScr78⟩
      · simp only [show ¬ nI 2 = nI 0 by decide, show ¬ nI 2 = nI 1 by decide, if_false, if_true]
        refine ⟨_, ⟨M4, by rw [cMoves hc4 hn.1 hn.2 hh]; rfl, hs⟩, fun M1 hf => ?_⟩
        have h4' := h4.fr (Or.inl rfl) h2 hf
        have hm0 : M1.1 74 0 = nI (zA_n A) := by have := h4'.1.1; simpa using this
        obtain ⟨M2, g1, g2⟩ := mMoves hm0 hn.1 hn.2 h4'.2.1 hok hk
        exact ⟨M2, by rw [g1]; rfl, g2.weak zScr78⟩
      · simp only [show ¬ nI 3 = nI 0 by decide, show ¬ nI 3 = nI 1 by decide, show ¬ nI 3 = nI 2 by decide, if_false, if_true]
        have hca := cAdr h2 h3'.1 hk
        refine ⟨_, ⟨M4, by rw [show nI (zhs (zA_law A) k) = nI (zA_h A k) from rfl, hca, Option.bind_some, cReadsFor h2 h3' hk]; rfl, hs⟩, fun M1 hf => ?_⟩
        have h4' := h4.fr (Or.inl rfl) h2 hf
        obtain ⟨M2, g1, g2⟩ := mFindReads (by omega) h2 h4'.rc hk
        exact ⟨M2, by rw [g1]; rfl, g2.weak zScr78⟩
      · simp only [show ¬ nI 4 = nI 0 by decide, show ¬ nI 4 = nI 1 by decide, show ¬ nI 4 = nI 2 by decide, show ¬ nI 4 = nI 3 by decide, if_false, if_true, cFull h2 h3'.1, cBuck h2 h3'.1, nIadd]
        by_cases h64 : zA_B A = 64
        · simp only [h64, decide_true, if_true]
          refine ⟨_, ⟨M4, rfl, hs⟩, fun M1 hf => ?_⟩
          have h4' := h4.fr (Or.inl rfl) h2 hf
          refine ⟨M1, ?_, zFr.refl M1⟩
          rw [mBuck h2 h4'.1, h64]
          rfl
        · simp only [h64, decide_false, Bool.false_eq_true, if_false]
          refine ⟨_, ⟨M4, by rw [cAddrAmong hc4 hn.1 (by omega) (by omega) hh]; rfl, hs⟩, fun M1 hf => ?_⟩
          have h4' := h4.fr (Or.inl rfl) h2 hf
          have hm0 : M1.1 74 0 = nI (zA_n A) := by have := h4'.1.1; simpa using this
          obtain ⟨M2, g1, g2⟩ := mWhereIn hm0 hn.1 (b := zA_B A + 1) (by omega) (by omega) h4'.2.1 hok hk
          refine ⟨M2, ?_, g2.weak zScr78⟩
          rw [mBuck h2 h4'.1]
          simp (disch := omega) only [Option.bind_some, ifEq_f, nIadd, g1, zpr]
    · have hne : ∀ w, w ≤ 4 → ¬ b = nI w := fun w hw e => by
        rw [e, inT ⟨by omega, hw⟩ (by decide)] at hb; cases hb
      simp only [hb, Bool.false_eq_true, if_false, hne 0 (by omega), hne 1 (by omega), hne 2 (by omega), hne 3 (by omega), hne 4 (by omega)]
      exact ⟨_, ⟨M4, rfl, hs⟩, fun M1 hf => ⟨M1, rfl, zFr.refl M1⟩⟩
  · simp only [ha, Bool.false_eq_true, if_false]
    exact ⟨_, ⟨M, rfl, zFr.refl M⟩, fun M1 hf => ⟨M1, rfl, zFr.refl M1⟩⟩
