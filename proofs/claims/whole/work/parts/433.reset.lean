theorem cReset {o n c up dn po dr : Nat} {law : List (Nat × Nat)} {M : zzMem} (h1 : 1 ≤ n) (h2 : n ≤ 4) (h3 : 2 ≤ c) (hl : zLc M (o + 1) law) (hd : M.1 o 14 = nI dr) : ∃ M', f_X2_reset o (nI n) (nI c) (nI up) (nI dn) (nI po) M = some M' ∧ zRC M' o (zA0 n c up dn po dr law) ∧ zFr (fun k i => (k = o ∧ 4 ≤ i ∧ i ≤ 13) ∨ (k = o + 15 ∧ i = 1) ∨ (k = o + 4 ∧ i = 11) ∨ (o + 5 ≤ k ∧ k ≤ o + 13) ∨ k = o + 18) M M' := by
  let M11 : zzMem := zz_si (zz_si (zz_si (zz_si (zz_si (zz_si (zz_si (zz_si (zz_si (zz_si (zz_si M o 4 (nI n)) o 5 (nI up)) o 6 (nI dn)) o 7 (nI po)) o 8 (nI 0)) o 9 (nI 0)) o 10 (nI 0)) o 11 (nI 0)) o 12 (nI 0)) o 13 (nI 0)) (o + 15) 1 (nI 0)
  have f0 : zFr (fun k i => (k = o ∧ 4 ≤ i ∧ i ≤ 13) ∨ (k = o + 15 ∧ i = 1) ∨ (k = o + 4 ∧ i = 11) ∨ (o + 5 ≤ k ∧ k ≤ o + 13) ∨ k = o + 18) M M11 := by
    refine ((((((((((zFr.si ?_).trans (zFr.si ?_)).trans (zFr.si ?_)).trans (zFr.si ?_)).trans (zFr.si ?_)).trans (zFr.si ?_)).trans (zFr.si ?_)).trans (zFr.si ?_)).trans (zFr.si ?_)).trans (zFr.si ?_)).trans (zFr.si ?_) <;> omega
  have g4 : M11.1 o 4 = nI n := by simp (disch := omega) only [M11, rd_ne, rd_eq]
  have g5 : M11.1 o 5 = nI up := by simp (disch := omega) only [M11, rd_ne, rd_eq]
  have g6 : M11.1 o 6 = nI dn := by simp (disch := omega) only [M11, rd_ne, rd_eq]
  have g7 : M11.1 o 7 = nI po := by simp (disch := omega) only [M11, rd_ne, rd_eq]
  have g8 : M11.1 o 8 = nI 0 := by simp (disch := omega) only [M11, rd_ne, rd_eq]
  have g9 : M11.1 o 9 = nI 0 := by simp (disch := omega) only [M11, rd_ne, rd_eq]
  have g10 : M11.1 o 10 = nI 0 := by simp (disch := omega) only [M11, rd_ne, rd_eq]
  have g11 : M11.1 o 11 = nI 0 := by simp (disch := omega) only [M11, rd_ne, rd_eq]
  have g12 : M11.1 o 12 = nI 0 := by simp (disch := omega) only [M11, rd_ne, rd_eq]
  have g13 : M11.1 o 13 = nI 0 := by simp (disch := omega) only [M11, rd_ne, rd_eq]
  have g15 : M11.1 (o + 15) 1 = nI 0 := by simp (disch := omega) only [M11, rd_eq]
  obtain ⟨M12, a1, a2, a3, a4⟩ := cClear (ch := o + 4) (c := c) (n := n) M11 (zA_h (zA0 n c up dn po dr law)) (by omega) (by omega)
  obtain ⟨M13, b1, b2, b3⟩ := cFill (p := o + 17 + 1) (n := 4) (v := (-1 : Int32)) M12 (by decide)
  have hf : zFr (fun k i => (k = o ∧ 4 ≤ i ∧ i ≤ 13) ∨ (k = o + 15 ∧ i = 1) ∨ (k = o + 4 ∧ i = 11) ∨ (o + 5 ≤ k ∧ k ≤ o + 13) ∨ k = o + 18) M M13 := (f0.trans (a4.weak (fun k i h => by omega))).trans (b3.weak (fun k i h => by omega))
  have t : ∀ i, i ≤ 13 → M13.1 o i = M11.1 o i := fun i hi => by rw [(b3 o i (by omega)).1, (a4 o i (by omega)).1]
  refine ⟨M13, ?_, ⟨⟨?_, ?_, ?_, ?_, ?_, ?_, ?_, ?_, ?_, ?_, ?_, ?_⟩, ?_, ?_, ⟨?_, fun i k hk => ?_⟩, fun s hs => ⟨fun _ => ?_, fun q hq => ?_⟩⟩, hf⟩
  · unfold f_X2_reset f_X6_closeAll
    simp only [zbd]
    have e4 : (zz_si (zz_si (zz_si (zz_si (zz_si (zz_si (zz_si (zz_si (zz_si (zz_si (zz_si M o 4 (nI n)) o 5 (nI up)) o 6 (nI dn)) o 7 (nI po)) o 8 (nI 0)) o 9 (nI 0)) o 10 (nI 0)) o 11 (nI 0)) o 12 (nI 0)) o 13 (nI 0)) (o + 15) 1 (nI 0)).1 o 4 = nI n := g4
    rw [e4]
    have a1' : f_X0_clear (o + 4) (nI c) (nI n) (zz_si (zz_si (zz_si (zz_si (zz_si (zz_si (zz_si (zz_si (zz_si (zz_si (zz_si M o 4 (nI n)) o 5 (nI up)) o 6 (nI dn)) o 7 (nI po)) o 8 (nI 0)) o 9 (nI 0)) o 10 (nI 0)) o 11 (nI 0)) o 12 (nI 0)) o 13 (nI 0)) (o + 15) 1 (nI 0)) = some M12 := a1
    rw [a1']
    simp only [Option.bind_some, b1]
  · rw [t 4 (by omega)]; exact g4
  · rw [t 5 (by omega)]; exact g5
  · rw [t 6 (by omega)]; exact g6
  · rw [t 7 (by omega)]; exact g7
  · rw [t 8 (by omega)]; exact g8
  · rw [t 9 (by omega)]; exact g9
  · rw [t 10 (by omega)]; exact g10
  · rw [t 11 (by omega)]; exact g11
  · rw [t 12 (by omega)]; exact g12
  · rw [t 13 (by omega)]; exact g13
  · rw [(hf o 14 (by omega)).1]; exact hd
  · rw [(b3 _ _ (by omega)).1]; exact a2
  · exact hl.frS hf (by omega) (by intro i; omega)
  · exact a3.frS b3 (by intro k i; omega)
  · rw [(b3 _ _ (by omega)).1, (a4 _ _ (by omega)).1]; exact g15
  · have hk : ([] : List Nat)[i]? = some k := hk
    simp at hk
  · exact b2 s hs
  · cases hq
theorem mEmpties {n c up dn po dr N : Nat} {law : List (Nat × Nat)} {M : zzMem} (h1 : 1 ≤ n) (h2 : n ≤ 4) (hw : law.length ≤ 60) (hl : zLm M 0 law) (hd : M.1 74 12 = nI dr) : ∃ M', f_X10_empties (nI n) (nI c) (nI up) (nI dn) (nI po) M = some M' ∧ zRM M' 0 N (zA0 n c up dn po dr law) ∧ zFr (fun k i => k = 74 ∧ (i < 12 ∨ i = 13 ∨ i = 14 ∨ (1240 ≤ i ∧ i < 1752))) M M' := by
  let S : Nat → Nat → Prop := fun k i => k = 74 ∧ (i < 12 ∨ i = 13 ∨ i = 14 ∨ (1240 ≤ i ∧ i < 1752))
  let M5 : zzMem := zz_si (zz_si (zz_si (zz_si (zz_si M 74 0 (nI n)) 74 1 (nI c)) 74 2 (nI up)) 74 3 (nI dn)) 74 4 (nI po)
  have f0 : zFr S M M5 := by
    refine ((((zFr.si ?_).trans (zFr.si ?_)).trans (zFr.si ?_)).trans (zFr.si ?_)).trans (zFr.si ?_) <;> exact ⟨rfl, by omega⟩
  let J1 : zzMem → Prop := fun X => X.1 74 0 = nI n ∧ X.1 74 1 = nI c ∧ X.1 74 2 = nI up ∧ X.1 74 3 = nI dn ∧ X.1 74 4 = nI po ∧ zFr S M X
  have j0 : J1 M5 := by
    refine ⟨?_, ?_, ?_, ?_, ?_, f0⟩ <;> simp (disch := omega) only [M5, rd_ne, rd_eq]
  let R : zzMem → Prop := fun X => J1 X ∧ (∀ i, 5 ≤ i → i < 12 → X.1 74 i = nI 0) ∧ X.1 74 13 = nI 0 ∧ X.1 74 14 = nI 0 ∧ ∀ p, p < 256 → X.1 74 (1240 + p) = (if p < n then nI p else (-1 : Int32)) ∧ X.1 74 (1496 + p) = nI 0
  have main : ∃ M', f_X10_empties (nI n) (nI c) (nI up) (nI dn) (nI po) M = some M' ∧ R M' := by
    unfold f_X10_empties j_X10_empties_40
    simp only [zbd]
    have hZ := zlp_forI (B := fun s : (Int32 × zzMem) => b_X10_empties_40 (nI n) s.1 s.2) (fun i X => (nI (i + 5), X)) (fun i X => J1 X ∧ ∀ k, 5 ≤ k → k < i + 5 → X.1 74 k = nI 0) 7 R (fun i hi M1 hJ => ?_) (fun M1 hJ => ?_) 0 (by omega) M5 ⟨j0, fun k hk => by omega⟩
    · obtain ⟨r, q1, q2⟩ := hZ
      exact ⟨r, q1, q2⟩
    · obtain ⟨⟨x1, x2, x3, x4, x5, x6⟩, x7⟩ := hJ
      refine ⟨zz_si M1 74 (i + 5) (nI 0), ?_, ⟨?_, ?_, ?_, ?_, ?_, x6.trans (zFr.si ⟨rfl, by omega⟩)⟩, fun k k1 k2 => ?_⟩
      · unfold b_X10_empties_40
        simp (disch := omega) only [ifLe_f, zgd_in, nIc, zbd, nIadd]
      · rw [rd_ne (by omega)]; exact x1
      · rw [rd_ne (by omega)]; exact x2
      · rw [rd_ne (by omega)]; exact x3
      · rw [rd_ne (by omega)]; exact x4
      · rw [rd_ne (by omega)]; exact x5
      · by_cases hk : k = i + 5
        · subst hk; rw [rd_eq]
        · rw [rd_ne (by omega)]; exact x7 k k1 (by omega)
    · obtain ⟨⟨x1, x2, x3, x4, x5, x6⟩, x7⟩ := hJ
      have hY := zlp_forI (B := fun s : (Int32 × zzMem) => b_X10_empties_80 (nI n) s.1 s.2) (fun i X => (nI i, X)) (fun i X => J1 X ∧ (∀ i, 5 ≤ i → i < 12 → X.1 74 i = nI 0) ∧ X.1 74 13 = nI 0 ∧ X.1 74 14 = nI 0 ∧ ∀ p, p < i → X.1 74 (1240 + p) = (if p < n then nI p else (-1 : Int32)) ∧ X.1 74 (1496 + p) = nI 0) 256 R (fun i hi X hX => ?_) (fun X hX => ?_) 0 (by omega) (zz_si (zz_si M1 74 13 (nI 0)) 74 14 (nI 0)) ⟨⟨?_, ?_, ?_, ?_, ?_, ?_⟩, fun i i1 i2 => ?_, ?_, ?_, fun p hp => by omega⟩
      · obtain ⟨r, q1, q2⟩ := hY
        refine ⟨r, ?_, q2⟩
        unfold b_X10_empties_40 j_X10_empties_80
        simp (disch := omega) only [ifLe_t, zbd, Nat.reduceAdd]
        rw [q1]
        rfl
      · obtain ⟨⟨y1, y2, y3, y4, y5, y6⟩, y7, y8, y9, y10⟩ := hX
        refine ⟨zz_si (zz_si X 74 (1240 + i) (if i < n then nI i else (-1 : Int32))) 74 (1496 + i) (nI 0), ?_, ⟨?_, ?_, ?_, ?_, ?_, (y6.trans (zFr.si ⟨rfl, by omega⟩)).trans (zFr.si ⟨rfl, by omega⟩)⟩, fun k k1 k2 => ?_, ?_, ?_, fun p hp => ?_⟩
        · unfold b_X10_empties_80 j_X10_empties_110
          by_cases hin : i < n
          · simp (disch := omega) only [ifLe_f, zgd_in, nIc, zbd, nIadd, hin, if_true]
          · simp (disch := omega) only [ifLe_f, ifLe_t, zgd_in, nIc, zbd, nIadd, hin, if_false]
        · rw [rd_ne (by omega), rd_ne (by omega)]; exact y1
        · rw [rd_ne (by omega), rd_ne (by omega)]; exact y2
        · rw [rd_ne (by omega), rd_ne (by omega)]; exact y3
        · rw [rd_ne (by omega), rd_ne (by omega)]; exact y4
        · rw [rd_ne (by omega), rd_ne (by omega)]; exact y5
        · rw [rd_ne (by omega), rd_ne (by omega)]; exact y7 k k1 k2
        · rw [rd_ne (by omega), rd_ne (by omega)]; exact y8
        · rw [rd_ne (by omega), rd_ne (by omega)]; exact y9
        · by_cases hpi : p = i
          · subst hpi
            refine ⟨by rw [rd_ne (by omega), rd_eq], by rw [rd_eq]⟩
          · refine ⟨by rw [rd_ne (by omega), rd_ne (by omega)]; exact (y10 p (by omega)).1, by rw [rd_ne (by omega), rd_ne (by omega)]; exact (y10 p (by omega)).2⟩
      · refine ⟨X, ?_, hX⟩
        unfold b_X10_empties_80
        simp (disch := omega) only [ifLe_t]
      · rw [rd_ne (by omega), rd_ne (by omega)]; exact x1
      · rw [rd_ne (by omega), rd_ne (by omega)]; exact x2
      · rw [rd_ne (by omega), rd_ne (by omega)]; exact x3
      · rw [rd_ne (by omega), rd_ne (by omega)]; exact x4
      · rw [rd_ne (by omega), rd_ne (by omega)]; exact x5
      · exact (x6.trans (zFr.si ⟨rfl, by omega⟩)).trans (zFr.si ⟨rfl, by omega⟩)
      · rw [rd_ne (by omega), rd_ne (by omega)]; exact x7 i i1 (by omega)
      · rw [rd_ne (by omega), rd_eq]
      · rw [rd_eq]
  obtain ⟨M', m1, ⟨y1, y2, y3, y4, y5, y6⟩, y7, y8, y9, y10⟩ := main
  refine ⟨M', m1, ⟨⟨?_, ?_, ?_, ?_, ?_, ?_, ?_, ?_, ?_, ?_, ?_, ?_, ?_⟩, ?_, ⟨0, fun _ => [], fun _ => 0, fun _ => 0, fun _ => 0, fun _ => 0, Nat.zero_le _, ?_, fun e he => ?_, fun b e he => ?_, fun b => ?_, fun b => ?_⟩, ⟨fun p hp hn => ?_, fun b hb i p hi => ?_⟩, ⟨0, by omega, ?_, fun s hs => ⟨fun _ => ?_, fun q hq => ?_⟩⟩⟩, y6⟩
  · exact y1
  · exact y2
  · exact y3
  · exact y4
  · exact y5
  · exact y7 5 (by omega) (by omega)
  · exact y7 6 (by omega) (by omega)
  · exact y7 7 (by omega) (by omega)
  · exact y7 8 (by omega) (by omega)
  · exact y7 9 (by omega) (by omega)
  · exact y7 10 (by omega) (by omega)
  · exact y7 11 (by omega) (by omega)
  · rw [show (0 + 12 : Nat) = 12 from rfl, (y6 74 12 (by simp [S])).1]; exact hd
  · exact hl.frS hw y6 (by intro i hi; simp [S]; omega)
  · exact y8
  · exact absurd he (Nat.not_lt_zero e)
  · exact absurd he (by simp)
  · exact List.Pairwise.nil
  · rfl
  · rw [Nat.zero_add, (y10 p hp).1]
    by_cases hpn : p < n
    · exact absurd (show p ∈ zG0 n p by simp [zG0, hpn]) (hn p (by omega))
    · rw [if_neg hpn]
  · obtain ⟨q1, q2, q3⟩ := zG0_at hi
    subst q2; subst q3
    rw [Nat.zero_add, (y10 p (by omega)).1, if_pos q1, Nat.zero_add, (y10 p (by omega)).2]
    exact ⟨rfl, rfl⟩
  · exact y9
  · simp
  · cases hq
theorem op_shape (N : Nat) (a1 a2 a3 a4 a5 : Int32) : zSame N (f_X9_shape a1 a2 a3 a4 a5) (f_X10_shape a1 a2 a3 a4 a5) := by
  intro hN M hI
  unfold f_X9_shape f_X10_shape j_X9_shape_56 j_X9_shape_57
  rw [in_eq]
  rcases inC a1 1 4 (by decide) (by decide) with ⟨h1, n, n1, n2, rfl⟩ | h1
  · rcases inC a2 2 6 (by decide) (by decide) with ⟨h2, c, c1, c2, rfl⟩ | h2
    · rcases inC a3 50 300 (by decide) (by decide) with ⟨h3, up, u1, u2, rfl⟩ | h3
      · rcases inC a4 0 49 (by decide) (by decide) with ⟨h4, dn, d1, d2, rfl⟩ | h4
        · rcases inC a5 0 2 (by decide) (by decide) with ⟨h5, po, p1, p2, rfl⟩ | h5
          · simp only [h1, h2, h3, h4, h5, if_true]
            obtain ⟨tp, A, k1, k2, k3, k4, k5⟩ := hI
            obtain ⟨M1, e1, e2, e3⟩ := cReset (o := 12) (n := n) (c := c) (up := up) (dn := dn) (po := po) n1 n2 c1 k3.2.1 k3.1.2.2.2.2.2.2.2.2.2.2.1
            have hlw : (zA_law A).length ≤ 60 := k2.1.2.2.2.2.2.2.2.2.2.2.2.2
            have hl1 : zLm M1 0 (zA_law A) := k4.2.1.frS hlw e3 (by intro i hi; omega)
            have hd1 : M1.1 74 12 = nI (zA_dr A) := by
              rw [(e3 74 12 (by omega)).1]
              have := k4.1.2.2.2.2.2.2.2.2.2.2.2.2
              simpa using this
            obtain ⟨M2, g1, g2, g3⟩ := mEmpties (n := n) (c := c) (up := up) (dn := dn) (po := po) (N := N + 1) n1 n2 hlw hl1 hd1
            refine ⟨true, M1, M2, by rw [e1]; rfl, by rw [g1]; rfl, tp, zA0 n c up dn po (zA_dr A) (zA_law A), ?_, zA0_wf n1 n2 c1 c2 u1 u2 d2 p2 k2.1.2.2.2.2.2.2.2.2.2.2.1 k2.1.2.2.2.2.2.2.2.2.2.2.2, ?_, g2, ?_⟩
            · exact (k1.frS e3 (by omega) (by omega) (by intro i; omega) (by intro i; omega)).frS g3 (by omega) (by omega) (by intro i; omega) (by intro i; omega)
            · exact e2.frS g3 (by intro k i; omega)
            · exact zKp.frS (e3.weak (S' := fun k i => (12 ≤ k ∧ k ≤ 31) ∨ (k = 74 ∧ i < 1892)) (fun k i h => by omega) |>.trans (g3.weak (fun k i h => by omega))) (by omega) (by omega) (by intro k i; omega) (by intro i; omega) k5
          · simp only [h1, h2, h3, h4, h5, if_true, Bool.false_eq_true, if_false]
            exact ⟨_, _, _, rfl, rfl, hI.up⟩
        · simp only [h1, h2, h3, h4, if_true, Bool.false_eq_true, if_false]
          exact ⟨_, _, _, rfl, rfl, hI.up⟩
      · simp only [h1, h2, h3, if_true, Bool.false_eq_true, if_false]
        exact ⟨_, _, _, rfl, rfl, hI.up⟩
    · simp only [h1, h2, if_true, Bool.false_eq_true, if_false]
      exact ⟨_, _, _, rfl, rfl, hI.up⟩
  · simp only [h1, Bool.false_eq_true, if_false]
    exact ⟨_, _, _, rfl, rfl, hI.up⟩
