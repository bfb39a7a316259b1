set_option maxHeartbeats 8000000 in
set_option maxRecDepth 100000 in
/-- a step of the law's loop: both answer the same -/
theorem law_step (G : zzG) (hL : zG_L G ≤ 3072) (N : Nat) (M : zzMem) (hN : 6 * N + 6 ≤ zG_L G) (hI : zIv N M) : ∃ s' : Int32 × zzMem, b_L_law_18 G (nI (6 * N)) M = some (.inl s') ∧ (∃ N', s'.1 = nI (6 * N') ∧ 6 * N' ≤ zG_L G ∧ zIv N' s'.2) ∧ 4000 - s'.1.toNatClampNeg < 4000 - (nI (6 * N)).toNatClampNeg := by
  obtain ⟨w, hw64, hw⟩ : ∃ w, w < 64 ∧ zG_xs G (6 * N) &&& nI 63 = nI w := pk_andE _ 6 (by decide)
  have hμ : ∀ (M M2 : zzMem), 4000 - (nI (6 * (N + 1)), M2).1.toNatClampNeg < 4000 - (nI (6 * N)).toNatClampNeg := by
    intro M M2
    show 4000 - (nI (6 * (N + 1))).toNatClampNeg < _
    rw [nIc (by omega), nIc (by omega)]
    omega
  unfold b_L_law_18
  rw [show Int32.ofNat (zG_L G) = nI (zG_L G) from rfl]
  rw [nIsub (by omega), ifLt_f (by omega) (by omega), zgd_in (by omega) (by omega), nIc (n := 6 * N) (by omega), hw]
  clear hw
  rcases (show w = 0 ∨ w = 1 ∨ w = 2 ∨ w = 3 ∨ w = 4 ∨ w = 5 ∨ w = 6 ∨ w = 7 ∨ w = 8 ∨ w = 9 ∨ w = 10 ∨ w = 11 ∨ w = 12 ∨ w = 13 ∨ w = 14 ∨ w = 15 ∨ w = 16 ∨ w = 17 ∨ w = 18 ∨ w = 19 ∨ w = 20 ∨ w = 21 ∨ w = 22 ∨ w = 23 ∨ w = 24 ∨ w = 25 ∨ w = 26 ∨ w = 27 ∨ w = 28 ∨ w = 29 ∨ w = 30 ∨ w = 31 ∨ w = 32 ∨ w = 33 ∨ w = 34 ∨ w = 35 ∨ w = 36 ∨ w = 37 ∨ w = 38 ∨ w = 39 ∨ w = 40 ∨ 41 ≤ w by omega) with hw | hw | hw | hw | hw | hw | hw | hw | hw | hw | hw | hw | hw | hw | hw | hw | hw | hw | hw | hw | hw | hw | hw | hw | hw | hw | hw | hw | hw | hw | hw | hw | hw | hw | hw | hw | hw | hw | hw | hw | hw | hw
  · subst hw
    obtain ⟨r, M1, M2, h1, h2, h3⟩ := op_feed N (zG_xs G (6 * N + 1)) (zG_xs G (6 * N + 2)) (zG_xs G (6 * N + 3)) (zG_xs G (6 * N + 4)) (zG_xs G (6 * N + 5)) M hI
    refine ⟨(nI (6 * (N + 1)), M2), ?_, ⟨N + 1, rfl, by omega, h3⟩, hμ M M2⟩
    rw [if_pos rfl]
    simp (disch := omega) only [nIadd, zgd_in, nIc, zbd, zpr, h1, h2, Option.bind_some, reduceIte, show 6 * N + 6 = 6 * (N + 1) by omega]
  · subst hw
    obtain ⟨r, M1, M2, h1, h2, h3⟩ := op_shape N (zG_xs G (6 * N + 1)) (zG_xs G (6 * N + 2)) (zG_xs G (6 * N + 3)) (zG_xs G (6 * N + 4)) (zG_xs G (6 * N + 5)) M hI
    refine ⟨(nI (6 * (N + 1)), M2), ?_, ⟨N + 1, rfl, by omega, h3⟩, hμ M M2⟩
    rw [if_neg (show ¬ nI 1 = nI 0 by decide), if_pos rfl]
    simp (disch := omega) only [nIadd, zgd_in, nIc, zbd, zpr, h1, h2, Option.bind_some, reduceIte, show 6 * N + 6 = 6 * (N + 1) by omega]
  · subst hw
    obtain ⟨r, M1, M2, h1, h2, h3⟩ := op_law N (zG_xs G (6 * N + 1)) M hI
    refine ⟨(nI (6 * (N + 1)), M2), ?_, ⟨N + 1, rfl, by omega, h3⟩, hμ M M2⟩
    rw [if_neg (show ¬ nI 2 = nI 0 by decide), if_neg (show ¬ nI 2 = nI 1 by decide), if_pos rfl]
    simp (disch := omega) only [nIadd, zgd_in, nIc, zbd, zpr, h1, h2, Option.bind_some, reduceIte, show 6 * N + 6 = 6 * (N + 1) by omega]
  · subst hw
    obtain ⟨r, M1, M2, h1, h2, h3⟩ := op_work N (zG_xs G (6 * N + 1)) M hI
    refine ⟨(nI (6 * (N + 1)), M2), ?_, ⟨N + 1, rfl, by omega, h3⟩, hμ M M2⟩
    rw [if_neg (show ¬ nI 3 = nI 0 by decide), if_neg (show ¬ nI 3 = nI 1 by decide), if_neg (show ¬ nI 3 = nI 2 by decide), if_pos rfl]
    simp (disch := omega) only [nIadd, zgd_in, nIc, zbd, zpr, h1, h2, Option.bind_some, reduceIte, show 6 * N + 6 = 6 * (N + 1) by omega]
  · subst hw
    obtain ⟨r, M1, M2, h1, h2, h3⟩ := op_put N (zG_xs G (6 * N + 1)) (zG_xs G (6 * N + 2)) M hI
    refine ⟨(nI (6 * (N + 1)), M2), ?_, ⟨N + 1, rfl, by omega, h3⟩, hμ M M2⟩
    rw [if_neg (show ¬ nI 4 = nI 0 by decide), if_neg (show ¬ nI 4 = nI 1 by decide), if_neg (show ¬ nI 4 = nI 2 by decide), if_neg (show ¬ nI 4 = nI 3 by decide), if_pos rfl]
    simp (disch := omega) only [nIadd, zgd_in, nIc, zbd, zpr, h1, h2, Option.bind_some, reduceIte, show 6 * N + 6 = 6 * (N + 1) by omega]
  · subst hw
    obtain ⟨r, M1, M2, h1, h2, h3⟩ := op_find N (zG_xs G (6 * N + 1)) M hI
    refine ⟨(nI (6 * (N + 1)), M2), ?_, ⟨N + 1, rfl, by omega, h3⟩, hμ M M2⟩
    rw [if_neg (show ¬ nI 5 = nI 0 by decide), if_neg (show ¬ nI 5 = nI 1 by decide), if_neg (show ¬ nI 5 = nI 2 by decide), if_neg (show ¬ nI 5 = nI 3 by decide), if_neg (show ¬ nI 5 = nI 4 by decide), if_pos rfl]
    simp (disch := omega) only [nIadd, zgd_in, nIc, zbd, zpr, h1, h2, Option.bind_some, reduceIte, show 6 * N + 6 = 6 * (N + 1) by omega]
  · subst hw
    obtain ⟨r, M1, M2, h1, h2, h3⟩ := op_drop N (zG_xs G (6 * N + 1)) M hI
    refine ⟨(nI (6 * (N + 1)), M2), ?_, ⟨N + 1, rfl, by omega, h3⟩, hμ M M2⟩
    rw [if_neg (show ¬ nI 6 = nI 0 by decide), if_neg (show ¬ nI 6 = nI 1 by decide), if_neg (show ¬ nI 6 = nI 2 by decide), if_neg (show ¬ nI 6 = nI 3 by decide), if_neg (show ¬ nI 6 = nI 4 by decide), if_neg (show ¬ nI 6 = nI 5 by decide), if_pos rfl]
    simp (disch := omega) only [nIadd, zgd_in, nIc, zbd, zpr, h1, h2, Option.bind_some, reduceIte, show 6 * N + 6 = 6 * (N + 1) by omega]
  · subst hw
    obtain ⟨r, M1, M2, h1, h2, h3⟩ := op_split N  M hI
    refine ⟨(nI (6 * (N + 1)), M2), ?_, ⟨N + 1, rfl, by omega, h3⟩, hμ M M2⟩
    rw [if_neg (show ¬ nI 7 = nI 0 by decide), if_neg (show ¬ nI 7 = nI 1 by decide), if_neg (show ¬ nI 7 = nI 2 by decide), if_neg (show ¬ nI 7 = nI 3 by decide), if_neg (show ¬ nI 7 = nI 4 by decide), if_neg (show ¬ nI 7 = nI 5 by decide), if_neg (show ¬ nI 7 = nI 6 by decide), if_pos rfl]
    simp (disch := omega) only [nIadd, zgd_in, nIc, zbd, zpr, h1, h2, Option.bind_some, reduceIte, show 6 * N + 6 = 6 * (N + 1) by omega]
  · subst hw
    obtain ⟨r, M1, M2, h1, h2, h3⟩ := op_join N  M hI
    refine ⟨(nI (6 * (N + 1)), M2), ?_, ⟨N + 1, rfl, by omega, h3⟩, hμ M M2⟩
    rw [if_neg (show ¬ nI 8 = nI 0 by decide), if_neg (show ¬ nI 8 = nI 1 by decide), if_neg (show ¬ nI 8 = nI 2 by decide), if_neg (show ¬ nI 8 = nI 3 by decide), if_neg (show ¬ nI 8 = nI 4 by decide), if_neg (show ¬ nI 8 = nI 5 by decide), if_neg (show ¬ nI 8 = nI 6 by decide), if_neg (show ¬ nI 8 = nI 7 by decide), if_pos rfl]
    simp (disch := omega) only [nIadd, zgd_in, nIc, zbd, zpr, h1, h2, Option.bind_some, reduceIte, show 6 * N + 6 = 6 * (N + 1) by omega]
  · subst hw
    obtain ⟨r, M1, M2, h1, h2, h3⟩ := op_fileIs N (zG_xs G (6 * N + 1)) M hI
    obtain ⟨h1, rfl⟩ := zR_some h1
    obtain ⟨h2, rfl⟩ := zR_some h2
    refine ⟨(nI (6 * (N + 1)), M2), ?_, ⟨N + 1, rfl, by omega, h3⟩, hμ M M2⟩
    rw [if_neg (show ¬ nI 9 = nI 0 by decide), if_neg (show ¬ nI 9 = nI 1 by decide), if_neg (show ¬ nI 9 = nI 2 by decide), if_neg (show ¬ nI 9 = nI 3 by decide), if_neg (show ¬ nI 9 = nI 4 by decide), if_neg (show ¬ nI 9 = nI 5 by decide), if_neg (show ¬ nI 9 = nI 6 by decide), if_neg (show ¬ nI 9 = nI 7 by decide), if_neg (show ¬ nI 9 = nI 8 by decide), if_pos rfl]
    simp (disch := omega) only [nIadd, zgd_in, nIc, zbd, zpr, h1, h2, Option.bind_some, reduceIte, show 6 * N + 6 = 6 * (N + 1) by omega]
  · subst hw
    obtain ⟨r, M1, M2, h1, h2, h3⟩ := op_keyIs N (zG_xs G (6 * N + 1)) (zG_xs G (6 * N + 2)) M hI
    refine ⟨(nI (6 * (N + 1)), M2), ?_, ⟨N + 1, rfl, by omega, h3⟩, hμ M M2⟩
    rw [if_neg (show ¬ nI 10 = nI 0 by decide), if_neg (show ¬ nI 10 = nI 1 by decide), if_neg (show ¬ nI 10 = nI 2 by decide), if_neg (show ¬ nI 10 = nI 3 by decide), if_neg (show ¬ nI 10 = nI 4 by decide), if_neg (show ¬ nI 10 = nI 5 by decide), if_neg (show ¬ nI 10 = nI 6 by decide), if_neg (show ¬ nI 10 = nI 7 by decide), if_neg (show ¬ nI 10 = nI 8 by decide), if_neg (show ¬ nI 10 = nI 9 by decide), if_pos rfl]
    simp (disch := omega) only [nIadd, zgd_in, nIc, zbd, zpr, h1, h2, Option.bind_some, reduceIte, show 6 * N + 6 = 6 * (N + 1) by omega]
  · subst hw
    obtain ⟨r, M1, M2, h1, h2, h3⟩ := op_where N (zG_xs G (6 * N + 1)) (zG_xs G (6 * N + 2)) M hI
    refine ⟨(nI (6 * (N + 1)), M2), ?_, ⟨N + 1, rfl, by omega, h3⟩, hμ M M2⟩
    rw [if_neg (show ¬ nI 11 = nI 0 by decide), if_neg (show ¬ nI 11 = nI 1 by decide), if_neg (show ¬ nI 11 = nI 2 by decide), if_neg (show ¬ nI 11 = nI 3 by decide), if_neg (show ¬ nI 11 = nI 4 by decide), if_neg (show ¬ nI 11 = nI 5 by decide), if_neg (show ¬ nI 11 = nI 6 by decide), if_neg (show ¬ nI 11 = nI 7 by decide), if_neg (show ¬ nI 11 = nI 8 by decide), if_neg (show ¬ nI 11 = nI 9 by decide), if_neg (show ¬ nI 11 = nI 10 by decide), if_pos rfl]
    simp (disch := omega) only [nIadd, zgd_in, nIc, zbd, zpr, h1, h2, Option.bind_some, reduceIte, show 6 * N + 6 = 6 * (N + 1) by omega]
  · subst hw
    obtain ⟨r, M1, M2, h1, h2, h3⟩ := op_bucket N (zG_xs G (6 * N + 1)) (zG_xs G (6 * N + 2)) M hI
    obtain ⟨h1, rfl⟩ := zR_some h1
    obtain ⟨h2, rfl⟩ := zR_some h2
    refine ⟨(nI (6 * (N + 1)), M2), ?_, ⟨N + 1, rfl, by omega, h3⟩, hμ M M2⟩
    rw [if_neg (show ¬ nI 12 = nI 0 by decide), if_neg (show ¬ nI 12 = nI 1 by decide), if_neg (show ¬ nI 12 = nI 2 by decide), if_neg (show ¬ nI 12 = nI 3 by decide), if_neg (show ¬ nI 12 = nI 4 by decide), if_neg (show ¬ nI 12 = nI 5 by decide), if_neg (show ¬ nI 12 = nI 6 by decide), if_neg (show ¬ nI 12 = nI 7 by decide), if_neg (show ¬ nI 12 = nI 8 by decide), if_neg (show ¬ nI 12 = nI 9 by decide), if_neg (show ¬ nI 12 = nI 10 by decide), if_neg (show ¬ nI 12 = nI 11 by decide), if_pos rfl]
    simp (disch := omega) only [nIadd, zgd_in, nIc, zbd, zpr, h1, h2, Option.bind_some, reduceIte, show 6 * N + 6 = 6 * (N + 1) by omega]
  · subst hw
    obtain ⟨r, M1, M2, h1, h2, h3⟩ := op_page N (zG_xs G (6 * N + 1)) (zG_xs G (6 * N + 2)) M hI
    obtain ⟨h1, rfl⟩ := zR_some h1
    obtain ⟨h2, rfl⟩ := zR_some h2
    refine ⟨(nI (6 * (N + 1)), M2), ?_, ⟨N + 1, rfl, by omega, h3⟩, hμ M M2⟩
    rw [if_neg (show ¬ nI 13 = nI 0 by decide), if_neg (show ¬ nI 13 = nI 1 by decide), if_neg (show ¬ nI 13 = nI 2 by decide), if_neg (show ¬ nI 13 = nI 3 by decide), if_neg (show ¬ nI 13 = nI 4 by decide), if_neg (show ¬ nI 13 = nI 5 by decide), if_neg (show ¬ nI 13 = nI 6 by decide), if_neg (show ¬ nI 13 = nI 7 by decide), if_neg (show ¬ nI 13 = nI 8 by decide), if_neg (show ¬ nI 13 = nI 9 by decide), if_neg (show ¬ nI 13 = nI 10 by decide), if_neg (show ¬ nI 13 = nI 11 by decide), if_neg (show ¬ nI 13 = nI 12 by decide), if_pos rfl]
    simp (disch := omega) only [nIadd, zgd_in, nIc, zbd, zpr, h1, h2, Option.bind_some, reduceIte, show 6 * N + 6 = 6 * (N + 1) by omega]
  · subst hw
    obtain ⟨r, M1, M2, h1, h2, h3⟩ := op_chains N (zG_xs G (6 * N + 1)) M hI
    obtain ⟨h1, rfl⟩ := zR_some h1
    obtain ⟨h2, rfl⟩ := zR_some h2
    refine ⟨(nI (6 * (N + 1)), M2), ?_, ⟨N + 1, rfl, by omega, h3⟩, hμ M M2⟩
    rw [if_neg (show ¬ nI 14 = nI 0 by decide), if_neg (show ¬ nI 14 = nI 1 by decide), if_neg (show ¬ nI 14 = nI 2 by decide), if_neg (show ¬ nI 14 = nI 3 by decide), if_neg (show ¬ nI 14 = nI 4 by decide), if_neg (show ¬ nI 14 = nI 5 by decide), if_neg (show ¬ nI 14 = nI 6 by decide), if_neg (show ¬ nI 14 = nI 7 by decide), if_neg (show ¬ nI 14 = nI 8 by decide), if_neg (show ¬ nI 14 = nI 9 by decide), if_neg (show ¬ nI 14 = nI 10 by decide), if_neg (show ¬ nI 14 = nI 11 by decide), if_neg (show ¬ nI 14 = nI 12 by decide), if_neg (show ¬ nI 14 = nI 13 by decide), if_pos rfl]
    simp (disch := omega) only [nIadd, zgd_in, nIc, zbd, zpr, h1, h2, Option.bind_some, reduceIte, show 6 * N + 6 = 6 * (N + 1) by omega]
  · subst hw
    obtain ⟨r, M1, M2, h1, h2, h3⟩ := op_finds N (zG_xs G (6 * N + 1)) M hI
    obtain ⟨h1, rfl⟩ := zR_some h1
    obtain ⟨h2, rfl⟩ := zR_some h2
    refine ⟨(nI (6 * (N + 1)), M2), ?_, ⟨N + 1, rfl, by omega, h3⟩, hμ M M2⟩
    rw [if_neg (show ¬ nI 15 = nI 0 by decide), if_neg (show ¬ nI 15 = nI 1 by decide), if_neg (show ¬ nI 15 = nI 2 by decide), if_neg (show ¬ nI 15 = nI 3 by decide), if_neg (show ¬ nI 15 = nI 4 by decide), if_neg (show ¬ nI 15 = nI 5 by decide), if_neg (show ¬ nI 15 = nI 6 by decide), if_neg (show ¬ nI 15 = nI 7 by decide), if_neg (show ¬ nI 15 = nI 8 by decide), if_neg (show ¬ nI 15 = nI 9 by decide), if_neg (show ¬ nI 15 = nI 10 by decide), if_neg (show ¬ nI 15 = nI 11 by decide), if_neg (show ¬ nI 15 = nI 12 by decide), if_neg (show ¬ nI 15 = nI 13 by decide), if_neg (show ¬ nI 15 = nI 14 by decide), if_pos rfl]
    simp (disch := omega) only [nIadd, zgd_in, nIc, zbd, zpr, h1, h2, Option.bind_some, reduceIte, show 6 * N + 6 = 6 * (N + 1) by omega]
  · subst hw
    obtain ⟨r, M1, M2, h1, h2, h3⟩ := op_next N (zG_xs G (6 * N + 1)) M hI
    refine ⟨(nI (6 * (N + 1)), M2), ?_, ⟨N + 1, rfl, by omega, h3⟩, hμ M M2⟩
    rw [if_neg (show ¬ nI 16 = nI 0 by decide), if_neg (show ¬ nI 16 = nI 1 by decide), if_neg (show ¬ nI 16 = nI 2 by decide), if_neg (show ¬ nI 16 = nI 3 by decide), if_neg (show ¬ nI 16 = nI 4 by decide), if_neg (show ¬ nI 16 = nI 5 by decide), if_neg (show ¬ nI 16 = nI 6 by decide), if_neg (show ¬ nI 16 = nI 7 by decide), if_neg (show ¬ nI 16 = nI 8 by decide), if_neg (show ¬ nI 16 = nI 9 by decide), if_neg (show ¬ nI 16 = nI 10 by decide), if_neg (show ¬ nI 16 = nI 11 by decide), if_neg (show ¬ nI 16 = nI 12 by decide), if_neg (show ¬ nI 16 = nI 13 by decide), if_neg (show ¬ nI 16 = nI 14 by decide), if_neg (show ¬ nI 16 = nI 15 by decide), if_pos rfl]
    simp (disch := omega) only [nIadd, zgd_in, nIc, zbd, zpr, h1, h2, Option.bind_some, reduceIte, show 6 * N + 6 = 6 * (N + 1) by omega]
  · subst hw
    obtain ⟨r, M1, M2, h1, h2, h3⟩ := op_parted N (zG_xs G (6 * N + 1)) (zG_xs G (6 * N + 2)) M hI
    refine ⟨(nI (6 * (N + 1)), M2), ?_, ⟨N + 1, rfl, by omega, h3⟩, hμ M M2⟩
    rw [if_neg (show ¬ nI 17 = nI 0 by decide), if_neg (show ¬ nI 17 = nI 1 by decide), if_neg (show ¬ nI 17 = nI 2 by decide), if_neg (show ¬ nI 17 = nI 3 by decide), if_neg (show ¬ nI 17 = nI 4 by decide), if_neg (show ¬ nI 17 = nI 5 by decide), if_neg (show ¬ nI 17 = nI 6 by decide), if_neg (show ¬ nI 17 = nI 7 by decide), if_neg (show ¬ nI 17 = nI 8 by decide), if_neg (show ¬ nI 17 = nI 9 by decide), if_neg (show ¬ nI 17 = nI 10 by decide), if_neg (show ¬ nI 17 = nI 11 by decide), if_neg (show ¬ nI 17 = nI 12 by decide), if_neg (show ¬ nI 17 = nI 13 by decide), if_neg (show ¬ nI 17 = nI 14 by decide), if_neg (show ¬ nI 17 = nI 15 by decide), if_neg (show ¬ nI 17 = nI 16 by decide), if_pos rfl]
    simp (disch := omega) only [nIadd, zgd_in, nIc, zbd, zpr, h1, h2, Option.bind_some, reduceIte, show 6 * N + 6 = 6 * (N + 1) by omega]
  · subst hw
    obtain ⟨r, M1, M2, h1, h2, h3⟩ := op_enough N (zG_xs G (6 * N + 1)) M hI
    refine ⟨(nI (6 * (N + 1)), M2), ?_, ⟨N + 1, rfl, by omega, h3⟩, hμ M M2⟩
    rw [if_neg (show ¬ nI 18 = nI 0 by decide), if_neg (show ¬ nI 18 = nI 1 by decide), if_neg (show ¬ nI 18 = nI 2 by decide), if_neg (show ¬ nI 18 = nI 3 by decide), if_neg (show ¬ nI 18 = nI 4 by decide), if_neg (show ¬ nI 18 = nI 5 by decide), if_neg (show ¬ nI 18 = nI 6 by decide), if_neg (show ¬ nI 18 = nI 7 by decide), if_neg (show ¬ nI 18 = nI 8 by decide), if_neg (show ¬ nI 18 = nI 9 by decide), if_neg (show ¬ nI 18 = nI 10 by decide), if_neg (show ¬ nI 18 = nI 11 by decide), if_neg (show ¬ nI 18 = nI 12 by decide), if_neg (show ¬ nI 18 = nI 13 by decide), if_neg (show ¬ nI 18 = nI 14 by decide), if_neg (show ¬ nI 18 = nI 15 by decide), if_neg (show ¬ nI 18 = nI 16 by decide), if_neg (show ¬ nI 18 = nI 17 by decide), if_pos rfl]
    simp (disch := omega) only [nIadd, zgd_in, nIc, zbd, zpr, h1, h2, Option.bind_some, reduceIte, show 6 * N + 6 = 6 * (N + 1) by omega]
  · subst hw
    obtain ⟨r, M1, M2, h1, h2, h3⟩ := op_anew N (zG_xs G (6 * N + 1)) (zG_xs G (6 * N + 2)) M hI
    refine ⟨(nI (6 * (N + 1)), M2), ?_, ⟨N + 1, rfl, by omega, h3⟩, hμ M M2⟩
    rw [if_neg (show ¬ nI 19 = nI 0 by decide), if_neg (show ¬ nI 19 = nI 1 by decide), if_neg (show ¬ nI 19 = nI 2 by decide), if_neg (show ¬ nI 19 = nI 3 by decide), if_neg (show ¬ nI 19 = nI 4 by decide), if_neg (show ¬ nI 19 = nI 5 by decide), if_neg (show ¬ nI 19 = nI 6 by decide), if_neg (show ¬ nI 19 = nI 7 by decide), if_neg (show ¬ nI 19 = nI 8 by decide), if_neg (show ¬ nI 19 = nI 9 by decide), if_neg (show ¬ nI 19 = nI 10 by decide), if_neg (show ¬ nI 19 = nI 11 by decide), if_neg (show ¬ nI 19 = nI 12 by decide), if_neg (show ¬ nI 19 = nI 13 by decide), if_neg (show ¬ nI 19 = nI 14 by decide), if_neg (show ¬ nI 19 = nI 15 by decide), if_neg (show ¬ nI 19 = nI 16 by decide), if_neg (show ¬ nI 19 = nI 17 by decide), if_neg (show ¬ nI 19 = nI 18 by decide), if_pos rfl]
    simp (disch := omega) only [nIadd, zgd_in, nIc, zbd, zpr, h1, h2, Option.bind_some, reduceIte, show 6 * N + 6 = 6 * (N + 1) by omega]
  · subst hw
    obtain ⟨r, M1, M2, h1, h2, h3⟩ := op_torn N (zG_xs G (6 * N + 1)) (zG_xs G (6 * N + 2)) (zG_xs G (6 * N + 3)) M hI
    refine ⟨(nI (6 * (N + 1)), M2), ?_, ⟨N + 1, rfl, by omega, h3⟩, hμ M M2⟩
    rw [if_neg (show ¬ nI 20 = nI 0 by decide), if_neg (show ¬ nI 20 = nI 1 by decide), if_neg (show ¬ nI 20 = nI 2 by decide), if_neg (show ¬ nI 20 = nI 3 by decide), if_neg (show ¬ nI 20 = nI 4 by decide), if_neg (show ¬ nI 20 = nI 5 by decide), if_neg (show ¬ nI 20 = nI 6 by decide), if_neg (show ¬ nI 20 = nI 7 by decide), if_neg (show ¬ nI 20 = nI 8 by decide), if_neg (show ¬ nI 20 = nI 9 by decide), if_neg (show ¬ nI 20 = nI 10 by decide), if_neg (show ¬ nI 20 = nI 11 by decide), if_neg (show ¬ nI 20 = nI 12 by decide), if_neg (show ¬ nI 20 = nI 13 by decide), if_neg (show ¬ nI 20 = nI 14 by decide), if_neg (show ¬ nI 20 = nI 15 by decide), if_neg (show ¬ nI 20 = nI 16 by decide), if_neg (show ¬ nI 20 = nI 17 by decide), if_neg (show ¬ nI 20 = nI 18 by decide), if_neg (show ¬ nI 20 = nI 19 by decide), if_pos rfl]
    simp (disch := omega) only [nIadd, zgd_in, nIc, zbd, zpr, h1, h2, Option.bind_some, reduceIte, show 6 * N + 6 = 6 * (N + 1) by omega]
  · subst hw
    obtain ⟨r, M1, M2, h1, h2, h3⟩ := op_grown N (zG_xs G (6 * N + 1)) (zG_xs G (6 * N + 2)) M hI
    refine ⟨(nI (6 * (N + 1)), M2), ?_, ⟨N + 1, rfl, by omega, h3⟩, hμ M M2⟩
    rw [if_neg (show ¬ nI 21 = nI 0 by decide), if_neg (show ¬ nI 21 = nI 1 by decide), if_neg (show ¬ nI 21 = nI 2 by decide), if_neg (show ¬ nI 21 = nI 3 by decide), if_neg (show ¬ nI 21 = nI 4 by decide), if_neg (show ¬ nI 21 = nI 5 by decide), if_neg (show ¬ nI 21 = nI 6 by decide), if_neg (show ¬ nI 21 = nI 7 by decide), if_neg (show ¬ nI 21 = nI 8 by decide), if_neg (show ¬ nI 21 = nI 9 by decide), if_neg (show ¬ nI 21 = nI 10 by decide), if_neg (show ¬ nI 21 = nI 11 by decide), if_neg (show ¬ nI 21 = nI 12 by decide), if_neg (show ¬ nI 21 = nI 13 by decide), if_neg (show ¬ nI 21 = nI 14 by decide), if_neg (show ¬ nI 21 = nI 15 by decide), if_neg (show ¬ nI 21 = nI 16 by decide), if_neg (show ¬ nI 21 = nI 17 by decide), if_neg (show ¬ nI 21 = nI 18 by decide), if_neg (show ¬ nI 21 = nI 19 by decide), if_neg (show ¬ nI 21 = nI 20 by decide), if_pos rfl]
    simp (disch := omega) only [nIadd, zgd_in, nIc, zbd, zpr, h1, h2, Option.bind_some, reduceIte, show 6 * N + 6 = 6 * (N + 1) by omega]
  · subst hw
    obtain ⟨r, M1, M2, h1, h2, h3⟩ := op_tuned N (zG_xs G (6 * N + 1)) M hI
    refine ⟨(nI (6 * (N + 1)), M2), ?_, ⟨N + 1, rfl, by omega, h3⟩, hμ M M2⟩
    rw [if_neg (show ¬ nI 22 = nI 0 by decide), if_neg (show ¬ nI 22 = nI 1 by decide), if_neg (show ¬ nI 22 = nI 2 by decide), if_neg (show ¬ nI 22 = nI 3 by decide), if_neg (show ¬ nI 22 = nI 4 by decide), if_neg (show ¬ nI 22 = nI 5 by decide), if_neg (show ¬ nI 22 = nI 6 by decide), if_neg (show ¬ nI 22 = nI 7 by decide), if_neg (show ¬ nI 22 = nI 8 by decide), if_neg (show ¬ nI 22 = nI 9 by decide), if_neg (show ¬ nI 22 = nI 10 by decide), if_neg (show ¬ nI 22 = nI 11 by decide), if_neg (show ¬ nI 22 = nI 12 by decide), if_neg (show ¬ nI 22 = nI 13 by decide), if_neg (show ¬ nI 22 = nI 14 by decide), if_neg (show ¬ nI 22 = nI 15 by decide), if_neg (show ¬ nI 22 = nI 16 by decide), if_neg (show ¬ nI 22 = nI 17 by decide), if_neg (show ¬ nI 22 = nI 18 by decide), if_neg (show ¬ nI 22 = nI 19 by decide), if_neg (show ¬ nI 22 = nI 20 by decide), if_neg (show ¬ nI 22 = nI 21 by decide), if_pos rfl]
    simp (disch := omega) only [nIadd, zgd_in, nIc, zbd, zpr, h1, h2, Option.bind_some, reduceIte, show 6 * N + 6 = 6 * (N + 1) by omega]
  · subst hw
    obtain ⟨r, M1, M2, h1, h2, h3⟩ := op_signs N (zG_xs G (6 * N + 1)) M hI
    refine ⟨(nI (6 * (N + 1)), M2), ?_, ⟨N + 1, rfl, by omega, h3⟩, hμ M M2⟩
    rw [if_neg (show ¬ nI 23 = nI 0 by decide), if_neg (show ¬ nI 23 = nI 1 by decide), if_neg (show ¬ nI 23 = nI 2 by decide), if_neg (show ¬ nI 23 = nI 3 by decide), if_neg (show ¬ nI 23 = nI 4 by decide), if_neg (show ¬ nI 23 = nI 5 by decide), if_neg (show ¬ nI 23 = nI 6 by decide), if_neg (show ¬ nI 23 = nI 7 by decide), if_neg (show ¬ nI 23 = nI 8 by decide), if_neg (show ¬ nI 23 = nI 9 by decide), if_neg (show ¬ nI 23 = nI 10 by decide), if_neg (show ¬ nI 23 = nI 11 by decide), if_neg (show ¬ nI 23 = nI 12 by decide), if_neg (show ¬ nI 23 = nI 13 by decide), if_neg (show ¬ nI 23 = nI 14 by decide), if_neg (show ¬ nI 23 = nI 15 by decide), if_neg (show ¬ nI 23 = nI 16 by decide), if_neg (show ¬ nI 23 = nI 17 by decide), if_neg (show ¬ nI 23 = nI 18 by decide), if_neg (show ¬ nI 23 = nI 19 by decide), if_neg (show ¬ nI 23 = nI 20 by decide), if_neg (show ¬ nI 23 = nI 21 by decide), if_neg (show ¬ nI 23 = nI 22 by decide), if_pos rfl]
    simp (disch := omega) only [nIadd, zgd_in, nIc, zbd, zpr, h1, h2, Option.bind_some, reduceIte, show 6 * N + 6 = 6 * (N + 1) by omega]
  · subst hw
    obtain ⟨r, M1, M2, h1, h2, h3⟩ := op_passed N (zG_xs G (6 * N + 1)) M hI
    refine ⟨(nI (6 * (N + 1)), M2), ?_, ⟨N + 1, rfl, by omega, h3⟩, hμ M M2⟩
    rw [if_neg (show ¬ nI 24 = nI 0 by decide), if_neg (show ¬ nI 24 = nI 1 by decide), if_neg (show ¬ nI 24 = nI 2 by decide), if_neg (show ¬ nI 24 = nI 3 by decide), if_neg (show ¬ nI 24 = nI 4 by decide), if_neg (show ¬ nI 24 = nI 5 by decide), if_neg (show ¬ nI 24 = nI 6 by decide), if_neg (show ¬ nI 24 = nI 7 by decide), if_neg (show ¬ nI 24 = nI 8 by decide), if_neg (show ¬ nI 24 = nI 9 by decide), if_neg (show ¬ nI 24 = nI 10 by decide), if_neg (show ¬ nI 24 = nI 11 by decide), if_neg (show ¬ nI 24 = nI 12 by decide), if_neg (show ¬ nI 24 = nI 13 by decide), if_neg (show ¬ nI 24 = nI 14 by decide), if_neg (show ¬ nI 24 = nI 15 by decide), if_neg (show ¬ nI 24 = nI 16 by decide), if_neg (show ¬ nI 24 = nI 17 by decide), if_neg (show ¬ nI 24 = nI 18 by decide), if_neg (show ¬ nI 24 = nI 19 by decide), if_neg (show ¬ nI 24 = nI 20 by decide), if_neg (show ¬ nI 24 = nI 21 by decide), if_neg (show ¬ nI 24 = nI 22 by decide), if_neg (show ¬ nI 24 = nI 23 by decide), if_pos rfl]
    simp (disch := omega) only [nIadd, zgd_in, nIc, zbd, zpr, h1, h2, Option.bind_some, reduceIte, show 6 * N + 6 = 6 * (N + 1) by omega]
  · subst hw
    obtain ⟨r, M1, M2, h1, h2, h3⟩ := op_costing N (zG_xs G (6 * N + 1)) M hI
    obtain ⟨h1, rfl⟩ := zR_some h1
    obtain ⟨h2, rfl⟩ := zR_some h2
    refine ⟨(nI (6 * (N + 1)), M2), ?_, ⟨N + 1, rfl, by omega, h3⟩, hμ M M2⟩
    rw [if_neg (show ¬ nI 25 = nI 0 by decide), if_neg (show ¬ nI 25 = nI 1 by decide), if_neg (show ¬ nI 25 = nI 2 by decide), if_neg (show ¬ nI 25 = nI 3 by decide), if_neg (show ¬ nI 25 = nI 4 by decide), if_neg (show ¬ nI 25 = nI 5 by decide), if_neg (show ¬ nI 25 = nI 6 by decide), if_neg (show ¬ nI 25 = nI 7 by decide), if_neg (show ¬ nI 25 = nI 8 by decide), if_neg (show ¬ nI 25 = nI 9 by decide), if_neg (show ¬ nI 25 = nI 10 by decide), if_neg (show ¬ nI 25 = nI 11 by decide), if_neg (show ¬ nI 25 = nI 12 by decide), if_neg (show ¬ nI 25 = nI 13 by decide), if_neg (show ¬ nI 25 = nI 14 by decide), if_neg (show ¬ nI 25 = nI 15 by decide), if_neg (show ¬ nI 25 = nI 16 by decide), if_neg (show ¬ nI 25 = nI 17 by decide), if_neg (show ¬ nI 25 = nI 18 by decide), if_neg (show ¬ nI 25 = nI 19 by decide), if_neg (show ¬ nI 25 = nI 20 by decide), if_neg (show ¬ nI 25 = nI 21 by decide), if_neg (show ¬ nI 25 = nI 22 by decide), if_neg (show ¬ nI 25 = nI 23 by decide), if_neg (show ¬ nI 25 = nI 24 by decide), if_pos rfl]
    simp (disch := omega) only [nIadd, zgd_in, nIc, zbd, zpr, h1, h2, Option.bind_some, reduceIte, show 6 * N + 6 = 6 * (N + 1) by omega]
  · subst hw
    obtain ⟨r, M1, M2, h1, h2, h3⟩ := op_since N (zG_xs G (6 * N + 1)) M hI
    refine ⟨(nI (6 * (N + 1)), M2), ?_, ⟨N + 1, rfl, by omega, h3⟩, hμ M M2⟩
    rw [if_neg (show ¬ nI 26 = nI 0 by decide), if_neg (show ¬ nI 26 = nI 1 by decide), if_neg (show ¬ nI 26 = nI 2 by decide), if_neg (show ¬ nI 26 = nI 3 by decide), if_neg (show ¬ nI 26 = nI 4 by decide), if_neg (show ¬ nI 26 = nI 5 by decide), if_neg (show ¬ nI 26 = nI 6 by decide), if_neg (show ¬ nI 26 = nI 7 by decide), if_neg (show ¬ nI 26 = nI 8 by decide), if_neg (show ¬ nI 26 = nI 9 by decide), if_neg (show ¬ nI 26 = nI 10 by decide), if_neg (show ¬ nI 26 = nI 11 by decide), if_neg (show ¬ nI 26 = nI 12 by decide), if_neg (show ¬ nI 26 = nI 13 by decide), if_neg (show ¬ nI 26 = nI 14 by decide), if_neg (show ¬ nI 26 = nI 15 by decide), if_neg (show ¬ nI 26 = nI 16 by decide), if_neg (show ¬ nI 26 = nI 17 by decide), if_neg (show ¬ nI 26 = nI 18 by decide), if_neg (show ¬ nI 26 = nI 19 by decide), if_neg (show ¬ nI 26 = nI 20 by decide), if_neg (show ¬ nI 26 = nI 21 by decide), if_neg (show ¬ nI 26 = nI 22 by decide), if_neg (show ¬ nI 26 = nI 23 by decide), if_neg (show ¬ nI 26 = nI 24 by decide), if_neg (show ¬ nI 26 = nI 25 by decide), if_pos rfl]
    simp (disch := omega) only [nIadd, zgd_in, nIc, zbd, zpr, h1, h2, Option.bind_some, reduceIte, show 6 * N + 6 = 6 * (N + 1) by omega]
  · subst hw
    obtain ⟨r, M1, M2, h1, h2, h3⟩ := op_alike N (zG_xs G (6 * N + 1)) M hI
    obtain ⟨h1, rfl⟩ := zR_some h1
    refine ⟨(nI (6 * (N + 1)), M2), ?_, ⟨N + 1, rfl, by omega, h3⟩, hμ M M2⟩
    rw [if_neg (show ¬ nI 27 = nI 0 by decide), if_neg (show ¬ nI 27 = nI 1 by decide), if_neg (show ¬ nI 27 = nI 2 by decide), if_neg (show ¬ nI 27 = nI 3 by decide), if_neg (show ¬ nI 27 = nI 4 by decide), if_neg (show ¬ nI 27 = nI 5 by decide), if_neg (show ¬ nI 27 = nI 6 by decide), if_neg (show ¬ nI 27 = nI 7 by decide), if_neg (show ¬ nI 27 = nI 8 by decide), if_neg (show ¬ nI 27 = nI 9 by decide), if_neg (show ¬ nI 27 = nI 10 by decide), if_neg (show ¬ nI 27 = nI 11 by decide), if_neg (show ¬ nI 27 = nI 12 by decide), if_neg (show ¬ nI 27 = nI 13 by decide), if_neg (show ¬ nI 27 = nI 14 by decide), if_neg (show ¬ nI 27 = nI 15 by decide), if_neg (show ¬ nI 27 = nI 16 by decide), if_neg (show ¬ nI 27 = nI 17 by decide), if_neg (show ¬ nI 27 = nI 18 by decide), if_neg (show ¬ nI 27 = nI 19 by decide), if_neg (show ¬ nI 27 = nI 20 by decide), if_neg (show ¬ nI 27 = nI 21 by decide), if_neg (show ¬ nI 27 = nI 22 by decide), if_neg (show ¬ nI 27 = nI 23 by decide), if_neg (show ¬ nI 27 = nI 24 by decide), if_neg (show ¬ nI 27 = nI 25 by decide), if_neg (show ¬ nI 27 = nI 26 by decide), if_pos rfl]
    simp (disch := omega) only [nIadd, zgd_in, nIc, zbd, zpr, h1, h2, Option.bind_some, reduceIte, show 6 * N + 6 = 6 * (N + 1) by omega]
  · subst hw
    obtain ⟨r, M1, M2, h1, h2, h3⟩ := op_inOrder N (zG_xs G (6 * N + 1)) M hI
    obtain ⟨h1, rfl⟩ := zR_some h1
    refine ⟨(nI (6 * (N + 1)), M2), ?_, ⟨N + 1, rfl, by omega, h3⟩, hμ M M2⟩
    rw [if_neg (show ¬ nI 28 = nI 0 by decide), if_neg (show ¬ nI 28 = nI 1 by decide), if_neg (show ¬ nI 28 = nI 2 by decide), if_neg (show ¬ nI 28 = nI 3 by decide), if_neg (show ¬ nI 28 = nI 4 by decide), if_neg (show ¬ nI 28 = nI 5 by decide), if_neg (show ¬ nI 28 = nI 6 by decide), if_neg (show ¬ nI 28 = nI 7 by decide), if_neg (show ¬ nI 28 = nI 8 by decide), if_neg (show ¬ nI 28 = nI 9 by decide), if_neg (show ¬ nI 28 = nI 10 by decide), if_neg (show ¬ nI 28 = nI 11 by decide), if_neg (show ¬ nI 28 = nI 12 by decide), if_neg (show ¬ nI 28 = nI 13 by decide), if_neg (show ¬ nI 28 = nI 14 by decide), if_neg (show ¬ nI 28 = nI 15 by decide), if_neg (show ¬ nI 28 = nI 16 by decide), if_neg (show ¬ nI 28 = nI 17 by decide), if_neg (show ¬ nI 28 = nI 18 by decide), if_neg (show ¬ nI 28 = nI 19 by decide), if_neg (show ¬ nI 28 = nI 20 by decide), if_neg (show ¬ nI 28 = nI 21 by decide), if_neg (show ¬ nI 28 = nI 22 by decide), if_neg (show ¬ nI 28 = nI 23 by decide), if_neg (show ¬ nI 28 = nI 24 by decide), if_neg (show ¬ nI 28 = nI 25 by decide), if_neg (show ¬ nI 28 = nI 26 by decide), if_neg (show ¬ nI 28 = nI 27 by decide), if_pos rfl]
    simp (disch := omega) only [nIadd, zgd_in, nIc, zbd, zpr, h1, h2, Option.bind_some, reduceIte, show 6 * N + 6 = 6 * (N + 1) by omega]
  · subst hw
    obtain ⟨r, M1, M2, h1, h2, h3⟩ := op_between N (zG_xs G (6 * N + 1)) (zG_xs G (6 * N + 2)) M hI
    obtain ⟨h1, rfl⟩ := zR_some h1
    obtain ⟨h2, rfl⟩ := zR_some h2
    refine ⟨(nI (6 * (N + 1)), M2), ?_, ⟨N + 1, rfl, by omega, h3⟩, hμ M M2⟩
    rw [if_neg (show ¬ nI 29 = nI 0 by decide), if_neg (show ¬ nI 29 = nI 1 by decide), if_neg (show ¬ nI 29 = nI 2 by decide), if_neg (show ¬ nI 29 = nI 3 by decide), if_neg (show ¬ nI 29 = nI 4 by decide), if_neg (show ¬ nI 29 = nI 5 by decide), if_neg (show ¬ nI 29 = nI 6 by decide), if_neg (show ¬ nI 29 = nI 7 by decide), if_neg (show ¬ nI 29 = nI 8 by decide), if_neg (show ¬ nI 29 = nI 9 by decide), if_neg (show ¬ nI 29 = nI 10 by decide), if_neg (show ¬ nI 29 = nI 11 by decide), if_neg (show ¬ nI 29 = nI 12 by decide), if_neg (show ¬ nI 29 = nI 13 by decide), if_neg (show ¬ nI 29 = nI 14 by decide), if_neg (show ¬ nI 29 = nI 15 by decide), if_neg (show ¬ nI 29 = nI 16 by decide), if_neg (show ¬ nI 29 = nI 17 by decide), if_neg (show ¬ nI 29 = nI 18 by decide), if_neg (show ¬ nI 29 = nI 19 by decide), if_neg (show ¬ nI 29 = nI 20 by decide), if_neg (show ¬ nI 29 = nI 21 by decide), if_neg (show ¬ nI 29 = nI 22 by decide), if_neg (show ¬ nI 29 = nI 23 by decide), if_neg (show ¬ nI 29 = nI 24 by decide), if_neg (show ¬ nI 29 = nI 25 by decide), if_neg (show ¬ nI 29 = nI 26 by decide), if_neg (show ¬ nI 29 = nI 27 by decide), if_neg (show ¬ nI 29 = nI 28 by decide), if_pos rfl]
    simp (disch := omega) only [nIadd, zgd_in, nIc, zbd, zpr, h1, h2, Option.bind_some, reduceIte, show 6 * N + 6 = 6 * (N + 1) by omega]
  · subst hw
    obtain ⟨r, M1, M2, h1, h2, h3⟩ := op_bits N (zG_xs G (6 * N + 1)) (zG_xs G (6 * N + 2)) (zG_xs G (6 * N + 3)) M hI
    refine ⟨(nI (6 * (N + 1)), M2), ?_, ⟨N + 1, rfl, by omega, h3⟩, hμ M M2⟩
    rw [if_neg (show ¬ nI 30 = nI 0 by decide), if_neg (show ¬ nI 30 = nI 1 by decide), if_neg (show ¬ nI 30 = nI 2 by decide), if_neg (show ¬ nI 30 = nI 3 by decide), if_neg (show ¬ nI 30 = nI 4 by decide), if_neg (show ¬ nI 30 = nI 5 by decide), if_neg (show ¬ nI 30 = nI 6 by decide), if_neg (show ¬ nI 30 = nI 7 by decide), if_neg (show ¬ nI 30 = nI 8 by decide), if_neg (show ¬ nI 30 = nI 9 by decide), if_neg (show ¬ nI 30 = nI 10 by decide), if_neg (show ¬ nI 30 = nI 11 by decide), if_neg (show ¬ nI 30 = nI 12 by decide), if_neg (show ¬ nI 30 = nI 13 by decide), if_neg (show ¬ nI 30 = nI 14 by decide), if_neg (show ¬ nI 30 = nI 15 by decide), if_neg (show ¬ nI 30 = nI 16 by decide), if_neg (show ¬ nI 30 = nI 17 by decide), if_neg (show ¬ nI 30 = nI 18 by decide), if_neg (show ¬ nI 30 = nI 19 by decide), if_neg (show ¬ nI 30 = nI 20 by decide), if_neg (show ¬ nI 30 = nI 21 by decide), if_neg (show ¬ nI 30 = nI 22 by decide), if_neg (show ¬ nI 30 = nI 23 by decide), if_neg (show ¬ nI 30 = nI 24 by decide), if_neg (show ¬ nI 30 = nI 25 by decide), if_neg (show ¬ nI 30 = nI 26 by decide), if_neg (show ¬ nI 30 = nI 27 by decide), if_neg (show ¬ nI 30 = nI 28 by decide), if_neg (show ¬ nI 30 = nI 29 by decide), if_pos rfl]
    simp (disch := omega) only [nIadd, zgd_in, nIc, zbd, zpr, h1, h2, Option.bind_some, reduceIte, show 6 * N + 6 = 6 * (N + 1) by omega]
  · subst hw
    obtain ⟨r, M1, M2, h1, h2, h3⟩ := op_scan N  M hI
    refine ⟨(nI (6 * (N + 1)), M2), ?_, ⟨N + 1, rfl, by omega, h3⟩, hμ M M2⟩
    rw [if_neg (show ¬ nI 31 = nI 0 by decide), if_neg (show ¬ nI 31 = nI 1 by decide), if_neg (show ¬ nI 31 = nI 2 by decide), if_neg (show ¬ nI 31 = nI 3 by decide), if_neg (show ¬ nI 31 = nI 4 by decide), if_neg (show ¬ nI 31 = nI 5 by decide), if_neg (show ¬ nI 31 = nI 6 by decide), if_neg (show ¬ nI 31 = nI 7 by decide), if_neg (show ¬ nI 31 = nI 8 by decide), if_neg (show ¬ nI 31 = nI 9 by decide), if_neg (show ¬ nI 31 = nI 10 by decide), if_neg (show ¬ nI 31 = nI 11 by decide), if_neg (show ¬ nI 31 = nI 12 by decide), if_neg (show ¬ nI 31 = nI 13 by decide), if_neg (show ¬ nI 31 = nI 14 by decide), if_neg (show ¬ nI 31 = nI 15 by decide), if_neg (show ¬ nI 31 = nI 16 by decide), if_neg (show ¬ nI 31 = nI 17 by decide), if_neg (show ¬ nI 31 = nI 18 by decide), if_neg (show ¬ nI 31 = nI 19 by decide), if_neg (show ¬ nI 31 = nI 20 by decide), if_neg (show ¬ nI 31 = nI 21 by decide), if_neg (show ¬ nI 31 = nI 22 by decide), if_neg (show ¬ nI 31 = nI 23 by decide), if_neg (show ¬ nI 31 = nI 24 by decide), if_neg (show ¬ nI 31 = nI 25 by decide), if_neg (show ¬ nI 31 = nI 26 by decide), if_neg (show ¬ nI 31 = nI 27 by decide), if_neg (show ¬ nI 31 = nI 28 by decide), if_neg (show ¬ nI 31 = nI 29 by decide), if_neg (show ¬ nI 31 = nI 30 by decide), if_pos rfl]
    simp (disch := omega) only [nIadd, zgd_in, nIc, zbd, zpr, h1, h2, Option.bind_some, reduceIte, show 6 * N + 6 = 6 * (N + 1) by omega]
  · subst hw
    obtain ⟨r, M1, M2, h1, h2, h3⟩ := op_tell N (zG_xs G (6 * N + 1)) M hI
    refine ⟨(nI (6 * (N + 1)), M2), ?_, ⟨N + 1, rfl, by omega, h3⟩, hμ M M2⟩
    rw [if_neg (show ¬ nI 32 = nI 0 by decide), if_neg (show ¬ nI 32 = nI 1 by decide), if_neg (show ¬ nI 32 = nI 2 by decide), if_neg (show ¬ nI 32 = nI 3 by decide), if_neg (show ¬ nI 32 = nI 4 by decide), if_neg (show ¬ nI 32 = nI 5 by decide), if_neg (show ¬ nI 32 = nI 6 by decide), if_neg (show ¬ nI 32 = nI 7 by decide), if_neg (show ¬ nI 32 = nI 8 by decide), if_neg (show ¬ nI 32 = nI 9 by decide), if_neg (show ¬ nI 32 = nI 10 by decide), if_neg (show ¬ nI 32 = nI 11 by decide), if_neg (show ¬ nI 32 = nI 12 by decide), if_neg (show ¬ nI 32 = nI 13 by decide), if_neg (show ¬ nI 32 = nI 14 by decide), if_neg (show ¬ nI 32 = nI 15 by decide), if_neg (show ¬ nI 32 = nI 16 by decide), if_neg (show ¬ nI 32 = nI 17 by decide), if_neg (show ¬ nI 32 = nI 18 by decide), if_neg (show ¬ nI 32 = nI 19 by decide), if_neg (show ¬ nI 32 = nI 20 by decide), if_neg (show ¬ nI 32 = nI 21 by decide), if_neg (show ¬ nI 32 = nI 22 by decide), if_neg (show ¬ nI 32 = nI 23 by decide), if_neg (show ¬ nI 32 = nI 24 by decide), if_neg (show ¬ nI 32 = nI 25 by decide), if_neg (show ¬ nI 32 = nI 26 by decide), if_neg (show ¬ nI 32 = nI 27 by decide), if_neg (show ¬ nI 32 = nI 28 by decide), if_neg (show ¬ nI 32 = nI 29 by decide), if_neg (show ¬ nI 32 = nI 30 by decide), if_neg (show ¬ nI 32 = nI 31 by decide), if_pos rfl]
    simp (disch := omega) only [nIadd, zgd_in, nIc, zbd, zpr, h1, h2, Option.bind_some, reduceIte, show 6 * N + 6 = 6 * (N + 1) by omega]
  · subst hw
    obtain ⟨r, M1, M2, h1, h2, h3⟩ := op_scanIs N (zG_xs G (6 * N + 1)) (zG_xs G (6 * N + 2)) M hI
    refine ⟨(nI (6 * (N + 1)), M2), ?_, ⟨N + 1, rfl, by omega, h3⟩, hμ M M2⟩
    rw [if_neg (show ¬ nI 33 = nI 0 by decide), if_neg (show ¬ nI 33 = nI 1 by decide), if_neg (show ¬ nI 33 = nI 2 by decide), if_neg (show ¬ nI 33 = nI 3 by decide), if_neg (show ¬ nI 33 = nI 4 by decide), if_neg (show ¬ nI 33 = nI 5 by decide), if_neg (show ¬ nI 33 = nI 6 by decide), if_neg (show ¬ nI 33 = nI 7 by decide), if_neg (show ¬ nI 33 = nI 8 by decide), if_neg (show ¬ nI 33 = nI 9 by decide), if_neg (show ¬ nI 33 = nI 10 by decide), if_neg (show ¬ nI 33 = nI 11 by decide), if_neg (show ¬ nI 33 = nI 12 by decide), if_neg (show ¬ nI 33 = nI 13 by decide), if_neg (show ¬ nI 33 = nI 14 by decide), if_neg (show ¬ nI 33 = nI 15 by decide), if_neg (show ¬ nI 33 = nI 16 by decide), if_neg (show ¬ nI 33 = nI 17 by decide), if_neg (show ¬ nI 33 = nI 18 by decide), if_neg (show ¬ nI 33 = nI 19 by decide), if_neg (show ¬ nI 33 = nI 20 by decide), if_neg (show ¬ nI 33 = nI 21 by decide), if_neg (show ¬ nI 33 = nI 22 by decide), if_neg (show ¬ nI 33 = nI 23 by decide), if_neg (show ¬ nI 33 = nI 24 by decide), if_neg (show ¬ nI 33 = nI 25 by decide), if_neg (show ¬ nI 33 = nI 26 by decide), if_neg (show ¬ nI 33 = nI 27 by decide), if_neg (show ¬ nI 33 = nI 28 by decide), if_neg (show ¬ nI 33 = nI 29 by decide), if_neg (show ¬ nI 33 = nI 30 by decide), if_neg (show ¬ nI 33 = nI 31 by decide), if_neg (show ¬ nI 33 = nI 32 by decide), if_pos rfl]
    simp (disch := omega) only [nIadd, zgd_in, nIc, zbd, zpr, h1, h2, Option.bind_some, reduceIte, show 6 * N + 6 = 6 * (N + 1) by omega]
  · subst hw
    obtain ⟨r, M1, M2, h1, h2, h3⟩ := op_reach N (zG_xs G (6 * N + 1)) M hI
    refine ⟨(nI (6 * (N + 1)), M2), ?_, ⟨N + 1, rfl, by omega, h3⟩, hμ M M2⟩
    rw [if_neg (show ¬ nI 34 = nI 0 by decide), if_neg (show ¬ nI 34 = nI 1 by decide), if_neg (show ¬ nI 34 = nI 2 by decide), if_neg (show ¬ nI 34 = nI 3 by decide), if_neg (show ¬ nI 34 = nI 4 by decide), if_neg (show ¬ nI 34 = nI 5 by decide), if_neg (show ¬ nI 34 = nI 6 by decide), if_neg (show ¬ nI 34 = nI 7 by decide), if_neg (show ¬ nI 34 = nI 8 by decide), if_neg (show ¬ nI 34 = nI 9 by decide), if_neg (show ¬ nI 34 = nI 10 by decide), if_neg (show ¬ nI 34 = nI 11 by decide), if_neg (show ¬ nI 34 = nI 12 by decide), if_neg (show ¬ nI 34 = nI 13 by decide), if_neg (show ¬ nI 34 = nI 14 by decide), if_neg (show ¬ nI 34 = nI 15 by decide), if_neg (show ¬ nI 34 = nI 16 by decide), if_neg (show ¬ nI 34 = nI 17 by decide), if_neg (show ¬ nI 34 = nI 18 by decide), if_neg (show ¬ nI 34 = nI 19 by decide), if_neg (show ¬ nI 34 = nI 20 by decide), if_neg (show ¬ nI 34 = nI 21 by decide), if_neg (show ¬ nI 34 = nI 22 by decide), if_neg (show ¬ nI 34 = nI 23 by decide), if_neg (show ¬ nI 34 = nI 24 by decide), if_neg (show ¬ nI 34 = nI 25 by decide), if_neg (show ¬ nI 34 = nI 26 by decide), if_neg (show ¬ nI 34 = nI 27 by decide), if_neg (show ¬ nI 34 = nI 28 by decide), if_neg (show ¬ nI 34 = nI 29 by decide), if_neg (show ¬ nI 34 = nI 30 by decide), if_neg (show ¬ nI 34 = nI 31 by decide), if_neg (show ¬ nI 34 = nI 32 by decide), if_neg (show ¬ nI 34 = nI 33 by decide), if_pos rfl]
    simp (disch := omega) only [nIadd, zgd_in, nIc, zbd, zpr, h1, h2, Option.bind_some, reduceIte, show 6 * N + 6 = 6 * (N + 1) by omega]
  · subst hw
    obtain ⟨r, M1, M2, h1, h2, h3⟩ := op_ends N (zG_xs G (6 * N + 1)) M hI
    refine ⟨(nI (6 * (N + 1)), M2), ?_, ⟨N + 1, rfl, by omega, h3⟩, hμ M M2⟩
    rw [if_neg (show ¬ nI 35 = nI 0 by decide), if_neg (show ¬ nI 35 = nI 1 by decide), if_neg (show ¬ nI 35 = nI 2 by decide), if_neg (show ¬ nI 35 = nI 3 by decide), if_neg (show ¬ nI 35 = nI 4 by decide), if_neg (show ¬ nI 35 = nI 5 by decide), if_neg (show ¬ nI 35 = nI 6 by decide), if_neg (show ¬ nI 35 = nI 7 by decide), if_neg (show ¬ nI 35 = nI 8 by decide), if_neg (show ¬ nI 35 = nI 9 by decide), if_neg (show ¬ nI 35 = nI 10 by decide), if_neg (show ¬ nI 35 = nI 11 by decide), if_neg (show ¬ nI 35 = nI 12 by decide), if_neg (show ¬ nI 35 = nI 13 by decide), if_neg (show ¬ nI 35 = nI 14 by decide), if_neg (show ¬ nI 35 = nI 15 by decide), if_neg (show ¬ nI 35 = nI 16 by decide), if_neg (show ¬ nI 35 = nI 17 by decide), if_neg (show ¬ nI 35 = nI 18 by decide), if_neg (show ¬ nI 35 = nI 19 by decide), if_neg (show ¬ nI 35 = nI 20 by decide), if_neg (show ¬ nI 35 = nI 21 by decide), if_neg (show ¬ nI 35 = nI 22 by decide), if_neg (show ¬ nI 35 = nI 23 by decide), if_neg (show ¬ nI 35 = nI 24 by decide), if_neg (show ¬ nI 35 = nI 25 by decide), if_neg (show ¬ nI 35 = nI 26 by decide), if_neg (show ¬ nI 35 = nI 27 by decide), if_neg (show ¬ nI 35 = nI 28 by decide), if_neg (show ¬ nI 35 = nI 29 by decide), if_neg (show ¬ nI 35 = nI 30 by decide), if_neg (show ¬ nI 35 = nI 31 by decide), if_neg (show ¬ nI 35 = nI 32 by decide), if_neg (show ¬ nI 35 = nI 33 by decide), if_neg (show ¬ nI 35 = nI 34 by decide), if_pos rfl]
    simp (disch := omega) only [nIadd, zgd_in, nIc, zbd, zpr, h1, h2, Option.bind_some, reduceIte, show 6 * N + 6 = 6 * (N + 1) by omega]
  · subst hw
    obtain ⟨r, M1, M2, h1, h2, h3⟩ := op_seed N (zG_xs G (6 * N + 1)) M hI
    refine ⟨(nI (6 * (N + 1)), M2), ?_, ⟨N + 1, rfl, by omega, h3⟩, hμ M M2⟩
    rw [if_neg (show ¬ nI 36 = nI 0 by decide), if_neg (show ¬ nI 36 = nI 1 by decide), if_neg (show ¬ nI 36 = nI 2 by decide), if_neg (show ¬ nI 36 = nI 3 by decide), if_neg (show ¬ nI 36 = nI 4 by decide), if_neg (show ¬ nI 36 = nI 5 by decide), if_neg (show ¬ nI 36 = nI 6 by decide), if_neg (show ¬ nI 36 = nI 7 by decide), if_neg (show ¬ nI 36 = nI 8 by decide), if_neg (show ¬ nI 36 = nI 9 by decide), if_neg (show ¬ nI 36 = nI 10 by decide), if_neg (show ¬ nI 36 = nI 11 by decide), if_neg (show ¬ nI 36 = nI 12 by decide), if_neg (show ¬ nI 36 = nI 13 by decide), if_neg (show ¬ nI 36 = nI 14 by decide), if_neg (show ¬ nI 36 = nI 15 by decide), if_neg (show ¬ nI 36 = nI 16 by decide), if_neg (show ¬ nI 36 = nI 17 by decide), if_neg (show ¬ nI 36 = nI 18 by decide), if_neg (show ¬ nI 36 = nI 19 by decide), if_neg (show ¬ nI 36 = nI 20 by decide), if_neg (show ¬ nI 36 = nI 21 by decide), if_neg (show ¬ nI 36 = nI 22 by decide), if_neg (show ¬ nI 36 = nI 23 by decide), if_neg (show ¬ nI 36 = nI 24 by decide), if_neg (show ¬ nI 36 = nI 25 by decide), if_neg (show ¬ nI 36 = nI 26 by decide), if_neg (show ¬ nI 36 = nI 27 by decide), if_neg (show ¬ nI 36 = nI 28 by decide), if_neg (show ¬ nI 36 = nI 29 by decide), if_neg (show ¬ nI 36 = nI 30 by decide), if_neg (show ¬ nI 36 = nI 31 by decide), if_neg (show ¬ nI 36 = nI 32 by decide), if_neg (show ¬ nI 36 = nI 33 by decide), if_neg (show ¬ nI 36 = nI 34 by decide), if_neg (show ¬ nI 36 = nI 35 by decide), if_pos rfl]
    simp (disch := omega) only [nIadd, zgd_in, nIc, zbd, zpr, h1, h2, Option.bind_some, reduceIte, show 6 * N + 6 = 6 * (N + 1) by omega]
  · subst hw
    obtain ⟨r, M1, M2, h1, h2, h3⟩ := op_keep N  M hI
    refine ⟨(nI (6 * (N + 1)), M2), ?_, ⟨N + 1, rfl, by omega, h3⟩, hμ M M2⟩
    rw [if_neg (show ¬ nI 37 = nI 0 by decide), if_neg (show ¬ nI 37 = nI 1 by decide), if_neg (show ¬ nI 37 = nI 2 by decide), if_neg (show ¬ nI 37 = nI 3 by decide), if_neg (show ¬ nI 37 = nI 4 by decide), if_neg (show ¬ nI 37 = nI 5 by decide), if_neg (show ¬ nI 37 = nI 6 by decide), if_neg (show ¬ nI 37 = nI 7 by decide), if_neg (show ¬ nI 37 = nI 8 by decide), if_neg (show ¬ nI 37 = nI 9 by decide), if_neg (show ¬ nI 37 = nI 10 by decide), if_neg (show ¬ nI 37 = nI 11 by decide), if_neg (show ¬ nI 37 = nI 12 by decide), if_neg (show ¬ nI 37 = nI 13 by decide), if_neg (show ¬ nI 37 = nI 14 by decide), if_neg (show ¬ nI 37 = nI 15 by decide), if_neg (show ¬ nI 37 = nI 16 by decide), if_neg (show ¬ nI 37 = nI 17 by decide), if_neg (show ¬ nI 37 = nI 18 by decide), if_neg (show ¬ nI 37 = nI 19 by decide), if_neg (show ¬ nI 37 = nI 20 by decide), if_neg (show ¬ nI 37 = nI 21 by decide), if_neg (show ¬ nI 37 = nI 22 by decide), if_neg (show ¬ nI 37 = nI 23 by decide), if_neg (show ¬ nI 37 = nI 24 by decide), if_neg (show ¬ nI 37 = nI 25 by decide), if_neg (show ¬ nI 37 = nI 26 by decide), if_neg (show ¬ nI 37 = nI 27 by decide), if_neg (show ¬ nI 37 = nI 28 by decide), if_neg (show ¬ nI 37 = nI 29 by decide), if_neg (show ¬ nI 37 = nI 30 by decide), if_neg (show ¬ nI 37 = nI 31 by decide), if_neg (show ¬ nI 37 = nI 32 by decide), if_neg (show ¬ nI 37 = nI 33 by decide), if_neg (show ¬ nI 37 = nI 34 by decide), if_neg (show ¬ nI 37 = nI 35 by decide), if_neg (show ¬ nI 37 = nI 36 by decide), if_pos rfl]
    simp (disch := omega) only [nIadd, zgd_in, nIc, zbd, zpr, h1, h2, Option.bind_some, reduceIte, show 6 * N + 6 = 6 * (N + 1) by omega]
  · subst hw
    obtain ⟨r, M1, M2, h1, h2, h3⟩ := op_undo N  M hI
    refine ⟨(nI (6 * (N + 1)), M2), ?_, ⟨N + 1, rfl, by omega, h3⟩, hμ M M2⟩
    rw [if_neg (show ¬ nI 38 = nI 0 by decide), if_neg (show ¬ nI 38 = nI 1 by decide), if_neg (show ¬ nI 38 = nI 2 by decide), if_neg (show ¬ nI 38 = nI 3 by decide), if_neg (show ¬ nI 38 = nI 4 by decide), if_neg (show ¬ nI 38 = nI 5 by decide), if_neg (show ¬ nI 38 = nI 6 by decide), if_neg (show ¬ nI 38 = nI 7 by decide), if_neg (show ¬ nI 38 = nI 8 by decide), if_neg (show ¬ nI 38 = nI 9 by decide), if_neg (show ¬ nI 38 = nI 10 by decide), if_neg (show ¬ nI 38 = nI 11 by decide), if_neg (show ¬ nI 38 = nI 12 by decide), if_neg (show ¬ nI 38 = nI 13 by decide), if_neg (show ¬ nI 38 = nI 14 by decide), if_neg (show ¬ nI 38 = nI 15 by decide), if_neg (show ¬ nI 38 = nI 16 by decide), if_neg (show ¬ nI 38 = nI 17 by decide), if_neg (show ¬ nI 38 = nI 18 by decide), if_neg (show ¬ nI 38 = nI 19 by decide), if_neg (show ¬ nI 38 = nI 20 by decide), if_neg (show ¬ nI 38 = nI 21 by decide), if_neg (show ¬ nI 38 = nI 22 by decide), if_neg (show ¬ nI 38 = nI 23 by decide), if_neg (show ¬ nI 38 = nI 24 by decide), if_neg (show ¬ nI 38 = nI 25 by decide), if_neg (show ¬ nI 38 = nI 26 by decide), if_neg (show ¬ nI 38 = nI 27 by decide), if_neg (show ¬ nI 38 = nI 28 by decide), if_neg (show ¬ nI 38 = nI 29 by decide), if_neg (show ¬ nI 38 = nI 30 by decide), if_neg (show ¬ nI 38 = nI 31 by decide), if_neg (show ¬ nI 38 = nI 32 by decide), if_neg (show ¬ nI 38 = nI 33 by decide), if_neg (show ¬ nI 38 = nI 34 by decide), if_neg (show ¬ nI 38 = nI 35 by decide), if_neg (show ¬ nI 38 = nI 36 by decide), if_neg (show ¬ nI 38 = nI 37 by decide), if_pos rfl]
    simp (disch := omega) only [nIadd, zgd_in, nIc, zbd, zpr, h1, h2, Option.bind_some, reduceIte, show 6 * N + 6 = 6 * (N + 1) by omega]
  · subst hw
    obtain ⟨r, M1, M2, h1, h2, h3⟩ := op_check N (zG_xs G (6 * N + 1)) M hI
    refine ⟨(nI (6 * (N + 1)), M2), ?_, ⟨N + 1, rfl, by omega, h3⟩, hμ M M2⟩
    rw [if_neg (show ¬ nI 39 = nI 0 by decide), if_neg (show ¬ nI 39 = nI 1 by decide), if_neg (show ¬ nI 39 = nI 2 by decide), if_neg (show ¬ nI 39 = nI 3 by decide), if_neg (show ¬ nI 39 = nI 4 by decide), if_neg (show ¬ nI 39 = nI 5 by decide), if_neg (show ¬ nI 39 = nI 6 by decide), if_neg (show ¬ nI 39 = nI 7 by decide), if_neg (show ¬ nI 39 = nI 8 by decide), if_neg (show ¬ nI 39 = nI 9 by decide), if_neg (show ¬ nI 39 = nI 10 by decide), if_neg (show ¬ nI 39 = nI 11 by decide), if_neg (show ¬ nI 39 = nI 12 by decide), if_neg (show ¬ nI 39 = nI 13 by decide), if_neg (show ¬ nI 39 = nI 14 by decide), if_neg (show ¬ nI 39 = nI 15 by decide), if_neg (show ¬ nI 39 = nI 16 by decide), if_neg (show ¬ nI 39 = nI 17 by decide), if_neg (show ¬ nI 39 = nI 18 by decide), if_neg (show ¬ nI 39 = nI 19 by decide), if_neg (show ¬ nI 39 = nI 20 by decide), if_neg (show ¬ nI 39 = nI 21 by decide), if_neg (show ¬ nI 39 = nI 22 by decide), if_neg (show ¬ nI 39 = nI 23 by decide), if_neg (show ¬ nI 39 = nI 24 by decide), if_neg (show ¬ nI 39 = nI 25 by decide), if_neg (show ¬ nI 39 = nI 26 by decide), if_neg (show ¬ nI 39 = nI 27 by decide), if_neg (show ¬ nI 39 = nI 28 by decide), if_neg (show ¬ nI 39 = nI 29 by decide), if_neg (show ¬ nI 39 = nI 30 by decide), if_neg (show ¬ nI 39 = nI 31 by decide), if_neg (show ¬ nI 39 = nI 32 by decide), if_neg (show ¬ nI 39 = nI 33 by decide), if_neg (show ¬ nI 39 = nI 34 by decide), if_neg (show ¬ nI 39 = nI 35 by decide), if_neg (show ¬ nI 39 = nI 36 by decide), if_neg (show ¬ nI 39 = nI 37 by decide), if_neg (show ¬ nI 39 = nI 38 by decide), if_pos rfl]
    simp (disch := omega) only [nIadd, zgd_in, nIc, zbd, zpr, h1, h2, Option.bind_some, reduceIte, show 6 * N + 6 = 6 * (N + 1) by omega]
  · subst hw
    obtain ⟨r, M1, M2, h1, h2, h3⟩ := op_count N (zG_xs G (6 * N + 1)) M hI
    obtain ⟨h1, rfl⟩ := zR_some h1
    obtain ⟨h2, rfl⟩ := zR_some h2
    refine ⟨(nI (6 * (N + 1)), M2), ?_, ⟨N + 1, rfl, by omega, h3⟩, hμ M M2⟩
    rw [if_neg (show ¬ nI 40 = nI 0 by decide), if_neg (show ¬ nI 40 = nI 1 by decide), if_neg (show ¬ nI 40 = nI 2 by decide), if_neg (show ¬ nI 40 = nI 3 by decide), if_neg (show ¬ nI 40 = nI 4 by decide), if_neg (show ¬ nI 40 = nI 5 by decide), if_neg (show ¬ nI 40 = nI 6 by decide), if_neg (show ¬ nI 40 = nI 7 by decide), if_neg (show ¬ nI 40 = nI 8 by decide), if_neg (show ¬ nI 40 = nI 9 by decide), if_neg (show ¬ nI 40 = nI 10 by decide), if_neg (show ¬ nI 40 = nI 11 by decide), if_neg (show ¬ nI 40 = nI 12 by decide), if_neg (show ¬ nI 40 = nI 13 by decide), if_neg (show ¬ nI 40 = nI 14 by decide), if_neg (show ¬ nI 40 = nI 15 by decide), if_neg (show ¬ nI 40 = nI 16 by decide), if_neg (show ¬ nI 40 = nI 17 by decide), if_neg (show ¬ nI 40 = nI 18 by decide), if_neg (show ¬ nI 40 = nI 19 by decide), if_neg (show ¬ nI 40 = nI 20 by decide), if_neg (show ¬ nI 40 = nI 21 by decide), if_neg (show ¬ nI 40 = nI 22 by decide), if_neg (show ¬ nI 40 = nI 23 by decide), if_neg (show ¬ nI 40 = nI 24 by decide), if_neg (show ¬ nI 40 = nI 25 by decide), if_neg (show ¬ nI 40 = nI 26 by decide), if_neg (show ¬ nI 40 = nI 27 by decide), if_neg (show ¬ nI 40 = nI 28 by decide), if_neg (show ¬ nI 40 = nI 29 by decide), if_neg (show ¬ nI 40 = nI 30 by decide), if_neg (show ¬ nI 40 = nI 31 by decide), if_neg (show ¬ nI 40 = nI 32 by decide), if_neg (show ¬ nI 40 = nI 33 by decide), if_neg (show ¬ nI 40 = nI 34 by decide), if_neg (show ¬ nI 40 = nI 35 by decide), if_neg (show ¬ nI 40 = nI 36 by decide), if_neg (show ¬ nI 40 = nI 37 by decide), if_neg (show ¬ nI 40 = nI 38 by decide), if_neg (show ¬ nI 40 = nI 39 by decide), if_pos rfl]
    simp (disch := omega) only [nIadd, zgd_in, nIc, zbd, zpr, h1, h2, Option.bind_some, reduceIte, show 6 * N + 6 = 6 * (N + 1) by omega]
  · refine ⟨(nI (6 * (N + 1)), M), ?_, ⟨N + 1, rfl, by omega, hI.up⟩, hμ M M⟩
    rw [ifEq_f (show w ≠ 0 by omega) (by omega) (by decide), ifEq_f (show w ≠ 1 by omega) (by omega) (by decide), ifEq_f (show w ≠ 2 by omega) (by omega) (by decide), ifEq_f (show w ≠ 3 by omega) (by omega) (by decide), ifEq_f (show w ≠ 4 by omega) (by omega) (by decide), ifEq_f (show w ≠ 5 by omega) (by omega) (by decide), ifEq_f (show w ≠ 6 by omega) (by omega) (by decide), ifEq_f (show w ≠ 7 by omega) (by omega) (by decide), ifEq_f (show w ≠ 8 by omega) (by omega) (by decide), ifEq_f (show w ≠ 9 by omega) (by omega) (by decide), ifEq_f (show w ≠ 10 by omega) (by omega) (by decide), ifEq_f (show w ≠ 11 by omega) (by omega) (by decide), ifEq_f (show w ≠ 12 by omega) (by omega) (by decide), ifEq_f (show w ≠ 13 by omega) (by omega) (by decide), ifEq_f (show w ≠ 14 by omega) (by omega) (by decide), ifEq_f (show w ≠ 15 by omega) (by omega) (by decide), ifEq_f (show w ≠ 16 by omega) (by omega) (by decide), ifEq_f (show w ≠ 17 by omega) (by omega) (by decide), ifEq_f (show w ≠ 18 by omega) (by omega) (by decide), ifEq_f (show w ≠ 19 by omega) (by omega) (by decide), ifEq_f (show w ≠ 20 by omega) (by omega) (by decide), ifEq_f (show w ≠ 21 by omega) (by omega) (by decide), ifEq_f (show w ≠ 22 by omega) (by omega) (by decide), ifEq_f (show w ≠ 23 by omega) (by omega) (by decide), ifEq_f (show w ≠ 24 by omega) (by omega) (by decide), ifEq_f (show w ≠ 25 by omega) (by omega) (by decide), ifEq_f (show w ≠ 26 by omega) (by omega) (by decide), ifEq_f (show w ≠ 27 by omega) (by omega) (by decide), ifEq_f (show w ≠ 28 by omega) (by omega) (by decide), ifEq_f (show w ≠ 29 by omega) (by omega) (by decide), ifEq_f (show w ≠ 30 by omega) (by omega) (by decide), ifEq_f (show w ≠ 31 by omega) (by omega) (by decide), ifEq_f (show w ≠ 32 by omega) (by omega) (by decide), ifEq_f (show w ≠ 33 by omega) (by omega) (by decide), ifEq_f (show w ≠ 34 by omega) (by omega) (by decide), ifEq_f (show w ≠ 35 by omega) (by omega) (by decide), ifEq_f (show w ≠ 36 by omega) (by omega) (by decide), ifEq_f (show w ≠ 37 by omega) (by omega) (by decide), ifEq_f (show w ≠ 38 by omega) (by omega) (by decide), ifEq_f (show w ≠ 39 by omega) (by omega) (by decide), ifEq_f (show w ≠ 40 by omega) (by omega) (by decide)]
    simp (disch := omega) only [nIadd, zbd, show 6 * N + 6 = 6 * (N + 1) by omega]
theorem zz_loop (G : zzG) (hL : zG_L G ≤ 3072) (M : zzMem) (hI : zIv 0 M) : zK (j_L_law_18 G (nI 0) M) (fun r => r.1 = true) := by
  unfold j_L_law_18
  have := zlp_inv (B := fun s : (Int32 × zzMem) => b_L_law_18 G s.1 s.2) (fun s => ∃ N, s.1 = nI (6 * N) ∧ 6 * N ≤ zG_L G ∧ zIv N s.2) (fun r => r.1 = true) (fun s => 4000 - s.1.toNatClampNeg) (fun s hs => ?_) (nI 0, M) ⟨0, rfl, by omega, hI⟩
  · obtain ⟨r, h1, h2⟩ := this
    exact ⟨r, h1, h2⟩
  · obtain ⟨x, M⟩ := s
    obtain ⟨N, rfl, hN, hI⟩ := hs
    by_cases h6 : 6 * N + 6 ≤ zG_L G
    · left
      obtain ⟨s', g1, ⟨N', g2, g3, g4⟩, g5⟩ := law_step G hL N M h6 hI
      exact ⟨s', g1, ⟨N', g2, g3, g4⟩, g5⟩
    · right
      refine ⟨(true, M), ?_, rfl⟩
      show b_L_law_18 G (nI (6 * N)) M = _
      unfold b_L_law_18
      rw [show Int32.ofNat (zG_L G) = nI (zG_L G) from rfl]
      rw [if_pos]
      by_cases h0 : 6 ≤ zG_L G
      · rw [nIsub h0]
        exact nI_lt (by omega) (by omega)
      · have h1 : nI (zG_L G) - nI 6 < 0 := pk_sneg (by decide) (by omega)
        rw [Int32.lt_iff_toInt_lt] at h1 ⊢
        rw [nI_toInt (by omega)]
        have h00 : (0 : Int32).toInt = 0 := by decide
        omega
/-- what the two constructors leave -/
theorem zz_init : ∃ M2 M4, n_X9_init_0 (zz_z zz_M0 0) = some M2 ∧ n_X10_init_73 (zz_z M2 73) = some M4 ∧ zIv 0 M4 := sorry
theorem zz_pure (G : zzG) (hL : zG_L G ≤ 3072) : zK (f_L_law G) (fun r => r.1 = true) := by
  obtain ⟨M2, M4, h1, h2, h3⟩ := zz_init
  unfold f_L_law
  simp only [zbd, h1, h2, Option.bind_some]
  exact zz_loop G hL M4 h3
