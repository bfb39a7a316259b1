/-! ===== an empty file ===== -/
theorem cFill {p n : Nat} {v : Int32} (M : zzMem) (hn : n < 2147483648) : ∃ M', f_J7_fill_53178 p n v M = some M' ∧ (∀ i, i < n → M'.1 p i = v) ∧ zFr (fun k _ => k = p) M M' := by
  unfold f_J7_fill_53178 j_J7_fill_53178_5
  rw [show Int32.ofNat n = nI n from rfl]
  simp only [zbd]
  have hZ := zlp_forI (B := fun s : (Int32 × zzMem) => b_J7_fill_53178_5 p n v s.1 (nI n) s.2) (fun i M => (nI i, M)) (fun i M' => (∀ k, k < i → M'.1 p k = v) ∧ zFr (fun k _ => k = p) M M') n (fun r => (∀ k, k < n → r.1 p k = v) ∧ zFr (fun k _ => k = p) M r) (fun i hi M1 hJ => ?_) (fun M1 hJ => ?_) 0 (by omega) M ⟨fun k hk => by omega, zFr.refl M⟩
  · obtain ⟨r, h1, h2, h3⟩ := hZ
    exact ⟨r, h1, h2, h3⟩
  · refine ⟨zz_si M1 p i v, ?_, fun k hk => ?_, hJ.2.trans (zFr.si rfl)⟩
    · unfold b_J7_fill_53178_5
      simp (disch := omega) only [ifLe_f, zgd_in, nIc, zbd, nIadd]
    · by_cases hki : k = i
      · subst hki; rw [rd_eq]
      · rw [rd_ne (by omega)]; exact hJ.1 k (by omega)
  · refine ⟨M1, ?_, hJ⟩
    unfold b_J7_fill_53178_5
    simp (disch := omega) only [ifLe_t]
/-- the pages of an empty file of n buckets -/
def zG0 (n : Nat) : Nat → List Nat := fun b => if b < n then [b] else []
theorem zG0_mem {n b p : Nat} (h : p ∈ zG0 n b) : b < n ∧ p = b := by
  unfold zG0 at h
  by_cases hb : b < n
  · rw [if_pos hb] at h; exact ⟨hb, List.mem_singleton.mp h⟩
  · rw [if_neg hb] at h; cases h
theorem zG0_at {n b i p : Nat} (h : (zG0 n b)[i]? = some p) : b < n ∧ i = 0 ∧ p = b := by
  obtain ⟨h1, h2⟩ := zG0_mem (List.mem_of_getElem? h)
  refine ⟨h1, ?_, h2⟩
  unfold zG0 at h
  rw [if_pos h1] at h
  have := (List.getElem?_eq_some_iff.mp h).1
  simpa using this
theorem zG0_ok {n : Nat} (hn : n ≤ 64) : zGok (zG0 n) := by
  refine ⟨fun b p hp => ?_, fun b => ?_, fun b b' p h1 h2 => ?_⟩
  · obtain ⟨h1, h2⟩ := zG0_mem hp; omega
  · unfold zG0; split <;> simp
  · rw [← (zG0_mem h1).2, ← (zG0_mem h2).2]
theorem cClear {ch c n : Nat} (M : zzMem) (h : Nat → Nat) (hc0 : 0 < c) (hn : n ≤ 64) : ∃ M', f_X0_clear ch (nI c) (nI n) M = some M' ∧ M'.1 ch 11 = nI c ∧ zCh M' ch c h (fun _ => []) (zG0 n) ∧ zFr (fun k i => (k = ch ∧ i = 11) ∨ (ch + 1 ≤ k ∧ k ≤ ch + 9)) M M' := by
  obtain ⟨M2, a1, a2, a3⟩ := cFill (p := ch + 1) (n := 256) (v := (-1 : Int32)) (zz_si M ch 11 (nI c)) (by decide)
  obtain ⟨M3, b1, b2, b3⟩ := cFill (p := ch + 8) (n := 64) (v := nI 0) M2 (by decide)
  obtain ⟨M4, c1, c2, c3⟩ := cFill (p := ch + 9) (n := 64) (v := nI 0) M3 (by decide)
  obtain ⟨M5, d1, d2, d3⟩ := cFill (p := ch + 6) (n := 64) (v := (-1 : Int32)) M4 (by decide)
  obtain ⟨M6, e1, e2, e3⟩ := cFill (p := ch + 7) (n := 64) (v := (-1 : Int32)) M5 (by decide)
  have hf : zFr (fun k i => (k = ch ∧ i = 11) ∨ (ch + 1 ≤ k ∧ k ≤ ch + 9)) M M6 := by
    refine (((((zFr.si (Or.inl ⟨rfl, rfl⟩)).trans (a3.weak (fun k i h => ?_))).trans (b3.weak (fun k i h => ?_))).trans (c3.weak (fun k i h => ?_))).trans (d3.weak (fun k i h => ?_))).trans (e3.weak (fun k i h => ?_)) <;> omega
  have h11 : M6.1 ch 11 = nI c := by
    rw [(e3 ch 11 (by omega)).1, (d3 ch 11 (by omega)).1, (c3 ch 11 (by omega)).1, (b3 ch 11 (by omega)).1, (a3 ch 11 (by omega)).1, rd_eq]
  have hch : zCh M6 ch c h (fun _ => []) (zG0 0) := by
    have hz : ∀ b, zG0 0 b = [] := fun b => by simp [zG0]
    refine ⟨fun b hb => ?_, fun b hb => ?_, fun b hb => ?_, fun b hb => ?_, fun p hp hn => ?_, fun b hb i p hi => ?_, fun b hb i q p hi hq => ?_⟩
    · rw [(e3 _ _ (by omega)).1, (d3 _ _ (by omega)).1, (c3 _ _ (by omega)).1, b2 b hb]; rfl
    · rw [hz, (e3 _ _ (by omega)).1, (d3 _ _ (by omega)).1, c2 b hb]; rfl
    · rw [hz, (e3 _ _ (by omega)).1, d2 b hb]; rfl
    · rw [hz, e2 b hb]; rfl
    · rw [(e3 _ _ (by omega)).1, (d3 _ _ (by omega)).1, (c3 _ _ (by omega)).1, (b3 _ _ (by omega)).1, a2 p hp]
    · rw [hz] at hi; simp at hi
    · simp at hi
  unfold f_X0_clear j_X0_clear_47
  simp only [zbd, a1, b1, c1, d1, e1, Option.bind_some]
  have hZ := zlp_forI (B := fun s : (Int32 × zzMem) => b_X0_clear_47 ch (nI n) s.1 s.2) (fun i M => (nI i, M)) (fun i M' => M'.1 ch 11 = nI c ∧ zCh M' ch c h (fun _ => []) (zG0 i) ∧ zFr (fun k i => (k = ch ∧ i = 11) ∨ (ch + 1 ≤ k ∧ k ≤ ch + 9)) M M') n (fun r => r.1 ch 11 = nI c ∧ zCh r ch c h (fun _ => []) (zG0 n) ∧ zFr (fun k i => (k = ch ∧ i = 11) ∨ (ch + 1 ≤ k ∧ k ≤ ch + 9)) M r) (fun i hi M1 hJ => ?_) (fun M1 hJ => ?_) 0 (by omega) M6 ⟨h11, hch, hf⟩
  · obtain ⟨r, h1, h2⟩ := hZ
    exact ⟨r, h1, h2⟩
  · obtain ⟨j1, j2, j3⟩ := hJ
    have hzi : zG0 i i = [] := by simp [zG0]
    have hpn : ∀ b, i ∉ zG0 i b := fun b hb => by have := zG0_mem hb; omega
    obtain ⟨M', g1, g2, g3⟩ := cAddPage (b := i) (p := i) j2 (zG0_ok (by omega)) hc0 (by omega) ⟨by omega, fun b _ => hpn b, fun q hq => ⟨q, by omega, by simp [zG0, hq]⟩⟩ hpn (by rw [hzi]; simp) (by simp)
    refine ⟨M', ?_, ?_, ?_, j3.trans (g3.weak (fun k i h => by omega))⟩
    · unfold b_X0_clear_47
      simp (disch := omega) only [ifLe_f, g1, Option.bind_some, zpr, zbd, nIadd]
    · rw [(g3 ch 11 (by omega)).1]; exact j1
    · have he : zupd (zG0 i) i (zG0 i i ++ [i]) = zG0 (i + 1) := by
        funext x
        unfold zupd zG0
        by_cases hx : x = i
        · subst hx; simp
        · by_cases hlt : x < i
          · simp [hx, hlt, show x < i + 1 by omega]
          · simp [hx, hlt, show ¬ x < i + 1 by omega]
      rw [← he]
      exact g2
  · refine ⟨M1, ?_, hJ⟩
    unfold b_X0_clear_47
    simp (disch := omega) only [ifLe_t]
/-- the value of an empty file -/
def zA0 (n c up dn po dr : Nat) (law : List (Nat × Nat)) : zzA := ((n, c, up, dn, po), (0, 0), (nI 0, nI 0, nI 0, nI 0), dr, law, (fun _ => []), zG0 n, [], fun _ => none)
theorem zA0_wf {N n c up dn po dr : Nat} {law : List (Nat × Nat)} (h1 : 1 ≤ n) (h2 : n ≤ 4) (h3 : 2 ≤ c) (h4 : c ≤ 6) (h5 : 50 ≤ up) (h6 : up ≤ 300) (h7 : dn ≤ 49) (h8 : po ≤ 2) (h9 : dr < 65536) (h10 : zLok law) : zWF N (zA0 n c up dn po dr law) := by
  have hs : zA_s (zA0 n c up dn po dr law) = n := by
    show n * 2 ^ 0 = n
    simp
  have hB : zA_B (zA0 n c up dn po dr law) = n := by unfold zA_B; rw [hs]; rfl
  have hok := zG0_ok (show n ≤ 64 by omega)
  refine ⟨⟨h1, h2, h3, h4, h5, h6, h7, h8, ?_, ?_, h9, h10⟩, fun b hb => ⟨rfl, ?_⟩, fun b q hq => (by cases hq), fun b => ?_, fun b hb => ?_, hok.1, hok.2.1, hok.2.2, ⟨Nat.zero_le _, List.Pairwise.nil, fun k => ?_⟩, fun s hs q hq => (by cases hq)⟩
  · rw [hs]; exact h1
  · rw [hB]; omega
  · rw [hB] at hb
    show zG0 n b = []
    unfold zG0
    rw [if_neg (by omega)]
  · exact List.nodup_nil
  · rw [hB] at hb
    show (zG0 n b).length = zpgs c 0
    unfold zG0 zpgs
    rw [if_pos hb, Nat.div_eq_of_lt (by omega)]
    rfl
  · constructor
    · intro h; cases h
    · rintro ⟨b, v, hh⟩; cases hh
