/-! ===== work: the reference's step, and all steps ===== -/
section MW
variable {M : zzMem} {tp : List Nat} {n a : Nat}
theorem mNx {lo hi : Nat} (hT : zMS M tp n a) (htx : ∀ x ∈ tp, x < 256) (hn : n ≤ tp.length) (hl : tp.length ≤ 320) (ha : a ≤ 890) (hlo : lo < 2147483648) (hhi : hi < 2147483648) : ∃ b M', f_X10_readsNext (nI lo) (nI hi) M = some (b, M') ∧ zFr (fun k i => k = 73 ∧ (i = 7 ∨ i = 9 ∨ i = 10)) M M' ∧ (∀ g, znx tp n lo hi a = .inl g → b = false ∧ M'.1 73 9 = g) ∧ ∀ v c, znx tp n lo hi a = .inr (v, c) → b = true ∧ zMS M' tp n c ∧ M'.1 73 10 = nI v := by
  unfold f_X10_readsNext
  rw [mHere hT hn hl (by omega), Option.bind_some]
  by_cases h : zsn tp n a = nI 44
  · have hz : znx tp n lo hi a = znm tp n lo hi (a + 1) := by unfold znx; rw [if_pos h]
    obtain ⟨b, M', g1, g2, g3, g4⟩ := mNumber (lo := lo) (hi := hi) (hT.go (b := a + 1)) htx hn hl (by omega) hlo hhi
    rw [if_pos h, hT.1, nIadd]
    simp only [zbd]
    rw [g1]
    refine ⟨b, M', rfl, (zFr.si (by omega)).trans g2, by rw [hz]; exact g3, by rw [hz]; exact g4⟩
  · have hz : znx tp n lo hi a = .inl (zfc 1 a) := by unfold znx; rw [if_neg h]
    rw [if_neg h, hT.1, mWrong]
    refine ⟨false, zz_si M 73 9 (zfc 1 a), rfl, zFr.si (by omega), fun g hg => ?_, fun v c hh => by rw [hz] at hh; cases hh⟩
    rw [hz] at hg
    have hg := Sum.inl.inj hg
    subst hg
    exact ⟨rfl, rd_eq⟩
def zmR (i : Nat) : Nat → Nat → Prop := fun k j => (k = 73 ∧ (j = 7 ∨ j = 9 ∨ j = 10 ∨ j = 20)) ∨ (80 ≤ k ∧ k ≤ 83 ∧ j = i)
theorem zMS.w80 {k i : Nat} {v : Int32} (hk : 80 ≤ k) (h : zMS M tp n a) : zMS (zz_si M k i v) tp n a :=
  h.frS (S := fun b _ => b = k) (zFr.si rfl) (by omega) (by omega) (by intro i; omega)
set_option maxHeartbeats 1000000 in
theorem mNumbers {i c : Nat} (hT : zMS M tp n a) (h20 : M.1 73 20 = nI i) (hi : i < 20) (hc : zltr c = true) (htx : ∀ x ∈ tp, x < 256) (hn : n ≤ tp.length) (hl : tp.length ≤ 320) (ha : a ≤ n) : ∃ b M', f_X10_readsNumbers (nI c) M = some (b, M') ∧ zFr (zmR i) M M' ∧ M'.1 73 20 = nI i ∧ (∀ g, zst2 tp n c a = .inl g → b = false ∧ M'.1 73 9 = g) ∧ ∀ q e, zst2 tp n c a = .inr (q, e) → b = true ∧ zMS M' tp n e ∧ zS1 (nI c) (M'.1 81 i) (M'.1 82 i) (M'.1 83 i) q := by
  have hnl : n ≤ 320 := Nat.le_trans hn hl
  have hw : ∀ X Y : zzMem, zFr (fun k i => k = 73 ∧ (i = 7 ∨ i = 9 ∨ i = 10)) X Y → zFr (zmR i) X Y := fun X Y h => h.weak (fun k j hh => by unfold zmR; omega)
  -- behind the first number
  have hbeh : ∀ lo hi, lo < 2147483648 → hi < 2147483648 → c ≠ 115 → c ≠ 106 → (if c = 120 ∨ c = 121 then 1 else 0) = lo → (if c = 120 ∨ c = 121 then 60 else 65535) = hi → ∀ ws, zb ws = nI lo → ∃ b M', j_X10_readsNumbers_51 (nI c) ws (nI hi) M = some (b, M') ∧ zFr (zmR i) M M' ∧ M'.1 73 20 = nI i ∧ (∀ g, zst2 tp n c a = .inl g → b = false ∧ M'.1 73 9 = g) ∧ ∀ q e, zst2 tp n c a = .inr (q, e) → b = true ∧ zMS M' tp n e ∧ zS1 (nI c) (M'.1 81 i) (M'.1 82 i) (M'.1 83 i) q := by
    intro lo hi h1 h2 n1 n2 e1 e2 ws hws
    obtain ⟨b, M3, g1, g2, g3, g4⟩ := mNumber (lo := lo) (hi := hi) hT htx hn hl (by omega) h1 h2
    have hz2 : zst2 tp n c a = zsb (znm tp n lo hi a) (zst3 tp n c) := by unfold zst2; rw [if_neg (by omega), e1, e2]
    have h203 : M3.1 73 20 = nI i := by rw [(g2 _ _ (by omega)).1]; exact h20
    unfold j_X10_readsNumbers_51
    rw [hws, g1]
    simp only [Option.bind_some, zpr]
    cases hz : znm tp n lo hi a with
    | inl g =>
      obtain ⟨rfl, q2⟩ := g3 g hz
      rw [hz, zsb_l] at hz2
      rw [if_neg (by decide)]
      refine ⟨false, M3, rfl, hw _ _ g2, h203, fun g' hg => ?_, fun q e hh => by rw [hz2] at hh; cases hh⟩
      rw [hz2] at hg
      rw [← Sum.inl.inj hg]
      exact ⟨rfl, q2⟩
    | inr p =>
      obtain ⟨rfl, q2, q3⟩ := g4 p.1 p.2 hz
      obtain ⟨p1, p2, p3, p4, p5⟩ := znm_r (v := p.1) (b := p.2) hz
      rw [hz, zsb_r] at hz2
      rw [if_pos rfl, h203, q3]
      simp (disch := omega) only [zgd_in, nIc, zbd]
      have s6 : zMS (zz_si M3 81 i (nI p.1)) tp n p.2 := q2.w80 (by omega)
      have f6 : zFr (zmR i) M (zz_si M3 81 i (nI p.1)) := (hw _ _ g2).trans (zFr.si (by unfold zmR; omega))
      have h206 : (zz_si M3 81 i (nI p.1)).1 73 20 = nI i := by rw [rd_ne (by omega)]; exact h203
      have h81 : (zz_si M3 81 i (nI p.1)).1 81 i = nI p.1 := rd_eq
      generalize zz_si M3 81 i (nI p.1) = M6 at s6 f6 h206 h81
      rw [hz2]
      unfold zst3 j_X10_readsNumbers_104
      by_cases h12 : c = 112
      · rw [if_pos h12, ifEq_t h12]
        obtain ⟨b2, M10, k1, k2, k3, k4⟩ := mNx (lo := 0) (hi := 255) s6 htx hn hl (by omega) (by omega) (by omega)
        have h210 : M10.1 73 20 = nI i := by rw [(k2 _ _ (by omega)).1]; exact h206
        rw [k1]
        simp only [Option.bind_some, zpr]
        cases hy : znx tp n 0 255 p.2 with
        | inl g =>
          obtain ⟨rfl, r2⟩ := k3 g hy
          rw [if_neg (by decide)]
          refine ⟨false, M10, rfl, f6.trans (hw _ _ k2), h210, fun g' hg => ?_, fun q e hh => by cases hh⟩
          rw [← Sum.inl.inj hg]
          exact ⟨rfl, r2⟩
        | inr w =>
          obtain ⟨rfl, r2, r3⟩ := k4 w.1 w.2 hy
          rw [if_pos rfl, h210, r3]
          simp (disch := omega) only [zgd_in, nIc, zbd, ifEq_f]
          refine ⟨true, zz_si M10 82 i (nI w.1), rfl, (f6.trans (hw _ _ k2)).trans (zFr.si (by unfold zmR; omega)), by rw [rd_ne (by omega)]; exact h210, fun g' hg => (by cases hg), fun q e hh => ?_⟩
          cases hh
          refine ⟨rfl, r2.w80 (by omega), rfl, fun _ _ => ?_, fun _ => rd_eq, fun hh => ?_⟩
          · rw [rd_ne (by omega), (k2 _ _ (by omega)).1]; exact h81
          · have hh : c = 110 := hh
            omega
      · rw [if_neg h12, ifEq_f h12 (by rcases zltr_c hc with h | h | h | h | h | h | h | h <;> omega) (by omega)]
        have hcl : c < 2147483648 := by rcases zltr_c hc with h | h | h | h | h | h | h | h <;> omega
        by_cases h10 : c = 110
        · rw [if_pos h10, ifEq_t h10]
          obtain ⟨b2, M10, k1, k2, k3, k4⟩ := mNx (lo := 1) (hi := 60) s6 htx hn hl (by omega) (by omega) (by omega)
          have h210 : M10.1 73 20 = nI i := by rw [(k2 _ _ (by omega)).1]; exact h206
          rw [k1]
          simp only [Option.bind_some, zpr]
          cases hy : znx tp n 1 60 p.2 with
          | inl g =>
            obtain ⟨rfl, r2⟩ := k3 g hy
            rw [if_neg (by decide)]
            refine ⟨false, M10, rfl, f6.trans (hw _ _ k2), h210, fun g' hg => ?_, fun q e hh => by cases hh⟩
            rw [← Sum.inl.inj hg]
            exact ⟨rfl, r2⟩
          | inr w =>
            obtain ⟨rfl, r2, r3⟩ := k4 w.1 w.2 hy
            obtain ⟨w1, w2, w3, w4⟩ := znx_r (v := w.1) (b := w.2) hy
            rw [if_pos rfl, h210, r3, zsb_r]
            simp (disch := omega) only [zgd_in, nIc, zbd]
            have s7 : zMS (zz_si M10 82 i (nI w.1)) tp n w.2 := r2.w80 (by omega)
            have f7 : zFr (zmR i) M (zz_si M10 82 i (nI w.1)) := (f6.trans (hw _ _ k2)).trans (zFr.si (by unfold zmR; omega))
            have h207 : (zz_si M10 82 i (nI w.1)).1 73 20 = nI i := by rw [rd_ne (by omega)]; exact h210
            have h817 : (zz_si M10 82 i (nI w.1)).1 81 i = nI p.1 := by rw [rd_ne (by omega), (k2 _ _ (by omega)).1]; exact h81
            have h827 : (zz_si M10 82 i (nI w.1)).1 82 i = nI w.1 := rd_eq
            generalize zz_si M10 82 i (nI w.1) = M7 at s7 f7 h207 h817 h827
            obtain ⟨b3, M11, l1, l2, l3, l4⟩ := mNx (lo := 0) (hi := 9999) s7 htx hn hl (by omega) (by omega) (by omega)
            have h211 : M11.1 73 20 = nI i := by rw [(l2 _ _ (by omega)).1]; exact h207
            rw [l1]
            simp only [Option.bind_some, zpr]
            cases hu : znx tp n 0 9999 w.2 with
            | inl g =>
              obtain ⟨rfl, r4⟩ := l3 g hu
              rw [if_neg (by decide)]
              refine ⟨false, M11, rfl, f7.trans (hw _ _ l2), h211, fun g' hg => ?_, fun q e hh => by cases hh⟩
              rw [← Sum.inl.inj hg]
              exact ⟨rfl, r4⟩
            | inr u =>
              obtain ⟨rfl, r4, r5⟩ := l4 u.1 u.2 hu
              rw [if_pos rfl, h211, r5]
              simp (disch := omega) only [zgd_in, nIc, zbd]
              refine ⟨true, zz_si M11 83 i (nI u.1), rfl, (f7.trans (hw _ _ l2)).trans (zFr.si (by unfold zmR; omega)), by rw [rd_ne (by omega)]; exact h211, fun g' hg => (by cases hg), fun q e hh => ?_⟩
              cases hh
              refine ⟨rfl, r4.w80 (by omega), rfl, fun _ _ => ?_, fun _ => ?_, fun _ => rd_eq⟩
              · rw [rd_ne (by omega), (l2 _ _ (by omega)).1]; exact h817
              · rw [rd_ne (by omega), (l2 _ _ (by omega)).1]; exact h827
        · rw [if_neg h10, ifEq_f h10 hcl (by omega)]
          refine ⟨true, M6, rfl, f6, h206, fun g' hg => (by cases hg), fun q e hh => ?_⟩
          cases hh
          exact ⟨rfl, s6, rfl, fun _ _ => h81, fun hh => by rcases hh with hh | hh; exact absurd hh h12; exact absurd hh h10, fun hh => absurd hh h10⟩
  unfold f_X10_readsNumbers j_X10_readsNumbers_27 j_X10_readsNumbers_32 j_X10_readsNumbers_44
  rcases zltr_c hc with rfl | rfl | rfl | rfl | rfl | rfl | rfl | rfl
  · simp (disch := omega) only [ifEq_f]
    exact hbeh 0 65535 (by omega) (by omega) (by omega) (by omega) rfl rfl false rfl
  · simp (disch := omega) only [ifEq_f]
    exact hbeh 0 65535 (by omega) (by omega) (by omega) (by omega) rfl rfl false rfl
  · simp (disch := omega) only [ifEq_f, ifEq_t]
    refine ⟨true, M, rfl, zFr.refl M, h20, fun g hg => (by cases hg), fun q e hh => ?_⟩
    cases hh
    exact ⟨rfl, hT, rfl, fun _ hh => absurd rfl hh, fun hh => (by rcases hh with hh | hh <;> cases hh), fun hh => (by cases hh)⟩
  · simp (disch := omega) only [ifEq_f]
    exact hbeh 0 65535 (by omega) (by omega) (by omega) (by omega) rfl rfl false rfl
  · simp (disch := omega) only [ifEq_f]
    exact hbeh 0 65535 (by omega) (by omega) (by omega) (by omega) rfl rfl false rfl
  · simp (disch := omega) only [ifEq_f, ifEq_t]
    refine ⟨true, M, rfl, zFr.refl M, h20, fun g hg => (by cases hg), fun q e hh => ?_⟩
    cases hh
    exact ⟨rfl, hT, rfl, fun hh => absurd rfl hh, fun hh => (by rcases hh with hh | hh <;> cases hh), fun hh => (by cases hh)⟩
  · simp (disch := omega) only [ifEq_f, ifEq_t]
    exact hbeh 1 60 (by omega) (by omega) (by omega) (by omega) rfl rfl true rfl
  · simp (disch := omega) only [ifEq_f, ifEq_t]
    exact hbeh 1 60 (by omega) (by omega) (by omega) (by omega) rfl rfl true rfl
theorem mStep {i : Nat} (hT : zMS M tp n a) (h20 : M.1 73 20 = nI i) (hi : i < 20) (htx : ∀ x ∈ tp, x < 256) (hn : n ≤ tp.length) (hl : tp.length ≤ 320) (ha : a ≤ n) : ∃ b M', f_X10_readsStep M = some (b, M') ∧ zFr (zmR i) M M' ∧ (∀ g, zstp tp n a = .inl g → b = false ∧ M'.1 73 9 = g) ∧ ∀ q e, zstp tp n a = .inr (q, e) → b = true ∧ zMS M' tp n e ∧ M'.1 73 20 = nI (i + 1) ∧ zS1 (M'.1 80 i) (M'.1 81 i) (M'.1 82 i) (M'.1 83 i) q := by
  have hnl : n ≤ 320 := Nat.le_trans hn hl
  unfold f_X10_readsStep
  rw [h20, ifEq_f (by omega) (by omega) (by omega), mHere hT hn hl (by omega), Option.bind_some]
  unfold j_X10_readsStep_72
  rw [zchain]
  unfold j_X10_readsStep_77
  by_cases h : a < n ∧ zltr (tp.getD a 0) = true
  · have hx := htx _ (List.mem_of_getElem? (ztp_get hn h.1))
    have hzn : zsn tp n a = nI (tp.getD a 0) := by unfold zsn; rw [if_pos h.1]
    have hzs : zstp tp n a = zst2 tp n (tp.getD a 0) (a + 1) := by unfold zstp; rw [if_pos h]
    rw [hzs, hzn, zltr_is _ hx, h.2, if_pos rfl, if_pos rfl, hT.1, nIadd]
    simp only [zbd]
    obtain ⟨b, M5, g1, g2, g3, g4, g5⟩ := mNumbers (hT.go (b := a + 1)) (by rw [rd_ne (by omega)]; exact h20) hi h.2 htx hn hl (by omega)
    rw [g1]
    simp only [Option.bind_some, zpr]
    have f5 : zFr (zmR i) M M5 := (zFr.si (by unfold zmR; omega)).trans g2
    cases hz : zst2 tp n (tp.getD a 0) (a + 1) with
    | inl g =>
      obtain ⟨rfl, q2⟩ := g4 g hz
      rw [if_neg (by decide)]
      refine ⟨false, M5, rfl, f5, fun g' hg => ?_, fun q e hh => by cases hh⟩
      rw [← Sum.inl.inj hg]
      exact ⟨rfl, q2⟩
    | inr p =>
      obtain ⟨rfl, q2, q3⟩ := g5 p.1 p.2 hz
      rw [if_pos rfl, g3]
      simp (disch := omega) only [zgd_in, nIc, zbd, rd_ne, g3, nIadd]
      refine ⟨true, zz_si (zz_si M5 80 i (nI (tp.getD a 0))) 73 20 (nI (i + 1)), rfl, f5.trans ((zFr.si (by unfold zmR; omega)).trans (zFr.si (by unfold zmR; omega))), fun g' hg => (by cases hg), fun q e hh => ?_⟩
      cases hh
      refine ⟨rfl, (q2.w80 (k := 80) (by omega)).frS (S := fun k j => k = 73 ∧ j = 20) (zFr.si ⟨rfl, rfl⟩) (by omega) (by omega) (by intro i; omega), rd_eq, ?_⟩
      rw [rd_ne (by omega), rd_eq, rd_ne (by omega), rd_ne (by omega), rd_ne (by omega), rd_ne (by omega), rd_ne (by omega), rd_ne (by omega)]
      exact q3
  · have hzs : zstp tp n a = .inl (zfc 1 a) := by unfold zstp; rw [if_neg h]
    have hnl : f_X7_isLetter (zsn tp n a) = false := by
      unfold zsn
      by_cases h1 : a < n
      · have hx := htx _ (List.mem_of_getElem? (ztp_get hn h1))
        rw [if_pos h1, zltr_is _ hx]
        cases hz : zltr (tp.getD a 0) with
        | true => exact absurd ⟨h1, hz⟩ h
        | false => rfl
      · rw [if_neg h1]; decide
    rw [hnl, if_neg (by decide), if_neg (by decide), hT.1, mWrong]
    refine ⟨false, zz_si M 73 9 (zfc 1 a), rfl, zFr.si (by unfold zmR; omega), fun g hg => ?_, fun q e hh => by rw [hzs] at hh; cases hh⟩
    rw [hzs] at hg
    have hg := Sum.inl.inj hg
    subst hg
    exact ⟨rfl, rd_eq⟩
/-- all steps from a on, f of them at most -/
def zwk (tp : List Nat) (n : Nat) : Nat → Nat → Int32 ⊕ List (Nat × Nat × Nat × Nat)
  | 0, a => .inl (zfc 4 a)
  | f + 1, a => zsb (zstp tp n a) (fun p => if n ≤ p.2 then .inr [p.1] else if tp.getD p.2 0 = 59 then zsb (zwk tp n f (p.2 + 1)) (fun l => .inr (p.1 :: l)) else .inl (zfc 1 p.2))
theorem zwk_ok {tp : List Nat} {n : Nat} (hn : n ≤ 320) : ∀ f a, a ≤ n → (∀ g, zwk tp n f a = .inl g → g ≠ 0) ∧ ∀ l, zwk tp n f a = .inr l → l.length ≤ f ∧ ∀ q ∈ l, zSv q
  | 0, a, ha => ⟨fun g hg => by rw [← Sum.inl.inj hg]; exact zfc_ne (by omega) (by omega) (by omega), fun l hl => by cases hl⟩
  | f + 1, a, ha => by
    obtain ⟨s1, s2⟩ := zstp_ok (tp := tp) (n := n) (a := a) hn ha
    unfold zwk
    cases hz : zstp tp n a with
    | inl g => exact ⟨fun g' hg => by rw [← Sum.inl.inj hg]; exact s1 g hz, fun l hl => by cases hl⟩
    | inr p =>
      obtain ⟨p1, p2, p3⟩ := s2 p.1 p.2 hz
      rw [zsb_r]
      by_cases h1 : n ≤ p.2
      · rw [if_pos h1]
        refine ⟨fun g hg => (by cases hg), fun l hl => ?_⟩
        cases hl
        exact ⟨by simp, fun q hq => by rw [List.mem_singleton.mp hq]; exact p1⟩
      · rw [if_neg h1]
        by_cases h2 : tp.getD p.2 0 = 59
        · rw [if_pos h2]
          obtain ⟨r1, r2⟩ := zwk_ok hn f (p.2 + 1) (by omega)
          cases hy : zwk tp n f (p.2 + 1) with
          | inl g => exact ⟨fun g' hg => by rw [← Sum.inl.inj hg]; exact r1 g hy, fun l hl => by cases hl⟩
          | inr l0 =>
            obtain ⟨t1, t2⟩ := r2 l0 hy
            refine ⟨fun g hg => (by cases hg), fun l hl => ?_⟩
            cases hl
            refine ⟨by simp; omega, fun q hq => ?_⟩
            rcases List.mem_cons.mp hq with h | h
            · rw [h]; exact p1
            · exact t2 q h
        · rw [if_neg h2]
          exact ⟨fun g hg => by rw [← Sum.inl.inj hg]; exact zfc_ne (by omega) (by omega) (by omega), fun l hl => by cases hl⟩
def zSC (M : zzMem) (l : List (Nat × Nat × Nat × Nat)) : Prop := ∀ i q, l[i]? = some q → zS1 (M.1 8 i) (M.1 9 i) (M.1 10 i) (M.1 11 i) q
def zSM (M : zzMem) (l : List (Nat × Nat × Nat × Nat)) : Prop := ∀ i q, l[i]? = some q → zS1 (M.1 80 i) (M.1 81 i) (M.1 82 i) (M.1 83 i) q
theorem cRead (htx : ∀ x ∈ tp, x < 256) (hn : n ≤ tp.length) (hl : tp.length ≤ 320) : ∀ (f i a : Nat) (M : zzMem) (l0 : List (Nat × Nat × Nat × Nat)), i + f = 20 → l0.length = i → a ≤ n → zTS M tp n a 0 → zSC M l0 → M.1 7 4 = nI i → ∃ r M', zlp (fun s : (Bool × Int32 × zzMem) => b_X7_read_9 s.1 s.2.1 s.2.2) (true, nI i, M) = some (r, M') ∧ zFr (fun k j => (k = 1 ∧ 2 ≤ j) ∨ (7 ≤ k ∧ k ≤ 11)) M M' ∧ r = zgs (zwk tp n f a) ∧ ∀ l, zwk tp n f a = .inr l → zSC M' (l0 ++ l) ∧ M'.1 7 4 = nI (l0 ++ l).length := by
  intro f
  induction f with
  | zero =>
    intro i a M l0 hi hli ha hT hS h74
    obtain ⟨q1, q2⟩ := cFailH (k := 4) hT
    rw [zff_0] at q1
    refine ⟨zfc 4 a, f_X8_failHere (nI 4) M, zlp_done ?_, q2.weak (fun k j hh => by omega), rfl, fun l hl => by cases hl⟩
    show b_X7_read_9 true (nI i) M = _
    unfold b_X7_read_9
    rw [ifLt_f (by omega) (by omega), if_pos rfl, ifEq_t (by omega)]
    simp only [zbd]
    rw [q1.1]
  | succ f ih =>
    intro i a M l0 hi hli ha hT hS h74
    have hnl : n ≤ 320 := Nat.le_trans hn hl
    obtain ⟨s1, s2⟩ := zstp_ok (tp := tp) (n := n) (a := a) hnl ha
    obtain ⟨M4, a4, g1, g2, g3, g4, g5⟩ := cStep (i := i) hT htx hn hl (by omega) ha
    have h744 : M4.1 7 4 = nI i := by rw [(g4 _ _ (by omega)).1]; exact h74
    have hT5 : zTS (zz_si M4 7 4 (nI (i + 1))) tp n a4 (zgs (zstp tp n a)) := g2.frS (S := fun k j => k = 7) (zFr.si rfl) (by intro i; omega) (by intro i; omega)
    have f5 : zFr (fun k j => (k = 1 ∧ 2 ≤ j) ∨ (7 ≤ k ∧ k ≤ 11)) M (zz_si M4 7 4 (nI (i + 1))) := (g4.weak (fun k j hh => by omega)).trans (zFr.si (by omega))
    have hS5 : zSC (zz_si M4 7 4 (nI (i + 1))) l0 := fun j q hq => by
      have hjl := (List.getElem?_eq_some_iff.mp hq).1
      rw [rd_ne (by omega), rd_ne (by omega), rd_ne (by omega), rd_ne (by omega), (g4 _ _ (by omega)).1, (g4 _ _ (by omega)).1, (g4 _ _ (by omega)).1, (g4 _ _ (by omega)).1]
      exact hS j q hq
    have h745 : (zz_si M4 7 4 (nI (i + 1))).1 7 4 = nI (i + 1) := rd_eq
    have hb : b_X7_read_9 true (nI i) M = if (zz_si M4 7 4 (nI (i + 1))).1 1 2 = 0 then ((f_X8_sign (zz_si M4 7 4 (nI (i + 1)))).bind (fun r7 => if r7 = (-1 : Int32) then (j_X7_read_70 (nI i) (zz_si M4 7 4 (nI (i + 1)))) else (j_X7_read_71 (nI i) true (zz_si M4 7 4 (nI (i + 1)))))) else (j_X7_read_70 (nI i) (zz_si M4 7 4 (nI (i + 1)))) := by
      unfold b_X7_read_9
      rw [ifLt_f (by omega) (by omega), if_pos rfl, ifEq_f (by omega) (by omega) (by omega), g1, Option.bind_some, h744, nIadd]
      rfl
    -- a loop that is not due ends
    have hend : ∀ (v : Nat) (X : zzMem), zlp (fun s : (Bool × Int32 × zzMem) => b_X7_read_9 s.1 s.2.1 s.2.2) (false, nI v, X) = some (X.1 1 2, X) := fun v X => zlp_done (by
      show b_X7_read_9 false (nI v) X = _
      unfold b_X7_read_9 j_X7_read_101
      by_cases h : nI 20 < nI v
      · rw [if_pos h]; rfl
      · rw [if_neg h]; rfl)
    have hM8 : (zz_si M4 7 4 (nI (i + 1))).1 8 i = M4.1 8 i ∧ (zz_si M4 7 4 (nI (i + 1))).1 9 i = M4.1 9 i ∧ (zz_si M4 7 4 (nI (i + 1))).1 10 i = M4.1 10 i ∧ (zz_si M4 7 4 (nI (i + 1))).1 11 i = M4.1 11 i := ⟨rd_ne (by omega), rd_ne (by omega), rd_ne (by omega), rd_ne (by omega)⟩
    generalize zz_si M4 7 4 (nI (i + 1)) = M5 at hT5 f5 hS5 h745 hb hM8
    have hw : zwk tp n (f + 1) a = zsb (zstp tp n a) (fun p => if n ≤ p.2 then .inr [p.1] else if tp.getD p.2 0 = 59 then zsb (zwk tp n f (p.2 + 1)) (fun l => .inr (p.1 :: l)) else .inl (zfc 1 p.2)) := rfl
    rw [hw]
    cases hz : zstp tp n a with
    | inl g =>
      rw [hz] at hT5
      have hg := s1 g hz
      have hf : M5.1 1 2 = g := hT5.1
      rw [zsb_l]
      refine ⟨g, M5, ?_, f5, rfl, fun l hl => by cases hl⟩
      rw [← hf, ← hend (i + 1) M5]
      refine zlp_step ?_
      show b_X7_read_9 true (nI i) M = _
      rw [hb, if_neg (by rw [hf]; exact hg)]
      unfold j_X7_read_70 j_X7_read_71
      rw [if_neg (by decide)]
      simp only [zbd, nIadd]
    | inr p =>
      obtain ⟨p1, p2, p3⟩ := s2 p.1 p.2 hz
      obtain ⟨rfl, q2⟩ := g5 p.1 p.2 hz
      rw [hz] at hT5
      have hT5 : zTS M5 tp n p.2 0 := hT5
      have hS6 : zSC M5 (l0 ++ [p.1]) := fun j q hq => by
        by_cases hjl : j < l0.length
        · rw [List.getElem?_append_left hjl] at hq
          exact hS5 j q hq
        · rw [List.getElem?_append_right (by omega)] at hq
          have hj : j = i := by
            have := (List.getElem?_eq_some_iff.mp hq).1
            simp at this
            omega
          rw [hj, hli, Nat.sub_self] at hq
          cases hq
          rw [hj, hM8.1, hM8.2.1, hM8.2.2.1, hM8.2.2.2]
          exact q2
      have hl6 : (l0 ++ [p.1]).length = i + 1 := by rw [List.length_append, hli]; rfl
      rw [zsb_r]
      by_cases h1 : n ≤ p.2
      · rw [if_pos h1]
        refine ⟨0, M5, ?_, f5, rfl, fun l hl => ?_⟩
        · rw [← hT5.1, ← hend (i + 1) M5]
          refine zlp_step ?_
          show b_X7_read_9 true (nI i) M = _
          have hsn : zsn tp n p.2 = (-1 : Int32) := by unfold zsn; rw [if_neg (by omega)]
          rw [hb, if_pos hT5.1, cSgn hT5 hn hl (by omega), Option.bind_some, if_pos hsn]
          unfold j_X7_read_70 j_X7_read_71
          rw [if_neg (by decide)]
          simp only [zbd, nIadd]
        · cases hl
          exact ⟨hS6, by rw [hl6]; exact h745⟩
      · have hx := htx _ (List.mem_of_getElem? (ztp_get hn (show p.2 < n by omega)))
        have hsn : zsn tp n p.2 = nI (tp.getD p.2 0) := by unfold zsn; rw [if_pos (by omega)]
        obtain ⟨M6, e1, e2, e3⟩ := cExpect (w := 59) hT5 hn hl (by omega)
        have f6 : zFr (fun k j => (k = 1 ∧ 2 ≤ j) ∨ (7 ≤ k ∧ k ≤ 11)) M M6 := f5.trans (e3.weak (fun k j hh => by omega))
        have hS7 : zSC M6 (l0 ++ [p.1]) := fun j q hq => by
          rw [(e3 _ _ (by omega)).1, (e3 _ _ (by omega)).1, (e3 _ _ (by omega)).1, (e3 _ _ (by omega)).1]; exact hS6 j q hq
        have h746 : M6.1 7 4 = nI (i + 1) := by rw [(e3 _ _ (by omega)).1]; exact h745
        have hb2 : b_X7_read_9 true (nI i) M = if M6.1 1 2 = 0 then some (.inl (true, nI (i + 1), M6)) else some (.inl (false, nI (i + 1), M6)) := by
          rw [hb, if_pos hT5.1, cSgn hT5 hn hl (by omega), Option.bind_some, hsn, ifm1 (by omega)]
          unfold j_X7_read_71 j_X7_read_94
          rw [if_pos rfl, e1, Option.bind_some]
          simp only [zbd, nIadd]
        rw [if_neg h1]
        rw [hsn] at e2
        by_cases h2 : tp.getD p.2 0 = 59
        · rw [if_pos h2]
          rw [if_pos (by rw [h2]), if_pos (by rw [h2])] at e2
          rw [if_pos e2.1] at hb2
          obtain ⟨r, M', r1, r2, r3, r4⟩ := ih (i + 1) (p.2 + 1) M6 (l0 ++ [p.1]) (by omega) hl6 (by omega) e2 hS7 h746
          have hst : zlp (fun s : (Bool × Int32 × zzMem) => b_X7_read_9 s.1 s.2.1 s.2.2) (true, nI i, M) = some (r, M') := by rw [← r1]; exact zlp_step hb2
          refine ⟨r, M', hst, f6.trans r2, ?_, fun l hl => ?_⟩
          · rw [r3]
            cases zwk tp n f (p.2 + 1) with
            | inl g => rfl
            | inr l => rfl
          · cases hy : zwk tp n f (p.2 + 1) with
            | inl g => rw [hy] at hl; cases hl
            | inr l1 =>
              rw [hy] at hl
              cases hl
              have := r4 l1 hy
              rw [List.append_assoc] at this
              exact this
        · rw [if_neg h2]
          have hne : ¬ nI (tp.getD p.2 0) = nI 59 := fun hh => h2 ((nI_eq (by omega) (by omega)).mp hh)
          rw [if_neg hne, if_neg hne, zff_0] at e2
          have hf : M6.1 1 2 = zfc 1 p.2 := e2.1
          rw [if_neg (by rw [hf]; exact zfc_ne (by omega) (by omega) (by omega))] at hb2
          refine ⟨zfc 1 p.2, M6, ?_, f6, rfl, fun l hl => by cases hl⟩
          rw [← hf, ← hend (i + 1) M6]
          exact zlp_step hb2
end MW
