/-! ===== work as a text: a step ===== -/
theorem zchain {α : Type} (r : Int32) (X Y : α) : (if r = nI 112 then X else if r = nI 100 then X else if r = nI 103 then X else if r = nI 115 then X else if r = nI 106 then X else if r = nI 110 then X else if r = nI 120 then X else if r = nI 121 then X else Y) = if f_X7_isLetter r = true then X else Y := by
  by_cases h112 : r = nI 112
  · rw [if_pos h112, if_pos (by rw [h112]; decide)]
  rw [if_neg h112]
  by_cases h100 : r = nI 100
  · rw [if_pos h100, if_pos (by rw [h100]; decide)]
  rw [if_neg h100]
  by_cases h103 : r = nI 103
  · rw [if_pos h103, if_pos (by rw [h103]; decide)]
  rw [if_neg h103]
  by_cases h115 : r = nI 115
  · rw [if_pos h115, if_pos (by rw [h115]; decide)]
  rw [if_neg h115]
  by_cases h106 : r = nI 106
  · rw [if_pos h106, if_pos (by rw [h106]; decide)]
  rw [if_neg h106]
  by_cases h110 : r = nI 110
  · rw [if_pos h110, if_pos (by rw [h110]; decide)]
  rw [if_neg h110]
  by_cases h120 : r = nI 120
  · rw [if_pos h120, if_pos (by rw [h120]; decide)]
  rw [if_neg h120]
  by_cases h121 : r = nI 121
  · rw [if_pos h121, if_pos (by rw [h121]; decide)]
  rw [if_neg h121]
  have hf : f_X7_isLetter r = false := by
    unfold f_X7_isLetter
    rw [if_neg h100, if_neg h103, if_neg h106, if_neg h110, if_neg h112, if_neg h115, if_neg h120, if_neg h121]
  rw [hf, if_neg (by decide)]
def zltr (c : Nat) : Bool := decide (c = 100) || (decide (c = 103) || (decide (c = 106) || (decide (c = 110) || (decide (c = 112) || (decide (c = 115) || (decide (c = 120) || decide (c = 121)))))))
theorem zltr_is : ∀ c, c < 256 → f_X7_isLetter (nI c) = zltr c := by decide +kernel
theorem zltr_c {c : Nat} (h : zltr c = true) : c = 100 ∨ c = 103 ∨ c = 106 ∨ c = 110 ∨ c = 112 ∨ c = 115 ∨ c = 120 ∨ c = 121 := by
  unfold zltr at h
  simp only [Bool.or_eq_true, decide_eq_true_eq] at h
  exact h
/-- a comma and a number -/
def znx (tp : List Nat) (n lo hi a : Nat) : Int32 ⊕ (Nat × Nat) := if zsn tp n a = nI 44 then znm tp n lo hi (a + 1) else .inl (zfc 1 a)
def zsb {α β : Type} (r : Int32 ⊕ α) (f : α → Int32 ⊕ β) : Int32 ⊕ β := match r with
  | .inl g => .inl g
  | .inr p => f p
theorem zsb_l {α β : Type} {g : Int32} {f : α → Int32 ⊕ β} : zsb (.inl g) f = .inl g := rfl
theorem zsb_r {α β : Type} {p : α} {f : α → Int32 ⊕ β} : zsb (.inr p) f = f p := rfl
def zst3 (tp : List Nat) (n c : Nat) (p : Nat × Nat) : Int32 ⊕ ((Nat × Nat × Nat × Nat) × Nat) :=
  if c = 112 then zsb (znx tp n 0 255 p.2) (fun q => .inr ((c, p.1, q.1, 0), q.2)) else if c = 110 then zsb (znx tp n 1 60 p.2) (fun q => zsb (znx tp n 0 9999 q.2) (fun s => .inr ((c, p.1, q.1, s.1), s.2))) else .inr ((c, p.1, 0, 0), p.2)
def zst2 (tp : List Nat) (n c a : Nat) : Int32 ⊕ ((Nat × Nat × Nat × Nat) × Nat) :=
  if c = 115 ∨ c = 106 then .inr ((c, 0, 0, 0), a) else zsb (znm tp n (if c = 120 ∨ c = 121 then 1 else 0) (if c = 120 ∨ c = 121 then 60 else 65535) a) (zst3 tp n c)
def zstp (tp : List Nat) (n a : Nat) : Int32 ⊕ ((Nat × Nat × Nat × Nat) × Nat) :=
  if a < n ∧ zltr (tp.getD a 0) = true then zst2 tp n (tp.getD a 0) (a + 1) else .inl (zfc 1 a)
/-- what stands in the rows of a step -/
def zS1 (L F S T : Int32) (q : Nat × Nat × Nat × Nat) : Prop := L = nI q.1 ∧ (q.1 ≠ 115 → q.1 ≠ 106 → F = nI q.2.1) ∧ (q.1 = 112 ∨ q.1 = 110 → S = nI q.2.2.1) ∧ (q.1 = 110 → T = nI q.2.2.2)
/-- a step that can be -/
def zSv (q : Nat × Nat × Nat × Nat) : Prop := zltr q.1 = true ∧ q.2.1 < 65536 ∧ (q.1 = 120 ∨ q.1 = 121 → q.2.1 ≤ 60) ∧ (q.1 = 112 → q.2.2.1 < 256) ∧ (q.1 = 110 → q.2.2.1 ≤ 60) ∧ q.2.2.2 ≤ 9999
def zgs {α : Type} (r : Int32 ⊕ α) : Int32 := match r with
  | .inl g => g
  | .inr _ => 0
theorem zff_0 (g : Int32) : zff 0 g = g := if_pos rfl
theorem zff_r0 (f : Int32) : zff f 0 = f := by
  unfold zff
  by_cases h : f = 0
  · rw [if_pos h, h]
  · rw [if_neg h]
theorem zff_ne {f g : Int32} (h : f ≠ 0) : zff f g = f := if_neg h
theorem znx_l {tp : List Nat} {n lo hi a : Nat} {g : Int32} (ha : a ≤ 890) (h : znx tp n lo hi a = .inl g) : g ≠ 0 := by
  unfold znx at h
  split at h
  · exact znm_l (by omega) h
  · rw [← Sum.inl.inj h]; exact zfc_ne (by omega) (by omega) (by omega)
theorem znx_r {tp : List Nat} {n lo hi a v b : Nat} (h : znx tp n lo hi a = .inr (v, b)) : lo ≤ v ∧ v ≤ hi ∧ a + 1 < b ∧ b ≤ n := by
  unfold znx at h
  split at h
  · obtain ⟨h1, h2, h3, h4, h5⟩ := znm_r h
    exact ⟨h1, h2, h3, h4⟩
  · cases h
theorem zst2_ok {tp : List Nat} {n c a : Nat} (hc : zltr c = true) (ha : a ≤ n) (hn : n ≤ 320) : (∀ g, zst2 tp n c a = .inl g → g ≠ 0) ∧ ∀ q b, zst2 tp n c a = .inr (q, b) → zSv q ∧ a ≤ b ∧ b ≤ n ∧ q.1 = c := by
  unfold zst2
  by_cases h1 : c = 115 ∨ c = 106
  · rw [if_pos h1]
    refine ⟨fun g hg => (by cases hg), fun q b hq => ?_⟩
    cases hq
    exact ⟨⟨hc, by show 0 < 65536; decide, fun h => by show 0 ≤ 60; decide, fun h => by show 0 < 256; decide, fun h => by show 0 ≤ 60; decide, by show 0 ≤ 9999; decide⟩, by omega, ha, rfl⟩
  · rw [if_neg h1]
    cases hz : znm tp n (if c = 120 ∨ c = 121 then 1 else 0) (if c = 120 ∨ c = 121 then 60 else 65535) a with
    | inl g => exact ⟨fun g' hg => by rw [← Sum.inl.inj hg]; exact znm_l (by omega) hz, fun q b hq => by cases hq⟩
    | inr p =>
      obtain ⟨p1, p2, p3, p4, p5⟩ := znm_r (v := p.1) (b := p.2) hz
      have hpv : p.1 < 65536 ∧ (c = 120 ∨ c = 121 → p.1 ≤ 60) := by
        by_cases hx : c = 120 ∨ c = 121
        · rw [if_pos hx] at p2; exact ⟨by omega, fun _ => p2⟩
        · rw [if_neg hx] at p2; exact ⟨by omega, fun h => absurd h hx⟩
      rw [zsb_r]
      unfold zst3
      by_cases h2 : c = 112
      · rw [if_pos h2]
        cases hy : znx tp n 0 255 p.2 with
        | inl g => exact ⟨fun g' hg => by rw [← Sum.inl.inj hg]; exact znx_l (by omega) hy, fun q b hq => by cases hq⟩
        | inr w =>
          obtain ⟨w1, w2, w3, w4⟩ := znx_r (v := w.1) (b := w.2) hy
          refine ⟨fun g hg => (by cases hg), fun q b hq => ?_⟩
          cases hq
          exact ⟨⟨hc, hpv.1, hpv.2, fun _ => by show w.1 < 256; omega, fun h => by omega, by show 0 ≤ 9999; decide⟩, by omega, w4, rfl⟩
      · rw [if_neg h2]
        by_cases h3 : c = 110
        · rw [if_pos h3]
          cases hy : znx tp n 1 60 p.2 with
          | inl g => exact ⟨fun g' hg => by rw [← Sum.inl.inj hg]; exact znx_l (by omega) hy, fun q b hq => by cases hq⟩
          | inr w =>
            obtain ⟨w1, w2, w3, w4⟩ := znx_r (v := w.1) (b := w.2) hy
            rw [zsb_r]
            cases hu : znx tp n 0 9999 w.2 with
            | inl g => exact ⟨fun g' hg => by rw [← Sum.inl.inj hg]; exact znx_l (by omega) hu, fun q b hq => by cases hq⟩
            | inr s =>
              obtain ⟨s1, s2, s3, s4⟩ := znx_r (v := s.1) (b := s.2) hu
              refine ⟨fun g hg => (by cases hg), fun q b hq => ?_⟩
              cases hq
              exact ⟨⟨hc, hpv.1, hpv.2, fun h => absurd h h2, fun _ => w2, s2⟩, by omega, s4, rfl⟩
        · rw [if_neg h3]
          refine ⟨fun g hg => (by cases hg), fun q b hq => ?_⟩
          cases hq
          exact ⟨⟨hc, hpv.1, hpv.2, fun h => absurd h h2, fun h => absurd h h3, by show 0 ≤ 9999; decide⟩, by omega, p4, rfl⟩
theorem zstp_ok {tp : List Nat} {n a : Nat} (hn : n ≤ 320) (ha : a ≤ n) : (∀ g, zstp tp n a = .inl g → g ≠ 0) ∧ ∀ q b, zstp tp n a = .inr (q, b) → zSv q ∧ a < b ∧ b ≤ n := by
  unfold zstp
  by_cases h : a < n ∧ zltr (tp.getD a 0) = true
  · rw [if_pos h]
    obtain ⟨h1, h2⟩ := zst2_ok (tp := tp) (n := n) (a := a + 1) h.2 (by omega) hn
    exact ⟨h1, fun q b hq => by obtain ⟨e1, e2, e3, e4⟩ := h2 q b hq; exact ⟨e1, by omega, e3⟩⟩
  · rw [if_neg h]
    exact ⟨fun g hg => by rw [← Sum.inl.inj hg]; exact zfc_ne (by omega) (by omega) (by omega), fun q b hq => by cases hq⟩
section WK
variable {M : zzMem} {tp : List Nat} {n a : Nat}
theorem cExpect {f : Int32} {w : Nat} (hT : zTS M tp n a f) (hn : n ≤ tp.length) (hl : tp.length ≤ 320) (ha : a ≤ 1000) : ∃ M', f_X8_expect (nI w) M = some M' ∧ zTS M' tp n (if zsn tp n a = nI w then a + 1 else a) (if zsn tp n a = nI w then f else zff f (zfc 1 a)) ∧ zFr (fun k i => k = 1 ∧ 2 ≤ i) M M' := by
  unfold f_X8_expect
  rw [cSgn hT hn hl ha, Option.bind_some]
  simp only [zbd]
  by_cases h : zsn tp n a = nI w
  · obtain ⟨p1, p2⟩ := cPass hT
    rw [if_pos h, if_pos h, if_pos h]
    exact ⟨_, rfl, p1, p2.weak (fun k i h => by omega)⟩
  · obtain ⟨p1, p2⟩ := cFailH (k := 1) hT
    rw [if_neg h, if_neg h, if_neg h]
    exact ⟨_, rfl, p1, p2.weak (fun k i h => by omega)⟩
/-- a comma, then a number, whatever the reader's fault is -/
theorem cNx {f : Int32} {lo hi : Nat} (hT : zTS M tp n a f) (htx : ∀ x ∈ tp, x < 256) (hn : n ≤ tp.length) (hl : tp.length ≤ 320) (ha : a ≤ 890) (hlo : lo < 2147483648) (hhi : hi < 2147483648) : ∃ M1 r M' a', f_X8_expect (nI 44) M = some M1 ∧ f_X8_number (nI lo) (nI hi) M1 = some (r, M') ∧ zTS M' tp n a' (zff f (zgl (znx tp n lo hi a))) ∧ a' ≤ a + 6 ∧ zFr (fun k i => k = 1 ∧ 2 ≤ i) M M' ∧ ∀ v b, znx tp n lo hi a = .inr (v, b) → r = nI v ∧ a' = b := by
  obtain ⟨M1, e1, e2, e3⟩ := cExpect (w := 44) hT hn hl (by omega)
  by_cases h : zsn tp n a = nI 44
  · rw [if_pos h, if_pos h] at e2
    obtain ⟨r, M', a', g1, g2, g3, g4, g5, g6⟩ := cNumber (lo := lo) (hi := hi) e2 htx hn hl (by omega) hlo hhi
    have hz : znx tp n lo hi a = znm tp n lo hi (a + 1) := by unfold znx; rw [if_pos h]
    exact ⟨M1, r, M', a', e1, g1, by rw [hz]; exact g2, by omega, e3.trans g5, by rw [hz]; exact g6⟩
  · rw [if_neg h, if_neg h] at e2
    obtain ⟨r, M', a', g1, g2, g3, g4, g5, g6⟩ := cNumber (lo := lo) (hi := hi) e2 htx hn hl (by omega) hlo hhi
    have hz : znx tp n lo hi a = .inl (zfc 1 a) := by unfold znx; rw [if_neg h]
    have hne : zff f (zfc 1 a) ≠ 0 := by
      unfold zff
      by_cases hf : f = 0
      · rw [if_pos hf]; exact zfc_ne (by omega) (by omega) (by omega)
      · rw [if_neg hf]; exact hf
    rw [zff_ne hne] at g2
    exact ⟨M1, r, M', a', e1, g1, by rw [hz]; exact g2, by omega, e3.trans g5, fun v b hh => by rw [hz] at hh; cases hh⟩
theorem zTS.w8 {f : Int32} {k i : Nat} {v : Int32} (hk : 8 ≤ k) (h : zTS M tp n a f) : zTS (zz_si M k i v) tp n a f :=
  h.frS (S := fun b _ => b = k) (zFr.si rfl) (by intro i; omega) (by intro i; omega)
set_option maxHeartbeats 1000000 in
theorem cStep {i : Nat} (hT : zTS M tp n a 0) (htx : ∀ x ∈ tp, x < 256) (hn : n ≤ tp.length) (hl : tp.length ≤ 320) (hi : i < 20) (ha : a ≤ n) : ∃ M' a', f_X7_readStep (nI i) M = some M' ∧ zTS M' tp n a' (zgs (zstp tp n a)) ∧ a' ≤ a + 20 ∧ zFr (fun k j => (k = 1 ∧ 2 ≤ j) ∨ (8 ≤ k ∧ k ≤ 11 ∧ j = i)) M M' ∧ ∀ q b, zstp tp n a = .inr (q, b) → a' = b ∧ zS1 (M'.1 8 i) (M'.1 9 i) (M'.1 10 i) (M'.1 11 i) q := by
  have hT3 : zTS (zz_si M 8 i (zsn tp n a)) tp n a 0 := hT.w8 (by omega)
  have f3 : zFr (fun k j => (k = 1 ∧ 2 ≤ j) ∨ (8 ≤ k ∧ k ≤ 11 ∧ j = i)) M (zz_si M 8 i (zsn tp n a)) := zFr.si (by omega)
  unfold f_X7_readStep
  rw [cSgn hT hn hl (by omega), Option.bind_some]
  simp (disch := omega) only [zgd_in, nIc, zbd, rd_eq]
  by_cases h : a < n ∧ zltr (tp.getD a 0) = true
  · have hx := htx _ (List.mem_of_getElem? (ztp_get hn h.1))
    have hzn : zsn tp n a = nI (tp.getD a 0) := by unfold zsn; rw [if_pos h.1]
    have hzs : zstp tp n a = zst2 tp n (tp.getD a 0) (a + 1) := by unfold zstp; rw [if_pos h]
    rw [hzs, hzn, zltr_is _ hx, h.2, if_pos rfl]
    rw [hzn] at hT3 f3
    obtain ⟨p1, p2⟩ := cPass hT3
    have f5 := f3.trans (p2.weak (fun k j hh => show (k = 1 ∧ 2 ≤ j) ∨ (8 ≤ k ∧ k ≤ 11 ∧ j = i) by omega))
    have h8 : (f_X8_pass (zz_si M 8 i (nI (tp.getD a 0)))).1 8 i = nI (tp.getD a 0) := by rw [(p2 _ _ (by omega)).1, rd_eq]
    generalize f_X8_pass (zz_si M 8 i (nI (tp.getD a 0))) = M5 at p1 f5 h8
    have hc := zltr_c h.2
    generalize tp.getD a 0 = c at h8 hc
    rw [h8]
    -- one number
    have hone : ∀ lo hi, lo < 2147483648 → hi < 2147483648 → ∃ r M9 a', f_X8_number (nI lo) (nI hi) M5 = some (r, M9) ∧ zTS (zz_si M9 9 i r) tp n a' (zgl (znm tp n lo hi (a + 1))) ∧ a' ≤ a + 6 ∧ zFr (fun k j => (k = 1 ∧ 2 ≤ j) ∨ (8 ≤ k ∧ k ≤ 11 ∧ j = i)) M (zz_si M9 9 i r) ∧ (zz_si M9 9 i r).1 8 i = nI c ∧ ∀ v b, znm tp n lo hi (a + 1) = .inr (v, b) → (zz_si M9 9 i r).1 9 i = nI v ∧ a' = b := by
      intro lo hi h1 h2
      obtain ⟨r, M9, a', g1, g2, g3, g4, g5, g6⟩ := cNumber (lo := lo) (hi := hi) p1 htx hn hl (by omega) h1 h2
      rw [zff_0] at g2
      refine ⟨r, M9, a', g1, g2.w8 (by omega), by omega, (f5.trans (g5.weak (fun k j hh => by omega))).trans (zFr.si (by omega)), by rw [rd_ne (by omega), (g5 _ _ (by omega)).1]; exact h8, fun v b hh => ?_⟩
      obtain ⟨q1, q2⟩ := g6 v b hh
      exact ⟨by rw [rd_eq]; exact q1, q2⟩
    have hsimple : ∀ lo hi, lo < 2147483648 → hi < 2147483648 → c ≠ 115 → c ≠ 106 → c ≠ 112 → c ≠ 110 → (if c = 120 ∨ c = 121 then 1 else 0) = lo → (if c = 120 ∨ c = 121 then 60 else 65535) = hi → ∃ M' a', ((f_X8_number (nI lo) (nI hi) M5).bind (fun q7 => zpr q7 (fun r8 M9 => zbd (zz_si M9 9 i r8) (fun M10 => some M10)))) = some M' ∧ zTS M' tp n a' (zgs (zst2 tp n c (a + 1))) ∧ a' ≤ a + 20 ∧ zFr (fun k j => (k = 1 ∧ 2 ≤ j) ∨ (8 ≤ k ∧ k ≤ 11 ∧ j = i)) M M' ∧ ∀ q b, zst2 tp n c (a + 1) = .inr (q, b) → a' = b ∧ zS1 (M'.1 8 i) (M'.1 9 i) (M'.1 10 i) (M'.1 11 i) q := by
      intro lo hi h1 h2 n1 n2 n3 n4 e1 e2
      obtain ⟨r, M9, a', g1, g2, g3, g4, g5, g6⟩ := hone lo hi h1 h2
      have hz2 : zst2 tp n c (a + 1) = zsb (znm tp n lo hi (a + 1)) (fun p => .inr ((c, p.1, 0, 0), p.2)) := by
        unfold zst2
        have h3 : zst3 tp n c = fun p => .inr ((c, p.1, 0, 0), p.2) := by
          funext p
          unfold zst3
          rw [if_neg n3, if_neg n4]
        rw [if_neg (by omega), e1, e2, h3]
      refine ⟨zz_si M9 9 i r, a', by rw [g1]; rfl, ?_, by omega, g4, fun q b hq => ?_⟩
      · rw [hz2]
        cases hz : znm tp n lo hi (a + 1) with
        | inl g => rw [hz] at g2; exact g2
        | inr p => rw [hz] at g2; exact g2
      · rw [hz2] at hq
        cases hz : znm tp n lo hi (a + 1) with
        | inl g => rw [hz] at hq; cases hq
        | inr p =>
          rw [hz] at hq
          cases hq
          obtain ⟨q1, q2⟩ := g6 p.1 p.2 hz
          exact ⟨q2, g5, fun _ _ => q1, fun hh => by omega, fun hh => absurd hh n4⟩
    rcases hc with rfl | rfl | rfl | rfl | rfl | rfl | rfl | rfl
    · rw [ifEq_t rfl]
      exact hsimple 0 65535 (by omega) (by omega) (by omega) (by omega) (by omega) (by omega) rfl rfl
    · rw [ifEq_f (by omega) (by omega) (by omega), ifEq_t rfl]
      exact hsimple 0 65535 (by omega) (by omega) (by omega) (by omega) (by omega) (by omega) rfl rfl
    · simp (disch := omega) only [ifEq_f]
      have hz2 : zst2 tp n 106 (a + 1) = .inr ((106, 0, 0, 0), a + 1) := rfl
      refine ⟨M5, a + 1, rfl, by rw [hz2]; exact p1, by omega, f5, fun q b hq => ?_⟩
      rw [hz2] at hq
      cases hq
      exact ⟨rfl, h8, fun _ hh => absurd rfl hh, fun hh => by omega, fun hh => by omega⟩
    · simp (disch := omega) only [ifEq_f, ifEq_t]
      obtain ⟨r, M9, a1, g1, g2, g3, g4, g5, g6⟩ := hone 0 65535 (by omega) (by omega)
      have hz10 : zst2 tp n 110 (a + 1) = zsb (znm tp n 0 65535 (a + 1)) (fun p => zsb (znx tp n 1 60 p.2) (fun q => zsb (znx tp n 0 9999 q.2) (fun s => .inr ((110, p.1, q.1, s.1), s.2)))) := rfl
      obtain ⟨Ma, r2, Mb, a2, b1, b2, b3, b4, b5, b6⟩ := cNx (lo := 1) (hi := 60) g2 htx hn hl (by omega) (by omega) (by omega)
      have b3' : zTS (zz_si Mb 10 i r2) tp n a2 _ := b3.w8 (k := 10) (i := i) (v := r2) (by omega)
      obtain ⟨Mc, r3, Md, a3, c1, c2, c3, c4, c5, c6⟩ := cNx (lo := 0) (hi := 9999) b3' htx hn hl (by omega) (by omega) (by omega)
      have fb : zFr (fun k j => (k = 1 ∧ 2 ≤ j) ∨ (8 ≤ k ∧ k ≤ 11 ∧ j = i)) (zz_si M9 9 i r) (zz_si Mb 10 i r2) := (b5.weak (fun k j hh => by omega)).trans (zFr.si (by omega))
      have fd : zFr (fun k j => (k = 1 ∧ 2 ≤ j) ∨ (8 ≤ k ∧ k ≤ 11 ∧ j = i)) (zz_si Mb 10 i r2) (zz_si Md 11 i r3) := (c5.weak (fun k j hh => by omega)).trans (zFr.si (by omega))
      refine ⟨zz_si Md 11 i r3, a3, ?_, ?_, by omega, (g4.trans fb).trans fd, fun q b hq => ?_⟩
      · rw [g1]
        simp only [Option.bind_some, zpr, zbd]
        rw [b1, Option.bind_some, b2]
        simp only [Option.bind_some, zpr]
        rw [c1, Option.bind_some, c2]
        rfl
      · have h11 : zTS (zz_si Md 11 i r3) tp n a3 _ := c3.w8 (k := 11) (i := i) (v := r3) (by omega)
        rw [hz10]
        cases hz : znm tp n 0 65535 (a + 1) with
        | inl g =>
          have hg := znm_l (by omega) hz
          rw [hz] at h11
          have e : zff (zff (zgl (.inl g)) (zgl (znx tp n 1 60 a1))) (zgl (znx tp n 0 9999 a2)) = g := by
            show zff (zff g _) _ = g
            rw [zff_ne hg, zff_ne hg]
          rw [e] at h11
          exact h11
        | inr p =>
          obtain ⟨-, rfl⟩ := g6 p.1 p.2 hz
          rw [hz] at h11
          have e0 : zff (zgl (.inr p)) (zgl (znx tp n 1 60 p.2)) = zgl (znx tp n 1 60 p.2) := zff_0 _
          rw [e0] at h11
          rw [zsb_r]
          cases hy : znx tp n 1 60 p.2 with
          | inl g =>
            have hpl := (znm_r (v := p.1) (b := p.2) hz).2.2.2.1
            have hg := znx_l (by omega) hy
            rw [hy] at h11
            have e : zff (zgl (.inl g)) (zgl (znx tp n 0 9999 a2)) = g := by
              show zff g _ = g
              rw [zff_ne hg]
            rw [e] at h11
            exact h11
          | inr w =>
            obtain ⟨-, rfl⟩ := b6 w.1 w.2 hy
            rw [hy] at h11
            have e1 : zff (zgl (.inr w)) (zgl (znx tp n 0 9999 w.2)) = zgl (znx tp n 0 9999 w.2) := zff_0 _
            rw [e1] at h11
            rw [zsb_r]
            cases hu : znx tp n 0 9999 w.2 with
            | inl g => rw [hu] at h11; exact h11
            | inr s => rw [hu] at h11; exact h11
      · rw [hz10] at hq
        cases hz : znm tp n 0 65535 (a + 1) with
        | inl g => rw [hz] at hq; cases hq
        | inr p =>
          rw [hz, zsb_r] at hq
          obtain ⟨q1, rfl⟩ := g6 p.1 p.2 hz
          cases hy : znx tp n 1 60 p.2 with
          | inl g => rw [hy] at hq; cases hq
          | inr w =>
            rw [hy, zsb_r] at hq
            obtain ⟨q2, rfl⟩ := b6 w.1 w.2 hy
            cases hu : znx tp n 0 9999 w.2 with
            | inl g => rw [hu] at hq; cases hq
            | inr s =>
              rw [hu] at hq
              cases hq
              obtain ⟨q3, q4⟩ := c6 s.1 s.2 hu
              refine ⟨q4, ?_, fun _ _ => ?_, fun _ => ?_, fun _ => ?_⟩
              · rw [rd_ne (by omega), (c5 _ _ (by omega)).1, rd_ne (by omega), (b5 _ _ (by omega)).1]; exact g5
              · rw [rd_ne (by omega), (c5 _ _ (by omega)).1, rd_ne (by omega), (b5 _ _ (by omega)).1]; exact q1
              · rw [rd_ne (by omega), (c5 _ _ (by omega)).1, rd_eq]; exact q2
              · rw [rd_eq]; exact q3
    · simp (disch := omega) only [ifEq_f, ifEq_t]
      obtain ⟨r, M9, a1, g1, g2, g3, g4, g5, g6⟩ := hone 0 65535 (by omega) (by omega)
      have hz12 : zst2 tp n 112 (a + 1) = zsb (znm tp n 0 65535 (a + 1)) (fun p => zsb (znx tp n 0 255 p.2) (fun q => .inr ((112, p.1, q.1, 0), q.2))) := rfl
      obtain ⟨Ma, r2, Mb, a2, b1, b2, b3, b4, b5, b6⟩ := cNx (lo := 0) (hi := 255) g2 htx hn hl (by omega) (by omega) (by omega)
      have b3' : zTS (zz_si Mb 10 i r2) tp n a2 _ := b3.w8 (k := 10) (i := i) (v := r2) (by omega)
      have fb : zFr (fun k j => (k = 1 ∧ 2 ≤ j) ∨ (8 ≤ k ∧ k ≤ 11 ∧ j = i)) (zz_si M9 9 i r) (zz_si Mb 10 i r2) := (b5.weak (fun k j hh => by omega)).trans (zFr.si (by omega))
      refine ⟨zz_si Mb 10 i r2, a2, ?_, ?_, by omega, g4.trans fb, fun q b hq => ?_⟩
      · rw [g1]
        simp only [Option.bind_some, zpr, zbd]
        rw [b1, Option.bind_some, b2]
        rfl
      · rw [hz12]
        cases hz : znm tp n 0 65535 (a + 1) with
        | inl g =>
          have hg := znm_l (by omega) hz
          rw [hz] at b3'
          have e : zff (zgl (.inl g)) (zgl (znx tp n 0 255 a1)) = g := by
            show zff g _ = g
            rw [zff_ne hg]
          rw [e] at b3'
          exact b3'
        | inr p =>
          obtain ⟨-, rfl⟩ := g6 p.1 p.2 hz
          rw [hz] at b3'
          have e0 : zff (zgl (.inr p)) (zgl (znx tp n 0 255 p.2)) = zgl (znx tp n 0 255 p.2) := zff_0 _
          rw [e0] at b3'
          rw [zsb_r]
          cases hy : znx tp n 0 255 p.2 with
          | inl g => rw [hy] at b3'; exact b3'
          | inr w => rw [hy] at b3'; exact b3'
      · rw [hz12] at hq
        cases hz : znm tp n 0 65535 (a + 1) with
        | inl g => rw [hz] at hq; cases hq
        | inr p =>
          rw [hz, zsb_r] at hq
          obtain ⟨q1, rfl⟩ := g6 p.1 p.2 hz
          cases hy : znx tp n 0 255 p.2 with
          | inl g => rw [hy] at hq; cases hq
          | inr w =>
            rw [hy] at hq
            cases hq
            obtain ⟨q2, q3⟩ := b6 w.1 w.2 hy
            refine ⟨q3, ?_, fun _ _ => ?_, fun _ => ?_, fun hh => by omega⟩
            · rw [rd_ne (by omega), (b5 _ _ (by omega)).1]; exact g5
            · rw [rd_ne (by omega), (b5 _ _ (by omega)).1]; exact q1
            · rw [rd_eq]; exact q2
    · simp (disch := omega) only [ifEq_f]
      have hz2 : zst2 tp n 115 (a + 1) = .inr ((115, 0, 0, 0), a + 1) := rfl
      refine ⟨M5, a + 1, rfl, by rw [hz2]; exact p1, by omega, f5, fun q b hq => ?_⟩
      rw [hz2] at hq
      cases hq
      exact ⟨rfl, h8, fun hh => absurd rfl hh, fun hh => by omega, fun hh => by omega⟩
    · simp (disch := omega) only [ifEq_f, ifEq_t]
      exact hsimple 1 60 (by omega) (by omega) (by omega) (by omega) (by omega) (by omega) rfl rfl
    · simp (disch := omega) only [ifEq_f, ifEq_t]
      exact hsimple 1 60 (by omega) (by omega) (by omega) (by omega) (by omega) (by omega) rfl rfl
  · have hzs : zstp tp n a = .inl (zfc 1 a) := by unfold zstp; rw [if_neg h]
    have hnl : f_X7_isLetter (zsn tp n a) = false := by
      unfold zsn
      by_cases h1 : a < n
      · have hx := htx _ (List.mem_of_getElem? (ztp_get hn h1))
        rw [if_pos h1, zltr_is _ hx]
        cases hz : zltr (tp.getD a 0) with
        | true => exact absurd ⟨h1, hz⟩ h
        | false => rfl
      · rw [if_neg h1]; decide
    rw [hnl, if_neg (by decide)]
    obtain ⟨q1, q2⟩ := cFailH (k := 1) hT3
    refine ⟨_, a, rfl, ?_, by omega, f3.trans (q2.weak (fun k j hh => by omega)), fun q b hq => by rw [hzs] at hq; cases hq⟩
    rw [hzs]
    rw [zff_0] at q1
    exact q1
end WK
