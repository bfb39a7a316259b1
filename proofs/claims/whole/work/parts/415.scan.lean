/-! ===== scans: begun and ended ===== -/
theorem rd_ne {M : zzMem} {k i a b : Nat} {v : Int32} (h : ¬ (a = k ∧ b = i)) : (zz_si M k i v).1 a b = M.1 a b := by rw [rd_si, if_neg h]
theorem rd_eq {M : zzMem} {k i : Nat} {v : Int32} : (zz_si M k i v).1 k i = v := by rw [rd_si, if_pos ⟨rfl, rfl⟩]
theorem hasB : ∀ w, w < 16 → ∀ s, s < 4 → f_X10_has (nI w) (nI s) = w.testBit s := by decide +kernel
theorem orB : ∀ w, w < 16 → ∀ s, s < 4 → nI w ||| (nI 1 <<< (nI s &&& 31)) = nI (w ||| 2 ^ s) ∧ w ||| 2 ^ s < 16 ∧ ∀ u, u < 4 → (w ||| 2 ^ s).testBit u = (w.testBit u || decide (u = s)) := by decide +kernel
theorem anB : ∀ w, w < 16 → ∀ s, s < 4 → nI w &&& ((nI 1 <<< (nI s &&& 31)) ^^^ (-1 : Int32)) = nI (w &&& (15 ^^^ 2 ^ s)) ∧ w &&& (15 ^^^ 2 ^ s) < 16 ∧ ∀ u, u < 4 → (w &&& (15 ^^^ 2 ^ s)).testBit u = (w.testBit u && !decide (u = s)) := by decide +kernel
/-- the scans of a value changed at one place -/
def zscs (f : Nat → Option (Nat × Int32)) (s : Nat) (x : Option (Nat × Int32)) : Nat → Option (Nat × Int32) := fun u => if u = s then x else f u
/-- behind a change of the scans alone -/
theorem zIv_sc {N : Nat} {M M' : zzMem} {tp : List Nat} {A : zzA} {g : Nat → Option (Nat × Int32)} (h1 : zTp M tp) (h2 : zWF N A) (h3 : zRC M 12 A) (h4 : zRM M 0 N A) (h5 : zKp N M)
    (hf : zFr (fun a b => a = 30 ∨ a = 31 ∨ (a = 74 ∧ 14 ≤ b ∧ b < 23)) M M') (hg : ∀ s, s < 4 → ∀ q, g s = some q → q.1 ≤ N + 1 ∧ (q.2 = (-1 : Int32) ∨ ∃ k, k < 65536 ∧ q.2 = nI k)) (hc : zSn M' 29 g) (hm : zMs M' 0 g) : zIv (N + 1) M' := by
  have hm3 : (zA_S A).length ≤ 300 := h2.2.2.2.2.2.2.2.2.1.1
  have hl : (zA_law A).length ≤ 60 := h2.1.2.2.2.2.2.2.2.2.2.2.2.2
  refine ⟨tp, (A.1, A.2.1, A.2.2.1, A.2.2.2.1, A.2.2.2.2.1, A.2.2.2.2.2.1, A.2.2.2.2.2.2.1, A.2.2.2.2.2.2.2.1, g), h1.frS hf (by simp) (by simp) (by simp) (by simp), ?_, ?_, ?_, ?_⟩
  · obtain ⟨a1, a2, a3, a4, a5, a6, a7, a8, a9, -⟩ := h2
    exact ⟨a1, a2, a3, a4, a5, a6, a7, a8, a9, hg⟩
  · obtain ⟨c1, c2, c3, c4, c5⟩ := h3
    exact ⟨c1.frS hf (by simp) (by simp), c2.frS hf (by simp) (by simp), c3.frS hf (by intro k i; simp; omega), c4.frS hf (by simp) (by simp), hc⟩
  · obtain ⟨g1, g2, ⟨cm, xs, ke, ve, be, se, hcm, e⟩, g4, g5⟩ := h4.up
    exact ⟨g1.frS hf (by intro i hi; simp; omega), g2.frS hl hf (by intro i hi; simp; omega), ⟨cm, xs, ke, ve, be, se, hcm, e.frS hm3 hf (by intro i hi; simp; omega)⟩, g4.frS h2.2.2.2.2.2.1 hf (by intro i hi; simp; omega), hm⟩
  · exact zKp.frS hf (by simp) (by simp) (by intro k i; simp; omega) (by intro i; simp; omega) h5
/-- the lowest that is closed, or 4 -/
def zlow (f : Nat → Option (Nat × Int32)) : Nat := if f 0 = none then 0 else if f 1 = none then 1 else if f 2 = none then 2 else if f 3 = none then 3 else 4
theorem zlow_le (f : Nat → Option (Nat × Int32)) : zlow f ≤ 4 := by unfold zlow; repeat (split <;> try omega)
theorem zlow_at (f : Nat → Option (Nat × Int32)) (h : zlow f < 4) : f (zlow f) = none := by
  unfold zlow at h ⊢
  by_cases h0 : f 0 = none
  · simp [h0]
  · by_cases h1 : f 1 = none
    · simp [h0, h1]
    · by_cases h2 : f 2 = none
      · simp [h0, h1, h2]
      · by_cases h3 : f 3 = none
        · simp [h0, h1, h2, h3]
        · simp [h0, h1, h2, h3] at h
theorem zlow_below (f : Nat → Option (Nat × Int32)) {u : Nat} (h : u < zlow f) : f u ≠ none := by
  have h4 := zlow_le f
  have hu4 : u < 4 := by omega
  intro hu
  unfold zlow at h
  rcases (show u = 0 ∨ u = 1 ∨ u = 2 ∨ u = 3 by omega) with rfl | rfl | rfl | rfl
  · simp [hu] at h
  · by_cases h0 : f 0 = none <;> simp [hu, h0] at h
  · by_cases h0 : f 0 = none <;> by_cases h1 : f 1 = none <;> simp [hu, h0, h1] at h
  · by_cases h0 : f 0 = none <;> by_cases h1 : f 1 = none <;> by_cases h2 : f 2 = none <;> simp [hu, h0, h1, h2] at h
theorem cLow {N o : Nat} {M : zzMem} {f : Nat → Option (Nat × Int32)} (hN : N ≤ 600) (hq : ∀ s, s < 4 → ∀ q, f s = some q → q.1 ≤ N) (h : zSn M o f) : f_X6_lowestClosed o M = some (if zlow f = 4 then (-1 : Int32) else nI (zlow f)) := by
  unfold f_X6_lowestClosed j_X6_lowestClosed_2
  have h4 := zlow_le f
  refine zlp_for (fun i => nI i) (zlow f) _ (fun i hi => ?_) ?_ 0 (by omega)
  · unfold b_X6_lowestClosed_2
    have hne := zlow_below f hi
    obtain ⟨q, hq1⟩ := Option.ne_none_iff_exists'.mp hne
    have hv := ((h i (by omega)).2 q hq1).1
    have hb := hq i (by omega) q hq1
    simp (disch := omega) only [ifLe_f, zgd_in, nIc, hv, ifm1, zbd, nIadd]
  · unfold b_X6_lowestClosed_2
    by_cases h44 : zlow f = 4
    · rw [h44]
      simp (disch := omega) only [ifLe_t, reduceIte]
    · have hv := (h (zlow f) (by omega)).1 (zlow_at f (by omega))
      simp (disch := omega) only [ifLe_f, zgd_in, nIc, hv, reduceIte, if_neg h44]
theorem op_scan (N : Nat) : zSame N f_X9_scan f_X10_scan := by
  intro hN M hI
  obtain ⟨tp, A, h1, h2, h3, h4, h5⟩ := id hI
  have hq : ∀ s, s < 4 → ∀ q, zA_sc A s = some q → q.1 ≤ N := fun s hs q h => (h2.2.2.2.2.2.2.2.2.2 s hs q h).1
  have hS := h3.2.2.2.2
  obtain ⟨w, w1, w2, w3⟩ := h4.2.2.2.2
  simp only [Nat.zero_add] at w2 w3
  have hl4 := zlow_le (zA_sc A)
  have hlow := cLow hN hq hS
  have hskip : ∀ (M : zzMem), M.1 74 14 = nI w → ∀ i, i < zlow (zA_sc A) → b_X10_scan_2 (nI i) M = some (.inl (nI (i + 1))) := by
    intro M w2 i hi
    unfold b_X10_scan_2
    have hne := zlow_below _ hi
    obtain ⟨q, hq1⟩ := Option.ne_none_iff_exists'.mp hne
    have hb := ((w3 i (by omega)).2 q hq1).1
    simp (disch := omega) only [ifLe_f, w2, hasB w w1 i (by omega), hb, reduceIte, zbd, nIadd]
  by_cases h44 : zlow (zA_sc A) = 4
  · refine ⟨(-3 : Int32), M, M, ?_, ?_, hI.up⟩
    · unfold f_X9_scan
      simp only [hlow, h44, reduceIte, Option.bind_some]
    · unfold f_X10_scan j_X10_scan_2
      refine zlp_for (B := fun s : Int32 => b_X10_scan_2 s M) (fun i => nI i) 4 _ (fun i hi => hskip M w2 i (by omega)) ?_ 0 (by omega)
      unfold b_X10_scan_2
      simp (disch := omega) only [ifLe_t]
  · have hlt : zlow (zA_sc A) < 4 := by omega
    generalize hs : zlow (zA_sc A) = s at hlow hskip hlt h44
    have hnone : zA_sc A s = none := by rw [← hs]; exact zlow_at _ (by omega)
    have hwf := (w3 s hlt).1 hnone
    obtain ⟨o1, o2, o3⟩ := orB w w1 s hlt
    refine ⟨nI s, zz_si (zz_si M 30 s (nI 0)) 31 s (-1 : Int32), zz_si (zz_si (zz_si (zz_si (zz_si M 30 s (nI 0)) 31 s (-1 : Int32)) 74 14 (nI (w ||| 2 ^ s))) 74 (15 + s) (-1 : Int32)) 74 (19 + s) (nI 0), ?_, ?_, ?_⟩
    · unfold f_X9_scan f_X6_begin
      simp (disch := omega) only [hlow, if_neg h44, Option.bind_some, ifm1, zgd_in, nIc, zbd]
    · unfold f_X10_scan j_X10_scan_2
      have w2' : (zz_si (zz_si M 30 s (nI 0)) 31 s (-1 : Int32)).1 74 14 = nI w := by rw [rd_si, rd_si]; simpa using w2
      refine zlp_for (B := fun x : Int32 => b_X10_scan_2 x (zz_si (zz_si M 30 s (nI 0)) 31 s (-1 : Int32))) (fun i => nI i) s _ (fun i hi => hskip _ w2' i hi) ?_ 0 (by omega)
      unfold b_X10_scan_2
      simp (disch := omega) only [ifLe_f, w2', hasB w w1 s hlt, hwf, Bool.false_eq_true, reduceIte, zbd, nIadd, zgd_in, nIc, o1]
    · refine zIv_sc (g := zscs (zA_sc A) s (some (0, (-1 : Int32)))) h1 h2 h3 h4 h5 ?_ ?_ ?_ ?_
      · exact ((((zFr.si (by simp)).trans (zFr.si (by simp))).trans (zFr.si (by simp))).trans (zFr.si (by simp; omega))).trans (zFr.si (by simp; omega))
      · intro u hu q hq'
        unfold zscs at hq'
        by_cases hus : u = s
        · rw [if_pos hus] at hq'
          cases hq'
          exact ⟨by omega, Or.inl rfl⟩
        · rw [if_neg hus] at hq'
          have := h2.2.2.2.2.2.2.2.2.2 u hu q hq'
          exact ⟨by omega, this.2⟩
      · intro u hu
        unfold zscs
        rw [rd_ne (by omega), rd_ne (by omega), rd_ne (by omega), rd_ne (a := 29 + 2) (by omega), rd_ne (a := 29 + 2) (by omega), rd_ne (a := 29 + 2) (by omega)]
        by_cases hus : u = s
        · subst hus
          rw [if_pos rfl]
          refine ⟨fun h => (by cases h), fun q hq' => ?_⟩
          cases hq'
          exact ⟨by rw [rd_ne (by omega), rd_eq], by rw [rd_eq]⟩
        · rw [if_neg hus, rd_ne (by omega), rd_ne (by omega), rd_ne (a := 29 + 2) (by omega), rd_ne (a := 29 + 2) (by omega)]
          exact hS u hu
      · refine ⟨w ||| 2 ^ s, o2, ?_, fun u hu => ?_⟩
        · show _ = nI (w ||| 2 ^ s)
          rw [rd_ne (by omega), rd_ne (by omega), rd_eq]
        simp only [Nat.zero_add]
        unfold zscs
        by_cases hus : u = s
        · subst hus
          rw [if_pos rfl]
          refine ⟨fun h => (by cases h), fun q hq' => ?_⟩
          cases hq'
          exact ⟨by rw [o3 u hu]; simp, by rw [rd_ne (by omega), rd_eq], by rw [rd_eq]⟩
        · rw [if_neg hus]
          have := w3 u hu
          refine ⟨fun h => by rw [o3 u hu, this.1 h]; simp [hus], fun q hq' => ?_⟩
          obtain ⟨t1, t2, t3⟩ := this.2 q hq'
          refine ⟨by rw [o3 u hu, t1]; simp, ?_, ?_⟩
          · rw [rd_ne (by omega), rd_ne (by omega), rd_ne (by omega), rd_ne (by omega), rd_ne (by omega)]; exact t2
          · rw [rd_ne (by omega), rd_ne (by omega), rd_ne (by omega), rd_ne (by omega), rd_ne (by omega)]; exact t3
/-- whether a scan is open: both say the same -/
theorem openB {N : Nat} {M : zzMem} {A : zzA} (hN : N ≤ 600) (h2 : zWF N A) (hS : zSn M 29 (zA_sc A)) (hM : zMs M 0 (zA_sc A)) (x : Int32) :
    (f_X6_isOpen 29 x M = some false ∧ f_X10_isOpen x M = some false) ∨ (f_X6_isOpen 29 x M = some true ∧ f_X10_isOpen x M = some true ∧ ∃ s q, s < 4 ∧ x = nI s ∧ zA_sc A s = some q) := by
  obtain ⟨w, w1, w2, w3⟩ := hM
  simp only [Nat.zero_add] at w2 w3
  unfold f_X6_isOpen f_X10_isOpen
  rw [in_eq]
  rcases inC x 0 3 (by decide) (by decide) with ⟨h, s, -, hs, rfl⟩ | h
  · have hs4 : s < 4 := by omega
    simp (disch := omega) only [h, if_true, zgd_in, nIc, w2, hasB w w1 s hs4]
    cases hf : zA_sc A s with
    | none =>
      left
      rw [(hS s hs4).1 hf, (w3 s hs4).1 hf]
      simp
    | some q =>
      right
      have hq := h2.2.2.2.2.2.2.2.2.2 s hs4 q hf
      rw [((hS s hs4).2 q hf).1, ((w3 s hs4).2 q hf).1]
      simp (disch := omega) only [ifm1, if_true]
      exact ⟨trivial, trivial, s, q, hs4, rfl, hf⟩
  · left
    simp [h]
theorem op_ends (N : Nat) (a : Int32) : zSame N (f_X9_ends a) (f_X10_ends a) := by
  intro hN M hI
  obtain ⟨tp, A, h1, h2, h3, h4, h5⟩ := id hI
  have hS := h3.2.2.2.2
  unfold f_X9_ends f_X10_ends
  rcases openB hN h2 hS h4.2.2.2.2 a with ⟨g1, g2⟩ | ⟨g1, g2, s, q, hs, rfl, hq⟩
  · refine ⟨(-1 : Int32), M, M, ?_, ?_, hI.up⟩
    · rw [g1]; simp
    · rw [g2]; simp
  · obtain ⟨w, w1, w2, w3⟩ := h4.2.2.2.2
    simp only [Nat.zero_add] at w2 w3
    have hv := ((hS s hs).2 q hq).1
    have hv : M.1 30 s = nI q.1 := hv
    obtain ⟨t1, t2, t3⟩ := (w3 s hs).2 q hq
    obtain ⟨o1, o2, o3⟩ := anB w w1 s hs
    have hM1 : zFr (fun x y => x = 30) M (zz_si M 30 s (-1 : Int32)) := zFr.si rfl
    have hop : f_X10_isOpen (nI s) (zz_si M 30 s (-1 : Int32)) = some true := by
      unfold f_X10_isOpen at g2 ⊢
      rw [rd_ne (by omega)]
      exact g2
    refine ⟨nI q.1, zz_si M 30 s (-1 : Int32), zz_si (zz_si M 30 s (-1 : Int32)) 74 14 (nI (w &&& (15 ^^^ 2 ^ s))), ?_, ?_, ?_⟩
    · rw [g1]
      unfold f_X6_close
      simp (disch := omega) only [Option.bind_some, if_true, zgd_in, nIc, zbd, hv]
    · rw [hop]
      simp (disch := omega) only [Option.bind_some, if_true, zgd_in, nIc, zbd, nIadd]
      rw [rd_ne (k := 30) (by omega), w2, o1, rd_ne (by omega), rd_ne (by omega), t3]
    · refine zIv_sc (g := zscs (zA_sc A) s none) h1 h2 h3 h4 h5 ?_ ?_ ?_ ?_
      · exact (zFr.si (by simp)).trans (zFr.si (by simp))
      · intro u hu q hq'
        unfold zscs at hq'
        by_cases hus : u = s
        · rw [if_pos hus] at hq'; cases hq'
        · rw [if_neg hus] at hq'
          have := h2.2.2.2.2.2.2.2.2.2 u hu q hq'
          exact ⟨by omega, this.2⟩
      · intro u hu
        unfold zscs
        by_cases hus : u = s
        · subst hus
          rw [if_pos rfl, rd_ne (by omega), rd_eq]
          exact ⟨fun _ => rfl, fun q hq' => by cases hq'⟩
        · rw [if_neg hus, rd_ne (by omega), rd_ne (by omega), rd_ne (a := 29 + 2) (by omega), rd_ne (a := 29 + 2) (by omega)]
          exact hS u hu
      · refine ⟨_, o2, ?_, fun u hu => ?_⟩
        · show _ = nI (w &&& (15 ^^^ 2 ^ s))
          rw [rd_eq]
        simp only [Nat.zero_add]
        unfold zscs
        by_cases hus : u = s
        · subst hus
          rw [if_pos rfl]
          exact ⟨fun _ => by rw [o3 u hu]; simp, fun q hq' => by cases hq'⟩
        · rw [if_neg hus]
          have := w3 u hu
          refine ⟨fun h => by rw [o3 u hu, this.1 h]; simp, fun q hq' => ?_⟩
          obtain ⟨t1, t2, t3⟩ := this.2 q hq'
          refine ⟨by rw [o3 u hu, t1]; simp [hus], ?_, ?_⟩
          · rw [rd_ne (by omega), rd_ne (by omega)]; exact t2
          · rw [rd_ne (by omega), rd_ne (by omega)]; exact t3
