/-! ===== scans over the order ===== -/
noncomputable def zop (f : Nat → Option (Nat × Int32)) (x : Int32) : Bool := if f_X9_within x (nI 0) (nI 3) = true then (f x.toNatClampNeg).isSome else false
theorem zop_t {f : Nat → Option (Nat × Int32)} {x : Int32} (h : zop f x = true) : ∃ s q, s < 4 ∧ x = nI s ∧ f s = some q := by
  unfold zop at h
  rcases inC x 0 3 (by decide) (by decide) with ⟨h1, s, -, hs, rfl⟩ | h1
  · rw [if_pos h1, nIc (by omega)] at h
    obtain ⟨q, hq⟩ := Option.isSome_iff_exists.mp h
    exact ⟨s, q, by omega, rfl, hq⟩
  · rw [h1] at h; simp at h
section SC
variable {N : Nat} {A : zzA}
theorem cIsOpen {M : zzMem} {o : Nat} (hN : N ≤ 600) (h2 : zWF N A) (hS : zSn M o (zA_sc A)) (x : Int32) : f_X6_isOpen o x M = some (zop (zA_sc A) x) := by
  unfold f_X6_isOpen zop
  rcases inC x 0 3 (by decide) (by decide) with ⟨h, s, -, hs, rfl⟩ | h
  · have hs4 : s < 4 := by omega
    simp (disch := omega) only [h, if_true, zgd_in, nIc]
    cases hf : zA_sc A s with
    | none => rw [(hS s hs4).1 hf]; simp
    | some q =>
      have hq := h2.2.2.2.2.2.2.2.2.2 s hs4 q hf
      rw [((hS s hs4).2 q hf).1]
      simp (disch := omega) only [ifm1]
      rfl
  · simp [h]
theorem mIsOpen {M : zzMem} (hM : zMs M 0 (zA_sc A)) (x : Int32) : f_X10_isOpen x M = some (zop (zA_sc A) x) := by
  obtain ⟨w, w1, w2, w3⟩ := hM
  simp only [Nat.zero_add] at w2 w3
  unfold f_X10_isOpen zop
  rw [in_eq]
  rcases inC x 0 3 (by decide) (by decide) with ⟨h, s, -, hs, rfl⟩ | h
  · have hs4 : s < 4 := by omega
    simp (disch := omega) only [h, if_true, zgd_in, nIc, w2, hasB w w1 s hs4]
    cases hf : zA_sc A s with
    | none => rw [(w3 s hs4).1 hf]; simp
    | some q => rw [((w3 s hs4).2 q hf).1]; simp
  · simp [h]
/-- whether a key is still to come for a scan whose last key is l -/
noncomputable def zcom (A : zzA) (l : Int32) (k : Nat) : Bool := if l = (-1 : Int32) then true else decide (zA_cd A l.toNatClampNeg < zA_cd A k)
theorem zcom_at (hW : zWF N A) {l : Int32} {i k : Nat} (hget : (zA_S A)[i]? = some k) : zcom A l k = decide (zbeh A l ≤ i) := by
  unfold zcom zbeh
  by_cases hl : l = (-1 : Int32)
  · rw [if_pos hl, if_pos hl, decide_eq_true (Nat.zero_le _)]
  · rw [if_neg hl, if_neg hl]
    have := zpos_iff (x := zA_cd A l.toNatClampNeg + 1) hW.pw hget
    by_cases hd : zA_cd A l.toNatClampNeg < zA_cd A k
    · rw [decide_eq_true hd, decide_eq_true (by omega)]
    · rw [decide_eq_false hd, decide_eq_false (by omega)]
theorem zbeh_le (A : zzA) (l : Int32) : zbeh A l ≤ (zA_S A).length := by
  unfold zbeh
  split
  · exact Nat.zero_le _
  · exact zpos_le _ _ _
theorem mToCome {M : zzMem} {s x k : Nat} {l : Int32} (hW : zWF N A) (h1 : zMi M 0 A) (h2 : zLm M 0 (zA_law A)) (hs : s < 4) (hx : x < 300) (hl : l = (-1 : Int32) ∨ ∃ k, k < 65536 ∧ l = nI k) (hM : M.1 74 (15 + s) = l) (hk : k < 65536) (hke : M.1 74 (40 + x) = nI k) : ∃ M', f_X10_isToCome (nI s) (nI x) M = some (zcom A l k, M') ∧ zFr (fun a _ => a = 78) M M' := by
  unfold f_X10_isToCome j_X10_isToCome_50 zcom
  rcases hl with rfl | ⟨j, hj, rfl⟩
  · refine ⟨M, ?_, zFr.refl M⟩
    simp (disch := omega) only [nIadd, zgd_in, nIc, hM, zbd, if_true]
  · obtain ⟨M7, r1, r2⟩ := mRank hW h1 h2 hk
    obtain ⟨M10, r3, r4⟩ := mRank (k := j) hW (h1.frS r2 (by intro i hi; omega)) (h2.frS hW.hok.2 r2 (by intro i hi; omega)) hj
    have hk7 : M7.1 74 (40 + x) = nI k := by rw [(r2 _ _ (by omega)).1]; exact hke
    refine ⟨M10, ?_, r2.trans r4⟩
    simp (disch := omega) only [nIadd, zgd_in, nIc, hM, zbd, ifm1, hke, r1, Option.bind_some, zpr, r3, hk7, isBeh hW hk hj]
    cases hd : decide (zA_cd A j < zA_cd A k) with
    | true => rw [if_pos rfl]
    | false => rw [if_neg (by decide)]
theorem zcnt_from (a : Nat) : ∀ n, zcnt (fun i => decide (a ≤ i)) n = n - a
  | 0 => by simp [zcnt]
  | n + 1 => by
    unfold zcnt
    rw [zcnt_from a n]
    by_cases h : a ≤ n
    · rw [decide_eq_true h, if_pos rfl]; omega
    · rw [decide_eq_false h, if_neg (by decide)]; omega
theorem zgetD {S : List Nat} {i : Nat} (hi : i < S.length) : S[i]? = some (S.getD i 0) := by
  rw [List.getD_eq_getElem?_getD, List.getElem?_eq_getElem hi]; rfl
end SC
theorem op_scanIs (N : Nat) (a b : Int32) : zSame N (f_X9_scanIs a b) (f_X10_scanIs a b) := by
  refine zSame.tr (fun hN A hW => ?_)
  have hlen := hW.2.2.2.2.2.2.2.2.1.1
  cases hz : zop (zA_sc A) a with
  | false =>
    refine ⟨(-1 : Int32), A, hW.up, fun M h => ⟨M, ?_, h, zFr.refl M⟩, fun M h => ⟨M, ?_, h.up, zFr.refl M⟩⟩
    · unfold f_X9_scanIs
      rw [cIsOpen (o := 29) hN hW h.2.2.2.2, hz]; rfl
    · unfold f_X10_scanIs
      rw [mIsOpen h.2.2.2.2, hz]; rfl
  | true =>
    obtain ⟨s, q, hs, rfl, hq⟩ := zop_t hz
    have hq2 := (hW.2.2.2.2.2.2.2.2.2 s hs q hq).2
    have hc31 : ∀ M, zRC M 12 A → M.1 31 s = q.2 ∧ M.1 30 s = nI q.1 := fun M h => ⟨((h.2.2.2.2 s hs).2 q hq).2, ((h.2.2.2.2 s hs).2 q hq).1⟩
    have hm15 : ∀ M, zRM M 0 N A → M.1 74 (15 + s) = q.2 ∧ M.1 74 (19 + s) = nI q.1 := fun M h => by
      obtain ⟨w, w1, w2, w3⟩ := h.2.2.2.2
      simp only [Nat.zero_add] at w3
      have := (w3 s hs).2 q hq
      exact ⟨this.2.1, this.2.2⟩
    rcases inC b 0 2 (by decide) (by decide) with ⟨hb, w, -, hw, rfl⟩ | hb
    · rcases (show w = 0 ∨ w = 1 ∨ w = 2 by omega) with rfl | rfl | rfl
      · refine ⟨nI q.1, A, hW.up, fun M h => ⟨M, ?_, h, zFr.refl M⟩, fun M h => ⟨M, ?_, h.up, zFr.refl M⟩⟩
        · unfold f_X9_scanIs
          rw [cIsOpen (o := 29) hN hW h.2.2.2.2, hz]
          simp (disch := omega) only [Option.bind_some, if_true, zgd_in, nIc, zbd, (hc31 M h).2]
        · unfold f_X10_scanIs
          rw [mIsOpen h.2.2.2.2, hz]
          simp (disch := omega) only [Option.bind_some, if_true, in_eq, hb, ifE0_t, nIadd, zgd_in, nIc, (hm15 M h).2]
      · refine ⟨nI ((zA_S A).length - zbeh A q.2), A, hW.up, fun M h => ?_, fun M h => ?_⟩
        · obtain ⟨M9, e1, e2⟩ := cBehind hW h hq2
          refine ⟨M9, ?_, h.frS e2 (by intro k i; omega), e2.weak (fun k i h => by unfold zcS; omega)⟩
          have hs1 : M.1 27 1 = nI (zA_S A).length := h.2.2.2.1.1
          unfold f_X9_scanIs
          rw [cIsOpen (o := 29) hN hW h.2.2.2.2, hz]
          have := zbeh_le A q.2
          simp (disch := omega) only [Option.bind_some, if_true, zgd_in, nIc, zbd, (hc31 M h).1, ifEq_f, e1, zpr, hs1, nIsub]
        · obtain ⟨cm, xs, ke, ve, be, se, hcm, e, hm, hm3, hx, hc1⟩ := h.rc.fx hW
          have hcnt : (zA_S A).length - zbeh A q.2 = zcnt (fun x => zcom A q.2 (ke x)) (zA_S A).length := by
            rw [← zcnt_keys hW e (fun k => zcom A q.2 k), ← zcnt_from]
            exact zcnt_congr _ (fun i hi => (zcom_at hW (zgetD hi)).symm)
          have hZ := zlp_forI (B := fun s_1 : (Int32 × Int32 × zzMem) => b_X10_scanIs_71 (nI s) s_1.1 s_1.2.1 s_1.2.2) (fun t X => (nI (zcnt (fun x => zcom A q.2 (ke x)) t), nI t, X)) (fun t X => zFr (fun a _ => a = 78) M X) (zA_S A).length (fun r => r.1 = nI (zcnt (fun x => zcom A q.2 (ke x)) (zA_S A).length) ∧ zFr (fun a _ => a = 78) M r.2) (fun t ht X hX => ?_) (fun X hX => ?_) 0 (by omega) M (zFr.refl M)
          · obtain ⟨r, r1, r2, r3⟩ := hZ
            refine ⟨r.2, ?_, (h.frS hW r3 (by intro i; omega)).up, r3.weak (fun k i h => by unfold zmS; omega)⟩
            unfold f_X10_scanIs
            rw [mIsOpen h.2.2.2.2, hz]
            simp (disch := omega) only [Option.bind_some, if_true, in_eq, hb, ifE0_f, ifEq_f]
            unfold j_X10_scanIs_71
            have r1 : zlp (fun s_1 : (Int32 × Int32 × zzMem) => b_X10_scanIs_71 (nI s) s_1.1 s_1.2.1 s_1.2.2) (nI 0, nI 0, M) = some r := r1
            rw [r1, hcnt, ← r2]
          · have hk : ke t < 65536 := (hx t ht).2.1
            have hke : X.1 74 (40 + t) = nI (ke t) := by rw [(hX _ _ (by omega)).1]; have := (e.2.1 t ht).1; simpa using this
            have h15 : X.1 74 (15 + s) = q.2 := by rw [(hX _ _ (by omega)).1]; exact (hm15 M h).1
            have hmX : X.1 74 7 = nI (zA_S A).length := by rw [(hX _ _ (by omega)).1]; exact hm
            obtain ⟨Y, y1, y2⟩ := mToCome hW (h.1.frS hX (by intro i hi; omega)) (h.2.1.frS hW.hok.2 hX (by intro i hi; omega)) hs (by omega) hq2 h15 hk hke
            refine ⟨Y, ?_, hX.trans y2⟩
            show b_X10_scanIs_71 (nI s) _ (nI t) X = _
            unfold b_X10_scanIs_71
            simp (disch := omega) only [hmX, ifLe_f, y1, Option.bind_some, zpr, zbd, nIadd, zcnt]
            by_cases hcc : zcom A q.2 (ke t) = true
            · rw [if_pos hcc, if_pos hcc]
            · rw [if_neg hcc, if_neg hcc]; rfl
          · have hmX : X.1 74 7 = nI (zA_S A).length := by rw [(hX _ _ (by omega)).1]; exact hm
            refine ⟨(nI (zcnt (fun x => zcom A q.2 (ke x)) (zA_S A).length), X), ?_, rfl, hX⟩
            show b_X10_scanIs_71 (nI s) _ (nI (zA_S A).length) X = _
            unfold b_X10_scanIs_71
            simp (disch := omega) only [hmX, ifLe_t]
      · refine ⟨if q.2 = (-1 : Int32) then (-2 : Int32) else q.2, A, hW.up, fun M h => ⟨M, ?_, h, zFr.refl M⟩, fun M h => ⟨M, ?_, h.up, zFr.refl M⟩⟩
        · unfold f_X9_scanIs
          rw [cIsOpen (o := 29) hN hW h.2.2.2.2, hz]
          simp (disch := omega) only [Option.bind_some, if_true, zgd_in, nIc, zbd, (hc31 M h).1, ifEq_f, ifEq_t]
          split <;> rfl
        · unfold f_X10_scanIs
          rw [mIsOpen h.2.2.2.2, hz]
          simp (disch := omega) only [Option.bind_some, if_true, in_eq, hb, ifE0_f, ifEq_t, nIadd, zgd_in, nIc, (hm15 M h).1]
          split <;> rfl
    · refine ⟨(-1 : Int32), A, hW.up, fun M h => ⟨M, ?_, h, zFr.refl M⟩, fun M h => ⟨M, ?_, h.up, zFr.refl M⟩⟩
      · have n0 : b ≠ nI 0 := fun hh => by rw [hh] at hb; revert hb; decide
        have n1 : b ≠ nI 1 := fun hh => by rw [hh] at hb; revert hb; decide
        have n2 : b ≠ nI 2 := fun hh => by rw [hh] at hb; revert hb; decide
        unfold f_X9_scanIs
        rw [cIsOpen (o := 29) hN hW h.2.2.2.2, hz]
        simp (disch := omega) only [Option.bind_some, if_true, zgd_in, nIc, zbd]
        rw [if_neg n0, if_neg n1, if_neg n2]
      · unfold f_X10_scanIs
        rw [mIsOpen h.2.2.2.2, hz]
        simp only [Option.bind_some, if_true, in_eq, hb, Bool.false_eq_true, if_false]
/-- the best so far -/
def zbst (p : Nat → Bool) (f : Nat → Nat) : Nat → Option Nat
  | 0 => none
  | t + 1 => if p t = true then (match zbst p f t with
    | none => some t
    | some y => if f t < f y then some t else some y) else zbst p f t
theorem zbst_ok (p : Nat → Bool) (f : Nat → Nat) : ∀ t, (zbst p f t = none → ∀ e, e < t → p e = false) ∧ ∀ x, zbst p f t = some x → x < t ∧ p x = true ∧ ∀ e, e < t → p e = true → f x ≤ f e
  | 0 => ⟨fun _ e he => by omega, fun x hx => by cases hx⟩
  | t + 1 => by
    obtain ⟨h1, h2⟩ := zbst_ok p f t
    unfold zbst
    by_cases hp : p t = true
    · rw [if_pos hp]
      cases hz : zbst p f t with
      | none =>
        refine ⟨fun h => (by cases h), fun x hx => ?_⟩
        cases hx
        refine ⟨by omega, hp, fun e he hpe => ?_⟩
        by_cases het : e = t
        · rw [het]; exact Nat.le_refl _
        · rw [h1 hz e (by omega)] at hpe; cases hpe
      | some y =>
        obtain ⟨y1, y2, y3⟩ := h2 y hz
        by_cases hlt : f t < f y
        · refine ⟨fun h => by simp [hlt] at h, fun x hx => ?_⟩
          have hx : x = t := by simp [hlt] at hx; exact hx.symm
          subst hx
          refine ⟨by omega, hp, fun e he hpe => ?_⟩
          by_cases het : e = x
          · rw [het]; exact Nat.le_refl _
          · have := y3 e (by omega) hpe; omega
        · refine ⟨fun h => by simp [hlt] at h, fun x hx => ?_⟩
          have hx : x = y := by simp [hlt] at hx; exact hx.symm
          subst hx
          refine ⟨by omega, y2, fun e he hpe => ?_⟩
          by_cases het : e = t
          · rw [het]; omega
          · exact y3 e (by omega) hpe
    · rw [if_neg hp]
      refine ⟨fun h e he => ?_, fun x hx => ?_⟩
      · by_cases het : e = t
        · rw [het]; simpa using hp
        · exact h1 h e (by omega)
      · obtain ⟨y1, y2, y3⟩ := h2 x hx
        refine ⟨by omega, y2, fun e he hpe => ?_⟩
        by_cases het : e = t
        · rw [het] at hpe; exact absurd hpe hp
        · exact y3 e (by omega) hpe
def zsct (A : zzA) (g : Nat → Option (Nat × Int32)) : zzA := (A.1, A.2.1, A.2.2.1, A.2.2.2.1, A.2.2.2.2.1, A.2.2.2.2.2.1, A.2.2.2.2.2.2.1, A.2.2.2.2.2.2.2.1, g)
