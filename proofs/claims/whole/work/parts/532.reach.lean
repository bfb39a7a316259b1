/-! ===== reach ===== -/
theorem zcnt_set {p : Nat → Bool} {x : Nat} : ∀ n, x < n → zcnt (fun b => p b || decide (x = b)) n = zcnt p n + (if p x = true then 0 else 1)
  | 0, h => by omega
  | n + 1, h => by
    by_cases hx : x = n
    · subst hx
      unfold zcnt
      rw [zcnt_congr x (q := p) (fun i hi => by rw [decide_eq_false (by omega), Bool.or_false])]
      cases p x <;> simp
    · have := zcnt_set (p := p) (x := x) n (by omega)
      unfold zcnt
      rw [this, decide_eq_false hx, Bool.or_false]
      omega
def zmet (p : Nat → Bool) (g : Nat → Nat) : Nat → Nat
  | 0 => 0
  | t + 1 => if p t = true then zmet p g t ||| 2 ^ g t else zmet p g t
theorem zmet_lt {p : Nat → Bool} {g : Nat → Nat} : ∀ t, (∀ x, x < t → g x < 64) → zmet p g t < 2 ^ 64
  | 0, _ => by show 0 < 2 ^ 64; decide
  | t + 1, h => by
    have h1 := zmet_lt (p := p) (g := g) t (fun x hx => h x (by omega))
    unfold zmet
    split
    · exact Nat.or_lt_two_pow h1 (Nat.pow_lt_pow_right (by decide) (h t (by omega)))
    · exact h1
theorem zmet_bit (p : Nat → Bool) (g : Nat → Nat) (b : Nat) : ∀ t, (zmet p g t).testBit b = (List.range t).any (fun x => p x && decide (g x = b))
  | 0 => by simp [zmet]
  | t + 1 => by
    rw [zrange_any, ← zmet_bit p g b t, zmet]
    cases hp : p t with
    | true => rw [if_pos rfl, Nat.testBit_or, Nat.testBit_two_pow, Bool.true_and]
    | false => rw [if_neg (by decide), Bool.false_and, Bool.or_false]
theorem bit64 {w b : Nat} (hb : b < 64) : (lN w >>> ((nI b).toInt64 &&& 63)) &&& (1 : Int64) = lN (if w.testBit b = true then 1 else 0) := by
  rw [wb_c b hb]
  apply wb_inj
  rw [Int64.toBitVec_and, Int64.toBitVec_shiftRight, wb_tb, wb_tb, wb_tb, wb_sm b hb]
  apply BitVec.eq_of_getLsbD_eq
  intro i hi
  rw [BitVec.sshiftRight', BitVec.toNat_ofNat, Nat.mod_eq_of_lt (show b < 2 ^ 64 by omega), BitVec.getLsbD_and, BitVec.getLsbD_sshiftRight]
  show (_ && (1#64).getLsbD i) = _
  rw [BitVec.getLsbD_one]
  by_cases h0 : i = 0
  · subst h0
    have hgb : (BitVec.ofNat 64 w)[b] = w.testBit b := by
      rw [← BitVec.getLsbD_eq_getElem, BitVec.getLsbD_ofNat]; simp [hb]
    simp [hb, hgb]
    cases w.testBit b <;> simp
  · have : (BitVec.ofNat 64 (if w.testBit b = true then 1 else 0)).getLsbD i = false := by
      cases w.testBit b
      · simp
      · simp [BitVec.getLsbD_one, h0]
    rw [this]; simp [h0]
theorem zcnt_ones {w : Nat} {M : zzMem} : j_X10_reach_65 (lN w) (nI 0) (nI 0) M = some (nI (zcnt w.testBit 64), M) := by
  unfold j_X10_reach_65
  refine zlp_for (B := fun s : (Int32 × Int32) => b_X10_reach_65 (lN w) s.1 s.2 M) (fun t => (nI (zcnt w.testBit t), nI t)) 64 _ (fun t ht => ?_) ?_ 0 (by omega)
  · show b_X10_reach_65 (lN w) (nI (zcnt w.testBit t)) (nI t) M = _
    unfold b_X10_reach_65
    rw [ifLe_f ht (by omega), bit64 ht]
    simp only [zbd, nIadd, zcnt]
    cases w.testBit t with
    | true => rw [if_pos ((lg_cmp_eq _ _).mpr (by rw [if_pos rfl]; rfl)), if_pos rfl]
    | false =>
      rw [if_neg (fun hh => by
        have := (lg_cmp_eq _ _).mp hh
        rw [if_neg (by decide)] at this
        revert this; decide), if_neg (by decide)]; rfl
  · show b_X10_reach_65 (lN w) (nI (zcnt w.testBit 64)) (nI 64) M = _
    unfold b_X10_reach_65
    rw [ifLe_t (Nat.le_refl _) (by omega)]
set_option maxHeartbeats 1000000 in
theorem op_reach (N : Nat) (a : Int32) : zSame N (f_X9_reach a) (f_X10_reach a) := by
  refine zSame.tr (fun hN A hW => ?_)
  have hlen := hW.2.2.2.2.2.2.2.2.1.1
  have hB := hW.sB
  cases hz : zop (zA_sc A) a with
  | false =>
    refine ⟨(-1 : Int32), A, hW.up, fun M h => ⟨M, ?_, h, zFr.refl M⟩, fun M h => ⟨M, ?_, h.up, zFr.refl M⟩⟩
    · unfold f_X9_reach
      rw [cIsOpen (o := 29) hN hW h.2.2.2.2, hz]; rfl
    · unfold f_X10_reach
      rw [mIsOpen h.2.2.2.2, hz]; rfl
  | true =>
    obtain ⟨s, q, hs, rfl, hq⟩ := zop_t hz
    have hq2 := (hW.2.2.2.2.2.2.2.2.2 s hs q hq).2
    have hbl := zbeh_le A q.2
    let sC : Nat → Nat → Bool := fun t b => (List.range t).any (fun i => decide (zbeh A q.2 ≤ i) && decide (zA_a A ((zA_S A).getD i 0) = b))
    have hsC : ∀ t b, zbeh A q.2 ≤ t → sC (t + 1) b = (sC t b || decide (zA_a A ((zA_S A).getD t 0) = b)) := fun t b ht => by
      show (List.range (t + 1)).any _ = _
      rw [zrange_any, decide_eq_true ht, Bool.true_and]
    refine ⟨nI (zcnt (sC (zA_S A).length) 64), A, hW.up, fun M h => ?_, fun M h => ?_⟩
    · obtain ⟨M3, f1, f2, f3⟩ := cFill (p := 72) (n := 64) (v := nI 0) M (by decide)
      have h3 : zRC M3 12 A := h.frS f3 (by intro k i; omega)
      have h31 : M3.1 31 s = q.2 := ((h3.2.2.2.2 s hs).2 q hq).2
      obtain ⟨M7, e1, e2⟩ := cBehind hW h3 hq2
      have h7 : zRC M7 12 A := h3.frS e2 (by intro k i; omega)
      have hZ := zlp_forI (B := fun s_1 : (Int32 × Int32 × zzMem) => b_X9_reach_46 s_1.1 s_1.2.1 s_1.2.2) (fun t X => (nI (zcnt (sC t) 64), nI t, X)) (fun t X => zbeh A q.2 ≤ t ∧ zFr (fun a _ => a = 72) M7 X ∧ ∀ b, b < 64 → X.1 72 b = nI (if sC t b = true then 1 else 0)) (zA_S A).length (fun r => r.1 = nI (zcnt (sC (zA_S A).length) 64) ∧ zFr (fun a _ => a = 72) M7 r.2) (fun t ht X hX => ?_) (fun X hX => ?_) (zbeh A q.2) hbl M7 ⟨Nat.le_refl _, zFr.refl M7, ?_⟩
      · obtain ⟨r, r1, r2, r3⟩ := hZ
        refine ⟨r.2, ?_, h7.frS r3 (by intro k i; omega), ((f3.weak (fun k i h => by unfold zcS; omega)).trans (e2.weak (fun k i h => by unfold zcS; omega))).trans (r3.weak (fun k i h => by unfold zcS; omega))⟩
        unfold f_X9_reach
        rw [cIsOpen (o := 29) hN hW h.2.2.2.2, hz]
        simp (disch := omega) only [Option.bind_some, if_true, f1, zgd_in, nIc, h31, e1, zpr]
        have h0 : zcnt (sC (zbeh A q.2)) 64 = 0 := zcnt_no 64 (fun b _ => by
          show (List.range _).any _ = false
          rw [List.any_eq_false]
          intro i hi
          have := List.mem_range.mp hi
          rw [decide_eq_false (by omega)]; simp)
        unfold j_X9_reach_46
        rw [h0] at r1
        rw [r1, ← r2]
      · obtain ⟨x1, x2, x3⟩ := hX
        have hXc : zRC X 12 A := h7.frS x2 (by intro k i; omega)
        have hs1 : X.1 27 1 = nI (zA_S A).length := hXc.2.2.2.1.1
        have hk := hW.key (List.mem_of_getElem? (zgetD ht))
        have hha := cHashAt hW hXc ht
        have had := cAdr hW hXc.1 hk
        have hadl := hW.adr ((zA_S A).getD t 0)
        have hcnt : zcnt (sC (t + 1)) 64 = zcnt (sC t) 64 + (if sC t (zA_a A ((zA_S A).getD t 0)) = true then 0 else 1) := by
          rw [← zcnt_set 64 (by omega)]
          exact zcnt_congr 64 (fun b _ => hsC t b x1)
        have hv := x3 (zA_a A ((zA_S A).getD t 0)) (by omega)
        show ∃ M', b_X9_reach_46 (nI (zcnt (sC t) 64)) (nI t) X = _ ∧ _
        unfold b_X9_reach_46
        rw [hs1, ifLe_f ht (by omega), hha, Option.bind_some, had]
        simp (disch := omega) only [Option.bind_some, zgd_in, nIc, hv, zbd, nIadd]
        rw [hcnt]
        cases hsc : sC t (zA_a A ((zA_S A).getD t 0)) with
        | true =>
          refine ⟨X, ?_, by omega, x2, fun b hb => ?_⟩
          · rw [if_pos rfl, ifE0_f (by decide) (by decide), if_pos rfl]; rfl
          · rw [x3 b hb, hsC t b x1]
            by_cases hbb : zA_a A ((zA_S A).getD t 0) = b
            · rw [← hbb, hsc]; rfl
            · rw [decide_eq_false hbb, Bool.or_false]
        | false =>
          refine ⟨zz_si X 72 (zA_a A ((zA_S A).getD t 0)) (nI 1), ?_, by omega, x2.trans (zFr.si rfl), fun b hb => ?_⟩
          · rw [ifE0_t (by decide), if_neg (by decide)]
          · rw [hsC t b x1]
            by_cases hbb : zA_a A ((zA_S A).getD t 0) = b
            · rw [hbb, rd_eq, decide_eq_true rfl, Bool.or_true, if_pos rfl]
            · rw [rd_ne (by omega), x3 b hb, decide_eq_false hbb, Bool.or_false]
      · obtain ⟨x1, x2, x3⟩ := hX
        have hXc : zRC X 12 A := h7.frS x2 (by intro k i; omega)
        have hs1 : X.1 27 1 = nI (zA_S A).length := hXc.2.2.2.1.1
        refine ⟨(nI (zcnt (sC (zA_S A).length) 64), X), ?_, rfl, x2⟩
        show b_X9_reach_46 _ (nI (zA_S A).length) X = _
        unfold b_X9_reach_46
        rw [hs1, ifLe_t (Nat.le_refl _) (by omega)]
      · intro b hb
        have : sC (zbeh A q.2) b = false := by
          show (List.range _).any _ = false
          rw [List.any_eq_false]
          intro i hi
          have := List.mem_range.mp hi
          rw [decide_eq_false (by omega)]; simp
        rw [this, (e2 _ _ (by omega)).1, f2 b hb]; rfl
    · obtain ⟨cm, xs, ke, ve, be, se, hcm, e, hm, hm3, hx, hc1⟩ := h.rc.fx hW
      have hm15 : M.1 74 (15 + s) = q.2 := by
        obtain ⟨w, w1, w2, w3⟩ := h.2.2.2.2
        simp only [Nat.zero_add] at w3
        exact ((w3 s hs).2 q hq).2.1
      let p : Nat → Bool := fun x => zcom A q.2 (ke x)
      have hbe64 : ∀ x, x < (zA_S A).length → be x < 64 := fun x hx1 => by have := (hx x hx1).1; omega
      have hba : ∀ x, x < (zA_S A).length → zA_a A (ke x) = be x := fun x hx1 => by
        have h1 : (ke x, ve x) ∈ zA_E A (be x) := by rw [e.2.2.2.2]; exact List.mem_map.mpr ⟨x, (e.2.1 x hx1).2.2.2.2.2, rfl⟩
        exact (hW.2.2.1 _ _ h1).2.2
      have hfinal : zcnt (sC (zA_S A).length) 64 = zcnt (zmet p be (zA_S A).length).testBit 64 := by
        refine zcnt_congr 64 (fun b hb => ?_)
        rw [zmet_bit, Bool.eq_iff_iff]
        show (List.range _).any _ = true ↔ _
        rw [List.any_eq_true, List.any_eq_true]
        constructor
        · rintro ⟨i, hi, hh⟩
          have hi := List.mem_range.mp hi
          simp only [Bool.and_eq_true, decide_eq_true_eq] at hh
          obtain ⟨x, x1, x2⟩ := (e.mem hW _).mp (List.mem_of_getElem? (zgetD hi))
          refine ⟨x, List.mem_range.mpr x1, ?_⟩
          simp only [Bool.and_eq_true, decide_eq_true_eq]
          refine ⟨?_, by rw [← hba x x1, x2]; exact hh.2⟩
          show zcom A q.2 (ke x) = true
          rw [x2, zcom_at hW (zgetD hi), decide_eq_true hh.1]
        · rintro ⟨x, hx1, hh⟩
          have hx1 := List.mem_range.mp hx1
          simp only [Bool.and_eq_true, decide_eq_true_eq] at hh
          obtain ⟨i, hi⟩ := List.getElem?_of_mem ((e.mem hW (ke x)).mpr ⟨x, hx1, rfl⟩)
          have hil := (List.getElem?_eq_some_iff.mp hi).1
          have hgd := zgetD hil
          rw [hi] at hgd
          refine ⟨i, List.mem_range.mpr hil, ?_⟩
          simp only [Bool.and_eq_true, decide_eq_true_eq]
          have hc : zcom A q.2 (ke x) = true := hh.1
          rw [zcom_at hW hi] at hc
          exact ⟨by simpa using hc, by rw [← Option.some.inj hgd, hba x hx1]; exact hh.2⟩
      have hZ := zlp_forI (B := fun s_1 : (Int64 × Int32 × zzMem) => b_X10_reach_15 (nI s) s_1.1 s_1.2.1 s_1.2.2) (fun t X => (lN (zmet p be t), nI t, X)) (fun t X => zFr (fun a _ => a = 78) M X) (zA_S A).length (fun r => r.1 = nI (zcnt (sC (zA_S A).length) 64) ∧ zFr (fun a _ => a = 78) M r.2) (fun t ht X hX => ?_) (fun X hX => ?_) 0 (by omega) M (zFr.refl M)
      · obtain ⟨r, r1, r2, r3⟩ := hZ
        refine ⟨r.2, ?_, (h.frS hW r3 (by intro i; omega)).up, r3.weak (fun k i h => by unfold zmS; omega)⟩
        unfold f_X10_reach j_X10_reach_15
        rw [mIsOpen h.2.2.2.2, hz]
        simp only [Option.bind_some, if_true, zbd]
        rw [show ((0 : Int64)) = lN (zmet p be 0) from rfl, r1, ← r2]
      · have hk : ke t < 65536 := (hx t ht).2.1
        have hke : X.1 74 (40 + t) = nI (ke t) := by rw [(hX _ _ (by omega)).1]; have := (e.2.1 t ht).1; simpa using this
        have h15 : X.1 74 (15 + s) = q.2 := by rw [(hX _ _ (by omega)).1]; exact hm15
        have hmX : X.1 74 7 = nI (zA_S A).length := by rw [(hX _ _ (by omega)).1]; exact hm
        obtain ⟨Y, y1, y2⟩ := mToCome hW (h.1.frS hX (by intro i hi; omega)) (h.2.1.frS hW.hok.2 hX (by intro i hi; omega)) hs (by omega) hq2 h15 hk hke
        have hbY : Y.1 74 (640 + t) = nI (be t) := by rw [(y2 _ _ (by omega)).1, (hX _ _ (by omega)).1]; have := (e.2.1 t ht).2.2.1; simpa using this
        refine ⟨Y, ?_, hX.trans y2⟩
        show b_X10_reach_15 (nI s) (lN (zmet p be t)) (nI t) X = _
        unfold b_X10_reach_15
        simp (disch := omega) only [hmX, ifLe_f, y1, Option.bind_some, zpr, zbd, nIadd, zgd_in, nIc, hbY]
        have hp : p t = zcom A q.2 (ke t) := rfl
        rw [zmet, hp]
        have hml := zmet_lt (p := p) (g := be) t (fun x hx1 => hbe64 x (by omega))
        cases zcom A q.2 (ke t) with
        | true =>
          rw [if_pos rfl, if_pos rfl, show (1 : Int64) = lN 1 from rfl, wb_shl _ (hbe64 t ht), Nat.one_mul, wb_or hml (Nat.pow_lt_pow_right (by decide) (hbe64 t ht))]
        | false => rw [if_neg (by decide), if_neg (by decide)]
      · have hmX : X.1 74 7 = nI (zA_S A).length := by rw [(hX _ _ (by omega)).1]; exact hm
        refine ⟨(nI (zcnt (sC (zA_S A).length) 64), X), ?_, rfl, hX⟩
        show b_X10_reach_15 (nI s) (lN (zmet p be (zA_S A).length)) (nI (zA_S A).length) X = _
        unfold b_X10_reach_15
        simp (disch := omega) only [hmX, ifLe_t]
        rw [zcnt_ones, ← hfinal]; rfl
