/-! ===== signs ===== -/
def zsgn (h : Nat) : Nat := 2 ^ (h / 4096) ||| 2 ^ (h % 16)
theorem zsgn_lt {h : Nat} (hh : h < 65536) : zsgn h < 65536 := by
  unfold zsgn
  have h1 : h / 4096 < 16 := by omega
  have h2 : h % 16 < 16 := by omega
  exact Nat.or_lt_two_pow (n := 16) (Nat.pow_lt_pow_right (by decide) h1) (Nat.pow_lt_pow_right (by decide) h2)
theorem pw16 {k : Nat} (hk : k < 16) : 1 * 2 ^ k < 4294967296 := by
  have : 2 ^ k < 2 ^ 16 := Nat.pow_lt_pow_right (by decide) hk
  omega
theorem cSign {h : Nat} (hh : h < 65536) : f_X9_signOf (nI h) = nI (zsgn h) := by
  unfold f_X9_signOf zsgn
  have h1 : h / 4096 < 16 := by omega
  have h2 : h % 16 < 16 := by omega
  rw [pk_shrN (show h < 2 ^ 31 by omega) _ 12 (s_l 12 (by decide)), show h / 2 ^ 12 = h / 4096 from rfl, pk_andN (show h < 2 ^ 32 by omega) (m := nI 15) 4 (by decide), show h % 2 ^ 4 = h % 16 from rfl, nIshl (by omega) (pw16 h1), nIshl (by omega) (pw16 h2), Nat.one_mul, Nat.one_mul, nx_or]
theorem mSign {h : Nat} (hh : h < 65536) : f_X10_signOfHash (nI h) = some (nI (zsgn h)) := by
  unfold f_X10_signOfHash zsgn
  have h1 : h / 4096 < 16 := by omega
  have h2 : h % 16 < 16 := by omega
  rw [nIdiv (by omega) (by omega) (by omega), nIrem (by omega) (by omega) (by omega), nIshl (by omega) (pw16 h1), nIshl (by omega) (pw16 h2), Nat.one_mul, Nat.one_mul, nx_or]
def zors (p : Nat → Bool) (w : Nat → Nat) : Nat → Nat
  | 0 => 0
  | t + 1 => if p t = true then zors p w t ||| w t else zors p w t
theorem zors_bit (p : Nat → Bool) (w : Nat → Nat) (j : Nat) : ∀ t, (zors p w t).testBit j = (List.range t).any (fun x => p x && (w x).testBit j)
  | 0 => by simp [zors]
  | t + 1 => by
    rw [zrange_any, ← zors_bit p w j t, zors]
    cases hp : p t with
    | true => rw [if_pos rfl, Nat.testBit_or, Bool.true_and]
    | false => rw [if_neg (by decide), Bool.false_and, Bool.or_false]
noncomputable def zsgs (A : zzA) (b : Nat) : Nat := zors (fun i => decide (zA_a A ((zA_S A).getD i 0) = b)) (fun i => zsgn (zA_h A ((zA_S A).getD i 0))) (zA_S A).length
section SG
variable {N : Nat} {A : zzA}
theorem cGatherSigns {M : zzMem} (hW : zWF N A) (h : zRC M 12 A) : ∃ M', f_X9_gatherSigns M = some M' ∧ (∀ b, b < 64 → M'.1 72 b = nI (zsgs A b)) ∧ zFr (fun a _ => a = 72) M M' := by
  have hlen := hW.2.2.2.2.2.2.2.2.1.1
  have hB := hW.sB
  obtain ⟨M1, f1, f2, f3⟩ := cFill (p := 72) (n := 64) (v := nI 0) M (by decide)
  have h1 : zRC M1 12 A := h.frS f3 (by intro k i; omega)
  have hZ := zlp_forI (B := fun s : (Int32 × zzMem) => b_X9_gatherSigns_10 s.1 s.2) (fun t X => (nI t, X)) (fun t X => zFr (fun a _ => a = 72) M1 X ∧ ∀ b, b < 64 → X.1 72 b = nI (zors (fun i => decide (zA_a A ((zA_S A).getD i 0) = b)) (fun i => zsgn (zA_h A ((zA_S A).getD i 0))) t)) (zA_S A).length (fun r => (∀ b, b < 64 → r.1 72 b = nI (zsgs A b)) ∧ zFr (fun a _ => a = 72) M r) (fun t ht X hX => ?_) (fun X hX => ?_) 0 (by omega) M1 ⟨zFr.refl M1, fun i hi => by rw [f2 i hi]; rfl⟩
  · obtain ⟨r, r1, r2⟩ := hZ
    refine ⟨r, ?_, r2⟩
    unfold f_X9_gatherSigns j_X9_gatherSigns_10
    rw [f1, Option.bind_some]
    exact r1
  · obtain ⟨x1, x2⟩ := hX
    have hXc : zRC X 12 A := h1.frS x1 (by intro k i; omega)
    have hs1 : X.1 27 1 = nI (zA_S A).length := hXc.2.2.2.1.1
    have hk := hW.key (List.mem_of_getElem? (zgetD ht))
    have hh : zA_h A ((zA_S A).getD t 0) < 65536 := zhs_lt hk hW.hok.1
    have had := cAdr hW hXc.1 hk
    have hadl := hW.adr ((zA_S A).getD t 0)
    have hv := x2 (zA_a A ((zA_S A).getD t 0)) (by omega)
    generalize hbd : zA_a A ((zA_S A).getD t 0) = b at had hadl hv
    refine ⟨zz_si X 72 b (nI (zors (fun i => decide (zA_a A ((zA_S A).getD i 0) = b)) (fun i => zsgn (zA_h A ((zA_S A).getD i 0))) t ||| zsgn (zA_h A ((zA_S A).getD t 0)))), ?_, x1.trans (zFr.si rfl), fun i hi => ?_⟩
    · show b_X9_gatherSigns_10 (nI t) X = _
      unfold b_X9_gatherSigns_10
      rw [hs1, ifLe_f ht (by omega), cHashAt hW hXc ht, Option.bind_some, had, cSign hh]
      simp (disch := omega) only [Option.bind_some, zgd_in, nIc, hv, zbd, nIadd, nx_or]
    · rw [zors]
      by_cases hib : b = i
      · rw [hib, rd_eq, ← hib, hbd, decide_eq_true rfl, if_pos rfl]
      · rw [rd_ne (by omega), x2 i hi, hbd, decide_eq_false hib, if_neg (by decide)]
  · obtain ⟨x1, x2⟩ := hX
    have hXc : zRC X 12 A := h1.frS x1 (by intro k i; omega)
    have hs1 : X.1 27 1 = nI (zA_S A).length := hXc.2.2.2.1.1
    refine ⟨X, ?_, x2, f3.trans x1⟩
    show b_X9_gatherSigns_10 (nI (zA_S A).length) X = _
    unfold b_X9_gatherSigns_10
    rw [hs1, ifLe_t (Nat.le_refl _) (by omega)]
theorem mSignsOf {M : zzMem} {C b : Nat} (hW : zWF N A) (h : zRc M 0 C A) (hb : b < 64) : ∃ M', f_X10_signsOf (nI b) M = some (nI (zsgs A b), M') ∧ zFr (fun a _ => a = 78) M M' := by
  obtain ⟨cm, xs, ke, ve, be, se, hcm, e, hm, hm3, hx, hc1⟩ := h.fx hW
  have hB := hW.sB
  have hbs : ∀ x, x < (zA_S A).length → zA_a A (ke x) = be x := fun x hx1 => (zvl_ve hW e hx1).2.1
  have hfin : zsgs A b = zors (fun x => decide (be x = b)) (fun x => zsgn (zA_h A (ke x))) (zA_S A).length := by
    apply Nat.eq_of_testBit_eq
    intro j
    unfold zsgs
    rw [zors_bit, zors_bit, Bool.eq_iff_iff, List.any_eq_true, List.any_eq_true]
    constructor
    · rintro ⟨i, hi, hh⟩
      have hi := List.mem_range.mp hi
      simp only [Bool.and_eq_true, decide_eq_true_eq] at hh
      obtain ⟨x, x1, x2⟩ := (e.mem hW _).mp (List.mem_of_getElem? (zgetD hi))
      refine ⟨x, List.mem_range.mpr x1, ?_⟩
      simp only [Bool.and_eq_true, decide_eq_true_eq]
      exact ⟨by rw [← hbs x x1, x2]; exact hh.1, by rw [x2]; exact hh.2⟩
    · rintro ⟨x, hx1, hh⟩
      have hx1 := List.mem_range.mp hx1
      simp only [Bool.and_eq_true, decide_eq_true_eq] at hh
      obtain ⟨i, hi⟩ := List.getElem?_of_mem ((e.mem hW (ke x)).mpr ⟨x, hx1, rfl⟩)
      have hil := (List.getElem?_eq_some_iff.mp hi).1
      have hgd := zgetD hil
      rw [hi] at hgd
      refine ⟨i, List.mem_range.mpr hil, ?_⟩
      simp only [Bool.and_eq_true, decide_eq_true_eq]
      rw [← Option.some.inj hgd]
      exact ⟨by rw [hbs x hx1]; exact hh.1, hh.2⟩
  have hZ := zlp_forI (B := fun s : (Int32 × Int32 × zzMem) => b_X10_signsOf_4 (nI b) s.1 s.2.1 s.2.2) (fun t X => (nI (zors (fun x => decide (be x = b)) (fun x => zsgn (zA_h A (ke x))) t), nI t, X)) (fun t X => zFr (fun a _ => a = 78) M X) (zA_S A).length (fun r => r.1 = nI (zsgs A b) ∧ zFr (fun a _ => a = 78) M r.2) (fun t ht X hX => ?_) (fun X hX => ?_) 0 (by omega) M (zFr.refl M)
  · obtain ⟨r, r1, r2, r3⟩ := hZ
    refine ⟨r.2, ?_, r3⟩
    unfold f_X10_signsOf j_X10_signsOf_4
    have r1 : zlp (fun s : (Int32 × Int32 × zzMem) => b_X10_signsOf_4 (nI b) s.1 s.2.1 s.2.2) (nI 0, nI 0, M) = some r := r1
    rw [r1, ← r2]
  · have hk : ke t < 65536 := (hx t ht).2.1
    have hke : X.1 74 (40 + t) = nI (ke t) := by rw [(hX _ _ (by omega)).1]; have := (e.2.1 t ht).1; simpa using this
    have hbt : X.1 74 (640 + t) = nI (be t) := by rw [(hX _ _ (by omega)).1]; have := (e.2.1 t ht).2.2.1; simpa using this
    have hmX : X.1 74 7 = nI (zA_S A).length := by rw [(hX _ _ (by omega)).1]; exact hm
    have hbl := (hx t ht).1
    show ∃ M', b_X10_signsOf_4 (nI b) _ (nI t) X = _ ∧ _
    unfold b_X10_signsOf_4
    rw [zors]
    by_cases hbb : be t = b
    · obtain ⟨Y, y1, y2⟩ := mHashOf (h.2.1.frS hW.hok.2 hX (by intro i hi; omega)) hW.hok hk
      have y1 : f_X10_hashOf (nI (ke t)) X = some (nI (zA_h A (ke t)), Y) := y1
      have hh : zA_h A (ke t) < 65536 := zhs_lt hk hW.hok.1
      refine ⟨Y, ?_, hX.trans y2⟩
      rw [decide_eq_true hbb, if_pos rfl]
      simp (disch := omega) only [hmX, ifLe_f, nIadd, zgd_in, nIc, hbt, hbb, if_true, hke, y1, Option.bind_some, zpr, mSign hh, zbd, nx_or]
    · refine ⟨X, ?_, hX⟩
      rw [decide_eq_false hbb]
      simp (disch := omega) only [hmX, ifLe_f, nIadd, zgd_in, nIc, hbt, ifEq_f, zbd, Bool.false_eq_true, if_false]
  · have hmX : X.1 74 7 = nI (zA_S A).length := by rw [(hX _ _ (by omega)).1]; exact hm
    refine ⟨(nI (zsgs A b), X), ?_, rfl, hX⟩
    show b_X10_signsOf_4 (nI b) _ (nI (zA_S A).length) X = _
    unfold b_X10_signsOf_4
    rw [hmX, ifLe_t (Nat.le_refl _) (by omega), hfin]
end SG
theorem op_signs (N : Nat) (a : Int32) : zSame N (f_X9_signs a) (f_X10_signs a) := by
  refine zSame.tr (fun hN A hW => ?_)
  have hB := hW.sB
  have hp := hW.ptB
  have hcB : ∀ M, zRC M 12 A → f_X9_isBucket a M = f_X9_within a (nI 0) (nI (zA_B A - 1)) := fun M h => by
    unfold f_X9_isBucket; rw [cBuck hW h.1, nIsub (by omega)]
  have hmB : ∀ M, zRM M 0 N A → f_X10_buckets M = some (nI (zA_B A)) := fun M h => mBuck hW h.1
  rcases inC a 0 (zA_B A - 1) (by omega) (by omega) with ⟨ha, b, -, hb, rfl⟩ | ha
  · refine ⟨nI (zsgs A b), A, hW.up, fun M h => ?_, fun M h => ?_⟩
    · obtain ⟨M2, g1, g2, g3⟩ := cGatherSigns hW h
      refine ⟨M2, ?_, h.frS g3 (by intro k i; omega), g3.weak (fun k i h => by unfold zcS; omega)⟩
      unfold f_X9_signs
      rw [hcB M h, if_pos ha, g1]
      simp (disch := omega) only [Option.bind_some, zgd_in, nIc, g2 b (by omega)]
    · obtain ⟨M2, g1, g2⟩ := mSignsOf hW h.rc (show b < 64 by omega)
      refine ⟨M2, ?_, (h.frS hW g2 (by intro i; omega)).up, g2.weak (fun k i h => by unfold zmS; omega)⟩
      unfold f_X10_signs
      rw [hmB M h, Option.bind_some, nIsub (by omega), in_eq, if_pos ha, g1]; rfl
  · refine ⟨(-1 : Int32), A, hW.up, fun M h => ⟨M, ?_, h, zFr.refl M⟩, fun M h => ⟨M, ?_, h.up, zFr.refl M⟩⟩
    · unfold f_X9_signs; rw [hcB M h, ha]; rfl
    · unfold f_X10_signs; rw [hmB M h, Option.bind_some, nIsub (by omega), in_eq, ha]; rfl
noncomputable def zpas (A : zzA) (k : Nat) : Bool := decide (nI (zsgs A (zA_a A k)) &&& nI (zsgn (zA_h A k)) = nI (zsgn (zA_h A k))) && !decide (k ∈ zA_S A)
set_option maxHeartbeats 1000000 in
theorem op_passed (N : Nat) (a : Int32) : zSame N (f_X9_passed a) (f_X10_passed a) := by
  refine zSame.tr (fun hN A hW => ?_)
  have hB := hW.sB
  have hlen := hW.2.2.2.2.2.2.2.2.1.1
  rcases keyC a with ⟨ha, k, hk, rfl⟩ | ha
  · refine ⟨nI (zcnt (fun i => zpas A ((k + i) % 65536)) 256), A, hW.up, fun M h => ?_, fun M h => ?_⟩
    · obtain ⟨M2, g1, g2, g3⟩ := cGatherSigns hW h
      have h2 : zRC M2 12 A := h.frS g3 (by intro k i; omega)
      have hZ := zlp_forI (B := fun s : (Int32 × Int32 × zzMem) => b_X9_passed_17 (nI k) s.1 s.2.1 s.2.2) (fun t X => (nI (zcnt (fun i => zpas A ((k + i) % 65536)) t), nI t, X)) (fun t X => zFr (fun a _ => a = 15) M2 X) 256 (fun r => r.1 = nI (zcnt (fun i => zpas A ((k + i) % 65536)) 256) ∧ zFr (fun a _ => a = 15) M2 r.2) (fun t ht X hX => ?_) (fun X hX => ?_) 0 (by omega) M2 (zFr.refl M2)
      · obtain ⟨r, r1, r2, r3⟩ := hZ
        refine ⟨r.2, ?_, h2.frS r3 (by intro k i; omega), (g3.weak (fun k i h => by unfold zcS; omega)).trans (r3.weak (fun k i h => by unfold zcS; omega))⟩
        unfold f_X9_passed j_X9_passed_17
        rw [if_pos ha, g1, Option.bind_some, ← r2]
        exact r1
      · have hkk : (k + t) % 65536 < 65536 := Nat.mod_lt _ (by decide)
        have hmod : nI (k + t) &&& nI 65535 = nI ((k + t) % 65536) := nx_mod (k + t)
        obtain ⟨Y, y1, y2⟩ := cHash (o := 13) (h2.frS hX (by intro k i; omega)).2.1 hW.hok hkk
        generalize hkd : (k + t) % 65536 = kk at hkk hmod y1
        have y1 : f_X3_hashOf 13 (nI kk) X = some (nI (zA_h A kk), Y) := y1
        have fY : zFr (fun a _ => a = 15) M2 Y := hX.trans (y2.weak (fun k i h => by omega))
        have hY : zRC Y 12 A := h2.frS fY (by intro k i; omega)
        have hh : zA_h A kk < 65536 := zhs_lt hkk hW.hok.1
        have hal := hW.adr kk
        have hv : Y.1 72 (zA_a A kk) = nI (zsgs A (zA_a A kk)) := by rw [(fY _ _ (by omega)).1]; exact g2 _ (by omega)
        refine ⟨Y, ?_, fY⟩
        show b_X9_passed_17 (nI k) _ (nI t) X = _
        unfold b_X9_passed_17 j_X9_passed_80
        rw [zcnt, hkd]
        simp (disch := omega) only [ifLe_f, nIadd, hmod, zbd, y1, Option.bind_some, zpr, cSign hh, cAdr hW hY.1 hkk, zgd_in, nIc, hv, cHolds hW hY hkk]
        unfold zpas
        by_cases hd : nI (zsgs A (zA_a A kk)) &&& nI (zsgn (zA_h A kk)) = nI (zsgn (zA_h A kk))
        · by_cases hm : kk ∈ zA_S A
          · simp only [hd, hm, decide_true, if_true, Bool.not_true, Bool.and_false, Bool.false_eq_true, if_false, Nat.add_zero]
          · simp only [hd, hm, decide_true, decide_false, if_true, Bool.not_false, Bool.and_true, Bool.false_eq_true, if_false]
        · simp only [hd, decide_false, Bool.false_and, Bool.false_eq_true, if_false, Nat.add_zero]
      · refine ⟨(nI (zcnt (fun i => zpas A ((k + i) % 65536)) 256), X), ?_, rfl, hX⟩
        show b_X9_passed_17 (nI k) _ (nI 256) X = _
        unfold b_X9_passed_17
        rw [ifLe_t (Nat.le_refl _) (by omega)]
    · have hZ := zlp_forI (B := fun s : (Int32 × Int32 × zzMem) => b_X10_passed_13 (nI k) s.1 s.2.1 s.2.2) (fun t X => (nI (zcnt (fun i => zpas A ((k + i) % 65536)) t), nI t, X)) (fun t X => zFr (fun a _ => a = 78) M X) 256 (fun r => r.1 = nI (zcnt (fun i => zpas A ((k + i) % 65536)) 256) ∧ zFr (fun a _ => a = 78) M r.2) (fun t ht X hX => ?_) (fun X hX => ?_) 0 (by omega) M (zFr.refl M)
      · obtain ⟨r, r1, r2, r3⟩ := hZ
        refine ⟨r.2, ?_, (h.frS hW r3 (by intro i; omega)).up, r3.weak (fun k i h => by unfold zmS; omega)⟩
        unfold f_X10_passed j_X10_passed_13
        rw [isKey_eq, if_pos ha, ← r2]
        exact r1
      · have hkk : (k + t) % 65536 < 65536 := Nat.mod_lt _ (by decide)
        have hmod : zrm (nI (k + t)) (nI 65536) = nI ((k + t) % 65536) := nIrem (by omega) (by omega) (by omega)
        have hX1 : zRM X 0 N A := h.frS hW hX (by intro i; omega)
        obtain ⟨Y, y1, y2⟩ := mHashOf hX1.2.1 hW.hok hkk
        generalize hkd : (k + t) % 65536 = kk at hkk hmod y1
        have y1 : f_X10_hashOf (nI kk) X = some (nI (zA_h A kk), Y) := y1
        have fY : zFr (fun a _ => a = 78) M Y := hX.trans y2
        have hY : zRM Y 0 N A := h.frS hW fY (by intro i; omega)
        have hh : zA_h A kk < 65536 := zhs_lt hkk hW.hok.1
        have hal := hW.adr kk
        obtain ⟨cm, xs, ke, ve, be, se, hcm, e, hm, hm3, hx, hc1⟩ := hY.rc.fx hW
        show ∃ M', b_X10_passed_13 (nI k) _ (nI t) X = _ ∧ _
        unfold b_X10_passed_13
        rw [zcnt, hkd]
        rcases mEntryOf (sl := 0) (s0 := 0) rfl (by omega) (by simpa using hm) hm3 e (fun x h => (hx x h).2.1) hkk with ⟨x, q1, q2, q3⟩ | ⟨q1, q2⟩
        · have hmem : kk ∈ zA_S A := (e.mem hW kk).mpr ⟨x, q1, q2⟩
          refine ⟨Y, ?_, fY⟩
          unfold zpas
          simp (disch := omega) only [ifLe_f, nIadd, hmod, zbd, y1, Option.bind_some, zpr, mSign hh, q3, ifm1, hmem, decide_true, Bool.not_true, Bool.and_false, Bool.false_eq_true, if_false, Nat.add_zero]
        · have hmem : kk ∉ zA_S A := fun hh => by obtain ⟨x, x1, x2⟩ := (e.mem hW kk).mp hh; exact q1 x x1 x2
          obtain ⟨Z, z1, z2⟩ := mAdr hW hY.1 hY.2.1 hkk
          obtain ⟨V, v1, v2⟩ := mSignsOf (b := zA_a A kk) hW (hY.rc.frS hW z2 (by intro i; omega)) (by omega)
          refine ⟨V, ?_, (fY.trans z2).trans v2⟩
          unfold zpas
          simp (disch := omega) only [ifLe_f, nIadd, hmod, zbd, y1, Option.bind_some, zpr, mSign hh, q2, if_true, z1, v1, hmem, decide_false, Bool.not_false, Bool.and_true]
          by_cases hd : nI (zsgs A (zA_a A kk)) &&& nI (zsgn (zA_h A kk)) = nI (zsgn (zA_h A kk))
          · rw [if_pos hd, decide_eq_true hd]; rfl
          · rw [if_neg hd, decide_eq_false hd]; rfl
      · refine ⟨(nI (zcnt (fun i => zpas A ((k + i) % 65536)) 256), X), ?_, rfl, hX⟩
        show b_X10_passed_13 (nI k) _ (nI 256) X = _
        unfold b_X10_passed_13
        rw [ifLe_t (Nat.le_refl _) (by omega)]
  · refine ⟨(-1 : Int32), A, hW.up, fun M h => ⟨M, ?_, h, zFr.refl M⟩, fun M h => ⟨M, ?_, h.up, zFr.refl M⟩⟩
    · unfold f_X9_passed; rw [ha]; rfl
    · unfold f_X10_passed; rw [isKey_eq, ha]; rfl
