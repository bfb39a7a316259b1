/-! ===== keys counted by the bucket that they would have ===== -/
theorem zadr_lb {s p h : Nat} (hs : 1 ≤ s) (hp : p ≤ s) : zadr s p h < s + p ∨ p = 0 ∧ zadr s p h < s := by
  obtain ⟨m1, m2⟩ := zmod2 h hs
  unfold zadr
  by_cases hr : h % s < p
  · rw [if_pos hr]; omega
  · rw [if_neg hr]; omega
theorem zwh_lb {n b h : Nat} (h1 : 1 ≤ n) (h2 : n ≤ b) (h3 : b ≤ 64) : zwh n b h < b := by
  obtain ⟨s1, s2, s3⟩ := zsj_ok h1 h2 h3
  obtain ⟨t1, t2⟩ := zspn_le h1 h2 h3
  have hlt : b < 2 * zspn n b := by
    unfold zspn
    rw [Nat.pow_succ, ← Nat.mul_assoc] at s3
    omega
  have := zadr_lb (s := zspn n b) (p := b - zspn n b) (h := h) (by omega) (by omega)
  unfold zwh
  omega
noncomputable def zcK (A : zzA) (b i : Nat) : Nat := zcnt (fun j => decide (zwh (zA_n A) b (zA_h A ((zA_S A).getD j 0)) = i)) (zA_S A).length
section CN
variable {N : Nat} {A : zzA}
theorem zcK_le (A : zzA) (b i : Nat) : zcK A b i ≤ (zA_S A).length := zcnt_le _ _
theorem cCounts {M : zzMem} {b : Nat} (hW : zWF N A) (h : zRC M 12 A) (h2 : zA_n A ≤ b) (h3 : b ≤ 64) : ∃ M', f_X9_countAmong (nI b) M = some M' ∧ (∀ i, i < 64 → M'.1 72 i = nI (zcK A b i)) ∧ zFr (fun a _ => a = 72) M M' := by
  have hlen := hW.2.2.2.2.2.2.2.2.1.1
  have hn : 1 ≤ zA_n A ∧ zA_n A ≤ 4 := ⟨hW.1.1, hW.1.2.1⟩
  obtain ⟨M1, f1, f2, f3⟩ := cFill (p := 72) (n := 64) (v := nI 0) M (by decide)
  have h1 : zRC M1 12 A := h.frS f3 (by intro k i; omega)
  have hsp := cSpanAmong (o := 12) (b := b) h1.1.1 hn.1 h2 h3
  obtain ⟨t1, t2⟩ := zspn_le hn.1 h2 h3
  have hZ := zlp_forI (B := fun s : (Int32 × zzMem) => b_X9_countAmong_19 (nI b) (nI (zspn (zA_n A) b)) s.1 s.2) (fun t X => (nI t, X)) (fun t X => zFr (fun a _ => a = 72) M1 X ∧ ∀ i, i < 64 → X.1 72 i = nI (zcnt (fun j => decide (zwh (zA_n A) b (zA_h A ((zA_S A).getD j 0)) = i)) t)) (zA_S A).length (fun r => (∀ i, i < 64 → r.1 72 i = nI (zcK A b i)) ∧ zFr (fun a _ => a = 72) M r) (fun t ht X hX => ?_) (fun X hX => ?_) 0 (by omega) M1 ⟨zFr.refl M1, fun i hi => by rw [f2 i hi]; rfl⟩
  · obtain ⟨r, r1, r2⟩ := hZ
    refine ⟨r, ?_, r2⟩
    unfold f_X9_countAmong j_X9_countAmong_19
    rw [f1, Option.bind_some, hsp, Option.bind_some]
    exact r1
  · obtain ⟨x1, x2⟩ := hX
    have hXc : zRC X 12 A := h1.frS x1 (by intro k i; omega)
    have hs1 : X.1 27 1 = nI (zA_S A).length := hXc.2.2.2.1.1
    have hk := hW.key (List.mem_of_getElem? (zgetD ht))
    have hh : zA_h A ((zA_S A).getD t 0) < 65536 := zhs_lt hk hW.hok.1
    have hwl := zwh_lb (h := zA_h A ((zA_S A).getD t 0)) hn.1 h2 h3
    have hadr : f_X2_address (nI (zA_h A ((zA_S A).getD t 0))) (nI (zspn (zA_n A) b)) (nI b - nI (zspn (zA_n A) b)) = some (nI (zwh (zA_n A) b (zA_h A ((zA_S A).getD t 0)))) := by
      rw [nIsub t1, cAddr hh (by omega) (by omega) (by omega)]; rfl
    have hv := x2 (zwh (zA_n A) b (zA_h A ((zA_S A).getD t 0))) (by omega)
    refine ⟨zz_si X 72 (zwh (zA_n A) b (zA_h A ((zA_S A).getD t 0))) (nI (zcnt (fun j => decide (zwh (zA_n A) b (zA_h A ((zA_S A).getD j 0)) = zwh (zA_n A) b (zA_h A ((zA_S A).getD t 0)))) t + 1)), ?_, x1.trans (zFr.si rfl), fun i hi => ?_⟩
    · show b_X9_countAmong_19 (nI b) (nI (zspn (zA_n A) b)) (nI t) X = _
      unfold b_X9_countAmong_19
      rw [hs1, ifLe_f ht (by omega), cHashAt hW hXc ht, Option.bind_some, hadr]
      simp (disch := omega) only [Option.bind_some, zgd_in, nIc, hv, zbd, nIadd]
    · rw [zcnt]
      by_cases hi2 : zwh (zA_n A) b (zA_h A ((zA_S A).getD t 0)) = i
      · rw [hi2, rd_eq, decide_eq_true rfl, if_pos rfl]
      · rw [rd_ne (by omega), x2 i hi, decide_eq_false hi2, if_neg (by decide)]; rfl
  · obtain ⟨x1, x2⟩ := hX
    have hXc : zRC X 12 A := h1.frS x1 (by intro k i; omega)
    have hs1 : X.1 27 1 = nI (zA_S A).length := hXc.2.2.2.1.1
    refine ⟨X, ?_, x2, f3.trans x1⟩
    show b_X9_countAmong_19 (nI b) (nI (zspn (zA_n A) b)) (nI (zA_S A).length) X = _
    unfold b_X9_countAmong_19
    rw [hs1, ifLe_t (Nat.le_refl _) (by omega)]
theorem mCounts {M : zzMem} {C b : Nat} (hW : zWF N A) (h : zRc M 0 C A) (h2 : zA_n A ≤ b) (h3 : b ≤ 64) : ∃ M', f_X10_countsIn (nI b) M = some M' ∧ (∀ i, i < 64 → M'.1 86 i = nI (zcK A b i)) ∧ zFr (fun a _ => a = 78 ∨ a = 86) M M' := by
  obtain ⟨cm, xs, ke, ve, be, se, hcm, e, hm, hm3, hx, hc1⟩ := h.fx hW
  have hn : 1 ≤ zA_n A ∧ zA_n A ≤ 4 := ⟨hW.1.1, hW.1.2.1⟩
  have hcK : ∀ i, zcK A b i = zcnt (fun x => decide (zwh (zA_n A) b (zA_h A (ke x)) = i)) (zA_S A).length := fun i => zcnt_keys hW e (fun k => decide (zwh (zA_n A) b (zA_h A k) = i))
  have hloop : ∀ Y, zFr (fun a _ => a = 86) M Y → (∀ i, i < 64 → Y.1 86 i = nI 0) → ∃ r, j_X10_countsIn_23 (nI b) (nI 0) Y = some r ∧ (∀ i, i < 64 → r.1 86 i = nI (zcK A b i)) ∧ zFr (fun a _ => a = 78 ∨ a = 86) M r := by
    intro Y fY hY
    unfold j_X10_countsIn_23
    refine zlp_forI (B := fun s : (Int32 × zzMem) => b_X10_countsIn_23 (nI b) s.1 s.2) (fun t X => (nI t, X)) (fun t X => zFr (fun a _ => a = 78 ∨ a = 86) M X ∧ ∀ i, i < 64 → X.1 86 i = nI (zcnt (fun x => decide (zwh (zA_n A) b (zA_h A (ke x)) = i)) t)) (zA_S A).length (fun r => (∀ i, i < 64 → r.1 86 i = nI (zcK A b i)) ∧ zFr (fun a _ => a = 78 ∨ a = 86) M r) (fun t ht X hX => ?_) (fun X hX => ?_) 0 (by omega) Y ⟨fY.weak (fun k i h => Or.inr h), fun i hi => by rw [hY i hi]; rfl⟩
    · obtain ⟨x1, x2⟩ := hX
      have hk : ke t < 65536 := (hx t ht).2.1
      have hke : X.1 74 (40 + t) = nI (ke t) := by rw [(x1 _ _ (by omega)).1]; have := (e.2.1 t ht).1; simpa using this
      have hmX : X.1 74 7 = nI (zA_S A).length := by rw [(x1 _ _ (by omega)).1]; exact hm
      have hm0 : X.1 74 0 = nI (zA_n A) := by rw [(x1 _ _ (by omega)).1]; exact h.1.1
      obtain ⟨X5, w1, w2⟩ := mWhereIn hm0 hn.1 h2 h3 (h.2.1.frS hW.hok.2 x1 (by intro i hi; omega)) hW.hok hk
      have w1 : f_X10_whereIn (nI (ke t)) (nI b) X = some (nI (zwh (zA_n A) b (zA_h A (ke t))), X5) := w1
      have hwl := zwh_lb (h := zA_h A (ke t)) hn.1 h2 h3
      have hv : X5.1 86 (zwh (zA_n A) b (zA_h A (ke t))) = nI (zcnt (fun x => decide (zwh (zA_n A) b (zA_h A (ke x)) = zwh (zA_n A) b (zA_h A (ke t)))) t) := by rw [(w2 _ _ (by omega)).1]; exact x2 (zwh (zA_n A) b (zA_h A (ke t))) (by omega)
      refine ⟨zz_si X5 86 (zwh (zA_n A) b (zA_h A (ke t))) (nI (zcnt (fun x => decide (zwh (zA_n A) b (zA_h A (ke x)) = zwh (zA_n A) b (zA_h A (ke t)))) t + 1)), ?_, (x1.trans (w2.weak (fun k i h => Or.inl h))).trans (zFr.si (Or.inr rfl)), fun i hi => ?_⟩
      · show b_X10_countsIn_23 (nI b) (nI t) X = _
        unfold b_X10_countsIn_23
        simp (disch := omega) only [hmX, ifLe_f, nIadd, zgd_in, nIc, hke, w1, Option.bind_some, zpr, hv, zbd]
      · rw [zcnt]
        by_cases hi2 : zwh (zA_n A) b (zA_h A (ke t)) = i
        · rw [hi2, rd_eq, decide_eq_true rfl, if_pos rfl]
        · rw [rd_ne (by omega), (w2 _ _ (by omega)).1, x2 i hi, decide_eq_false hi2, if_neg (by decide)]; rfl
    · obtain ⟨x1, x2⟩ := hX
      have hmX : X.1 74 7 = nI (zA_S A).length := by rw [(x1 _ _ (by omega)).1]; exact hm
      refine ⟨X, ?_, fun i hi => by rw [x2 i hi, hcK], x1⟩
      show b_X10_countsIn_23 (nI b) (nI (zA_S A).length) X = _
      unfold b_X10_countsIn_23
      rw [hmX, ifLe_t (Nat.le_refl _) (by omega)]
  unfold f_X10_countsIn j_X10_countsIn_2
  refine zlp_forI (B := fun s : (Int32 × zzMem) => b_X10_countsIn_2 (nI b) s.1 s.2) (fun t X => (nI t, X)) (fun t X => zFr (fun a _ => a = 86) M X ∧ ∀ i, i < t → X.1 86 i = nI 0) 64 (fun r => (∀ i, i < 64 → r.1 86 i = nI (zcK A b i)) ∧ zFr (fun a _ => a = 78 ∨ a = 86) M r) (fun t ht X hX => ?_) (fun X hX => ?_) 0 (by omega) M ⟨zFr.refl M, fun i hi => by omega⟩
  · obtain ⟨x1, x2⟩ := hX
    refine ⟨zz_si X 86 t (nI 0), ?_, x1.trans (zFr.si rfl), fun i hi => ?_⟩
    · show b_X10_countsIn_2 (nI b) (nI t) X = _
      unfold b_X10_countsIn_2
      simp (disch := omega) only [ifLe_f, zgd_in, nIc, zbd, nIadd]
    · by_cases hit : i = t
      · rw [hit, rd_eq]
      · rw [rd_ne (by omega)]; exact x2 i (by omega)
  · obtain ⟨x1, x2⟩ := hX
    obtain ⟨r, r1, r2⟩ := hloop X x1 x2
    refine ⟨r, ?_, r2⟩
    show b_X10_countsIn_2 (nI b) (nI 64) X = _
    unfold b_X10_countsIn_2
    rw [ifLe_t (Nat.le_refl _) (by omega), r1]; rfl
noncomputable def zmst (A : zzA) (b : Nat) : Nat := zmaxf (zcK A b) b
theorem zmst_le (hW : zWF N A) (b : Nat) : zmst A b ≤ 300 := by
  have hlen := hW.2.2.2.2.2.2.2.2.1.1
  exact zmaxf_le (fun i => Nat.le_trans (zcK_le A b i) hlen) b
theorem zmxf_le (hW : zWF N A) (b t : Nat) : zmaxf (zcK A b) t ≤ 300 := by
  have hlen := hW.2.2.2.2.2.2.2.2.1.1
  exact zmaxf_le (fun i => Nat.le_trans (zcK_le A b i) hlen) t
theorem cMostIn {M : zzMem} {b : Nat} (hW : zWF N A) (h : zRC M 12 A) (h2 : zA_n A ≤ b) (h3 : b ≤ 64) : ∃ M', f_X9_mostIn (nI b) M = some (nI (zmst A b), M') ∧ zFr (fun a _ => a = 72) M M' := by
  obtain ⟨M1, c1, c2, c3⟩ := cCounts hW h h2 h3
  refine ⟨M1, ?_, c3⟩
  have hlen := hW.2.2.2.2.2.2.2.2.1.1
  unfold f_X9_mostIn j_X9_mostIn_9
  rw [c1, Option.bind_some]
  refine zlp_for (B := fun s : (Int32 × Int32) => b_X9_mostIn_9 (nI b) s.1 s.2 M1) (fun t => (nI (zmaxf (zcK A b) t), nI t)) b _ (fun t ht => ?_) ?_ 0 (by omega)
  · show b_X9_mostIn_9 (nI b) (nI (zmaxf (zcK A b) t)) (nI t) M1 = _
    have h1 := zmxf_le hW b t
    have h2 := zcK_le A b t
    unfold b_X9_mostIn_9
    simp (disch := omega) only [ifLe_f, zgd_in, nIc, c2, zbd, nIadd, zmx_nI]
    rfl
  · show b_X9_mostIn_9 (nI b) (nI (zmaxf (zcK A b) b)) (nI b) M1 = _
    unfold b_X9_mostIn_9
    rw [ifLe_t (Nat.le_refl _) (by omega)]; rfl
end CN
theorem op_enough (N : Nat) (a : Int32) : zSame N (f_X9_enough a) (f_X10_enough a) := by
  refine zSame.tr (fun hN A hW => ?_)
  have hn : 1 ≤ zA_n A ∧ zA_n A ≤ 4 := ⟨hW.1.1, hW.1.2.1⟩
  rcases inC a 1 300 (by decide) (by decide) with ⟨ha, k, hk1, hk2, rfl⟩ | ha
  · let p : Nat → Bool := fun b => decide (zmst A b ≤ k)
    obtain ⟨b1, b2, b3, b4⟩ := zfs_ok p (65 - zA_n A) (zA_n A)
    have b5 : zfs p (zA_n A) (65 - zA_n A) ≤ 65 := by omega
    have b6 : zfs p (zA_n A) (65 - zA_n A) < 65 → zmst A (zfs p (zA_n A) (65 - zA_n A)) ≤ k := fun hh => by
      have : p (zfs p (zA_n A) (65 - zA_n A)) = true := b4 (by omega)
      simpa [p] using this
    have b7 : ∀ b, zA_n A ≤ b → b < zfs p (zA_n A) (65 - zA_n A) → k < zmst A b := fun b h1 h2 => by
      have : p b = false := b3 b h1 h2
      have : ¬ zmst A b ≤ k := by simpa [p] using this
      omega
    generalize hzd : zfs p (zA_n A) (65 - zA_n A) = z at b1 b5 b6 b7
    refine ⟨if z = 65 then (-2 : Int32) else nI z, A, hW.up, fun M h => ?_, fun M h => ?_⟩
    · have hZ := zlp_forI (B := fun s : (Int32 × zzMem) => b_X9_enough_21 (nI k) s.1 s.2) (fun t X => (nI (zA_n A + t), X)) (fun t X => zFr (fun a _ => a = 72) M X) (z - zA_n A) (fun r => r.1 = (if z = 65 then (-2 : Int32) else nI z) ∧ zFr (fun a _ => a = 72) M r.2) (fun t ht X hX => ?_) (fun X hX => ?_) 0 (by omega) M (zFr.refl M)
      · obtain ⟨r, r1, r2, r3⟩ := hZ
        refine ⟨r.2, ?_, h.frS r3 (by intro k i; omega), r3.weak (fun k i h => by unfold zcS; omega)⟩
        have h4 : M.1 12 4 = nI (zA_n A) := h.1.1
        unfold f_X9_enough j_X9_enough_21
        rw [if_pos ha, h4, ← r2]
        exact r1
      · obtain ⟨X', c1, c2⟩ := cMostIn (b := zA_n A + t) hW (h.frS hX (by intro k i; omega)) (by omega) (by omega)
        have hlt := b7 (zA_n A + t) (by omega) (by omega)
        have := zmst_le hW (zA_n A + t)
        refine ⟨X', ?_, hX.trans c2⟩
        show b_X9_enough_21 (nI k) (nI (zA_n A + t)) X = _
        unfold b_X9_enough_21
        simp (disch := omega) only [ifLt_f, c1, Option.bind_some, zpr, ifLt_t, zbd, nIadd]
        rfl
      · show ∃ r, b_X9_enough_21 (nI k) (nI (zA_n A + (z - zA_n A))) X = _ ∧ _
        rw [show zA_n A + (z - zA_n A) = z by omega]
        unfold b_X9_enough_21
        by_cases hz : z = 65
        · refine ⟨((-2 : Int32), X), ?_, by rw [if_pos hz], hX⟩
          rw [ifLt_t (by omega) (by omega)]
        · obtain ⟨X', c1, c2⟩ := cMostIn (b := z) hW (h.frS hX (by intro k i; omega)) (by omega) (by omega)
          have hle := b6 (by omega)
          refine ⟨(nI z, X'), ?_, by rw [if_neg hz], hX.trans c2⟩
          simp (disch := omega) only [ifLt_f, c1, Option.bind_some, zpr]
    · have hinner : ∀ b, zA_n A ≤ b → b ≤ 64 → ∀ Y, (∀ i, i < 64 → Y.1 86 i = nI (zcK A b i)) → j_X10_enough_36 (nI k) (nI b) (nI 0) (nI 0) Y = if k < zmst A b then some (.inl (nI (b + 1), Y)) else some (.inr (nI b, Y)) := by
        intro b h1 h2 Y hY
        unfold j_X10_enough_36
        have hgo := zlp_for (B := fun s : (Int32 × Int32) => b_X10_enough_36 (nI k) (nI b) s.1 s.2 Y) (fun t => (nI (zmaxf (zcK A b) t), nI t)) b (if k < zmst A b then .inl (nI (b + 1), Y) else .inr (nI b, Y)) (fun t ht => ?_) ?_ 0 (by omega)
        · refine Eq.trans hgo ?_
          split <;> rfl
        · show b_X10_enough_36 (nI k) (nI b) (nI (zmaxf (zcK A b) t)) (nI t) Y = _
          have h1 := zmxf_le hW b t
          have h2 := zcK_le A b t
          have hlen := hW.2.2.2.2.2.2.2.2.1.1
          unfold b_X10_enough_36
          simp (disch := omega) only [ifLe_f, zgd_in, nIc, hY, zbd, nIadd, mmx_nI]
          rfl
        · show b_X10_enough_36 (nI k) (nI b) (nI (zmst A b)) (nI b) Y = _
          have := zmst_le hW b
          unfold b_X10_enough_36
          rw [ifLe_t (Nat.le_refl _) (by omega)]
          simp only [zbd, nIadd]
          by_cases hlt : k < zmst A b
          · rw [ifLt_t hlt (by omega), if_pos hlt]
          · rw [ifLt_f (by omega) (by omega), if_neg hlt]
      have hZ := zlp_forI (B := fun s : (Int32 × zzMem) => b_X10_enough_20 (nI k) s.1 s.2) (fun t X => (nI (zA_n A + t), X)) (fun t X => zFr (fun a _ => a = 78 ∨ a = 86) M X) (z - zA_n A) (fun r => r.1 = (if z = 65 then (-2 : Int32) else nI z) ∧ zFr (fun a _ => a = 78 ∨ a = 86) M r.2) (fun t ht X hX => ?_) (fun X hX => ?_) 0 (by omega) M (zFr.refl M)
      · obtain ⟨r, r1, r2, r3⟩ := hZ
        refine ⟨r.2, ?_, (h.frS hW r3 (by intro i; omega)).up, r3.weak (fun k i h => by unfold zmS; omega)⟩
        have h4 : M.1 74 0 = nI (zA_n A) := h.1.1
        unfold f_X10_enough j_X10_enough_20
        rw [in_eq, if_pos ha, h4, ← r2]
        exact r1
      · obtain ⟨X', c1, c2, c3⟩ := mCounts (b := zA_n A + t) hW (h.rc.frS hW hX (by intro i; omega)) (by omega) (by omega)
        have hlt := b7 (zA_n A + t) (by omega) (by omega)
        refine ⟨X', ?_, hX.trans c3⟩
        show b_X10_enough_20 (nI k) (nI (zA_n A + t)) X = _
        unfold b_X10_enough_20
        rw [ifLt_f (by omega) (by omega), c1, Option.bind_some, hinner _ (by omega) (by omega) X' c2, if_pos hlt]
        rfl
      · show ∃ r, b_X10_enough_20 (nI k) (nI (zA_n A + (z - zA_n A))) X = _ ∧ _
        rw [show zA_n A + (z - zA_n A) = z by omega]
        unfold b_X10_enough_20
        by_cases hz : z = 65
        · refine ⟨((-2 : Int32), X), ?_, by rw [if_pos hz], hX⟩
          rw [ifLt_t (by omega) (by omega)]
        · obtain ⟨X', c1, c2, c3⟩ := mCounts (b := z) hW (h.rc.frS hW hX (by intro i; omega)) (by omega) (by omega)
          have hle := b6 (by omega)
          refine ⟨(nI z, X'), ?_, by rw [if_neg hz], hX.trans c3⟩
          rw [ifLt_f (by omega) (by omega), c1, Option.bind_some, hinner _ (by omega) (by omega) X' c2, if_neg (by omega)]
  · refine ⟨(-1 : Int32), A, hW.up, fun M h => ⟨M, ?_, h, zFr.refl M⟩, fun M h => ⟨M, ?_, h.up, zFr.refl M⟩⟩
    · unfold f_X9_enough; rw [ha]; rfl
    · unfold f_X10_enough; rw [in_eq, ha]; rfl
/-! ===== the file laid out anew ===== -/
theorem zrs_f {c : Nat} (hc : 1 ≤ c) : ∀ q r, r ≤ c → zsum (fun i => i / c + 1) (c * q + r) = c * (q * (q + 1) / 2) + r * (q + 1)
  | 0, 0, _ => by simp [zsum]
  | q + 1, 0, _ => by
    have h1 := zrs_f hc q c (Nat.le_refl _)
    rw [show c * (q + 1) + 0 = c * q + c by rw [Nat.mul_add, Nat.mul_one]; omega, h1]
    have h2 : (q + 1) * (q + 1 + 1) / 2 = q * (q + 1) / 2 + (q + 1) := by
      rw [show (q + 1) * (q + 1 + 1) = q * (q + 1) + (q + 1) * 2 by rw [Nat.mul_add (q + 1) (q + 1) 1, Nat.add_mul q 1 (q + 1)]; omega, Nat.add_mul_div_right _ _ (by omega)]
    rw [h2, Nat.mul_add c (q * (q + 1) / 2) (q + 1), Nat.zero_mul]; rfl
  | q, r + 1, hr => by
    have h1 := zrs_f hc q r (by omega)
    rw [show c * q + (r + 1) = (c * q + r) + 1 by omega, zsum, h1, Nat.mul_add_div (by omega), Nat.div_eq_of_lt (show r < c by omega), Nat.add_mul r 1 (q + 1)]
    omega
  termination_by q r => (q, r)
def zrs (c k : Nat) : Nat := zsum (fun i => i / c + 1) k
theorem zrs_eq {c k : Nat} (hc : 1 ≤ c) : zrs c k = c * (k / c * (k / c + 1) / 2) + k % c * (k / c + 1) := by
  have h1 := zrs_f hc (k / c) (k % c) (Nat.le_of_lt (Nat.mod_lt _ (by omega)))
  rw [Nat.div_add_mod] at h1
  exact h1
section AN
variable {N : Nat} {A : zzA}
theorem cPagesFor {c k : Nat} (h2 : 2 ≤ c) (h6 : c ≤ 6) (hk : k ≤ 300) : f_X9_pagesFor (nI k) (nI c) = some (nI (zpgs c k)) := by
  unfold f_X9_pagesFor zpgs
  have hd : (k + c - 1) / c ≤ k + c - 1 := Nat.div_le_self _ _
  rw [ifLe_t (by omega) (by omega), zgd_t (nI_ne0 (by omega) (by omega)), nIadd, nIsub (by omega), nIdiv (by omega) (by omega) (by omega), zmx_nI (by omega) (by omega)]
theorem cReadsOfAll {c k : Nat} (h2 : 2 ≤ c) (h6 : c ≤ 6) (hk : k ≤ 300) : f_X9_readsOfAll (nI k) (nI c) = some (nI (zrs c k)) := by
  unfold f_X9_readsOfAll
  have hd : k / c ≤ k := Nat.div_le_self _ _
  have hm : k / c * (k / c + 1) ≤ 300 * 301 := Nat.mul_le_mul (by omega) (by omega)
  rw [ifLe_t (by omega) (by omega), zgd_t (nI_ne0 (by omega) (by omega)), zrs_eq (by omega)]
  simp only [zbd]
  rw [nIdiv (by omega) (by omega) (by omega), nIadd, nImul, nIdiv (by omega) (by omega) (by omega), nIrem (by omega) (by omega) (by omega), nImul, nImul, nIadd]
end AN
set_option maxHeartbeats 1000000 in
theorem op_anew (N : Nat) (a b : Int32) : zSame N (f_X9_anew a b) (f_X10_anew a b) := by
  refine zSame.tr (fun hN A hW => ?_)
  have hn : 1 ≤ zA_n A ∧ zA_n A ≤ 4 := ⟨hW.1.1, hW.1.2.1⟩
  have hc := hW.c2
  have hlen := hW.2.2.2.2.2.2.2.2.1.1
  have hc4 : ∀ M, zRC M 12 A → f_X9_isAmount a M = f_X9_within a (nI (zA_n A)) (nI 64) := fun M h => by
    have : M.1 12 4 = nI (zA_n A) := h.1.1
    unfold f_X9_isAmount; rw [this]
  have hm4 : ∀ M, zRM M 0 N A → f_X10_isMany a M = some (f_X9_within a (nI (zA_n A)) (nI 64)) := fun M h => by
    have : M.1 74 0 = nI (zA_n A) := h.1.1
    unfold f_X10_isMany; rw [this, in_eq]
  rcases inC a (zA_n A) 64 (by decide) (by omega) with ⟨ha, x, hx1, hx2, rfl⟩ | ha
  · rcases inC b 0 3 (by decide) (by decide) with ⟨hb, w, -, hw, rfl⟩ | hb
    · let F : Nat → Nat := fun t => zsum (fun i => zpgs (zA_c A) (zcK A x i)) t
      let G : Nat → Nat := fun t => zmaxf (fun i => zpgs (zA_c A) (zcK A x i)) t
      let H : Nat → Nat := fun t => zcnt (fun i => decide (zcK A x i = 0)) t
      let K : Nat → Nat := fun t => zsum (fun i => zrs (zA_c A) (zcK A x i)) t
      have hpg : ∀ i, zpgs (zA_c A) (zcK A x i) ≤ 400 := fun i => by
        have h1 := zcK_le A x i
        have h2 : (zcK A x i + zA_c A - 1) / zA_c A ≤ zcK A x i + zA_c A - 1 := Nat.div_le_self _ _
        unfold zpgs; omega
      have hGl : ∀ t, G t ≤ 400 := fun t => zmaxf_le hpg t
      refine ⟨if w = 0 then nI (F x) else if w = 1 then nI (G x) else if w = 2 then nI (H x) else nI (K x), A, hW.up, fun M h => ?_, fun M h => ?_⟩
      · obtain ⟨M3, c1, c2, c3⟩ := cCounts hW h hx1 hx2
        have h11 : M3.1 16 11 = nI (zA_c A) := by rw [(c3 _ _ (by omega)).1]; exact h.1.2.2.2.2.2.2.2.2.2.2.2
        refine ⟨M3, ?_, h.frS c3 (by intro k i; omega), c3.weak (fun k i h => by unfold zcS; omega)⟩
        have hZ := zlp_for (B := fun s : (Int32 × Int32 × Int32 × Int32 × Int32) => b_X9_anew_50 (nI x) (nI w) s.1 s.2.1 s.2.2.1 s.2.2.2.1 (nI (zA_c A)) s.2.2.2.2 M3) (fun t => (nI (F t), nI (G t), nI (H t), nI (K t), nI t)) x (if w = 0 then nI (F x) else if w = 1 then nI (G x) else if w = 2 then nI (H x) else nI (K x), M3) (fun t ht => ?_) ?_ 0 (by omega)
        · unfold f_X9_anew j_X9_anew_50
          rw [hc4 M h, if_pos ha, if_pos hb, c1]
          simp only [Option.bind_some, zbd, h11]
          exact hZ
        · show b_X9_anew_50 (nI x) (nI w) (nI (F t)) (nI (G t)) (nI (H t)) (nI (K t)) (nI (zA_c A)) (nI t) M3 = some (.inl (nI (F (t + 1)), nI (G (t + 1)), nI (H (t + 1)), nI (K (t + 1)), nI (t + 1)))
          have hk := zcK_le A x t
          have hg := hGl t
          have hp := hpg t
          have hv := c2 t (by omega)
          have e1 : F (t + 1) = F t + zpgs (zA_c A) (zcK A x t) := rfl
          have e2 : G (t + 1) = max (G t) (zpgs (zA_c A) (zcK A x t)) := rfl
          have e3 : H (t + 1) = H t + (if decide (zcK A x t = 0) = true then 1 else 0) := rfl
          have e4 : K (t + 1) = K t + zrs (zA_c A) (zcK A x t) := rfl
          rw [e1, e2, e3, e4]
          unfold b_X9_anew_50 j_X9_anew_101
          simp (disch := omega) only [ifLe_f, zgd_in, nIc, hv, cPagesFor hc.1 hc.2 (show zcK A x t ≤ 300 by omega), Option.bind_some, zbd, nIadd, zmx_nI, cReadsOfAll hc.1 hc.2 (show zcK A x t ≤ 300 by omega)]
          by_cases h0 : zcK A x t = 0
          · rw [ifE0_t h0, decide_eq_true h0, if_pos rfl, zb_t, nIadd]
          · rw [ifE0_f (by omega) (by omega), decide_eq_false h0, if_neg (by decide), zb_f, nIadd]
        · show b_X9_anew_50 (nI x) (nI w) (nI (F x)) (nI (G x)) (nI (H x)) (nI (K x)) (nI (zA_c A)) (nI x) M3 = _
          unfold b_X9_anew_50
          rw [ifLe_t (Nat.le_refl _) (by omega)]
          rcases (show w = 0 ∨ w = 1 ∨ w = 2 ∨ w = 3 by omega) with rfl | rfl | rfl | rfl
          · simp (disch := omega) only [ifEq_t, if_true]
          · simp (disch := omega) only [ifEq_t, ifEq_f, if_true, Nat.one_ne_zero, if_false]
          · simp (disch := omega) only [ifEq_t, ifEq_f, if_true, if_false]; rfl
          · simp (disch := omega) only [ifEq_t, ifEq_f, if_true, if_false]; rfl
      · obtain ⟨M3, c1, c2, c3⟩ := mCounts hW h.rc hx1 hx2
        have h11 : M3.1 74 1 = nI (zA_c A) := by rw [(c3 _ _ (by omega)).1]; exact h.1.2.1
        refine ⟨M3, ?_, (h.frS hW c3 (by intro i; omega)).up, c3.weak (fun k i h => by unfold zmS; omega)⟩
        have hin : ∀ (t : Nat) (v3 v4 v5 : Int32) (R : Nat), t < x → j_X10_anew_103 (nI x) (nI w) v3 v4 v5 (nI R) (nI t) M3 = some (.inl (v3, v4, v5, nI (R + zrs (zA_c A) (zcK A x t)), nI (t + 1))) := by
          intro t v3 v4 v5 R ht
          have hk := zcK_le A x t
          have hv := c2 t (by omega)
          unfold j_X10_anew_103 j_X10_anew_106
          refine zlp_for (B := fun s : (Int32 × Int32) => b_X10_anew_106 (nI x) (nI w) v3 v4 v5 s.1 (nI t) s.2 M3) (fun j => (nI (R + zrs (zA_c A) j), nI j)) (zcK A x t) _ (fun j hj => ?_) ?_ 0 (by omega)
          · show b_X10_anew_106 (nI x) (nI w) v3 v4 v5 (nI (R + zrs (zA_c A) j)) (nI t) (nI j) M3 = _
            unfold b_X10_anew_106
            simp (disch := omega) only [zgd_in, nIc, hv, ifLe_f, h11, nIdiv, nIadd, zbd]
            rw [zgd_t (nI_ne0 (by omega) (by omega))]
            have e1 : zrs (zA_c A) (j + 1) = zrs (zA_c A) j + (j / zA_c A + 1) := rfl
            rw [e1, Nat.add_assoc, Nat.add_assoc]
          · show b_X10_anew_106 (nI x) (nI w) v3 v4 v5 (nI (R + zrs (zA_c A) (zcK A x t))) (nI t) (nI (zcK A x t)) M3 = _
            unfold b_X10_anew_106
            simp (disch := omega) only [zgd_in, nIc, hv, ifLe_t, zbd, nIadd]
        have hZ := zlp_for (B := fun s : (Int32 × Int32 × Int32 × Int32 × Int32) => b_X10_anew_38 (nI x) (nI w) s.1 s.2.1 s.2.2.1 s.2.2.2.1 s.2.2.2.2 M3) (fun t => (nI (F t), nI (G t), nI (H t), nI (K t), nI t)) x (if w = 0 then nI (F x) else if w = 1 then nI (G x) else if w = 2 then nI (H x) else nI (K x), M3) (fun t ht => ?_) ?_ 0 (by omega)
        · unfold f_X10_anew j_X10_anew_38
          rw [hm4 M h, ha, in_eq, hb, c1]
          simp only [Option.bind_some, if_true]
          exact hZ
        · show b_X10_anew_38 (nI x) (nI w) (nI (F t)) (nI (G t)) (nI (H t)) (nI (K t)) (nI t) M3 = some (.inl (nI (F (t + 1)), nI (G (t + 1)), nI (H (t + 1)), nI (K (t + 1)), nI (t + 1)))
          have hk := zcK_le A x t
          have hg := hGl t
          have hp := hpg t
          have hv := c2 t (by omega)
          have e1 : F (t + 1) = F t + zpgs (zA_c A) (zcK A x t) := rfl
          have e2 : G (t + 1) = max (G t) (zpgs (zA_c A) (zcK A x t)) := rfl
          have e3 : H (t + 1) = H t + (if decide (zcK A x t = 0) = true then 1 else 0) := rfl
          have e4 : K (t + 1) = K t + zrs (zA_c A) (zcK A x t) := rfl
          have hpd : f_X10_max (nI 1) ((nI (zcK A x t) + nI (zA_c A) - nI 1) / nI (zA_c A)) = nI (zpgs (zA_c A) (zcK A x t)) := by
            have hd : (zcK A x t + zA_c A - 1) / zA_c A ≤ zcK A x t + zA_c A - 1 := Nat.div_le_self _ _
            rw [nIadd, nIsub (by omega), nIdiv (by omega) (by omega) (by omega), mmx_nI (by omega) (by omega)]; rfl
          rw [e1, e2, e3, e4]
          unfold b_X10_anew_38
          simp (disch := omega) only [ifLe_f, zgd_in, nIc, hv, h11]
          rw [zgd_t (nI_ne0 (by omega) (by omega)), hpd]
          simp (disch := omega) only [zbd, nIadd, mmx_nI, hin]
          by_cases h0 : zcK A x t = 0
          · rw [ifE0_t h0, decide_eq_true h0, if_pos rfl]
          · rw [ifE0_f (by omega) (by omega), decide_eq_false h0, if_neg (by decide)]; rfl
        · show b_X10_anew_38 (nI x) (nI w) (nI (F x)) (nI (G x)) (nI (H x)) (nI (K x)) (nI x) M3 = _
          unfold b_X10_anew_38
          rw [ifLe_t (Nat.le_refl _) (by omega)]
          rcases (show w = 0 ∨ w = 1 ∨ w = 2 ∨ w = 3 by omega) with rfl | rfl | rfl | rfl
          · simp (disch := omega) only [ifE0_t, if_true]
          · simp (disch := omega) only [ifE0_f, ifEq_t, if_true, Nat.one_ne_zero, if_false]
          · simp (disch := omega) only [ifE0_f, ifEq_t, ifEq_f, if_true, if_false]; rfl
          · simp (disch := omega) only [ifE0_f, ifEq_t, ifEq_f, if_true, if_false]; rfl
    · refine ⟨(-1 : Int32), A, hW.up, fun M h => ⟨M, ?_, h, zFr.refl M⟩, fun M h => ⟨M, ?_, h.up, zFr.refl M⟩⟩
      · unfold f_X9_anew; rw [hc4 M h, if_pos ha, hb]; rfl
      · unfold f_X10_anew; rw [hm4 M h, ha, in_eq, hb]; rfl
  · refine ⟨(-1 : Int32), A, hW.up, fun M h => ⟨M, ?_, h, zFr.refl M⟩, fun M h => ⟨M, ?_, h.up, zFr.refl M⟩⟩
    · unfold f_X9_anew; rw [hc4 M h, ha]; rfl
    · unfold f_X10_anew; rw [hm4 M h, ha]; rfl
