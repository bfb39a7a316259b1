/-! ===== what is otherwise than it was kept ===== -/
noncomputable def zdf (A K : zzA) (w k : Nat) : Bool := if w ≤ 1 then !decide (k ∈ zA_S K) else if decide (k ∈ zA_S K) = true then (if w = 2 then !decide (zvl A k = zvl K k) else !decide (zA_a A k = zA_a K k)) else false
section SI
variable {N : Nat} {A K : zzA}
theorem cDiffers {M : zzMem} {o p w k : Nat} (hd : o + 20 ≤ p ∨ p + 20 ≤ o) (hA : zWF N A) (hK : zWF N K) (h1 : zRC M o A) (h2 : zRC M p K) (hw : w ≤ 3) (hk : k < 65536) (hS : k ∈ zA_S A) : ∃ M', f_X9_differs o p (nI k) (nI w) M = some (zdf A K w k, M') ∧ zFr (fun a _ => a = o + 3 ∨ a = p + 3) M M' := by
  obtain ⟨M3, e1, e2⟩ := cHash (o := o + 1) h1.2.1 hA.hok hk
  have f3 : zFr (fun a _ => a = o + 3 ∨ a = p + 3) M M3 := e2.weak (fun k i h => by omega)
  have h23 : zRC M3 p K := h2.frS f3 (by intro k i; omega)
  obtain ⟨M6, e3, e4⟩ := cHash (o := p + 1) h23.2.1 hK.hok hk
  have f6 : zFr (fun a _ => a = o + 3 ∨ a = p + 3) M M6 := f3.trans (e4.weak (fun k i h => by omega))
  have h16 : zRC M6 o A := h1.frS f6 (by intro k i; omega)
  have h26 : zRC M6 p K := h2.frS f6 (by intro k i; omega)
  have e1 : f_X3_hashOf (o + 1) (nI k) M = some (nI (zA_h A k), M3) := e1
  have e3 : f_X3_hashOf (p + 1) (nI k) M3 = some (nI (zA_h K k), M6) := e3
  have hho := cHolds hK h26 hk
  have haA := hA.adr k
  have haK := hK.adr k
  have hBA := hA.sB
  have hBK := hK.sB
  unfold f_X9_differs zdf
  rw [e1]
  simp only [Option.bind_some, zpr]
  rw [e3]
  simp only [Option.bind_some, zpr]
  rw [hho]
  simp only [Option.bind_some]
  by_cases hw1 : w ≤ 1
  · refine ⟨M6, ?_, f6⟩
    rw [ifLt_f hw1 (by omega), if_pos hw1]
    by_cases hm : k ∈ zA_S K
    · simp only [hm, decide_true, if_true, Bool.not_true]
    · simp only [hm, decide_false, Bool.false_eq_true, if_false, Bool.not_false]
  · rw [ifLt_t (by omega) (by omega), if_neg hw1]
    by_cases hm : k ∈ zA_S K
    · simp only [hm, decide_true, if_true]
      by_cases hw2 : w = 2
      · obtain ⟨M16, v1, v2⟩ := cValueOf hA h16 hk hS
        have f16 : zFr (fun a _ => a = o + 3 ∨ a = p + 3) M M16 := f6.trans (v2.weak (fun k i h => by omega))
        obtain ⟨M19, v3, v4⟩ := cValueOf hK (h2.frS f16 (by intro k i; omega)) hk hm
        have l1 := zvl_lt hA k
        have l2 := zvl_lt hK k
        refine ⟨M19, ?_, f16.trans (v4.weak (fun k i h => by omega))⟩
        rw [ifEq_t hw2, v1]
        simp only [Option.bind_some, zpr]
        rw [v3]
        simp only [Option.bind_some, zpr]
        rw [if_pos hw2]
        by_cases hv : zvl A k = zvl K k
        · rw [ifEq_t hv, decide_eq_true hv]; rfl
        · rw [ifEq_f hv (by omega) (by omega), decide_eq_false hv]; rfl
      · refine ⟨M6, ?_, f6⟩
        rw [ifEq_f hw2 (by omega) (by omega), cAdr hA h16.1 hk, Option.bind_some, cAdr hK h26.1 hk, Option.bind_some, if_neg hw2]
        by_cases hv : zA_a A k = zA_a K k
        · rw [ifEq_t hv, decide_eq_true hv]; rfl
        · rw [ifEq_f hv (by omega) (by omega), decide_eq_false hv]; rfl
    · refine ⟨M6, ?_, f6⟩
      simp only [hm, decide_false, Bool.false_eq_true, if_false]
noncomputable def zsnc (A K : zzA) (w : Nat) : Nat := zcnt (fun i => zdf A K w ((zA_S A).getD i 0)) (zA_S A).length
theorem cSince {M : zzMem} {o p w : Nat} (hd : o + 20 ≤ p ∨ p + 20 ≤ o) (hA : zWF N A) (hK : zWF N K) (h1 : zRC M o A) (h2 : zRC M p K) (hw : w ≤ 3) : ∃ M', j_X9_since_54 (nI w) o p M = some (nI (zsnc A K w), M') ∧ zFr (fun a _ => a = o + 3 ∨ a = p + 3) M M' := by
  have hlen := hA.2.2.2.2.2.2.2.2.1.1
  have hZ := zlp_forI (B := fun s : (Int32 × Int32 × zzMem) => b_X9_since_61 (nI w) o p s.1 s.2.1 s.2.2) (fun t X => (nI (zcnt (fun i => zdf A K w ((zA_S A).getD i 0)) t), nI t, X)) (fun t X => zFr (fun a _ => a = o + 3 ∨ a = p + 3) M X) (zA_S A).length (fun r => r.1 = nI (zsnc A K w) ∧ zFr (fun a _ => a = o + 3 ∨ a = p + 3) M r.2) (fun t ht X hX => ?_) (fun X hX => ?_) 0 (by omega) M (zFr.refl M)
  · obtain ⟨r, r1, r2, r3⟩ := hZ
    refine ⟨r.2, ?_, r3⟩
    unfold j_X9_since_54 j_X9_since_61
    have r1 : zlp (fun s : (Int32 × Int32 × zzMem) => b_X9_since_61 (nI w) o p s.1 s.2.1 s.2.2) (nI 0, nI 0, M) = some r := r1
    rw [r1, ← r2]
  · have hX1 : zRC X o A := h1.frS hX (by intro k i; omega)
    have hX2 : zRC X p K := h2.frS hX (by intro k i; omega)
    have hs1 : X.1 (o + 15) 1 = nI (zA_S A).length := hX1.2.2.2.1.1
    have hmem := List.mem_of_getElem? (zgetD ht)
    obtain ⟨Y, y1, y2⟩ := cDiffers hd hA hK hX1 hX2 hw (hA.key hmem) hmem
    refine ⟨Y, ?_, hX.trans y2⟩
    show b_X9_since_61 (nI w) o p _ (nI t) X = _
    unfold b_X9_since_61
    rw [hs1, ifLe_f ht (by omega), cKeyAt hA hX1.2.2.2.1 ht, Option.bind_some, y1]
    simp only [Option.bind_some, zpr, zbd, nIadd, zcnt]
    by_cases hdd : zdf A K w ((zA_S A).getD t 0) = true
    · simp only [hdd, if_true]
    · simp only [hdd, if_false, Nat.add_zero, Bool.false_eq_true]
  · have hX1 : zRC X o A := h1.frS hX (by intro k i; omega)
    have hs1 : X.1 (o + 15) 1 = nI (zA_S A).length := hX1.2.2.2.1.1
    refine ⟨(nI (zsnc A K w), X), ?_, rfl, hX⟩
    show b_X9_since_61 (nI w) o p _ (nI (zA_S A).length) X = _
    unfold b_X9_since_61
    rw [hs1, ifLe_t (Nat.le_refl _) (by omega)]; rfl
theorem zRc.fxs {C s0 : Nat} {M : zzMem} (hW : zWF N A) (h4 : zRc M s0 C A) : ∃ cm xs ke ve be se, cm ≤ C ∧ zMe M s0 (zA_S A).length cm (zA_E A) xs ke ve be se ∧ M.1 74 (s0 + 7) = nI (zA_S A).length ∧ (zA_S A).length ≤ 300 ∧ (∀ x, x < (zA_S A).length → ke x < 65536) := by
  obtain ⟨hm, -, ⟨cm, xs, ke, ve, be, se, hcm, e⟩, -⟩ := h4
  exact ⟨cm, xs, ke, ve, be, se, hcm, e, hm.2.2.2.2.2.2.2.1, hW.2.2.2.2.2.2.2.2.1.1, fun x hx => hW.key ((e.mem hW _).mpr ⟨x, hx, rfl⟩)⟩
theorem mAdrK {M : zzMem} {k sl : Nat} (hsl : sl ≤ 2) (hW : zWF N A) (h1 : zMi M (1892 * sl) A) (h2 : zLm M (1892 * sl) (zA_law A)) (hk : k < 65536) : ∃ M', f_X10_addressIn (nI sl) (nI k) M = some (nI (zA_a A k), M') ∧ zFr (fun a _ => a = 78) M M' := by
  obtain ⟨M', e1, e2⟩ := mHash (sl := sl) (by omega) h2 hW.hok hk
  have hB := hW.sB
  have hh : zA_h A k < 65536 := zhs_lt hk hW.hok.1
  have h1' : zMi M' (1892 * sl) A := h1.frS e2 (by intro i hi; omega)
  have h6 : M'.1 74 (1892 * sl + 6) = nI (zA_pt A) := h1'.2.2.2.2.2.2.1
  refine ⟨M', ?_, e2⟩
  unfold f_X10_addressIn
  rw [e1]
  simp only [Option.bind_some, zpr]
  rw [mFirst (sl := sl) (by omega) hW h1']
  have hm := Nat.mod_lt (zhs (zA_law A) k) (show zA_s A > 0 by omega)
  have hh' : zhs (zA_law A) k < 65536 := hh
  simp (disch := omega) only [Option.bind_some, nImul, nIadd, zgd_in, nIc, h6, nIrem]
  rw [zgd_t (nI_ne0 (by omega) (by omega))]
  unfold zA_a zadr
  by_cases hc : zA_h A k % zA_s A < zA_pt A
  · have hc' : zhs (zA_law A) k % zA_s A < zA_pt A := hc
    rw [if_pos hc]
    simp (disch := omega) only [ifLe_f]
    rw [zgd_t (nI_ne0 (by omega) (by omega))]
    rfl
  · have hc' : ¬ zhs (zA_law A) k % zA_s A < zA_pt A := hc
    rw [if_neg hc]
    simp (disch := omega) only [ifLe_t]
    rfl
theorem mValueKept {M : zzMem} {C k : Nat} (hK : zWF N K) (h : zRc M 1892 C K) (hk : k < 65536) : f_X10_valueKept (nI k) M = some (if decide (k ∈ zA_S K) = true then nI (zvl K k) else (-1 : Int32)) := by
  obtain ⟨cm, xs, ke, ve, be, se, hcm, e, hm, hm3, hx⟩ := h.fxs hK
  unfold f_X10_valueKept
  rcases mEntryOf (sl := 1) (s0 := 1892) rfl (by omega) hm hm3 e hx hk with ⟨x, q1, q2, q3⟩ | ⟨q1, q2⟩
  · have hmem : k ∈ zA_S K := (e.mem hK k).mpr ⟨x, q1, q2⟩
    have hv := (zvl_ve hK e q1).1
    rw [q2] at hv
    have h340 : M.1 74 (2232 + x) = nI (ve x) := (e.2.1 x q1).2.1
    rw [q3, decide_eq_true hmem, if_pos rfl, hv]
    simp (disch := omega) only [Option.bind_some, ifm1, nIadd, zgd_in, nIc, h340]
  · have hmem : k ∉ zA_S K := fun hh => by obtain ⟨x, x1, x2⟩ := (e.mem hK k).mp hh; exact q1 x x1 x2
    rw [q2, decide_eq_false hmem]
    simp only [Option.bind_some, if_true, Bool.false_eq_true, if_false]
set_option maxHeartbeats 1000000 in
theorem mSince1 {M : zzMem} {C C' w : Nat} (hA : zWF N A) (hK : zWF N K) (h1 : zRc M 0 C A) (h2 : zRc M 1892 C' K) (hw : w ≤ 3) : ∃ X, zFr (fun a _ => a = 78) M X ∧ j_X10_since_25 (nI w) (nI 0) (nI 0) M = j_X10_since_158 (nI w) (nI (if w = 1 then 0 else zsnc A K w)) (nI 0) X := by
  obtain ⟨cm, xs, ke, ve, be, se, hcm, e, hm, hm3, hx⟩ := h1.fxs hA
  have hm : M.1 74 7 = nI (zA_S A).length := by simpa using hm
  let F : Nat → Nat := fun t => if w = 1 then 0 else zcnt (fun x => zdf A K w (ke x)) t
  have hFs : ∀ t, F (t + 1) = F t + (if w = 1 then 0 else if zdf A K w (ke t) = true then 1 else 0) := fun t => by
    show (if w = 1 then 0 else zcnt (fun x => zdf A K w (ke x)) (t + 1)) = (if w = 1 then 0 else zcnt (fun x => zdf A K w (ke x)) t) + _
    by_cases h : w = 1
    · rw [if_pos h, if_pos h, if_pos h]
    · rw [if_neg h, if_neg h, if_neg h]; rfl
  have hbA := fun k => hA.adr k
  have hbK := fun k => hK.adr k
  have hBA := hA.sB
  have hBK := hK.sB
  have hstep : ∀ t, t < (zA_S A).length → ∀ X, zFr (fun a _ => a = 78) M X → ∃ Y, b_X10_since_25 (nI w) (nI (F t)) (nI t) X = some (.inl (nI (F (t + 1)), nI (t + 1), Y)) ∧ zFr (fun a _ => a = 78) M Y := by
    intro t ht X hX
    have hk := hx t ht
    have hkeX : ∀ Z, zFr (fun a _ => a = 78) M Z → Z.1 74 (40 + t) = nI (ke t) := fun Z hZ => by rw [(hZ _ _ (by omega)).1]; have := (e.2.1 t ht).1; simpa using this
    have hke := hkeX X hX
    have hve : X.1 74 (340 + t) = nI (zvl A (ke t)) := by rw [(hX _ _ (by omega)).1, (zvl_ve hA e ht).1]; have := (e.2.1 t ht).2.1; simpa using this
    have hmX : X.1 74 7 = nI (zA_S A).length := by rw [(hX _ _ (by omega)).1]; exact hm
    have hX1 : zRc X 0 C A := h1.frS hA hX (by intro i; omega)
    have hX2 : zRc X 1892 C' K := h2.frS hK hX (by intro i; omega)
    have hvk := mValueKept hK hX2 hk
    have l1 := zvl_lt hA (ke t)
    have l2 := zvl_lt hK (ke t)
    rw [hFs]
    unfold b_X10_since_25
    simp (disch := omega) only [hmX, ifLe_f, nIadd, zgd_in, nIc, hke, hvk, Option.bind_some]
    unfold zdf
    by_cases hmem : ke t ∈ zA_S K
    · simp only [hmem, decide_true, if_true, Bool.not_true, Bool.false_eq_true, if_false]
      rw [ifm1 (by omega)]
      unfold j_X10_since_62 j_X10_since_77 j_X10_since_106
      rcases (show w = 0 ∨ w = 1 ∨ w = 2 ∨ w = 3 by omega) with rfl | rfl | rfl | rfl
      · refine ⟨X, ?_, hX⟩
        simp (disch := omega) only [ifE0_t, ifEq_f, if_true, zbd, nIadd, Nat.zero_ne_one, if_false, Nat.zero_le, Bool.false_eq_true, Nat.add_zero]
      · refine ⟨X, ?_, hX⟩
        simp (disch := omega) only [ifE0_f, ifEq_f, if_true, zbd, nIadd, Nat.add_zero]
      · refine ⟨X, ?_, hX⟩
        by_cases hv : zvl A (ke t) = zvl K (ke t)
        · simp (disch := omega) only [ifE0_f, ifEq_t, ifEq_f, if_true, zbd, nIadd, zgd_in, nIc, hve, hv, decide_true, Bool.not_true, Bool.false_eq_true, if_false, Nat.add_zero]
          simp
        · have hv' : zvl K (ke t) ≠ zvl A (ke t) := fun hh => hv hh.symm
          simp (disch := omega) only [ifE0_f, ifEq_t, ifEq_f, if_true, zbd, nIadd, zgd_in, nIc, hve, hv, decide_false, Bool.not_false]
          simp
      · obtain ⟨Y, y1, y2⟩ := mAdrK (sl := 1) (by omega) hK hX2.1 hX2.2.1 hk
        have fY : zFr (fun a _ => a = 78) M Y := hX.trans y2
        obtain ⟨Z, z1, z2⟩ := mAdr hA (h1.1.frS fY (by intro i hi; omega)) (h1.2.1.frS hA.hok.2 fY (by intro i hi; omega)) hk
        have a1 := hbA (ke t)
        have a2 := hbK (ke t)
        refine ⟨Z, ?_, fY.trans z2⟩
        by_cases hv : zA_a A (ke t) = zA_a K (ke t)
        · simp (disch := omega) only [ifE0_f, ifEq_t, ifEq_f, if_true, zbd, nIadd, zgd_in, nIc, hke, y1, Option.bind_some, zpr, hkeX Y fY, z1, hv, decide_true, Bool.not_true, Bool.false_eq_true, if_false, Nat.add_zero]
          simp
        · have hv' : zA_a K (ke t) ≠ zA_a A (ke t) := fun hh => hv hh.symm
          simp (disch := omega) only [ifE0_f, ifEq_t, ifEq_f, if_true, zbd, nIadd, zgd_in, nIc, hke, y1, Option.bind_some, zpr, hkeX Y fY, z1, hv, decide_false, Bool.not_false]
          simp
    · simp only [hmem, decide_false, if_true, Bool.not_false, Bool.false_eq_true, if_false]
      unfold j_X10_since_62 j_X10_since_77 j_X10_since_106
      refine ⟨X, ?_, hX⟩
      rcases (show w = 0 ∨ w = 1 ∨ w = 2 ∨ w = 3 by omega) with rfl | rfl | rfl | rfl
      · simp (disch := omega) only [ifE0_t, ifEq_f, if_true, zbd, nIadd, Nat.zero_ne_one, if_false, Nat.zero_le, Bool.false_eq_true]
      · simp (disch := omega) only [ifE0_f, ifEq_f, if_true, zbd, nIadd, Nat.add_zero]
      · simp (disch := omega) only [ifE0_f, ifEq_t, ifEq_f, Bool.false_eq_true, if_false, zbd, nIadd]
        simp
      · simp (disch := omega) only [ifE0_f, ifEq_t, ifEq_f, Bool.false_eq_true, if_false, zbd, nIadd]
        simp
  have hreach : ∀ t, t ≤ (zA_S A).length → ∃ X, zFr (fun a _ => a = 78) M X ∧ j_X10_since_25 (nI w) (nI 0) (nI 0) M = zlp (fun s : (Int32 × Int32 × zzMem) => b_X10_since_25 (nI w) s.1 s.2.1 s.2.2) (nI (F t), nI t, X) := by
    intro t ht
    induction t with
    | zero =>
      refine ⟨M, zFr.refl M, ?_⟩
      have : F 0 = 0 := by show (if w = 1 then 0 else 0) = 0; split <;> rfl
      rw [this]; rfl
    | succ t ih =>
      obtain ⟨X, x1, x2⟩ := ih (by omega)
      obtain ⟨Y, y1, y2⟩ := hstep t (by omega) X x1
      exact ⟨Y, y2, by rw [x2]; exact zlp_step y1⟩
  obtain ⟨X, x1, x2⟩ := hreach _ (Nat.le_refl _)
  refine ⟨X, x1, ?_⟩
  have hmX : X.1 74 7 = nI (zA_S A).length := by rw [(x1 _ _ (by omega)).1]; exact hm
  have hF : F (zA_S A).length = if w = 1 then 0 else zsnc A K w := by
    show (if w = 1 then 0 else zcnt (fun x => zdf A K w (ke x)) (zA_S A).length) = _
    unfold zsnc
    rw [zcnt_keys hA e (fun k => zdf A K w k)]
  rw [x2, zlp_eq, hF]
  have hb : b_X10_since_25 (nI w) (nI (if w = 1 then 0 else zsnc A K w)) (nI (zA_S A).length) X = zup (j_X10_since_158 (nI w) (nI (if w = 1 then 0 else zsnc A K w)) (nI 0) X) := by
    unfold b_X10_since_25
    rw [hmX, ifLe_t (Nat.le_refl _) (by omega)]
  show (b_X10_since_25 (nI w) (nI (if w = 1 then 0 else zsnc A K w)) (nI (zA_S A).length) X).bind _ = _
  rw [hb]
  cases j_X10_since_158 (nI w) (nI (if w = 1 then 0 else zsnc A K w)) (nI 0) X <;> rfl
theorem mSince2 {M : zzMem} {C C' w v : Nat} (hA : zWF N A) (hK : zWF N K) (h1 : zRc M 0 C A) (h2 : zRc M 1892 C' K) (hw : w ≤ 3) : j_X10_since_158 (nI w) (nI v) (nI 0) M = some (nI (if w = 1 then v + zsnc K A 1 else v), M) := by
  obtain ⟨cm, xs, ke, ve, be, se, hcm, e, hm, hm3, hx⟩ := h2.fxs hK
  obtain ⟨cm', xs', ke', ve', be', se', hcm', e', hm', hm3', hx'⟩ := h1.fxs hA
  have hm : M.1 74 1899 = nI (zA_S K).length := hm
  unfold j_X10_since_158
  by_cases hw1 : w = 1
  · subst hw1
    rw [if_pos rfl]
    have hsn : zsnc K A 1 = zcnt (fun x => !decide (ke x ∈ zA_S A)) (zA_S K).length := by
      unfold zsnc
      rw [zcnt_keys hK e (fun k => zdf K A 1 k)]
      exact zcnt_congr _ (fun i _ => by unfold zdf; rw [if_pos (Nat.le_refl 1)])
    rw [hsn]
    refine zlp_for (B := fun s : (Int32 × Int32) => b_X10_since_158 (nI 1) s.1 s.2 M) (fun t => (nI (v + zcnt (fun x => !decide (ke x ∈ zA_S A)) t), nI t)) (zA_S K).length _ (fun t ht => ?_) ?_ 0 (by omega)
    · show b_X10_since_158 (nI 1) (nI (v + zcnt (fun x => !decide (ke x ∈ zA_S A)) t)) (nI t) M = _
      have hke : M.1 74 (1932 + t) = nI (ke t) := (e.2.1 t ht).1
      unfold b_X10_since_158
      simp (disch := omega) only [hm, ifLe_f, ifEq_t, nIadd, zgd_in, nIc, hke]
      rcases mEntryOf (sl := 0) (s0 := 0) rfl (by omega) hm' hm3' e' hx' (hx t ht) with ⟨x, q1, q2, q3⟩ | ⟨q1, q2⟩
      · have hmem : ke t ∈ zA_S A := (e'.mem hA _).mpr ⟨x, q1, q2⟩
        rw [q3]
        simp (disch := omega) only [Option.bind_some, ifm1, if_true, zbd, nIadd, zcnt, hmem, decide_true, Bool.not_true, Bool.false_eq_true, if_false, Nat.add_zero]
      · have hmem : ke t ∉ zA_S A := fun hh => by obtain ⟨x, x1, x2⟩ := (e'.mem hA _).mp hh; exact q1 x x1 x2
        rw [q2]
        simp (disch := omega) only [Option.bind_some, if_true, zbd, nIadd, zcnt, hmem, decide_false, Bool.not_false]
        rfl
    · show b_X10_since_158 (nI 1) _ (nI (zA_S K).length) M = _
      unfold b_X10_since_158
      rw [hm, ifLe_t (Nat.le_refl _) (by omega)]
  · rw [if_neg hw1]
    refine zlp_done ?_
    show b_X10_since_158 (nI w) (nI v) (nI 0) M = _
    unfold b_X10_since_158
    rw [hm]
    by_cases h0 : (zA_S K).length = 0
    · rw [ifLe_t (by omega) (by omega)]
    · rw [ifLe_f (by omega) (by omega), ifEq_f hw1 (by omega) (by omega)]
end SI
theorem op_since (N : Nat) (a : Int32) : zSame N (f_X9_since a) (f_X10_since a) := by
  refine zSame.ss (fun hN tp A M h1 h2 h3 h4 h5 => ?_)
  rcases inC a 0 3 (by decide) (by decide) with ⟨ha, w, -, hw, rfl⟩ | ha
  · rcases h5 with ⟨k1, k2⟩ | ⟨k1, k2, K, kW, kC, kM⟩
    · refine ⟨(-3 : Int32), ⟨M, ?_, zFr.refl M⟩, fun M1 hf => ⟨M1, ?_, zFr.refl M1⟩⟩
      · unfold f_X9_since; rw [if_pos ha, k1]; rfl
      · have k2' : M1.1 73 1 = 0 := by rw [(hf _ _ (by unfold zScr; omega)).1]; exact k2
        unfold f_X10_since; rw [in_eq, if_pos ha, k2']; rfl
    · have hz1 : ¬ (1 : Int32) = 0 := by decide
      by_cases hw1 : w = 1
      · subst hw1
        obtain ⟨M', c1, c2⟩ := cSince (o := 32) (p := 12) (w := 1) (by omega) kW h2 kC h3 (by omega)
        refine ⟨nI (zsnc K A 1), ⟨M', ?_, c2.weak (fun k i h => by unfold zScr; omega)⟩, fun M1 hf => ?_⟩
        · unfold f_X9_since j_X9_since_37
          rw [if_pos ha, k1, if_neg hz1, if_pos rfl, if_pos rfl]
          exact c1
        · have h4' := h4.fr (Or.inl rfl) h2 hf
          have kM' := kM.fr (Or.inr rfl) kW hf
          obtain ⟨X, x1, x2⟩ := mSince1 (w := 1) h2 kW h4'.rc kM'.rc (by omega)
          have x3 := mSince2 (w := 1) (v := 0) h2 kW (h4'.rc.frS h2 x1 (by intro i; omega)) (kM'.rc.frS kW x1 (by intro i; omega)) (by omega)
          refine ⟨X, ?_, x1.weak zScr78⟩
          have k2' : M1.1 73 1 = 1 := by rw [(hf _ _ (by unfold zScr; omega)).1]; exact k2
          unfold f_X10_since
          rw [in_eq, if_pos ha, k2', if_neg hz1, x2, if_pos rfl, x3, if_pos rfl, Nat.zero_add]
      · obtain ⟨M', c1, c2⟩ := cSince (o := 12) (p := 32) (w := w) (by omega) h2 kW h3 kC (by omega)
        refine ⟨nI (zsnc A K w), ⟨M', ?_, c2.weak (fun k i h => by unfold zScr; omega)⟩, fun M1 hf => ?_⟩
        · unfold f_X9_since j_X9_since_37
          rw [if_pos ha, k1, if_neg hz1, ifEq_f hw1 (by omega) (by omega), ifEq_f hw1 (by omega) (by omega)]
          exact c1
        · have h4' := h4.fr (Or.inl rfl) h2 hf
          have kM' := kM.fr (Or.inr rfl) kW hf
          obtain ⟨X, x1, x2⟩ := mSince1 (w := w) h2 kW h4'.rc kM'.rc (by omega)
          have x3 := mSince2 (w := w) (v := zsnc A K w) h2 kW (h4'.rc.frS h2 x1 (by intro i; omega)) (kM'.rc.frS kW x1 (by intro i; omega)) (by omega)
          refine ⟨X, ?_, x1.weak zScr78⟩
          have k2' : M1.1 73 1 = 1 := by rw [(hf _ _ (by unfold zScr; omega)).1]; exact k2
          unfold f_X10_since
          rw [in_eq, if_pos ha, k2', if_neg hz1, x2, if_neg hw1, x3, if_neg hw1]
  · refine ⟨(-1 : Int32), ⟨M, ?_, zFr.refl M⟩, fun M1 hf => ⟨M1, ?_, zFr.refl M1⟩⟩
    · unfold f_X9_since; rw [ha]; rfl
    · unfold f_X10_since; rw [in_eq, ha]; rfl
