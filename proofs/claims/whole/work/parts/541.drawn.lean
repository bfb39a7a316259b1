/-! ===== what is drawn ===== -/
def zmW : Nat → Nat → Prop := fun k i => (k = 74 ∧ (i < 1892 ∨ 3784 ≤ i)) ∨ (76 ≤ k ∧ k ≤ 90) ∨ (k = 73 ∧ 7 ≤ i)
theorem zmS_W {k i : Nat} (h : zmS k i) : zmW k i := by unfold zmS at h; unfold zmW; omega
theorem zSame.tw {α : Type} {N : Nat} {f g : zzMem → Option (α × zzMem)} (h : N ≤ 600 → ∀ A, zWF N A → ∃ r A', zWF (N + 1) A' ∧ (∀ M, zRC M 12 A → ∃ M1, f M = some (r, M1) ∧ zRC M1 12 A' ∧ zFr zcS M M1) ∧ (∀ M, zRM M 0 N A → ∃ M2, g M = some (r, M2) ∧ zRM M2 0 (N + 1) A' ∧ zFr zmW M M2)) : zSame N f g := by
  intro hN M hI
  obtain ⟨tp, A, h1, h2, h3, h4, h5⟩ := hI
  obtain ⟨r, A', w, hf, hg⟩ := h hN A h2
  obtain ⟨M1, f1, f2, f3⟩ := hf M h3
  have h4' : zRM M1 0 N A := h4.frS h2 f3 (by intro i; unfold zcS; omega)
  obtain ⟨M2, g1, g2, g3⟩ := hg M1 h4'
  refine ⟨r, M1, M2, f1, g1, tp, A', ?_, w, ?_, g2, ?_⟩
  · exact (h1.frS f3 (by unfold zcS; omega) (by unfold zcS; omega) (by intro i; unfold zcS; omega) (by intro i; unfold zcS; omega)).frS g3 (by unfold zmW; omega) (by unfold zmW; omega) (by intro i; unfold zmW; omega) (by intro i; unfold zmW; omega)
  · exact f2.frS g3 (by intro k i; unfold zmW; omega)
  · exact zKp.frS ((f3.weak (S' := fun k i => zcS k i ∨ zmW k i) (fun k i h => Or.inl h)).trans (g3.weak (fun k i h => Or.inr h))) (by unfold zcS zmW; omega) (by unfold zcS zmW; omega) (by intro k i; unfold zcS zmW; omega) (by intro i; unfold zcS zmW; omega) h5
def zsdr (A : zzA) (d : Nat) : zzA := (A.1, A.2.1, A.2.2.1, d, A.2.2.2.2)
def zlt (d : Nat) : Nat := (25173 * d + 13849) % 65536
def zlot (A : zzA) : zzA := zsdr A (zlt (zA_dr A))
noncomputable def zpds (A : zzA) : Nat → zzA
  | 0 => A
  | n + 1 => (zput (zlot (zpds A n)) (zA_dr (zlot (zpds A n))) (zA_dr (zlot (zpds A n)) % 256)).2
noncomputable def zdd1 (B : zzA) : zzA := if (zA_S B).length = 0 then B else (zdrp B ((zA_S B).getD (zA_dr B % (zA_S B).length) 0)).2
noncomputable def zdds (A : zzA) : Nat → zzA
  | 0 => A
  | n + 1 => zdd1 (zlot (zdds A n))
section DW
variable {N : Nat} {A : zzA}
theorem zlt_lt (d : Nat) : zlt d < 65536 := Nat.mod_lt _ (by decide)
theorem zlot_dr (A : zzA) : zA_dr (zlot A) < 65536 := zlt_lt _
theorem zsdr_wf {d : Nat} (hd : d < 65536) (hW : zWF N A) : zWF N (zsdr A d) := by
  obtain ⟨⟨w1, w2, w3, w4, w5, w6, w7, w8, w9, w10, w11, w12⟩, v⟩ := hW
  exact ⟨⟨w1, w2, w3, w4, w5, w6, w7, w8, w9, w10, hd, w12⟩, v⟩
theorem zlot_wf (hW : zWF N A) : zWF N (zlot A) := zsdr_wf (zlt_lt _) hW
theorem cSdr {M : zzMem} {o d : Nat} (h : zRC M o A) : zRC (zz_si M o 14 (nI d)) o (zsdr A d) := by
  obtain ⟨⟨c1, c2, c3, c4, c5, c6, c7, c8, c9, c10, c11, c12⟩, h2, h3, h4, h5⟩ := h
  have hf : zFr (fun k i => k = o ∧ i = 14) M (zz_si M o 14 (nI d)) := zFr.si ⟨rfl, rfl⟩
  refine ⟨⟨?_, ?_, ?_, ?_, ?_, ?_, ?_, ?_, ?_, ?_, rd_eq, ?_⟩, h2.frS hf (by omega) (by intro i; omega), h3.frS hf (by intro k i; omega), h4.frS hf (by omega) (by intro i; omega), h5.frS hf (by intro i; omega) (by intro i; omega)⟩
  all_goals (rw [rd_ne (by omega)]; assumption)
theorem mSdr {M : zzMem} {C d : Nat} (hW : zWF N A) (h : zRc M 0 C A) : zRc (zz_si M 74 12 (nI d)) 0 C (zsdr A d) := by
  have hm : (zA_S A).length ≤ 300 := hW.2.2.2.2.2.2.2.2.1.1
  have hl : (zA_law A).length ≤ 60 := hW.1.2.2.2.2.2.2.2.2.2.2.2.2
  obtain ⟨⟨c1, c2, c3, c4, c5, c6, c7, c8, c9, c10, c11, c12, c13⟩, h2, ⟨cm, xs, ke, ve, be, se, hcm, e⟩, h4, h5⟩ := h
  have hf : zFr (fun k i => k = 74 ∧ i = 12) M (zz_si M 74 12 (nI d)) := zFr.si ⟨rfl, rfl⟩
  refine ⟨⟨?_, ?_, ?_, ?_, ?_, ?_, ?_, ?_, ?_, ?_, ?_, ?_, rd_eq⟩, h2.frS hl hf (by intro i; omega), ⟨cm, xs, ke, ve, be, se, hcm, e.frS hm hf (by intro i; omega)⟩, h4.frS hW.2.2.2.2.2.1 hf (by intro i; omega), h5.frS hf (by intro i; omega)⟩
  all_goals (rw [rd_ne (by omega)]; assumption)
theorem zpds_wf (hW : zWF N A) : ∀ n, zWF N (zpds A n)
  | 0 => hW
  | n + 1 => zput_wf (zlot_wf (zpds_wf hW n)) (zlot_dr _) (Nat.mod_lt _ (by decide))
theorem zdd1_wf (hW : zWF N A) : zWF N (zdd1 A) := by
  unfold zdd1
  split
  · exact hW
  · exact zdrp_wf hW _
theorem zdds_wf (hW : zWF N A) : ∀ n, zWF N (zdds A n)
  | 0 => hW
  | n + 1 => zdd1_wf (zlot_wf (zdds_wf hW n))
theorem cDraw {M : zzMem} {o : Nat} (hW : zWF N A) (h : zRC M o A) : zRC (f_X2_draw o M) o (zlot A) ∧ zFr (zcpS o) M (f_X2_draw o M) ∧ (f_X2_draw o M).1 o 14 = nI (zA_dr (zlot A)) := by
  have c11 : M.1 o 14 = nI (zA_dr A) := h.1.2.2.2.2.2.2.2.2.2.2.1
  have hv : (nI 25173 * M.1 o 14 + nI 13849) &&& nI 65535 = nI (zlt (zA_dr A)) := by
    rw [c11, nImul, nIadd]; exact nx_mod _
  have hM : f_X2_draw o M = zz_si M o 14 (nI (zlt (zA_dr A))) := by
    show zz_si M o 14 ((nI 25173 * M.1 o 14 + nI 13849) &&& nI 65535) = _
    rw [hv]
  have hl : zlot A = zsdr A (zlt (zA_dr A)) := rfl
  rw [hM, hl]
  generalize zlt (zA_dr A) = d
  exact ⟨cSdr h, zFr.si (by unfold zcpS; omega), rd_eq⟩
theorem nI_255 {d : Nat} (hd : d < 65536) : nI d &&& nI 255 = nI (d % 256) := pk_andN (show d < 2 ^ 32 by omega) (m := nI 255) 8 (by decide)
theorem cStoreDrawn {M : zzMem} {o n : Nat} (hn : n < 1000) (hW : zWF N A) (h : zRC M o A) : ∃ M', f_X2_storeDrawn o (nI n) M = some M' ∧ zRC M' o (zpds A n) ∧ zFr (zcpS o) M M' := by
  unfold f_X2_storeDrawn j_X2_storeDrawn_2
  refine zlp_forI (B := fun s : (Int32 × zzMem) => b_X2_storeDrawn_2 o (nI n) s.1 s.2) (fun t X => (nI t, X)) (fun t X => zRC X o (zpds A t) ∧ zFr (zcpS o) M X) n (fun r => zRC r o (zpds A n) ∧ zFr (zcpS o) M r) (fun t ht X hX => ?_) (fun X hX => ?_) 0 (by omega) M ⟨h, zFr.refl M⟩
  · obtain ⟨x1, x2⟩ := hX
    obtain ⟨d1, d2, d3⟩ := cDraw (zpds_wf hW t) x1
    have hdl := zlot_dr (zpds A t)
    obtain ⟨Y, y1, y2, y3⟩ := cStore (zlot_wf (zpds_wf hW t)) d1 hdl (show zA_dr (zlot (zpds A t)) % 256 < 256 from Nat.mod_lt _ (by decide))
    refine ⟨Y, ?_, y2, (x2.trans d2).trans y3⟩
    show b_X2_storeDrawn_2 o (nI n) (nI t) X = _
    unfold b_X2_storeDrawn_2
    rw [ifLe_f ht (by omega)]
    simp only [zbd]
    rw [d3, nI_255 hdl, y1]
    simp only [Option.bind_some, zpr, nIadd]
  · obtain ⟨x1, x2⟩ := hX
    refine ⟨X, ?_, x1, x2⟩
    show b_X2_storeDrawn_2 o (nI n) (nI n) X = _
    unfold b_X2_storeDrawn_2
    rw [ifLe_t (Nat.le_refl _) (by omega)]
theorem mLot {M : zzMem} {C : Nat} (hW : zWF N A) (h : zRc M 0 C A) : ∃ M', f_X10_lotGoes M = some M' ∧ zRc M' 0 C (zlot A) ∧ zFr (fun k i => k = 74 ∧ i = 12) M M' ∧ M'.1 74 12 = nI (zA_dr (zlot A)) := by
  have hdr : zA_dr A < 65536 := hW.1.2.2.2.2.2.2.2.2.2.2.1
  have c13 : M.1 74 12 = nI (zA_dr A) := by have := h.1.2.2.2.2.2.2.2.2.2.2.2.2; simpa using this
  have hv : zrm (nI 25173 * M.1 74 12 + nI 13849) (nI 65536) = nI (zlt (zA_dr A)) := by
    rw [c13, nImul, nIadd, nIrem (by omega) (by omega) (by omega)]; rfl
  have hl : zlot A = zsdr A (zlt (zA_dr A)) := rfl
  rw [hl]
  unfold f_X10_lotGoes
  rw [hv]
  generalize zlt (zA_dr A) = d
  exact ⟨zz_si M 74 12 (nI d), rfl, mSdr hW h, zFr.si ⟨rfl, rfl⟩, rd_eq⟩
theorem mPutsDrawn {M : zzMem} {C n : Nat} (hn : n < 1000) (hC : C + 301 * n < 2147483648) (hW : zWF N A) (h : zRc M 0 C A) : ∃ M', f_X10_putsDrawn (nI n) M = some M' ∧ zRc M' 0 (C + 301 * n) (zpds A n) ∧ zFr zmN M M' := by
  unfold f_X10_putsDrawn j_X10_putsDrawn_2
  refine zlp_forI (B := fun s : (Int32 × zzMem) => b_X10_putsDrawn_2 (nI n) s.1 s.2) (fun t X => (nI t, X)) (fun t X => zRc X 0 (C + 301 * t) (zpds A t) ∧ zFr zmN M X) n (fun r => zRc r 0 (C + 301 * n) (zpds A n) ∧ zFr zmN M r) (fun t ht X hX => ?_) (fun X hX => ?_) 0 (by omega) M ⟨h, zFr.refl M⟩
  · obtain ⟨x1, x2⟩ := hX
    obtain ⟨D, d1, d2, d3, d4⟩ := mLot (zpds_wf hW t) x1
    have hdl := zlot_dr (zpds A t)
    obtain ⟨Y, y1, y2, y3⟩ := mPuts (by omega) (zlot_wf (zpds_wf hW t)) d2 hdl (show zA_dr (zlot (zpds A t)) % 256 < 256 from Nat.mod_lt _ (by decide))
    refine ⟨Y, ?_, y2.mono (by omega), (x2.trans (d3.weak (fun k i h => by unfold zmN; omega))).trans y3⟩
    show b_X10_putsDrawn_2 (nI n) (nI t) X = _
    unfold b_X10_putsDrawn_2
    rw [ifLe_f ht (by omega), d1, Option.bind_some, d4, nIrem (by omega) (by omega) (by omega), y1]
    simp only [Option.bind_some, zpr, zbd, nIadd]
  · obtain ⟨x1, x2⟩ := hX
    refine ⟨X, ?_, x1, x2⟩
    show b_X10_putsDrawn_2 (nI n) (nI n) X = _
    unfold b_X10_putsDrawn_2
    rw [ifLe_t (Nat.le_refl _) (by omega)]
theorem cRemoveDrawn {M : zzMem} {o n : Nat} (hn : n < 1000) (hW : zWF N A) (h : zRC M o A) : ∃ M', f_X2_removeDrawn o (nI n) M = some M' ∧ zRC M' o (zdds A n) ∧ zFr (zcpS o) M M' := by
  unfold f_X2_removeDrawn j_X2_removeDrawn_2
  refine zlp_forI (B := fun s : (Int32 × zzMem) => b_X2_removeDrawn_2 o (nI n) s.1 s.2) (fun t X => (nI t, X)) (fun t X => zRC X o (zdds A t) ∧ zFr (zcpS o) M X) n (fun r => zRC r o (zdds A n) ∧ zFr (zcpS o) M r) (fun t ht X hX => ?_) (fun X hX => ?_) 0 (by omega) M ⟨h, zFr.refl M⟩
  · obtain ⟨x1, x2⟩ := hX
    obtain ⟨d1, d2, d3⟩ := cDraw (zdds_wf hW t) x1
    have hWl := zlot_wf (zdds_wf hW t)
    have hdl := zlot_dr (zdds A t)
    have hlen := hWl.2.2.2.2.2.2.2.2.1.1
    have hs1 : (f_X2_draw o X).1 (o + 15) 1 = nI (zA_S (zlot (zdds A t))).length := d1.2.2.2.1.1
    have hz : zdds A (t + 1) = zdd1 (zlot (zdds A t)) := rfl
    show ∃ M', b_X2_removeDrawn_2 o (nI n) (nI t) X = _ ∧ _
    unfold b_X2_removeDrawn_2
    rw [ifLe_f ht (by omega)]
    simp only [zbd]
    rw [hs1, hz]
    generalize zlot (zdds A t) = B at *
    unfold zdd1
    by_cases h0 : (zA_S B).length = 0
    · refine ⟨f_X2_draw o X, ?_, by rw [if_pos h0]; exact d1, x2.trans d2⟩
      rw [ifLe0_t h0, nIadd]
    · have hml := Nat.mod_lt (zA_dr B) (show (zA_S B).length > 0 by omega)
      have hk := hWl.key (List.mem_of_getElem? (zgetD hml))
      obtain ⟨Y, y1, y2, y3⟩ := cDropK hWl d1 hk
      refine ⟨Y, ?_, by rw [if_neg h0]; exact y2, (x2.trans d2).trans y3⟩
      rw [ifLe0_f (by omega) (by omega), zgd_t (nI_ne0 (by omega) (by omega)), d3, nIrem (by omega) (by omega) (by omega), cKeyAt hWl d1.2.2.2.1 hml, Option.bind_some, y1]
      simp only [Option.bind_some, zpr, nIadd]
  · obtain ⟨x1, x2⟩ := hX
    refine ⟨X, ?_, x1, x2⟩
    show b_X2_removeDrawn_2 o (nI n) (nI n) X = _
    unfold b_X2_removeDrawn_2
    rw [ifLe_t (Nat.le_refl _) (by omega)]
def zmD : Nat → Nat → Prop := fun k i => zmN k i ∨ k = 84 ∨ k = 85
theorem mDropsDrawn {M : zzMem} {C n : Nat} (hn : n < 1000) (hC : C + 300 * n < 2147483648) (hW : zWF N A) (h : zRc M 0 C A) : ∃ M', f_X10_dropsDrawn (nI n) M = some M' ∧ zRc M' 0 (C + 300 * n) (zdds A n) ∧ zFr zmD M M' := by
  unfold f_X10_dropsDrawn j_X10_dropsDrawn_2
  refine zlp_forI (B := fun s : (Int32 × zzMem) => b_X10_dropsDrawn_2 (nI n) s.1 s.2) (fun t X => (nI t, X)) (fun t X => zRc X 0 (C + 300 * t) (zdds A t) ∧ zFr zmD M X) n (fun r => zRc r 0 (C + 300 * n) (zdds A n) ∧ zFr zmD M r) (fun t ht X hX => ?_) (fun X hX => ?_) 0 (by omega) M ⟨h, zFr.refl M⟩
  · obtain ⟨x1, x2⟩ := hX
    obtain ⟨D, d1, d2, d3, d4⟩ := mLot (zdds_wf hW t) x1
    have hWl := zlot_wf (zdds_wf hW t)
    have hdl := zlot_dr (zdds A t)
    have hz : zdds A (t + 1) = zdd1 (zlot (zdds A t)) := rfl
    have fD : zFr zmD M D := x2.trans (d3.weak (fun k i h => by unfold zmD zmN; omega))
    show ∃ M', b_X10_dropsDrawn_2 (nI n) (nI t) X = _ ∧ _
    unfold b_X10_dropsDrawn_2
    rw [ifLe_f ht (by omega), d1, Option.bind_some, hz]
    generalize zlot (zdds A t) = B at *
    obtain ⟨cm, xs, ke, ve, be, se, hcm, e, hm, hm3, hx, hc1⟩ := d2.fx hWl
    rw [hm]
    unfold zdd1
    by_cases h0 : (zA_S B).length = 0
    · refine ⟨D, ?_, by rw [if_pos h0]; exact d2.mono (by omega), fD⟩
      rw [ifE0_t h0]
      simp only [zbd, nIadd]
    · have hml := Nat.mod_lt (zA_dr B) (show (zA_S B).length > 0 by omega)
      have hk := hWl.key (List.mem_of_getElem? (zgetD hml))
      obtain ⟨X', u1, u2, u3⟩ := zsrt hWl e
      obtain ⟨M4, o1, o2, o3⟩ := mOrders hWl d2.1 d2.2.1 e u1 u2 u3
      have hXl : X'.length = (zA_S B).length := by rw [← u1, List.length_map]
      have hg := List.getElem?_eq_getElem (show zA_dr B % (zA_S B).length < X'.length by omega)
      generalize X'[zA_dr B % (zA_S B).length]'(by omega) = x at hg
      have hxm := (u2 x).mp (List.mem_of_getElem? hg)
      have hkx : (zA_S B).getD (zA_dr B % (zA_S B).length) 0 = ke x := by rw [List.getD_eq_getElem?_getD, ← u1, List.getElem?_map, List.length_map, hXl, hg]; rfl
      have hv := o2 _ x hg
      have hke : M4.1 74 (40 + x) = nI (ke x) := by rw [(o3 _ _ (by omega)).1]; have := (e.2.1 x hxm).1; simpa using this
      have h12 : M4.1 74 12 = nI (zA_dr B) := by rw [(o3 _ _ (by omega)).1]; exact d4
      have h7 : M4.1 74 7 = nI (zA_S B).length := by rw [(o3 _ _ (by omega)).1]; exact hm
      rw [hkx] at hk
      obtain ⟨Y, y1, y2, y3⟩ := mDrops (C := C + 300 * t) (by omega) hWl (d2.frS hWl o3 (by intro i; omega)) hk
      refine ⟨Y, ?_, by rw [if_neg h0, hkx]; exact y2.mono (by omega), (fD.trans (o3.weak (fun k i h => by unfold zmD zmN; omega))).trans (y3.weak (fun _ _ h => Or.inl h))⟩
      rw [ifE0_f (by omega) (by omega), o1, Option.bind_some, h7, h12, zgd_t (nI_ne0 (by omega) (by omega)), nIrem (by omega) (by omega) (by omega)]
      simp (disch := omega) only [zgd_in, nIc, hv, nIadd, hke, y1, Option.bind_some, zpr, zbd]
  · obtain ⟨x1, x2⟩ := hX
    refine ⟨X, ?_, x1, x2⟩
    show b_X10_dropsDrawn_2 (nI n) (nI n) X = _
    unfold b_X10_dropsDrawn_2
    rw [ifLe_t (Nat.le_refl _) (by omega)]
end DW
/-! ===== how it would grow ===== -/
/-- counters moved on -/
def zsh (A : zzA) (d e : Int32) : zzA := zct A (zA_rd A + d) (zA_wr A + e) (zA_sp A) (zA_jn A)
theorem zadd_sw (a b c : Int32) : a + b + c = a + c + b := by rw [Int32.add_assoc, Int32.add_comm b c, ← Int32.add_assoc]
theorem zsh_pair {A : zzA} {d e : Int32} : zsh A d e = (A.1, A.2.1, (zA_rd A + d, zA_wr A + e, zA_sp A, zA_jn A), A.2.2.2) := rfl
theorem zspl_sh (A : zzA) (d e : Int32) : zspl (zsh A d e) = zsh (zspl A) d e := by
  have h1 : zspl (zsh A d e) = ((zspl A).1, (zspl A).2.1, (zA_rd A + d + nI (zA_G A (zA_pt A)).length, zA_wr A + e + nI ((zspG A (zA_pt A)).length + (zspG A (zA_B A)).length), zA_sp A + nI 1, zA_jn A), (zspl A).2.2.2) := rfl
  have h2 : zsh (zspl A) d e = ((zspl A).1, (zspl A).2.1, (zA_rd A + nI (zA_G A (zA_pt A)).length + d, zA_wr A + nI ((zspG A (zA_pt A)).length + (zspG A (zA_B A)).length) + e, zA_sp A + nI 1, zA_jn A), (zspl A).2.2.2) := rfl
  rw [h1, h2, zadd_sw (zA_rd A) d, zadd_sw (zA_wr A) e]
theorem zput_sh (A : zzA) (d e : Int32) (k v : Nat) : zput (zsh A d e) k v = ((zput A k v).1, zsh (zput A k v).2 d e) := by
  have hE : zA_E (zsh A d e) (zA_a (zsh A d e) k) = zA_E A (zA_a A k) := rfl
  have hS : zA_S (zsh A d e) = zA_S A := rfl
  have hN : zpuN (zsh A d e) k v = zsh (zpuN A k v) d e := by
    have h1 : zpuN (zsh A d e) k v = ((zpuN A k v).1, (zpuN A k v).2.1, (zA_rd A + d + nI (zA_G A (zA_a A k)).length, zA_wr A + e + (if znew A k = true then nI 2 else nI 1), zA_sp A, zA_jn A), (zpuN A k v).2.2.2) := rfl
    have h2 : zsh (zpuN A k v) d e = ((zpuN A k v).1, (zpuN A k v).2.1, (zA_rd A + nI (zA_G A (zA_a A k)).length + d, zA_wr A + (if znew A k = true then nI 2 else nI 1) + e, zA_sp A, zA_jn A), (zpuN A k v).2.2.2) := rfl
    rw [h1, h2, zadd_sw (zA_rd A) d, zadd_sw (zA_wr A) e]
  have hw : znew (zsh A d e) k = znew A k := rfl
  have hD : zpuD (zsh A d e) k v = zsh (zpuD A k v) d e := by
    unfold zpuD
    rw [hN, hw]
    have hdu : zdue (zsh (zpuN A k v) d e) (znew A k) = zdue (zpuN A k v) (znew A k) := rfl
    rw [hdu]
    by_cases h : zdue (zpuN A k v) (znew A k) = true
    · rw [if_pos h, if_pos h]
      unfold zspi
      have hB : zA_B (zsh (zpuN A k v) d e) = zA_B (zpuN A k v) := rfl
      rw [hB]
      by_cases hb : zA_B (zpuN A k v) < 64
      · rw [if_pos hb, if_pos hb, zspl_sh]
      · rw [if_neg hb, if_neg hb]
    · rw [if_neg h, if_neg h]
  unfold zput
  rw [hE, hS, hD]
  cases hz : zfi (zA_E A (zA_a A k)) k with
  | some t =>
    show (nI 1, zpuS (zsh A d e) k v t.1) = (nI 1, zsh (zpuS A k v t.1) d e)
    have h1 : zpuS (zsh A d e) k v t.1 = ((zpuS A k v t.1).1, (zpuS A k v t.1).2.1, (zA_rd A + d + nI (t.1 / zA_c A + 1), zA_wr A + e + nI 1, zA_sp A, zA_jn A), (zpuS A k v t.1).2.2.2) := rfl
    have h2 : zsh (zpuS A k v t.1) d e = ((zpuS A k v t.1).1, (zpuS A k v t.1).2.1, (zA_rd A + nI (t.1 / zA_c A + 1) + d, zA_wr A + nI 1 + e, zA_sp A, zA_jn A), (zpuS A k v t.1).2.2.2) := rfl
    rw [h1, h2, zadd_sw (zA_rd A) d, zadd_sw (zA_wr A) e]
  | none =>
    show (if (zA_S A).length < 300 then (nI 0, zsh (zpuD A k v) d e) else ((-3 : Int32), zsh A d e)) = ((if (zA_S A).length < 300 then (nI 0, zpuD A k v) else ((-3 : Int32), A)).1, zsh (if (zA_S A).length < 300 then (nI 0, zpuD A k v) else ((-3 : Int32), A)).2 d e)
    by_cases h : (zA_S A).length < 300
    · rw [if_pos h, if_pos h]
    · rw [if_neg h, if_neg h]
theorem zpds_sh (A : zzA) (d e : Int32) : ∀ n, zpds (zsh A d e) n = zsh (zpds A n) d e
  | 0 => rfl
  | n + 1 => by
    show (zput (zlot (zpds (zsh A d e) n)) (zA_dr (zlot (zpds (zsh A d e) n))) (zA_dr (zlot (zpds (zsh A d e) n)) % 256)).2 = zsh (zput (zlot (zpds A n)) (zA_dr (zlot (zpds A n))) (zA_dr (zlot (zpds A n)) % 256)).2 d e
    rw [zpds_sh A d e n]
    have h1 : zlot (zsh (zpds A n) d e) = zsh (zlot (zpds A n)) d e := rfl
    have h2 : zA_dr (zsh (zlot (zpds A n)) d e) = zA_dr (zlot (zpds A n)) := rfl
    rw [h1, h2, zput_sh]
noncomputable def zgrw (A B : zzA) (w : Nat) : Int32 := if w = 0 then nI (zA_B B) else if w = 1 then nI (zlod B) else if w = 2 then nI (zuse B) else if w = 3 then nI (zA_S B).length else if w = 4 then zA_rd B - zA_rd A else zA_wr B - zA_wr A
set_option maxHeartbeats 1000000 in
theorem op_grown (N : Nat) (a b : Int32) : zSame N (f_X9_grown a b) (f_X10_grown a b) := by
  refine zSame.tw (fun hN A hW => ?_)
  rcases inC a 1 99 (by decide) (by decide) with ⟨ha, m, hm1, hm2, rfl⟩ | ha
  · rcases inC b 0 5 (by decide) (by decide) with ⟨hb, w, -, hw, rfl⟩ | hb
    · have hWp := zpds_wf hW m
      refine ⟨zgrw A (zpds A m) w, A, hW.up, fun M h => ?_, fun M h => ?_⟩
      · obtain ⟨M3, c1, c2, c3⟩ := cCopy (o := 52) (p := 12) (by omega) hW h
        obtain ⟨M4, s1, s2, s3⟩ := cStoreDrawn (o := 52) (n := m) (by omega) hW c2
        have fM : zFr (zcpS 52) M M4 := c3.trans s3
        have h12 : zRC M4 12 A := h.frS fM (by intro k i; unfold zcpS; omega)
        refine ⟨M4, ?_, h12, fM.weak (fun k i h => by unfold zcpS at h; unfold zcS; omega)⟩
        have r1 : M4.1 67 1 = nI (zA_S (zpds A m)).length := s2.2.2.2.1.1
        have r2 : M4.1 52 10 = zA_rd (zpds A m) := s2.1.2.2.2.2.2.2.1
        have r3 : M4.1 12 10 = zA_rd A := h12.1.2.2.2.2.2.2.1
        have r4 : M4.1 52 11 = zA_wr (zpds A m) := s2.1.2.2.2.2.2.2.2.1
        have r5 : M4.1 12 11 = zA_wr A := h12.1.2.2.2.2.2.2.2.1
        unfold f_X9_grown zgrw
        rw [if_pos ha, if_pos hb, c1, Option.bind_some, s1, Option.bind_some]
        rcases (show w = 0 ∨ w = 1 ∨ w = 2 ∨ w = 3 ∨ w = 4 ∨ w = 5 by omega) with rfl | rfl | rfl | rfl | rfl | rfl
        · rw [ifEq_t rfl, if_pos rfl, cBuck hWp s2.1]
        · rw [ifEq_f (by omega) (by omega) (by omega), ifEq_t rfl, cLoad hWp s2]; rfl
        · rw [ifEq_f (by omega) (by omega) (by omega), ifEq_f (by omega) (by omega) (by omega), ifEq_t rfl, cUse hWp s2]; rfl
        · rw [ifEq_f (by omega) (by omega) (by omega), ifEq_f (by omega) (by omega) (by omega), ifEq_f (by omega) (by omega) (by omega), ifEq_t rfl, r1]; rfl
        · rw [ifEq_f (by omega) (by omega) (by omega), ifEq_f (by omega) (by omega) (by omega), ifEq_f (by omega) (by omega) (by omega), ifEq_f (by omega) (by omega) (by omega), ifEq_t rfl, r2, r3]; rfl
        · rw [ifEq_f (by omega) (by omega) (by omega), ifEq_f (by omega) (by omega) (by omega), ifEq_f (by omega) (by omega) (by omega), ifEq_f (by omega) (by omega) (by omega), ifEq_f (by omega) (by omega) (by omega), r4, r5]; rfl
      · obtain ⟨M3, c1, c2, c3⟩ := mCopies (x := 0) (y := 2) M (by omega) (by omega) (by omega)
        have h3 : zRM M3 0 N A := h.frS hW c2 (by intro i; omega)
        let d : Int32 := nI 0 - zA_rd A
        let e0 : Int32 := nI 0 - zA_wr A
        have hd : zA_rd A + d = nI 0 := by show zA_rd A + (nI 0 - zA_rd A) = nI 0; rw [Int32.add_comm, Int32.sub_add_cancel]
        have he : zA_wr A + e0 = nI 0 := by show zA_wr A + (nI 0 - zA_wr A) = nI 0; rw [Int32.add_comm, Int32.sub_add_cancel]
        have h5 : zRc (zz_si (zz_si M3 74 8 (nI 0)) 74 9 (nI 0)) 0 (400000 * N) (zsh A d e0) := by
          have hm : (zA_S A).length ≤ 300 := hW.2.2.2.2.2.2.2.2.1.1
          obtain ⟨⟨q1, q2, q3, q4, q5, q6, q7, q8, q9, q10, q11, q12, q13⟩, g2, ⟨cm, xs, ke, ve, be, se, hcm, e⟩, g4, g5⟩ := h3.rc
          have hf : zFr (fun k i => k = 74 ∧ (i = 8 ∨ i = 9)) M3 (zz_si (zz_si M3 74 8 (nI 0)) 74 9 (nI 0)) := (zFr.si (by omega)).trans (zFr.si (by omega))
          refine ⟨⟨?_, ?_, ?_, ?_, ?_, ?_, ?_, ?_, ?_, ?_, ?_, ?_, ?_⟩, g2.frS hW.hok.2 hf (by intro i; omega), ⟨cm, xs, ke, ve, be, se, hcm, e.frS hm hf (by intro i; omega)⟩, g4.frS hW.2.2.2.2.2.1 hf (by intro i; omega), g5.frS hf (by intro i; omega)⟩
          · rw [(hf _ _ (by omega)).1]; exact q1
          · rw [(hf _ _ (by omega)).1]; exact q2
          · rw [(hf _ _ (by omega)).1]; exact q3
          · rw [(hf _ _ (by omega)).1]; exact q4
          · rw [(hf _ _ (by omega)).1]; exact q5
          · rw [(hf _ _ (by omega)).1]; exact q6
          · rw [(hf _ _ (by omega)).1]; exact q7
          · rw [(hf _ _ (by omega)).1]; exact q8
          · rw [rd_ne (by omega), rd_eq]; exact hd.symm
          · rw [rd_eq]; exact he.symm
          · rw [(hf _ _ (by omega)).1]; exact q11
          · rw [(hf _ _ (by omega)).1]; exact q12
          · rw [(hf _ _ (by omega)).1]; exact q13
        have hWs : zWF N (zsh A d e0) := hW
        obtain ⟨M6, p1, p2, p3⟩ := mPutsDrawn (n := m) (by omega) (by omega) hWs h5
        rw [zpds_sh] at p2
        have hf5 : zFr zmS M3 (zz_si (zz_si M3 74 8 (nI 0)) 74 9 (nI 0)) := (zFr.si (by unfold zmS; omega)).trans (zFr.si (by unfold zmS; omega))
        have f36 : zFr zmS M3 M6 := hf5.trans (p3.weak (fun _ _ h => zmN_S h))
        obtain ⟨M7, k1, k2, k3⟩ := mCopies (x := 2) (y := 0) M6 (by omega) (by omega) (by omega)
        have hback : zRM M7 0 N A := h.copy (t := 0) hW (fun k hk => by
          rw [show 0 + k = 1892 * 0 + k by omega, k3 k hk, (f36 _ _ (by unfold zmS; omega)).1, c3 k hk])
        have hWp' : zWF N (zsh (zpds A m) d e0) := hWp
        refine ⟨M7, ?_, hback.up, ((c2.weak (fun k i h => by unfold zmW; omega)).trans (f36.weak (fun k i h => zmS_W h))).trans (k2.weak (fun k i h => by unfold zmW; omega))⟩
        have g7 : M6.1 74 7 = nI (zA_S (zpds A m)).length := p2.1.2.2.2.2.2.2.2.1
        have g8 : M6.1 74 8 = zA_rd (zpds A m) - zA_rd A := by
          have : M6.1 74 8 = zA_rd (zpds A m) + d := p2.1.2.2.2.2.2.2.2.2.1
          rw [this]
          show zA_rd (zpds A m) + (nI 0 - zA_rd A) = _
          rw [show (nI 0 : Int32) = 0 from rfl, Int32.zero_sub, Int32.sub_eq_add_neg]
        have g9 : M6.1 74 9 = zA_wr (zpds A m) - zA_wr A := by
          have : M6.1 74 9 = zA_wr (zpds A m) + e0 := p2.1.2.2.2.2.2.2.2.2.2.1
          rw [this]
          show zA_wr (zpds A m) + (nI 0 - zA_wr A) = _
          rw [show (nI 0 : Int32) = 0 from rfl, Int32.zero_sub, Int32.sub_eq_add_neg]
        have hu : f_X10_pagesTaken M6 = some (nI (zuse (zpds A m))) := by
          have := mUse (N := 1000) hWp' (p2.rm (N := 1000) (by omega))
          exact this
        have hgo : ∀ s, j_X10_grown_120 s M6 = some (s, M7) := fun s => by
          unfold j_X10_grown_120
          rw [k1]; rfl
        unfold f_X10_grown zgrw
        rw [in_eq, if_pos ha, if_pos hb, c1]
        simp only [Option.bind_some, zbd]
        rw [p1, Option.bind_some]
        rcases (show w = 0 ∨ w = 1 ∨ w = 2 ∨ w = 3 ∨ w = 4 ∨ w = 5 by omega) with rfl | rfl | rfl | rfl | rfl | rfl
        · rw [ifE0_t rfl, if_pos rfl, mBuck hWp' p2.1, Option.bind_some, hgo]; rfl
        · rw [ifE0_f (by omega) (by omega), ifEq_t rfl, mLoad hWp' p2.1, Option.bind_some, hgo]; rfl
        · rw [ifE0_f (by omega) (by omega), ifEq_f (by omega) (by omega) (by omega), ifEq_t rfl, hu, Option.bind_some, hgo]; rfl
        · rw [ifE0_f (by omega) (by omega), ifEq_f (by omega) (by omega) (by omega), ifEq_f (by omega) (by omega) (by omega), ifEq_t rfl, g7, hgo]; rfl
        · rw [ifE0_f (by omega) (by omega), ifEq_f (by omega) (by omega) (by omega), ifEq_f (by omega) (by omega) (by omega), ifEq_f (by omega) (by omega) (by omega), ifEq_t rfl, g8, hgo]; rfl
        · rw [ifE0_f (by omega) (by omega), ifEq_f (by omega) (by omega) (by omega), ifEq_f (by omega) (by omega) (by omega), ifEq_f (by omega) (by omega) (by omega), ifEq_f (by omega) (by omega) (by omega), g9, hgo]; rfl
    · refine ⟨(-1 : Int32), A, hW.up, fun M h => ⟨M, ?_, h, zFr.refl M⟩, fun M h => ⟨M, ?_, h.up, zFr.refl M⟩⟩
      · unfold f_X9_grown; rw [if_pos ha, hb]; rfl
      · unfold f_X10_grown; rw [in_eq, if_pos ha, hb]; rfl
  · refine ⟨(-1 : Int32), A, hW.up, fun M h => ⟨M, ?_, h, zFr.refl M⟩, fun M h => ⟨M, ?_, h.up, zFr.refl M⟩⟩
    · unfold f_X9_grown; rw [ha]; rfl
    · unfold f_X10_grown; rw [in_eq, ha]; rfl
