/-! ===== the class: a split ===== -/
theorem ztake_filter {α : Type} {L : List α} {i : Nat} {q : α} (h : L[i]? = some q) (f : α → Bool) : (L.take (i + 1)).filter f = (L.take i).filter f ++ (if f q = true then [q] else []) := by
  rw [List.take_add_one, h, List.filter_append]
  congr 1
  cases hf : f q <;> simp [hf]
theorem ztake_flen {α : Type} (L : List α) (i : Nat) (f : α → Bool) : ((L.take i).filter f).length ≤ (L.filter f).length := ((List.take_sublist i L).filter f).length_le
section CD
variable {N : Nat} {A : zzA}
theorem cGoes {M : zzMem} {o : Nat} {B : zzA} {q : Nat × Nat} (hW : zWF N A) (h : zCi M o B) (hB1 : zWF N B) (hs : zA_s B = zA_s A) (hp : zA_pt B = zA_pt A) (hq : q.1 < 65536 ∧ q.2 < 256 ∧ zA_h A q.1 < 65536) : f_X2_goesAtNextSplit o (zen (zA_h A) q) M = some (zgo A q) := by
  have h1 := hW.sB
  have h9 : M.1 o 9 = nI (zA_pt A) := by rw [← hp]; exact h.2.2.2.2.2.1
  have hm := Nat.mod_lt (zA_h A q.1) (show 2 * zA_s A > 0 by omega)
  unfold f_X2_goesAtNextSplit zgo
  rw [cSpan hB1 h, hs, zen_hash hq.1 hq.2.1 hq.2.2]
  simp (disch := omega) only [nImul, zbd, ifLe0_f, nIrem, h9]
  rw [zgd_t (nI_ne0 (by omega) (by omega))]
  by_cases hd : zA_h A q.1 % (2 * zA_s A) = zA_pt A
  · simp (disch := omega) only [ifEq_t, hd, decide_true]; rfl
  · simp (disch := omega) only [ifEq_f, hd, decide_false]; rfl
set_option maxHeartbeats 8000000 in
theorem cDivide {M : zzMem} {o : Nat} (hW : zWF N A) (h : zRC M o A) (hB : zA_B A < 64) : ∃ M', f_X2_divide o M = some (nI (zgon A).length, M') ∧ zRC M' o (zspl A) ∧ zFr (zcpS o) M M' ∧ M'.1 (o + 4) 10 = nI (zA_E A (zA_pt A)).length ∧ ∀ i q, (zA_E A (zA_pt A))[i]? = some q → M'.2 (o + 14) i = zen (zA_h A) q := by
  have hs := hW.sB
  have hp := hW.ptB
  have hc := hW.c2
  have hpB : zA_pt A ≠ zA_B A := by omega
  have hB2 := hW.2.1 (zA_B A) (Nat.le_refl _)
  have hne : zA_G A (zA_pt A) ≠ [] := fun e => by
    have := hW.2.2.2.2.1 (zA_pt A) hp.1
    have h0 : 1 ≤ zpgs (zA_c A) (zA_E A (zA_pt A)).length := by unfold zpgs; omega
    rw [e] at this; simp at this; omega
  have hL3 := hW.e300 (zA_pt A)
  have hS3 := hW.2.2.2.2.2.2.2.2.1.1
  have hq : ∀ (i : Nat) (q : Nat × Nat), (zA_E A (zA_pt A))[i]? = some q → q.1 < 65536 ∧ q.2 < 256 ∧ zA_h A q.1 < 65536 := fun i q hi => hW.ent _ q (List.mem_of_getElem? hi)
  generalize hLd : zA_E A (zA_pt A) = L at hL3 hq
  -- the counters
  have h5 := h.rdc (r := zA_rd A + nI (zA_G A (zA_pt A)).length)
  have hW1 : zWF N (zct A (zA_rd A + nI (zA_G A (zA_pt A)).length) (zA_wr A) (zA_sp A) (zA_jn A)) := zct_wf hW
  generalize hAd : zct A (zA_rd A + nI (zA_G A (zA_pt A)).length) (zA_wr A) (zA_sp A) (zA_jn A) = A1 at h5 hW1
  have hA1 : zA_s A1 = zA_s A ∧ zA_pt A1 = zA_pt A := by rw [← hAd]; exact ⟨rfl, rfl⟩
  have hch5 : zCh (zz_si M o 10 (zA_rd A + nI (zA_G A (zA_pt A)).length)) (o + 4) (zA_c A) (zA_h A) (zA_E A) (zA_G A) := by rw [← hAd] at h5; exact h5.2.2.1
  have hr5 : (zz_si M o 10 (zA_rd A + nI (zA_G A (zA_pt A)).length)).1 (o + 4) 11 = nI (zA_c A) := by rw [rd_ne (by omega)]; exact h.1.2.2.2.2.2.2.2.2.2.2.2
  have f5 : zFr (zcpS o) M (zz_si M o 10 (zA_rd A + nI (zA_G A (zA_pt A)).length)) := zFr.si (by unfold zcpS; omega)
  generalize hM5 : zz_si M o 10 (zA_rd A + nI (zA_G A (zA_pt A)).length) = M5 at h5 hch5 hr5 f5
  obtain ⟨M6, g1, g2, g3, g4⟩ := cGather hch5 hW.pk hc.1 hc.2 hp.2
  rw [hLd] at g2 g3
  have hch6 : zCh M6 (o + 4) (zA_c A) (zA_h A) (zA_E A) (zA_G A) := hch5.frS g4 (by intro k i; omega)
  obtain ⟨M7, e1, e2, e3⟩ := cEmpty1 hch6 hW.gok hp.2 hne
  have hpk1 := zsp_pk1 hW
  obtain ⟨p1, p2, p3⟩ := hpk1.fp hc.1
  obtain ⟨M10, a1, a2, a3⟩ := cAddPage (b := zA_B A) e2 hpk1.1 (by omega) hB p3 p2 (hpk1.1.len _) (by rw [zupd_ne (by omega), hB2.1]; exact Nat.zero_le _)
  have f10 : zFr (fun k i => (k = o + 4 ∧ i = 10) ∨ (o + 5 ≤ k ∧ k ≤ o + 14)) M5 M10 := ((g4.weak (fun k i h => by omega)).trans (e3.weak (fun k i h => by omega))).trans (a3.weak (fun k i h => by omega))
  have hc10 : zCi M10 o A1 := h5.1.frS f10 (by intro i; omega) (by omega)
  have hr10 : M10.1 (o + 4) 11 = nI (zA_c A) := by rw [(f10 _ _ (by omega)).1]; exact hr5
  have hh10 : M10.1 (o + 4) 10 = nI L.length := by rw [(a3 _ _ (by omega)).1, (e3 _ _ (by omega)).1]; exact g2
  have hd10 : ∀ i q, L[i]? = some q → M10.2 (o + 14) i = zen (zA_h A) q := fun i q hi => by rw [(a3 _ _ (by omega)).2, (e3 _ _ (by omega)).2]; exact g3 i q hi
  -- what holds behind the loops
  let E1 : Nat → List (Nat × Nat) := zupd (zA_E A) (zA_pt A) []
  let J : (Nat → List (Nat × Nat)) → (Nat → List Nat) → zzMem → Prop := fun E G X => zCi X o A1 ∧ X.1 (o + 4) 11 = nI (zA_c A) ∧ X.1 (o + 4) 10 = nI L.length ∧ (∀ i q, L[i]? = some q → X.2 (o + 14) i = zen (zA_h A) q) ∧ zCh X (o + 4) (zA_c A) (zA_h A) E G ∧ zFr (fun k i => (k = o + 4 ∧ i = 10) ∨ (o + 5 ≤ k ∧ k ≤ o + 14)) M5 X
  have happ : ∀ (E : Nat → List (Nat × Nat)) (G : Nat → List Nat) (X : zzMem) (b : Nat) (q : Nat × Nat), J E G X → b < 64 → zPk (zA_c A) (fun x => (E x).length) G → ∃ r X', f_X0_append (o + 4) (nI b) (zen (zA_h A) q) X = some (r, X') ∧ J (zupd E b (E b ++ [q])) (zlay1 (zA_c A) b (E b).length G) X' := by
    rintro E G X b q ⟨j1, j2, j3, j4, j5, j6⟩ hb hpk
    obtain ⟨X', t1, t2, t3⟩ := cAppE (q := q) j5 hpk hc.1 hc.2 j2 hb
    refine ⟨_, X', t1, j1.frS t3 (by intro i; omega) (by omega), by rw [(t3 _ _ (by omega)).1]; exact j2, by rw [(t3 _ _ (by omega)).1]; exact j3, fun i q hi => by rw [(t3 _ _ (by omega)).2]; exact j4 i q hi, t2, j6.trans (t3.weak (fun k i h => by omega))⟩
  let R : Int32 × zzMem → Prop := fun r => r.1 = nI (zgon A).length ∧ zRC r.2 o (zspl A) ∧ zFr (zcpS o) M r.2 ∧ r.2.1 (o + 4) 10 = nI L.length ∧ ∀ i q, L[i]? = some q → r.2.2 (o + 14) i = zen (zA_h A) q
  -- the end
  have hend : ∀ X, J (zspE A) (zspG A) X → ∃ r, b_X2_divide_119 o (nI (zA_pt A)) (nI (zA_B A)) (nI L.length) X = some (.inr r) ∧ R r := by
    rintro X ⟨j1, j2, j3, j4, j5, j6⟩
    have n1 := j5.2.1 (zA_pt A) hp.2
    have n2 := j5.2.1 (zA_B A) hB
    have n3 := j5.1 (zA_B A) hB
    have hEf : zspE A (zA_B A) = zgon A := by unfold zspE; rw [zupd_eq]
    rw [hEf] at n3
    have c11 : X.1 o 11 = zA_wr A := by rw [j1.2.2.2.2.2.2.2.1, ← hAd]; rfl
    have c10 : X.1 o 10 = zA_rd A + nI (zA_G A (zA_pt A)).length := by rw [j1.2.2.2.2.2.2.1, ← hAd]; rfl
    have c12 : X.1 o 12 = zA_sp A := by rw [j1.2.2.2.2.2.2.2.2.1, ← hAd]; rfl
    have c13 : X.1 o 13 = zA_jn A := by rw [j1.2.2.2.2.2.2.2.2.2.1, ← hAd]; rfl
    have c14 : X.1 o 14 = nI (zA_dr A) := by rw [j1.2.2.2.2.2.2.2.2.2.2.1, ← hAd]; rfl
    have c9 : X.1 o 9 = nI (zA_pt A) := by rw [j1.2.2.2.2.2.1, ← hAd]; rfl
    have c8 : X.1 o 8 = nI (zA_lv A) := by rw [j1.2.2.2.2.1, ← hAd]; rfl
    have c4 : X.1 o 4 = nI (zA_n A) := by rw [j1.1, ← hAd]; rfl
    have c5 : X.1 o 5 = nI (zA_up A) := by rw [j1.2.1, ← hAd]; rfl
    have c6 : X.1 o 6 = nI (zA_dn A) := by rw [j1.2.2.1, ← hAd]; rfl
    have c7 : X.1 o 7 = nI (zA_po A) := by rw [j1.2.2.2.1, ← hAd]; rfl
    have hlv := hW.lv
    have hsp : ∀ Y : zzMem, Y.1 o 4 = nI (zA_n A) → Y.1 o 8 = nI (zA_lv A) → f_X2_span o Y = nI (zA_s A) := by
      intro Y y1 y2
      unfold f_X2_span
      have := hs.1
      unfold zA_s at this ⊢
      rw [y1, y2, nIshl (by omega) (by omega)]
    have fall : zFr (zcpS o) M X := f5.trans (j6.weak (fun k i h => by unfold zcpS; omega))
    have hlaw5 : zLc X (o + 1) (zA_law A) := h.2.1.frS (S := fun k i => (k = o ∧ 4 ≤ i) ∨ (o + 4 ≤ k ∧ k ≤ o + 14)) ((show zFr _ M M5 from by rw [← hM5]; exact zFr.si (by omega)).trans (j6.weak (fun k i h => by omega))) (by omega) (by intro i; omega)
    have hor5 : zOr X (o + 15) (zA_cd A) (zA_S A) := h.2.2.2.1.frS (S := fun k i => (k = o ∧ 4 ≤ i) ∨ (o + 4 ≤ k ∧ k ≤ o + 14)) ((show zFr _ M M5 from by rw [← hM5]; exact zFr.si (by omega)).trans (j6.weak (fun k i h => by omega))) (by omega) (by intro i; omega)
    have hsc5 : zSn X (o + 17) (zA_sc A) := h.2.2.2.2.frS (S := fun k i => (k = o ∧ 4 ≤ i) ∨ (o + 4 ≤ k ∧ k ≤ o + 14)) ((show zFr _ M M5 from by rw [← hM5]; exact zFr.si (by omega)).trans (j6.weak (fun k i h => by omega))) (by intro i; omega) (by intro i; omega)
    have hfin : ∀ Y : zzMem, zFr (fun k i => k = o ∧ 8 ≤ i ∧ i ≤ 12) X Y → Y.1 o 8 = nI (zA_lv (zspl A)) → Y.1 o 9 = nI (zA_pt (zspl A)) → Y.1 o 10 = zA_rd (zspl A) → Y.1 o 11 = zA_wr (zspl A) → Y.1 o 12 = zA_sp (zspl A) → R (nI (zgon A).length, Y) := by
      intro Y fY y8 y9 y10 y11 y12
      refine ⟨rfl, ⟨⟨?_, ?_, ?_, ?_, y8, y9, y10, y11, y12, ?_, ?_, ?_⟩, hlaw5.frS fY (by omega) (by intro i; omega), j5.frS fY (by intro k i; omega), hor5.frS fY (by omega) (by intro i; omega), hsc5.frS fY (by intro i; omega) (by intro i; omega)⟩, fall.trans (fY.weak (fun k i h => by unfold zcpS; omega)), ?_, fun i q hi => ?_⟩
      · rw [(fY _ _ (by omega)).1]; exact c4
      · rw [(fY _ _ (by omega)).1]; exact c5
      · rw [(fY _ _ (by omega)).1]; exact c6
      · rw [(fY _ _ (by omega)).1]; exact c7
      · rw [(fY _ _ (by omega)).1]; exact c13
      · rw [(fY _ _ (by omega)).1]; exact c14
      · rw [(fY _ _ (by omega)).1]; exact j2
      · rw [(fY _ _ (by omega)).1]; exact j3
      · rw [(fY _ _ (by omega)).2]; exact j4 i q hi
    unfold b_X2_divide_119 j_X2_divide_244
    simp (disch := omega) only [j3, ifLe_t, zgd_in, nIc, n1, n2, c11, zbd, rd_ne, rd_eq, c12, c9, nIadd]
    rw [hsp _ (by simp (disch := omega) only [rd_ne, c4]) (by simp (disch := omega) only [rd_ne, c8])]
    rcases zspl_s hW with ⟨h1, h2, h3, h4⟩ | ⟨h1, h2, h3, h4⟩
    · simp (disch := omega) only [ifEq_t, rd_ne, c8, nIadd, n3]
      refine ⟨_, rfl, hfin _ ?_ ?_ ?_ ?_ ?_ ?_⟩
      · refine ((((zFr.si ?_).trans (zFr.si ?_)).trans (zFr.si ?_)).trans (zFr.si ?_)).trans (zFr.si ?_) <;> omega
      · simp (disch := omega) only [rd_ne, rd_eq, h2]
      · simp (disch := omega) only [rd_eq, h3]
      · simp (disch := omega) only [rd_ne, c10]; rfl
      · simp (disch := omega) only [rd_ne, rd_eq]; rfl
      · simp (disch := omega) only [rd_ne, rd_eq]; rfl
    · simp (disch := omega) only [ifEq_f, rd_ne, n3]
      refine ⟨_, rfl, hfin _ ?_ ?_ ?_ ?_ ?_ ?_⟩
      · refine ((zFr.si ?_).trans (zFr.si ?_)).trans (zFr.si ?_) <;> omega
      · simp (disch := omega) only [rd_ne, c8, h2]
      · simp (disch := omega) only [rd_eq, h3]
      · simp (disch := omega) only [rd_ne, c10]; rfl
      · simp (disch := omega) only [rd_ne, rd_eq]; rfl
      · simp (disch := omega) only [rd_ne, rd_eq]; rfl
  have hstaL : zsta A = L.filter (fun q => !zgo A q) := by unfold zsta; rw [hLd]
  have hgonL : zgon A = L.filter (zgo A) := by unfold zgon; rw [hLd]
  have hgl : ∀ i, ((L.take i).filter (zgo A)).length ≤ (zgon A).length := fun i => by rw [hgonL]; exact ztake_flen _ _ _
  have hsl : ∀ i, ((L.take i).filter (fun q => !zgo A q)).length ≤ (zsta A).length := fun i => by rw [hstaL]; exact ztake_flen _ _ _
  -- the second loop
  have hloop2 : ∀ X, J (zupd (zA_E A) (zA_pt A) (zsta A)) (zspG3 A) X → ∃ r, j_X2_divide_119 o (nI (zA_pt A)) (nI (zA_B A)) (nI 0) X = some r ∧ R r := by
    intro X hX
    unfold j_X2_divide_119
    refine zlp_forI (B := fun s : (Int32 × zzMem) => b_X2_divide_119 o (nI (zA_pt A)) (nI (zA_B A)) s.1 s.2) (fun i X => (nI i, X)) (fun i X => J (zupd (zupd (zA_E A) (zA_pt A) (zsta A)) (zA_B A) ((L.take i).filter (zgo A))) (zlay (zA_c A) (zA_B A) 0 (zspG3 A) ((L.take i).filter (zgo A)).length) X) L.length R (fun i hi Y hY => ?_) (fun Y hY => ?_) 0 (by omega) X ?_
    · have hY' := hY
      obtain ⟨j1, j2, j3, j4, j5, j6⟩ := hY
      have hget := List.getElem?_eq_getElem hi
      have hgo := cGoes hW j1 hW1 hA1.1 hA1.2 (hq i _ hget)
      have hv := j4 i _ hget
      have htf := ztake_filter hget (zgo A)
      generalize L[i]'hi = q at hget hgo hv htf
      cases hz : zgo A q with
      | true =>
        rw [hz] at hgo htf
        have hpk := zsp_pk4 hW hB (n := ((L.take i).filter (zgo A)).length) (hgl i)
        rw [← zlen_upd, ← zlen_upd] at hpk
        obtain ⟨r, X', t1, t2⟩ := happ _ _ Y (zA_B A) q hY' hB hpk
        refine ⟨X', ?_, ?_⟩
        · unfold b_X2_divide_119
          simp (disch := omega) only [j3, ifLe_f, zgd_in, nIc, hv, hgo, Option.bind_some, if_true, t1, zpr, zbd, nIadd]
        · rw [zupd_eq, zupd_upd] at t2
          rw [htf, if_pos rfl, List.length_append]
          have : zlay (zA_c A) (zA_B A) 0 (zspG3 A) (((L.take i).filter (zgo A)).length + [q].length) = zlay1 (zA_c A) (zA_B A) ((L.take i).filter (zgo A)).length (zlay (zA_c A) (zA_B A) 0 (zspG3 A) ((L.take i).filter (zgo A)).length) := by
            show zlay1 (zA_c A) (zA_B A) (0 + ((L.take i).filter (zgo A)).length) _ = _
            rw [Nat.zero_add]
          rw [this]; exact t2
      | false =>
        rw [hz] at hgo htf
        refine ⟨Y, ?_, ?_⟩
        · unfold b_X2_divide_119
          simp (disch := omega) only [j3, ifLe_f, zgd_in, nIc, hv, hgo, Option.bind_some, Bool.false_eq_true, if_false, zbd, nIadd]
        · rw [htf, if_neg (by decide), List.append_nil]; exact hY'
    · rw [List.take_of_length_le (Nat.le_refl _), ← hgonL] at hY
      exact hend Y hY
    · have : zupd (zupd (zA_E A) (zA_pt A) (zsta A)) (zA_B A) [] = zupd (zA_E A) (zA_pt A) (zsta A) := zupd_same (by rw [zupd_ne (by omega)]; exact hB2.1)
      simp only [List.take_zero, List.filter_nil]
      rw [this]; exact hX
  -- the first loop
  have hloop1 : ∃ r, j_X2_divide_66 o (nI (zA_pt A)) (nI (zA_B A)) (nI 0) M10 = some r ∧ R r := by
    unfold j_X2_divide_66
    refine zlp_forI (B := fun s : (Int32 × zzMem) => b_X2_divide_66 o (nI (zA_pt A)) (nI (zA_B A)) s.1 s.2) (fun i X => (nI i, X)) (fun i X => J (zupd (zA_E A) (zA_pt A) ((L.take i).filter (fun q => !zgo A q))) (zlay (zA_c A) (zA_pt A) 0 (zspG2 A) ((L.take i).filter (fun q => !zgo A q)).length) X) L.length R (fun i hi Y hY => ?_) (fun Y hY => ?_) 0 (by omega) M10 ?_
    · have hY' := hY
      obtain ⟨j1, j2, j3, j4, j5, j6⟩ := hY
      have hget := List.getElem?_eq_getElem hi
      have hgo := cGoes hW j1 hW1 hA1.1 hA1.2 (hq i _ hget)
      have hv := j4 i _ hget
      have htf := ztake_filter hget (fun q => !zgo A q)
      generalize L[i]'hi = q at hget hgo hv htf
      cases hz : zgo A q with
      | false =>
        rw [hz] at hgo
        simp only [hz, Bool.not_false] at htf
        rw [if_pos trivial] at htf
        have hpk := zsp_pk3 hW hB (n := ((L.take i).filter (fun q => !zgo A q)).length) (hsl i)
        rw [← zlen_upd] at hpk
        obtain ⟨r, X', t1, t2⟩ := happ _ _ Y (zA_pt A) q hY' hp.2 hpk
        refine ⟨X', ?_, ?_⟩
        · unfold b_X2_divide_66
          simp (disch := omega) only [j3, ifLe_f, zgd_in, nIc, hv, hgo, Option.bind_some, Bool.false_eq_true, if_false, t1, zpr, zbd, nIadd]
        · rw [zupd_eq, zupd_upd] at t2
          rw [htf, List.length_append]
          have : zlay (zA_c A) (zA_pt A) 0 (zspG2 A) (((L.take i).filter (fun q => !zgo A q)).length + [q].length) = zlay1 (zA_c A) (zA_pt A) ((L.take i).filter (fun q => !zgo A q)).length (zlay (zA_c A) (zA_pt A) 0 (zspG2 A) ((L.take i).filter (fun q => !zgo A q)).length) := by
            show zlay1 (zA_c A) (zA_pt A) (0 + ((L.take i).filter (fun q => !zgo A q)).length) _ = _
            rw [Nat.zero_add]
          rw [this]; exact t2
      | true =>
        rw [hz] at hgo
        simp only [hz, Bool.not_true, Bool.false_eq_true, if_false, List.append_nil] at htf
        refine ⟨Y, ?_, ?_⟩
        · unfold b_X2_divide_66
          simp (disch := omega) only [j3, ifLe_f, zgd_in, nIc, hv, hgo, Option.bind_some, if_true, zbd, nIadd]
        · rw [htf]; exact hY'
    · rw [List.take_of_length_le (Nat.le_refl _), ← hstaL] at hY
      obtain ⟨r, t1, t2⟩ := hloop2 Y hY
      have j3 := hY.2.2.1
      refine ⟨r, ?_, t2⟩
      unfold b_X2_divide_66
      simp (disch := omega) only [j3, ifLe_t]
      rw [t1]; rfl
    · simp only [List.take_zero, List.filter_nil]
      exact ⟨hc10, hr10, hh10, hd10, a2, f10⟩
  obtain ⟨r, r1, r2, r3, r4, r5, r6⟩ := hloop1
  refine ⟨r.2, ?_, r3, r4, r5, r6⟩
  have n9 : M.1 (o + 13) (zA_pt A) = nI (zA_G A (zA_pt A)).length := h.2.2.1.2.1 _ hp.2
  unfold f_X2_divide
  rw [cFull hW h.1, if_neg (by simp; omega), cBuck hW h.1, h.1.2.2.2.2.2.1, h.1.2.2.2.2.2.2.1]
  simp (disch := omega) only [zbd, zgd_in, nIc, n9, hM5, g1, Option.bind_some, e1, a1, zpr, r1]
  rw [← r2]
theorem cDivide64 {M : zzMem} {o : Nat} (hW : zWF N A) (h : zRC M o A) (hB : zA_B A = 64) : f_X2_divide o M = some ((-3 : Int32), M) := by
  unfold f_X2_divide
  rw [cFull hW h.1, if_pos (by simp [hB])]
end CD
