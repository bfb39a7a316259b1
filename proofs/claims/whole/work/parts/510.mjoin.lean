/-! ===== the reference: a join ===== -/
section MJ
variable {N : Nat} {A : zzA}
set_option maxHeartbeats 8000000 in
theorem mJoin43 {M M0 : zzMem} {C : Nat} (hC : C + 300 < 2147483648) (hW : zWF N A) (h : zRc M 0 C A) (hB : zA_n A < zA_B A) (f0 : zFr (fun k i => k = 74 ∧ (i = 5 ∨ i = 6)) M M0) (h5' : M0.1 74 5 = nI (zjlv A)) (h6' : M0.1 74 6 = nI (zjpt A + 1)) : ∃ M', j_X10_comesTogether_43 (nI (zA_B A - 1)) M0 = some (nI (zA_E A (zA_B A - 1)).length, M') ∧ zRc M' 0 (C + 300) (zjoi A) ∧ zFr zmN M M' := by
  obtain ⟨cm, xs, ke, ve, be, se, hcm, e, hm, hm3, hx, hc1⟩ := h.fx hW
  have hs := hW.sB
  have hc := hW.c2
  obtain ⟨z1, z2, h3, h4, h5, h6, h7⟩ := zjoi_s hW hB
  have hpB : zjpt A ≠ zA_B A - 1 := by omega
  have hbl : zA_B A - 1 < 64 := by omega
  have hbp : zjpt A < 64 := by omega
  have hbe : ∀ x, x < (zA_S A).length → be x < 64 := fun x h => by have := (hx x h).1; omega
  have f1 : zFr (fun k i => k = 74 ∧ (i = 5 ∨ i = 6)) M (zz_si M0 74 6 (nI (zjpt A))) := f0.trans (zFr.si (by omega))
  have mp1 : zMp (zz_si M0 74 6 (nI (zjpt A))) 0 (zA_G A) := h.2.2.2.1.frS hW.2.2.2.2.2.1 f1 (by intro i; omega)
  have f5 : zFr (fun k i => k = 74 ∧ (i = 5 ∨ i = 6 ∨ i = 8)) M (zz_si (zz_si M0 74 6 (nI (zjpt A))) 74 8 (zA_rd A + nI ((zA_G A (zjpt A)).length + (zA_G A (zA_B A - 1)).length))) := (f1.weak (fun k i h => by omega)).trans (zFr.si (by omega))
  have c5 : (zz_si (zz_si M0 74 6 (nI (zjpt A))) 74 8 (zA_rd A + nI ((zA_G A (zjpt A)).length + (zA_G A (zA_B A - 1)).length))).1 74 5 = nI (zjlv A) := by rw [rd_ne (by omega), rd_ne (by omega)]; exact h5'
  have c6 : (zz_si (zz_si M0 74 6 (nI (zjpt A))) 74 8 (zA_rd A + nI ((zA_G A (zjpt A)).length + (zA_G A (zA_B A - 1)).length))).1 74 6 = nI (zjpt A) := by rw [rd_ne (by omega), rd_eq]
  have c8 : (zz_si (zz_si M0 74 6 (nI (zjpt A))) 74 8 (zA_rd A + nI ((zA_G A (zjpt A)).length + (zA_G A (zA_B A - 1)).length))).1 74 8 = zA_rd A + nI ((zA_G A (zjpt A)).length + (zA_G A (zA_B A - 1)).length) := by rw [rd_eq]
  generalize hM5 : zz_si (zz_si M0 74 6 (nI (zjpt A))) 74 8 (zA_rd A + nI ((zA_G A (zjpt A)).length + (zA_G A (zA_B A - 1)).length)) = M5 at f5 c5 c6 c8
  have e5 : zMe M5 0 (zA_S A).length cm (zA_E A) xs ke ve be se := e.frS hm3 f5 (by intro i; omega)
  have mp5 : zMp M5 0 (zA_G A) := h.2.2.2.1.frS hW.2.2.2.2.2.1 f5 (by intro i; omega)
  have hm5 : M5.1 74 7 = nI (zA_S A).length := by rw [(f5 _ _ (by omega)).1]; exact hm
  obtain ⟨M6, l1, l2, l3, l4⟩ := mLists hm5 hm3 e5 (by omega) hbe hbl
  have mp6 : zMp M6 0 (zA_G A) := mp5.frS hW.2.2.2.2.2.1 l4 (by intro i; omega)
  obtain ⟨M7, r1, r2, r3⟩ := mFrees (j := 0) mp6 hW.gok hbl (by decide)
  rw [List.take_zero] at r2
  have e7 : zMe M7 0 (zA_S A).length cm (zA_E A) xs ke ve be se := (e5.frS hm3 l4 (by intro i; omega)).frS hm3 r3 (by intro i; unfold zpgS; omega)
  have hm7 : M7.1 74 7 = nI (zA_S A).length := by rw [(r3 _ _ (by unfold zpgS; omega)).1, (l4 _ _ (by omega)).1]; exact hm5
  have hk7 := mKeysG hm7 hm3 e7 hbe hbp
  have hc7 : M7.1 74 1 = nI (zA_c A) := by rw [(r3 _ _ (by unfold zpgS; omega)).1, (l4 _ _ (by omega)).1, (f5 _ _ (by omega)).1]; exact hc1
  have hsum := zsum_upd (f := fun b => (zA_E A b).length) (x := 0) 64 hbl
  have htot := hW.pk.2.2.2
  obtain ⟨M9, n1, n2, n3⟩ := mNeeds (b := zjpt A) (n := (zA_E A (zA_B A - 1)).length) hc.1 hc.2 hbp r2 (zjo_pk1 hW hB) (by omega) hc7
  rw [zupd_ne hpB] at n1 n2
  generalize hLd : xs (zA_B A - 1) = L at l2 l3
  have hEL : zA_E A (zA_B A - 1) = L.map (fun x => (ke x, ve x)) := by rw [← hLd]; exact e.2.2.2.2 _
  have hEl : (zA_E A (zA_B A - 1)).length = L.length := by rw [hEL, List.length_map]
  have hLx : ∀ x ∈ L, x < (zA_S A).length ∧ be x = zA_B A - 1 := fun x hx => e.2.2.1 _ x (by rw [hLd]; exact hx)
  have hLn : L.Nodup := by rw [← hLd]; exact e.xnd _
  have hLl : L.length ≤ (zA_S A).length := by rw [← hLd]; exact e.xlen _
  have hpkE := zjoi_pk hW hB
  have mp9 : zMp M9 0 (zjoG A) := n2
  have f9 : zFr (fun k i => k = 79 ∨ (k = 73 ∧ i = 15) ∨ zpgS k i) M5 M9 := ((l4.weak (fun k i h => by omega)).trans (r3.weak (fun k i h => Or.inr (Or.inr h)))).trans (n3.weak (fun k i h => Or.inr (Or.inr h)))
  have c15 : M9.1 73 15 = nI L.length := by rw [(n3 _ _ (by unfold zpgS; omega)).1, (r3 _ _ (by unfold zpgS; omega)).1]; exact l2
  have c79 : ∀ (t x : Nat), L[t]? = some x → M9.1 79 t = nI x := fun t x ht => by rw [(n3 _ _ (by unfold zpgS; omega)).1, (r3 _ _ (by unfold zpgS; omega)).1]; exact l3 t x ht
  have e9 : zMe M9 0 (zA_S A).length cm (zA_E A) xs ke ve be se := e7.frS hm3 n3 (by intro i; unfold zpgS; omega)
  let S0 : Nat → Nat → Prop := fun k i => k = 74 ∧ (i = 13 ∨ (640 ≤ i ∧ i < 1240))
  have S0i : ∀ k i, S0 k i ↔ (k = 74 ∧ (i = 13 ∨ (640 ≤ i ∧ i < 1240))) := fun k i => Iff.rfl
  let R : Int32 × zzMem → Prop := fun r => r.1 = nI L.length ∧ zRc r.2 0 (C + 300) (zjoi A) ∧ zFr zmN M r.2
  have hloop : ∃ r, j_X10_comesTogether_121 (nI (zjpt A)) (nI 0) M9 = some r ∧ R r := by
    unfold j_X10_comesTogether_121
    refine zlp_forI (B := fun s : (Int32 × zzMem) => b_X10_comesTogether_121 (nI (zjpt A)) s.1 s.2) (fun i X => (nI i, X)) (fun i X => zFr S0 M9 X ∧ X.1 74 13 = nI (cm + i) ∧ (∀ (t x : Nat), t < i → L[t]? = some x → X.1 74 (640 + x) = nI (zjpt A) ∧ X.1 74 (940 + x) = nI (cm + t)) ∧ ∀ x, x < (zA_S A).length → x ∉ L → X.1 74 (640 + x) = nI (be x) ∧ X.1 74 (940 + x) = nI (se x)) L.length R (fun i hi X hX => ?_) (fun X hX => ?_) 0 (by omega) M9 ?_
    · obtain ⟨j1, j2, j3, j4⟩ := hX
      have hget := List.getElem?_eq_getElem hi
      generalize L[i]'hi = x at hget
      have hxL := List.mem_of_getElem? hget
      have hx1 := hLx x hxL
      have hv : X.1 79 i = nI x := by rw [(j1 _ _ (by rw [S0i]; omega)).1]; exact c79 i x hget
      have h15 : X.1 73 15 = nI L.length := by rw [(j1 _ _ (by rw [S0i]; omega)).1]; exact c15
      have hcb := mComes (b := zjpt A) (show x < 300 by omega) j2
      have fS : zFr (fun k j => k = 74 ∧ (j = 13 ∨ j = 640 + x ∨ j = 940 + x)) X (zz_si (zz_si (zz_si X 74 (640 + x) (nI (zjpt A))) 74 (940 + x) (nI (cm + i))) 74 13 (nI (cm + i + 1))) := ((zFr.si (by omega)).trans (zFr.si (by omega))).trans (zFr.si (by omega))
      refine ⟨zz_si (zz_si (zz_si X 74 (640 + x) (nI (zjpt A))) 74 (940 + x) (nI (cm + i))) 74 13 (nI (cm + i + 1)), ?_, j1.trans (fS.weak (fun k j h => by rw [S0i]; omega)), ?_, fun t y ht hy => ?_, fun y hy1 hy2 => ?_⟩
      · show b_X10_comesTogether_121 (nI (zjpt A)) (nI i) X = _
        unfold b_X10_comesTogether_121
        simp (disch := omega) only [h15, ifLe_f, zgd_in, nIc, hv, hcb, Option.bind_some, zbd, nIadd]
      · rw [rd_eq]; rfl
      · by_cases hti : t = i
        · subst hti
          rw [hget] at hy
          cases hy
          refine ⟨?_, ?_⟩
          · rw [rd_ne (by omega), rd_ne (by omega), rd_eq]
          · rw [rd_ne (by omega), rd_eq]
        · have hyx : y ≠ x := fun hh => by
            rw [hh] at hy
            have a1 := idx_at hLn hy
            have a2 := idx_at hLn hget
            omega
          have hy3 := (hLx y (List.mem_of_getElem? hy)).1
          rw [(fS _ _ (by omega)).1, (fS _ _ (by omega)).1]
          exact j3 t y (by omega) hy
      · have hyx : y ≠ x := fun hh => hy2 (by rw [hh]; exact hxL)
        rw [(fS _ _ (by omega)).1, (fS _ _ (by omega)).1]
        exact j4 y hy1 hy2
    · obtain ⟨j1, j2, j3, j4⟩ := hX
      have h15 : X.1 73 15 = nI L.length := by rw [(j1 _ _ (by rw [S0i]; omega)).1]; exact c15
      have mpX : zMp X 0 (zjoG A) := mp9.frS hpkE.1.1 j1 (by intro i; rw [S0i]; omega)
      have hch := mChainG hpkE.1 mpX hbp
      have fM : zFr (fun k i => k = 79 ∨ (k = 73 ∧ i = 15) ∨ (k = 74 ∧ (i = 5 ∨ i = 6 ∨ i = 8 ∨ i = 13 ∨ (640 ≤ i ∧ i < 1752)))) M X := ((f5.weak (fun k i h => by omega)).trans (f9.weak (fun k i h => by unfold zpgS at h; omega))).trans (j1.weak (fun k i h => by rw [S0i] at h; omega))
      have g9 : X.1 74 9 = zA_wr A := by rw [(fM _ _ (by omega)).1]; have := h.1.2.2.2.2.2.2.2.2.2.1; simpa using this
      have g11 : X.1 74 11 = zA_jn A := by rw [(fM _ _ (by omega)).1]; have := h.1.2.2.2.2.2.2.2.2.2.2.2.1; simpa using this
      let xs' : Nat → List Nat := zupd (zupd xs (zA_B A - 1) []) (zjpt A) (xs (zjpt A) ++ L)
      let be' : Nat → Nat := fun x => if x ∈ L then zjpt A else be x
      let se' : Nat → Nat := fun x => if x ∈ L then cm + L.idxOf x else se x
      have xo : xs' (zjpt A) = xs (zjpt A) ++ L := by simp only [xs']; rw [zupd_eq]
      have xf : xs' (zA_B A - 1) = [] := by simp only [xs']; rw [zupd_ne (by omega), zupd_eq]
      have xx : ∀ b, b ≠ zjpt A → b ≠ zA_B A - 1 → xs' b = xs b := fun b h1 h2 => by simp only [xs']; rw [zupd_ne h1, zupd_ne h2]
      have hnotL : ∀ b x, b ≠ zA_B A - 1 → x ∈ xs b → x ∉ L := fun b x hb hx1 hx2 => hb (by rw [← (hLx x hx2).2]; exact (e.2.2.1 b x hx1).2.symm)
      have fY : zFr (fun k i => k = 74 ∧ (i = 9 ∨ i = 11)) X (zz_si (zz_si X 74 9 (zA_wr A + nI (zjoG A (zjpt A)).length)) 74 11 (zA_jn A + nI 1)) := (zFr.si (by omega)).trans (zFr.si (by omega))
      have fA : zFr (fun k i => k = 79 ∨ (k = 73 ∧ i = 15) ∨ (k = 74 ∧ (i = 5 ∨ i = 6 ∨ i = 8 ∨ i = 9 ∨ i = 11 ∨ i = 13 ∨ (640 ≤ i ∧ i < 1752)))) M (zz_si (zz_si X 74 9 (zA_wr A + nI (zjoG A (zjpt A)).length)) 74 11 (zA_jn A + nI 1)) := (fM.weak (fun k i h => by omega)).trans (fY.weak (fun k i h => by omega))
      refine ⟨(nI L.length, zz_si (zz_si X 74 9 (zA_wr A + nI (zjoG A (zjpt A)).length)) 74 11 (zA_jn A + nI 1)), ?_, rfl, ⟨⟨?_, ?_, ?_, ?_, ?_, ?_, ?_, ?_, ?_, ?_, ?_, ?_, ?_⟩, h.2.1.frS hW.hok.2 fA (by intro i hi; omega), ⟨cm + L.length, xs', ke, ve, be', se', by omega, ?_, fun x hx1 => ?_, fun b x hx1 => ?_, fun b => ?_, fun b => ?_⟩, mpX.frS hpkE.1.1 fY (by intro i; omega), h.2.2.2.2.frS fA (by intro i; omega)⟩, fA.weak (fun k i h => by unfold zmN; omega)⟩
      · show b_X10_comesTogether_121 (nI (zjpt A)) (nI L.length) X = _
        unfold b_X10_comesTogether_121
        simp (disch := omega) only [h15, ifLe_t, hch, Option.bind_some, g9, zbd, rd_ne, g11]
      · rw [(fA _ _ (by omega)).1]; exact h.1.1
      · rw [(fA _ _ (by omega)).1]; exact h.1.2.1
      · rw [(fA _ _ (by omega)).1]; exact h.1.2.2.1
      · rw [(fA _ _ (by omega)).1]; exact h.1.2.2.2.1
      · rw [(fA _ _ (by omega)).1]; exact h.1.2.2.2.2.1
      · rw [(fY _ _ (by omega)).1, (j1 _ _ (by rw [S0i]; omega)).1, (f9 _ _ (by unfold zpgS; omega)).1]; exact c5
      · rw [(fY _ _ (by omega)).1, (j1 _ _ (by rw [S0i]; omega)).1, (f9 _ _ (by unfold zpgS; omega)).1]; exact c6
      · rw [(fA _ _ (by omega)).1]; exact h.1.2.2.2.2.2.2.2.1
      · rw [(fY _ _ (by omega)).1, (j1 _ _ (by rw [S0i]; omega)).1, (f9 _ _ (by unfold zpgS; omega)).1]; exact c8
      · show (zz_si (zz_si X 74 9 (zA_wr A + nI (zjoG A (zjpt A)).length)) 74 11 (zA_jn A + nI 1)).1 74 9 = _
        rw [rd_ne (by omega), rd_eq]; rfl
      · rw [(fA _ _ (by omega)).1]; exact h.1.2.2.2.2.2.2.2.2.2.2.1
      · show (zz_si (zz_si X 74 9 (zA_wr A + nI (zjoG A (zjpt A)).length)) 74 11 (zA_jn A + nI 1)).1 74 11 = _
        rw [rd_eq]; rfl
      · rw [(fA _ _ (by omega)).1]; exact h.1.2.2.2.2.2.2.2.2.2.2.2.2
      · rw [(fY _ _ (by omega)).1]; exact j2
      · have hx1 : x < (zA_S A).length := hx1
        have hk9 := e9.2.1 x hx1
        simp only [Nat.zero_add] at hk9 ⊢
        rw [(fY _ _ (by omega)).1, (fY 74 (340 + x) (by omega)).1, (fY 74 (640 + x) (by omega)).1, (fY 74 (940 + x) (by omega)).1]
        refine ⟨by rw [(j1 _ _ (by rw [S0i]; omega)).1]; exact hk9.1, by rw [(j1 _ _ (by rw [S0i]; omega)).1]; exact hk9.2.1, ?_⟩
        by_cases hxL : x ∈ L
        · have hi := idx_get hxL
          have hil := List.idxOf_lt_length_of_mem hxL
          obtain ⟨w1, w2⟩ := j3 _ x hil hi
          have b1 : be' x = zjpt A := if_pos hxL
          have s1 : se' x = cm + L.idxOf x := if_pos hxL
          rw [b1, s1]
          exact ⟨w1, w2, by omega, by rw [xo]; exact List.mem_append.mpr (Or.inr hxL)⟩
        · obtain ⟨w1, w2⟩ := j4 x hx1 hxL
          have b1 : be' x = be x := if_neg hxL
          have s1 : se' x = se x := if_neg hxL
          have hxm := (e.2.1 x hx1).2.2.2.2
          rw [b1, s1]
          refine ⟨w1, w2, by omega, ?_⟩
          have n1 : be x ≠ zA_B A - 1 := fun hh => hxL (by rw [← hLd, ← hh]; exact hxm.2)
          by_cases n2 : be x = zjpt A
          · rw [n2, xo]; exact List.mem_append.mpr (Or.inl (by rw [← n2]; exact hxm.2))
          · rw [xx _ n2 n1]; exact hxm.2
      · show x < (zA_S A).length ∧ (if x ∈ L then zjpt A else be x) = b
        by_cases n1 : b = zjpt A
        · subst n1
          rw [xo] at hx1
          rcases List.mem_append.mp hx1 with hh | hh
          · rw [if_neg (hnotL _ x hpB hh)]; exact e.2.2.1 _ x hh
          · rw [if_pos hh]; exact ⟨(hLx x hh).1, rfl⟩
        · by_cases n2 : b = zA_B A - 1
          · subst n2; rw [xf] at hx1; cases hx1
          · rw [xx b n1 n2] at hx1
            rw [if_neg (hnotL b x n2 hx1)]; exact e.2.2.1 b x hx1
      · have hpL : L.Pairwise (fun x y => se' x < se' y) := (idx_pw hLn).imp_of_mem (fun {x y} h1 h2 hxy => by
          show (if x ∈ L then cm + L.idxOf x else se x) < (if y ∈ L then cm + L.idxOf y else se y)
          rw [if_pos h1, if_pos h2]; omega)
        have hpX : ∀ b, b ≠ zA_B A - 1 → (xs b).Pairwise (fun x y => se' x < se' y) := fun b hb => (e.2.2.2.1 b).imp_of_mem (fun {x y} h1 h2 hxy => by
          show (if x ∈ L then cm + L.idxOf x else se x) < (if y ∈ L then cm + L.idxOf y else se y)
          rw [if_neg (hnotL b x hb h1), if_neg (hnotL b y hb h2)]; exact hxy)
        by_cases n1 : b = zjpt A
        · subst n1
          rw [xo, List.pairwise_append]
          refine ⟨hpX _ hpB, hpL, fun x h1 y h2 => ?_⟩
          show (if x ∈ L then cm + L.idxOf x else se x) < (if y ∈ L then cm + L.idxOf y else se y)
          rw [if_neg (hnotL _ x hpB h1), if_pos h2]
          have := (e.2.1 x (e.2.2.1 _ x h1).1).2.2.2.2.1
          omega
        · by_cases n2 : b = zA_B A - 1
          · subst n2; rw [xf]; exact List.Pairwise.nil
          · rw [xx b n1 n2]; exact hpX b n2
      · show zjoE A b = (xs' b).map (fun x => (ke x, ve x))
        by_cases n1 : b = zjpt A
        · subst n1
          rw [xo, List.map_append, ← hEL, ← e.2.2.2.2]
          unfold zjoE; rw [zupd_eq]
        · by_cases n2 : b = zA_B A - 1
          · subst n2
            rw [xf]
            unfold zjoE; rw [zupd_ne (by omega), zupd_eq]; rfl
          · rw [xx b n1 n2]
            unfold zjoE
            rw [zupd_ne n1, zupd_ne n2]; exact e.2.2.2.2 b
    · refine ⟨zFr.refl M9, by have := e9.1; simpa using this, fun t x ht => by omega, fun x hx1 hx2 => ?_⟩
      have := (e9.2.1 x hx1).2.2
      exact ⟨by simpa using this.1, by simpa using this.2.1⟩
  obtain ⟨r, w1, w2, w3, w4⟩ := hloop
  refine ⟨r.2, ?_, w3, w4⟩
  have ch1 := mChainG hW.gok mp1 hbp
  have ch2 := mChainG hW.gok mp1 hbl
  have g8 : (zz_si M0 74 6 (nI (zjpt A))).1 74 8 = zA_rd A := by rw [(f1 _ _ (by omega)).1]; have := h.1.2.2.2.2.2.2.2.2.1; simpa using this
  have g15 : M7.1 73 15 = nI (zA_E A (zA_B A - 1)).length := by rw [(r3 _ _ (by unfold zpgS; omega)).1, hEl]; exact l2
  have hsub : nI (zjpt A + 1) - nI 1 = nI (zjpt A) := by rw [nIsub (by omega), Nat.add_sub_cancel]
  unfold j_X10_comesTogether_43
  rw [h6', hsub]
  simp only [zbd_eq]
  rw [rd_eq, ch1]
  simp only [Option.bind_some]
  rw [ch2]
  simp only [Option.bind_some, g8]
  rw [Int32.add_assoc, nIadd, hM5, l1]
  simp only [Option.bind_some]
  rw [r1]
  simp only [Option.bind_some]
  rw [hk7]
  simp only [Option.bind_some]
  rw [g15, nIadd, n1]
  simp only [Option.bind_some]
  rw [w1, hEl, ← w2]
theorem mJoin {M : zzMem} {C : Nat} (hC : C + 300 < 2147483648) (hW : zWF N A) (h : zRc M 0 C A) (hB : zA_n A < zA_B A) : ∃ M', f_X10_comesTogether M = some (nI (zA_E A (zA_B A - 1)).length, M') ∧ zRc M' 0 (C + 300) (zjoi A) ∧ zFr zmN M M' := by
  have hs := hW.sB
  obtain ⟨z1, z2, h3, h4, h5, h6, h7⟩ := zjoi_s hW hB
  have c0 : M.1 74 0 = nI (zA_n A) := by have := h.1.1; simpa using this
  have c5 : M.1 74 5 = nI (zA_lv A) := by have := h.1.2.2.2.2.2.1; simpa using this
  have c6 : M.1 74 6 = nI (zA_pt A) := by have := h.1.2.2.2.2.2.2.1; simpa using this
  have hbs : nI (zA_B A) - nI 1 = nI (zA_B A - 1) := nIsub (by omega)
  unfold f_X10_comesTogether
  rw [mBuck hW h.1, Option.bind_some, zbd_eq, hbs]
  rcases h7 with ⟨g1, g2, g3, g4⟩ | ⟨g1, g2, g3⟩
  · have e1 : zA_lv A - 1 = zjlv A := (if_pos g1).symm
    have h0 : M.1 74 6 = 0 := by rw [c6, g1]; rfl
    have hv : M.1 74 5 - nI 1 = nI (zA_lv A - 1) := by rw [c5, nIsub g2]
    have hf : f_X10_first (nI 0) (zz_si M 74 5 (nI (zA_lv A - 1))) = some (nI (zjpt A + 1)) := by
      unfold f_X10_first
      simp (disch := omega) only [nImul, nIadd, zgd_in, nIc, Nat.zero_mul, Nat.mul_zero, Nat.zero_add, Nat.add_zero, rd_ne, rd_eq, c0]
      rw [e1, nIshl (by omega) (by omega), ← z2, g4]
    rw [if_pos h0, hv, zbd_eq, hf, Option.bind_some, zbd_eq]
    refine mJoin43 hC hW h hB ((zFr.si ?_).trans (zFr.si ?_)) ?_ ?_
    · omega
    · omega
    · rw [rd_ne (by omega), rd_eq, e1]
    · rw [rd_eq]
  · have e1 : zjlv A = zA_lv A := if_neg g1
    have h0 : ¬ M.1 74 6 = 0 := by rw [c6]; exact nI_ne0 (by omega) (by omega)
    rw [if_neg h0]
    refine mJoin43 hC hW h hB (zFr.refl M) ?_ ?_
    · rw [e1]; exact c5
    · rw [g3]; exact c6
end MJ
theorem op_join (N : Nat) : zSame N f_X9_join f_X10_join := by
  refine zSame.tr (fun hN A hW => ?_)
  have hBn := hW.Bn
  have hn := hW.1.2.1
  have hs := hW.sB
  by_cases hB : zA_n A < zA_B A
  · refine ⟨nI (zA_E A (zA_B A - 1)).length, zjoi A, (zjoi_wf hW hB).up, fun M h => ?_, fun M h => ?_⟩
    · obtain ⟨M', e1, e2, e3⟩ := cUnite hW h hB
      refine ⟨M', ?_, e2, e3.weak (fun k i h => zcpS_c h)⟩
      unfold f_X9_join
      rw [e1]; rfl
    · obtain ⟨M', e1, e2, e3⟩ := mJoin (C := 400000 * N) (by omega) hW h.rc hB
      have c0 : M.1 74 0 = nI (zA_n A) := by have := h.1.1; simpa using this
      refine ⟨M', ?_, e2.rm (by omega), e3.weak (fun _ _ h => zmN_S h)⟩
      unfold f_X10_join
      rw [mBuck hW h.1, c0]
      simp (disch := omega) only [Option.bind_some, ifEq_f, e1, zpr]
  · refine ⟨(-3 : Int32), A, hW.up, fun M h => ⟨M, ?_, h, zFr.refl M⟩, fun M h => ⟨M, ?_, h.up, zFr.refl M⟩⟩
    · unfold f_X9_join
      rw [cUniteN hW h hB]; rfl
    · have c0 : M.1 74 0 = nI (zA_n A) := by have := h.1.1; simpa using this
      unfold f_X10_join
      rw [mBuck hW h.1, c0]
      simp (disch := omega) only [Option.bind_some, ifEq_t]
