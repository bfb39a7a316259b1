/-! ===== the reference: a split ===== -/
theorem mFirst0 {N : Nat} {A : zzA} {M : zzMem} (hW : zWF N A) (h0 : M.1 74 0 = nI (zA_n A)) (h5 : M.1 74 5 = nI (zA_lv A)) : f_X10_first (nI 0) M = some (nI (zA_s A)) := by
  unfold f_X10_first
  have h6 := hW.lv
  have hs := hW.sB.1
  unfold zA_s at hs ⊢
  simp (disch := omega) only [nImul, nIadd, zgd_in, nIc, Nat.zero_mul, Nat.mul_zero, Nat.zero_add, Nat.add_zero, h0, h5]
  rw [nIshl (by omega) (by omega)]
theorem idx_at {xs : List Nat} (hn : xs.Nodup) {i x : Nat} (h : xs[i]? = some x) : xs.idxOf x = i := by
  obtain ⟨hl, rfl⟩ := List.getElem?_eq_some_iff.mp h
  exact hn.idxOf_getElem i hl
theorem idx_get {xs : List Nat} {x : Nat} (h : x ∈ xs) : xs[xs.idxOf x]? = some x := by
  have hl := List.idxOf_lt_length_of_mem h
  rw [List.getElem?_eq_getElem hl, List.getElem_idxOf]
theorem idx_pw {xs : List Nat} (hn : xs.Nodup) : xs.Pairwise (fun x y => xs.idxOf x < xs.idxOf y) := by
  rw [List.pairwise_iff_getElem]
  intro i j hi hj hij
  rw [hn.idxOf_getElem i hi, hn.idxOf_getElem j hj]
  exact hij
section MS
variable {N : Nat} {A : zzA}
theorem mGoes {M : zzMem} {A1 : zzA} {x k : Nat} {v : Nat} (hW : zWF N A) (hW1 : zWF N A1) (hs : zA_s A1 = zA_s A) (hp : zA_pt A1 = zA_pt A) (h1 : zMi M 0 A1) (hl : zLm M 0 (zA_law A)) (hx : x < 300) (hk : k < 65536) (hke : M.1 74 (40 + x) = nI k) : ∃ M', f_X10_goesOver (nI x) M = some (zgo A (k, v), M') ∧ zFr (fun a _ => a = 78) M M' := by
  obtain ⟨M4, e1, e2⟩ := mHashOf hl hW.hok hk
  have hB := hW.sB
  have h1' : zMi M4 0 A1 := h1.frS e2 (by intro i hi; omega)
  have h6 : M4.1 74 6 = nI (zA_pt A) := by rw [← hp]; have := h1'.2.2.2.2.2.2.1; simpa using this
  have hm := Nat.mod_lt (zhs (zA_law A) k) (show 2 * zA_s A > 0 by omega)
  have hh := zhs_lt hk hW.hok.1
  refine ⟨M4, ?_, e2⟩
  unfold f_X10_goesOver zgo
  simp (disch := omega) only [nIadd, zgd_in, nIc, hke, e1, Option.bind_some, zpr]
  rw [mFirst (sl := 0) (by omega) hW1 h1', hs]
  simp (disch := omega) only [Option.bind_some, nImul, h6, nIrem]
  rw [zgd_t (nI_ne0 (by omega) (by omega))]
  have hzh : zA_h A k = zhs (zA_law A) k := rfl
  rw [hzh]
  by_cases hd : zhs (zA_law A) k % (2 * zA_s A) = zA_pt A
  · simp (disch := omega) only [ifEq_t, hd, decide_true]; rfl
  · simp (disch := omega) only [ifEq_f, hd, decide_false]; rfl
theorem mComes {M : zzMem} {x b s : Nat} (hx : x < 300) (hs : M.1 74 13 = nI s) : f_X10_comesBehind (nI x) (nI b) M = some (zz_si (zz_si (zz_si M 74 (640 + x) (nI b)) 74 (940 + x) (nI s)) 74 13 (nI (s + 1))) := by
  unfold f_X10_comesBehind
  simp (disch := omega) only [nIadd, zgd_in, nIc, zbd, rd_ne, hs]
set_option maxHeartbeats 8000000 in
theorem mSplits {M : zzMem} {C : Nat} (hC : C + 300 < 2147483648) (hW : zWF N A) (h : zRc M 0 C A) (hB : zA_B A < 64) : ∃ M', f_X10_splits M = some (nI (zgon A).length, M') ∧ zRc M' 0 (C + 300) (zspl A) ∧ zFr zmN M M' := by
  obtain ⟨cm, xs, ke, ve, be, se, hcm, e, hm, hm3, hx, hc1⟩ := h.fx hW
  have hs := hW.sB
  have hp := hW.ptB
  have hc := hW.c2
  have hpB : zA_pt A ≠ zA_B A := by omega
  have hB2 := hW.2.1 (zA_B A) (Nat.le_refl _)
  have hbe : ∀ x, x < (zA_S A).length → be x < 64 := fun x h => by have := (hx x h).1; omega
  have h5 := h.rdc hW (r := zA_rd A + nI (zA_G A (zA_pt A)).length)
  have hW1 : zWF N (zct A (zA_rd A + nI (zA_G A (zA_pt A)).length) (zA_wr A) (zA_sp A) (zA_jn A)) := zct_wf hW
  have f4 : zFr (fun k i => k = 74 ∧ i = 8) M (zz_si M 74 8 (zA_rd A + nI (zA_G A (zA_pt A)).length)) := zFr.si ⟨rfl, rfl⟩
  have e4 : zMe (zz_si M 74 8 (zA_rd A + nI (zA_G A (zA_pt A)).length)) 0 (zA_S A).length cm (zA_E A) xs ke ve be se := e.frS hm3 f4 (by intro i; omega)
  have hp4 : zMp (zz_si M 74 8 (zA_rd A + nI (zA_G A (zA_pt A)).length)) 0 (zA_G A) := h.2.2.2.1.frS hW.2.2.2.2.2.1 f4 (by intro i; omega)
  have hm4 : (zz_si M 74 8 (zA_rd A + nI (zA_G A (zA_pt A)).length)).1 74 7 = nI (zA_S A).length := by rw [rd_ne (by omega)]; exact hm
  have hmi4 : zMi (zz_si M 74 8 (zA_rd A + nI (zA_G A (zA_pt A)).length)) 0 (zct A (zA_rd A + nI (zA_G A (zA_pt A)).length) (zA_wr A) (zA_sp A) (zA_jn A)) := h5.1
  have hlm4 : zLm (zz_si M 74 8 (zA_rd A + nI (zA_G A (zA_pt A)).length)) 0 (zA_law A) := h5.2.1
  have hms4 : zMs (zz_si M 74 8 (zA_rd A + nI (zA_G A (zA_pt A)).length)) 0 (zA_sc A) := h5.2.2.2.2
  generalize hAd : zct A (zA_rd A + nI (zA_G A (zA_pt A)).length) (zA_wr A) (zA_sp A) (zA_jn A) = A1 at hW1 hmi4
  have hA1 : zA_s A1 = zA_s A ∧ zA_pt A1 = zA_pt A := by rw [← hAd]; exact ⟨rfl, rfl⟩
  generalize hM4 : zz_si M 74 8 (zA_rd A + nI (zA_G A (zA_pt A)).length) = M4 at f4 e4 hp4 hm4 hmi4 hlm4 hms4
  obtain ⟨M5, l1, l2, l3, l4⟩ := mLists hm4 hm3 e4 (by omega) hbe hp.2
  have hp5 : zMp M5 0 (zA_G A) := hp4.frS hW.2.2.2.2.2.1 l4 (by intro i; omega)
  obtain ⟨M6, r1, r2, r3⟩ := mFrees (j := 1) hp5 hW.gok hp.2 (by decide)
  have hpk1 := zsp_pk1 hW
  obtain ⟨q1, q2, q3⟩ := hpk1.fp hc.1
  obtain ⟨M7, t1, t2, t3⟩ := mTakes (b := zA_B A) r2 q3 q2 hpk1.1 hB
  have hG1B : zupd (zA_G A) (zA_pt A) ((zA_G A (zA_pt A)).take 1) (zA_B A) = [] := by rw [zupd_ne (by omega)]; exact hB2.2
  rw [hG1B] at t1
  -- what stays all the time
  let S0 : Nat → Nat → Prop := fun k i => k = 78 ∨ k = 79 ∨ (k = 73 ∧ i = 15) ∨ (k = 74 ∧ (i = 13 ∨ (640 ≤ i ∧ i < 1752)))
  have S0i : ∀ k i, S0 k i ↔ (k = 78 ∨ k = 79 ∨ (k = 73 ∧ i = 15) ∨ (k = 74 ∧ (i = 13 ∨ (640 ≤ i ∧ i < 1752)))) := fun k i => Iff.rfl
  have f7 : zFr S0 M4 M7 := ((l4.weak (fun k i h => by rw [S0i]; omega)).trans (r3.weak (fun k i h => by rw [S0i]; unfold zpgS at h; omega))).trans (t3.weak (fun k i h => by rw [S0i]; unfold zpgS at h; omega))
  have kMi : ∀ X, zFr S0 M4 X → zMi X 0 A1 := fun X hX => hmi4.frS hX (by intro i hi; rw [S0i]; omega)
  have kLm : ∀ X, zFr S0 M4 X → zLm X 0 (zA_law A) := fun X hX => hlm4.frS hW.hok.2 hX (by intro i hi; rw [S0i]; omega)
  have kKe : ∀ X, zFr S0 M4 X → ∀ x, x < (zA_S A).length → X.1 74 (40 + x) = nI (ke x) := fun X hX x hx1 => by
    rw [(hX _ _ (by rw [S0i]; omega)).1]
    have := (e4.2.1 x hx1).1
    simpa using this
  have kC : ∀ X, zFr S0 M4 X → X.1 74 1 = nI (zA_c A) := fun X hX => by
    rw [(hX _ _ (by rw [S0i]; omega)).1, (f4 _ _ (by omega)).1]; exact hc1
  generalize hLd : xs (zA_pt A) = L at l2 l3
  have hLx : ∀ x ∈ L, x < (zA_S A).length ∧ be x = zA_pt A := fun x hx => e.2.2.1 _ x (by rw [hLd]; exact hx)
  have hLn : L.Nodup := by rw [← hLd]; exact e.xnd _
  have hLl : L.length ≤ (zA_S A).length := by rw [← hLd]; exact e.xlen _
  let ge : Nat → Bool := fun x => zgo A (ke x, ve x)
  have hEL : zA_E A (zA_pt A) = L.map (fun x => (ke x, ve x)) := by rw [← hLd]; exact e.2.2.2.2 _
  have hgonL : zgon A = (L.filter ge).map (fun x => (ke x, ve x)) := by
    unfold zgon; rw [hEL, List.filter_map]; rfl
  have hstaL : zsta A = (L.filter (fun x => !ge x)).map (fun x => (ke x, ve x)) := by
    unfold zsta; rw [hEL, List.filter_map]; rfl
  have hgl : (zgon A).length = (L.filter ge).length := by rw [hgonL, List.length_map]
  have hsl : (zsta A).length = (L.filter (fun x => !ge x)).length := by rw [hstaL, List.length_map]
  have hsg : (zsta A).length + (zgon A).length = L.length := by rw [hgl, hsl]; exact zfilt_len ge L
  have goes : ∀ (X : zzMem) (t x : Nat), zFr S0 M4 X → L[t]? = some x → ∃ X', f_X10_goesOver (nI x) X = some (ge x, X') ∧ zFr (fun a _ => a = 78) X X' := by
    intro X t x hX hx1
    have := hLx x (List.mem_of_getElem? hx1)
    exact mGoes (v := ve x) hW hW1 hA1.1 hA1.2 (kMi X hX) (kLm X hX) (by omega) (hx x this.1).2.1 (kKe X hX x this.1)
  let R : Int32 × zzMem → Prop := fun r => r.1 = nI (zgon A).length ∧ zRc r.2 0 (C + 300) (zspl A) ∧ zFr zmN M r.2
  let J : Nat → zzMem → Prop := fun i X => zFr S0 M4 X ∧ X.1 73 15 = nI L.length ∧ (∀ (t x : Nat), L[t]? = some x → X.1 79 t = nI x) ∧ zMp X 0 (zspG A) ∧ X.1 74 13 = nI (cm + i) ∧ (∀ (t x : Nat), t < i → L[t]? = some x → X.1 74 (640 + x) = nI (if ge x then zA_B A else zA_pt A) ∧ X.1 74 (940 + x) = nI (cm + t)) ∧ ∀ x, x < (zA_S A).length → x ∉ L → X.1 74 (640 + x) = nI (be x) ∧ X.1 74 (940 + x) = nI (se x)
  have hpkE := zspl_pk hW hB
  -- the end
  have hend : ∀ X, J L.length X → ∃ r, b_X10_splits_108 (nI (zA_pt A)) (nI (zA_B A)) (nI (zgon A).length) (nI L.length) X = some (.inr r) ∧ R r := by
    rintro X ⟨j1, j2, j3, j4, j5, j6, j7⟩
    have hmi := kMi X j1
    have g0 : X.1 74 0 = nI (zA_n A) := by have := hmi.1; rw [← hAd] at this; exact this
    have g1 : X.1 74 1 = nI (zA_c A) := kC X j1
    have g2 : X.1 74 2 = nI (zA_up A) := by have := hmi.2.2.1; rw [← hAd] at this; exact this
    have g3 : X.1 74 3 = nI (zA_dn A) := by have := hmi.2.2.2.1; rw [← hAd] at this; exact this
    have g4 : X.1 74 4 = nI (zA_po A) := by have := hmi.2.2.2.2.1; rw [← hAd] at this; exact this
    have g5 : X.1 74 5 = nI (zA_lv A) := by have := hmi.2.2.2.2.2.1; rw [← hAd] at this; exact this
    have g6 : X.1 74 6 = nI (zA_pt A) := by have := hmi.2.2.2.2.2.2.1; rw [← hAd] at this; exact this
    have g7 : X.1 74 7 = nI (zA_S A).length := by have := hmi.2.2.2.2.2.2.2.1; rw [← hAd] at this; exact this
    have g8 : X.1 74 8 = zA_rd A + nI (zA_G A (zA_pt A)).length := by have := hmi.2.2.2.2.2.2.2.2.1; rw [← hAd] at this; exact this
    have g9 : X.1 74 9 = zA_wr A := by have := hmi.2.2.2.2.2.2.2.2.2.1; rw [← hAd] at this; exact this
    have g10 : X.1 74 10 = zA_sp A := by have := hmi.2.2.2.2.2.2.2.2.2.2.1; rw [← hAd] at this; exact this
    have g11 : X.1 74 11 = zA_jn A := by have := hmi.2.2.2.2.2.2.2.2.2.2.2.1; rw [← hAd] at this; exact this
    have g12 : X.1 74 12 = nI (zA_dr A) := by have := hmi.2.2.2.2.2.2.2.2.2.2.2.2; rw [← hAd] at this; exact this
    let xs' : Nat → List Nat := zupd (zupd xs (zA_pt A) (L.filter (fun x => !ge x))) (zA_B A) (L.filter ge)
    let be' : Nat → Nat := fun x => if x ∈ L then (if ge x then zA_B A else zA_pt A) else be x
    let se' : Nat → Nat := fun x => if x ∈ L then cm + L.idxOf x else se x
    have xsB : xs (zA_B A) = [] := by
      have := e.2.2.2.2 (zA_B A)
      rw [hB2.1] at this
      exact List.map_eq_nil_iff.mp this.symm
    have xo : xs' (zA_pt A) = L.filter (fun x => !ge x) := by simp only [xs']; rw [zupd_ne hpB, zupd_eq]
    have xf : xs' (zA_B A) = L.filter ge := by simp only [xs']; rw [zupd_eq]
    have xx : ∀ b, b ≠ zA_pt A → b ≠ zA_B A → xs' b = xs b := fun b h1 h2 => by simp only [xs']; rw [zupd_ne h2, zupd_ne h1]
    have hnotL : ∀ b x, b ≠ zA_pt A → x ∈ xs b → x ∉ L := fun b x hb hx1 hx2 => hb (by rw [← (hLx x hx2).2]; exact (e.2.2.1 b x hx1).2.symm)
    have hme : ∀ Y : zzMem, zFr (fun k i => k = 74 ∧ (i = 5 ∨ i = 6 ∨ i = 9 ∨ i = 10)) X Y → zMe Y 0 (zA_S A).length (cm + L.length) (zspE A) xs' ke ve be' se' := by
      intro Y fY
      refine ⟨by rw [(fY _ _ (by omega)).1]; exact j5, fun x hx1 => ?_, fun b x hx1 => ?_, fun b => ?_, fun b => ?_⟩
      · simp only [Nat.zero_add]
        rw [(fY _ _ (by omega)).1, (fY 74 (340 + x) (by omega)).1, (fY 74 (640 + x) (by omega)).1, (fY 74 (940 + x) (by omega)).1]
        refine ⟨kKe X j1 x hx1, ?_, ?_⟩
        · rw [(j1 _ _ (by rw [S0i]; omega)).1]
          have := (e4.2.1 x hx1).2.1
          simpa using this
        · by_cases hxL : x ∈ L
          · have hi := idx_get hxL
            have hil := List.idxOf_lt_length_of_mem hxL
            obtain ⟨w1, w2⟩ := j6 _ x hil hi
            have b1 : be' x = if ge x then zA_B A else zA_pt A := if_pos hxL
            have s1 : se' x = cm + L.idxOf x := if_pos hxL
            rw [b1, s1]
            refine ⟨w1, w2, by omega, ?_⟩
            cases hg : ge x with
            | true => rw [if_pos rfl, xf]; exact List.mem_filter.mpr ⟨hxL, hg⟩
            | false => rw [if_neg (by decide), xo]; exact List.mem_filter.mpr ⟨hxL, by rw [hg]; rfl⟩
          · obtain ⟨w1, w2⟩ := j7 x hx1 hxL
            have b1 : be' x = be x := if_neg hxL
            have s1 : se' x = se x := if_neg hxL
            have hxm := (e.2.1 x hx1).2.2.2.2
            rw [b1, s1]
            refine ⟨w1, w2, by omega, ?_⟩
            have n1 : be x ≠ zA_pt A := fun hh => hxL (by rw [← hLd, ← hh]; exact hxm.2)
            have n2 : be x ≠ zA_B A := fun hh => by have := hxm.2; rw [hh, xsB] at this; cases this
            rw [xx _ n1 n2]; exact hxm.2
      · by_cases n1 : b = zA_pt A
        · subst n1
          rw [xo] at hx1
          obtain ⟨w1, w2⟩ := List.mem_filter.mp hx1
          refine ⟨(hLx x w1).1, ?_⟩
          show (if x ∈ L then (if ge x then zA_B A else zA_pt A) else be x) = _
          rw [if_pos w1, if_neg (by simpa using w2)]
        · by_cases n2 : b = zA_B A
          · subst n2
            rw [xf] at hx1
            obtain ⟨w1, w2⟩ := List.mem_filter.mp hx1
            refine ⟨(hLx x w1).1, ?_⟩
            show (if x ∈ L then (if ge x then zA_B A else zA_pt A) else be x) = _
            rw [if_pos w1, if_pos w2]
          · rw [xx b n1 n2] at hx1
            have := e.2.2.1 b x hx1
            refine ⟨this.1, ?_⟩
            show (if x ∈ L then (if ge x then zA_B A else zA_pt A) else be x) = _
            rw [if_neg (hnotL b x n1 hx1)]; exact this.2
      · have hpL : L.Pairwise (fun x y => se' x < se' y) := (idx_pw hLn).imp_of_mem (fun {x y} h1 h2 hxy => by
          show (if x ∈ L then cm + L.idxOf x else se x) < (if y ∈ L then cm + L.idxOf y else se y)
          rw [if_pos h1, if_pos h2]; omega)
        by_cases n1 : b = zA_pt A
        · subst n1; rw [xo]; exact hpL.sublist List.filter_sublist
        · by_cases n2 : b = zA_B A
          · subst n2; rw [xf]; exact hpL.sublist List.filter_sublist
          · rw [xx b n1 n2]
            refine (e.2.2.2.1 b).imp_of_mem (fun {x y} h1 h2 hxy => ?_)
            show (if x ∈ L then cm + L.idxOf x else se x) < (if y ∈ L then cm + L.idxOf y else se y)
            rw [if_neg (hnotL b x n1 h1), if_neg (hnotL b y n1 h2)]; exact hxy
      · by_cases n1 : b = zA_pt A
        · subst n1
          rw [xo]
          unfold zspE
          rw [zupd_ne hpB, zupd_eq, hstaL]
        · by_cases n2 : b = zA_B A
          · subst n2
            rw [xf]
            unfold zspE
            rw [zupd_eq, hgonL]
          · rw [xx b n1 n2]
            unfold zspE
            rw [zupd_ne n2, zupd_ne n1]; exact e.2.2.2.2 b
    have hfin : ∀ Y : zzMem, zFr (fun k i => k = 74 ∧ (i = 5 ∨ i = 6 ∨ i = 9 ∨ i = 10)) X Y → Y.1 74 5 = nI (zA_lv (zspl A)) → Y.1 74 6 = nI (zA_pt (zspl A)) → Y.1 74 9 = zA_wr (zspl A) → Y.1 74 10 = zA_sp (zspl A) → R (nI (zgon A).length, Y) := by
      intro Y fY y5 y6 y9 y10
      refine ⟨rfl, ⟨⟨?_, ?_, ?_, ?_, ?_, y5, y6, ?_, ?_, y9, y10, ?_, ?_⟩, ?_, ⟨cm + L.length, xs', ke, ve, be', se', by omega, hme Y fY⟩, ?_, ?_⟩, ?_⟩
      · rw [(fY _ _ (by omega)).1]; exact g0
      · rw [(fY _ _ (by omega)).1]; exact g1
      · rw [(fY _ _ (by omega)).1]; exact g2
      · rw [(fY _ _ (by omega)).1]; exact g3
      · rw [(fY _ _ (by omega)).1]; exact g4
      · rw [(fY _ _ (by omega)).1]; exact g7
      · rw [(fY _ _ (by omega)).1]; exact g8
      · rw [(fY _ _ (by omega)).1]; exact g11
      · rw [(fY _ _ (by omega)).1]; exact g12
      · exact (kLm X j1).frS hW.hok.2 fY (by intro i hi; omega)
      · exact j4.frS hpkE.1.1 fY (by intro i; omega)
      · exact (hms4.frS j1 (by intro i hi; rw [S0i]; omega)).frS fY (by intro i; omega)
      · refine ((f4.weak (fun k i h => by unfold zmN; omega)).trans (j1.weak (fun k i h => by rw [S0i] at h; unfold zmN; omega))).trans (fY.weak (fun k i h => by unfold zmN; omega))
    have ch1 := mChainG hpkE.1 j4 hp.2
    have ch2 := mChainG hpkE.1 j4 hB
    unfold b_X10_splits_108 j_X10_splits_226
    simp (disch := omega) only [j2, ifLe_t, ch1, ch2, Option.bind_some, zbd, g9, nIadd]
    rw [mFirst0 hW (by simp (disch := omega) only [rd_ne, g0]) (by simp (disch := omega) only [rd_ne, g5])]
    simp (disch := omega) only [Option.bind_some, rd_eq]
    rcases zspl_s hW with ⟨h1, h2, h3, h4⟩ | ⟨h1, h2, h3, h4⟩
    · simp (disch := omega) only [ifEq_t, rd_ne, g5, nIadd, g10]
      refine ⟨_, rfl, hfin _ ?_ ?_ ?_ ?_ ?_⟩
      · refine ((((zFr.si ?_).trans (zFr.si ?_)).trans (zFr.si ?_)).trans (zFr.si ?_)).trans (zFr.si ?_) <;> omega
      · simp (disch := omega) only [rd_ne, rd_eq, h2]
      · simp (disch := omega) only [rd_ne, rd_eq, h3]
      · simp (disch := omega) only [rd_ne, rd_eq]
        rw [Int32.add_assoc, nIadd]; rfl
      · simp (disch := omega) only [rd_eq]; rfl
    · simp (disch := omega) only [ifEq_f, rd_ne, g10]
      refine ⟨_, rfl, hfin _ ?_ ?_ ?_ ?_ ?_⟩
      · refine ((zFr.si ?_).trans (zFr.si ?_)).trans (zFr.si ?_) <;> omega
      · simp (disch := omega) only [rd_ne, g5, h2]
      · simp (disch := omega) only [rd_ne, rd_eq, h3]
      · simp (disch := omega) only [rd_ne, rd_eq]
        rw [Int32.add_assoc, nIadd]; rfl
      · simp (disch := omega) only [rd_eq]; rfl
  -- the second loop
  have hloop2 : ∀ X, J 0 X → ∃ r, j_X10_splits_108 (nI (zA_pt A)) (nI (zA_B A)) (nI (zgon A).length) (nI 0) X = some r ∧ R r := by
    intro X hX
    unfold j_X10_splits_108
    refine zlp_forI (B := fun s : (Int32 × zzMem) => b_X10_splits_108 (nI (zA_pt A)) (nI (zA_B A)) (nI (zgon A).length) s.1 s.2) (fun i X => (nI i, X)) J L.length R (fun i hi Y hY => ?_) hend 0 (by omega) X hX
    obtain ⟨j1, j2, j3, j4, j5, j6, j7⟩ := hY
    have hget := List.getElem?_eq_getElem hi
    generalize L[i]'hi = x at hget
    have hxL := List.mem_of_getElem? hget
    have hx1 := hLx x hxL
    obtain ⟨Y', w1, w2⟩ := goes Y i x j1 hget
    have hc13 : Y'.1 74 13 = nI (cm + i) := by rw [(w2 _ _ (by omega)).1]; exact j5
    have hcb := mComes (b := if ge x then zA_B A else zA_pt A) (show x < 300 by omega) hc13
    have hv := j3 i x hget
    have fS : zFr (fun k j => k = 78 ∨ (k = 74 ∧ (j = 13 ∨ j = 640 + x ∨ j = 940 + x))) Y (zz_si (zz_si (zz_si Y' 74 (640 + x) (nI (if ge x then zA_B A else zA_pt A))) 74 (940 + x) (nI (cm + i))) 74 13 (nI (cm + i + 1))) :=
      (w2.weak (fun k i h => Or.inl h)).trans (((zFr.si (by omega)).trans (zFr.si (by omega))).trans (zFr.si (by omega)))
    refine ⟨zz_si (zz_si (zz_si Y' 74 (640 + x) (nI (if ge x then zA_B A else zA_pt A))) 74 (940 + x) (nI (cm + i))) 74 13 (nI (cm + i + 1)), ?_, ?_, ?_, fun t y hy => ?_, ?_, ?_, fun t y ht hy => ?_, fun y hy1 hy2 => ?_⟩
    · show b_X10_splits_108 (nI (zA_pt A)) (nI (zA_B A)) (nI (zgon A).length) (nI i) Y = _
      unfold b_X10_splits_108 j_X10_splits_144
      cases hg : ge x with
      | true =>
        rw [hg] at w1 hcb
        simp only [if_true] at hcb
        simp (disch := omega) only [j2, ifLe_f, zgd_in, nIc, hv, w1, Option.bind_some, zpr, if_true, hcb, zbd, nIadd]
      | false =>
        rw [hg] at w1 hcb
        simp only [Bool.false_eq_true, if_false] at hcb
        simp (disch := omega) only [j2, ifLe_f, zgd_in, nIc, hv, w1, Option.bind_some, zpr, Bool.false_eq_true, if_false, hcb, zbd, nIadd]
    · exact j1.trans (fS.weak (fun k i h => by rw [S0i]; omega))
    · rw [(fS _ _ (by omega)).1]; exact j2
    · rw [(fS _ _ (by omega)).1]; exact j3 t y hy
    · exact j4.frS hpkE.1.1 fS (by intro i; omega)
    · rw [rd_eq]; rfl
    · by_cases hti : t = i
      · subst hti
        rw [hget] at hy
        cases hy
        refine ⟨?_, ?_⟩
        · rw [rd_ne (by omega), rd_ne (by omega), rd_eq]
        · rw [rd_ne (by omega), rd_eq]
      · have hyx : y ≠ x := fun hh => by
          rw [hh] at hy
          have a1 := idx_at hLn hy
          have a2 := idx_at hLn hget
          omega
        have hy3 := (hLx y (List.mem_of_getElem? hy)).1
        rw [(fS _ _ (by omega)).1, (fS _ _ (by omega)).1]
        exact j6 t y (by omega) hy
    · have hyx : y ≠ x := fun hh => hy2 (by rw [hh]; exact hxL)
      rw [(fS _ _ (by omega)).1, (fS _ _ (by omega)).1]
      exact j7 y hy1 hy2
  -- the first loop
  have hloop1 : ∃ r, j_X10_splits_55 (nI (zA_pt A)) (nI (zA_B A)) (nI 0) (nI 0) M7 = some r ∧ R r := by
    unfold j_X10_splits_55
    refine zlp_forI (B := fun s : (Int32 × Int32 × zzMem) => b_X10_splits_55 (nI (zA_pt A)) (nI (zA_B A)) s.1 s.2.1 s.2.2) (fun i X => (nI ((L.take i).filter ge).length, nI i, X)) (fun i X => zFr (fun a _ => a = 78) M7 X) L.length R (fun i hi Y hY => ?_) (fun Y hY => ?_) 0 (by omega) M7 (zFr.refl M7)
    · have hfY : zFr S0 M4 Y := f7.trans (hY.weak (fun k i h => Or.inl h))
      have hget := List.getElem?_eq_getElem hi
      have htf := ztake_filter hget ge
      generalize L[i]'hi = x at hget htf
      obtain ⟨Y', w1, w2⟩ := goes Y i x hfY hget
      have c15 : Y.1 73 15 = nI L.length := by rw [(hY _ _ (by omega)).1, (t3 _ _ (by unfold zpgS; omega)).1, (r3 _ _ (by unfold zpgS; omega)).1]; exact l2
      have hv : Y.1 79 i = nI x := by rw [(hY _ _ (by omega)).1, (t3 _ _ (by unfold zpgS; omega)).1, (r3 _ _ (by unfold zpgS; omega)).1]; exact l3 i x hget
      refine ⟨Y', ?_, hY.trans w2⟩
      show b_X10_splits_55 (nI (zA_pt A)) (nI (zA_B A)) (nI ((L.take i).filter ge).length) (nI i) Y = _
      unfold b_X10_splits_55
      rw [htf]
      cases hg : ge x with
      | true =>
        rw [hg] at w1
        simp (disch := omega) only [c15, ifLe_f, zgd_in, nIc, hv, w1, Option.bind_some, zpr, if_true, zbd, nIadd, List.length_append, List.length_singleton]
      | false =>
        rw [hg] at w1
        simp (disch := omega) only [c15, ifLe_f, zgd_in, nIc, hv, w1, Option.bind_some, zpr, Bool.false_eq_true, if_false, zbd, nIadd, List.append_nil]
    · have hfY : zFr S0 M4 Y := f7.trans (hY.weak (fun k i h => Or.inl h))
      have c15 : Y.1 73 15 = nI L.length := by rw [(hY _ _ (by omega)).1, (t3 _ _ (by unfold zpgS; omega)).1, (r3 _ _ (by unfold zpgS; omega)).1]; exact l2
      have hmpY : zMp Y 0 (zspG2 A) := t2.frS (zsp_pk2 hW hB).1.1 hY (by intro i; omega)
      have htot := hW.pk.2.2.2
      have hsumE := zsum_upd (f := fun b => (zA_E A b).length) (x := 0) 64 hp.2
      have hsumS := zsum_upd (f := fun b => (zA_E A b).length) (x := (zsta A).length) 64 hp.2
      have hEl : (zA_E A (zA_pt A)).length = L.length := by rw [hEL, List.length_map]
      obtain ⟨Y2, u1, u2, u3⟩ := mNeeds (b := zA_pt A) (n := (zsta A).length) hc.1 hc.2 hp.2 hmpY (zsp_pk2 hW hB) (by omega) (kC Y hfY)
      rw [zupd_eq, Nat.zero_add] at u1
      rw [zupd_eq] at u2
      have fY2 : zFr S0 M4 Y2 := hfY.trans (u3.weak (fun k i h => by rw [S0i]; unfold zpgS at h; omega))
      have hE0 : zupd (fun b => (zA_E A b).length) (zA_pt A) (zsta A).length (zA_B A) = 0 := by
        rw [zupd_ne (by omega)]
        show (zA_E A (zA_B A)).length = 0
        rw [hB2.1]; rfl
      obtain ⟨Y3, v1, v2, v3⟩ := mNeeds (b := zA_B A) (n := (zgon A).length) hc.1 hc.2 hB u2 (zsp_pk3 hW hB (Nat.le_refl _)) (by omega) (kC Y2 fY2)
      rw [hE0, Nat.zero_add] at v1
      rw [hE0] at v2
      have fY3 : zFr S0 M4 Y3 := fY2.trans (v3.weak (fun k i h => by rw [S0i]; unfold zpgS at h; omega))
      have fYY : zFr zpgS Y Y3 := u3.trans v3
      have fM5 : zFr (fun k i => k = 78 ∨ zpgS k i) M5 Y3 := ((r3.weak (fun k i h => Or.inr h)).trans (t3.weak (fun k i h => Or.inr h))).trans ((hY.weak (fun k i h => Or.inl h)).trans (fYY.weak (fun k i h => Or.inr h)))
      obtain ⟨r, w1, w2⟩ := hloop2 Y3 ⟨fY3, by rw [(fYY _ _ (by unfold zpgS; omega)).1]; exact c15, fun t x ht => by rw [(fM5 _ _ (by unfold zpgS; omega)).1]; exact l3 t x ht, v2, by
        rw [(fM5 _ _ (by unfold zpgS; omega)).1, (l4 _ _ (by omega)).1]; have := e4.1; simpa using this, fun t x ht => by omega, fun x hx1 hx2 => by
        rw [(fM5 _ _ (by unfold zpgS; omega)).1, (l4 _ _ (by omega)).1, (fM5 _ _ (by unfold zpgS; omega)).1, (l4 _ _ (by omega)).1]
        have := (e4.2.1 x hx1).2.2
        exact ⟨by simpa using this.1, by simpa using this.2.1⟩⟩
      refine ⟨r, ?_, w2⟩
      have hgL : ((L.take L.length).filter ge).length = (zgon A).length := by rw [List.take_of_length_le (Nat.le_refl _), hgl]
      show b_X10_splits_55 (nI (zA_pt A)) (nI (zA_B A)) (nI ((L.take L.length).filter ge).length) (nI L.length) Y = _
      unfold b_X10_splits_55
      rw [hgL]
      have hsub : L.length - (zgon A).length = (zsta A).length := by omega
      simp (disch := omega) only [c15, ifLe_t, nIsub, hsub, u1, v1, Option.bind_some, w1]
      rfl
  obtain ⟨r, w1, w2, w3, w4⟩ := hloop1
  refine ⟨r.2, ?_, w3, w4⟩
  have g6 : M.1 74 6 = nI (zA_pt A) := by have := h.1.2.2.2.2.2.2.1; simpa using this
  have g8 : M.1 74 8 = zA_rd A := by have := h.1.2.2.2.2.2.2.2.2.1; simpa using this
  unfold f_X10_splits
  simp (disch := omega) only [g6, zbd, mBuck hW h.1, Option.bind_some, mChainG hW.gok h.2.2.2.1 hp.2, g8, hM4, l1, r1, List.length_nil]
  simp only [List.length_nil] at t1
  rw [t1]
  simp only [Option.bind_some]
  rw [w1, ← w2]
end MS
theorem op_split (N : Nat) : zSame N f_X9_split f_X10_split := by
  refine zSame.tr (fun hN A hW => ?_)
  by_cases h64 : zA_B A = 64
  · refine ⟨(-3 : Int32), A, hW.up, fun M h => ⟨M, ?_, h, zFr.refl M⟩, fun M h => ⟨M, ?_, h.up, zFr.refl M⟩⟩
    · unfold f_X9_split
      rw [cDivide64 hW h h64]; rfl
    · unfold f_X10_split
      rw [mBuck hW h.1, h64]
      simp only [Option.bind_some, if_true]
  · have hB : zA_B A < 64 := by have := hW.sB; omega
    refine ⟨nI (zgon A).length, zspl A, (zspl_wf hW hB).up, fun M h => ?_, fun M h => ?_⟩
    · obtain ⟨M', e1, e2, e3, -⟩ := cDivide hW h hB
      refine ⟨M', ?_, e2, e3.weak (fun k i h => zcpS_c h)⟩
      unfold f_X9_split
      rw [e1]; rfl
    · obtain ⟨M', e1, e2, e3⟩ := mSplits (C := 400000 * N) (by omega) hW h.rc hB
      refine ⟨M', ?_, e2.rm (by omega), e3.weak (fun _ _ h => zmN_S h)⟩
      unfold f_X10_split
      rw [mBuck hW h.1]
      simp (disch := omega) only [Option.bind_some, ifEq_f, e1, zpr]
