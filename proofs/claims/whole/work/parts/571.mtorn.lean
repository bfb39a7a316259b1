/-! ===== a split that is torn: the reference ===== -/
section TM
variable {N : Nat} {A : zzA}
theorem mPageOf {M : zzMem} {m cm c : Nat} {E : Nat → List (Nat × Nat)} {G : Nat → List Nat} {xs : Nat → List Nat} {ke ve be se : Nat → Nat} (hm : M.1 74 7 = nI m) (hm3 : m ≤ 300) (e : zMe M 0 m cm E xs ke ve be se) (hcm : cm < 2147483648) (hB : ∀ x, x < m → be x < 64) (hG : zGok G) (hp : zMp M 0 G) (hc1 : M.1 74 1 = nI c) (hc : 1 ≤ c ∧ c ≤ 6) {b i x p : Nat} (hi : (xs b)[i]? = some x) (hi3 : i < 300) (hg : (G b)[i / c]? = some p) : f_X10_pageOf (nI x) M = some (nI p) := by
  have hx := e.2.2.1 b x (List.mem_of_getElem? hi)
  have hb : M.1 74 (640 + x) = nI b := by
    have := (e.2.1 x hx.1).2.2.1
    rw [hx.2] at this
    simpa using this
  have hb64 : b < 64 := by rw [← hx.2]; exact hB x hx.1
  have hd : i / c ≤ i := Nat.div_le_self _ _
  unfold f_X10_pageOf
  rw [nIadd]
  simp (disch := omega) only [zgd_in, nIc]
  rw [mPlaceOf hm hm3 e hcm hB hi, Option.bind_some, hc1, zgd_t (nI_ne0 (by omega) (by omega)), hb, nIdiv (by omega) (by omega) (by omega), mPageAt hG hp hb64 hg (by omega)]
  rfl
theorem mNotesPages {M : zzMem} {W0 : List Nat} {b : Nat} {G : Nat → List Nat} (hG : zGok G) (hp : zMp M 0 G) (hb : b < 64) (h28 : M.1 73 28 = nI W0.length) (h89 : ∀ j p, W0[j]? = some p → M.1 89 j = nI p) (hl : (W0 ++ G b).length ≤ 256) : ∃ M', f_X10_notesPages (nI b) M = some M' ∧ M'.1 73 28 = nI (W0 ++ G b).length ∧ (∀ j p, (W0 ++ G b)[j]? = some p → M'.1 89 j = nI p) ∧ zFr (fun k i => k = 89 ∨ (k = 73 ∧ i = 28)) M M' := by
  rw [List.length_append] at hl
  have hZ := zlp_forI (B := fun s : (Int32 × zzMem) => b_X10_notesPages_8 (nI b) (nI (G b).length) s.1 s.2) (fun t X => (nI t, X)) (fun t X => X.1 73 28 = nI (W0.length + t) ∧ (∀ j p, j < W0.length + t → (W0 ++ G b)[j]? = some p → X.1 89 j = nI p) ∧ zFr (fun k i => k = 89 ∨ (k = 73 ∧ i = 28)) M X) (G b).length (fun r => r.1 73 28 = nI (W0 ++ G b).length ∧ (∀ j p, (W0 ++ G b)[j]? = some p → r.1 89 j = nI p) ∧ zFr (fun k i => k = 89 ∨ (k = 73 ∧ i = 28)) M r) (fun t ht X hX => ?_) (fun X hX => ?_) 0 (by omega) M ⟨h28, fun j p hj hjp => by rw [List.getElem?_append_left (by omega)] at hjp; exact h89 j p hjp, zFr.refl M⟩
  · obtain ⟨r, r1, r2, r3, r4⟩ := hZ
    refine ⟨r, ?_, r2, r3, r4⟩
    unfold f_X10_notesPages j_X10_notesPages_8
    rw [mChainG hG hp hb, Option.bind_some]
    exact r1
  · obtain ⟨x1, x2, x3⟩ := hX
    have hpX : zMp X 0 G := hp.frS hG.1 x3 (by intro i; omega)
    have hg := zgetD ht
    refine ⟨zz_si (zz_si X 89 (W0.length + t) (nI ((G b).getD t 0))) 73 28 (nI (W0.length + (t + 1))), ?_, rd_eq, fun j p hj hjp => ?_, (x3.trans (zFr.si (by omega))).trans (zFr.si (by omega))⟩
    · show b_X10_notesPages_8 (nI b) (nI (G b).length) (nI t) X = _
      unfold b_X10_notesPages_8
      rw [ifLe_f ht (by omega), mPageAt hG hpX hb hg (by omega), Option.bind_some, x1]
      simp (disch := omega) only [zgd_in, nIc, zbd, rd_ne, x1, nIadd]
      rfl
    · rw [rd_ne (by omega)]
      by_cases hjt : j = W0.length + t
      · subst hjt
        rw [List.getElem?_append_right (by omega), Nat.add_sub_cancel_left, hg] at hjp
        rw [rd_eq, Option.some.inj hjp]
      · rw [rd_ne (by omega)]
        exact x2 j p (by omega) hjp
  · obtain ⟨x1, x2, x3⟩ := hX
    refine ⟨X, ?_, by rw [List.length_append]; exact x1, fun j p hjp => ?_, x3⟩
    · show b_X10_notesPages_8 (nI b) (nI (G b).length) (nI (G b).length) X = _
      unfold b_X10_notesPages_8
      rw [ifLe_t (Nat.le_refl _) (by omega)]
    · have := (List.getElem?_eq_some_iff.mp hjp).1
      rw [List.length_append] at this
      exact x2 j p this hjp
theorem mWritten {M : zzMem} {W : List Nat} {w p : Nat} (h89 : ∀ j q, W[j]? = some q → M.1 89 j = nI q) (hW : ∀ q ∈ W, q < 256) (hl : W.length ≤ 256) (hw : w ≤ W.length) (hp : p < 256) : f_X10_isWritten (nI p) (nI w) M = some (zwr W w p) := by
  have main : ∀ d j, j + d = w → p ∉ W.take j → zlp (fun s : Int32 => b_X10_isWritten_2 (nI p) (nI w) s M) (nI j) = some (zwr W w p) := by
    intro d
    induction d with
    | zero =>
      intro j hj hn
      have hj : j = w := by omega
      subst hj
      refine zlp_done ?_
      show b_X10_isWritten_2 (nI p) (nI j) (nI j) M = _
      unfold b_X10_isWritten_2 zwr
      rw [ifLe_t (Nat.le_refl _) (by omega), decide_eq_false hn]
    | succ d ih =>
      intro j hj hn
      have hg := zgetD (show j < W.length by omega)
      have hq := hW _ (List.mem_of_getElem? hg)
      have h9 := h89 j _ hg
      by_cases hx : W.getD j 0 = p
      · refine zlp_done ?_
        show b_X10_isWritten_2 (nI p) (nI w) (nI j) M = _
        unfold b_X10_isWritten_2 zwr
        rw [ifLe_f (by omega) (by omega)]
        simp (disch := omega) only [zgd_in, nIc]
        rw [h9, ifEq_t hx, decide_eq_true]
        refine List.mem_of_getElem? (i := j) ?_
        rw [List.getElem?_take, if_pos (by omega), hg, hx]
      · rw [← ih (j + 1) (by omega) (by
          rw [List.take_succ, hg]
          intro hm
          rcases List.mem_append.mp hm with h | h
          · exact hn h
          · have : p = W.getD j 0 := by simpa using h
            exact hx this.symm)]
        refine zlp_step ?_
        show b_X10_isWritten_2 (nI p) (nI w) (nI j) M = _
        unfold b_X10_isWritten_2
        rw [ifLe_f (by omega) (by omega)]
        simp (disch := omega) only [zgd_in, nIc]
        rw [h9, ifEq_f hx (by omega) (by omega)]
        simp only [zbd, nIadd]
  unfold f_X10_isWritten j_X10_isWritten_2
  exact main w 0 (by omega) (by simp)
/-- the page of an entry when it is split -/
theorem mPostPage {M : zzMem} {C i : Nat} (hC : C < 2147483648) (hW : zWF N A) (hB : zA_B A < 64) (h : zRc M 0 C (zspl A)) (hi : i < (zA_E A (zA_pt A)).length) : ∃ x, f_X10_entryOf (nI 0) (nI ((zA_E A (zA_pt A)).getD i (0, 0)).1) M = some (nI x) ∧ f_X10_pageOf (nI x) M = some (nI (zpst A i)) := by
  have hW2 := zspl_wf hW hB
  have hc := hW.c2
  have hs2 := hW2.sB
  obtain ⟨cm, xs, ke, ve, be, se, hcm, e, hm, hm3, hx, hc1⟩ := h.fx hW2
  have hc1 : M.1 74 1 = nI (zA_c A) := hc1
  have hwat := zw_at hW hi
  have hwat : (zA_E (zspl A) (zwb A i))[zwi A i]? = some ((zA_E A (zA_pt A)).getD i (0, 0)) := hwat
  have hmem := List.mem_of_getElem? hwat
  obtain ⟨v1, v2, v3⟩ := hW2.2.2.1 _ _ hmem
  generalize hq : (zA_E A (zA_pt A)).getD i (0, 0) = q at hwat hmem v1 v2 v3
  rcases mEntryOf (sl := 0) (k := q.1) rfl (by omega) hm hm3 e (fun x hh => (hx x hh).2.1) v1 with ⟨x, x1, x2, x3⟩ | ⟨hn, -⟩
  · refine ⟨x, x3, ?_⟩
    have hxm : x ∈ xs (be x) := (e.2.1 x x1).2.2.2.2.2
    obtain ⟨j, hj⟩ := List.getElem?_of_mem hxm
    have hEj : (zA_E (zspl A) (be x))[j]? = some (ke x, ve x) := by rw [e.2.2.2.2 (be x), List.getElem?_map, hj]; rfl
    have hbe : be x = zwb A i := by
      have := (hW2.2.2.1 _ _ (List.mem_of_getElem? hEj)).2.2
      rw [← v3, ← this]
      show zA_a (zspl A) (ke x) = zA_a (zspl A) q.1
      rw [x2]
    rw [hbe] at hEj hj
    have hjw : j = zwi A i := by
      have hnd := hW2.2.2.2.1 (zwb A i)
      have g1 : ((zA_E (zspl A) (zwb A i)).map Prod.fst)[j]? = some q.1 := by rw [List.getElem?_map, hEj]; show some (ke x) = _; rw [x2]
      have g2 : ((zA_E (zspl A) (zwb A i)).map Prod.fst)[zwi A i]? = some q.1 := by rw [List.getElem?_map, hwat]; rfl
      obtain ⟨l1, e1⟩ := List.getElem?_eq_some_iff.mp g1
      obtain ⟨l2, e2⟩ := List.getElem?_eq_some_iff.mp g2
      exact (List.getElem_inj hnd).mp (e1.trans e2.symm)
    have hl := hW2.e300 (zwb A i)
    have hjl := (List.getElem?_eq_some_iff.mp hEj).1
    rw [hjw] at hj hjl
    exact mPageOf hm hm3 e (by omega) (fun y hy => by have := (hx y hy).1; omega) (zspG_ok hW hB) h.2.2.2.1 hc1 ⟨by omega, hc.2⟩ hj (by omega) (zpst_get hW hB hi)
  · exfalso
    have hE := e.2.2.2.2 (zwb A i)
    rw [hE] at hmem
    obtain ⟨x, hx1, hx2⟩ := List.mem_map.mp hmem
    have := e.2.2.1 _ x hx1
    refine hn x this.1 ?_
    rw [← hx2]
theorem m212 {M : zzMem} {C k w u cnt i : Nat} {ws : Bool} (hC : C < 2147483648) (hW : zWF N A) (hB : zA_B A < 64) (h : zRc M 0 C (zspl A)) (hi : i < (zA_E A (zA_pt A)).length) (hi3 : i < 300) (hu : u ≤ 1) (hw : w ≤ (zTW A k).length) (h89 : ∀ j q, (zTW A k)[j]? = some q → M.1 89 j = nI q) (h88 : M.1 88 i = nI ((zA_E A (zA_pt A)).getD i (0, 0)).1) : j_X10_torn_212 (nI w) (nI u) (nI cnt) (nI i) ws M = some (.inl (nI (cnt + (if (if u = 1 then ws && zwr (zTW A k) w (zpst A i) else !ws && !zwr (zTW A k) w (zpst A i)) = true then 1 else 0)), nI (i + 1))) := by
  obtain ⟨x, x1, x2⟩ := mPostPage hC hW hB h hi
  have hp256 : zpst A i < 256 := (zspG_ok hW hB).1 _ _ (List.mem_of_getElem? (zpst_get hW hB hi))
  have hwr := mWritten (p := zpst A i) h89 (zTW_256 hW hB k) (zTW_len hW hB k) hw hp256
  unfold j_X10_torn_212
  simp (disch := omega) only [zgd_in, nIc]
  rw [h88, x1, Option.bind_some, x2, Option.bind_some, hwr, Option.bind_some]
  unfold j_X10_torn_244 j_X10_torn_255
  simp only [zbd, nIadd]
  rcases (show u = 0 ∨ u = 1 by omega) with rfl | rfl
  · simp only [ifE0_t (show (0 : Nat) = 0 from rfl)]
    cases ws <;> cases zwr (zTW A k) w (zpst A i)
    · simp only [Bool.false_eq_true, if_false]; rw [if_pos (show zb false = nI 0 from rfl)]; rfl
    · simp only [if_true]; rw [if_neg (show ¬ zb false + nI 1 = nI 0 by decide)]; rfl
    · simp only [Bool.false_eq_true, if_false]; rw [if_neg (show ¬ zb true = nI 0 by decide)]; rfl
    · simp only [if_true]; rw [if_neg (show ¬ zb true + nI 1 = nI 0 by decide)]; rfl
  · simp only [ifE0_f (show (0 : Nat) < 1 by omega) (show (1 : Nat) < 2147483648 by omega)]
    cases ws <;> cases zwr (zTW A k) w (zpst A i)
    · simp only [Bool.false_eq_true, if_false]; rw [if_neg (show ¬ zb false = nI 2 by decide)]; rfl
    · simp only [if_true]; rw [if_neg (show ¬ zb false + nI 1 = nI 2 by decide)]; rfl
    · simp only [Bool.false_eq_true, if_false]; rw [if_neg (show ¬ zb true = nI 2 by decide)]; rfl
    · simp only [if_true]; rw [if_pos (show zb true + nI 1 = nI 2 by decide)]; rfl
set_option maxHeartbeats 1000000 in
theorem mTorn {M : zzMem} {k w u : Nat} (hN : N ≤ 600) (hW : zWF N A) (hB : zA_B A < 64) (hk : k ≤ 1) (hu : u ≤ 1) (hw : w < 2147483648) (h : zRM M 0 N A) : ∃ M', f_X10_torn (nI k) (nI w) (nI u) M = some (if w ≤ (zTW A k).length then nI (zcnt (zhit A k w u) (zA_E A (zA_pt A)).length) else (-4 : Int32), M') ∧ zRM M' 0 N A ∧ zFr zmW M M' := by
  have hs := hW.sB
  have hpt := hW.ptB
  have hc := hW.c2
  have he := hW.e300 (zA_pt A)
  have hink : f_X9_within (nI k) (nI 0) (nI 1) = true := by rw [in_nI (by omega) (by omega) (by omega)]; simp; omega
  have hinu : f_X9_within (nI u) (nI 0) (nI 1) = true := by rw [in_nI (by omega) (by omega) (by omega)]; simp; omega
  obtain ⟨M6, c1, c2, c3⟩ := mCopies (x := 0) (y := 2) M (by omega) (by omega) (by omega)
  have h6 : zRM M6 0 N A := h.frS hW c2 (by intro i; omega)
  have hpt6 : M6.1 74 6 = nI (zA_pt A) := by have := h6.1.2.2.2.2.2.2.1; simpa using this
  obtain ⟨cm, xs, ke, ve, be, se, hcm, e, hm, hm3, hx, hc1⟩ := h6.rc.fx hW
  obtain ⟨M9, l1, l2, l3, l4⟩ := mLists hm hm3 e (by omega) (fun x hh => by have := (hx x hh).1; omega) hpt.2
  have hxl : (xs (zA_pt A)).length = (zA_E A (zA_pt A)).length := by rw [e.2.2.2.2 (zA_pt A), List.length_map]
  have hTl : (zTW A k).length ≤ 256 := zTW_len hW hB k
  have f10 : zFr (fun k i => k = 79 ∨ (k = 73 ∧ (i = 15 ∨ i = 27))) M6 (zz_si M9 73 27 (nI (zA_E A (zA_pt A)).length)) := (l4.weak (fun k i hh => by omega)).trans (zFr.si (by omega))
  have h27 : (zz_si M9 73 27 (nI (zA_E A (zA_pt A)).length)).1 73 27 = nI (zA_E A (zA_pt A)).length := rd_eq
  have h79 : ∀ i x, (xs (zA_pt A))[i]? = some x → (zz_si M9 73 27 (nI (zA_E A (zA_pt A)).length)).1 79 i = nI x := fun i x hh => by rw [rd_ne (by omega)]; exact l3 i x hh
  have hun : f_X10_torn (nI k) (nI w) (nI u) M = j_X10_torn_74 (nI k) (nI w) (nI u) (nI (zA_pt A)) (nI (zA_B A)) (nI 0) (zz_si M9 73 27 (nI (zA_E A (zA_pt A)).length)) := by
    unfold f_X10_torn
    rw [in_eq, if_pos hink, if_neg (nI_pos hw), if_pos hinu, mBuck hW h.1, Option.bind_some, ifEq_f (by omega) (by omega) (by omega), c1, Option.bind_some]
    simp only [zbd]
    rw [hpt6, mBuck hW h6.1, Option.bind_some, l1, Option.bind_some, l2, hxl]
  generalize zz_si M9 73 27 (nI (zA_E A (zA_pt A)).length) = M10 at f10 h27 h79 hun
  have h10 : zRM M10 0 N A := h6.frS hW f10 (by intro i; omega)
  have e10 : zMe M10 0 (zA_S A).length cm (zA_E A) xs ke ve be se := e.frS hm3 f10 (by intro i; omega)
  have hkeep : ∀ Z, (∀ k, k < 1892 → Z.1 74 (3784 + k) = M10.1 74 (3784 + k)) → ∃ Z', f_X10_copies (nI 2) (nI 0) Z = some Z' ∧ zRM Z' 0 N A ∧ zFr (fun a b => a = 74 ∧ b < 1892) Z Z' := by
    intro Z hZ
    obtain ⟨Z', k1, k2, k3⟩ := mCopies (x := 2) (y := 0) Z (by omega) (by omega) (by omega)
    refine ⟨Z', k1, ?_, k2.weak (fun k i h => by omega)⟩
    exact h.copy (t := 0) hW (fun k hk => by
      rw [show 0 + k = 1892 * 0 + k by omega, k3 k hk, show 1892 * 2 + k = 3784 + k by omega, hZ k hk, (f10 _ _ (by omega)).1, show 3784 + k = 1892 * 2 + k by omega, c3 k hk])
  -- behind the split
  have hrest : ∀ X, zFr (fun k i => k = 87 ∨ k = 88) M10 X → (∀ i, i < (zA_E A (zA_pt A)).length → X.1 88 i = nI ((zA_E A (zA_pt A)).getD i (0, 0)).1 ∧ X.1 87 i = nI (zpre A i)) → ∃ M', b_X10_torn_74 (nI k) (nI w) (nI u) (nI (zA_pt A)) (nI (zA_B A)) (nI (zA_E A (zA_pt A)).length) X = some (.inr (if w ≤ (zTW A k).length then nI (zcnt (zhit A k w u) (zA_E A (zA_pt A)).length) else (-4 : Int32), M')) ∧ zRM M' 0 N A ∧ zFr zmW X M' := by
    intro X fX hX
    have hXr : zRM X 0 N A := h10.frS hW fX (by intro i; omega)
    have e27 : X.1 73 27 = nI (zA_E A (zA_pt A)).length := by rw [(fX _ _ (by omega)).1]; exact h27
    obtain ⟨M4, s1, s2, s3⟩ := mSplits (C := 400000 * N) (by omega) hW hXr.rc hB
    have f5 : zFr (fun k i => zmN k i ∨ (k = 73 ∧ i = 28)) X (zz_si M4 73 28 (nI 0)) := (s3.weak (fun k i hh => Or.inl hh)).trans (zFr.si (by omega))
    have h5r : zRc (zz_si M4 73 28 (nI 0)) 0 (400000 * N + 300) (zspl A) := s2.frS (S := fun k i => k = 73) (zspl_wf hW hB) (zFr.si rfl) (by intro i; omega)
    have h528 : (zz_si M4 73 28 (nI 0)).1 73 28 = nI ([] : List Nat).length := rd_eq
    have hb1 : b_X10_torn_74 (nI k) (nI w) (nI u) (nI (zA_pt A)) (nI (zA_B A)) (nI (zA_E A (zA_pt A)).length) X = zup ((f_X10_notesPages (nI (zahd A k)) (zz_si M4 73 28 (nI 0))).bind (fun M1 => (f_X10_notesPages (nI (zoth A k)) M1).bind (fun M2 => j_X10_torn_175 (nI w) (nI u) (nI 0) (nI 0) M2))) := by
      unfold b_X10_torn_74
      rw [e27, ifLe_t (Nat.le_refl _) (by omega), s1]
      simp only [Option.bind_some, zpr, zbd]
      unfold j_X10_torn_151 j_X10_torn_166 zahd zoth
      by_cases h0 : k = 0
      · simp only [ifE0_t h0, if_pos h0]
      · simp only [ifE0_f (show 0 < k by omega) (show k < 2147483648 by omega), if_neg h0]
    generalize zz_si M4 73 28 (nI 0) = M5 at f5 h5r h528 hb1
    obtain ⟨a1, a2, a3, a4, a5⟩ := zao hW k
    have hG2 := zspG_ok hW hB
    have hT : zTW A k = zspG A (zahd A k) ++ zspG A (zoth A k) := rfl
    have hTl2 := hTl
    rw [hT, List.length_append] at hTl2
    have hp5 : zMp M5 0 (zspG A) := h5r.2.2.2.1
    obtain ⟨Ma, p1, p2, p3, p4⟩ := mNotesPages (b := zahd A k) hG2 hp5 (by omega) h528 (fun j p hj => by simp at hj) (by rw [List.nil_append]; omega)
    rw [List.nil_append] at p2 p3
    have hpa : zMp Ma 0 (zspG A) := hp5.frS hG2.1 p4 (by intro i; omega)
    obtain ⟨Mb, q1, q2, q3, q4⟩ := mNotesPages (b := zoth A k) hG2 hpa (by omega) p2 p3 (by rw [List.length_append]; omega)
    rw [← hT] at q2 q3
    rw [p1, Option.bind_some, q1, Option.bind_some] at hb1
    have fb : zFr (fun k i => zmN k i ∨ (k = 73 ∧ i = 28) ∨ k = 89) X Mb := (f5.weak (fun k i hh => by rcases hh with hh | hh; exact Or.inl hh; exact Or.inr (Or.inl hh))).trans ((p4.trans q4).weak (fun k i hh => by omega))
    have hbr : zRc Mb 0 (400000 * N + 300) (zspl A) := h5r.frS (zspl_wf hW hB) (p4.trans q4) (by intro i; omega)
    have hb27 : Mb.1 73 27 = nI (zA_E A (zA_pt A)).length := by rw [(fb _ _ (by unfold zmN; omega)).1]; exact e27
    obtain ⟨Z', k1, k2, k3⟩ := hkeep Mb (fun j hj => by rw [(fb _ _ (by unfold zmN; omega)).1, (fX _ _ (by omega)).1])
    have fZ : zFr zmW X Z' := (fb.weak (fun k i hh => by unfold zmN at hh; unfold zmW; omega)).trans (k3.weak (fun k i hh => by unfold zmW; omega))
    refine ⟨Z', ?_, k2, fZ⟩
    rw [hb1]
    unfold j_X10_torn_175
    by_cases hwl : w ≤ (zTW A k).length
    · rw [if_pos hwl]
      have hrun := zlp_for (B := fun s : (Int32 × Int32) => b_X10_torn_175 (nI w) (nI u) s.1 s.2 Mb) (fun i => (nI (zcnt (zhit A k w u) i), nI i)) (zA_E A (zA_pt A)).length (nI (zcnt (zhit A k w u) (zA_E A (zA_pt A)).length), Z') (fun i hi => ?_) ?_ 0 (by omega)
      · rw [show zlp (fun s : (Int32 × Int32) => b_X10_torn_175 (nI w) (nI u) s.1 s.2 Mb) (nI 0, nI 0) = _ from hrun]; rfl
      · show b_X10_torn_175 (nI w) (nI u) (nI (zcnt (zhit A k w u) i)) (nI i) Mb = _
        obtain ⟨g1, g2⟩ := hX i hi
        have e88 : Mb.1 88 i = nI ((zA_E A (zA_pt A)).getD i (0, 0)).1 := by rw [(fb _ _ (by unfold zmN; omega)).1]; exact g1
        have e87 : Mb.1 87 i = nI (zpre A i) := by rw [(fb _ _ (by unfold zmN; omega)).1]; exact g2
        have hr256 : zpre A i < 256 := hW.gok.1 _ _ (List.mem_of_getElem? (zpre_get hW hi))
        have hwr := mWritten (p := zpre A i) q3 (zTW_256 hW hB k) hTl hwl hr256
        unfold b_X10_torn_175
        rw [hb27, ifLe_f hi (by omega), q2, ifLt_f hwl (by omega)]
        simp (disch := omega) only [zgd_in, nIc]
        rw [e87, hwr, Option.bind_some]
        show _ = some (Sum.inl (nI (zcnt (zhit A k w u) i + (if zhit A k w u i = true then 1 else 0)), nI (i + 1)))
        unfold zhit
        cases hb : zwr (zTW A k) w (zpre A i) with
        | true =>
          rw [if_pos rfl, m212 (by omega) hW hB hbr hi (by omega) hu hwl q3 e88]
          simp only [Bool.not_true, Bool.false_and, Bool.true_and, Bool.not_false]
        | false =>
          rw [if_neg (by decide), m212 (by omega) hW hB hbr hi (by omega) hu hwl q3 e88]
          simp only [Bool.not_true, Bool.false_and, Bool.true_and, Bool.not_false]
      · show b_X10_torn_175 (nI w) (nI u) (nI (zcnt (zhit A k w u) (zA_E A (zA_pt A)).length)) (nI (zA_E A (zA_pt A)).length) Mb = _
        unfold b_X10_torn_175
        rw [hb27, ifLe_t (Nat.le_refl _) (by omega)]
        unfold j_X10_torn_270 j_X10_torn_283
        rw [q2, ifLe_t hwl (by omega), k1]; rfl
    · rw [if_neg hwl]
      have hrun : zlp (fun s : (Int32 × Int32) => b_X10_torn_175 (nI w) (nI u) s.1 s.2 Mb) (nI 0, nI 0) = some ((-4 : Int32), Z') := by
        refine zlp_up (o := some ((-4 : Int32), Z')) ?_
        have h270 : j_X10_torn_270 (nI w) (nI 0) Mb = some ((-4 : Int32), Z') := by
          unfold j_X10_torn_270 j_X10_torn_283
          rw [q2, ifLe_f (by omega) hw, k1]; rfl
        show b_X10_torn_175 (nI w) (nI u) (nI 0) (nI 0) Mb = _
        unfold b_X10_torn_175
        rw [h270, hb27, q2, ifLt_t (show (zTW A k).length < w by omega) hw]
        by_cases hl0 : nI (zA_E A (zA_pt A)).length ≤ nI 0
        · rw [if_pos hl0]
        · rw [if_neg hl0]
      rw [hrun]; rfl
  -- before the split
  have hZ := zlp_forI (B := fun s : (Int32 × zzMem) => b_X10_torn_74 (nI k) (nI w) (nI u) (nI (zA_pt A)) (nI (zA_B A)) s.1 s.2) (fun t X => (nI t, X)) (fun t X => zFr (fun k i => k = 87 ∨ k = 88) M10 X ∧ ∀ i, i < t → i < (zA_E A (zA_pt A)).length → X.1 88 i = nI ((zA_E A (zA_pt A)).getD i (0, 0)).1 ∧ X.1 87 i = nI (zpre A i)) (zA_E A (zA_pt A)).length (fun r => r.1 = (if w ≤ (zTW A k).length then nI (zcnt (zhit A k w u) (zA_E A (zA_pt A)).length) else (-4 : Int32)) ∧ zRM r.2 0 N A ∧ zFr zmW M10 r.2) (fun t ht X hX => ?_) (fun X hX => ?_) 0 (by omega) M10 ⟨zFr.refl M10, fun i hi => by omega⟩
  · obtain ⟨⟨r, M'⟩, r1, r2, r3, r4⟩ := hZ
    simp only at r2 r3 r4
    subst r2
    refine ⟨M', ?_, r3, (((c2.weak (fun k i hh => by unfold zmW; omega)).trans (f10.weak (fun k i hh => by unfold zmW; omega)))).trans r4⟩
    rw [hun]
    exact r1
  · obtain ⟨x1, x2⟩ := hX
    have hg := List.getElem?_eq_getElem (show t < (xs (zA_pt A)).length by omega)
    generalize (xs (zA_pt A))[t]'(by omega) = x at hg
    have hxx := e.2.2.1 _ x (List.mem_of_getElem? hg)
    have hEq : (zA_E A (zA_pt A)).getD t (0, 0) = (ke x, ve x) := by
      rw [List.getD_eq_getElem?_getD, e.2.2.2.2 (zA_pt A), List.getElem?_map, hg]; rfl
    have hXr : zRM X 0 N A := h10.frS hW x1 (by intro i; omega)
    have e79 : X.1 79 t = nI x := by rw [(x1 _ _ (by omega)).1]; exact h79 t x hg
    have ek : X.1 74 (40 + x) = nI (ke x) := by rw [(x1 _ _ (by omega)).1]; have := (e10.2.1 x hxx.1).1; simpa using this
    have f9 : zFr (fun k i => k = 87 ∨ k = 88) X (zz_si X 88 t (nI (ke x))) := zFr.si (by omega)
    have h9r : zRM (zz_si X 88 t (nI (ke x))) 0 N A := hXr.frS hW f9 (by intro i; omega)
    have e9 : zMe (zz_si X 88 t (nI (ke x))) 0 (zA_S A).length cm (zA_E A) xs ke ve be se := e10.frS hm3 (x1.trans f9) (by intro i; omega)
    have hm9 : (zz_si X 88 t (nI (ke x))).1 74 7 = nI (zA_S A).length := by have := h9r.1.2.2.2.2.2.2.2.1; simpa using this
    have hc9 : (zz_si X 88 t (nI (ke x))).1 74 1 = nI (zA_c A) := by have := h9r.1.2.1; simpa using this
    have hpo := mPageOf hm9 hm3 e9 (by omega) (fun y hy => by have := (hx y hy).1; omega) hW.gok h9r.2.2.2.1 hc9 ⟨by omega, hc.2⟩ hg (by omega) (zpre_get hW ht)
    have e799 : (zz_si X 88 t (nI (ke x))).1 79 t = nI x := by rw [rd_ne (by omega)]; exact e79
    have e27 : X.1 73 27 = nI (zA_E A (zA_pt A)).length := by rw [(x1 _ _ (by omega)).1]; exact h27
    refine ⟨zz_si (zz_si X 88 t (nI (ke x))) 87 t (nI (zpre A t)), ?_, (x1.trans f9).trans (zFr.si (by omega)), fun i hi hil => ?_⟩
    · show b_X10_torn_74 (nI k) (nI w) (nI u) (nI (zA_pt A)) (nI (zA_B A)) (nI t) X = _
      unfold b_X10_torn_74
      rw [e27, ifLe_f ht (by omega)]
      simp (disch := omega) only [zgd_in, nIc]
      rw [e79, nIadd]
      simp (disch := omega) only [zgd_in, nIc, zbd]
      rw [ek, e799, hpo]
      simp only [Option.bind_some, nIadd]
    · by_cases hit : i = t
      · subst hit
        rw [hEq]
        exact ⟨by rw [rd_ne (by omega), rd_eq], rd_eq⟩
      · rw [rd_ne (by omega), rd_ne (by omega), rd_ne (by omega), rd_ne (by omega)]
        exact x2 i (by omega) hil
  · obtain ⟨x1, x2⟩ := hX
    obtain ⟨M', b1, b2, b3⟩ := hrest X x1 (fun i hi => x2 i hi hi)
    exact ⟨_, b1, rfl, b2, (x1.weak (fun k i hh => by unfold zmW; omega)).trans b3⟩
end TM
theorem op_torn (N : Nat) (a b c : Int32) : zSame N (f_X9_torn a b c) (f_X10_torn a b c) := by
  refine zSame.tw (fun hN A hW => ?_)
  have hB64 := hW.sB.2.2.1
  have hm1 : (∀ M, f_X9_torn a b c M = some ((-1 : Int32), M)) → (∀ M, f_X10_torn a b c M = some ((-1 : Int32), M)) → ∃ r A', zWF (N + 1) A' ∧ (∀ M, zRC M 12 A → ∃ M1, f_X9_torn a b c M = some (r, M1) ∧ zRC M1 12 A' ∧ zFr zcS M M1) ∧ (∀ M, zRM M 0 N A → ∃ M2, f_X10_torn a b c M = some (r, M2) ∧ zRM M2 0 (N + 1) A' ∧ zFr zmW M M2) := fun h1 h2 =>
    ⟨(-1 : Int32), A, hW.up, fun M h => ⟨M, h1 M, h, zFr.refl M⟩, fun M h => ⟨M, h2 M, h.up, zFr.refl M⟩⟩
  rcases inC a 0 1 (by decide) (by decide) with ⟨ha, k, -, hk, rfl⟩ | ha
  · by_cases hb : b < 0
    · refine hm1 (fun M => ?_) (fun M => ?_)
      · unfold f_X9_torn; rw [if_pos ha, if_pos hb]
      · unfold f_X10_torn; rw [in_eq, if_pos ha, if_pos hb]
    · obtain ⟨w, hw, rfl⟩ := nI_of hb
      rcases inC c 0 1 (by decide) (by decide) with ⟨hc, u, -, hu, rfl⟩ | hc
      · by_cases hB : zA_B A < 64
        · refine ⟨if w ≤ (zTW A k).length then nI (zcnt (zhit A k w u) (zA_E A (zA_pt A)).length) else (-4 : Int32), A, hW.up, fun M h => ?_, fun M h => ?_⟩
          · obtain ⟨M', c1, c2⟩ := cTorn hW hB hk hu hw h
            exact ⟨M', c1, h.frS c2 (by intro k i; unfold zcpS; omega), c2.weak (fun k i h => by unfold zcpS at h; unfold zcS; omega)⟩
          · obtain ⟨M', c1, c2, c3⟩ := mTorn hN hW hB hk hu hw h
            exact ⟨M', c1, c2.up, c3⟩
        · refine ⟨(-3 : Int32), A, hW.up, fun M h => ⟨M, ?_, h, zFr.refl M⟩, fun M h => ⟨M, ?_, h.up, zFr.refl M⟩⟩
          · unfold f_X9_torn
            rw [if_pos ha, if_neg hb, if_pos hc, cFull hW h.1, decide_eq_true (by omega), if_pos rfl]
          · unfold f_X10_torn
            rw [in_eq, if_pos ha, if_neg hb, if_pos hc, mBuck hW h.1, Option.bind_some, ifEq_t (by omega)]
      · refine hm1 (fun M => ?_) (fun M => ?_)
        · unfold f_X9_torn; rw [if_pos ha, if_neg hb, hc]; rfl
        · unfold f_X10_torn; rw [in_eq, if_pos ha, if_neg hb, hc]; rfl
  · refine hm1 (fun M => ?_) (fun M => ?_)
    · unfold f_X9_torn; rw [ha]; rfl
    · unfold f_X10_torn; rw [in_eq, ha]; rfl
