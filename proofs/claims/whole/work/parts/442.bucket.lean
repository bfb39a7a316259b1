/-! ===== facts of a file that can be ===== -/
theorem zpgs_cap {c e : Nat} (h : 1 ≤ c) : e ≤ c * zpgs c e := by
  have h1 := Nat.lt_mul_div_succ (e + c - 1) (show 0 < c by omega)
  rw [Nat.mul_add, Nat.mul_one] at h1
  have h2 : c * ((e + c - 1) / c) ≤ c * zpgs c e := Nat.mul_le_mul_left c (by unfold zpgs; omega)
  omega
theorem zpgs_low {c e i : Nat} (h : 1 ≤ c) (hi : i < zpgs c e) : c * i ≤ e := by
  unfold zpgs at hi
  by_cases h0 : i = 0
  · subst h0; omega
  · have h1 : c * (i + 1) ≤ c * ((e + c - 1) / c) := Nat.mul_le_mul_left c (by omega)
    have h2 := Nat.mul_div_le (e + c - 1) c
    rw [Nat.mul_add, Nat.mul_one] at h1
    omega
theorem zWF.cap {N : Nat} {A : zzA} (h : zWF N A) (b : Nat) : (zA_E A b).length ≤ zA_c A * (zA_G A b).length := by
  rcases Nat.lt_or_ge b (zA_B A) with hb | hb
  · rw [h.2.2.2.2.1 b hb]; exact zpgs_cap (by have := h.1.2.2.1; omega)
  · rw [(h.2.1 b hb).1]; simp
theorem zWF.low {N : Nat} {A : zzA} (h : zWF N A) {b i : Nat} (hi : i < (zA_G A b).length) : zA_c A * i ≤ (zA_E A b).length := by
  rcases Nat.lt_or_ge b (zA_B A) with hb | hb
  · rw [h.2.2.2.2.1 b hb] at hi; exact zpgs_low (by have := h.1.2.2.1; omega) hi
  · rw [(h.2.1 b hb).2] at hi; simp at hi
theorem zWF.ent {N : Nat} {A : zzA} (h : zWF N A) (b : Nat) : ∀ q ∈ zA_E A b, q.1 < 65536 ∧ q.2 < 256 ∧ zA_h A q.1 < 65536 := fun q hq =>
  ⟨(h.2.2.1 b q hq).1, (h.2.2.1 b q hq).2.1, zhs_lt (h.2.2.1 b q hq).1 h.1.2.2.2.2.2.2.2.2.2.2.2.1⟩
theorem zcnt_mono {p q : Nat → Bool} (h : ∀ i, p i = true → q i = true) : ∀ n, zcnt p n ≤ zcnt q n
  | 0 => Nat.le_refl 0
  | n + 1 => by
    have := zcnt_mono h n
    unfold zcnt
    by_cases hp : p n = true
    · rw [if_pos hp, if_pos (h n hp)]; omega
    · rw [if_neg hp]; split <;> omega
theorem zWF.e300 {N : Nat} {A : zzA} (h : zWF N A) (b : Nat) : (zA_E A b).length ≤ (zA_S A).length := by
  have h1 : zcnt (fun k => decide (k ∈ (zA_E A b).map Prod.fst)) 65536 = ((zA_E A b).map Prod.fst).length := zcnt_list (h.2.2.2.1 b) (fun x => ⟨fun hx => ⟨by
    obtain ⟨q, hq, rfl⟩ := List.mem_map.mp hx
    exact (h.2.2.1 b q hq).1, by simpa using hx⟩, fun hx => by simpa using hx.2⟩)
  have h2 : zcnt (fun k => decide (k ∈ zA_S A)) 65536 = (zA_S A).length := zcnt_list h.nd (fun x => ⟨fun hx => ⟨h.key hx, by simpa using hx⟩, fun hx => by simpa using hx.2⟩)
  rw [List.length_map] at h1
  rw [← h1, ← h2]
  refine zcnt_mono (fun k hk => ?_) 65536
  have hk : k ∈ (zA_E A b).map Prod.fst := by simpa using hk
  obtain ⟨q, hq, rfl⟩ := List.mem_map.mp hk
  have : q.1 ∈ zA_S A := (h.2.2.2.2.2.2.2.2.1.2.2 q.1).mpr ⟨b, q.2, hq⟩
  simpa using this
/-- what the reference's memory has, at hand -/
theorem zRM.fx {N : Nat} {M : zzMem} {A : zzA} (hN : N ≤ 601) (hW : zWF N A) (h4 : zRM M 0 N A) : ∃ cm xs ke ve be se, cm < 2147483648 ∧ zMe M 0 (zA_S A).length cm (zA_E A) xs ke ve be se ∧ M.1 74 7 = nI (zA_S A).length ∧ (zA_S A).length ≤ 300 ∧ (∀ x, x < (zA_S A).length → be x < zA_B A ∧ ke x < 65536 ∧ ve x < 256) ∧ M.1 74 1 = nI (zA_c A) := by
  obtain ⟨hm, -, ⟨cm, xs, ke, ve, be, se, hcm, e⟩, -⟩ := h4
  refine ⟨cm, xs, ke, ve, be, se, by omega, e, by have := hm.2.2.2.2.2.2.2.1; simpa using this, hW.2.2.2.2.2.2.2.2.1.1, fun x hx => ?_, by have := hm.2.1; simpa using this⟩
  have h1 : (ke x, ve x) ∈ zA_E A (be x) := by rw [e.2.2.2.2]; exact List.mem_map.mpr ⟨x, (e.2.1 x hx).2.2.2.2.2, rfl⟩
  refine ⟨?_, (hW.2.2.1 _ _ h1).1, (hW.2.2.1 _ _ h1).2.1⟩
  rcases Nat.lt_or_ge (be x) (zA_B A) with h | h
  · exact h
  · rw [(hW.2.1 _ h).1] at h1; cases h1
/-! ===== bucket, page ===== -/
theorem op_bucket (N : Nat) (a b : Int32) : zSame N (zR (f_X9_bucket a b)) (zR (f_X10_bucket a b)) := by
  refine zSame.rr (fun hN M hI => ?_)
  obtain ⟨tp, A, h1, h2, h3, h4, h5⟩ := hI
  obtain ⟨cm, xs, ke, ve, be, se, hcm, e, hm, hm3, hx, hc1⟩ := h4.fx (by omega) h2
  have hB64 := h2.sB.2.2.1
  have hB1 : 1 ≤ zA_B A := by have := h2.sB.2.1; unfold zA_B; omega
  have hbe : ∀ x, x < (zA_S A).length → be x < 64 := fun x h => by have := (hx x h).1; omega
  have hc := h2.1.2.2.1
  have hc6 := h2.1.2.2.2.1
  unfold f_X9_bucket f_X10_bucket f_X9_isBucket
  rw [cBuck (o := 12) h2 h3.1, mBuck h2 h4.1]
  simp (disch := omega) only [Option.bind_some, nIsub, in_eq]
  rcases inC a 0 (zA_B A - 1) (by omega) (by omega) with ⟨ha, k, -, hk, rfl⟩ | ha
  · have hk64 : k < 64 := by omega
    have hE := h2.e300 k
    have hG := h2.G256 k
    simp only [ha, if_true]
    by_cases hb0 : b < 0
    · rw [if_pos hb0, if_neg (by
        rw [Int32.lt_iff_toInt_lt] at hb0
        rw [Int32.le_iff_toInt_le]
        omega)]
      exact ⟨_, rfl, rfl⟩
    · obtain ⟨w, hw, rfl⟩ := nI_of hb0
      have h8 : M.1 24 k = nI (zA_E A k).length := h3.2.2.1.1 k hk64
      have h9 : M.1 25 k = nI (zA_G A k).length := h3.2.2.1.2.1 k hk64
      rw [if_neg hb0]
      simp (disch := omega) only [if0L, in_nI]
      by_cases hw0 : w = 0
      · subst hw0
        simp (disch := omega) only [ifLt_t, ifLe_f, zgd_in, nIc, h8, mKeysG hm hm3 e hbe hk64, Option.bind_some]
        refine ⟨nI (zA_E A k).length, ?_, ?_⟩
        · rw [if_pos (show nI 0 = 0 from rfl)]
        · rw [if_neg (by simp), if_pos (show nI 0 = 0 from rfl)]
      · by_cases hw1 : w = 1
        · subst hw1
          simp (disch := omega) only [ifLt_t, ifLe_f, zgd_in, nIc, h9, mChainG h2.gok h4.2.2.2.1 hk64, Option.bind_some, ifE0_f, if_true]
          refine ⟨nI (zA_G A k).length, rfl, ?_⟩
          rw [if_neg (by simp)]
        · by_cases hw99 : w ≤ 99
          · simp (disch := omega) only [ifLt_t, ifE0_f, ifEq_f, show (2 ≤ w ∧ w ≤ 99) by omega, decide_true, if_true]
            exact ⟨_, rfl, rfl⟩
          · by_cases hw999 : w ≤ 999
            · simp (disch := omega) only [ifLt_t, ifLt_f, ifLe_t, ifLe_f, nIsub, show ¬ (2 ≤ w ∧ w ≤ 99) by omega, decide_false, Bool.false_eq_true, if_false, cPageAt (ch := 16) h3.2.2.1 h2.gok hk64, mChainG h2.gok h4.2.2.2.1 hk64, Option.bind_some]
              by_cases hlt : w - 100 < (zA_G A k).length
              · have hp := h2.gok.1 k _ (List.getElem_mem hlt)
                rw [zpg_some hlt, mPageAt h2.gok h4.2.2.2.1 hk64 (List.getElem?_eq_getElem hlt) (by omega)]
                simp (disch := omega) only [ifm1, ifLe_f, Option.bind_some]
                exact ⟨_, rfl, rfl⟩
              · rw [List.getElem?_eq_none (by omega)]
                simp (disch := omega) only [ifLe_t]
                exact ⟨(-4 : Int32), rfl, rfl⟩
            · have hk1 := cKeyAtB (ch := 16) h3.2.2.1 h2.gok (h3.1.2.2.2.2.2.2.2.2.2.2.2) (by omega) hc6 hk64 (i := w - 1000) (by omega) (by omega) (h2.cap k) (h2.ent k)
              simp (disch := omega) only [ifLt_f, ifLe_t, ifLe_f, nIsub, show ¬ (2 ≤ w ∧ w ≤ 99) by omega, decide_false, Bool.false_eq_true, if_false, hk1, mKeysG hm hm3 e hbe hk64, Option.bind_some]
              by_cases hlt : w - 1000 < (zA_E A k).length
              · have hlx : w - 1000 < (xs k).length := by rw [e.elen] at hlt; exact hlt
                have hx1 := e.2.2.1 k _ (List.getElem_mem hlx)
                have hke := (e.2.1 _ hx1.1).1
                simp only [Nat.zero_add] at hke
                rw [mEntryAt hm hm3 e hcm hbe (List.getElem?_eq_getElem hlx)]
                simp (disch := omega) only [ifLe_f, Option.bind_some, nIadd, zgd_in, nIc, hke]
                refine ⟨_, rfl, ?_⟩
                rw [e.2.2.2.2, List.getElem?_map, List.getElem?_eq_getElem hlx]
                rfl
              · rw [List.getElem?_eq_none (by omega)]
                simp (disch := omega) only [ifLe_t]
                exact ⟨_, rfl, rfl⟩
  · simp only [ha, Bool.false_eq_true, if_false]
    exact ⟨_, rfl, rfl⟩
theorem op_page (N : Nat) (a b : Int32) : zSame N (zR (f_X9_page a b)) (zR (f_X10_page a b)) := by
  refine zSame.rr (fun hN M hI => ?_)
  obtain ⟨tp, A, h1, h2, h3, h4, h5⟩ := hI
  obtain ⟨cm, xs, ke, ve, be, se, hcm, e, hm, hm3, hx, hc1⟩ := h4.fx (by omega) h2
  have hB64 := h2.sB.2.2.1
  have hbe : ∀ x, x < (zA_S A).length → be x < 64 := fun x h => by have := (hx x h).1; omega
  have hc := h2.1.2.2.1
  have hc6 := h2.1.2.2.2.1
  unfold f_X9_page f_X10_page
  simp only [in_eq]
  rcases inC a 0 255 (by decide) (by decide) with ⟨ha, p, -, hp, rfl⟩ | ha
  · simp only [ha, if_true]
    have main : ∀ w, (w ≤ 2 ∨ (10 ≤ w ∧ w ≤ 15)) → ∃ r, j_X9_page_35 (nI p) (nI w) (decide (10 ≤ w ∧ w ≤ 15)) M = some r ∧ j_X10_page_33 (nI p) (nI w) M = some r := by
      intro w hw
      unfold j_X9_page_35 j_X10_page_33
      simp (disch := omega) only [zgd_in, nIc, nIadd, zbd]
      rcases zfree h3.2.2.1 h4.2.2.2.1 (show p < 256 by omega) with ⟨e1, e2, -⟩ | ⟨k, i, hk, hi, e1, e2⟩
      · simp only [Nat.zero_add] at e2
        rw [e2]
        simp only [Nat.reduceAdd] at e1 ⊢
        rw [e1]
        exact ⟨_, rfl, rfl⟩
      · have hpl := (h4.2.2.2.1.2 k hk i p hi).2
        simp only [Nat.zero_add] at e2 hpl
        simp only [Nat.reduceAdd] at e1
        obtain ⟨-, c2, c3, -⟩ := h3.2.2.1.2.2.2.2.2.1 k hk i p hi
        simp only [Nat.reduceAdd] at c2 c3
        have hil := (List.getElem?_eq_some_iff.mp hi).1
        have hlow := h2.low hil
        have hE := h2.e300 k
        have hfl : zfil (zA_c A) (zA_E A k).length i ≤ 6 := by unfold zfil; omega
        have hkp : f_X10_keysOnPage (nI p) M = some (nI (zfil (zA_c A) (zA_E A k).length i)) := by
          unfold f_X10_keysOnPage
          simp (disch := omega) only [nIadd, zgd_in, nIc, e2, mKeysG hm hm3 e hbe hk, Option.bind_some, hpl, hc1, nImul, nIsub]
          unfold f_X10_min
          unfold zfil
          by_cases hle : (zA_E A k).length - zA_c A * i ≤ zA_c A
          · simp (disch := omega) only [ifLe_t, mmx_nI]
            congr 2; omega
          · simp (disch := omega) only [ifLe_f, mmx_nI]
            congr 2; omega
        simp (disch := omega) only [e1, e2, ifm1, c2, c3, hpl, hkp, Option.bind_some]
        by_cases hw2 : w ≤ 2
        · simp (disch := omega) only [show ¬ (10 ≤ w ∧ w ≤ 15) by omega, decide_false, Bool.false_eq_true, if_false, ifLe_f]
          by_cases hw0 : w = 0
          · simp (disch := omega) only [ifE0_t]
            exact ⟨_, rfl, rfl⟩
          · by_cases hw1 : w = 1
            · simp (disch := omega) only [ifE0_f, ifEq_t]
              exact ⟨_, rfl, rfl⟩
            · simp (disch := omega) only [ifE0_f, ifEq_f]
              exact ⟨_, rfl, rfl⟩
        · simp (disch := omega) only [show (10 ≤ w ∧ w ≤ 15) by omega, and_self, decide_true, if_true, ifLe_t, nIsub]
          by_cases hlt : w - 10 < zfil (zA_c A) (zA_E A k).length i
          · have hlx : zA_c A * i + (w - 10) < (zA_E A k).length := by unfold zfil at hlt; omega
            have hwc : w - 10 < zA_c A := by unfold zfil at hlt; omega
            have hlx2 : zA_c A * i + (w - 10) < (xs k).length := by rw [e.elen] at hlx; exact hlx
            have hx1 := e.2.2.1 k _ (List.getElem_mem hlx2)
            have hke := (e.2.1 _ hx1.1).1
            simp only [Nat.zero_add] at hke
            have d1 : (zA_c A * i + (w - 10)) / zA_c A = i := by rw [Nat.mul_add_div (by omega), Nat.div_eq_of_lt hwc]; omega
            have d2 : (zA_c A * i + (w - 10)) % zA_c A = w - 10 := by rw [Nat.mul_add_mod, Nat.mod_eq_of_lt hwc]
            have h7 := h3.2.2.1.2.2.2.2.2.2 k hk _ _ p (List.getElem?_eq_getElem hlx) (by rw [d1]; exact hi)
            rw [d2] at h7
            obtain ⟨q1, q2, q3⟩ := h2.ent k _ (List.getElem_mem hlx)
            simp only [Nat.reduceAdd] at h7
            have hsum : zA_c A * i + w - 10 = zA_c A * i + (w - 10) := by omega
            simp (disch := omega) only [ifLe_f, nImul, nIadd, nIsub, zgd_in, nIc, hc1, hsum, mEntryAt hm hm3 e hcm hbe (List.getElem?_eq_getElem hlx2), Option.bind_some, hke]
            refine ⟨_, ?_, rfl⟩
            rw [Nat.mul_comm p 6, h7, zen_key q1 q2 q3]
            congr 2
            have : (zA_E A k)[zA_c A * i + (w - 10)]? = some (ke ((xs k)[zA_c A * i + (w - 10)]'hlx2), ve ((xs k)[zA_c A * i + (w - 10)]'hlx2)) := by
              rw [e.2.2.2.2, List.getElem?_map, List.getElem?_eq_getElem hlx2]; rfl
            rw [List.getElem?_eq_getElem hlx] at this
            rw [Option.some.inj this]
          · simp (disch := omega) only [ifLe_t]
            exact ⟨_, rfl, rfl⟩
    rcases inC b 0 2 (by decide) (by decide) with ⟨hb, w, -, hw, rfl⟩ | hb
    · simp only [hb, if_true]
      rw [in_nI (by omega) (by omega) (by omega)]
      exact main w (by omega)
    · simp only [hb, Bool.false_eq_true, if_false]
      rcases inC b 10 15 (by decide) (by decide) with ⟨hb, w, hw1, hw, rfl⟩ | hb
      · simp only [hb, if_true]
        have := main w (by omega)
        rw [decide_eq_true (show 10 ≤ w ∧ w ≤ 15 by omega)] at this
        exact this
      · simp only [hb, Bool.false_eq_true, if_false]
        exact ⟨_, rfl, rfl⟩
  · simp only [ha, Bool.false_eq_true, if_false]
    exact ⟨_, rfl, rfl⟩
