/-! ===== the class's entries and pages by place ===== -/
theorem nI_L {n : Nat} (h : n < 2147483648) : (nI n).toInt64 = lN n := by
  apply Int64.toInt_inj.mp
  rw [Int32.toInt_toInt64, nI_toInt h, lN_ti (by omega), if_pos (by omega)]
theorem wb_sar {n k : Nat} (hn : n < 2 ^ 63) (hk : k < 64) : lN n >>> ((nI k).toInt64 &&& 63) = lN (n / 2 ^ k) := by
  rw [wb_c k hk]
  apply wb_inj
  rw [Int64.toBitVec_shiftRight, wb_tb, wb_tb, wb_tb, wb_sm k hk]
  apply BitVec.eq_of_toNat_eq
  have hmsb : (BitVec.ofNat 64 n).msb = false := by
    rw [BitVec.msb_eq_decide, BitVec.toNat_ofNat, Nat.mod_eq_of_lt (by omega)]
    simp; omega
  rw [BitVec.sshiftRight', BitVec.sshiftRight_eq_of_msb_false hmsb, BitVec.toNat_ushiftRight, BitVec.toNat_ofNat, BitVec.toNat_ofNat, BitVec.toNat_ofNat, Nat.mod_eq_of_lt (show k < 2 ^ 64 by omega), Nat.mod_eq_of_lt (show n < 2 ^ 64 by omega), Nat.shiftRight_eq_div_pow, Nat.mod_eq_of_lt (Nat.lt_of_le_of_lt (Nat.div_le_self _ _) (by omega))]
theorem of_lN {k v h : Nat} (hk : k < 65536) (hv : v < 256) (hh : h < 65536) : f_X1_of (nI k) (nI v) (nI h) = lN (h * 16777216 + k * 256 + v) := by
  unfold f_X1_of
  rw [nI_L (by omega), nI_L (n := k) (by omega), nI_L (n := v) (by omega), wb_shl _ (by decide), wb_shl _ (by decide), wb_or (by omega) (by omega)]
  have e1 : h * 2 ^ 24 ||| k * 2 ^ 8 = h * 16777216 + k * 256 := by
    have := Nat.two_pow_add_eq_or_of_lt (i := 24) (b := k * 2 ^ 8) (by omega) h
    rw [Nat.mul_comm h, ← this]
  have e2 : (h * 16777216 + k * 256) ||| v = h * 16777216 + k * 256 + v := by
    have := Nat.two_pow_add_eq_or_of_lt (i := 8) (b := v) (by omega) (h * 65536 + k)
    rw [show h * 16777216 + k * 256 = 2 ^ 8 * (h * 65536 + k) by omega, ← this]
  rw [e1, wb_or (by omega) (by omega), e2]
theorem zen_key {f : Nat → Nat} {q : Nat × Nat} (hk : q.1 < 65536) (hv : q.2 < 256) (hh : f q.1 < 65536) : f_X1_keyOf (zen f q) = nI q.1 := by
  unfold zen
  rw [of_lN hk hv hh]
  unfold f_X1_keyOf
  rw [wb_sar (by omega) (by decide), show (65535 : Int64) = lN (2 ^ 16 - 1) from rfl, wb_mask (by omega) (by decide), lN_i]
  congr 1
  omega
theorem zen_val {f : Nat → Nat} {q : Nat × Nat} (hk : q.1 < 65536) (hv : q.2 < 256) (hh : f q.1 < 65536) : f_X1_valueOf (zen f q) = nI q.2 := by
  unfold zen
  rw [of_lN hk hv hh]
  unfold f_X1_valueOf
  rw [show (255 : Int64) = lN (2 ^ 8 - 1) from rfl, wb_mask (by omega) (by decide), lN_i]
  congr 1
  omega
theorem zen_hash {f : Nat → Nat} {q : Nat × Nat} (hk : q.1 < 65536) (hv : q.2 < 256) (hh : f q.1 < 65536) : f_X1_hashOf (zen f q) = nI (f q.1) := by
  unfold zen
  rw [of_lN hk hv hh]
  unfold f_X1_hashOf
  rw [wb_sar (by omega) (by decide), show (65535 : Int64) = lN (2 ^ 16 - 1) from rfl, wb_mask (by omega) (by decide), lN_i]
  congr 1
  omega
section CE
variable {M : zzMem} {ch c : Nat} {h : Nat → Nat} {E : Nat → List (Nat × Nat)} {G : Nat → List Nat}
theorem zpg_some {l : List Nat} {i : Nat} (hi : i < l.length) : zpg (l[i]?) = nI l[i] := by rw [List.getElem?_eq_getElem hi]; rfl
theorem cPageAt (hc : zCh M ch c h E G) (hG : zGok G) {b i : Nat} (hb : b < 64) (hi : i < 2147483648) : f_X0_pageAt ch (nI b) (nI i) M = some (zpg ((G b)[i]?)) := by
  have hl := hG.len b
  have h9 := hc.2.1 b hb
  have h6 := hc.2.2.1 b hb
  unfold f_X0_pageAt
  by_cases hil : i < (G b).length
  · simp (disch := omega) only [ifL0, zgd_in, nIc, h9, ifLt_t, zbd, h6]
    unfold j_X0_pageAt_26
    rw [List.head?_eq_getElem?]
    refine zlp_for (B := fun s : (Int32 × Int32) => b_X0_pageAt_26 ch (nI i) s.1 s.2 M) (fun t => (zpg ((G b)[t]?), nI t)) i _ (fun t ht => ?_) ?_ 0 (by omega)
    · have htl : t < (G b).length := by omega
      have hp := hG.1 b _ (List.getElem_mem htl)
      have hf := (hc.2.2.2.2.2.1 b hb t _ (List.getElem?_eq_getElem htl)).2.2.2
      unfold b_X0_pageAt_26
      simp (disch := omega) only [ifLe_f, zpg_some htl, ifm1, zgd_in, nIc, hf, zbd, nIadd]
    · unfold b_X0_pageAt_26
      simp (disch := omega) only [ifLe_t]
  · simp (disch := omega) only [ifL0, zgd_in, nIc, h9, ifLt_f]
    rw [List.getElem?_eq_none (by omega)]
    rfl
theorem cPageOfKey (hc : zCh M ch c h E G) (hG : zGok G) (hr : M.1 ch 11 = nI c) (h1 : 1 ≤ c) (h2 : c ≤ 6) {b i : Nat} (hb : b < 64) (hi : i < 2147483648) (he : (E b).length < 2147483648) : f_X0_pageOfKey ch (nI b) (nI i) M = some (if i < (E b).length then zpg ((G b)[i / c]?) else (-1 : Int32)) := by
  have h8 := hc.1 b hb
  have hdi : i / c ≤ i := Nat.div_le_self _ _
  unfold f_X0_pageOfKey j_X0_pageOfKey_22
  by_cases hil : i < (E b).length
  · simp (disch := omega) only [ifL0, zgd_in, nIc, h8, ifLe_f, ifLe_t, hr, nIdiv, cPageAt hc hG, Option.bind_some, if_pos hil]
    rw [zgd_t (nI_ne0 (by omega) (by omega))]
  · simp (disch := omega) only [ifL0, zgd_in, nIc, h8, ifLe_t, if_neg hil]
theorem cKeyAtB (hc : zCh M ch c h E G) (hG : zGok G) (hr : M.1 ch 11 = nI c) (h1 : 1 ≤ c) (h2 : c ≤ 6) {b i : Nat} (hb : b < 64) (hi : i < 2147483648) (he : (E b).length < 2147483648) (hcap : (E b).length ≤ c * (G b).length) (hq : ∀ q ∈ E b, q.1 < 65536 ∧ q.2 < 256 ∧ h q.1 < 65536) : f_X0_keyAt ch (nI b) (nI i) M = some (match (E b)[i]? with | some q => nI q.1 | none => (-4 : Int32)) := by
  unfold f_X0_keyAt
  rw [cPageOfKey hc hG hr h1 h2 hb hi he]
  simp only [Option.bind_some]
  by_cases hil : i < (E b).length
  · have hdiv : i / c < (G b).length := (Nat.div_lt_iff_lt_mul (by omega)).mpr (by rw [Nat.mul_comm]; omega)
    have hp := hG.1 b _ (List.getElem_mem hdiv)
    have hm : i % c < c := Nat.mod_lt _ (by omega)
    have h7 := hc.2.2.2.2.2.2 b hb i _ _ (List.getElem?_eq_getElem hil) (List.getElem?_eq_getElem hdiv)
    obtain ⟨q1, q2, q3⟩ := hq _ (List.getElem_mem hil)
    simp (disch := omega) only [if_pos hil, zpg_some hdiv, ifm1, hr, nIrem, nImul, nIadd, zgd_in, nIc]
    rw [zgd_t (nI_ne0 (by omega) (by omega)), Nat.mul_comm _ 6, h7, zen_key q1 q2 q3, List.getElem?_eq_getElem hil]
  · rw [if_neg hil, List.getElem?_eq_none (by omega), if_pos rfl]
/-- the inner loop of slotOf over a page without the key -/
theorem cSlotPage (hc : zCh M ch c h E G) (hG : zGok G) (h1 : 1 ≤ c) (h2 : c ≤ 6) {b j k p : Nat} (hb : b < 64) (he : (E b).length < 2147483648) (hj : (G b)[j]? = some p) (hk : k < 65536) (hq : ∀ q ∈ E b, q.1 < 65536 ∧ q.2 < 256 ∧ h q.1 < 65536) :
    (∀ t v, t < c → (E b)[c * j + t]? = some (k, v) → (∀ u w, u < t → (E b)[c * j + u]? ≠ some (k, w)) → b_X0_slotOf_10 ch (nI b) (nI k) (nI p) (nI j) M = some (.inr (nI (6 * p + t)))) ∧
    ((∀ t v, t < c → (E b)[c * j + t]? ≠ some (k, v)) → b_X0_slotOf_10 ch (nI b) (nI k) (nI p) (nI j) M = some (.inl (zpg ((G b)[j + 1]?), nI (j + 1)))) := by
  have hl := hG.len b
  have hjl := (List.getElem?_eq_some_iff.mp hj).1
  have hp := hG.1 b p (List.mem_of_getElem? hj)
  have h9 := hc.2.1 b hb
  obtain ⟨-, -, hf, hn⟩ := hc.2.2.2.2.2.1 b hb j p hj
  have hfl : zfil c (E b).length j ≤ c := by unfold zfil; omega
  have cell : ∀ t q, t < c → (E b)[c * j + t]? = some q → f_X1_keyOf (M.2 (ch + 5) (6 * p + t)) = nI q.1 := by
    intro t q ht hqq
    have d1 : (c * j + t) / c = j := by rw [Nat.mul_add_div (by omega), Nat.div_eq_of_lt ht]; omega
    have d2 : (c * j + t) % c = t := by rw [Nat.mul_add_mod, Nat.mod_eq_of_lt ht]
    have h7 := hc.2.2.2.2.2.2 b hb (c * j + t) q p hqq (by rw [d1]; exact hj)
    rw [d2] at h7
    obtain ⟨q1, q2, q3⟩ := hq q (List.mem_of_getElem? hqq)
    rw [h7, zen_key q1 q2 q3]
  have step : ∀ t, t < zfil c (E b).length j → (∀ v, (E b)[c * j + t]? ≠ some (k, v)) → b_X0_slotOf_36 ch (nI b) (nI k) (nI p) (nI j) (nI (6 * p)) (nI (6 * p + t)) M = some (.inl (nI (6 * p + (t + 1)))) := by
    intro t ht hne
    have hlt : c * j + t < (E b).length := by unfold zfil at ht; omega
    have hget := List.getElem?_eq_getElem hlt
    have hkey := cell t _ (by omega) hget
    obtain ⟨q1, q2, q3⟩ := hq _ (List.getElem_mem hlt)
    have hnk : ((E b)[c * j + t]'hlt).1 ≠ k := fun hh => hne ((E b)[c * j + t]'hlt).2 (by rw [hget, ← hh])
    unfold b_X0_slotOf_36
    simp (disch := omega) only [zgd_in, nIc, hf, nIadd, ifLe_f, hkey, ifEq_f, zbd]
    rfl
  constructor
  · intro t v ht hget hmin
    have hlt := (List.getElem?_eq_some_iff.mp hget).1
    have htf : t < zfil c (E b).length j := by unfold zfil; omega
    unfold b_X0_slotOf_10
    simp (disch := omega) only [zgd_in, nIc, h9, ifLe_f, ifm1, nImul, zbd]
    rw [Nat.mul_comm p 6]
    unfold j_X0_slotOf_36
    have hZ := zlp_for (B := fun s : Int32 => b_X0_slotOf_36 ch (nI b) (nI k) (nI p) (nI j) (nI (6 * p)) s M) (fun u => nI (6 * p + u)) t (.inr (nI (6 * p + t))) (fun u hu => step u (by omega) (fun w => hmin u w hu)) ?_ 0 (by omega)
    · exact hZ
    · have hkey := cell t _ ht hget
      unfold b_X0_slotOf_36
      simp (disch := omega) only [zgd_in, nIc, hf, nIadd, ifLe_f, hkey, if_true]
  · intro hno
    unfold b_X0_slotOf_10
    simp (disch := omega) only [zgd_in, nIc, h9, ifLe_f, ifm1, nImul, zbd]
    rw [Nat.mul_comm p 6]
    unfold j_X0_slotOf_36
    have hZ := zlp_for (B := fun s : Int32 => b_X0_slotOf_36 ch (nI b) (nI k) (nI p) (nI j) (nI (6 * p)) s M) (fun u => nI (6 * p + u)) (zfil c (E b).length j) (.inl (zpg ((G b)[j + 1]?), nI (j + 1))) (fun u hu => step u (by omega) (fun w => hno u w (by omega))) ?_ 0 (by omega)
    · exact hZ
    · unfold b_X0_slotOf_36
      simp (disch := omega) only [zgd_in, nIc, hf, nIadd, ifLe_t, hn, zbd]
theorem cSlotNo (hc : zCh M ch c h E G) (hG : zGok G) (h1 : 1 ≤ c) (h2 : c ≤ 6) {b k : Nat} (hb : b < 64) (he : (E b).length < 2147483648) (hk : k < 65536) (hq : ∀ q ∈ E b, q.1 < 65536 ∧ q.2 < 256 ∧ h q.1 < 65536) (hno : ∀ v, (k, v) ∉ E b) : f_X0_slotOf ch (nI b) (nI k) M = some (-1 : Int32) := by
  have hl := hG.len b
  have h6 := hc.2.2.1 b hb
  have h9 := hc.2.1 b hb
  unfold f_X0_slotOf j_X0_slotOf_10
  simp (disch := omega) only [zgd_in, nIc, zbd, h6]
  rw [List.head?_eq_getElem?]
  refine zlp_for (B := fun s : (Int32 × Int32) => b_X0_slotOf_10 ch (nI b) (nI k) s.1 s.2 M) (fun j => (zpg ((G b)[j]?), nI j)) (G b).length _ (fun j hj => ?_) ?_ 0 (by omega)
  · rw [zpg_some hj]
    exact (cSlotPage hc hG h1 h2 hb he (List.getElem?_eq_getElem hj) hk hq).2 (fun t v _ hh => hno v (List.mem_of_getElem? hh))
  · unfold b_X0_slotOf_10
    simp (disch := omega) only [zgd_in, nIc, h9, ifLe_t]
theorem cSlotIn (hc : zCh M ch c h E G) (hG : zGok G) (h1 : 1 ≤ c) (h2 : c ≤ 6) {b k v i p : Nat} (hb : b < 64) (he : (E b).length < 2147483648) (hk : k < 65536) (hq : ∀ q ∈ E b, q.1 < 65536 ∧ q.2 < 256 ∧ h q.1 < 65536) (hnd : ((E b).map Prod.fst).Nodup) (hi : (E b)[i]? = some (k, v)) (hp : (G b)[i / c]? = some p) : f_X0_slotOf ch (nI b) (nI k) M = some (nI (6 * p + i % c)) := by
  have hl := hG.len b
  have h6 := hc.2.2.1 b hb
  have huniq : ∀ i' v', (E b)[i']? = some (k, v') → i' = i := by
    intro i' v' hi'
    have e1 : ((E b).map Prod.fst)[i']? = some k := by rw [List.getElem?_map, hi']; rfl
    have e2 : ((E b).map Prod.fst)[i]? = some k := by rw [List.getElem?_map, hi]; rfl
    obtain ⟨l1, g1⟩ := List.getElem?_eq_some_iff.mp e1
    obtain ⟨l2, g2⟩ := List.getElem?_eq_some_iff.mp e2
    exact (List.getElem_inj hnd).mp (g1.trans g2.symm)
  have hmod : i % c < c := Nat.mod_lt _ (by omega)
  have hdm : c * (i / c) + i % c = i := Nat.div_add_mod i c
  have hil := (List.getElem?_eq_some_iff.mp hp).1
  unfold f_X0_slotOf j_X0_slotOf_10
  simp (disch := omega) only [zgd_in, nIc, zbd, h6]
  rw [List.head?_eq_getElem?]
  refine zlp_for (B := fun s : (Int32 × Int32) => b_X0_slotOf_10 ch (nI b) (nI k) s.1 s.2 M) (fun j => (zpg ((G b)[j]?), nI j)) (i / c) _ (fun j hj => ?_) ?_ 0 (Nat.zero_le _)
  · have hjl : j < (G b).length := by omega
    rw [zpg_some hjl]
    refine (cSlotPage hc hG h1 h2 hb he (List.getElem?_eq_getElem hjl) hk hq).2 (fun t v' ht hh => ?_)
    have e1 := huniq _ _ hh
    have : (c * j + t) / c = j := by rw [Nat.mul_add_div (by omega), Nat.div_eq_of_lt ht]; omega
    rw [e1] at this
    omega
  · rw [hp]
    refine (cSlotPage hc hG h1 h2 hb he hp hk hq).1 (i % c) v hmod (by rw [hdm]; exact hi) (fun u w hu hh => ?_)
    have := huniq _ _ hh
    omega
end CE
