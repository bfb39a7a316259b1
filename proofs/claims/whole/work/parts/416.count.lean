/-! ===== count, and the numbers of a shape ===== -/
theorem zb_f : zb false = nI 0 := rfl
theorem zb_t : zb true = nI 1 := rfl
theorem zWF.lv {N : Nat} {A : zzA} (h : zWF N A) : zA_lv A ≤ 6 := by
  have h1 : 1 ≤ zA_n A := h.1.1
  have h2 : zA_B A ≤ 64 := h.1.2.2.2.2.2.2.2.2.2.1
  unfold zA_B zA_s at h2
  rcases Nat.lt_or_ge 6 (zA_lv A) with h3 | h3
  · exfalso
    have h4 : 2 ^ 7 ≤ 2 ^ zA_lv A := Nat.pow_le_pow_right (by decide) h3
    have h5 : 1 * 2 ^ zA_lv A ≤ zA_n A * 2 ^ zA_lv A := Nat.mul_le_mul_right _ h1
    omega
  · exact h3
theorem nIshl {a k : Nat} (hk : k < 32) (h : a * 2 ^ k < 4294967296) : nI a <<< (nI k &&& 31) = nI (a * 2 ^ k) := pk_shlN _ k (s_l k hk) h
theorem zWF.sB {N : Nat} {A : zzA} (h : zWF N A) : zA_s A ≤ 64 ∧ 1 ≤ zA_s A ∧ zA_B A ≤ 64 ∧ zA_pt A < zA_s A := by
  have h2 : zA_B A ≤ 64 := h.1.2.2.2.2.2.2.2.2.2.1
  have h3 : zA_pt A < zA_s A := h.1.2.2.2.2.2.2.2.2.1
  refine ⟨?_, by omega, h2, h3⟩
  unfold zA_B at h2
  omega
theorem cSpan {N o : Nat} {M : zzMem} {A : zzA} (h2 : zWF N A) (h : zCi M o A) : f_X2_span o M = nI (zA_s A) := by
  unfold f_X2_span
  have h6 := h2.lv
  have hs := h2.sB.1
  unfold zA_s at hs ⊢
  rw [h.1, h.2.2.2.2.1, nIshl (by omega) (by omega)]
theorem cBuck {N o : Nat} {M : zzMem} {A : zzA} (h2 : zWF N A) (h : zCi M o A) : f_X2_buckets o M = nI (zA_B A) := by
  have := cSpan h2 h
  unfold f_X2_span at this
  unfold f_X2_buckets
  rw [this, h.2.2.2.2.2.1, nIadd]
  rfl
theorem mFirst {N sl : Nat} {M : zzMem} {A : zzA} (hsl : sl ≤ 2) (h2 : zWF N A) (h : zMi M (1892 * sl) A) : f_X10_first (nI sl) M = some (nI (zA_s A)) := by
  unfold f_X10_first
  have h6 := h2.lv
  have hs := h2.sB.1
  unfold zA_s at hs ⊢
  simp (disch := omega) only [nImul, nIadd, zgd_in, nIc, Nat.add_zero, h.1, h.2.2.2.2.2.1]
  rw [nIshl (by omega) (by omega)]
theorem mBuck {N : Nat} {M : zzMem} {A : zzA} (h2 : zWF N A) (h : zMi M 0 A) : f_X10_buckets M = some (nI (zA_B A)) := by
  unfold f_X10_buckets
  rw [mFirst (sl := 0) (by omega) h2 h]
  simp only [Option.bind_some]
  have h6 := h.2.2.2.2.2.2.1
  simp only [Nat.zero_add] at h6
  rw [h6, nIadd]
  rfl
def zit2 : Nat → Nat → Nat
  | 0, w => w
  | i + 1, w => zit2 i w &&& (zit2 i w - 1)
theorem zpop : ∀ w, w < 16 → zit2 (zcnt w.testBit 4) w = 0 ∧ ∀ i, i < zcnt w.testBit 4 → 0 < zit2 i w ∧ zit2 i w < 16 := by decide +kernel
theorem mSize {w : Nat} (hw : w < 16) : f_X10_sizeOf (nI w) = some (nI (zcnt w.testBit 4)) := by
  unfold f_X10_sizeOf j_X10_sizeOf_4
  obtain ⟨p1, p2⟩ := zpop w hw
  refine zlp_for (B := fun s : (Int32 × Int32) => b_X10_sizeOf_4 s.1 s.2) (fun i => (nI i, nI (zit2 i w))) (zcnt w.testBit 4) _ (fun i hi => ?_) ?_ 0 (by omega)
  · obtain ⟨q1, q2⟩ := p2 i hi
    unfold b_X10_sizeOf_4
    simp (disch := omega) only [ifE0_f, zbd, nIadd, nIsub, nx_and, zit2]
  · unfold b_X10_sizeOf_4
    simp only [p1, ifE0_t]
theorem cOpen {N o : Nat} {M : zzMem} {f : Nat → Option (Nat × Int32)} (hN : N ≤ 600) (hq : ∀ s, s < 4 → ∀ q, f s = some q → q.1 ≤ N) (h : zSn M o f) : f_X6_openOnes o M = some (nI (zcnt (fun s => (f s).isSome) 4)) := by
  unfold f_X6_openOnes j_X6_openOnes_4
  refine zlp_for (B := fun s : (Int32 × Int32) => b_X6_openOnes_4 o s.1 s.2 M) (fun i => (nI (zcnt (fun s => (f s).isSome) i), nI i)) 4 _ (fun i hi => ?_) ?_ 0 (by omega)
  · unfold b_X6_openOnes_4 j_X6_openOnes_25
    cases hf : f i with
    | none =>
      have hv := (h i hi).1 hf
      simp (disch := omega) only [ifLe_f, zgd_in, nIc, hv, reduceIte, zbd, zb_f, nIadd, zcnt, hf]
      simp
    | some q =>
      have hv := ((h i hi).2 q hf).1
      have hb := hq i hi q hf
      simp (disch := omega) only [ifLe_f, zgd_in, nIc, hv, ifm1, zbd, zb_t, nIadd, zcnt, hf]
      simp
  · unfold b_X6_openOnes_4
    simp (disch := omega) only [ifLe_t]
theorem op_count (N : Nat) (a : Int32) : zSame N (zR (f_X9_count a)) (zR (f_X10_count a)) := by
  refine zSame.rr (fun hN M hI => ?_)
  obtain ⟨tp, A, h1, h2, h3, h4, h5⟩ := hI
  have hm := h4.1
  obtain ⟨w, w1, w2, w3⟩ := h4.2.2.2.2
  simp only [Nat.zero_add] at w2 w3
  unfold zMi at hm
  simp only [Nat.zero_add] at hm
  have hz : nI 0 = (0 : Int32) := rfl
  unfold f_X9_count f_X10_count
  by_cases e0 : a = nI 0
  · subst e0
    refine ⟨nI (zA_S A).length, ?_, ?_⟩
    · rw [if_pos rfl]; exact congrArg some h3.2.2.2.1.1
    · rw [if_pos hz]; exact congrArg some hm.2.2.2.2.2.2.2.1
  · have e0' : ¬ a = 0 := e0
    simp only [if_neg e0, if_neg e0']
    by_cases e1 : a = nI 1
    · subst e1
      refine ⟨nI (zA_B A), ?_, ?_⟩
      · rw [if_pos rfl, cBuck h2 h3.1]
      · rw [if_pos rfl, mBuck h2 h4.1]; rfl
    · simp only [if_neg e1]
      by_cases e2 : a = nI 2
      · subst e2
        exact ⟨_, by rw [if_pos rfl, h1.2.1], by rw [if_pos rfl, h1.2.2.1]⟩
      · simp only [if_neg e2]
        by_cases e3 : a = nI 3
        · subst e3
          exact ⟨nI (zA_dr A), by rw [if_pos rfl]; exact congrArg some h3.1.2.2.2.2.2.2.2.2.2.2.1, by rw [if_pos rfl]; exact congrArg some hm.2.2.2.2.2.2.2.2.2.2.2.2⟩
        · simp only [if_neg e3]
          by_cases e4 : a = nI 4
          · subst e4
            have hq : ∀ s, s < 4 → ∀ q, zA_sc A s = some q → q.1 ≤ N := fun s hs q h => (h2.2.2.2.2.2.2.2.2.2 s hs q h).1
            refine ⟨nI (zcnt w.testBit 4), ?_, ?_⟩
            · rw [if_pos rfl, cOpen (o := 29) hN hq h3.2.2.2.2]
              simp only [Option.bind_some]
              congr 2
              apply zcnt_congr
              intro i hi
              cases hf : zA_sc A i with
              | none => rw [(w3 i hi).1 hf]; rfl
              | some q => rw [((w3 i hi).2 q hf).1]; rfl
            · rw [if_pos rfl, w2, mSize w1]; rfl
          · simp only [if_neg e4]
            exact ⟨_, rfl, rfl⟩
