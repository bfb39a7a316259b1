/-! ===== a file copied ===== -/
theorem cin {M : zzMem} {k0 k1 n a b : Nat} (hn : n < 2147483648) (h : ¬ (a = k1 ∧ b < n)) : (zz_ci M k0 (nI 0) k1 (nI 0) (nI n)).1 a b = M.1 a b := by
  unfold zz_ci va_cpy
  have h0 : (nI 0).toNatClampNeg = 0 := nIc (by omega)
  by_cases ha : a = k1
  · subst ha
    simp only [if_true, h0, nIc hn]
    rw [if_neg (by omega)]
  · simp [ha]
theorem cie {M : zzMem} {k0 k1 n b : Nat} (hn : n < 2147483648) (h : b < n) : (zz_ci M k0 (nI 0) k1 (nI 0) (nI n)).1 k1 b = M.1 k0 b := by
  unfold zz_ci va_cpy
  have h0 : (nI 0).toNatClampNeg = 0 := nIc (by omega)
  simp only [if_true, h0, nIc hn]
  rw [if_pos (by omega), Nat.sub_zero, Nat.zero_add]
theorem ci2 {M : zzMem} {k0 k1 : Nat} {x y z : Int32} : (zz_ci M k0 x k1 y z).2 = M.2 := rfl
theorem cl1 {M : zzMem} {k0 k1 : Nat} {x y z : Int32} : (zz_cl M k0 x k1 y z).1 = M.1 := rfl
theorem cln {M : zzMem} {k0 k1 n a b : Nat} (hn : n < 2147483648) (h : ¬ (a = k1 ∧ b < n)) : (zz_cl M k0 (nI 0) k1 (nI 0) (nI n)).2 a b = M.2 a b := by
  unfold zz_cl va_cpy
  have h0 : (nI 0).toNatClampNeg = 0 := nIc (by omega)
  by_cases ha : a = k1
  · subst ha
    simp only [if_true, h0, nIc hn]
    rw [if_neg (by omega)]
  · simp [ha]
theorem cle {M : zzMem} {k0 k1 n b : Nat} (hn : n < 2147483648) (h : b < n) : (zz_cl M k0 (nI 0) k1 (nI 0) (nI n)).2 k1 b = M.2 k0 b := by
  unfold zz_cl va_cpy
  have h0 : (nI 0).toNatClampNeg = 0 := nIc (by omega)
  simp only [if_true, h0, nIc hn]
  rw [if_pos (by omega), Nat.sub_zero, Nat.zero_add]
theorem si2 {M : zzMem} {k i : Nat} {v : Int32} : (zz_si M k i v).2 = M.2 := rfl
theorem cpok {n m : Nat} (h : n ≤ m) (hm : m < 2147483648) : zz_cpok m m (nI 0) (nI 0) (nI n) := by
  have h0 : (nI 0).toNatClampNeg = 0 := nIc (by omega)
  refine ⟨nI_pos (by omega), nI_pos (by omega), nI_pos (by omega), ?_, ?_⟩ <;> rw [h0, nIc (by omega)] <;> omega
theorem zmn_nI {a b : Nat} (ha : a < 2147483648) (hb : b < 2147483648) : zmn (nI a) (nI b) = nI (min a b) := by
  unfold zmn
  by_cases h : b < a
  · rw [if_pos (nI_lt h ha), Nat.min_eq_right (by omega)]
  · rw [if_neg (nI_nlt (by omega) hb), Nat.min_eq_left (by omega)]
/-- what stays where a file is copied to the cells from o on -/
def zcpS (o : Nat) : Nat → Nat → Prop := fun k i => (k = o ∧ 4 ≤ i) ∨ (o + 1 ≤ k ∧ k ≤ o + 19)
theorem zFr.ci {S : Nat → Nat → Prop} {M : zzMem} {k0 k1 n : Nat} (hn : n < 2147483648) (h : ∀ i, S k1 i) : zFr S M (zz_ci M k0 (nI 0) k1 (nI 0) (nI n)) := fun a b hs => ⟨cin hn (fun hh => hs (by rw [hh.1]; exact h b)), rfl⟩
theorem zFr.cl {S : Nat → Nat → Prop} {M : zzMem} {k0 k1 n : Nat} (hn : n < 2147483648) (h : ∀ i, S k1 i) : zFr S M (zz_cl M k0 (nI 0) k1 (nI 0) (nI n)) := fun a b hs => ⟨rfl, cln hn (fun hh => hs (by rw [hh.1]; exact h b))⟩
theorem cCopy {N o p : Nat} {M : zzMem} {A : zzA} (hd : o + 20 ≤ p ∨ p + 20 ≤ o) (hW : zWF N A) (h : zRC M p A) : ∃ M', f_X2_copyFrom o p M = some M' ∧ zRC M' o A ∧ zFr (zcpS o) M M' := by
  have hl60 : (zA_law A).length ≤ 60 := hW.1.2.2.2.2.2.2.2.2.2.2.2.2
  have hlen := hW.2.2.2.2.2.2.2.2.1.1
  obtain ⟨c1, c2, c3, c4, c5⟩ := h
  unfold f_X2_copyFrom f_X3_copyFrom f_X3_take f_X0_copyFrom f_X5_copyFrom f_X6_copyFrom
  have hz : zmn (nI 60) (nI 60) = nI 60 := zmn_nI (by decide) (by decide)
  have hsz : ∀ (X : zzMem), X.1 (p + 1) 2 = M.1 (p + 1) 2 → zmn (X.1 (p + 1) 2) (nI 60) = nI (zA_law A).length := by
    intro X hX
    rw [hX, c2.1, zmn_nI (by omega) (by decide), Nat.min_eq_left hl60]
  simp only [zbd, hz]
  rw [hsz _ (by simp (disch := omega) only [rd_ne])]
  simp only [rd_eq, Option.bind_some]
  rw [zgd_t (cpok hl60 (by decide))]
  simp only [Option.bind_some]
  rw [zgd_t (cpok (Nat.le_refl 256) (by decide)), zgd_t (cpok (Nat.le_refl 1536) (by decide)), zgd_t (cpok (Nat.le_refl 64) (by decide))]
  simp only [Option.bind_some]
  rw [zgd_t (cpok (Nat.le_refl 300) (by decide))]
  simp only [Option.bind_some]
  rw [zgd_t (cpok (Nat.le_refl 4) (by decide))]
  refine ⟨_, rfl, ⟨?_, ⟨?_, fun j hj => ?_⟩, ⟨fun b hb => ?_, fun b hb => ?_, fun b hb => ?_, fun b hb => ?_, fun q hq hn => ?_, fun b hb i q hi => ?_, fun b hb i q r hi hr => ?_⟩, ⟨?_, fun i k hk => ?_⟩, fun s hs => ?_⟩, ?_⟩
  · unfold zCi at c1 ⊢
    simp (disch := omega) only [rd_ne, rd_eq, cin, cl1]
    exact c1
  · simp (disch := omega) only [rd_ne, rd_eq, cin, cl1]
  · simp (disch := omega) only [rd_ne, rd_eq, cin, cl1, cie]
    exact c2.2 j hj
  · simp (disch := omega) only [rd_ne, rd_eq, cin, cl1, cie]
    exact c3.1 b hb
  · simp (disch := omega) only [rd_ne, rd_eq, cin, cl1, cie]
    exact c3.2.1 b hb
  · simp (disch := omega) only [rd_ne, rd_eq, cin, cl1, cie]
    exact c3.2.2.1 b hb
  · simp (disch := omega) only [rd_ne, rd_eq, cin, cl1, cie]
    exact c3.2.2.2.1 b hb
  · simp (disch := omega) only [rd_ne, rd_eq, cin, cl1, cie]
    exact c3.2.2.2.2.1 q hq hn
  · have hq256 := hW.2.2.2.2.2.1 b q (List.mem_of_getElem? hi)
    simp (disch := omega) only [rd_ne, rd_eq, cin, cl1, cie]
    exact c3.2.2.2.2.2.1 b hb i q hi
  · have hq256 := hW.2.2.2.2.2.1 b r (List.mem_of_getElem? hr)
    have hc6 : zA_c A ≤ 6 := hW.1.2.2.2.1
    have hc2 : 2 ≤ zA_c A := hW.1.2.2.1
    have hm := Nat.mod_lt i (show zA_c A > 0 by omega)
    simp (disch := omega) only [si2, ci2, cln, cle]
    exact c3.2.2.2.2.2.2 b hb i q r hi hr
  · simp (disch := omega) only [rd_ne, rd_eq, cin, cl1]
    exact c4.1
  · have hi3 : i < 300 := by
      have := (List.getElem?_eq_some_iff.mp hk).1
      omega
    simp (disch := omega) only [si2, ci2, cln, cle]
    exact c4.2 i k hk
  · simp (disch := omega) only [rd_ne, rd_eq, cin, cl1, cie]
    exact c5 s hs
  · intro a b hs
    unfold zcpS at hs
    refine ⟨?_, ?_⟩
    · simp (disch := omega) only [rd_ne, cin, cl1]
    · simp (disch := omega) only [si2, ci2, cln]
