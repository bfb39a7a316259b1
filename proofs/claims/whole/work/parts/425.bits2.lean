theorem zshr1 {n i : Nat} (hn : n < 2147483648) (hi : i < 32) : (nI n >>> (nI i &&& 31)) &&& nI 1 = nI (n / 2 ^ i % 2) := by
  rw [pk_shrN hn _ i (s_l i hi)]
  exact pk_andN (k := 1) (Nat.lt_of_le_of_lt (Nat.div_le_self _ _) (by omega)) (by decide)
theorem zxb (a b i : Nat) : (a ^^^ b) / 2 ^ i % 2 = (a / 2 ^ i % 2) ^^^ (b / 2 ^ i % 2) := by
  rw [← Nat.toNat_testBit, ← Nat.toNat_testBit, ← Nat.toNat_testBit, Nat.testBit_xor]
  cases a.testBit i <;> cases b.testBit i <;> rfl
/-- the key's hash, or two hashes' difference where a bit is turned -/
noncomputable def zbv (law : List (Nat × Nat)) (a w k : Nat) : Nat := if w = 0 then zhs law ((a + k) % 65536) else zhs law ((a + k) % 65536) ^^^ zhs law ((a + k) % 65536 ^^^ 2 ^ (w - 1))
noncomputable def zbc (law : List (Nat × Nat)) (a i w : Nat) : Nat → Nat
  | 0 => 0
  | k + 1 => zbc law a i w k + zbv law a w k / 2 ^ i % 2
theorem zbc_le (law : List (Nat × Nat)) (a i w : Nat) : ∀ k, zbc law a i w k ≤ k
  | 0 => Nat.le_refl 0
  | k + 1 => by
    have := zbc_le law a i w k
    have h2 : zbv law a w k / 2 ^ i % 2 < 2 := Nat.mod_lt _ (by decide)
    unfold zbc
    omega
theorem op_bits (N : Nat) (a b c : Int32) : zSame N (f_X9_bits a b c) (f_X10_bits a b c) := by
  refine zSame.ss (fun hN tp A M h1 h2 h3 h4 h5 => ?_)
  have hok : zLok (zA_law A) := h2.1.2.2.2.2.2.2.2.2.2.2.2
  have hl60 : (zA_law A).length ≤ 60 := hok.2
  unfold f_X9_bits f_X10_bits
  rw [isKey_eq, in_eq]
  rcases keyC a with ⟨ha, x, hx, rfl⟩ | ha
  · rcases inC b 0 15 (by decide) (by decide) with ⟨hb, i, -, hi, rfl⟩ | hb
    · rcases inC c 0 16 (by decide) (by decide) with ⟨hc, w, -, hw, rfl⟩ | hc
      · simp only [ha, hb, hc, if_true]
        have hkey : ∀ k, (x + k) % 65536 < 65536 := fun k => Nat.mod_lt _ (by decide)
        have hpw : 2 ^ (w - 1) < 65536 := Nat.lt_of_le_of_lt (Nat.pow_le_pow_right (by decide) (show w - 1 ≤ 15 by omega)) (by decide)
        have hxor : ∀ k, (x + k) % 65536 ^^^ 2 ^ (w - 1) < 65536 := fun k => Nat.xor_lt_two_pow (n := 16) (hkey k) hpw
        have hhx : ∀ k, zhs (zA_law A) ((x + k) % 65536) < 65536 := fun k => zhs_lt (hkey k) hok.1
        have hhy : ∀ k, zhs (zA_law A) ((x + k) % 65536 ^^^ 2 ^ (w - 1)) < 65536 := fun k => zhs_lt (hxor k) hok.1
        have hbv : ∀ k, zbv (zA_law A) x w k < 65536 := by
          intro k
          unfold zbv
          split
          · exact hhx k
          · exact Nat.xor_lt_two_pow (n := 16) (hhx k) (hhy k)
        have hT : (if nI w = 0 then j_X9_bits_42 (nI x) (nI i) (nI w) (nI 0) M else j_X9_bits_42 (nI x) (nI i) (nI w) (nI 1 <<< ((nI w - nI 1) &&& 31)) M) = j_X9_bits_42 (nI x) (nI i) (nI w) (nI (if w = 0 then 0 else 2 ^ (w - 1))) M := by
          by_cases h0 : w = 0
          · subst h0; rfl
          · simp (disch := omega) only [ifE0_f, nIsub, if_neg h0]
            rw [nIshl (by omega) (by omega), Nat.one_mul]
        refine ⟨nI (zbc (zA_law A) x i w 256), ?_, fun M1 hf => ?_⟩
        · rw [hT]
          unfold j_X9_bits_42 j_X9_bits_50
          have hZ := zlp_forM (B := fun s : (Int32 × Int32 × zzMem) => b_X9_bits_50 (nI x) (nI i) (nI w) (nI (if w = 0 then 0 else 2 ^ (w - 1))) s.1 s.2.1 s.2.2) (fun k M => (nI (zbc (zA_law A) x i w k), nI k, M)) (fun M1 => zFr (fun a _ => a = 15) M M1) 256 (fun r => ∃ M1, r = (nI (zbc (zA_law A) x i w 256), M1) ∧ zFr (fun a _ => a = 15) M M1) (fun k hk M1 hf1 => ?_) (fun M1 hf1 => ?_) 0 (by omega) M (zFr.refl M)
          · obtain ⟨r, hr1, M1, rfl, hf1⟩ := hZ
            exact ⟨M1, hr1, hf1.weak zScr15⟩
          · obtain ⟨M2, e1, e2⟩ := cHash (o := 13) (h3.2.1.frS hf1 (by simp) (by simp)) hok (hkey k)
            have e3 : nI (x + k) &&& nI 65535 = nI ((x + k) % 65536) := by exact pk_andN (k := 16) (by omega) (by decide)
            have hbit := zshr1 (n := zbv (zA_law A) x w k) (i := i) (by have := hbv k; omega) (by omega)
            by_cases h0 : w = 0
            · subst h0
              refine ⟨M2, ?_, hf1.trans e2⟩
              unfold b_X9_bits_50 j_X9_bits_105
              have ev : zbv (zA_law A) x 0 k = zhs (zA_law A) ((x + k) % 65536) := by simp [zbv]
              rw [ev] at hbit
              simp (disch := omega) only [ifLe_f, zbd, e3, e1, Option.bind_some, zpr, ifLe0_t, hbit, nIadd, zbc, ev]
            · obtain ⟨M3, e4, e5⟩ := cHash (o := 13) (h3.2.1.frS (hf1.trans e2) (by simp) (by simp)) hok (hxor k)
              refine ⟨M3, ?_, (hf1.trans e2).trans e5⟩
              unfold b_X9_bits_50 j_X9_bits_105
              have ev : zbv (zA_law A) x w k = zhs (zA_law A) ((x + k) % 65536) ^^^ zhs (zA_law A) ((x + k) % 65536 ^^^ 2 ^ (w - 1)) := by simp [zbv, h0]
              rw [ev] at hbit
              simp (disch := omega) only [ifLe_f, zbd, e3, e1, Option.bind_some, zpr, ifLe0_f, if_neg h0, nx_xor, e4, hbit, nIadd, zbc, ev]
          · refine ⟨_, ?_, M1, rfl, hf1⟩
            unfold b_X9_bits_50
            simp (disch := omega) only [ifLe_t]
        · have h4' := h4.fr (Or.inl rfl) h2 hf
          unfold j_X10_bits_35
          have hZ := zlp_forM (B := fun s : (Int32 × Int32 × zzMem) => b_X10_bits_35 (nI x) (nI i) (nI w) s.1 s.2.1 s.2.2) (fun k M => (nI (zbc (zA_law A) x i w k), nI k, M)) (fun M2 => zFr (fun a _ => a = 78) M1 M2) 256 (fun r => ∃ M2, r = (nI (zbc (zA_law A) x i w 256), M2) ∧ zFr (fun a _ => a = 78) M1 M2) (fun k hk M2 hf2 => ?_) (fun M2 hf2 => ?_) 0 (by omega) M1 (zFr.refl M1)
          · obtain ⟨r, hr1, M2, rfl, hf2⟩ := hZ
            exact ⟨M2, hr1, hf2.weak zScr78⟩
          · obtain ⟨M3, e1, e2⟩ := mHashOf (h4'.2.1.frS hl60 hf2 (by intro i _; simp)) hok (hkey k)
            have e3 : zrm (nI (x + k)) (nI 65536) = nI ((x + k) % 65536) := nIrem (by omega) (by omega) (by omega)
            have hb1 := zshr1 (n := zhs (zA_law A) ((x + k) % 65536)) (i := i) (by have := hhx k; omega) (by omega)
            by_cases h0 : w = 0
            · subst h0
              refine ⟨M3, ?_, hf2.trans e2⟩
              unfold b_X10_bits_35 j_X10_bits_89
              have ev : zbv (zA_law A) x 0 k = zhs (zA_law A) ((x + k) % 65536) := by simp [zbv]
              simp (disch := omega) only [ifLe_f, zbd, e3, e1, Option.bind_some, zpr, ifLe0_t, hb1, nIadd, zbc, ev]
            · obtain ⟨M4, e4, e5⟩ := mHashOf (h4'.2.1.frS hl60 (hf2.trans e2) (by intro i _; simp)) hok (hxor k)
              have hb2 := zshr1 (n := zhs (zA_law A) ((x + k) % 65536 ^^^ 2 ^ (w - 1))) (i := i) (by have := hhy k; omega) (by omega)
              refine ⟨M4, ?_, (hf2.trans e2).trans e5⟩
              unfold b_X10_bits_35 j_X10_bits_89
              have ev : zbv (zA_law A) x w k = zhs (zA_law A) ((x + k) % 65536) ^^^ zhs (zA_law A) ((x + k) % 65536 ^^^ 2 ^ (w - 1)) := by simp [zbv, h0]
              have e6 : nI 1 <<< ((nI w - nI 1) &&& 31) = nI (2 ^ (w - 1)) := by rw [nIsub (by omega), nIshl (by omega) (by omega), Nat.one_mul]
              simp (disch := omega) only [ifLe_f, zbd, e3, e1, Option.bind_some, zpr, ifLe0_f, e6, nx_xor, e4, hb1, hb2, nIadd, zbc, ev, zxb]
          · refine ⟨_, ?_, M2, rfl, hf2⟩
            unfold b_X10_bits_35
            simp (disch := omega) only [ifLe_t]
      · exact ⟨(-1 : Int32), ⟨M, by simp [ha, hb, hc], zFr.refl M⟩, fun M1 hf => ⟨M1, by simp [ha, hb, hc], zFr.refl M1⟩⟩
    · exact ⟨(-1 : Int32), ⟨M, by simp [ha, hb], zFr.refl M⟩, fun M1 hf => ⟨M1, by simp [ha, hb], zFr.refl M1⟩⟩
  · exact ⟨(-1 : Int32), ⟨M, by simp [ha], zFr.refl M⟩, fun M1 hf => ⟨M1, by simp [ha], zFr.refl M1⟩⟩
