/-! ===== where a key would be ===== -/
def zsj (n b : Nat) : Nat := if b < 2 * n then 0 else if b < 4 * n then 1 else if b < 8 * n then 2 else if b < 16 * n then 3 else if b < 32 * n then 4 else if b < 64 * n then 5 else 6
def zspn (n b : Nat) : Nat := n * 2 ^ zsj n b
theorem zsj_ok {n b : Nat} (h1 : 1 ≤ n) (h2 : n ≤ b) (h3 : b ≤ 64) : zsj n b ≤ 6 ∧ (∀ j, j < zsj n b → n * 2 ^ (j + 1) ≤ b) ∧ b < n * 2 ^ (zsj n b + 1) := by
  have key : ∀ j, j ≤ 6 → (∀ i, i < j → n * 2 ^ (i + 1) ≤ b) → b < n * 2 ^ (j + 1) → zsj n b = j → zsj n b ≤ 6 ∧ (∀ j, j < zsj n b → n * 2 ^ (j + 1) ≤ b) ∧ b < n * 2 ^ (zsj n b + 1) := by
    intro j a1 a2 a3 a4
    rw [a4]
    exact ⟨a1, a2, a3⟩
  have mono : ∀ i j, i ≤ j → n * 2 ^ j ≤ b → n * 2 ^ i ≤ b := fun i j hij h => Nat.le_trans (Nat.mul_le_mul_left n (Nat.pow_le_pow_right (by decide) hij)) h
  by_cases c0 : b < 2 * n
  · exact key 0 (by omega) (fun i hi => by omega) (by simp; omega) (by simp [zsj, c0])
  by_cases c1 : b < 4 * n
  · exact key 1 (by omega) (fun i hi => mono _ 1 (by omega) (by simp; omega)) (by simp; omega) (by simp [zsj, c0, c1])
  by_cases c2 : b < 8 * n
  · exact key 2 (by omega) (fun i hi => mono _ 2 (by omega) (by simp; omega)) (by simp; omega) (by simp [zsj, c0, c1, c2])
  by_cases c3 : b < 16 * n
  · exact key 3 (by omega) (fun i hi => mono _ 3 (by omega) (by simp; omega)) (by simp; omega) (by simp [zsj, c0, c1, c2, c3])
  by_cases c4 : b < 32 * n
  · exact key 4 (by omega) (fun i hi => mono _ 4 (by omega) (by simp; omega)) (by simp; omega) (by simp [zsj, c0, c1, c2, c3, c4])
  by_cases c5 : b < 64 * n
  · exact key 5 (by omega) (fun i hi => mono _ 5 (by omega) (by simp; omega)) (by simp; omega) (by simp [zsj, c0, c1, c2, c3, c4, c5])
  · exact key 6 (by omega) (fun i hi => mono _ 6 (by omega) (by simp; omega)) (by simp; omega) (by simp [zsj, c0, c1, c2, c3, c4, c5])
theorem zspn_le {n b : Nat} (h1 : 1 ≤ n) (h2 : n ≤ b) (h3 : b ≤ 64) : zspn n b ≤ b ∧ 1 ≤ zspn n b := by
  obtain ⟨a, c, d⟩ := zsj_ok h1 h2 h3
  have hp : 1 ≤ 2 ^ zsj n b := Nat.one_le_two_pow
  refine ⟨?_, ?_⟩
  · unfold zspn
    cases hz : zsj n b with
    | zero => simpa using h2
    | succ j => exact c j (by omega)
  · unfold zspn
    calc 1 = 1 * 1 := rfl
      _ ≤ n * 2 ^ zsj n b := Nat.mul_le_mul h1 hp
theorem cSpanAmong {o n b : Nat} {M : zzMem} (hn : M.1 o 4 = nI n) (h1 : 1 ≤ n) (h2 : n ≤ b) (h3 : b ≤ 64) : f_X2_spanAmong o (nI b) M = some (nI (zspn n b)) := by
  obtain ⟨a, c, d⟩ := zsj_ok h1 h2 h3
  unfold f_X2_spanAmong j_X2_spanAmong_7
  simp only [zbd, hn]
  have := zlp_for (B := fun s : (Int32 × Int32) => b_X2_spanAmong_7 o (nI b) s.1 s.2 M) (fun j => (nI (n * 2 ^ j), nI j)) (zsj n b) (nI (zspn n b)) (fun j hj => ?_) ?_ 0 (by omega)
  · simpa using this
  · have e := c j hj
    have e2 : n * 2 ^ j * 2 = n * 2 ^ (j + 1) := by rw [Nat.pow_succ, Nat.mul_assoc]
    unfold b_X2_spanAmong_7
    simp (disch := omega) only [ifLe_f, nImul, e2, ifLt_f, zbd, nIadd]
  · have e2 : n * 2 ^ zsj n b * 2 = n * 2 ^ (zsj n b + 1) := by rw [Nat.pow_succ, Nat.mul_assoc]
    have hle := (zspn_le h1 h2 h3).1
    unfold zspn at hle
    unfold b_X2_spanAmong_7
    simp (disch := omega) only [ifLe_f, nImul, e2, ifLt_t]
    rfl
theorem cAddr {h s p : Nat} (hh : h < 65536) (h1 : 1 ≤ s) (h2 : s ≤ 64) (hp : p < 2147483648) : f_X2_address (nI h) (nI s) (nI p) = some (nI (zadr s p h)) := by
  unfold f_X2_address zadr
  have hm := Nat.mod_lt h (show s > 0 by omega)
  simp (disch := omega) only [ifLe_t, nIrem, nImul, zbd]
  rw [zgd_t (nI_ne0 (by omega) (by omega))]
  by_cases hc : h % s < p
  · rw [if_pos hc]
    simp (disch := omega) only [ifLe_f]
    rw [zgd_t (nI_ne0 (by omega) (by omega))]
  · rw [if_neg hc]
    simp (disch := omega) only [ifLe_t]
theorem zadr_lt {s p h : Nat} (hs : 1 ≤ s) : zadr s p h < 2 * s := by
  unfold zadr
  split
  · exact Nat.mod_lt _ (by omega)
  · have := Nat.mod_lt h (show s > 0 by omega); omega
/-- the address among b buckets -/
def zwh (n b h : Nat) : Nat := zadr (zspn n b) (b - zspn n b) h
theorem cAddrAmong {o n b h : Nat} {M : zzMem} (hn : M.1 o 4 = nI n) (h1 : 1 ≤ n) (h2 : n ≤ b) (h3 : b ≤ 64) (hh : h < 65536) : f_X2_addressAmong o (nI h) (nI b) M = some (nI (zwh n b h)) := by
  obtain ⟨e1, e2⟩ := zspn_le h1 h2 h3
  unfold f_X2_addressAmong
  rw [cSpanAmong hn h1 h2 h3]
  simp (disch := omega) only [Option.bind_some, nIsub, cAddr]
  rfl
theorem mHashOf {M : zzMem} {k : Nat} {law : List (Nat × Nat)} (hl : zLm M 0 law) (hok : zLok law) (hk : k < 65536) : ∃ M', f_X10_hashOf (nI k) M = some (nI (zhs law k), M') ∧ zFr (fun a _ => a = 78) M M' := by
  obtain ⟨M', e1, e2⟩ := mHash (sl := 0) (by omega) hl hok hk
  exact ⟨M', by unfold f_X10_hashOf; rw [e1]; rfl, e2⟩
theorem mWhereIn {M : zzMem} {n b k : Nat} {law : List (Nat × Nat)} (hn : M.1 74 0 = nI n) (h1 : 1 ≤ n) (h2 : n ≤ b) (h3 : b ≤ 64) (hl : zLm M 0 law) (hok : zLok law) (hk : k < 65536) : ∃ M', f_X10_whereIn (nI k) (nI b) M = some (nI (zwh n b (zhs law k)), M') ∧ zFr (fun a _ => a = 78) M M' := by
  obtain ⟨a, c, d⟩ := zsj_ok h1 h2 h3
  obtain ⟨e1, e2⟩ := zspn_le h1 h2 h3
  obtain ⟨M', g1, g2⟩ := mHashOf hl hok hk
  have hh := zhs_lt hk hok.1
  refine ⟨M', ?_, g2⟩
  unfold f_X10_whereIn j_X10_whereIn_7
  simp only [zbd, hn]
  have := zlp_for (B := fun s : Int32 => b_X10_whereIn_7 (nI k) (nI b) s M) (fun j => nI (n * 2 ^ j)) (zsj n b) (nI (zwh n b (zhs law k)), M') (fun j hj => ?_) ?_ 0 (by omega)
  · simpa using this
  · have e := c j hj
    have e2 : 2 * (n * 2 ^ j) = n * 2 ^ (j + 1) := by rw [Nat.pow_succ, Nat.mul_comm 2, Nat.mul_assoc]
    unfold b_X10_whereIn_7
    simp (disch := omega) only [nImul, e2, ifLt_f, zbd]
  · have e3 : 2 * (n * 2 ^ zsj n b) = n * 2 ^ (zsj n b + 1) := by rw [Nat.pow_succ, Nat.mul_comm 2, Nat.mul_assoc]
    unfold b_X10_whereIn_7
    have hz : n * 2 ^ zsj n b = zspn n b := rfl
    rw [← e3] at d
    simp only [hz] at d ⊢
    have hm := Nat.mod_lt (zhs law k) (show zspn n b > 0 by omega)
    simp (disch := omega) only [nImul, ifLt_t, g1, Option.bind_some, zpr, nIsub, nIrem]
    rw [zgd_t (nI_ne0 (by omega) (by omega))]
    unfold zwh zadr
    by_cases hc : zhs law k % zspn n b < b - zspn n b
    · rw [if_pos hc]
      simp (disch := omega) only [ifLe_f]
      rw [zgd_t (nI_ne0 (by omega) (by omega))]
    · rw [if_neg hc]
      simp (disch := omega) only [ifLe_t]
theorem zScr15 : ∀ k i : Nat, k = 15 → zScr k i := fun k i h => Or.inl h
theorem zScr78 : ∀ k i : Nat, k = 78 → zScr k i := fun k i h => by unfold zScr; omega
theorem op_where (N : Nat) (a b : Int32) : zSame N (f_X9_where a b) (f_X10_where a b) := by
  refine zSame.ss (fun hN tp A M h1 h2 h3 h4 h5 => ?_)
  have hn : 1 ≤ zA_n A ∧ zA_n A ≤ 4 := ⟨h2.1.1, h2.1.2.1⟩
  have hok : zLok (zA_law A) := h2.1.2.2.2.2.2.2.2.2.2.2.2
  unfold f_X9_where f_X10_where
  rw [isKey_eq]
  rcases keyC a with ⟨ha, k, hk, rfl⟩ | ha
  · simp only [ha, if_true]
    have hc4 : M.1 12 4 = nI (zA_n A) := h3.1.1
    unfold f_X9_isAmount f_X10_isMany
    rw [hc4, in_eq]
    rcases inC b (zA_n A) 64 (by decide) (by omega) with ⟨hb, x, hx1, hx2, rfl⟩ | hb
    · obtain ⟨M1, e1, e2⟩ := cHash (o := 13) h3.2.1 hok hk
      refine ⟨nI (zwh (zA_n A) x (zhs (zA_law A) k)), ⟨M1, ?_, e2.weak zScr15⟩, fun M1 hf => ?_⟩
      · have hc4' : M1.1 12 4 = nI (zA_n A) := by rw [(e2 12 4 (by simp)).1]; exact hc4
        simp only [hb, if_true, e1, Option.bind_some, zpr, cAddrAmong hc4' hn.1 hx1 hx2 (zhs_lt hk hok.1)]
      · have h4' := h4.fr (Or.inl rfl) h2 hf
        have hm0 : M1.1 74 0 = nI (zA_n A) := by have := h4'.1.1; simpa using this
        obtain ⟨M2, g1, g2⟩ := mWhereIn hm0 hn.1 hx1 hx2 h4'.2.1 hok hk
        exact ⟨M2, by simp only [Option.bind_some, hm0, hb, if_true, g1, zpr], g2.weak zScr78⟩
    · refine ⟨(-1 : Int32), ⟨M, by simp [hb], zFr.refl M⟩, fun M1 hf => ?_⟩
      have h4' := h4.fr (Or.inl rfl) h2 hf
      have hm0 : M1.1 74 0 = nI (zA_n A) := by have := h4'.1.1; simpa using this
      exact ⟨M1, by simp [hm0, hb], zFr.refl M1⟩
  · refine ⟨(-1 : Int32), ⟨M, by simp [ha], zFr.refl M⟩, fun M1 hf => ⟨M1, by simp [ha], zFr.refl M1⟩⟩
