/-! ===== bits in reverse, and what the law's signs do ===== -/
theorem bt_nI {m i : Nat} (hm : m < 2 ^ 32) (hi : i < 32) : bt (nI m) i = m.testBit i := by
  show (BitVec.ofNat 32 m).getLsbD i = _
  rw [BitVec.getLsbD_ofNat]
  simp [hi]
theorem nx_or (a b : Nat) : nI a ||| nI b = nI (a ||| b) := by
  apply Int32.toBitVec_inj.mp
  show BitVec.ofNat 32 a ||| BitVec.ofNat 32 b = BitVec.ofNat 32 (a ||| b)
  apply BitVec.eq_of_getLsbD_eq
  intro i hi
  simp [BitVec.getLsbD_or, BitVec.getLsbD_ofNat, hi]
/-- w's low n bits in reverse -/
def zrv (w : Nat) : Nat → Nat
  | 0 => 0
  | n + 1 => 2 * zrv w n + w / 2 ^ n % 2
theorem zrv_lt (w : Nat) : ∀ n, zrv w n < 2 ^ n
  | 0 => Nat.one_pos
  | n + 1 => by
    have := zrv_lt w n
    unfold zrv
    have h2 : w / 2 ^ n % 2 < 2 := Nat.mod_lt _ (by decide)
    rw [Nat.pow_succ]
    omega
theorem zrv_bit (w : Nat) : ∀ n i, i < n → (zrv w n).testBit i = w.testBit (n - 1 - i) := by
  intro n
  induction n with
  | zero => intro i h; omega
  | succ n ih =>
    intro i hi
    unfold zrv
    have h2 : w / 2 ^ n % 2 < 2 := Nat.mod_lt _ (by decide)
    cases i with
    | zero =>
      rw [Nat.testBit_zero, show n + 1 - 1 - 0 = n by omega, Nat.testBit_eq_decide_div_mod_eq]
      congr 1
      simp only [eq_iff_iff]
      omega
    | succ i =>
      rw [Nat.testBit_succ, show (2 * zrv w n + w / 2 ^ n % 2) / 2 = zrv w n by omega, ih i (by omega)]
      congr 1
      omega
theorem tb_hi {w i : Nat} (h : w < 65536) (hi : 16 ≤ i) : w.testBit i = false := Nat.testBit_lt_two_pow (Nat.lt_of_lt_of_le h (show 2 ^ 16 ≤ 2 ^ i from Nat.pow_le_pow_right (by decide) hi))
def zrev (w : Nat) : Nat := zrv w 16
theorem zrev_lt (w : Nat) : zrev w < 65536 := zrv_lt w 16
theorem zrev_bit (w : Nat) {i : Nat} (hi : i < 16) : (zrev w).testBit i = w.testBit (15 - i) := by
  unfold zrev
  rw [zrv_bit w 16 i hi]
theorem zrev_hi (w : Nat) {i : Nat} (hi : 16 ≤ i) : (zrev w).testBit i = false :=
  tb_hi (zrev_lt w) hi
theorem zrev_zrev {w : Nat} (h : w < 65536) : zrev (zrev w) = w := by
  apply Nat.eq_of_testBit_eq
  intro i
  by_cases hi : i < 16
  · rw [zrev_bit _ hi, zrev_bit _ (by omega)]
    congr 1
    omega
  · rw [zrev_hi _ (by omega), tb_hi h (by omega)]
theorem modRev (w : Nat) (hw : w < 65536) : f_X10_reversed (nI w) = some (nI (zrev w)) := by
  unfold f_X10_reversed j_X10_reversed_4
  refine zlp_for (fun i => (nI (zrv w i), nI i)) 16 _ (fun i hi => ?_) ?_ 0 (by omega)
  · unfold b_X10_reversed_4
    have h1 : (nI w >>> (nI i &&& 31)) &&& nI 1 = nI (w / 2 ^ i % 2) := by
      rw [pk_shrN (by omega) _ i (s_l i (by omega))]
      exact pk_andN (k := 1) (Nat.lt_of_le_of_lt (Nat.div_le_self _ _) (by omega)) (by decide)
    simp (disch := omega) only [ifLe_f, h1, nIadd, nImul, zbd, zrv]
  · unfold b_X10_reversed_4
    simp (disch := omega) only [ifLe_t]
    rfl
set_option maxHeartbeats 4000000 in
theorem clsRev (w : Nat) (hw : w < 65536) : f_X9_reversed (nI w) = nI (zrev w) := by
  apply b_ext
  intro i hi
  rw [bt_nI (Nat.lt_trans (zrev_lt w) (by decide)) hi]
  have hb : ∀ j, j < 32 → bt (nI w) j = w.testBit j := fun j hj => bt_nI (by omega) hj
  have hw0 : ∀ j, 16 ≤ j → w.testBit j = false := fun j hj => tb_hi hw hj
  unfold f_X9_reversed zbd
  rcases (show i = 0 ∨ i = 1 ∨ i = 2 ∨ i = 3 ∨ i = 4 ∨ i = 5 ∨ i = 6 ∨ i = 7 ∨ i = 8 ∨ i = 9 ∨ i = 10 ∨ i = 11 ∨ i = 12 ∨ i = 13 ∨ i = 14 ∨ i = 15 ∨ 16 ≤ i by omega) with h | h | h | h | h | h | h | h | h | h | h | h | h | h | h | h | h
  all_goals first
    | (subst h
       rw [zrev_bit _ (by decide)]
       simp (disch := decide) only [b_or, b_and, b_shl, b_sshr, bt_nI, hb]
       simp [Nat.testBit, hw0])
    | skip
  have h255 : ∀ j, 8 ≤ j → j < 32 → bt (nI 255) j = false := fun j h8 h32 => by
    rw [bt_nI (by decide) h32]
    exact Nat.testBit_lt_two_pow (Nat.lt_of_lt_of_le (by decide) (show 2 ^ 8 ≤ 2 ^ j from Nat.pow_le_pow_right (by decide) h8))
  rw [zrev_hi _ h, b_or, b_shl 8 (by decide) _ hi, b_and, b_and, h255 (i - 8) (by omega) (by omega), h255 i (by omega) hi]
  simp
/-- bits turned: 65535 less -/
theorem clsTurn (w : Nat) (hw : w < 65536) : (nI w ^^^ (-1 : Int32)) &&& nI 65535 = nI (65535 - w) := by
  apply b_ext
  intro i hi
  rw [b_and, b_xor, b_m1 i hi, bt_nI (by omega) hi, bt_nI (by decide) hi, bt_nI (by omega) hi]
  by_cases h16 : i < 16
  · have h1 : (65535 - w).testBit i = !w.testBit i := by
      have := Nat.testBit_two_pow_sub_succ (x := w) (n := 16) (by omega) i
      rw [show 2 ^ 16 - (w + 1) = 65535 - w by omega] at this
      rw [this]
      simp [h16]
    have h2 : (65535 : Nat).testBit i = true := by
      rw [show (65535 : Nat) = 2 ^ 16 - 1 by decide, Nat.testBit_two_pow_sub_one]
      simp [h16]
    rw [h1, h2]
    simp
  · rw [tb_hi (w := 65535 - w) (by omega) (by omega), tb_hi (w := 65535) (by decide) (by omega)]
    simp
