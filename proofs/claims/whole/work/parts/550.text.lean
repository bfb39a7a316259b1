/-! ===== texts: signs and numbers ===== -/
def zsn (tp : List Nat) (n a : Nat) : Int32 := if a < n then nI (tp.getD a 0) else (-1 : Int32)
def zdig (tp : List Nat) (n a : Nat) : Bool := decide (a < n) && (decide (48 ≤ tp.getD a 0) && decide (tp.getD a 0 ≤ 57))
/-- how many digits stand from a on, f of them at most -/
def zdc (tp : List Nat) (n : Nat) : Nat → Nat → Nat
  | _, 0 => 0
  | a, f + 1 => if zdig tp n a = true then zdc tp n (a + 1) f + 1 else 0
def zvp (tp : List Nat) (a : Nat) : Nat → Nat
  | 0 => 0
  | k + 1 => zvp tp a k * 10 + tp.getD (a + k) 0 - 48
def zfc (k p : Nat) : Int32 := (-1000 : Int32) * nI k - nI p
/-- a number: its fault, or its value and the place behind it -/
def znm (tp : List Nat) (n lo hi a : Nat) : Int32 ⊕ (Nat × Nat) :=
  if zdc tp n a 6 = 0 then .inl (zfc 1 a) else if zdc tp n a 6 = 6 then .inl (zfc 2 (a + 5)) else if lo ≤ zvp tp a (zdc tp n a 6) ∧ zvp tp a (zdc tp n a 6) ≤ hi then .inr (zvp tp a (zdc tp n a 6), a + zdc tp n a 6) else .inl (zfc 3 a)
theorem zdc_ok (tp : List Nat) (n : Nat) : ∀ f a, zdc tp n a f ≤ f ∧ (∀ j, j < zdc tp n a f → zdig tp n (a + j) = true) ∧ (zdc tp n a f < f → zdig tp n (a + zdc tp n a f) = false)
  | 0, a => ⟨Nat.le_refl _, fun j hj => by simp [zdc] at hj, fun h => by simp [zdc] at h⟩
  | f + 1, a => by
    obtain ⟨h1, h2, h3⟩ := zdc_ok tp n f (a + 1)
    unfold zdc
    by_cases hd : zdig tp n a = true
    · rw [if_pos hd]
      refine ⟨by omega, fun j hj => ?_, fun h => ?_⟩
      · cases j with
        | zero => exact hd
        | succ j => rw [show a + (j + 1) = a + 1 + j by omega]; exact h2 j (by omega)
      · rw [show a + (zdc tp n (a + 1) f + 1) = a + 1 + zdc tp n (a + 1) f by omega]; exact h3 (by omega)
    · rw [if_neg hd]
      exact ⟨by omega, fun j hj => by omega, fun _ => by simpa using hd⟩
theorem zdig_t {tp : List Nat} {n a : Nat} (h : zdig tp n a = true) : a < n ∧ 48 ≤ tp.getD a 0 ∧ tp.getD a 0 ≤ 57 := by
  unfold zdig at h
  simp only [Bool.and_eq_true, decide_eq_true_eq] at h
  exact ⟨h.1, h.2.1, h.2.2⟩
theorem zvp_lt {tp : List Nat} {n a : Nat} : ∀ k, (∀ j, j < k → zdig tp n (a + j) = true) → zvp tp a k < 10 ^ k
  | 0, _ => by show 0 < 10 ^ 0; decide
  | k + 1, h => by
    have h1 := zvp_lt k (fun j hj => h j (by omega))
    have h2 := zdig_t (h k (by omega))
    rw [zvp, Nat.pow_succ]
    omega
theorem zfc_neg {k p : Nat} (h1 : 1 ≤ k) (h5 : k ≤ 5) : zfc k p = nI 0 - nI (1000 * k + p) := by
  have h : (-1000 : Int32) * nI k = nI 0 - nI (1000 * k) := by
    rcases (show k = 1 ∨ k = 2 ∨ k = 3 ∨ k = 4 ∨ k = 5 by omega) with rfl | rfl | rfl | rfl | rfl <;> decide
  unfold zfc
  rw [h, Int32.sub_sub, nIadd]
theorem zfc_ne {k p : Nat} (h1 : 1 ≤ k) (h5 : k ≤ 5) (hp : p ≤ 1000) : zfc k p ≠ 0 := by
  rw [zfc_neg h1 h5]
  have h := pk_sneg (a := 0) (b := 1000 * k + p) (by omega) (by omega)
  intro he
  rw [he] at h
  exact absurd h (by decide)
theorem zdc_le {tp : List Nat} {n a : Nat} (f : Nat) : a + zdc tp n a f ≤ max a n := by
  obtain ⟨h1, h2, h3⟩ := zdc_ok tp n f a
  rcases Nat.eq_zero_or_pos (zdc tp n a f) with h0 | h0
  · rw [h0]; omega
  · have := (zdig_t (h2 (zdc tp n a f - 1) (by omega))).1
    omega
theorem znm_l {tp : List Nat} {n lo hi a : Nat} {g : Int32} (ha : a ≤ 900) (h : znm tp n lo hi a = .inl g) : g ≠ 0 := by
  unfold znm at h
  split at h
  · rw [← Sum.inl.inj h]; exact zfc_ne (by omega) (by omega) (by omega)
  · split at h
    · rw [← Sum.inl.inj h]; exact zfc_ne (by omega) (by omega) (by omega)
    · split at h
      · cases h
      · rw [← Sum.inl.inj h]; exact zfc_ne (by omega) (by omega) (by omega)
theorem znm_r {tp : List Nat} {n lo hi a v b : Nat} (h : znm tp n lo hi a = .inr (v, b)) : lo ≤ v ∧ v ≤ hi ∧ a < b ∧ b ≤ n ∧ b = a + zdc tp n a 6 := by
  unfold znm at h
  have hle := zdc_le (tp := tp) (n := n) (a := a) 6
  obtain ⟨h1, h2, h3⟩ := zdc_ok tp n 6 a
  split at h
  · cases h
  · rename_i h0
    split at h
    · cases h
    · split at h
      · rename_i hb
        cases h
        have := (zdig_t (h2 0 (by omega))).1
        exact ⟨hb.1, hb.2, by omega, by omega, rfl⟩
      · cases h
section TX
variable {M : zzMem} {tp : List Nat} {n a : Nat}
/-- the class's reader -/
def zTS (M : zzMem) (tp : List Nat) (n a : Nat) (f : Int32) : Prop := M.1 1 2 = f ∧ M.1 1 3 = nI n ∧ M.1 1 4 = nI a ∧ ∀ i x, tp[i]? = some x → M.1 2 i = nI x
theorem zTS.frS {M' : zzMem} {S : Nat → Nat → Prop} {f : Int32} (hf : zFr S M M') (h1 : ∀ i, ¬ S 1 i) (h2 : ∀ i, ¬ S 2 i) (h : zTS M tp n a f) : zTS M' tp n a f :=
  ⟨by rw [(hf _ _ (h1 2)).1]; exact h.1, by rw [(hf _ _ (h1 3)).1]; exact h.2.1, by rw [(hf _ _ (h1 4)).1]; exact h.2.2.1, fun i x hx => by rw [(hf _ _ (h2 i)).1]; exact h.2.2.2 i x hx⟩
theorem ztp_get (hn : n ≤ tp.length) (ha : a < n) : tp[a]? = some (tp.getD a 0) := by
  rw [List.getD_eq_getElem?_getD, List.getElem?_eq_getElem (show a < tp.length by omega)]; rfl
theorem cSgn {f : Int32} (hT : zTS M tp n a f) (hn : n ≤ tp.length) (hl : tp.length ≤ 320) (ha : a ≤ 1000) : f_X8_sign M = some (zsn tp n a) := by
  obtain ⟨t1, t2, t3, t4⟩ := hT
  unfold f_X8_sign zsn
  rw [t2, t3]
  by_cases h : a < n
  · have hv := t4 a _ (ztp_get hn h)
    rw [ifLe_f h (by omega), ifLe_f (by omega) (by omega), if_pos h]
    simp (disch := omega) only [zgd_in, nIc, hv]
  · rw [ifLe_t (by omega) (by omega), if_neg h]
theorem zsn_dig (htx : ∀ x ∈ tp, x < 256) (hn : n ≤ tp.length) : f_X9_within (zsn tp n a) (nI 48) (nI 57) = zdig tp n a := by
  unfold zsn zdig
  by_cases h : a < n
  · have hx := htx _ (List.mem_of_getElem? (ztp_get hn h))
    rw [if_pos h, in_nI (by omega) (by omega) (by omega), decide_eq_true h, Bool.true_and, Bool.decide_and]
  · rw [if_neg h, decide_eq_false h, Bool.false_and]; decide
theorem cIsDig {f : Int32} (hT : zTS M tp n a f) (htx : ∀ x ∈ tp, x < 256) (hn : n ≤ tp.length) (hl : tp.length ≤ 320) (ha : a ≤ 1000) : f_X8_isAtDigit M = some (zdig tp n a) := by
  unfold f_X8_isAtDigit
  rw [cSgn hT hn hl ha, Option.bind_some, zsn_dig htx hn]
/-- a fault, if there is none yet -/
def zff (f g : Int32) : Int32 := if f = 0 then g else f
theorem cFail {f : Int32} {k p : Nat} (hT : zTS M tp n a f) : zTS (f_X8_fail (nI k) (nI p) M) tp n a (zff f (zfc k p)) ∧ zFr (fun a i => a = 1 ∧ i = 2) M (f_X8_fail (nI k) (nI p) M) := by
  obtain ⟨t1, t2, t3, t4⟩ := id hT
  unfold f_X8_fail zff
  rw [t1]
  by_cases hf : f = 0
  · rw [if_pos hf, if_pos hf]
    simp only [zbd]
    refine ⟨⟨rd_eq, by rw [rd_ne (by omega)]; exact t2, by rw [rd_ne (by omega)]; exact t3, fun i x hx => by rw [rd_ne (by omega)]; exact t4 i x hx⟩, zFr.si ⟨rfl, rfl⟩⟩
  · rw [if_neg hf, if_neg hf]
    exact ⟨hT, zFr.refl M⟩
theorem cFailH {f : Int32} {k : Nat} (hT : zTS M tp n a f) : zTS (f_X8_failHere (nI k) M) tp n a (zff f (zfc k a)) ∧ zFr (fun a i => a = 1 ∧ i = 2) M (f_X8_failHere (nI k) M) := by
  unfold f_X8_failHere
  simp only [zbd]
  rw [hT.2.2.1]
  exact cFail hT
theorem cPass {f : Int32} (hT : zTS M tp n a f) : zTS (f_X8_pass M) tp n (a + 1) f ∧ zFr (fun a i => a = 1 ∧ i = 4) M (f_X8_pass M) := by
  obtain ⟨t1, t2, t3, t4⟩ := id hT
  unfold f_X8_pass
  simp only [zbd]
  rw [t3, nIadd]
  exact ⟨⟨by rw [rd_ne (by omega)]; exact t1, by rw [rd_ne (by omega)]; exact t2, rd_eq, fun i x hx => by rw [rd_ne (by omega)]; exact t4 i x hx⟩, zFr.si ⟨rfl, rfl⟩⟩
def zgl (r : Int32 ⊕ (Nat × Nat)) : Int32 := match r with
  | .inl g => g
  | .inr _ => 0
theorem cNumber {f : Int32} {lo hi : Nat} (hT : zTS M tp n a f) (htx : ∀ x ∈ tp, x < 256) (hn : n ≤ tp.length) (hl : tp.length ≤ 320) (ha : a ≤ 900) (hlo : lo < 2147483648) (hhi : hi < 2147483648) : ∃ r M' a', f_X8_number (nI lo) (nI hi) M = some (r, M') ∧ zTS M' tp n a' (zff f (zgl (znm tp n lo hi a))) ∧ a ≤ a' ∧ a' ≤ a + 5 ∧ zFr (fun k i => k = 1 ∧ 2 ≤ i) M M' ∧ ∀ v b, znm tp n lo hi a = .inr (v, b) → r = nI v ∧ a' = b := by
  obtain ⟨d1, d2, d3⟩ := zdc_ok tp n 6 a
  generalize hk : zdc tp n a 6 = k at d1 d2 d3
  have hvl : ∀ j, j ≤ k → j ≤ 5 → zvp tp a j < 100000 := fun j h1 h2 => by
    have := zvp_lt (tp := tp) (n := n) (a := a) j (fun i hi => d2 i (by omega))
    have h3 : 10 ^ j ≤ 10 ^ 5 := Nat.pow_le_pow_right (by decide) h2
    omega
  have hZ := zlp_forI (B := fun s : (Int32 × Int32 × zzMem) => b_X8_number_11 (nI lo) (nI hi) (nI a) s.1 s.2.1 s.2.2) (fun j X => (nI (zvp tp a j), nI j, X)) (fun j X => zTS X tp n (a + j) f ∧ zFr (fun k i => k = 1 ∧ 2 ≤ i) M X) (min k 5) (fun r => ∃ a', zTS r.2 tp n a' (zff f (zgl (znm tp n lo hi a))) ∧ a ≤ a' ∧ a' ≤ a + 5 ∧ zFr (fun k i => k = 1 ∧ 2 ≤ i) M r.2 ∧ ∀ v b, znm tp n lo hi a = .inr (v, b) → r.1 = nI v ∧ a' = b) (fun j hj X hX => ?_) (fun X hX => ?_) 0 (by omega) M ⟨hT, zFr.refl M⟩
  · obtain ⟨r, r1, a', r2⟩ := hZ
    refine ⟨r.1, r.2, a', ?_, r2⟩
    unfold f_X8_number j_X8_number_11
    simp only [zbd]
    rw [hT.2.2.1]
    exact r1
  · obtain ⟨x1, x2⟩ := hX
    have hd := d2 j (by omega)
    obtain ⟨e1, e2, e3⟩ := zdig_t hd
    obtain ⟨p1, p2⟩ := cPass x1
    have hv := hvl j (by omega) (by omega)
    refine ⟨f_X8_pass X, ?_, p1, x2.trans (p2.weak (fun k i h => by omega))⟩
    show b_X8_number_11 (nI lo) (nI hi) (nI a) (nI (zvp tp a j)) (nI j) X = _
    unfold b_X8_number_11
    rw [ifLt_f (by omega) (by omega), cIsDig x1 htx hn hl (by omega), Option.bind_some, hd, if_pos rfl, ifEq_f (by omega) (by omega) (by omega), cSgn x1 hn hl (by omega), Option.bind_some]
    simp only [zbd, nIadd]
    unfold zsn
    rw [if_pos e1, nImul, nIadd, nIsub (by omega)]
    rfl
  · obtain ⟨x1, x2⟩ := hX
    show ∃ r, b_X8_number_11 (nI lo) (nI hi) (nI a) (nI (zvp tp a (min k 5))) (nI (min k 5)) X = _ ∧ _
    unfold b_X8_number_11
    rw [ifLt_f (by omega) (by omega), cIsDig x1 htx hn hl (by omega), Option.bind_some]
    by_cases h6 : k = 6
    · have hm : min k 5 = 5 := by omega
      rw [hm] at x1 ⊢
      have hd := d2 5 (by omega)
      have hz : znm tp n lo hi a = .inl (zfc 2 (a + 5)) := by
        unfold znm; rw [hk, if_neg (by omega), if_pos h6]
      obtain ⟨q1, q2⟩ := cFailH (k := 2) x1
      rw [hd, if_pos rfl, ifEq_t rfl]
      simp only [zbd]
      refine ⟨_, rfl, a + 5, ?_, by omega, by omega, x2.trans (q2.weak (fun k i h => by omega)), fun v b hh => by rw [hz] at hh; cases hh⟩
      rw [hz]; exact q1
    · have hm : min k 5 = k := by omega
      rw [hm] at x1 ⊢
      have hd := d3 (by omega)
      rw [hd, if_neg (by decide)]
      have hv := hvl k (by omega) (by omega)
      unfold j_X8_number_62
      rw [x1.2.2.1]
      simp only [zbd]
      by_cases h0 : k = 0
      · have hz : znm tp n lo hi a = .inl (zfc 1 a) := by unfold znm; rw [hk, if_pos h0]
        obtain ⟨q1, q2⟩ := cFailH (k := 1) x1
        rw [ifEq_t (by omega)]
        refine ⟨_, rfl, a, ?_, by omega, by omega, x2.trans (q2.weak (fun k i h => by omega)), fun v b hh => by rw [hz] at hh; cases hh⟩
        rw [hz]
        rw [h0, Nat.add_zero] at q1
        exact q1
      · rw [ifEq_f (by omega) (by omega) (by omega), in_nI (by omega) hhi hlo]
        by_cases hb : lo ≤ zvp tp a k ∧ zvp tp a k ≤ hi
        · have hz : znm tp n lo hi a = .inr (zvp tp a k, a + k) := by unfold znm; rw [hk, if_neg h0, if_neg h6, if_pos hb]
          rw [decide_eq_true hb, if_pos rfl]
          refine ⟨_, rfl, a + k, ?_, by omega, by omega, x2, fun v b hh => by rw [hz] at hh; cases hh; exact ⟨rfl, rfl⟩⟩
          have : zff f (zgl (znm tp n lo hi a)) = f := by
            rw [hz]; unfold zff zgl
            by_cases hf : f = 0
            · rw [if_pos hf, hf]
            · rw [if_neg hf]
          rw [this]; exact x1
        · have hz : znm tp n lo hi a = .inl (zfc 3 a) := by unfold znm; rw [hk, if_neg h0, if_neg h6, if_neg hb]
          obtain ⟨q1, q2⟩ := cFail (k := 3) (p := a) x1
          rw [decide_eq_false hb, if_neg (by decide)]
          refine ⟨_, rfl, a + k, ?_, by omega, by omega, x2.trans (q2.weak (fun k i h => by omega)), fun v b hh => by rw [hz] at hh; cases hh⟩
          rw [hz]; exact q1
/-- the reference's reader -/
def zMS (M : zzMem) (tp : List Nat) (n a : Nat) : Prop := M.1 73 7 = nI a ∧ M.1 73 8 = nI n ∧ ∀ i x, tp[i]? = some x → M.1 75 i &&& 255 = nI x
theorem zMS.frS {M' : zzMem} {S : Nat → Nat → Prop} (hf : zFr S M M') (h1 : ¬ S 73 7) (h2 : ¬ S 73 8) (h3 : ∀ i, ¬ S 75 i) (h : zMS M tp n a) : zMS M' tp n a :=
  ⟨by rw [(hf _ _ h1).1]; exact h.1, by rw [(hf _ _ h2).1]; exact h.2.1, fun i x hx => by rw [(hf _ _ (h3 i)).1]; exact h.2.2 i x hx⟩
theorem zMS.go {b : Nat} (h : zMS M tp n a) : zMS (zz_si M 73 7 (nI b)) tp n b :=
  ⟨rd_eq, by rw [rd_ne (by omega)]; exact h.2.1, fun i x hx => by rw [rd_ne (by omega)]; exact h.2.2 i x hx⟩
theorem mHere (hT : zMS M tp n a) (hn : n ≤ tp.length) (hl : tp.length ≤ 320) (ha : a ≤ 1000) : f_X10_here M = some (zsn tp n a) := by
  obtain ⟨t1, t2, t3⟩ := hT
  unfold f_X10_here zsn
  rw [t1, t2]
  by_cases h : a < n
  · have hv : M.1 75 a &&& nI 255 = nI (tp.getD a 0) := t3 a _ (ztp_get hn h)
    rw [ifLe_f h (by omega), if_pos h]
    simp (disch := omega) only [zgd_in, nIc, hv]
  · rw [ifLe_t (by omega) (by omega), if_neg h]
theorem mWrong {k : Int32} {p : Nat} : f_X10_wrongAt k (nI p) M = some (false, zz_si M 73 9 ((-1000 : Int32) * k - nI p)) := rfl
theorem mNumber {lo hi : Nat} (hT : zMS M tp n a) (htx : ∀ x ∈ tp, x < 256) (hn : n ≤ tp.length) (hl : tp.length ≤ 320) (ha : a ≤ 900) (hlo : lo < 2147483648) (hhi : hi < 2147483648) : ∃ b M', f_X10_readsNumber (nI lo) (nI hi) M = some (b, M') ∧ zFr (fun k i => k = 73 ∧ (i = 7 ∨ i = 9 ∨ i = 10)) M M' ∧ (∀ g, znm tp n lo hi a = .inl g → b = false ∧ M'.1 73 9 = g) ∧ ∀ v c, znm tp n lo hi a = .inr (v, c) → b = true ∧ zMS M' tp n c ∧ M'.1 73 10 = nI v := by
  obtain ⟨d1, d2, d3⟩ := zdc_ok tp n 6 a
  have hd0 := zdc_ok tp n 6 a
  generalize hk : zdc tp n a 6 = k at d1 d2 d3
  have hvl : ∀ j, j ≤ k → j ≤ 5 → zvp tp a j < 100000 := fun j h1 h2 => by
    have := zvp_lt (tp := tp) (n := n) (a := a) j (fun i hi => d2 i (by omega))
    have h3 : 10 ^ j ≤ 10 ^ 5 := Nat.pow_le_pow_right (by decide) h2
    omega
  unfold f_X10_readsNumber
  rw [hT.1]
  simp only [zbd]
  rw [mHere hT hn hl (by omega), Option.bind_some]
  unfold f_X10_isDigit
  rw [in_eq, zsn_dig htx hn]
  by_cases h0 : k = 0
  · have hz : znm tp n lo hi a = .inl (zfc 1 a) := by unfold znm; rw [hk, if_pos h0]
    have hd : zdig tp n a = false := by have := d3 (by omega); rw [h0] at this; exact this
    rw [hd, if_neg (by decide), mWrong]
    refine ⟨false, zz_si M 73 9 (zfc 1 a), rfl, zFr.si (by omega), fun g hg => ?_, fun v c hh => by rw [hz] at hh; cases hh⟩
    rw [hz] at hg
    have hg := Sum.inl.inj hg
    subst hg
    exact ⟨rfl, rd_eq⟩
  · have hd : zdig tp n a = true := by have := d2 0 (by omega); exact this
    rw [hd, if_pos rfl]
    unfold j_X10_readsNumber_30
    have hZ := zlp_forI (B := fun s : zzMem => b_X10_readsNumber_30 (nI lo) (nI hi) (nI a) s) (fun j X => X) (fun j X => zMS X tp n (a + j) ∧ X.1 73 10 = nI (zvp tp a j) ∧ zFr (fun k i => k = 73 ∧ (i = 7 ∨ i = 9 ∨ i = 10)) M X) (min k 5) (fun r => zFr (fun k i => k = 73 ∧ (i = 7 ∨ i = 9 ∨ i = 10)) M r.2 ∧ (∀ g, znm tp n lo hi a = .inl g → r.1 = false ∧ r.2.1 73 9 = g) ∧ ∀ v c, znm tp n lo hi a = .inr (v, c) → r.1 = true ∧ zMS r.2 tp n c ∧ r.2.1 73 10 = nI v) (fun j hj X hX => ?_) (fun X hX => ?_) 0 (by omega) (zz_si M 73 10 (nI 0)) ⟨hT.frS (S := fun k i => k = 73 ∧ i = 10) (zFr.si ⟨rfl, rfl⟩) (by omega) (by omega) (by intro i; omega), rd_eq, zFr.si (by omega)⟩
    · obtain ⟨r, r1, r2, r3, r4⟩ := hZ
      exact ⟨r.1, r.2, r1, r2, r3, r4⟩
    · obtain ⟨x1, x2, x3⟩ := hX
      have hdj := d2 j (by omega)
      obtain ⟨e1, e2, e3⟩ := zdig_t hdj
      have hv := hvl j (by omega) (by omega)
      have hs10 : zMS (zz_si X 73 10 (nI (zvp tp a (j + 1)))) tp n (a + j) := x1.frS (S := fun k i => k = 73 ∧ i = 10) (zFr.si ⟨rfl, rfl⟩) (by omega) (by omega) (by intro i; omega)
      refine ⟨zz_si (zz_si X 73 10 (nI (zvp tp a (j + 1)))) 73 7 (nI (a + (j + 1))), ?_, hs10.go, by rw [rd_ne (by omega), rd_eq], x3.trans ((zFr.si (by omega)).trans (zFr.si (by omega)))⟩
      show b_X10_readsNumber_30 (nI lo) (nI hi) (nI a) X = _
      unfold b_X10_readsNumber_30 f_X10_isDigit
      rw [mHere x1 hn hl (by omega), Option.bind_some, in_eq, zsn_dig htx hn, hdj, if_pos rfl, x1.1, nIadd, ifEq_f (by omega) (by omega) (by omega), Option.bind_some, x2]
      simp only [zbd]
      have hzs : zsn tp n (a + j) = nI (tp.getD (a + j) 0) := by unfold zsn; rw [if_pos e1]
      have hnum : nI 10 * nI (zvp tp a j) + zsn tp n (a + j) - nI 48 = nI (zvp tp a (j + 1)) := by
        rw [hzs, nImul, nIadd, nIsub (by omega), zvp, Nat.mul_comm]
      rw [hnum, rd_ne (by omega), x1.1, nIadd]
      rfl
    · obtain ⟨x1, x2, x3⟩ := hX
      show ∃ r, b_X10_readsNumber_30 (nI lo) (nI hi) (nI a) X = _ ∧ _
      unfold b_X10_readsNumber_30 f_X10_isDigit
      rw [mHere x1 hn hl (by omega), Option.bind_some, in_eq, zsn_dig htx hn]
      by_cases h6 : k = 6
      · have hm : min k 5 = 5 := by omega
        rw [hm] at x1 x2 ⊢
        have hd5 := d2 5 (by omega)
        have hz : znm tp n lo hi a = .inl (zfc 2 (a + 5)) := by unfold znm; rw [hk, if_neg (by omega), if_pos h6]
        rw [hd5, if_pos rfl, x1.1, nIadd, ifEq_t rfl, mWrong]
        refine ⟨(false, zz_si X 73 9 (zfc 2 (a + 5))), rfl, x3.trans (zFr.si (by omega)), fun g hg => ?_, fun v c hh => by rw [hz] at hh; cases hh⟩
        rw [hz] at hg
        have hg := Sum.inl.inj hg
        subst hg
        exact ⟨rfl, rd_eq⟩
      · have hm : min k 5 = k := by omega
        rw [hm] at x1 x2 ⊢
        have hdk := d3 (by omega)
        have hv := hvl k (by omega) (by omega)
        rw [hdk, if_neg (by decide), x2, in_nI (by omega) hhi hlo]
        unfold j_X10_readsNumber_113
        by_cases hb : lo ≤ zvp tp a k ∧ zvp tp a k ≤ hi
        · have hz : znm tp n lo hi a = .inr (zvp tp a k, a + k) := by unfold znm; rw [hk, if_neg h0, if_neg h6, if_pos hb]
          rw [decide_eq_true hb, if_pos rfl]
          refine ⟨(true, X), rfl, x3, fun g hg => (by rw [hz] at hg; cases hg), fun v c hh => ?_⟩
          rw [hz] at hh
          cases hh
          exact ⟨rfl, x1, x2⟩
        · have hz : znm tp n lo hi a = .inl (zfc 3 a) := by unfold znm; rw [hk, if_neg h0, if_neg h6, if_neg hb]
          rw [decide_eq_false hb, if_neg (by decide), mWrong]
          refine ⟨(false, zz_si X 73 9 (zfc 3 a)), rfl, x3.trans (zFr.si (by omega)), fun g hg => ?_, fun v c hh => by rw [hz] at hh; cases hh⟩
          rw [hz] at hg
          have hg := Sum.inl.inj hg
          subst hg
          exact ⟨rfl, rd_eq⟩
end TX
