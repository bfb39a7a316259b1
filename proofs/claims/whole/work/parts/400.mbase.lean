/-! ===== the pure side: rows for reckoning with the functions ===== -/
section MB
variable {α : Type}
theorem zgd_t {c : Prop} {f : Option α} (h : c) : zgd c f = f := by unfold zgd; exact if_pos h
theorem zgd_f {c : Prop} {f : Option α} (h : ¬ c) : zgd c f = none := by unfold zgd; exact if_neg h
theorem zgd_in {k n : Nat} {f : Option α} (h : k < n) (hn : n < 2147483648) : zgd (vp_in (nI k) n) f = f := zgd_t (vp_in_nI h hn)
theorem nIc {n : Nat} (h : n < 2147483648) : (nI n).toNatClampNeg = n := nI_clamp h
theorem ifLt_t {a b : Nat} {x y : α} (h : a < b) (hb : b < 2147483648) : (if nI a < nI b then x else y) = x := if_pos (nI_lt h hb)
theorem ifLt_f {a b : Nat} {x y : α} (h : b ≤ a) (ha : a < 2147483648) : (if nI a < nI b then x else y) = y := if_neg (nI_nlt h ha)
theorem ifLe_t {a b : Nat} {x y : α} (h : a ≤ b) (hb : b < 2147483648) : (if nI a ≤ nI b then x else y) = x := if_pos (nI_le h hb)
theorem ifLe_f {a b : Nat} {x y : α} (h : b < a) (ha : a < 2147483648) : (if nI a ≤ nI b then x else y) = y := if_neg (nI_ge h ha)
theorem ifEq_t {a b : Nat} {x y : α} (h : a = b) : (if nI a = nI b then x else y) = x := if_pos (by rw [h])
theorem ifEq_f {a b : Nat} {x y : α} (h : a ≠ b) (ha : a < 2147483648) (hb : b < 2147483648) : (if nI a = nI b then x else y) = y := if_neg (fun e => h ((nI_eq ha hb).mp e))
theorem ifL0 {a : Nat} {x y : α} (ha : a < 2147483648) : (if nI a < 0 then x else y) = y := if_neg (nI_pos ha)
theorem if0L {a : Nat} {x y : α} (ha : a < 2147483648) : (if 0 ≤ nI a then x else y) = x := if_pos (nI_pos' ha)
theorem ifE0_t {a : Nat} {x y : α} (h : a = 0) : (if nI a = 0 then x else y) = x := if_pos (by rw [h]; rfl)
theorem ifE0_f {a : Nat} {x y : α} (h : 0 < a) (ha : a < 2147483648) : (if nI a = 0 then x else y) = y := if_neg (nI_ne0 h ha)
theorem ifLe0_t {a : Nat} {x y : α} (h : a = 0) : (if nI a ≤ 0 then x else y) = x := if_pos (by rw [h]; decide)
theorem ifLe0_f {a : Nat} {x y : α} (h : 0 < a) (ha : a < 2147483648) : (if nI a ≤ 0 then x else y) = y := if_neg (nI_nle h ha)
theorem if0l_t {a : Nat} {x y : α} (h : 0 < a) (ha : a < 2147483648) : (if 0 < nI a then x else y) = x := if_pos (nI_lt (a := 0) h ha)
theorem if0l_f {a : Nat} {x y : α} (h : a = 0) : (if 0 < nI a then x else y) = y := if_neg (by rw [h]; decide)
theorem nI_nm1 {a : Nat} (ha : a < 2147483648) : ¬ nI a = (-1 : Int32) := fun e => by
  have h1 : (nI a).toInt = (a : Int) := nI_toInt ha
  rw [e] at h1
  have h2 : ((-1 : Int32)).toInt = -1 := by decide
  omega
theorem ifm1 {a : Nat} {x y : α} (ha : a < 2147483648) : (if nI a = (-1 : Int32) then x else y) = y := if_neg (nI_nm1 ha)
theorem nIadd (a b : Nat) : nI a + nI b = nI (a + b) := nI_add a b
theorem nIsub {a b : Nat} (h : b ≤ a) : nI a - nI b = nI (a - b) := pk_sub h
theorem nImul (a b : Nat) : nI a * nI b = nI (a * b) := pk_mul a b
theorem nIdiv {a d : Nat} (ha : a < 2147483648) (h0 : 0 < d) (hd : d < 2147483648) : nI a / nI d = nI (a / d) := pk_div ha h0 hd
theorem nIrem {a d : Nat} (ha : a < 2147483648) (h0 : 0 < d) (hd : d < 2147483648) : zrm (nI a) (nI d) = nI (a % d) := pk_rem ha h0 hd
end MB
/-- reads behind writes -/
theorem rd_si (M : zzMem) (k i : Nat) (v : Int32) (a b : Nat) : (zz_si M k i v).1 a b = if a = k ∧ b = i then v else M.1 a b := by
  unfold zz_si upd
  by_cases h1 : a = k <;> by_cases h2 : b = i <;> simp [h1, h2]
theorem rd_si2 (M : zzMem) (k i : Nat) (v : Int32) : (zz_si M k i v).2 = M.2 := rfl
theorem rd_sl (M : zzMem) (k i : Nat) (v : Int64) (a b : Nat) : (zz_sl M k i v).2 a b = if a = k ∧ b = i then v else M.2 a b := by
  unfold zz_sl vp_updL
  by_cases h1 : a = k <;> by_cases h2 : b = i <;> simp [h1, h2]
theorem rd_sl1 (M : zzMem) (k i : Nat) (v : Int64) : (zz_sl M k i v).1 = M.1 := rfl
/-- a loop that counts up -/
theorem zlp_for {σ ρ : Type} {B : σ → Option (σ ⊕ ρ)} (st : Nat → σ) (n : Nat) (r : ρ) (hs : ∀ i, i < n → B (st i) = some (.inl (st (i + 1)))) (he : B (st n) = some (.inr r)) : ∀ i, i ≤ n → zlp B (st i) = some r := by
  intro i hi
  obtain ⟨d, hd⟩ : ∃ d, n = i + d := ⟨n - i, by omega⟩
  induction d generalizing i with
  | zero =>
    rw [zlp_eq, show i = n by omega, he]; rfl
  | succ d ih =>
    rw [zlp_eq, hs i (by omega)]
    exact ih (i + 1) (by omega) (by omega)
/-- the same, from any step on to another loop's step -/
theorem zlp_step {σ ρ : Type} {B : σ → Option (σ ⊕ ρ)} {s s' : σ} (h : B s = some (.inl s')) : zlp B s = zlp B s' := by rw [zlp_eq, h]; rfl
theorem zlp_done {σ ρ : Type} {B : σ → Option (σ ⊕ ρ)} {s : σ} {r : ρ} (h : B s = some (.inr r)) : zlp B s = some r := by rw [zlp_eq, h]; rfl
theorem zlp_none {σ ρ : Type} {B : σ → Option (σ ⊕ ρ)} (st : Nat → σ) (n : Nat) (hs : ∀ i, i < n → B (st i) = some (.inl (st (i + 1)))) : ∀ i, i ≤ n → zlp B (st i) = zlp B (st n) := by
  intro i hi
  obtain ⟨d, hd⟩ : ∃ d, n = i + d := ⟨n - i, by omega⟩
  induction d generalizing i with
  | zero => rw [show i = n by omega]
  | succ d ih => rw [zlp_step (hs i (by omega)), ih (i + 1) (by omega) (by omega)]
/-- an invariant with a measure -/
theorem zlp_inv {σ ρ : Type} {B : σ → Option (σ ⊕ ρ)} (I : σ → Prop) (R : ρ → Prop) (μ : σ → Nat) (h : ∀ s, I s → (∃ s', B s = some (.inl s') ∧ I s' ∧ μ s' < μ s) ∨ (∃ r, B s = some (.inr r) ∧ R r)) : ∀ s, I s → ∃ r, zlp B s = some r ∧ R r := by
  intro s hI
  generalize hm : μ s = m
  induction m using Nat.strongRecOn generalizing s with
  | ind m ih =>
    rcases h s hI with ⟨s', hb, hI', hlt⟩ | ⟨r, hb, hR⟩
    · obtain ⟨r, h1, h2⟩ := ih (μ s') (by omega) s' hI' rfl
      exact ⟨r, by rw [zlp_step hb]; exact h1, h2⟩
    · exact ⟨r, zlp_done hb, hR⟩
/-- how many below n -/
def zcnt (p : Nat → Bool) : Nat → Nat
  | 0 => 0
  | n + 1 => zcnt p n + if p n then 1 else 0
theorem zcnt_le (p : Nat → Bool) : ∀ n, zcnt p n ≤ n
  | 0 => Nat.le_refl 0
  | n + 1 => by
    have := zcnt_le p n
    unfold zcnt
    split <;> omega
theorem zcnt_congr {p q : Nat → Bool} : ∀ n, (∀ i, i < n → p i = q i) → zcnt p n = zcnt q n
  | 0, _ => rfl
  | n + 1, h => by
    unfold zcnt
    rw [zcnt_congr n (fun i hi => h i (by omega)), h n (by omega)]
theorem zcnt_range (p : Nat → Bool) : ∀ n, zcnt p n = (List.range n).countP p
  | 0 => rfl
  | n + 1 => by
    rw [List.range_succ, List.countP_append, zcnt, zcnt_range p n]
    simp [List.countP_cons]
theorem chainOf_eq (M : zzMem) (b : Int32) : f_X10_chainOf b M = some (nI (zcnt (fun p => decide (M.1 74 (1240 + p) = b)) 256)) := by
  unfold f_X10_chainOf j_X10_chainOf_4
  refine zlp_for (fun i => (nI (zcnt (fun p => decide (M.1 74 (1240 + p) = b)) i), nI i)) 256 _ (fun i hi => ?_) ?_ 0 (by omega)
  · unfold b_X10_chainOf_4
    simp (disch := omega) only [ifLe_f, nIadd, zgd_in, nIc, zbd, zcnt]
    by_cases h : M.1 74 (1240 + i) = b
    · simp [h]
    · simp [h]
  · unfold b_X10_chainOf_4
    simp (disch := omega) only [ifLe_t]
