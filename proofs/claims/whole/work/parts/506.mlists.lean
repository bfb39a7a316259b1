/-! ===== the reference: a bucket's entries listed by their stamps ===== -/
theorem zins_no {xs : List Nat} {e : Nat} (h : e ∉ xs) : xs.filter (fun x => decide (x < e + 1)) = xs.filter (fun x => decide (x < e)) := by
  apply List.filter_congr
  intro x hx
  have : x ≠ e := fun hh => h (hh ▸ hx)
  simp only [decide_eq_decide]
  omega
theorem zins_in {xs : List Nat} {e : Nat} {f : Nat → Nat} (hp : xs.Pairwise (fun a b => f a < f b)) (h : e ∈ xs) : ∃ F1 F2, xs.filter (fun x => decide (x < e)) = F1 ++ F2 ∧ xs.filter (fun x => decide (x < e + 1)) = F1 ++ e :: F2 ∧ (∀ x ∈ F1, f x < f e ∧ x ∈ xs) ∧ ∀ x ∈ F2, f e < f x ∧ x ∈ xs := by
  obtain ⟨L1, L2, rfl⟩ := List.append_of_mem h
  rw [List.pairwise_append] at hp
  obtain ⟨p1, p2, p3⟩ := hp
  have p2' := (List.pairwise_cons.mp p2).1
  have n1 : e ∉ L1 := fun hh => by have := p3 e hh e (by simp); omega
  have n2 : e ∉ L2 := fun hh => by have := p2' e hh; omega
  refine ⟨L1.filter (fun x => decide (x < e)), L2.filter (fun x => decide (x < e)), ?_, ?_, fun x hx => ?_, fun x hx => ?_⟩
  · rw [List.filter_append, List.filter_cons, if_neg (by simp)]
  · rw [List.filter_append, List.filter_cons, if_pos (by simp), zins_no n1, zins_no n2]
  · have := (List.mem_filter.mp hx).1
    exact ⟨p3 x this e (by simp), by simp [this]⟩
  · have := (List.mem_filter.mp hx).1
    exact ⟨p2' x this, by simp [this]⟩
/-- what stands behind a place goes one on, to make room -/
theorem zshift {ρ : Type} {B : (Int32 × zzMem) → Option ((Int32 × zzMem) ⊕ ρ)} {k : Nat} {F1 F2 : List Nat} {M : zzMem} (R : ρ → Prop)
    (hstep : ∀ at' y X, F1.length < at' → at' ≤ F1.length + F2.length → zFr (fun a _ => a = k) M X → y ∈ F2 → X.1 k (at' - 1) = nI y → B (nI at', X) = some (.inl (nI (at' - 1), zz_si X k at' (nI y))))
    (hstop : ∀ X, zFr (fun a _ => a = k) M X → (∀ i x, F1[i]? = some x → X.1 k i = nI x) → (∀ i x, F2[i]? = some x → X.1 k (F1.length + 1 + i) = nI x) → ∃ r, B (nI F1.length, X) = some (.inr r) ∧ R r)
    (hF : ∀ i x, (F1 ++ F2)[i]? = some x → M.1 k i = nI x) : ∃ r, zlp B (nI (F1.length + F2.length), M) = some r ∧ R r := by
  have hZ := zlp_forI (B := B) (fun t X => (nI (F1.length + F2.length - t), X)) (fun t X => zFr (fun a _ => a = k) M X ∧ (∀ i x, i < F1.length + F2.length - t → (F1 ++ F2)[i]? = some x → X.1 k i = nI x) ∧ ∀ i x, F1.length + F2.length - t ≤ i → (F1 ++ F2)[i]? = some x → X.1 k (i + 1) = nI x) F2.length R (fun t ht X hX => ?_) (fun X hX => ?_) 0 (by omega) M ⟨zFr.refl M, fun i x _ h => hF i x h, fun i x hi h => by
    have := (List.getElem?_eq_some_iff.mp h).1
    rw [List.length_append] at this
    omega⟩
  · exact hZ
  · obtain ⟨x1, x2, x3⟩ := hX
    have hlt : F1.length + F2.length - t - 1 < (F1 ++ F2).length := by rw [List.length_append]; omega
    have hget := List.getElem?_eq_getElem hlt
    have hy : (F1 ++ F2)[F1.length + F2.length - t - 1]'hlt ∈ F2 := by
      rw [List.getElem?_append_right (by omega)] at hget
      exact List.mem_of_getElem? hget
    generalize (F1 ++ F2)[F1.length + F2.length - t - 1]'hlt = y at hget hy
    have hv := x2 _ y (by omega) hget
    refine ⟨zz_si X k (F1.length + F2.length - t) (nI y), ?_, x1.trans (zFr.si rfl), fun i x hi hx => ?_, fun i x hi hx => ?_⟩
    · rw [hstep (F1.length + F2.length - t) y X (by omega) (by omega) x1 hy hv, show F1.length + F2.length - t - 1 = F1.length + F2.length - (t + 1) by omega]
    · rw [rd_ne (by omega)]; exact x2 i x (by omega) hx
    · by_cases hie : i = F1.length + F2.length - t - 1
      · subst hie
        rw [hget] at hx
        cases hx
        rw [show F1.length + F2.length - t - 1 + 1 = F1.length + F2.length - t by omega, rd_eq]
      · rw [rd_ne (by omega)]; exact x3 i x (by omega) hx
  · obtain ⟨x1, x2, x3⟩ := hX
    obtain ⟨r, r1, r2⟩ := hstop X x1 (fun i x hx => by
      have := (List.getElem?_eq_some_iff.mp hx).1
      exact x2 i x (by omega) (by rw [List.getElem?_append_left this]; exact hx)) (fun i x hx => by
      have := x3 (F1.length + i) x (by omega) (by rw [List.getElem?_append_right (by omega), show F1.length + i - F1.length = i by omega]; exact hx)
      rw [show F1.length + i + 1 = F1.length + 1 + i by omega] at this
      exact this)
    refine ⟨r, ?_, r2⟩
    rw [show F1.length + F2.length - F2.length = F1.length by omega]
    exact r1
theorem zins_arr {M : zzMem} {k e : Nat} {F1 F2 : List Nat} (h1 : ∀ i x, F1[i]? = some x → M.1 k i = nI x) (h2 : ∀ i x, F2[i]? = some x → M.1 k (F1.length + 1 + i) = nI x) : ∀ i x, (F1 ++ e :: F2)[i]? = some x → (zz_si M k F1.length (nI e)).1 k i = nI x := by
  intro i x hx
  rcases Nat.lt_trichotomy i F1.length with hh | hh | hh
  · rw [List.getElem?_append_left hh] at hx
    rw [rd_ne (by omega)]; exact h1 i x hx
  · subst hh
    rw [List.getElem?_append_right (by omega), Nat.sub_self] at hx
    cases hx
    rw [rd_eq]
  · rw [List.getElem?_append_right (by omega)] at hx
    obtain ⟨d, rfl⟩ : ∃ d, i = F1.length + 1 + d := ⟨i - (F1.length + 1), by omega⟩
    rw [show F1.length + 1 + d - F1.length = d + 1 by omega, List.getElem?_cons_succ] at hx
    rw [rd_ne (by omega)]; exact h2 d x hx
section ML
variable {M : zzMem} {m cm : Nat} {E : Nat → List (Nat × Nat)} {xs : Nat → List Nat} {ke ve be se : Nat → Nat}
theorem mLists (hm : M.1 74 7 = nI m) (hm3 : m ≤ 300) (e : zMe M 0 m cm E xs ke ve be se) (hcm : cm < 2147483648) (hB : ∀ x, x < m → be x < 64) {b : Nat} (hb : b < 64) : ∃ M', f_X10_lists (nI b) M = some M' ∧ M'.1 73 15 = nI (xs b).length ∧ (∀ i x, (xs b)[i]? = some x → M'.1 79 i = nI x) ∧ zFr (fun k i => k = 79 ∨ (k = 73 ∧ i = 15)) M M' := by
  have hF : ∀ t, ((xs b).filter (fun x => decide (x < t))).length ≤ m := fun t => Nat.le_trans (List.length_filter_le _ _) (e.xlen b)
  unfold f_X10_lists j_X10_lists_7
  simp only [zbd]
  have hZ := zlp_forI (B := fun s : (Int32 × zzMem) => b_X10_lists_7 (nI b) s.1 s.2) (fun t X => (nI t, X)) (fun t X => X.1 73 15 = nI ((xs b).filter (fun x => decide (x < t))).length ∧ (∀ i x, ((xs b).filter (fun x => decide (x < t)))[i]? = some x → X.1 79 i = nI x) ∧ zFr (fun k i => k = 79 ∨ (k = 73 ∧ i = 15)) M X) m (fun X => X.1 73 15 = nI (xs b).length ∧ (∀ i x, (xs b)[i]? = some x → X.1 79 i = nI x) ∧ zFr (fun k i => k = 79 ∨ (k = 73 ∧ i = 15)) M X) (fun t ht X hX => ?_) (fun X hX => ?_) 0 (by omega) (zz_si M 73 15 (nI 0)) ⟨?_, ?_, zFr.si (by omega)⟩
  · exact hZ
  · obtain ⟨x1, x2, x3⟩ := hX
    have hm' : X.1 74 7 = nI m := by rw [(x3 _ _ (by omega)).1]; exact hm
    have hbt : X.1 74 (640 + t) = nI (be t) := by
      rw [(x3 _ _ (by omega)).1]
      have := (e.2.1 t ht).2.2.1
      simpa using this
    have hse : ∀ x, x < m → X.1 74 (940 + x) = nI (se x) ∧ se x < cm := fun x hx => by
      rw [(x3 _ _ (by omega)).1]
      have := (e.2.1 x hx).2.2.2
      exact ⟨by simpa using this.1, this.2.1⟩
    have hb64 := hB t ht
    by_cases hbe : be t = b
    · have hmem : t ∈ xs b := by rw [← hbe]; exact (e.2.1 t ht).2.2.2.2.2
      obtain ⟨F1, F2, k1, k2, k3, k4⟩ := zins_in (e.2.2.2.1 b) hmem
      have hlen := hF t
      have hlen1 := hF (t + 1)
      rw [k1] at x1 x2 hlen
      rw [k2] at hlen1
      rw [List.length_append] at x1 hlen
      rw [List.length_append, List.length_cons] at hlen1
      obtain ⟨st1, st2⟩ := hse t ht
      have hS := zshift (B := fun s : (Int32 × zzMem) => b_X10_lists_40 (nI b) (nI t) s.1 s.2) (k := 79) (F1 := F1) (F2 := F2) (M := X) (fun r => ∃ Y, r = .inl (nI (t + 1), Y) ∧ Y.1 73 15 = nI (F1 ++ t :: F2).length ∧ (∀ i x, (F1 ++ t :: F2)[i]? = some x → Y.1 79 i = nI x) ∧ zFr (fun k i => k = 79 ∨ (k = 73 ∧ i = 15)) M Y) (fun a y Z z1 z2 z3 z4 z5 => ?_) (fun Z z1 z2 z3 => ?_) x2
      · obtain ⟨r, r1, Y, rfl, y1, y2, y3⟩ := hS
        refine ⟨Y, ?_, by rw [k2]; exact y1, by rw [k2]; exact y2, y3⟩
        unfold b_X10_lists_7 j_X10_lists_40
        simp (disch := omega) only [hm', ifLe_f, nIadd, zgd_in, nIc, hbt, hbe, if_true, zbd, x1]
        exact r1
      · have hy := k4 y z4
        have hym := (e.2.2.1 b y hy.2).1
        obtain ⟨sy1, sy2⟩ := hse y hym
        have sy' : Z.1 74 (940 + y) = nI (se y) := by rw [(z3 _ _ (by omega)).1]; exact sy1
        have st' : Z.1 74 (940 + t) = nI (se t) := by rw [(z3 _ _ (by omega)).1]; exact st1
        show b_X10_lists_40 (nI b) (nI t) (nI a) Z = _
        unfold b_X10_lists_40
        simp (disch := omega) only [ifLe0_f, nIsub, zgd_in, nIc, z5, nIadd, sy', st', ifLe_f, zbd]
      · have st' : Z.1 74 (940 + t) = nI (se t) := by rw [(z1 _ _ (by omega)).1]; exact st1
        have c15 : Z.1 73 15 = nI (F1.length + F2.length) := by rw [(z1 _ _ (by omega)).1]; exact x1
        have hfin : j_X10_lists_95 (nI b) (nI t) (nI F1.length) Z = some (.inl (nI (t + 1), zz_si (zz_si Z 79 F1.length (nI t)) 73 15 (nI (F1.length + F2.length + 1)))) := by
          unfold j_X10_lists_95
          simp (disch := omega) only [zgd_in, nIc, zbd, rd_ne, c15, nIadd]
        refine ⟨.inl (nI (t + 1), zz_si (zz_si Z 79 F1.length (nI t)) 73 15 (nI (F1.length + F2.length + 1))), ?_, _, rfl, ?_, fun i x hx => ?_, ?_⟩
        · show b_X10_lists_40 (nI b) (nI t) (nI F1.length) Z = _
          unfold b_X10_lists_40
          by_cases h0 : F1.length = 0
          · simp (disch := omega) only [ifLe0_t]
            rw [hfin]; rfl
          · have hl1 : F1.length - 1 < F1.length := by omega
            have hg := List.getElem?_eq_getElem hl1
            have hy := k3 _ (List.getElem_mem hl1)
            have hv := z2 _ _ hg
            generalize F1[F1.length - 1]'hl1 = y at hg hy hv
            have hym := (e.2.2.1 b y hy.2).1
            obtain ⟨sy1, sy2⟩ := hse y hym
            have sy' : Z.1 74 (940 + y) = nI (se y) := by rw [(z1 _ _ (by omega)).1]; exact sy1
            simp (disch := omega) only [ifLe0_f, nIsub, zgd_in, nIc, hv, nIadd, sy', st', ifLe_t]
            rw [hfin]; rfl
        · rw [rd_eq, List.length_append, List.length_cons]; rfl
        · rw [rd_ne (by omega)]
          exact zins_arr z2 z3 i x hx
        · exact (x3.trans (z1.weak (fun k i h => Or.inl h))).trans ((zFr.si (Or.inl rfl)).trans (zFr.si (Or.inr ⟨rfl, rfl⟩)))
    · have hmem : t ∉ xs b := fun hh => hbe ((e.2.2.1 b t hh).2)
      refine ⟨X, ?_, by rw [zins_no hmem]; exact x1, by rw [zins_no hmem]; exact x2, x3⟩
      unfold b_X10_lists_7
      simp (disch := omega) only [hm', ifLe_f, nIadd, zgd_in, nIc, hbt, ifEq_f, zbd]
  · obtain ⟨x1, x2, x3⟩ := hX
    have hm' : X.1 74 7 = nI m := by rw [(x3 _ _ (by omega)).1]; exact hm
    have hall : (xs b).filter (fun x => decide (x < m)) = xs b := List.filter_eq_self.mpr (fun x hx => by have := (e.2.2.1 b x hx).1; simpa using this)
    rw [hall] at x1 x2
    refine ⟨X, ?_, x1, x2, x3⟩
    unfold b_X10_lists_7
    simp (disch := omega) only [hm', ifLe_t]
  · rw [rd_eq, List.filter_eq_nil_iff.mpr (fun x _ => by simp)]; rfl
  · rw [List.filter_eq_nil_iff.mpr (fun x _ => by simp)]
    intro i x hx; simp at hx
end ML
