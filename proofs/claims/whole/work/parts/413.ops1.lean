/-- what is kept -/
def zKp (N : Nat) (M : zzMem) : Prop := (M.1 0 7 = 0 ∧ M.1 73 1 = 0) ∨ (M.1 0 7 = 1 ∧ M.1 73 1 = 1 ∧ ∃ K : zzA, zWF N K ∧ zRC M 32 K ∧ zRM M 1892 N K)
theorem zKp.frS {N : Nat} {M M' : zzMem} {S : Nat → Nat → Prop} (hf : zFr S M M') (h0 : ¬ S 0 7) (h1 : ¬ S 73 1) (h2 : ∀ k i, 32 ≤ k → k ≤ 51 → (k = 32 → 4 ≤ i) → k ≠ 35 → k ≠ 46 → (k = 36 → i = 11) → ¬ S k i) (h3 : ∀ i, 1892 ≤ i → i < 3784 → ¬ S 74 i) (h : zKp N M) : zKp (N + 1) M' := by
  unfold zKp at h ⊢
  rw [(hf _ _ h0).1, (hf _ _ h1).1]
  rcases h with h | ⟨g1, g2, K, k1, k2, k3⟩
  · exact Or.inl h
  · exact Or.inr ⟨g1, g2, K, k1.up, k2.frS hf (fun k i a b c d e f => h2 k i (by omega) (by omega) (by omega) (by omega) (by omega) (by omega)), k3.up.frS k1 hf (fun i a b => h3 i a (by omega))⟩
/-! ===== feed ===== -/
def zbt (v : Int32) (j : Nat) : Nat := (v >>> (nI (8 * (3 - j)) &&& 31)).toBitVec.toNat % 256
theorem zbt_lt (v : Int32) (j : Nat) : zbt v j < 256 := Nat.mod_lt _ (by decide)
theorem m255 (x : Int32) : x &&& nI 255 = nI (x.toBitVec.toNat % 256) := pk_and x 8 (by decide)
theorem cApp {v : Int32} {n : Nat} : ∀ (j : Nat) (M : zzMem), j ≤ 4 → M.1 1 1 = nI (n + j) → n + 4 ≤ 320 →
    ∃ M', zlp (fun s : (Int32 × zzMem) => b_X8_append_3 v s.1 s.2) (if j = 4 then (-8 : Int32) else nI (8 * (3 - j)), M) = some M' ∧ zFr (fun a b => (a = 1 ∧ b = 1) ∨ (a = 2 ∧ n + j ≤ b)) M M' ∧ M'.1 1 1 = nI (n + 4) ∧ ∀ i, j ≤ i → i < 4 → M'.1 2 (n + i) = nI (zbt v i) := by
  intro j
  obtain ⟨d, hd⟩ : ∃ d, d = 4 - j := ⟨_, rfl⟩
  induction d generalizing j with
  | zero =>
    intro M hj h1 h2
    have : j = 4 := by omega
    subst this
    refine ⟨M, ?_, zFr.refl M, h1, fun i h3 h4 => by omega⟩
    apply zlp_done
    simp only [reduceIte]
    unfold b_X8_append_3
    rfl
  | succ d ih =>
    intro M hj h1 h2
    have hj4 : j < 4 := by omega
    have hstep : b_X8_append_3 v (nI (8 * (3 - j))) M = some (.inl (if j + 1 = 4 then (-8 : Int32) else nI (8 * (3 - (j + 1))), zz_si (zz_si M 2 (n + j) (nI (zbt v j))) 1 1 (nI (n + (j + 1))))) := by
      unfold b_X8_append_3
      simp (disch := omega) only [ifL0, h1, ifLe_f, zgd_in, nIc, zbd, m255, rd_si]
      have e1 : nI (8 * (3 - j)) + (-8 : Int32) = if j + 1 = 4 then (-8 : Int32) else nI (8 * (3 - (j + 1))) := by
        rcases (show j = 0 ∨ j = 1 ∨ j = 2 ∨ j = 3 by omega) with rfl | rfl | rfl | rfl <;> decide
      rw [e1]
      simp [h1, nIadd, zbt, Nat.add_assoc]
    obtain ⟨M', e1, e2, e3, e4⟩ := ih (j + 1) (by omega) (zz_si (zz_si M 2 (n + j) (nI (zbt v j))) 1 1 (nI (n + (j + 1)))) (by omega) (by rw [rd_si]; simp) h2
    refine ⟨M', ?_, ?_, e3, fun i h3 h4 => ?_⟩
    · rw [if_neg (show ¬ j = 4 by omega), zlp_step (s' := (if j + 1 = 4 then (-8 : Int32) else nI (8 * (3 - (j + 1))), _)) hstep, e1]
    · refine ((zFr.si (Or.inr ⟨rfl, Nat.le_refl _⟩)).trans (zFr.si (Or.inl ⟨rfl, rfl⟩))).trans (e2.weak (fun k i hh => ?_))
      rcases hh with h | h
      · exact Or.inl h
      · exact Or.inr ⟨h.1, by omega⟩
    · by_cases hij : i = j
      · subst hij
        rw [(e2 2 (n + i) (by simp)).1, rd_si, rd_si]
        simp
      · exact e4 i (by omega) h4
theorem cAppend {v : Int32} {n : Nat} {M : zzMem} (h1 : M.1 1 1 = nI n) (h2 : n + 4 ≤ 320) : ∃ M', f_X8_append v M = some M' ∧ zFr (fun a b => (a = 1 ∧ b = 1) ∨ (a = 2 ∧ n ≤ b)) M M' ∧ M'.1 1 1 = nI (n + 4) ∧ ∀ i, i < 4 → M'.1 2 (n + i) = nI (zbt v i) := by
  obtain ⟨M', e1, e2, e3, e4⟩ := cApp (v := v) 0 M (by omega) h1 h2
  exact ⟨M', e1, e2, e3, fun i hi => e4 i (by omega) hi⟩
theorem mApp {v : Int32} {n : Nat} : ∀ (j : Nat) (M : zzMem), j ≤ 4 → M.1 73 6 = nI (n + j) → n + 4 ≤ 320 →
    ∃ M', zlp (fun s : (Int32 × zzMem) => b_X10_types_2 v s.1 s.2) (if j = 4 then (-1 : Int32) else nI (3 - j), M) = some M' ∧ zFr (fun a b => (a = 73 ∧ b = 6) ∨ (a = 75 ∧ n + j ≤ b)) M M' ∧ M'.1 73 6 = nI (n + 4) ∧ ∀ i, j ≤ i → i < 4 → M'.1 75 (n + i) &&& 255 = nI (zbt v i) := by
  intro j
  obtain ⟨d, hd⟩ : ∃ d, d = 4 - j := ⟨_, rfl⟩
  induction d generalizing j with
  | zero =>
    intro M hj h1 h2
    have : j = 4 := by omega
    subst this
    refine ⟨M, ?_, zFr.refl M, h1, fun i h3 h4 => by omega⟩
    apply zlp_done
    simp only [reduceIte]
    unfold b_X10_types_2
    rfl
  | succ d ih =>
    intro M hj h1 h2
    have hj4 : j < 4 := by omega
    have hstep : b_X10_types_2 v (nI (3 - j)) M = some (.inl (if j + 1 = 4 then (-1 : Int32) else nI (3 - (j + 1)), zz_si (zz_si M 75 (n + j) ((v >>> (nI (8 * (3 - j)) &&& 31)).toInt8.toInt32)) 73 6 (nI (n + (j + 1))))) := by
      unfold b_X10_types_2
      simp (disch := omega) only [ifL0, h1, zgd_in, nIc, zbd, rd_si, nImul, pk_vb]
      have e1 : nI (3 - j) + (-1 : Int32) = if j + 1 = 4 then (-1 : Int32) else nI (3 - (j + 1)) := by
        rcases (show j = 0 ∨ j = 1 ∨ j = 2 ∨ j = 3 by omega) with rfl | rfl | rfl | rfl <;> decide
      rw [e1]
      simp [h1, nIadd, Nat.add_assoc]
    obtain ⟨M', e1, e2, e3, e4⟩ := ih (j + 1) (by omega) (zz_si (zz_si M 75 (n + j) ((v >>> (nI (8 * (3 - j)) &&& 31)).toInt8.toInt32)) 73 6 (nI (n + (j + 1)))) (by omega) (by rw [rd_si]; simp) h2
    refine ⟨M', ?_, ?_, e3, fun i h3 h4 => ?_⟩
    · rw [if_neg (show ¬ j = 4 by omega), zlp_step (s' := (if j + 1 = 4 then (-1 : Int32) else nI (3 - (j + 1)), _)) hstep, e1]
    · refine ((zFr.si (Or.inr ⟨rfl, Nat.le_refl _⟩)).trans (zFr.si (Or.inl ⟨rfl, rfl⟩))).trans (e2.weak (fun k i hh => ?_))
      rcases hh with h | h
      · exact Or.inl h
      · exact Or.inr ⟨h.1, by omega⟩
    · by_cases hij : i = j
      · subst hij
        rw [(e2 75 (n + i) (by simp)).1, rd_si, rd_si]
        simp only [show ¬ ((75 = 73) ∧ n + i = 6) by omega, if_false, true_and, if_true]
        rw [bp_b]
        exact m255 _
      · exact e4 i (by omega) h4
theorem mTypes {v : Int32} {n : Nat} {M : zzMem} (h1 : M.1 73 6 = nI n) (h2 : n + 4 ≤ 320) : ∃ M', f_X10_types v M = some M' ∧ zFr (fun a b => (a = 73 ∧ b = 6) ∨ (a = 75 ∧ n ≤ b)) M M' ∧ M'.1 73 6 = nI (n + 4) ∧ ∀ i, i < 4 → M'.1 75 (n + i) &&& 255 = nI (zbt v i) := by
  obtain ⟨M', e1, e2, e3, e4⟩ := mApp (v := v) 0 M (by omega) h1 h2
  exact ⟨M', e1, e2, e3, fun i hi => e4 i (by omega) hi⟩
/-- one behind the other -/
def zfd (f : Int32 → zzMem → Option zzMem) : List Int32 → zzMem → Option zzMem
  | [], M => some M
  | v :: vs, M => (f v M).bind (zfd f vs)
theorem cFd : ∀ (vs : List Int32) (n : Nat) (M : zzMem), M.1 1 1 = nI n → n + 4 * vs.length ≤ 320 → ∃ M', zfd f_X8_append vs M = some M' ∧ zFr (fun a b => (a = 1 ∧ b = 1) ∨ (a = 2 ∧ n ≤ b)) M M' ∧ M'.1 1 1 = nI (n + 4 * vs.length) ∧ ∀ t v, vs[t]? = some v → ∀ i, i < 4 → M'.1 2 (n + 4 * t + i) = nI (zbt v i) := by
  intro vs
  induction vs with
  | nil => intro n M h1 h2; exact ⟨M, rfl, zFr.refl M, h1, fun t v h => by simp at h⟩
  | cons v vs ih =>
    intro n M h1 h2
    simp only [List.length_cons] at h2
    obtain ⟨M1, e1, e2, e3, e4⟩ := cAppend (v := v) h1 (by omega)
    obtain ⟨M2, g1, g2, g3, g4⟩ := ih (n + 4) M1 e3 (by omega)
    refine ⟨M2, by rw [zfd, e1]; exact g1, e2.trans (g2.weak (fun k i h => ?_)), by rw [g3]; congr 1; simp; omega, fun t w ht i hi => ?_⟩
    · rcases h with h | h
      · exact Or.inl h
      · exact Or.inr ⟨h.1, by omega⟩
    · cases t with
      | zero =>
        simp only [List.getElem?_cons_zero, Option.some.injEq] at ht
        subst ht
        rw [(g2 2 _ (by simp; omega)).1]
        exact e4 i hi
      | succ t =>
        rw [show n + 4 * (t + 1) + i = n + 4 + 4 * t + i by omega]
        exact g4 t w (by simpa using ht) i hi
theorem mFd : ∀ (vs : List Int32) (n : Nat) (M : zzMem), M.1 73 6 = nI n → n + 4 * vs.length ≤ 320 → ∃ M', zfd f_X10_types vs M = some M' ∧ zFr (fun a b => (a = 73 ∧ b = 6) ∨ (a = 75 ∧ n ≤ b)) M M' ∧ M'.1 73 6 = nI (n + 4 * vs.length) ∧ ∀ t v, vs[t]? = some v → ∀ i, i < 4 → M'.1 75 (n + 4 * t + i) &&& 255 = nI (zbt v i) := by
  intro vs
  induction vs with
  | nil => intro n M h1 h2; exact ⟨M, rfl, zFr.refl M, h1, fun t v h => by simp at h⟩
  | cons v vs ih =>
    intro n M h1 h2
    simp only [List.length_cons] at h2
    obtain ⟨M1, e1, e2, e3, e4⟩ := mTypes (v := v) h1 (by omega)
    obtain ⟨M2, g1, g2, g3, g4⟩ := ih (n + 4) M1 e3 (by omega)
    refine ⟨M2, by rw [zfd, e1]; exact g1, e2.trans (g2.weak (fun k i h => ?_)), by rw [g3]; congr 1; simp; omega, fun t w ht i hi => ?_⟩
    · rcases h with h | h
      · exact Or.inl h
      · exact Or.inr ⟨h.1, by omega⟩
    · cases t with
      | zero =>
        simp only [List.getElem?_cons_zero, Option.some.injEq] at ht
        subst ht
        rw [(g2 75 _ (by simp; omega)).1]
        exact e4 i hi
      | succ t =>
        rw [show n + 4 * (t + 1) + i = n + 4 + 4 * t + i by omega]
        exact g4 t w (by simpa using ht) i hi
/-- the bytes of numbers -/
def zbs : List Int32 → List Nat
  | [] => []
  | v :: vs => zbt v 0 :: zbt v 1 :: zbt v 2 :: zbt v 3 :: zbs vs
theorem zbs_len : ∀ vs : List Int32, (zbs vs).length = 4 * vs.length
  | [] => rfl
  | v :: vs => by simp only [zbs, List.length_cons, zbs_len vs]; omega
theorem zbs_get : ∀ (vs : List Int32) (i x : Nat), (zbs vs)[i]? = some x → ∃ t v, vs[t]? = some v ∧ x = zbt v (i - 4 * t) ∧ 4 * t ≤ i ∧ i < 4 * t + 4
  | [], i, x, h => by simp [zbs] at h
  | v :: vs, i, x, h => by
    match i, h with
    | 0, h => exact ⟨0, v, rfl, by simpa [zbs] using h.symm, by omega, by omega⟩
    | 1, h => exact ⟨0, v, rfl, by simpa [zbs] using h.symm, by omega, by omega⟩
    | 2, h => exact ⟨0, v, rfl, by simpa [zbs] using h.symm, by omega, by omega⟩
    | 3, h => exact ⟨0, v, rfl, by simpa [zbs] using h.symm, by omega, by omega⟩
    | i + 4, h =>
      obtain ⟨t, w, h1, h2, h3, h4⟩ := zbs_get vs i x (by simpa [zbs] using h)
      exact ⟨t + 1, w, by simpa using h1, by rw [h2]; congr 1; omega, by omega, by omega⟩
theorem op_feed (N : Nat) (a b c d e : Int32) : zSame N (f_X9_feed a b c d e) (f_X10_feed a b c d e) := by
  intro hN M hI
  obtain ⟨tp, A, h1, h2, h3, h4, h5⟩ := hI
  obtain ⟨t1, t2, t3, t4⟩ := id h1
  have hc : ∀ M, f_X9_feed a b c d e M = if f_X8_hasRoom M = true then (zfd f_X8_append [a, b, c, d, e] M).bind (fun M6 => some (M6.1 1 1, M6)) else some ((-1 : Int32), M) := by
    intro M
    unfold f_X9_feed
    simp only [zfd, Option.bind_assoc, Option.bind_some]
  have hm : ∀ M, f_X10_feed a b c d e M = if M.1 73 6 + nI 20 ≤ nI 320 then (zfd f_X10_types [a, b, c, d, e] M).bind (fun M6 => some (M6.1 73 6, M6)) else some ((-1 : Int32), M) := by
    intro M
    unfold f_X10_feed
    simp only [zfd, Option.bind_assoc, Option.bind_some]
  by_cases hr : tp.length + 20 ≤ 320
  · have hroom : f_X8_hasRoom M = true := by
      unfold f_X8_hasRoom
      simp (disch := omega) only [t2, nIadd, ifLt_f]
    obtain ⟨M1, e1, e2, e3, e4⟩ := cFd [a, b, c, d, e] tp.length M t2 hr
    have t3' : M1.1 73 6 = nI tp.length := by rw [(e2 73 6 (by simp)).1]; exact t3
    obtain ⟨M2, g1, g2, g3, g4⟩ := mFd [a, b, c, d, e] tp.length M1 t3' hr
    refine ⟨nI (tp.length + 20), M1, M2, ?_, ?_, ?_⟩
    · rw [hc, if_pos hroom, e1]; simp only [Option.bind_some, e3]; rfl
    · rw [hm, t3']
      simp (disch := omega) only [nIadd, ifLe_t, g1, Option.bind_some, g3]
      rfl
    · have hf : zFr (fun x y => (x = 1 ∧ y = 1) ∨ (x = 2 ∧ tp.length ≤ y) ∨ (x = 73 ∧ y = 6) ∨ (x = 75 ∧ tp.length ≤ y)) M M2 := (e2.weak (fun k i h => by rcases h with h | h <;> simp [h])).trans (g2.weak (fun k i h => by rcases h with h | h <;> simp [h]))
      refine ⟨tp ++ zbs [a, b, c, d, e], A, ⟨?_, ?_, ?_, ?_⟩, h2.up, h3.frS hf (by intro k i; simp; omega), h4.up.frS h2 hf (by intro i; simp), zKp.frS hf (by simp) (by simp) (by intro k i; simp; omega) (by intro i; simp) h5⟩
      · rw [List.length_append, zbs_len]; exact hr
      · rw [List.length_append, zbs_len, (g2 1 1 (by simp)).1]; exact e3
      · rw [List.length_append, zbs_len]; exact g3
      · intro i x hx
        by_cases hi : i < tp.length
        · rw [List.getElem?_append_left hi] at hx
          obtain ⟨q1, q2, q3⟩ := t4 i x hx
          refine ⟨q1, ?_, ?_⟩
          · rw [(hf 2 i (by simp; omega)).1]; exact q2
          · rw [(hf 75 i (by simp; omega)).1]; exact q3
        · rw [List.getElem?_append_right (by omega)] at hx
          obtain ⟨t, v, v1, v2, v3, v4⟩ := zbs_get _ _ _ hx
          have c1 := e4 t v v1 (i - tp.length - 4 * t) (by omega)
          have c2 := g4 t v v1 (i - tp.length - 4 * t) (by omega)
          rw [show tp.length + 4 * t + (i - tp.length - 4 * t) = i by omega] at c1 c2
          refine ⟨by rw [v2]; exact zbt_lt _ _, ?_, ?_⟩
          · rw [(g2 2 i (by simp)).1, c1, v2]
          · rw [c2, v2]
  · have hroom : f_X8_hasRoom M = false := by
      unfold f_X8_hasRoom
      simp (disch := omega) only [t2, nIadd, ifLt_t]
    refine ⟨(-1 : Int32), M, M, ?_, ?_, zIv.up ⟨tp, A, h1, h2, h3, h4, h5⟩⟩
    · rw [hc, hroom]; rfl
    · rw [hm, t3]
      simp (disch := omega) only [nIadd, ifLe_f]
