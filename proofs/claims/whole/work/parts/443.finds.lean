/-! ===== sums over pages and over keys ===== -/
def zsum (f : Nat → Nat) : Nat → Nat
  | 0 => 0
  | n + 1 => zsum f n + f n
theorem zsum_congr {f g : Nat → Nat} : ∀ n, (∀ i, i < n → f i = g i) → zsum f n = zsum g n
  | 0, _ => rfl
  | n + 1, h => by
    unfold zsum
    rw [zsum_congr n (fun i hi => h i (by omega)), h n (by omega)]
theorem zsum_add (f g : Nat → Nat) : ∀ n, zsum (fun i => f i + g i) n = zsum f n + zsum g n
  | 0 => rfl
  | n + 1 => by
    unfold zsum
    rw [zsum_add f g n]; omega
theorem zsum_le {f g : Nat → Nat} : ∀ n, (∀ i, i < n → f i ≤ g i) → zsum f n ≤ zsum g n
  | 0, _ => Nat.le_refl 0
  | n + 1, h => by
    unfold zsum
    have := zsum_le n (fun i hi => h i (by omega))
    have := h n (by omega)
    omega
theorem zsum_zero {f : Nat → Nat} : ∀ n, (∀ i, i < n → f i = 0) → zsum f n = 0
  | 0, _ => rfl
  | n + 1, h => by
    unfold zsum
    rw [zsum_zero n (fun i hi => h i (by omega)), h n (by omega)]
theorem zsum_one (W : Nat → Nat) (g : Nat) : ∀ n, zsum (fun p => W p * (if decide (g = p) = true then 1 else 0)) n = if g < n then W g else 0
  | 0 => by simp [zsum]
  | n + 1 => by
    unfold zsum
    rw [zsum_one W g n]
    by_cases h : g < n
    · rw [if_pos h, if_neg (by simp; omega), if_pos (by omega)]; omega
    · by_cases h2 : g = n
      · subst h2
        rw [if_neg (by omega), if_pos (by simp), if_pos (by omega)]; omega
      · rw [if_neg h, if_neg (by simp; omega), if_neg (by omega)]; omega
theorem zsum_grp {g W : Nat → Nat} {n : Nat} : ∀ m, (∀ x, x < m → g x < n) → zsum (fun x => W (g x)) m = zsum (fun p => W p * zcnt (fun x => decide (g x = p)) m) n
  | 0, _ => by
    rw [zsum_zero n (fun i _ => by simp [zcnt])]; rfl
  | m + 1, h => by
    have h1 : zsum (fun p => W p * zcnt (fun x => decide (g x = p)) (m + 1)) n = zsum (fun p => W p * zcnt (fun x => decide (g x = p)) m + W p * (if decide (g m = p) = true then 1 else 0)) n := zsum_congr n (fun p _ => by
      have hst : zcnt (fun x => decide (g x = p)) (m + 1) = zcnt (fun x => decide (g x = p)) m + (if decide (g m = p) = true then 1 else 0) := rfl
      rw [hst, Nat.mul_add])
    show zsum (fun x => W (g x)) m + W (g m) = _
    rw [zsum_grp m (fun x hx => h x (by omega)), h1, zsum_add, zsum_one, if_pos (h m (by omega))]
theorem zcnt_zsum (p : Nat → Bool) : ∀ n, zcnt p n = zsum (fun i => if p i then 1 else 0) n
  | 0 => rfl
  | n + 1 => by unfold zcnt zsum; rw [zcnt_zsum p n]
theorem zmaxf_ge {f : Nat → Nat} {i : Nat} : ∀ n, i < n → f i ≤ zmaxf f n
  | 0, h => by omega
  | n + 1, h => by
    unfold zmaxf
    by_cases hi : i = n
    · subst hi; omega
    · have := zmaxf_ge (f := f) n (show i < n by omega); omega
theorem zmaxf_lub {f : Nat → Nat} {c : Nat} : ∀ n, (∀ i, i < n → f i ≤ c) → zmaxf f n ≤ c
  | 0, _ => Nat.zero_le _
  | n + 1, h => by
    unfold zmaxf
    have h1 := zmaxf_lub n (fun i hi => h i (by omega))
    have h2 := h n (by omega)
    omega
/-- whose a page is: bucket and place -/
noncomputable def zown (G : Nat → List Nat) (p : Nat) : Option (Nat × Nat) := by
  classical
  exact if h : ∃ q : Nat × Nat, q.1 < 64 ∧ (G q.1)[q.2]? = some p then some (Classical.choose h) else none
theorem zown_some {G : Nat → List Nat} (hG : zGok G) {b i p : Nat} (hb : b < 64) (hi : (G b)[i]? = some p) : zown G p = some (b, i) := by
  have h : ∃ q : Nat × Nat, q.1 < 64 ∧ (G q.1)[q.2]? = some p := ⟨(b, i), hb, hi⟩
  unfold zown
  rw [dif_pos h]
  have hs := Classical.choose_spec h
  obtain ⟨e1, e2⟩ := hG.at hs.2 hi
  rw [← e1, ← e2]
theorem zown_none {G : Nat → List Nat} {p : Nat} (h : ∀ b, b < 64 → p ∉ G b) : zown G p = none := by
  unfold zown
  rw [dif_neg]
  rintro ⟨q, h1, h2⟩
  exact h q.1 h1 (List.mem_of_getElem? h2)
theorem zown_cases {G : Nat → List Nat} (hG : zGok G) (p : Nat) : (zown G p = none ∧ ∀ b, b < 64 → p ∉ G b) ∨ ∃ b i, b < 64 ∧ (G b)[i]? = some p ∧ zown G p = some (b, i) := by
  by_cases hx : ∀ b, b < 64 → p ∉ G b
  · exact Or.inl ⟨zown_none hx, hx⟩
  · right
    simp only [Classical.not_forall, Classical.not_not] at hx
    obtain ⟨b, hb, hpb⟩ := hx
    obtain ⟨i, hi⟩ := List.getElem?_of_mem hpb
    exact ⟨b, i, hb, hi, zown_some hG hb hi⟩
noncomputable def zfl (A : zzA) (p : Nat) : Nat := match zown (zA_G A) p with
  | some q => zfil (zA_c A) (zA_E A q.1).length q.2
  | none => 0
noncomputable def zpl (A : zzA) (p : Nat) : Nat := match zown (zA_G A) p with
  | some q => q.2
  | none => 0
/-- pages in use, and what all finds together cost -/
noncomputable def zuse (A : zzA) : Nat := zcnt (fun p => (zown (zA_G A) p).isSome) 256
noncomputable def zall (A : zzA) : Nat := zsum (fun p => (zpl A p + 1) * zfl A p) 256
theorem zuse_le (A : zzA) : zuse A ≤ 256 := zcnt_le _ _
theorem cUse {N o : Nat} {M : zzMem} {A : zzA} (hW : zWF N A) (h : zRC M o A) : f_X0_usedPages (o + 4) M = some (nI (zuse A)) := by
  refine cUsed (N := N) (A := A) (fun p hp => ?_)
  rcases zown_cases hW.gok p with ⟨h1, h2⟩ | ⟨b, i, hb, hi, h1⟩
  · rw [h1, h.2.2.1.2.2.2.2.1 p hp h2]; simp
  · rw [h1, (h.2.2.1.2.2.2.2.2.1 b hb i p hi).1]
    simp [nI_nm1 (show b < 2147483648 by omega)]
theorem mUse {N N' : Nat} {M : zzMem} {A : zzA} (hW : zWF N' A) (h : zRM M 0 N A) : f_X10_pagesTaken M = some (nI (zuse A)) := by
  refine mUsed (fun p hp => ?_)
  rcases zown_cases hW.gok p with ⟨h1, h2⟩ | ⟨b, i, hb, hi, h1⟩
  · have := h.2.2.2.1.1 p hp h2
    rw [Nat.zero_add] at this
    rw [h1, this]; simp
  · have := (h.2.2.2.1.2 b hb i p hi).1
    rw [Nat.zero_add] at this
    rw [h1, this]
    simp [nI_nm1 (show b < 2147483648 by omega)]
theorem cAllReads {N o : Nat} {M : zzMem} {A : zzA} (hW : zWF N A) (h : zRC M o A) : f_X0_allReads (o + 4) M = some (nI (zall A)) := by
  unfold f_X0_allReads j_X0_allReads_4 zall
  refine zlp_for (B := fun s : (Int32 × Int32) => b_X0_allReads_4 (o + 4) s.1 s.2 M) (fun i => (nI (zsum (fun p => (zpl A p + 1) * zfl A p) i), nI i)) 256 _ (fun p hp => ?_) ?_ 0 (by omega)
  · unfold b_X0_allReads_4
    rcases zown_cases hW.gok p with ⟨h1, h2⟩ | ⟨b, i, hb, hi, h1⟩
    · have h0 := h.2.2.1.2.2.2.2.1 p hp h2
      have hz : zfl A p = 0 := by unfold zfl; rw [h1]
      simp (disch := omega) only [ifLe_f, zgd_in, nIc, h0, if_true, zbd, nIadd, zsum, hz, Nat.mul_zero, Nat.add_zero]
    · obtain ⟨o1, o2, o3, -⟩ := h.2.2.1.2.2.2.2.2.1 b hb i p hi
      have hz : zfl A p = zfil (zA_c A) (zA_E A b).length i := by unfold zfl; rw [h1]
      have hp2 : zpl A p = i := by unfold zpl; rw [h1]
      simp (disch := omega) only [ifLe_f, zgd_in, nIc, o1, ifm1, o2, o3, zbd, nIadd, nImul, zsum, hz, hp2, Nat.mul_comm]
  · unfold b_X0_allReads_4
    simp (disch := omega) only [ifLe_t]
theorem cCosting {N o r : Nat} {M : zzMem} {A : zzA} (hW : zWF N A) (h : zRC M o A) (hr : r < 2147483648) : f_X0_keysCosting (o + 4) (nI r) M = some (nI (zsum (fun p => (if zpl A p + 1 = r then 1 else 0) * zfl A p) 256)) := by
  unfold f_X0_keysCosting j_X0_keysCosting_4
  refine zlp_for (B := fun s : (Int32 × Int32) => b_X0_keysCosting_4 (o + 4) (nI r) s.1 s.2 M) (fun i => (nI (zsum (fun p => (if zpl A p + 1 = r then 1 else 0) * zfl A p) i), nI i)) 256 _ (fun p hp => ?_) ?_ 0 (by omega)
  · unfold b_X0_keysCosting_4
    rcases zown_cases hW.gok p with ⟨h1, h2⟩ | ⟨b, i, hb, hi, h1⟩
    · have h0 := h.2.2.1.2.2.2.2.1 p hp h2
      have hz : zfl A p = 0 := by unfold zfl; rw [h1]
      simp (disch := omega) only [ifLe_f, zgd_in, nIc, h0, if_true, zbd, nIadd, zsum, hz, Nat.mul_zero, Nat.add_zero]
    · obtain ⟨o1, o2, o3, -⟩ := h.2.2.1.2.2.2.2.2.1 b hb i p hi
      have hil := (List.getElem?_eq_some_iff.mp hi).1
      have hl := hW.G256 b
      have hz : zfl A p = zfil (zA_c A) (zA_E A b).length i := by unfold zfl; rw [h1]
      have hp2 : zpl A p = i := by unfold zpl; rw [h1]
      by_cases hir : i + 1 = r
      · simp (disch := omega) only [ifLe_f, zgd_in, nIc, o1, ifm1, o2, o3, zbd, nIadd, ifEq_t, zsum, hz, hp2, hir, if_true, Nat.one_mul]
      · simp (disch := omega) only [ifLe_f, zgd_in, nIc, o1, ifm1, o2, o3, zbd, nIadd, ifEq_f, zsum, hz, hp2, if_neg hir, Nat.zero_mul, Nat.add_zero]
  · unfold b_X0_keysCosting_4
    simp (disch := omega) only [ifLe_t]
theorem cMost {N o : Nat} {M : zzMem} {A : zzA} (hW : zWF N A) (h : zRC M o A) : f_X0_mostReads (o + 4) M = some (nI (zmaxf (fun p => if zfl A p = 0 then 0 else zpl A p + 1) 256)) := by
  have hb0 : ∀ p, (if zfl A p = 0 then 0 else zpl A p + 1) ≤ 256 := by
    intro p
    rcases zown_cases hW.gok p with ⟨h1, h2⟩ | ⟨b, i, hb, hi, h1⟩
    · have hz : zfl A p = 0 := by unfold zfl; rw [h1]
      rw [if_pos hz]; omega
    · have hil := (List.getElem?_eq_some_iff.mp hi).1
      have hl := hW.G256 b
      have hp2 : zpl A p = i := by unfold zpl; rw [h1]
      rw [hp2]; split <;> omega
  unfold f_X0_mostReads j_X0_mostReads_4
  refine zlp_for (B := fun s : (Int32 × Int32) => b_X0_mostReads_4 (o + 4) s.1 s.2 M) (fun i => (nI (zmaxf (fun p => if zfl A p = 0 then 0 else zpl A p + 1) i), nI i)) 256 _ (fun p hp => ?_) ?_ 0 (by omega)
  · unfold b_X0_mostReads_4
    have hmx := zmaxf_le hb0 p
    rcases zown_cases hW.gok p with ⟨h1, h2⟩ | ⟨b, i, hb, hi, h1⟩
    · have h0 := h.2.2.1.2.2.2.2.1 p hp h2
      have hz : zfl A p = 0 := by unfold zfl; rw [h1]
      simp (disch := omega) only [ifLe_f, zgd_in, nIc, h0, if_true, zbd, nIadd, zmaxf, hz, Nat.max_zero]
    · obtain ⟨o1, o2, o3, -⟩ := h.2.2.1.2.2.2.2.2.1 b hb i p hi
      have hil := (List.getElem?_eq_some_iff.mp hi).1
      have hl := hW.G256 b
      have hc6 := hW.1.2.2.2.1
      have hz : zfl A p = zfil (zA_c A) (zA_E A b).length i := by unfold zfl; rw [h1]
      have hp2 : zpl A p = i := by unfold zpl; rw [h1]
      have hfl : zfil (zA_c A) (zA_E A b).length i ≤ 6 := by unfold zfil; omega
      by_cases hf0 : zfil (zA_c A) (zA_E A b).length i = 0
      · simp (disch := omega) only [ifLe_f, zgd_in, nIc, o1, ifm1, o2, o3, ifLe0_t, zbd, nIadd, zmaxf, hz, hf0, if_true, Nat.max_zero]
      · simp (disch := omega) only [ifLe_f, zgd_in, nIc, o1, ifm1, o2, o3, ifLe0_f, zbd, nIadd, zmx_nI, zmaxf, hz, if_neg hf0, hp2]
  · unfold b_X0_mostReads_4
    simp (disch := omega) only [ifLe_t]
/-- each key's page, and what it costs -/
theorem mPages {N : Nat} {M : zzMem} {cm : Nat} {A : zzA} {xs : Nat → List Nat} {ke ve be se : Nat → Nat} (hW : zWF N A) (e : zMe M 0 (zA_S A).length cm (zA_E A) xs ke ve be se) (hcm : cm < 2147483648) (hm : M.1 74 7 = nI (zA_S A).length) (hc1 : M.1 74 1 = nI (zA_c A)) (hbe : ∀ x, x < (zA_S A).length → be x < 64) :
    ∃ g : Nat → Nat, (∀ x, x < (zA_S A).length → g x < 256 ∧ f_X10_readsOf (nI x) M = some (nI (zpl A (g x) + 1)) ∧ zpl A (g x) < 300 ∧ 0 < zfl A (g x)) ∧ ∀ p, zcnt (fun x => decide (g x = p)) (zA_S A).length = zfl A p := by
  have hm3 := hW.2.2.2.2.2.2.2.2.1.1
  have hc2 := hW.1.2.2.1
  have hc6 := hW.1.2.2.2.1
  have hpl : ∃ pl : Nat → Nat, ∀ x, x < (zA_S A).length → (xs (be x))[pl x]? = some x := by
    classical
    refine ⟨fun x => if h : x < (zA_S A).length then Classical.choose (List.getElem?_of_mem (e.2.1 x h).2.2.2.2.2) else 0, fun x hx => ?_⟩
    simp only [dif_pos hx]
    exact Classical.choose_spec (List.getElem?_of_mem (e.2.1 x hx).2.2.2.2.2)
  obtain ⟨pl, hpl⟩ := hpl
  have hlt : ∀ x, x < (zA_S A).length → pl x < (zA_E A (be x)).length ∧ pl x / zA_c A < (zA_G A (be x)).length := by
    intro x hx
    have h1 := (List.getElem?_eq_some_iff.mp (hpl x hx)).1
    rw [← e.elen] at h1
    refine ⟨h1, (Nat.div_lt_iff_lt_mul (by omega)).mpr ?_⟩
    have := hW.cap (be x)
    rw [Nat.mul_comm]; omega
  refine ⟨fun x => (zA_G A (be x)).getD (pl x / zA_c A) 0, fun x hx => ?_, fun p => ?_⟩
  · obtain ⟨l1, l2⟩ := hlt x hx
    have hget : (zA_G A (be x))[pl x / zA_c A]? = some ((zA_G A (be x)).getD (pl x / zA_c A) 0) := by simp [List.getD_eq_getElem?_getD, l2]
    have ho := zown_some hW.gok (hbe x hx) hget
    have hp2 : zpl A ((zA_G A (be x)).getD (pl x / zA_c A) 0) = pl x / zA_c A := by unfold zpl; rw [ho]
    have hf2 : zfl A ((zA_G A (be x)).getD (pl x / zA_c A) 0) = zfil (zA_c A) (zA_E A (be x)).length (pl x / zA_c A) := by unfold zfl; rw [ho]
    have hG := hW.G256 (be x)
    have hE := hW.e300 (be x)
    refine ⟨hW.gok.1 _ _ (List.mem_of_getElem? hget), ?_, by rw [hp2]; omega, ?_⟩
    · unfold f_X10_readsOf
      rw [mPlaceOf hm hm3 e hcm hbe (hpl x hx)]
      simp (disch := omega) only [Option.bind_some, hc1, nIdiv, nIadd, hp2]
      rw [zgd_t (nI_ne0 (by omega) (by omega))]
    · rw [hf2]
      unfold zfil
      have := Nat.mul_div_le (pl x) (zA_c A)
      omega
  · rcases zown_cases hW.gok p with ⟨h1, h2⟩ | ⟨b, i, hb, hi, h1⟩
    · have hz : zfl A p = 0 := by unfold zfl; rw [h1]
      rw [hz]
      have := zcnt_list (p := fun x => decide ((zA_G A (be x)).getD (pl x / zA_c A) 0 = p)) (n := (zA_S A).length) (l := []) List.nodup_nil (fun x => ⟨fun h => (by cases h), fun ⟨hx, hh⟩ => ?_⟩)
      · exact this
      · obtain ⟨l1, l2⟩ := hlt x hx
        have hh : (zA_G A (be x)).getD (pl x / zA_c A) 0 = p := by simpa using hh
        refine absurd ?_ (h2 (be x) (hbe x hx))
        rw [← hh]
        refine List.mem_of_getElem? (i := pl x / zA_c A) ?_
        simp [List.getD_eq_getElem?_getD, l2]
    · have hz : zfl A p = zfil (zA_c A) (zA_E A b).length i := by unfold zfl; rw [h1]
      have hil := (List.getElem?_eq_some_iff.mp hi).1
      rw [hz, zcnt_list (l := ((xs b).drop (zA_c A * i)).take (zA_c A)) (((e.xnd b).sublist (List.drop_sublist _ _)).sublist (List.take_sublist _ _)) (fun x => ?_)]
      · rw [List.length_take, List.length_drop, ← e.elen]; rfl
      · constructor
        · intro hx
          obtain ⟨j, hj⟩ := List.getElem?_of_mem hx
          rw [List.getElem?_take] at hj
          split at hj
          · rename_i hjc
            rw [List.getElem?_drop] at hj
            have hxx := e.2.2.1 b x (List.mem_of_getElem? hj)
            refine ⟨hxx.1, ?_⟩
            have hp3 := hpl x hxx.1
            rw [hxx.2] at hp3
            have hpj : pl x = zA_c A * i + j := by
              obtain ⟨q1, q2⟩ := List.getElem?_eq_some_iff.mp hp3
              obtain ⟨q3, q4⟩ := List.getElem?_eq_some_iff.mp hj
              exact (List.getElem_inj (e.xnd b)).mp (q2.trans q4.symm)
            have hdd : pl x / zA_c A = i := by rw [hpj, Nat.mul_add_div (by omega), Nat.div_eq_of_lt hjc]; omega
            show decide ((zA_G A (be x)).getD (pl x / zA_c A) 0 = p) = true
            rw [hxx.2, hdd]
            simp [List.getD_eq_getElem?_getD, hi]
          · cases hj
        · rintro ⟨hx, hh⟩
          obtain ⟨l1, l2⟩ := hlt x hx
          have hh : (zA_G A (be x)).getD (pl x / zA_c A) 0 = p := by simpa using hh
          have hget : (zA_G A (be x))[pl x / zA_c A]? = some p := by rw [← hh]; simp [List.getD_eq_getElem?_getD, l2]
          obtain ⟨e1, e2⟩ := hW.gok.at hget hi
          have hp3 := hpl x hx
          rw [e1] at hp3
          refine List.mem_of_getElem? (i := pl x % zA_c A) ?_
          have hmod := Nat.mod_lt (pl x) (show zA_c A > 0 by omega)
          rw [List.getElem?_take, if_pos hmod, List.getElem?_drop, ← e2, Nat.div_add_mod]
          exact hp3
theorem mAllReads {N : Nat} {M : zzMem} {cm : Nat} {A : zzA} {xs : Nat → List Nat} {ke ve be se : Nat → Nat} (hW : zWF N A) (e : zMe M 0 (zA_S A).length cm (zA_E A) xs ke ve be se) (hcm : cm < 2147483648) (hm : M.1 74 7 = nI (zA_S A).length) (hc1 : M.1 74 1 = nI (zA_c A)) (hbe : ∀ x, x < (zA_S A).length → be x < 64) : f_X10_allReads M = some (nI (zall A)) := by
  have hm3 := hW.2.2.2.2.2.2.2.2.1.1
  obtain ⟨g, g1, g2⟩ := mPages hW e hcm hm hc1 hbe
  have hz : zall A = zsum (fun x => zpl A (g x) + 1) (zA_S A).length := by
    rw [zsum_grp (g := g) (W := fun p => zpl A p + 1) (n := 256) _ (fun x hx => (g1 x hx).1)]
    unfold zall
    exact zsum_congr 256 (fun p _ => by rw [g2 p])
  rw [hz]
  unfold f_X10_allReads j_X10_allReads_4
  refine zlp_for (B := fun s : (Int32 × Int32) => b_X10_allReads_4 s.1 s.2 M) (fun i => (nI (zsum (fun x => zpl A (g x) + 1) i), nI i)) (zA_S A).length _ (fun x hx => ?_) ?_ 0 (by omega)
  · unfold b_X10_allReads_4
    simp (disch := omega) only [hm, ifLe_f, (g1 x hx).2.1, Option.bind_some, zbd, nIadd, zsum]
  · unfold b_X10_allReads_4
    simp (disch := omega) only [hm, ifLe_t]
theorem inT {a lo hi : Nat} (h : lo ≤ a ∧ a ≤ hi) (hh : hi < 2147483648) : f_X9_within (nI a) (nI lo) (nI hi) = true := by
  rw [in_nI (by omega) hh (by omega)]; simp [h]
theorem op_finds (N : Nat) (a : Int32) : zSame N (zR (f_X9_finds a)) (zR (f_X10_finds a)) := by
  refine zSame.rr (fun hN M hI => ?_)
  obtain ⟨tp, A, h1, h2, h3, h4, h5⟩ := hI
  obtain ⟨cm, xs, ke, ve, be, se, hcm, e, hm, hm3, hx, hc1⟩ := h4.fx (by omega) h2
  have hB64 := h2.sB.2.2.1
  have hbe : ∀ x, x < (zA_S A).length → be x < 64 := fun x h => by have := (hx x h).1; omega
  unfold f_X9_finds f_X10_finds
  simp only [in_eq]
  by_cases ha0 : a = nI 0
  · subst ha0
    have := cAllReads (o := 12) h2 h3
    simp only [inT (show 0 ≤ 0 ∧ 0 ≤ 2 by omega) (by omega), if_true, show f_X0_allReads 16 M = _ from this, mAllReads h2 e hcm hm hc1 hbe, show ¬ nI 0 = nI 1 by decide, if_false, show nI 0 = 0 from rfl]
    exact ⟨_, rfl, rfl⟩
  · rw [if_neg ha0]
    by_cases ha1 : a = nI 1
    · subst ha1
      have hmo := cMost (o := 12) h2 h3
      simp only [inT (show 0 ≤ 1 ∧ 1 ≤ 2 by omega) (by omega), if_true, show f_X0_mostReads 16 M = _ from hmo]
      refine ⟨_, rfl, ?_⟩
      obtain ⟨g, g1, g2⟩ := mPages h2 e hcm hm hc1 hbe
      have hz : zmaxf (fun p => if zfl A p = 0 then 0 else zpl A p + 1) 256 = zmaxf (fun x => if x < (zA_S A).length then zpl A (g x) + 1 else 0) (zA_S A).length := by
        apply Nat.le_antisymm
        · refine zmaxf_lub 256 (fun p hp => ?_)
          by_cases hf0 : zfl A p = 0
          · rw [if_pos hf0]; omega
          · rw [if_neg hf0]
            have hc := g2 p
            have hex : ∃ x, x < (zA_S A).length ∧ g x = p := by
              refine Classical.byContradiction (fun hno => hf0 ?_)
              rw [← hc, zcnt_list (l := []) List.nodup_nil (fun x => ⟨fun h => (by cases h), fun ⟨h1, h2⟩ => absurd ⟨x, h1, by simpa using h2⟩ hno⟩)]
              rfl
            obtain ⟨x, hx1, rfl⟩ := hex
            have := zmaxf_ge (f := fun x => if x < (zA_S A).length then zpl A (g x) + 1 else 0) (i := x) (zA_S A).length hx1
            simp only [if_pos hx1] at this
            exact this
        · refine zmaxf_lub _ (fun x hx1 => ?_)
          rw [if_pos hx1]
          obtain ⟨q1, -, -, q4⟩ := g1 x hx1
          have := zmaxf_ge (f := fun p => if zfl A p = 0 then 0 else zpl A p + 1) (i := g x) 256 q1
          rw [if_neg (by omega)] at this
          exact this
      rw [hz]
      have hle : ∀ i, (if i < (zA_S A).length then zpl A (g i) + 1 else 0) ≤ 300 := fun i => by
        by_cases hi : i < (zA_S A).length
        · rw [if_pos hi]; have := (g1 i hi).2.2.1; omega
        · rw [if_neg hi]; omega
      unfold j_X10_finds_36
      refine zlp_for (B := fun s : (Int32 × Int32) => b_X10_finds_36 s.1 s.2 M) (fun i => (nI (zmaxf (fun x => if x < (zA_S A).length then zpl A (g x) + 1 else 0) i), nI i)) (zA_S A).length _ (fun x hx => ?_) ?_ 0 (by omega)
      · unfold b_X10_finds_36
        have hmx := zmaxf_le hle x
        have hl := (g1 x hx).2.2.1
        simp (disch := omega) only [hm, ifLe_f, (g1 x hx).2.1, Option.bind_some, mmx_nI, zbd, nIadd, zmaxf, if_pos hx]
      · unfold b_X10_finds_36
        simp (disch := omega) only [hm, ifLe_t]
    · rw [if_neg ha1]
      by_cases ha2 : a = nI 2
      · subst ha2
        have := cUse (o := 12) h2 h3
        simp only [inT (show 0 ≤ 2 ∧ 2 ≤ 2 by omega) (by omega), if_true, show f_X0_usedPages 16 M = _ from this, mUse h2 h4, show ¬ nI 2 = nI 1 by decide, show ¬ nI 2 = 0 by decide, if_false]
        exact ⟨_, rfl, rfl⟩
      · rw [if_neg ha2]
        rcases inC a 0 2 (by decide) (by decide) with ⟨ha, w, -, hw, rfl⟩ | ha
        · exfalso
          rcases (show w = 0 ∨ w = 1 ∨ w = 2 by omega) with rfl | rfl | rfl
          · exact ha0 rfl
          · exact ha1 rfl
          · exact ha2 rfl
        · simp only [ha, Bool.false_eq_true, if_false]
          exact ⟨_, rfl, rfl⟩
theorem op_costing (N : Nat) (a : Int32) : zSame N (zR (f_X9_costing a)) (zR (f_X10_costing a)) := by
  refine zSame.rr (fun hN M hI => ?_)
  obtain ⟨tp, A, h1, h2, h3, h4, h5⟩ := hI
  obtain ⟨cm, xs, ke, ve, be, se, hcm, e, hm, hm3, hx, hc1⟩ := h4.fx (by omega) h2
  have hB64 := h2.sB.2.2.1
  have hbe : ∀ x, x < (zA_S A).length → be x < 64 := fun x h => by have := (hx x h).1; omega
  unfold f_X9_costing f_X10_costing
  simp only [in_eq]
  rcases inC a 1 150 (by decide) (by decide) with ⟨ha, r, hr1, hr2, rfl⟩ | ha
  · have := cCosting (o := 12) (r := r) h2 h3 (by omega)
    simp only [ha, if_true, show f_X0_keysCosting 16 (nI r) M = _ from this]
    refine ⟨_, rfl, ?_⟩
    obtain ⟨g, g1, g2⟩ := mPages h2 e hcm hm hc1 hbe
    have hz : zsum (fun p => (if zpl A p + 1 = r then 1 else 0) * zfl A p) 256 = zcnt (fun x => decide (zpl A (g x) + 1 = r)) (zA_S A).length := by
      rw [zcnt_zsum]
      simp only [decide_eq_true_eq]
      rw [zsum_grp (g := g) (W := fun p => if zpl A p + 1 = r then 1 else 0) (n := 256) _ (fun x hx => (g1 x hx).1)]
      exact zsum_congr 256 (fun p _ => by rw [g2 p])
    rw [hz]
    unfold j_X10_costing_17
    refine zlp_for (B := fun s : (Int32 × Int32) => b_X10_costing_17 (nI r) s.1 s.2 M) (fun i => (nI (zcnt (fun x => decide (zpl A (g x) + 1 = r)) i), nI i)) (zA_S A).length _ (fun x hx => ?_) ?_ 0 (by omega)
    · unfold b_X10_costing_17
      have hl := (g1 x hx).2.2.1
      by_cases hd : zpl A (g x) + 1 = r
      · simp (disch := omega) only [hm, ifLe_f, (g1 x hx).2.1, Option.bind_some, ifEq_t, zbd, nIadd, zcnt, hd, decide_true, if_true]
      · simp (disch := omega) only [hm, ifLe_f, (g1 x hx).2.1, Option.bind_some, ifEq_f, zbd, nIadd, zcnt, hd, decide_false, Bool.false_eq_true, if_false, Nat.add_zero]
    · unfold b_X10_costing_17
      simp (disch := omega) only [hm, ifLe_t]
  · simp only [ha, Bool.false_eq_true, if_false]
    exact ⟨_, rfl, rfl⟩
