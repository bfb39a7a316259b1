/-! ===== fileIs ===== -/
def zmaxf (f : Nat → Nat) : Nat → Nat
  | 0 => 0
  | n + 1 => max (zmaxf f n) (f n)
theorem zmaxf_le {f : Nat → Nat} {c : Nat} (h : ∀ i, f i ≤ c) : ∀ n, zmaxf f n ≤ c
  | 0 => Nat.zero_le _
  | n + 1 => by
    have := zmaxf_le h n
    have h2 := h n
    unfold zmaxf
    omega
theorem zmx_nI {a b : Nat} (ha : a < 2147483648) (hb : b < 2147483648) : zmx (nI a) (nI b) = nI (max a b) := by
  unfold zmx
  by_cases h : a < b
  · rw [if_pos (nI_lt h hb), Nat.max_eq_right (by omega)]
  · rw [if_neg (nI_nlt (by omega) ha), Nat.max_eq_left (by omega)]
theorem mmx_nI {a b : Nat} (ha : a < 2147483648) (hb : b < 2147483648) : f_X10_max (nI a) (nI b) = nI (max a b) := by
  unfold f_X10_max
  by_cases h : a ≤ b
  · rw [if_pos (nI_le h hb), Nat.max_eq_right h]
  · rw [if_neg (nI_ge (by omega) ha), Nat.max_eq_left (by omega)]
theorem cLoad {N o : Nat} {M : zzMem} {A : zzA} (hW : zWF N A) (h : zRC M o A) : f_X2_load o M = some (nI (100 * (zA_S A).length / (zA_B A * zA_c A))) := by
  have hB := hW.sB
  have hc : 2 ≤ zA_c A ∧ zA_c A ≤ 6 := ⟨hW.1.2.2.1, hW.1.2.2.2.1⟩
  have hl := hW.2.2.2.2.2.2.2.2.1.1
  have h1 : 1 ≤ zA_B A := by unfold zA_B; omega
  have hp : 1 * 2 ≤ zA_B A * zA_c A := Nat.mul_le_mul h1 hc.1
  have hq : zA_B A * zA_c A ≤ 64 * 6 := Nat.mul_le_mul hB.2.2.1 hc.2
  unfold f_X2_load
  simp (disch := omega) only [zbd, cBuck hW h.1, h.1.2.2.2.2.2.2.2.2.2.2.2, nImul, ifLe_t, h.2.2.2.1.1, nIdiv]
  exact zgd_t (nI_ne0 (by omega) (by omega))
theorem mLoad {N : Nat} {M : zzMem} {A : zzA} (hW : zWF N A) (h : zMi M 0 A) : f_X10_load M = some (nI (100 * (zA_S A).length / (zA_B A * zA_c A))) := by
  have hB := hW.sB
  have hc : 2 ≤ zA_c A ∧ zA_c A ≤ 6 := ⟨hW.1.2.2.1, hW.1.2.2.2.1⟩
  have hl := hW.2.2.2.2.2.2.2.2.1.1
  have h1 : 1 ≤ zA_B A := by unfold zA_B; omega
  have hp : 1 * 2 ≤ zA_B A * zA_c A := Nat.mul_le_mul h1 hc.1
  have hq : zA_B A * zA_c A ≤ 64 * 6 := Nat.mul_le_mul hB.2.2.1 hc.2
  have e1 : M.1 74 1 = nI (zA_c A) := by have := h.2.1; simpa using this
  have e7 : M.1 74 7 = nI (zA_S A).length := by have := h.2.2.2.2.2.2.2.1; simpa using this
  unfold f_X10_load
  simp (disch := omega) only [mBuck hW h, Option.bind_some, e1, e7, nImul, nIdiv]
  exact zgd_t (nI_ne0 (by omega) (by omega))
theorem cLongest {N o : Nat} {M : zzMem} {A : zzA} (hW : zWF N A) (h : zRC M o A) : f_X0_longest (o + 4) (nI (zA_B A)) M = some (nI (zmaxf (fun b => (zA_G A b).length) (zA_B A))) := by
  have hB := hW.sB.2.2.1
  unfold f_X0_longest j_X0_longest_4
  refine zlp_for (B := fun s : (Int32 × Int32) => b_X0_longest_4 (o + 4) (nI (zA_B A)) s.1 s.2 M) (fun i => (nI (zmaxf (fun b => (zA_G A b).length) i), nI i)) (zA_B A) _ (fun i hi => ?_) ?_ 0 (by omega)
  · unfold b_X0_longest_4
    have hv := h.2.2.1.2.1 i (by omega)
    have hl := hW.G256 i
    have hm := zmaxf_le hW.G256 i
    simp (disch := omega) only [ifLe_f, zgd_in, nIc, hv, zmx_nI, zbd, nIadd, zmaxf]
  · unfold b_X0_longest_4
    simp (disch := omega) only [ifLe_t]
theorem mLongest {N : Nat} {M : zzMem} {A : zzA} (hW : zWF N A) (h : zMi M 0 A) (hp : zMp M 0 (zA_G A)) : f_X10_longest M = some (nI (zmaxf (fun b => (zA_G A b).length) (zA_B A))) := by
  have hB := hW.sB.2.2.1
  unfold f_X10_longest j_X10_longest_4
  refine zlp_for (B := fun s : (Int32 × Int32) => b_X10_longest_4 s.1 s.2 M) (fun i => (nI (zmaxf (fun b => (zA_G A b).length) i), nI i)) (zA_B A) _ (fun i hi => ?_) ?_ 0 (by omega)
  · unfold b_X10_longest_4
    have hl := hW.G256 i
    have hm := zmaxf_le hW.G256 i
    simp (disch := omega) only [mBuck hW h, Option.bind_some, ifLe_f, mChainOf hW hp, mmx_nI, zbd, nIadd, zmaxf]
  · unfold b_X10_longest_4
    simp (disch := omega) only [mBuck hW h, Option.bind_some, ifLe_t]
theorem zWF.E300 {N : Nat} {M : zzMem} {cm s0 : Nat} {A : zzA} {xs : Nat → List Nat} {ke ve be se : Nat → Nat} (hW : zWF N A) (e : zMe M s0 (zA_S A).length cm (zA_E A) xs ke ve be se) (b : Nat) : (zA_E A b).length ≤ 300 := by
  have hlen := hW.2.2.2.2.2.2.2.2.1.1
  have : zcnt (fun x => decide (x ∈ xs b)) (zA_S A).length = (xs b).length := zcnt_list (e.xnd b) (fun x => ⟨fun h => ⟨(e.2.2.1 b x h).1, by simp [h]⟩, fun h => by simpa using h.2⟩)
  rw [e.2.2.2.2, List.length_map, ← this]
  have := zcnt_le (fun x => decide (x ∈ xs b)) (zA_S A).length
  omega
theorem cWithout {N o : Nat} {M : zzMem} {A : zzA} (hW : zWF N A) (hE : ∀ b, (zA_E A b).length ≤ 300) (h : zRC M o A) : f_X0_withoutKeys (o + 4) (nI (zA_B A)) M = some (nI (zcnt (fun b => decide ((zA_E A b).length = 0)) (zA_B A))) := by
  have hB := hW.sB.2.2.1
  unfold f_X0_withoutKeys j_X0_withoutKeys_4
  refine zlp_for (B := fun s : (Int32 × Int32) => b_X0_withoutKeys_4 (o + 4) (nI (zA_B A)) s.1 s.2 M) (fun i => (nI (zcnt (fun b => decide ((zA_E A b).length = 0)) i), nI i)) (zA_B A) _ (fun i hi => ?_) ?_ 0 (by omega)
  · unfold b_X0_withoutKeys_4
    have hv := h.2.2.1.1 i (by omega)
    have hl := hE i
    by_cases hd : (zA_E A i).length = 0
    · simp (disch := omega) only [ifLe_f, zgd_in, nIc, hv, ifE0_t, hd, zbd, nIadd, zcnt, decide_true, if_true]
    · simp (disch := omega) only [ifLe_f, zgd_in, nIc, hv, ifE0_f, hd, zbd, nIadd, zcnt, decide_false, Bool.false_eq_true, if_false, Nat.add_zero]
  · unfold b_X0_withoutKeys_4
    simp (disch := omega) only [ifLe_t]
theorem mEmpty {N : Nat} {M : zzMem} {cm : Nat} {A : zzA} {xs : Nat → List Nat} {ke ve be se : Nat → Nat} (hW : zWF N A) (hm : zMi M 0 A) (e : zMe M 0 (zA_S A).length cm (zA_E A) xs ke ve be se) : f_X10_emptyOnes M = some (nI (zcnt (fun b => decide ((zA_E A b).length = 0)) (zA_B A))) := by
  have hB := hW.sB.2.2.1
  unfold f_X10_emptyOnes j_X10_emptyOnes_4
  refine zlp_for (B := fun s : (Int32 × Int32) => b_X10_emptyOnes_4 s.1 s.2 M) (fun i => (nI (zcnt (fun b => decide ((zA_E A b).length = 0)) i), nI i)) (zA_B A) _ (fun i hi => ?_) ?_ 0 (by omega)
  · unfold b_X10_emptyOnes_4
    have hl := hW.E300 e i
    simp (disch := omega) only [mBuck hW hm, Option.bind_some, ifLe_f, mKeysIn hW hm e]
    by_cases hd : (zA_E A i).length = 0
    · simp (disch := omega) only [ifE0_t, hd, zbd, nIadd, zcnt, decide_true, if_true]
    · simp (disch := omega) only [ifE0_f, hd, zbd, nIadd, zcnt, decide_false, Bool.false_eq_true, if_false, Nat.add_zero]
  · unfold b_X10_emptyOnes_4
    simp (disch := omega) only [mBuck hW hm, Option.bind_some, ifLe_t]
theorem op_fileIs (N : Nat) (a : Int32) : zSame N (zR (f_X9_fileIs a)) (zR (f_X10_fileIs a)) := by
  refine zSame.rr (fun hN M hI => ?_)
  obtain ⟨tp, A, h1, h2, h3, h4, h5⟩ := hI
  obtain ⟨u, hu, u1, u2⟩ := usedB h2 h3 h4
  have hc := h3.1
  have hm := h4.1
  unfold zMi at hm
  simp only [Nat.zero_add] at hm
  have hm0 := h4.1
  obtain ⟨-, -, ⟨cm, xs, ke, ve, be, se, hcm, e⟩, hp, -⟩ := h4
  have hbk : f_X2_buckets 12 M = nI (zA_B A) := cBuck h2 h3.1
  unfold f_X9_fileIs f_X10_fileIs
  by_cases e0 : a = nI 0
  · subst e0
    refine ⟨nI (zA_n A), ?_, ?_⟩
    · rw [if_pos rfl]; exact congrArg some hc.1
    · rw [if_pos rfl, zgd_in (by decide) (by decide), nIc (by decide)]; exact congrArg some hm.1
  rw [if_neg e0, if_neg e0]
  by_cases e1 : a = nI 1
  · subst e1
    refine ⟨nI (zA_c A), ?_, ?_⟩
    · rw [if_pos rfl]; exact congrArg some hc.2.2.2.2.2.2.2.2.2.2.2
    · rw [if_pos rfl, zgd_in (by decide) (by decide), nIc (by decide)]; exact congrArg some hm.2.1
  rw [if_neg e1, if_neg e1]
  by_cases e2 : a = nI 2
  · subst e2
    refine ⟨nI (zA_up A), ?_, ?_⟩
    · rw [if_pos rfl]; exact congrArg some hc.2.1
    · rw [if_pos rfl, zgd_in (by decide) (by decide), nIc (by decide)]; exact congrArg some hm.2.2.1
  rw [if_neg e2, if_neg e2]
  by_cases e3 : a = nI 3
  · subst e3
    refine ⟨nI (zA_dn A), ?_, ?_⟩
    · rw [if_pos rfl]; exact congrArg some hc.2.2.1
    · rw [if_pos rfl, zgd_in (by decide) (by decide), nIc (by decide)]; exact congrArg some hm.2.2.2.1
  rw [if_neg e3, if_neg e3]
  by_cases e4 : a = nI 4
  · subst e4
    refine ⟨nI (zA_po A), ?_, ?_⟩
    · rw [if_pos rfl]; exact congrArg some hc.2.2.2.1
    · rw [if_pos rfl, zgd_in (by decide) (by decide), nIc (by decide)]; exact congrArg some hm.2.2.2.2.1
  rw [if_neg e4, if_neg e4]
  by_cases e5 : a = nI 5
  · subst e5
    refine ⟨nI (zA_lv A), ?_, ?_⟩
    · rw [if_pos rfl]; exact congrArg some hc.2.2.2.2.1
    · rw [if_pos rfl, zgd_in (by decide) (by decide), nIc (by decide)]; exact congrArg some hm.2.2.2.2.2.1
  rw [if_neg e5, if_neg e5]
  by_cases e6 : a = nI 6
  · subst e6
    refine ⟨nI (zA_pt A), ?_, ?_⟩
    · rw [if_pos rfl]; exact congrArg some hc.2.2.2.2.2.1
    · rw [if_pos rfl, zgd_in (by decide) (by decide), nIc (by decide)]; exact congrArg some hm.2.2.2.2.2.2.1
  rw [if_neg e6, if_neg e6]
  by_cases e7 : a = nI 7
  · subst e7
    exact ⟨nI (zA_B A), by rw [if_pos rfl, hbk], by rw [if_pos rfl, mBuck h2 hm0]; rfl⟩
  rw [if_neg e7, if_neg e7]
  by_cases e8 : a = nI 8
  · subst e8
    exact ⟨nI (zA_S A).length, by rw [if_pos rfl]; exact congrArg some h3.2.2.2.1.1, by rw [if_pos rfl]; exact congrArg some hm.2.2.2.2.2.2.2.1⟩
  rw [if_neg e8, if_neg e8]
  by_cases e9 : a = nI 9
  · subst e9
    exact ⟨nI u, by rw [if_pos rfl, u1]; rfl, by rw [if_pos rfl, u2]; rfl⟩
  rw [if_neg e9, if_neg e9]
  by_cases e10 : a = nI 10
  · subst e10
    exact ⟨_, by rw [if_pos rfl, cLoad h2 h3]; rfl, by rw [if_pos rfl, mLoad h2 hm0]; rfl⟩
  rw [if_neg e10, if_neg e10]
  by_cases e11 : a = nI 11
  · subst e11
    exact ⟨zA_rd A, by rw [if_pos rfl]; exact congrArg some hc.2.2.2.2.2.2.1, by rw [if_pos rfl]; exact congrArg some hm.2.2.2.2.2.2.2.2.1⟩
  rw [if_neg e11, if_neg e11]
  by_cases e12 : a = nI 12
  · subst e12
    exact ⟨zA_wr A, by rw [if_pos rfl]; exact congrArg some hc.2.2.2.2.2.2.2.1, by rw [if_pos rfl]; exact congrArg some hm.2.2.2.2.2.2.2.2.2.1⟩
  rw [if_neg e12, if_neg e12]
  by_cases e13 : a = nI 13
  · subst e13
    exact ⟨_, by rw [if_pos rfl, hbk, cLongest (o := 12) h2 h3]; rfl, by rw [if_pos rfl, mLongest h2 hm0 hp]; rfl⟩
  rw [if_neg e13, if_neg e13]
  by_cases e14 : a = nI 14
  · subst e14
    exact ⟨_, by rw [if_pos rfl, hbk, cWithout (o := 12) h2 (h2.E300 e) h3]; rfl, by rw [if_pos rfl, mEmpty h2 hm0 e]; rfl⟩
  rw [if_neg e14, if_neg e14]
  by_cases e15 : a = nI 15
  · subst e15
    exact ⟨zA_sp A, by rw [if_pos rfl]; exact congrArg some hc.2.2.2.2.2.2.2.2.1, by rw [if_pos rfl]; exact congrArg some hm.2.2.2.2.2.2.2.2.2.2.1⟩
  rw [if_neg e15, if_neg e15]
  by_cases e16 : a = nI 16
  · subst e16
    exact ⟨zA_jn A, by rw [if_pos rfl]; exact congrArg some hc.2.2.2.2.2.2.2.2.2.1, by rw [if_pos rfl]; exact congrArg some hm.2.2.2.2.2.2.2.2.2.2.2.1⟩
  rw [if_neg e16, if_neg e16]
  exact ⟨_, rfl, rfl⟩
