/-! ===== how many keys a page should have ===== -/
theorem zput_inv (B : zzA) (k v : Nat) : (zput B k v).2.1 = B.1 ∧ zA_dr (zput B k v).2 = zA_dr B ∧ zA_law (zput B k v).2 = zA_law B := by
  have hi : ∀ C : zzA, (zspi C).1 = C.1 ∧ zA_dr (zspi C) = zA_dr C ∧ zA_law (zspi C) = zA_law C := fun C => by
    unfold zspi
    split
    · exact ⟨rfl, rfl, rfl⟩
    · exact ⟨rfl, rfl, rfl⟩
  unfold zput
  cases zfi (zA_E B (zA_a B k)) k with
  | some t => exact ⟨rfl, rfl, rfl⟩
  | none =>
    show (if (zA_S B).length < 300 then (nI 0, zpuD B k v) else ((-3 : Int32), B)).2.1 = B.1 ∧ zA_dr (if (zA_S B).length < 300 then (nI 0, zpuD B k v) else ((-3 : Int32), B)).2 = zA_dr B ∧ zA_law (if (zA_S B).length < 300 then (nI 0, zpuD B k v) else ((-3 : Int32), B)).2 = zA_law B
    by_cases h : (zA_S B).length < 300
    · rw [if_pos h]
      show (zpuD B k v).1 = B.1 ∧ zA_dr (zpuD B k v) = zA_dr B ∧ zA_law (zpuD B k v) = zA_law B
      unfold zpuD
      by_cases hd : zdue (zpuN B k v) (znew B k) = true
      · rw [if_pos hd]
        exact hi (zpuN B k v)
      · rw [if_neg hd]
        exact ⟨rfl, rfl, rfl⟩
    · rw [if_neg h]
      exact ⟨rfl, rfl, rfl⟩
noncomputable def ztun (A : zzA) (c : Nat) : Nat → zzA
  | 0 => zA0 (zA_n A) c (zA_up A) (zA_dn A) (zA_po A) (zA_dr A) (zA_law A)
  | t + 1 => (zput (ztun A c t) ((zA_S A).getD t 0) 0).2
noncomputable def zcst (A : zzA) (w c : Nat) : Nat := if w = 0 then zall (ztun A c (zA_S A).length) else zuse (ztun A c (zA_S A).length) * c
noncomputable def zbtu (A : zzA) (w : Nat) : Nat → Nat × Nat
  | 0 => (0, 0)
  | t + 1 => if t = 0 then (2, zcst A w 2) else if zcst A w (t + 2) < (zbtu A w t).2 then (t + 2, zcst A w (t + 2)) else zbtu A w t
section TU
variable {N : Nat} {A : zzA}
theorem ztun_inv (A : zzA) (c : Nat) : ∀ t, (ztun A c t).1 = (zA_n A, c, zA_up A, zA_dn A, zA_po A) ∧ zA_dr (ztun A c t) = zA_dr A ∧ zA_law (ztun A c t) = zA_law A
  | 0 => ⟨rfl, rfl, rfl⟩
  | t + 1 => by
    obtain ⟨h1, h2, h3⟩ := ztun_inv A c t
    obtain ⟨g1, g2, g3⟩ := zput_inv (ztun A c t) ((zA_S A).getD t 0) 0
    exact ⟨g1.trans h1, g2.trans h2, g3.trans h3⟩
theorem zall_lt (hW : zWF N A) : zall A < 1000000 := by
  have hc := hW.c2
  have hb : ∀ p, (zpl A p + 1) * zfl A p ≤ 257 * 6 := fun p => by
    refine Nat.mul_le_mul ?_ ?_
    · rcases zown_cases hW.gok p with ⟨h1, h2⟩ | ⟨b, i, hb, hi, h1⟩
      · unfold zpl; rw [h1]; show 0 + 1 ≤ 257; omega
      · have h3 := (List.getElem?_eq_some_iff.mp hi).1
        have h4 := hW.gok.len b
        unfold zpl; rw [h1]
        show i + 1 ≤ 257
        omega
    · rcases zown_cases hW.gok p with ⟨h1, h2⟩ | ⟨b, i, hb, hi, h1⟩
      · unfold zfl; rw [h1]; show 0 ≤ 6; omega
      · unfold zfl; rw [h1]
        show zfil (zA_c A) (zA_E A b).length i ≤ 6
        unfold zfil
        omega
  have h1 := zsum_le (f := fun p => (zpl A p + 1) * zfl A p) (g := fun _ => 257 * 6) 256 (fun p _ => hb p)
  have h2 : ∀ n, zsum (fun _ => 257 * 6) n = n * (257 * 6) := fun n => by
    induction n with
    | zero => rfl
    | succ n ih => rw [zsum, ih]; omega
  rw [h2] at h1
  unfold zall
  omega
theorem ztun_wf (hW : zWF N A) {c : Nat} (h2 : 2 ≤ c) (h6 : c ≤ 6) : ∀ t, t ≤ (zA_S A).length → zWF N (ztun A c t)
  | 0, _ => zA0_wf hW.1.1 hW.1.2.1 h2 h6 hW.1.2.2.2.2.1 hW.1.2.2.2.2.2.1 hW.1.2.2.2.2.2.2.1 hW.1.2.2.2.2.2.2.2.1 hW.1.2.2.2.2.2.2.2.2.2.2.1 hW.hok
  | t + 1, ht => zput_wf (ztun_wf hW h2 h6 t (by omega)) (hW.key (List.mem_of_getElem? (zgetD (show t < (zA_S A).length by omega)))) (by decide)
theorem zcst_lt (hW : zWF N A) (w : Nat) {c : Nat} (h2 : 2 ≤ c) (h6 : c ≤ 6) : zcst A w c < 1000000 := by
  unfold zcst
  split
  · exact zall_lt (ztun_wf hW h2 h6 _ (Nat.le_refl _))
  · have := zuse_le (ztun A c (zA_S A).length)
    have : zuse (ztun A c (zA_S A).length) * c ≤ 256 * 6 := Nat.mul_le_mul this h6
    omega
theorem zbtu_ok (hW : zWF N A) (w : Nat) : ∀ t, t ≤ 5 → (zbtu A w t).2 < 1000000 ∧ (zbtu A w t).1 ≤ 6 ∧ (0 < t → 2 ≤ (zbtu A w t).1)
  | 0, _ => ⟨by show 0 < 1000000; decide, by show 0 ≤ 6; decide, fun h => by omega⟩
  | t + 1, ht => by
    obtain ⟨h1, h2, h3⟩ := zbtu_ok hW w t (by omega)
    unfold zbtu
    by_cases h0 : t = 0
    · rw [if_pos h0]
      exact ⟨zcst_lt hW w (by omega) (by omega), by omega, fun _ => Nat.le_refl _⟩
    · rw [if_neg h0]
      by_cases hl : zcst A w (t + 2) < (zbtu A w t).2
      · rw [if_pos hl]
        exact ⟨zcst_lt hW w (by omega) (by omega), by show t + 2 ≤ 6; omega, fun _ => by show 2 ≤ t + 2; omega⟩
      · rw [if_neg hl]
        exact ⟨h1, h2, fun _ => h3 (by omega)⟩
theorem c148 (hW : zWF N A) {M : zzMem} {w t : Nat} (ht : t < 5) : j_X9_tuned_148 (nI w) (nI (zbtu A w t).1) (nI (zbtu A w t).2) (nI (t + 2)) (nI (zcst A w (t + 2))) M = some (.inl (nI (zbtu A w (t + 1)).1, nI (zbtu A w (t + 1)).2, nI (t + 1 + 2), M)) := by
  obtain ⟨h1, h2, h3⟩ := zbtu_ok hW w t (by omega)
  have hc := zcst_lt hW w (show 2 ≤ t + 2 by omega) (show t + 2 ≤ 6 by omega)
  unfold j_X9_tuned_148 j_X9_tuned_160
  simp only [zbd, nIadd]
  rw [show t + 2 + 1 = t + 1 + 2 by omega]
  by_cases h0 : t = 0
  · subst h0
    rw [ifE0_t (show (zbtu A w 0).1 = 0 from rfl)]
    rfl
  · have e : zbtu A w (t + 1) = if zcst A w (t + 2) < (zbtu A w t).2 then (t + 2, zcst A w (t + 2)) else zbtu A w t := by rw [zbtu, if_neg h0]
    rw [ifE0_f (by have := h3 (by omega); omega) (by omega), e]
    by_cases hl : zcst A w (t + 2) < (zbtu A w t).2
    · rw [ifLe_f hl (by omega), if_pos hl]
    · rw [ifLe_t (by omega) (by omega), if_neg hl]
theorem m153 (hW : zWF N A) {M : zzMem} {w t : Nat} {m : Int32} (ht : t < 5) : j_X10_tuned_153 (nI w) m (if t = 0 then (-1 : Int32) else nI (zbtu A w t).1) (nI (zbtu A w t).2) (nI (t + 2)) (nI (zcst A w (t + 2))) M = some (.inl (if t + 1 = 0 then (-1 : Int32) else nI (zbtu A w (t + 1)).1, nI (zbtu A w (t + 1)).2, nI (t + 1 + 2), M)) := by
  obtain ⟨h1, h2, h3⟩ := zbtu_ok hW w t (by omega)
  have hc := zcst_lt hW w (show 2 ≤ t + 2 by omega) (show t + 2 ≤ 6 by omega)
  unfold j_X10_tuned_153 j_X10_tuned_167
  simp only [zbd, nIadd]
  rw [show t + 2 + 1 = t + 1 + 2 by omega, if_neg (show ¬ t + 1 = 0 by omega)]
  by_cases h0 : t = 0
  · subst h0
    rw [if_pos (show (if 0 = 0 then (-1 : Int32) else nI (zbtu A w 0).1) = (-1 : Int32) from if_pos rfl)]
    rfl
  · have e : zbtu A w (t + 1) = if zcst A w (t + 2) < (zbtu A w t).2 then (t + 2, zcst A w (t + 2)) else zbtu A w t := by rw [zbtu, if_neg h0]
    rw [if_neg h0, ifm1 (by omega), e]
    by_cases hl : zcst A w (t + 2) < (zbtu A w t).2
    · rw [ifLe_f hl (by omega), if_pos hl]
    · rw [ifLe_t (by omega) (by omega), if_neg hl]
set_option maxHeartbeats 1000000 in
theorem cTuned {M : zzMem} {w : Nat} (hW : zWF N A) (hw : w ≤ 1) (h : zRC M 12 A) : ∃ M', f_X9_tuned (nI w) M = some (nI (zbtu A w 5).1, M') ∧ zFr (zcpS 52) M M' := by
  have hlen := hW.2.2.2.2.2.2.2.2.1.1
  have hin : f_X9_within (nI w) (nI 0) (nI 1) = true := by rw [in_nI (by omega) (by omega) (by omega)]; simp; omega
  obtain ⟨M2, c1, c2, c3⟩ := cCopy (o := 52) (p := 12) (by omega) hW h
  have hinner : ∀ t, t < 5 → ∀ X, zRC X 12 A → zRC X 52 (ztun A (t + 2) 0) → ∃ Y, j_X9_tuned_76 (nI w) (nI (zbtu A w t).1) (nI (zbtu A w t).2) (nI (t + 2)) (nI 0) X = some (.inl (nI (zbtu A w (t + 1)).1, nI (zbtu A w (t + 1)).2, nI (t + 1 + 2), Y)) ∧ zFr (zcpS 52) X Y ∧ zRC Y 52 (ztun A (t + 2) (zA_S A).length) := by
    intro t ht X hX1 hX2
    unfold j_X9_tuned_76
    have hZ := zlp_forI (B := fun s : (Int32 × zzMem) => b_X9_tuned_76 (nI w) (nI (zbtu A w t).1) (nI (zbtu A w t).2) (nI (t + 2)) s.1 s.2) (fun i Z => (nI i, Z)) (fun i Z => zRC Z 52 (ztun A (t + 2) i) ∧ zFr (zcpS 52) X Z) (zA_S A).length (fun r => ∃ Y, r = .inl (nI (zbtu A w (t + 1)).1, nI (zbtu A w (t + 1)).2, nI (t + 1 + 2), Y) ∧ zFr (zcpS 52) X Y ∧ zRC Y 52 (ztun A (t + 2) (zA_S A).length)) (fun i hi Z hZ => ?_) (fun Z hZ => ?_) 0 (by omega) X ⟨hX2, zFr.refl X⟩
    · obtain ⟨r, r1, Y, rfl, r2, r3⟩ := hZ
      exact ⟨Y, r1, r2, r3⟩
    · obtain ⟨z1, z2⟩ := hZ
      have hZ1 : zRC Z 12 A := hX1.frS z2 (by intro k i; unfold zcpS; omega)
      have hs1 : Z.1 27 1 = nI (zA_S A).length := hZ1.2.2.2.1.1
      have hk := hW.key (List.mem_of_getElem? (zgetD hi))
      obtain ⟨Y, y1, y2, y3⟩ := cStore (v := 0) (ztun_wf hW (by omega) (by omega) i (by omega)) z1 hk (by omega)
      refine ⟨Y, ?_, y2, z2.trans y3⟩
      show b_X9_tuned_76 (nI w) (nI (zbtu A w t).1) (nI (zbtu A w t).2) (nI (t + 2)) (nI i) Z = _
      unfold b_X9_tuned_76
      rw [hs1, ifLe_f hi (by omega), cKeyAt (o := 27) hW hZ1.2.2.2.1 hi, Option.bind_some, y1]
      simp only [Option.bind_some, zpr, zbd, nIadd]
    · obtain ⟨z1, z2⟩ := hZ
      have hZ1 : zRC Z 12 A := hX1.frS z2 (by intro k i; unfold zcpS; omega)
      have hs1 : Z.1 27 1 = nI (zA_S A).length := hZ1.2.2.2.1.1
      have hWt := ztun_wf hW (show 2 ≤ t + 2 by omega) (show t + 2 ≤ 6 by omega) (zA_S A).length (Nat.le_refl _)
      refine ⟨.inl (nI (zbtu A w (t + 1)).1, nI (zbtu A w (t + 1)).2, nI (t + 1 + 2), Z), ?_, Z, rfl, z2, z1⟩
      show b_X9_tuned_76 (nI w) (nI (zbtu A w t).1) (nI (zbtu A w t).2) (nI (t + 2)) (nI (zA_S A).length) Z = _
      have h148 := c148 (M := Z) (w := w) hW ht
      unfold zcst at h148
      unfold b_X9_tuned_76
      rw [hs1, ifLe_t (Nat.le_refl _) (by omega)]
      by_cases h0 : w = 0
      · rw [ifE0_t h0, cAllReads (o := 52) hWt z1, Option.bind_some]
        rw [if_pos h0] at h148
        rw [h148]; rfl
      · rw [ifE0_f (by omega) (by omega), cUse (o := 52) hWt z1, Option.bind_some, nImul]
        rw [if_neg h0] at h148
        rw [h148]; rfl
  have hZ := zlp_forI (B := fun s : (Int32 × Int32 × Int32 × zzMem) => b_X9_tuned_29 (nI w) s.1 s.2.1 s.2.2.1 s.2.2.2) (fun t X => (nI (zbtu A w t).1, nI (zbtu A w t).2, nI (t + 2), X)) (fun t X => zFr (zcpS 52) M X ∧ zLc X 53 (zA_law A) ∧ X.1 52 14 = nI (zA_dr A)) 5 (fun r => r.1 = nI (zbtu A w 5).1 ∧ zFr (zcpS 52) M r.2) (fun t ht X hX => ?_) (fun X hX => ?_) 0 (by omega) M2 ⟨c3, c2.2.1, c2.1.2.2.2.2.2.2.2.2.2.2.1⟩
  · obtain ⟨r, r1, r2, r3⟩ := hZ
    refine ⟨r.2, ?_, r3⟩
    unfold f_X9_tuned j_X9_tuned_29
    rw [if_pos hin, c1, Option.bind_some, ← r2]
    exact r1
  · obtain ⟨x1, x2, x3⟩ := hX
    have hX1 : zRC X 12 A := h.frS x1 (by intro k i; unfold zcpS; omega)
    have g4 : X.1 12 4 = nI (zA_n A) := hX1.1.1
    have g5 : X.1 12 5 = nI (zA_up A) := hX1.1.2.1
    have g6 : X.1 12 6 = nI (zA_dn A) := hX1.1.2.2.1
    have g7 : X.1 12 7 = nI (zA_po A) := hX1.1.2.2.2.1
    obtain ⟨Y, y1, y2, y3⟩ := cReset (o := 52) (c := t + 2) (up := zA_up A) (dn := zA_dn A) (po := zA_po A) hW.1.1 hW.1.2.1 (by omega) x2 x3
    have fY : zFr (zcpS 52) X Y := y3.weak (fun k i h => by unfold zcpS; omega)
    obtain ⟨Z, z1, z2, z3⟩ := hinner t ht Y (hX1.frS fY (by intro k i; unfold zcpS; omega)) y2
    obtain ⟨i1, i2, i3⟩ := ztun_inv A (t + 2) (zA_S A).length
    refine ⟨Z, ?_, (x1.trans fY).trans z2, ?_, ?_⟩
    · show b_X9_tuned_29 (nI w) (nI (zbtu A w t).1) (nI (zbtu A w t).2) (nI (t + 2)) X = _
      unfold b_X9_tuned_29
      rw [ifLt_f (by omega) (by omega), g4, g5, g6, g7, y1, Option.bind_some, z1]
    · rw [← i3]; exact z3.2.1
    · rw [← i2]; exact z3.1.2.2.2.2.2.2.2.2.2.2.1
  · refine ⟨(nI (zbtu A w 5).1, X), ?_, rfl, hX.1⟩
    show b_X9_tuned_29 (nI w) (nI (zbtu A w 5).1) (nI (zbtu A w 5).2) (nI (5 + 2)) X = _
    unfold b_X9_tuned_29
    rw [ifLt_t (by omega) (by omega)]
set_option maxHeartbeats 1000000 in
theorem mTuned {M : zzMem} {w : Nat} (hN : N ≤ 600) (hW : zWF N A) (hw : w ≤ 1) (h : zRM M 0 N A) : ∃ M', f_X10_tuned (nI w) M = some (nI (zbtu A w 5).1, M') ∧ zRM M' 0 N A ∧ zFr zmW M M' := by
  have hlen := hW.2.2.2.2.2.2.2.2.1.1
  have hin : f_X9_within (nI w) (nI 0) (nI 1) = true := by rw [in_nI (by omega) (by omega) (by omega)]; simp; omega
  obtain ⟨M2, c1, c2, c3⟩ := mCopies (x := 0) (y := 2) M (by omega) (by omega) (by omega)
  have h2 : zRM M2 0 N A := h.frS hW c2 (by intro i; omega)
  obtain ⟨cm, xs, ke, ve, be, se, hcm, e, hm, hm3, hx, hc1⟩ := h2.rc.fx hW
  obtain ⟨X, u1, u2, u3⟩ := zsrt hW e
  obtain ⟨M3, o1, o2, o3⟩ := mOrders hW h2.1 h2.2.1 e u1 u2 u3
  have hXl : X.length = (zA_S A).length := by rw [← u1, List.length_map]
  have h3 : zRM M3 0 N A := h2.frS hW o3 (by intro i; omega)
  have hm7 : M3.1 74 7 = nI (zA_S A).length := by have := h3.1.2.2.2.2.2.2.2.1; simpa using this
  -- the kept slot
  have hback : ∀ Z, (∀ k, k < 1892 → Z.1 74 (3784 + k) = M.1 74 k) → ∃ Z', f_X10_copies (nI 2) (nI 0) Z = some Z' ∧ zRM Z' 0 N A ∧ zFr (fun a b => a = 74 ∧ b < 1892) Z Z' := by
    intro Z hZ
    obtain ⟨Z', k1, k2, k3⟩ := mCopies (x := 2) (y := 0) Z (by omega) (by omega) (by omega)
    refine ⟨Z', k1, ?_, k2.weak (fun k i h => by omega)⟩
    exact h.copy (t := 0) hW (fun k hk => by
      rw [show 0 + k = 1892 * 0 + k by omega, k3 k hk, hZ k hk, show 0 + k = k by omega])
  have hkeep0 : ∀ k, k < 1892 → M3.1 74 (3784 + k) = M.1 74 k := fun k hk => by
    rw [(o3 _ _ (by omega)).1, show 3784 + k = 1892 * 2 + k by omega, c3 k hk, show 1892 * 0 + k = k by omega]
  -- one c
  have hinner : ∀ t, t < 5 → ∀ X, zRc X 0 0 (ztun A (t + 2) 0) → (∀ i, i < (zA_S A).length → X.1 90 i = nI ((zA_S A).getD i 0)) → ∃ Y, j_X10_tuned_110 (nI w) (nI (zA_S A).length) (if t = 0 then (-1 : Int32) else nI (zbtu A w t).1) (nI (zbtu A w t).2) (nI (t + 2)) (nI 0) X = some (.inl (if t + 1 = 0 then (-1 : Int32) else nI (zbtu A w (t + 1)).1, nI (zbtu A w (t + 1)).2, nI (t + 1 + 2), Y)) ∧ zFr zmN X Y ∧ zRc Y 0 (301 * 300) (ztun A (t + 2) (zA_S A).length) := by
    intro t ht X hX1 hX2
    unfold j_X10_tuned_110
    have hZ := zlp_forI (B := fun s : (Int32 × zzMem) => b_X10_tuned_110 (nI w) (nI (zA_S A).length) (if t = 0 then (-1 : Int32) else nI (zbtu A w t).1) (nI (zbtu A w t).2) (nI (t + 2)) s.1 s.2) (fun i Z => (nI i, Z)) (fun i Z => zRc Z 0 (301 * i) (ztun A (t + 2) i) ∧ zFr zmN X Z) (zA_S A).length (fun r => ∃ Y, r = .inl (if t + 1 = 0 then (-1 : Int32) else nI (zbtu A w (t + 1)).1, nI (zbtu A w (t + 1)).2, nI (t + 1 + 2), Y) ∧ zFr zmN X Y ∧ zRc Y 0 (301 * 300) (ztun A (t + 2) (zA_S A).length)) (fun i hi Z hZ => ?_) (fun Z hZ => ?_) 0 (by omega) X ⟨hX1, zFr.refl X⟩
    · obtain ⟨r, r1, Y, rfl, r2, r3⟩ := hZ
      exact ⟨Y, r1, r2, r3⟩
    · obtain ⟨z1, z2⟩ := hZ
      have hk := hW.key (List.mem_of_getElem? (zgetD hi))
      have h90 : Z.1 90 i = nI ((zA_S A).getD i 0) := by rw [(z2 _ _ (by unfold zmN; omega)).1]; exact hX2 i hi
      obtain ⟨Y, y1, y2, y3⟩ := mPuts (v := 0) (by omega) (ztun_wf hW (by omega) (by omega) i (by omega)) z1 hk (by omega)
      refine ⟨Y, ?_, y2.mono (by omega), z2.trans y3⟩
      show b_X10_tuned_110 (nI w) (nI (zA_S A).length) _ _ _ (nI i) Z = _
      unfold b_X10_tuned_110
      rw [ifLe_f hi (by omega)]
      simp (disch := omega) only [zgd_in, nIc, h90, y1, Option.bind_some, zpr, zbd, nIadd]
    · obtain ⟨z1, z2⟩ := hZ
      have hWt := ztun_wf hW (show 2 ≤ t + 2 by omega) (show t + 2 ≤ 6 by omega) (zA_S A).length (Nat.le_refl _)
      refine ⟨.inl (if t + 1 = 0 then (-1 : Int32) else nI (zbtu A w (t + 1)).1, nI (zbtu A w (t + 1)).2, nI (t + 1 + 2), Z), ?_, Z, rfl, z2, z1.mono (by omega)⟩
      show b_X10_tuned_110 (nI w) (nI (zA_S A).length) _ _ _ (nI (zA_S A).length) Z = _
      have h153 := m153 (M := Z) (w := w) (m := nI (zA_S A).length) hW ht
      unfold zcst at h153
      unfold b_X10_tuned_110
      rw [ifLe_t (Nat.le_refl _) (by omega)]
      obtain ⟨cm', xs', ke', ve', be', se', hcm', e', hm', hm3', hx', hc1'⟩ := z1.fx hWt
      by_cases h0 : w = 0
      · have hB64 := hWt.sB.2.2.1
        rw [ifE0_t h0, mAllReads hWt e' (by omega) hm' hc1' (fun x hx1 => by have := (hx' x hx1).1; omega), Option.bind_some]
        rw [if_pos h0] at h153
        rw [h153]; rfl
      · rw [ifE0_f (by omega) (by omega), mUse (N := 1000) hWt (z1.rm (N := 1000) (by omega)), Option.bind_some, nImul]
        rw [if_neg h0] at h153
        rw [h153]; rfl
  -- all c
  have hloop : ∀ X, zFr (fun a b => a = 90) M3 X → (∀ i, i < (zA_S A).length → X.1 90 i = nI ((zA_S A).getD i 0)) → ∃ r, j_X10_tuned_70 (nI w) (nI (zA_S A).length) (-1 : Int32) (nI 0) (nI 2) X = some r ∧ r.1 = nI (zbtu A w 5).1 ∧ zRM r.2 0 N A ∧ zFr zmS M3 r.2 := by
    intro X fX hX
    unfold j_X10_tuned_70
    refine zlp_forI (B := fun s : (Int32 × Int32 × Int32 × zzMem) => b_X10_tuned_70 (nI w) (nI (zA_S A).length) s.1 s.2.1 s.2.2.1 s.2.2.2) (fun t Z => (if t = 0 then (-1 : Int32) else nI (zbtu A w t).1, nI (zbtu A w t).2, nI (t + 2), Z)) (fun t Z => zFr zmS M3 Z ∧ (∀ i, i < (zA_S A).length → Z.1 90 i = nI ((zA_S A).getD i 0)) ∧ zLm Z 0 (zA_law A) ∧ Z.1 74 12 = nI (zA_dr A) ∧ Z.1 74 0 = nI (zA_n A) ∧ Z.1 74 2 = nI (zA_up A) ∧ Z.1 74 3 = nI (zA_dn A) ∧ Z.1 74 4 = nI (zA_po A)) 5 (fun r => r.1 = nI (zbtu A w 5).1 ∧ zRM r.2 0 N A ∧ zFr zmS M3 r.2) (fun t ht Z hZ => ?_) (fun Z hZ => ?_) 0 (by omega) X ?_
    · obtain ⟨z1, z2, z3, z4, z5, z6, z7, z8⟩ := hZ
      obtain ⟨Y, y1, y2, y3⟩ := mEmpties (N := 0) (c := t + 2) (up := zA_up A) (dn := zA_dn A) (po := zA_po A) hW.1.1 hW.1.2.1 hW.hok.2 z3 z4
      obtain ⟨V, v1, v2, v3⟩ := hinner t ht Y y2.rc (fun i hi => by rw [(y3 _ _ (by omega)).1]; exact z2 i hi)
      obtain ⟨i1, i2, i3⟩ := ztun_inv A (t + 2) (zA_S A).length
      have hs : ∀ C, ztun A (t + 2) (zA_S A).length = C → C.1 = (zA_n A, t + 2, zA_up A, zA_dn A, zA_po A) := fun C hC => by rw [← hC]; exact i1
      refine ⟨V, ?_, (z1.trans (y3.weak (fun k i h => by unfold zmS; omega))).trans (v2.weak (fun _ _ h => zmN_S h)), fun i hi => ?_, ?_, ?_, ?_, ?_, ?_, ?_⟩
      · show b_X10_tuned_70 (nI w) (nI (zA_S A).length) (if t = 0 then (-1 : Int32) else nI (zbtu A w t).1) (nI (zbtu A w t).2) (nI (t + 2)) Z = _
        unfold b_X10_tuned_70
        rw [ifLe_f (by omega) (by omega), z5, z6, z7, z8, y1, Option.bind_some, v1]
      · rw [(v2 _ _ (by unfold zmN; omega)).1, (y3 _ _ (by omega)).1]; exact z2 i hi
      · rw [← i3]; exact v3.2.1
      · rw [← i2]; have := v3.1.2.2.2.2.2.2.2.2.2.2.2.2; simpa using this
      · have h0 := v3.1.1
        have : zA_n (ztun A (t + 2) (zA_S A).length) = zA_n A := by show (ztun A (t + 2) (zA_S A).length).1.1 = _; rw [i1]
        rw [this] at h0; exact h0
      · have h0 := v3.1.2.2.1
        have : zA_up (ztun A (t + 2) (zA_S A).length) = zA_up A := by show (ztun A (t + 2) (zA_S A).length).1.2.2.1 = _; rw [i1]
        rw [this] at h0; simpa using h0
      · have h0 := v3.1.2.2.2.1
        have : zA_dn (ztun A (t + 2) (zA_S A).length) = zA_dn A := by show (ztun A (t + 2) (zA_S A).length).1.2.2.2.1 = _; rw [i1]
        rw [this] at h0; simpa using h0
      · have h0 := v3.1.2.2.2.2.1
        have : zA_po (ztun A (t + 2) (zA_S A).length) = zA_po A := by show (ztun A (t + 2) (zA_S A).length).1.2.2.2.2 = _; rw [i1]
        rw [this] at h0; simpa using h0
    · obtain ⟨z1, -⟩ := hZ
      obtain ⟨Z', k1, k2, k3⟩ := hback Z (fun k hk => by rw [(z1 _ _ (by unfold zmS; omega)).1]; exact hkeep0 k hk)
      refine ⟨(nI (zbtu A w 5).1, Z'), ?_, rfl, k2, z1.trans (k3.weak (fun k i h => by unfold zmS; omega))⟩
      show b_X10_tuned_70 (nI w) (nI (zA_S A).length) (if 5 = 0 then (-1 : Int32) else nI (zbtu A w 5).1) (nI (zbtu A w 5).2) (nI (5 + 2)) Z = _
      unfold b_X10_tuned_70
      rw [ifLe_t (by omega) (by omega), k1, if_neg (by omega)]; rfl
    · have hXR : zRM X 0 N A := h3.frS hW fX (by intro i; omega)
      refine ⟨fX.weak (fun k i h => by unfold zmS; omega), hX, hXR.2.1, ?_, ?_, ?_, ?_, ?_⟩
      · have := hXR.1.2.2.2.2.2.2.2.2.2.2.2.2; simpa using this
      · exact hXR.1.1
      · have := hXR.1.2.2.1; simpa using this
      · have := hXR.1.2.2.2.1; simpa using this
      · have := hXR.1.2.2.2.2.1; simpa using this
  have hZ := zlp_forI (B := fun s : (Int32 × zzMem) => b_X10_tuned_31 (nI w) (nI (zA_S A).length) s.1 s.2) (fun i Z => (nI i, Z)) (fun i Z => zFr (fun a b => a = 90) M3 Z ∧ ∀ j, j < i → Z.1 90 j = nI ((zA_S A).getD j 0)) (zA_S A).length (fun r => r.1 = nI (zbtu A w 5).1 ∧ zRM r.2 0 N A ∧ zFr zmS M3 r.2) (fun i hi Z hZ => ?_) (fun Z hZ => ?_) 0 (by omega) M3 ⟨zFr.refl M3, fun j hj => by omega⟩
  · obtain ⟨r, r1, r2, r3, r4⟩ := hZ
    refine ⟨r.2, ?_, r3, ((c2.weak (fun k i h => by unfold zmW; omega)).trans (o3.weak (fun k i h => by unfold zmW; omega))).trans (r4.weak (fun _ _ h => zmS_W h))⟩
    unfold f_X10_tuned j_X10_tuned_31
    rw [in_eq, if_pos hin, c1, Option.bind_some, o1, Option.bind_some]
    simp only [zbd]
    rw [hm7, ← r2]
    exact r1
  · obtain ⟨z1, z2⟩ := hZ
    have hg := List.getElem?_eq_getElem (show i < X.length by omega)
    generalize X[i]'(by omega) = x at hg
    have hxm := (u2 x).mp (List.mem_of_getElem? hg)
    have hkx : (zA_S A).getD i 0 = ke x := by rw [List.getD_eq_getElem?_getD, ← u1, List.getElem?_map, hg]; rfl
    have hv : Z.1 84 i = nI x := by rw [(z1 _ _ (by omega)).1]; exact o2 i x hg
    have hke : Z.1 74 (40 + x) = nI (ke x) := by rw [(z1 _ _ (by omega)).1, (o3 _ _ (by omega)).1]; have := (e.2.1 x hxm).1; simpa using this
    refine ⟨zz_si Z 90 i (nI ((zA_S A).getD i 0)), ?_, z1.trans (zFr.si rfl), fun j hj => ?_⟩
    · show b_X10_tuned_31 (nI w) (nI (zA_S A).length) (nI i) Z = _
      unfold b_X10_tuned_31
      rw [ifLe_f hi (by omega), hkx]
      simp (disch := omega) only [zgd_in, nIc, hv, nIadd, hke, zbd]
    · by_cases hji : j = i
      · rw [hji, rd_eq]
      · rw [rd_ne (by omega)]; exact z2 j (by omega)
  · obtain ⟨z1, z2⟩ := hZ
    obtain ⟨r, r1, r2, r3, r4⟩ := hloop Z z1 z2
    refine ⟨r, ?_, r2, r3, r4⟩
    show b_X10_tuned_31 (nI w) (nI (zA_S A).length) (nI (zA_S A).length) Z = _
    unfold b_X10_tuned_31
    rw [ifLe_t (Nat.le_refl _) (by omega), r1]; rfl
end TU
theorem op_tuned (N : Nat) (a : Int32) : zSame N (f_X9_tuned a) (f_X10_tuned a) := by
  refine zSame.tw (fun hN A hW => ?_)
  rcases inC a 0 1 (by decide) (by decide) with ⟨ha, w, -, hw, rfl⟩ | ha
  · refine ⟨nI (zbtu A w 5).1, A, hW.up, fun M h => ?_, fun M h => ?_⟩
    · obtain ⟨M', c1, c2⟩ := cTuned hW hw h
      exact ⟨M', c1, h.frS c2 (by intro k i; unfold zcpS; omega), c2.weak (fun k i h => by unfold zcpS at h; unfold zcS; omega)⟩
    · obtain ⟨M', c1, c2, c3⟩ := mTuned hN hW hw h
      exact ⟨M', c1, c2.up, c3⟩
  · refine ⟨(-1 : Int32), A, hW.up, fun M h => ⟨M, ?_, h, zFr.refl M⟩, fun M h => ⟨M, ?_, h.up, zFr.refl M⟩⟩
    · unfold f_X9_tuned; rw [ha]; rfl
    · unfold f_X10_tuned; rw [in_eq, ha]; rfl
