/-! ===== the reference: a put ===== -/
theorem zRc.mono {M : zzMem} {s0 C C' : Nat} {A : zzA} (h : zRc M s0 C A) (hC : C ≤ C') : zRc M s0 C' A := by
  obtain ⟨h1, h2, ⟨cm, xs, ke, ve, be, se, hcm, e⟩, h4⟩ := h
  exact ⟨h1, h2, ⟨cm, xs, ke, ve, be, se, by omega, e⟩, h4⟩
theorem zset_map {xs : List Nat} {ke ve : Nat → Nat} {i x v : Nat} (hn : xs.Nodup) (hi : xs[i]? = some x) : xs.map (fun e => (ke e, zupd ve x v e)) = (xs.map (fun e => (ke e, ve e))).set i (ke x, v) := by
  apply List.ext_getElem?
  intro j
  rw [List.getElem?_set, List.getElem?_map, List.getElem?_map]
  by_cases hij : i = j
  · subst hij
    rw [if_pos rfl, hi, if_pos (by rw [List.length_map]; exact (List.getElem?_eq_some_iff.mp hi).1)]
    show some (ke x, zupd ve x v x) = _
    rw [zupd_eq]
  · rw [if_neg hij]
    cases hj : xs[j]? with
    | none => rfl
    | some y =>
      have hyx : y ≠ x := fun hh => by
        rw [hh] at hj
        have a1 := idx_at hn hj
        have a2 := idx_at hn hi
        omega
      show some (ke y, zupd ve x v y) = some (ke y, ve y)
      rw [zupd_ne hyx]
section MPU
variable {N : Nat} {A : zzA}
theorem zdue_m {M : zzMem} {C : Nat} {B : zzA} {w : Bool} (hC : C + 300 < 2147483648) (hW : zWF N B) (h : zRc M 0 C B) : ∃ M', (if (M.1 74 4) = (nI 1) then ((f_X10_load M).bind (fun r6 => if r6 ≤ (M.1 74 2) then (j_X10_puts_257 false M) else (j_X10_puts_257 true M))) else (if (M.1 74 4) = (nI 2) then (if w = true then (j_X10_puts_257 true M) else (j_X10_puts_256 M)) else (j_X10_puts_256 M))) = some (nI 0, M') ∧ zRc M' 0 (C + 300) (if zdue B w = true then zspi B else B) ∧ zFr zmN M M' := by
  have hpo : zA_po B ≤ 2 := hW.1.2.2.2.2.2.2.2.1
  have c4 : M.1 74 4 = nI (zA_po B) := by have := h.1.2.2.2.2.1; simpa using this
  have c2 : M.1 74 2 = nI (zA_up B) := by have := h.1.2.2.1; simpa using this
  have hup := hW.1.2.2.2.2.2.1
  have hld : zlod B < 2147483648 := by
    unfold zlod
    have := hW.2.2.2.2.2.2.2.2.1.1
    exact Nat.lt_of_le_of_lt (Nat.div_le_self _ _) (by omega)
  have hup' : zRc M 0 (C + 300) B := h.mono (by omega)
  have hgo : ∃ M', j_X10_puts_257 true M = some (nI 0, M') ∧ zRc M' 0 (C + 300) (zspi B) ∧ zFr zmN M M' := by
    unfold j_X10_puts_257 zspi
    rw [if_pos rfl, mBuck hW h.1]
    have hB64 := hW.sB.2.2.1
    by_cases hB : zA_B B < 64
    · obtain ⟨M', e1, e2, e3⟩ := mSplits hC hW h hB
      refine ⟨M', ?_, by rw [if_pos hB]; exact e2, e3⟩
      simp (disch := omega) only [Option.bind_some, ifLe_f, e1, zpr]
    · refine ⟨M, ?_, by rw [if_neg hB]; exact hup', zFr.refl M⟩
      simp (disch := omega) only [Option.bind_some, ifLe_t]
  have hno : j_X10_puts_257 false M = some (nI 0, M) := by unfold j_X10_puts_257; rw [if_neg (by decide)]
  have hn6 : j_X10_puts_256 M = some (nI 0, M) := hno
  rw [c4, c2]
  unfold zdue
  rcases (show zA_po B = 0 ∨ zA_po B = 1 ∨ zA_po B = 2 by omega) with e | e | e
  · rw [e]
    simp (disch := omega) only [ifEq_f, hn6]
    exact ⟨M, rfl, hup', zFr.refl M⟩
  · rw [e]
    simp (disch := omega) only [ifEq_t, mLoad hW h.1, Option.bind_some]
    by_cases hu : zA_up B < zlod B
    · rw [if_neg (show ¬ nI (100 * (zA_S B).length / (zA_B B * zA_c B)) ≤ nI (zA_up B) from nI_ge hu hld)]
      obtain ⟨M', e1, e2, e3⟩ := hgo
      exact ⟨M', e1, by simp [hu]; exact e2, e3⟩
    · rw [if_pos (show nI (100 * (zA_S B).length / (zA_B B * zA_c B)) ≤ nI (zA_up B) from nI_le (by unfold zlod at hu; omega) (by omega))]
      exact ⟨M, hno, by simp [hu]; exact hup', zFr.refl M⟩
  · rw [e]
    simp (disch := omega) only [ifEq_t, ifEq_f]
    cases w with
    | true =>
      obtain ⟨M', e1, e2, e3⟩ := hgo
      exact ⟨M', by rw [if_pos rfl]; exact e1, by simp; exact e2, e3⟩
    | false => exact ⟨M, by first | exact hn6 | (simp; done) | (simp; exact hn6) | simp [hn6], by simp; exact hup', zFr.refl M⟩
set_option maxHeartbeats 8000000 in
theorem mPuts {M : zzMem} {C k v : Nat} (hC : C + 301 < 2147483648) (hW : zWF N A) (h : zRc M 0 C A) (hk : k < 65536) (hv : v < 256) : ∃ M', f_X10_puts (nI k) (nI v) M = some ((zput A k v).1, M') ∧ zRc M' 0 (C + 301) (zput A k v).2 ∧ zFr zmN M M' := by
  obtain ⟨cm, xs, ke, ve, be, se, hcm, e, hm, hm3, hx, hc1⟩ := h.fx hW
  have hs := hW.sB
  have hc := hW.c2
  have hab := hW.adr k
  have hb : zA_a A k < 64 := by omega
  have hbe : ∀ x, x < (zA_S A).length → be x < 64 := fun x h => by have := (hx x h).1; omega
  obtain ⟨M3, a1, a2⟩ := mFindReads (by omega) hW h hk
  have g8 : M.1 74 8 = zA_rd A := by have := h.1.2.2.2.2.2.2.2.2.1; simpa using this
  have g9 : M.1 74 9 = zA_wr A := by have := h.1.2.2.2.2.2.2.2.2.2.1; simpa using this
  unfold f_X10_puts zput
  rcases mIdx hW e hm hk (fun x h => (hx x h).2.1) with ⟨x, i, q1, q2, q3, q4, q5, q6⟩ | ⟨q1, q2, q3⟩
  · have hz : zrds A k = i / zA_c A + 1 := by unfold zrds; rw [q5]
    have g93 : M3.1 74 9 = zA_wr A := by rw [(a2 _ _ (by omega)).1]; exact g9
    have fY : zFr (fun a j => a = 78 ∨ (a = 74 ∧ (j = 8 ∨ j = 9 ∨ j = 340 + x))) M (zz_si (zz_si (zz_si M3 74 8 (zA_rd A + nI (i / zA_c A + 1))) 74 (340 + x) (nI v)) 74 9 (zA_wr A + nI 1)) := (((a2.weak (fun k i h => Or.inl h)).trans (zFr.si (by omega))).trans (zFr.si (by omega))).trans (zFr.si (by omega))
    rw [q5]
    refine ⟨zz_si (zz_si (zz_si M3 74 8 (zA_rd A + nI (i / zA_c A + 1))) 74 (340 + x) (nI v)) 74 9 (zA_wr A + nI 1), ?_, ⟨⟨?_, ?_, ?_, ?_, ?_, ?_, ?_, ?_, ?_, ?_, ?_, ?_, ?_⟩, ?_, ⟨cm, xs, ke, zupd ve x v, be, se, by omega, ?_, fun y hy => ?_, e.2.2.1, e.2.2.2.1, fun b => ?_⟩, ?_, ?_⟩, ?_⟩
    · rw [q6]
      unfold j_X10_puts_28
      simp (disch := omega) only [Option.bind_some, ifm1, a1, zpr, zbd, g8, hz, nIadd, zgd_in, nIc, rd_ne, g93]
    · rw [(fY _ _ (by omega)).1]; exact h.1.1
    · rw [(fY _ _ (by omega)).1]; exact h.1.2.1
    · rw [(fY _ _ (by omega)).1]; exact h.1.2.2.1
    · rw [(fY _ _ (by omega)).1]; exact h.1.2.2.2.1
    · rw [(fY _ _ (by omega)).1]; exact h.1.2.2.2.2.1
    · rw [(fY _ _ (by omega)).1]; exact h.1.2.2.2.2.2.1
    · rw [(fY _ _ (by omega)).1]; exact h.1.2.2.2.2.2.2.1
    · rw [(fY _ _ (by omega)).1]; exact h.1.2.2.2.2.2.2.2.1
    · rw [rd_ne (by omega), rd_ne (by omega), rd_eq]; rfl
    · rw [rd_eq]; rfl
    · rw [(fY _ _ (by omega)).1]; exact h.1.2.2.2.2.2.2.2.2.2.2.1
    · rw [(fY _ _ (by omega)).1]; exact h.1.2.2.2.2.2.2.2.2.2.2.2.1
    · rw [(fY _ _ (by omega)).1]; exact h.1.2.2.2.2.2.2.2.2.2.2.2.2
    · exact h.2.1.frS hW.hok.2 fY (by intro i hi; omega)
    · rw [(fY _ _ (by omega)).1]; exact e.1
    · have hy2 := e.2.1 y hy
      have hyl : y < (zA_S A).length := hy
      simp only [Nat.zero_add] at hy2 ⊢
      refine ⟨by rw [(fY _ _ (by omega)).1]; exact hy2.1, ?_, by rw [(fY _ _ (by omega)).1]; exact hy2.2.2.1, by rw [(fY _ _ (by omega)).1]; exact hy2.2.2.2.1, hy2.2.2.2.2⟩
      by_cases hyx : y = x
      · subst hyx
        rw [zupd_eq, rd_ne (by omega), rd_eq]
      · rw [zupd_ne hyx, (fY _ _ (by omega)).1]; exact hy2.2.1
    · show zupd (zA_E A) (zA_a A k) ((zA_E A (zA_a A k)).set i (k, v)) b = _
      by_cases hbb : b = zA_a A k
      · subst hbb
        rw [zupd_eq, zset_map (e.xnd _) q3, ← e.2.2.2.2, q2]
      · rw [zupd_ne hbb, e.2.2.2.2]
        apply List.map_congr_left
        intro y hy
        have hyx : y ≠ x := fun hh => hbb (by rw [hh] at hy; rw [← (e.2.2.1 b x hy).2, q4])
        rw [zupd_ne hyx]
    · exact h.2.2.2.1.frS hW.2.2.2.2.2.1 fY (by intro i; omega)
    · exact h.2.2.2.2.frS fY (by intro i; omega)
    · exact fY.weak (fun k i h => by unfold zmN; omega)
  · have hz : zrds A k = (zA_G A (zA_a A k)).length := by unfold zrds; rw [q1]
    rw [q1, q3]
    by_cases hS : (zA_S A).length < 300
    · show ∃ M', _ = some ((if (zA_S A).length < 300 then (nI 0, zpuD A k v) else ((-3 : Int32), A)).1, M') ∧ zRc M' 0 (C + 301) (if (zA_S A).length < 300 then (nI 0, zpuD A k v) else ((-3 : Int32), A)).2 ∧ _
      rw [if_pos hS]
      have h3 : zRc M3 0 C A := h.frS hW a2 (by intro i; omega)
      have h4 := h3.rdc hW (r := zA_rd A + nI (zA_G A (zA_a A k)).length)
      have f4 : zFr (fun a j => a = 78 ∨ (a = 74 ∧ j = 8)) M (zz_si M3 74 8 (zA_rd A + nI (zA_G A (zA_a A k)).length)) := (a2.weak (fun k i h => Or.inl h)).trans (zFr.si (by omega))
      have r8 : (zz_si M3 74 8 (zA_rd A + nI (zA_G A (zA_a A k)).length)).1 74 8 = zA_rd A + nI (zA_G A (zA_a A k)).length := rd_eq
      generalize hM4 : zz_si M3 74 8 (zA_rd A + nI (zA_G A (zA_a A k)).length) = M4 at h4 f4 r8
      obtain ⟨M8, b1, b2⟩ := mAdr (zct_wf hW) h4.1 h4.2.1 hk
      have b1 : f_X10_addressOf (nI k) M4 = some (nI (zA_a A k), M8) := b1
      have f8 : zFr (fun a j => a = 78 ∨ (a = 74 ∧ j = 8)) M M8 := f4.trans (b2.weak (fun k i h => Or.inl h))
      have r88 : M8.1 74 8 = zA_rd A + nI (zA_G A (zA_a A k)).length := by rw [(b2 _ _ (by omega)).1]; exact r8
      have e8 : zMe M8 0 (zA_S A).length cm (zA_E A) xs ke ve be se := e.frS hm3 f8 (by intro i; omega)
      have hm8 : M8.1 74 7 = nI (zA_S A).length := by rw [(f8 _ _ (by omega)).1]; exact hm
      have hp8 : zMp M8 0 (zA_G A) := h.2.2.2.1.frS hW.2.2.2.2.2.1 f8 (by intro i; omega)
      have hc8 : M8.1 74 1 = nI (zA_c A) := by rw [(f8 _ _ (by omega)).1]; exact hc1
      have hk8 := mKeysG hm8 hm3 e8 hbe hb
      have hg8 := mChainG hW.gok hp8 hb
      have hE3 := e.xlen (zA_a A k)
      have hEl := e.elen (zA_a A k)
      have hG3 := hW.gok.len (zA_a A k)
      have hcG : (zA_G A (zA_a A k)).length * zA_c A ≤ 256 * 6 := Nat.mul_le_mul hG3 hc.2
      obtain ⟨p1, p2, p3⟩ := hW.pk.fp hc.1
      have hpage : ∃ M9, (∀ v1 v2, (if nI (zA_E A (zA_a A k)).length = nI (zA_G A (zA_a A k)).length * nI (zA_c A) then j_X10_puts_116 v1 v2 (nI (zA_a A k)) true M8 else j_X10_puts_116 v1 v2 (nI (zA_a A k)) false M8) = j_X10_puts_135 v1 v2 (nI (zA_a A k)) (znew A k) M9) ∧ zMp M9 0 (zlay1 (zA_c A) (zA_a A k) (zA_E A (zA_a A k)).length (zA_G A)) ∧ zFr zpgS M8 M9 := by
        unfold zlay1 znew j_X10_puts_116
        rw [nImul]
        by_cases hnw : (zA_E A (zA_a A k)).length = zA_c A * (zA_G A (zA_a A k)).length
        · obtain ⟨M9, t1, t2, t3⟩ := mTakes (b := zA_a A k) hp8 p3 p2 hW.gok hb
          have hnw' : (zA_E A (zA_a A k)).length = (zA_G A (zA_a A k)).length * zA_c A := by rw [hnw, Nat.mul_comm]
          refine ⟨M9, fun v1 v2 => ?_, by rw [if_pos hnw]; exact t2, t3⟩
          rw [decide_eq_true hnw]
          simp only [ifEq_t hnw', if_true, hg8, Option.bind_some, t1]
        · have hnw' : (zA_E A (zA_a A k)).length ≠ (zA_G A (zA_a A k)).length * zA_c A := by rw [Nat.mul_comm]; exact hnw
          refine ⟨M8, fun v1 v2 => ?_, by rw [if_neg hnw]; exact hp8, zFr.refl M8⟩
          rw [decide_eq_false hnw]
          simp only [ifEq_f hnw' (by omega) (by omega), Bool.false_eq_true, if_false]
      obtain ⟨M9, t1, t2, t3⟩ := hpage
      have f9 : zFr (fun a j => a = 78 ∨ (a = 74 ∧ (j = 8 ∨ (1240 ≤ j ∧ j < 1752)))) M M9 := (f8.weak (fun k i h => by omega)).trans (t3.weak (fun k i h => by unfold zpgS at h; omega))
      have r89 : M9.1 74 8 = zA_rd A + nI (zA_G A (zA_a A k)).length := by rw [(t3 _ _ (by unfold zpgS; omega)).1]; exact r88
      have hm9 : M9.1 74 7 = nI (zA_S A).length := by rw [(f9 _ _ (by omega)).1]; exact hm
      have g99 : M9.1 74 9 = zA_wr A := by rw [(f9 _ _ (by omega)).1]; exact g9
      have c9 : (zz_si (zz_si M9 74 (40 + (zA_S A).length) (nI k)) 74 (340 + (zA_S A).length) (nI v)).1 74 13 = nI cm := by
        rw [rd_ne (by omega), rd_ne (by omega), (f9 _ _ (by omega)).1]; exact e.1
      have hcb := mComes (b := zA_a A k) hS c9
      generalize hmd : (zA_S A).length = m at *
      let Y : Int32 → zzMem := fun w => zz_si (zz_si (zz_si (zz_si (zz_si (zz_si (zz_si M9 74 (40 + m) (nI k)) 74 (340 + m) (nI v)) 74 (640 + m) (nI (zA_a A k))) 74 (940 + m) (nI cm)) 74 13 (nI (cm + 1))) 74 7 (nI (m + 1))) 74 9 w
      have hY : ∀ w, Y w = zz_si (zz_si (zz_si (zz_si (zz_si (zz_si (zz_si M9 74 (40 + m) (nI k)) 74 (340 + m) (nI v)) 74 (640 + m) (nI (zA_a A k))) 74 (940 + m) (nI cm)) 74 13 (nI (cm + 1))) 74 7 (nI (m + 1))) 74 9 w := fun w => rfl
      have fY9 : ∀ w, zFr (fun a j => a = 74 ∧ (j = 40 + m ∨ j = 340 + m ∨ j = 640 + m ∨ j = 940 + m ∨ j = 13 ∨ j = 7 ∨ j = 9)) M9 (Y w) := fun w => by
        rw [hY]
        refine ((((((zFr.si ?_).trans (zFr.si ?_)).trans (zFr.si ?_)).trans (zFr.si ?_)).trans (zFr.si ?_)).trans (zFr.si ?_)).trans (zFr.si ?_) <;> omega
      have fY : ∀ w, zFr (fun a j => a = 78 ∨ (a = 74 ∧ (j = 8 ∨ (1240 ≤ j ∧ j < 1752) ∨ j = 40 + m ∨ j = 340 + m ∨ j = 640 + m ∨ j = 940 + m ∨ j = 13 ∨ j = 7 ∨ j = 9))) M (Y w) := fun w => (f9.weak (fun k i h => by omega)).trans ((fY9 w).weak (fun k i h => by omega))
      have y40 : ∀ w, (Y w).1 74 (40 + m) = nI k := fun w => by rw [hY]; simp (disch := omega) only [rd_ne, rd_eq]
      have y340 : ∀ w, (Y w).1 74 (340 + m) = nI v := fun w => by rw [hY]; simp (disch := omega) only [rd_ne, rd_eq]
      have y640 : ∀ w, (Y w).1 74 (640 + m) = nI (zA_a A k) := fun w => by rw [hY]; simp (disch := omega) only [rd_ne, rd_eq]
      have y940 : ∀ w, (Y w).1 74 (940 + m) = nI cm := fun w => by rw [hY]; simp (disch := omega) only [rd_ne, rd_eq]
      have y13 : ∀ w, (Y w).1 74 13 = nI (cm + 1) := fun w => by rw [hY]; simp (disch := omega) only [rd_ne, rd_eq]
      have y7 : ∀ w, (Y w).1 74 7 = nI (m + 1) := fun w => by rw [hY]; simp (disch := omega) only [rd_ne, rd_eq]
      have y9 : ∀ w, (Y w).1 74 9 = w := fun w => by rw [hY]; simp (disch := omega) only [rd_eq]
      have y8 : ∀ w, (Y w).1 74 8 = zA_rd A + nI (zA_G A (zA_a A k)).length := fun w => by rw [((fY9 w) _ _ (by omega)).1]; exact r89
      have hSl : (zA_S (zpuN A k v)).length = m + 1 := by rw [← hmd]; exact zins_len _ _ _
      have hmx : ∀ b, m ∉ xs b := fun b hh => by have := (e.2.2.1 b m hh).1; omega
      have hRc : zRc (Y (zA_wr A + (if znew A k = true then nI 2 else nI 1))) 0 (C + 1) (zpuN A k v) := by
        generalize hw : zA_wr A + (if znew A k = true then nI 2 else nI 1) = w
        refine ⟨⟨?_, ?_, ?_, ?_, ?_, ?_, ?_, ?_, ?_, ?_, ?_, ?_, ?_⟩, ?_, ⟨cm + 1, zupd xs (zA_a A k) (xs (zA_a A k) ++ [m]), zupd ke m k, zupd ve m v, zupd be m (zA_a A k), zupd se m cm, by omega, ?_, fun y hy => ?_, fun b y hy => ?_, fun b => ?_, fun b => ?_⟩, ?_, ?_⟩
        · rw [((fY w) _ _ (by omega)).1]; exact h.1.1
        · rw [((fY w) _ _ (by omega)).1]; exact h.1.2.1
        · rw [((fY w) _ _ (by omega)).1]; exact h.1.2.2.1
        · rw [((fY w) _ _ (by omega)).1]; exact h.1.2.2.2.1
        · rw [((fY w) _ _ (by omega)).1]; exact h.1.2.2.2.2.1
        · rw [((fY w) _ _ (by omega)).1]; exact h.1.2.2.2.2.2.1
        · rw [((fY w) _ _ (by omega)).1]; exact h.1.2.2.2.2.2.2.1
        · rw [hSl]; exact y7 w
        · exact y8 w
        · rw [← hw]; exact y9 _
        · rw [((fY w) _ _ (by omega)).1]; exact h.1.2.2.2.2.2.2.2.2.2.2.1
        · rw [((fY w) _ _ (by omega)).1]; exact h.1.2.2.2.2.2.2.2.2.2.2.2.1
        · rw [((fY w) _ _ (by omega)).1]; exact h.1.2.2.2.2.2.2.2.2.2.2.2.2
        · exact h.2.1.frS hW.hok.2 (fY w) (by intro i hi; omega)
        · exact y13 w
        · rw [hSl] at hy
          simp only [Nat.zero_add]
          by_cases hym : y = m
          · subst hym
            rw [zupd_eq, zupd_eq, zupd_eq, zupd_eq, zupd_eq]
            exact ⟨y40 w, y340 w, y640 w, y940 w, by omega, by simp⟩
          · have hy2 := e.2.1 y (by omega)
            simp only [Nat.zero_add] at hy2
            rw [zupd_ne hym, zupd_ne hym, zupd_ne hym, zupd_ne hym]
            refine ⟨by rw [((fY w) _ _ (by omega)).1]; exact hy2.1, by rw [((fY w) _ _ (by omega)).1]; exact hy2.2.1, by rw [((fY w) _ _ (by omega)).1]; exact hy2.2.2.1, by rw [((fY w) _ _ (by omega)).1]; exact hy2.2.2.2.1, by omega, ?_⟩
            by_cases hbb : be y = zA_a A k
            · have := hy2.2.2.2.2.2
              rw [hbb] at this ⊢
              rw [zupd_eq]
              exact List.mem_append.mpr (Or.inl this)
            · rw [zupd_ne hbb]; exact hy2.2.2.2.2.2
        · rw [hSl]
          by_cases hbb : b = zA_a A k
          · subst hbb
            rw [zupd_eq] at hy
            rcases List.mem_append.mp hy with h1 | h1
            · have := e.2.2.1 _ y h1
              rw [zupd_ne (by omega)]
              exact ⟨by omega, this.2⟩
            · have := List.mem_singleton.mp h1
              rw [this, zupd_eq]
              exact ⟨by omega, rfl⟩
          · rw [zupd_ne hbb] at hy
            have := e.2.2.1 _ y hy
            rw [zupd_ne (by omega)]
            exact ⟨by omega, this.2⟩
        · have hne : ∀ b, ∀ y ∈ xs b, zupd se m cm y = se y := fun b y hy => zupd_ne (fun hh => hmx b (by rw [← hh]; exact hy))
          have hold : ∀ b, (xs b).Pairwise (fun x y => zupd se m cm x < zupd se m cm y) := fun b => (e.2.2.2.1 b).imp_of_mem (fun {x y} h1 h2 hxy => by
            rw [hne b x h1, hne b y h2]; exact hxy)
          by_cases hbb : b = zA_a A k
          · subst hbb
            rw [zupd_eq, List.pairwise_append]
            refine ⟨hold _, List.pairwise_singleton _ _, fun x hx1 y hy1 => ?_⟩
            rw [List.mem_singleton.mp hy1, hne _ x hx1, zupd_eq]
            exact (e.2.1 x (e.2.2.1 _ x hx1).1).2.2.2.2.1
          · rw [zupd_ne hbb]; exact hold b
        · show zupd (zA_E A) (zA_a A k) (zA_E A (zA_a A k) ++ [(k, v)]) b = _
          have hmp : ∀ b, (xs b).map (fun e => (zupd ke m k e, zupd ve m v e)) = zA_E A b := fun b => by
            rw [e.2.2.2.2]
            apply List.map_congr_left
            intro y hy
            have hym : y ≠ m := fun hh => hmx b (by rw [← hh]; exact hy)
            rw [zupd_ne hym, zupd_ne hym]
          by_cases hbb : b = zA_a A k
          · subst hbb
            rw [zupd_eq, zupd_eq, List.map_append, hmp, List.map_singleton, zupd_eq, zupd_eq]
          · rw [zupd_ne hbb, zupd_ne hbb, hmp]
        · have hpk := zpuN_pk (k := k) (v := v) hW (by omega)
          exact t2.frS hpk.1.1 (fY9 w) (by intro i; omega)
        · exact h.2.2.2.2.frS (fY w) (by intro i; omega)
      obtain ⟨M', d1, d2, d3⟩ := zdue_m (w := znew A k) (C := C + 1) (by omega) (zpuN_wf hW hk hv (by omega) q1) hRc
      refine ⟨M', ?_, d2.mono (by omega), ((fY _).weak (fun k i h => by unfold zmN; omega)).trans d3⟩
      have hm300 : M.1 74 7 = nI m := hm
      unfold j_X10_puts_28
      simp (disch := omega) only [Option.bind_some, if_true, hm300, ifEq_f, a1, zpr, zbd, g8, hz, hM4, b1, hk8, hg8, hc8]
      rw [t1]
      unfold j_X10_puts_135
      simp (disch := omega) only [hm9, nIadd, zgd_in, nIc, zbd]
      rw [hcb]
      simp only [Option.bind_some]
      have y9b : (zz_si (zz_si (zz_si (zz_si (zz_si (zz_si M9 74 (40 + m) (nI k)) 74 (340 + m) (nI v)) 74 (640 + m) (nI (zA_a A k))) 74 (940 + m) (nI cm)) 74 13 (nI (cm + 1))) 74 7 (nI (m + 1))).1 74 9 = zA_wr A := by
        simp (disch := omega) only [rd_ne, g99]
      rw [y9b]
      unfold j_X10_puts_204
      simp (disch := omega) only [zgd_in, nIc, zbd]
      cases hnw : znew A k with
      | true =>
        rw [hnw] at d1
        rw [if_pos rfl, ← hY, ← d1]
        rfl
      | false =>
        rw [hnw] at d1
        rw [if_neg (by decide), ← hY, ← d1]
        rfl
    · show ∃ M', _ = some ((if (zA_S A).length < 300 then (nI 0, zpuD A k v) else ((-3 : Int32), A)).1, M') ∧ zRc M' 0 (C + 301) (if (zA_S A).length < 300 then (nI 0, zpuD A k v) else ((-3 : Int32), A)).2 ∧ _
      rw [if_neg hS]
      refine ⟨M, ?_, h.mono (by omega), zFr.refl M⟩
      simp (disch := omega) only [Option.bind_some, if_true, hm, ifEq_t]
end MPU
theorem op_put (N : Nat) (a b : Int32) : zSame N (f_X9_put a b) (f_X10_put a b) := by
  rcases keyC a with ⟨ha, k, hk, rfl⟩ | ha
  · rcases inC b 0 255 (by decide) (by decide) with ⟨hb, v, -, hv, rfl⟩ | hb
    · refine zSame.tr (fun hN A hW => ⟨(zput A k v).1, (zput A k v).2, (zput_wf hW hk (by omega)).up, fun M h => ?_, fun M h => ?_⟩)
      · obtain ⟨M', e1, e2, e3⟩ := cStore hW h hk (show v < 256 by omega)
        refine ⟨M', ?_, e2, e3.weak (fun k i h => zcpS_c h)⟩
        unfold f_X9_put
        simp only [ha, hb, if_true, e1, Option.bind_some, zpr]
      · obtain ⟨M', e1, e2, e3⟩ := mPuts (by omega) hW h.rc hk (show v < 256 by omega)
        refine ⟨M', ?_, e2.rm (by omega), e3.weak (fun _ _ h => zmN_S h)⟩
        unfold f_X10_put
        simp only [isKey_eq, in_eq, ha, hb, if_true, e1, Option.bind_some, zpr]
    · refine zSame.tr (fun hN A hW => ⟨(-1 : Int32), A, hW.up, fun M h => ⟨M, ?_, h, zFr.refl M⟩, fun M h => ⟨M, ?_, h.up, zFr.refl M⟩⟩)
      · unfold f_X9_put; simp only [ha, hb, if_true, Bool.false_eq_true, if_false]
      · unfold f_X10_put; simp only [isKey_eq, in_eq, ha, hb, if_true, Bool.false_eq_true, if_false]
  · refine zSame.tr (fun hN A hW => ⟨(-1 : Int32), A, hW.up, fun M h => ⟨M, ?_, h, zFr.refl M⟩, fun M h => ⟨M, ?_, h.up, zFr.refl M⟩⟩)
    · unfold f_X9_put; simp only [ha, Bool.false_eq_true, if_false]
    · unfold f_X10_put; simp only [isKey_eq, ha, Bool.false_eq_true, if_false]
