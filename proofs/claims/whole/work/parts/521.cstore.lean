/-! ===== the class: a put ===== -/
section CS
variable {N : Nat} {A : zzA}
theorem cSetE {M : zzMem} {ch c : Nat} {h : Nat → Nat} {E : Nat → List (Nat × Nat)} {G : Nat → List Nat} (hc : zCh M ch c h E G) (hG : zGok G) (h1 : 1 ≤ c) (h6 : c ≤ 6) {b i p : Nat} {q : Nat × Nat} (hb : b < 64) (hi : i < (E b).length) (hp : (G b)[i / c]? = some p) : zCh (zz_sl M (ch + 5) (6 * p + i % c) (zen h q)) ch c h (zupd E b ((E b).set i q)) G := by
  obtain ⟨a1, a2, a3, a4, a5, a6, a7⟩ := id hc
  have hl : ∀ x, (zupd E b ((E b).set i q) x).length = (E x).length := fun x => by
    by_cases hx : x = b
    · subst hx; rw [zupd_eq, List.length_set]
    · rw [zupd_ne hx]
  refine ⟨fun x hx => by rw [hl, rd_sl1']; exact a1 x hx, fun x hx => by rw [rd_sl1']; exact a2 x hx, fun x hx => by rw [rd_sl1']; exact a3 x hx, fun x hx => by rw [rd_sl1']; exact a4 x hx, fun r hr hn => by rw [rd_sl1']; exact a5 r hr hn, fun x hx j r hj => by rw [hl, rd_sl1', rd_sl1', rd_sl1', rd_sl1']; exact a6 x hx j r hj, fun x hx j e r hj hr => ?_⟩
  have hm1 := Nat.mod_lt i (show c > 0 by omega)
  have hm2 := Nat.mod_lt j (show c > 0 by omega)
  by_cases hxb : x = b
  · subst hxb
    rw [zupd_eq] at hj
    by_cases hij : i = j
    · subst hij
      rw [hp] at hr
      cases hr
      rw [rd_sle]
      rw [List.getElem?_set_self hi] at hj
      cases hj; rfl
    · rw [List.getElem?_set_ne hij] at hj
      rw [rd_sln]
      · exact a7 x hx j e r hj hr
      · rintro ⟨-, hh⟩
        have hrp : r = p := by omega
        subst hrp
        have hd := (hG.at hr hp).2
        have d1 := Nat.div_add_mod i c
        have d2 := Nat.div_add_mod j c
        rw [hd] at d2
        omega
  · rw [zupd_ne hxb] at hj
    rw [rd_sln]
    · exact a7 x hx j e r hj hr
    · rintro ⟨-, hh⟩
      have hrp : r = p := by omega
      subst hrp
      exact hxb (hG.at hr hp).1
theorem zdue_c {M : zzMem} {o : Nat} {B : zzA} {w : Bool} (hW : zWF N B) (h : zRC M o B) : ∃ M', (if (M.1 o 7) = (nI 1) then ((f_X2_load o M).bind (fun r4 => if (M.1 o 5) < r4 then (j_X2_store_166 o M) else (j_X2_store_153 o w M))) else (j_X2_store_153 o w M)) = some (nI 0, M') ∧ zRC M' o (if zdue B w = true then zspi B else B) ∧ zFr (zcpS o) M M' := by
  have hpo : zA_po B ≤ 2 := hW.1.2.2.2.2.2.2.2.1
  have c7 := h.1.2.2.2.1
  have c5 := h.1.2.1
  have hup := hW.1.2.2.2.2.2.1
  have hld : zlod B < 2147483648 := by
    unfold zlod
    have := hW.2.2.2.2.2.2.2.2.1.1
    exact Nat.lt_of_le_of_lt (Nat.div_le_self _ _) (by omega)
  have hgo : ∃ M', j_X2_store_166 o M = some (nI 0, M') ∧ zRC M' o (zspi B) ∧ zFr (zcpS o) M M' := by
    unfold j_X2_store_166 zspi
    by_cases hB : zA_B B < 64
    · obtain ⟨M', e1, e2, e3, -⟩ := cDivide hW h hB
      exact ⟨M', by rw [e1]; rfl, by rw [if_pos hB]; exact e2, e3⟩
    · exact ⟨M, by rw [cDivide64 hW h (by have := hW.sB; omega)]; rfl, by rw [if_neg hB]; exact h, zFr.refl M⟩
  rw [c7, c5]
  unfold zdue j_X2_store_153
  rw [c7]
  rcases (show zA_po B = 0 ∨ zA_po B = 1 ∨ zA_po B = 2 by omega) with e | e | e
  · rw [e]
    simp (disch := omega) only [ifEq_f]
    exact ⟨M, rfl, h, zFr.refl M⟩
  · rw [e]
    simp (disch := omega) only [ifEq_t, ifEq_f, cLoad hW h, Option.bind_some]
    by_cases hu : zA_up B < zlod B
    · rw [if_pos (show nI (zA_up B) < nI (100 * (zA_S B).length / (zA_B B * zA_c B)) from nI_lt hu hld)]
      obtain ⟨M', e1, e2, e3⟩ := hgo
      exact ⟨M', e1, by simp [hu]; exact e2, e3⟩
    · rw [if_neg (show ¬ nI (zA_up B) < nI (100 * (zA_S B).length / (zA_B B * zA_c B)) from nI_nlt (by unfold zlod at hu; omega) (by omega))]
      exact ⟨M, rfl, by simp [hu]; exact h, zFr.refl M⟩
  · rw [e]
    simp (disch := omega) only [ifEq_t, ifEq_f]
    cases w with
    | true =>
      obtain ⟨M', e1, e2, e3⟩ := hgo
      exact ⟨M', by rw [if_pos rfl]; exact e1, by simp; exact e2, e3⟩
    | false => exact ⟨M, by simp, by simp; exact h, zFr.refl M⟩
set_option maxHeartbeats 4000000 in
theorem cStore {M : zzMem} {o k v : Nat} (hW : zWF N A) (h : zRC M o A) (hk : k < 65536) (hv : v < 256) : ∃ M', f_X2_store o (nI k) (nI v) M = some ((zput A k v).1, M') ∧ zRC M' o (zput A k v).2 ∧ zFr (zcpS o) M M' := by
  have hb : zA_a A k < 64 := by have := hW.adr k; have := hW.sB; omega
  have hc := hW.c2
  have hS3 := hW.2.2.2.2.2.2.2.2.1.1
  obtain ⟨M3, e1, e2⟩ := cHash (o := o + 1) h.2.1 hW.hok hk
  have h3 : zRC M3 o A := h.frS e2 (by intro k i; omega)
  have f3 : zFr (zcpS o) M M3 := e2.weak (fun k i h => by unfold zcpS; omega)
  have hh := zhs_lt hk hW.hok.1
  have ha : f_X2_addressOf o (nI (zhs (zA_law A) k)) M3 = some (nI (zA_a A k)) := cAdr hW h3.1 hk
  have hcode : f_X5_codeOf (nI k) (nI (zhs (zA_law A) k)) (M3.1 o 4) = some (lN (zA_cd A k)) := by
    rw [h3.1.1]; exact cCode hk hh hW.1.1 hW.1.2.1
  have hhas := cHas h3.2.2.2.1 hW.pw hS3 hW.cds (zcd_lt hW hk) (fun x hx e => zcd_inj hW (hW.key hx) hk e)
  have hent : f_X1_of (nI k) (nI v) (nI (zhs (zA_law A) k)) = zen (zA_h A) (k, v) := rfl
  unfold f_X2_store
  rw [e1, Option.bind_some]
  simp only [zpr]
  rw [ha, Option.bind_some, hcode, Option.bind_some, zbd_eq, hhas, Option.bind_some, hent]
  unfold zput
  cases hz : zfi (zA_E A (zA_a A k)) k with
  | some t =>
    have hmem : k ∈ zA_S A := (zS_fi hW k).mpr ⟨t, hz⟩
    rw [if_pos (by simpa using hmem)]
    rcases cSlot hW h3.2.2.1 hb hk with ⟨z1, z2⟩ | ⟨i, v0, p, z1, z2, z3, z4, z5, z6⟩
    · rw [hz] at z1; cases z1
    · rw [hz] at z1
      cases z1
      have hil := (List.getElem?_eq_some_iff.mp z2).1
      have hpl : M3.1 (o + 6) p = nI (i / zA_c A) := (h3.2.2.1.2.2.2.2.2.1 _ hb _ p z3).2.1
      have hd : (6 * p + i % zA_c A) / 6 = p := by rw [Nat.mul_add_div (by omega), Nat.div_eq_of_lt (by omega)]; omega
      have c10 : M3.1 o 10 = zA_rd A := h3.1.2.2.2.2.2.2.1
      have c11 : M3.1 o 11 = zA_wr A := h3.1.2.2.2.2.2.2.2.1
      have fY : zFr (fun a j => (a = o ∧ (j = 10 ∨ j = 11)) ∨ a = o + 9) M3 (zz_sl (zz_si (zz_si M3 o 10 (zA_rd A + nI (i / zA_c A + 1))) o 11 (zA_wr A + nI 1)) (o + 9) (6 * p + i % zA_c A) (zen (zA_h A) (k, v))) := ((zFr.si (by omega)).trans (zFr.si (by omega))).trans (zFr.sl (by omega))
      have hch : zCh (zz_si (zz_si M3 o 10 (zA_rd A + nI (i / zA_c A + 1))) o 11 (zA_wr A + nI 1)) (o + 4) (zA_c A) (zA_h A) (zA_E A) (zA_G A) := h3.2.2.1.frS (S := fun a j => a = o) ((zFr.si (by omega)).trans (zFr.si (by omega))) (by intro k i; omega)
      refine ⟨zz_sl (zz_si (zz_si M3 o 10 (zA_rd A + nI (i / zA_c A + 1))) o 11 (zA_wr A + nI 1)) (o + 9) (6 * p + i % zA_c A) (zen (zA_h A) (k, v)), ?_, ⟨⟨?_, ?_, ?_, ?_, ?_, ?_, ?_, ?_, ?_, ?_, ?_, ?_⟩, h3.2.1.frS fY (by omega) (by intro i; omega), ?_, h3.2.2.2.1.frS fY (by omega) (by intro i; omega), h3.2.2.2.2.frS fY (by intro i; omega) (by intro i; omega)⟩, f3.trans (fY.weak (fun k i h => by unfold zcpS; omega))⟩
      · unfold f_X2_overwrite
        rw [z6]
        simp (disch := omega) only [Option.bind_some, ifm1, nIdiv, hd, zgd_in, nIc, hpl, nIadd, c10, zbd_eq, rd_ne, c11]
      · rw [(fY _ _ (by omega)).1]; exact h3.1.1
      · rw [(fY _ _ (by omega)).1]; exact h3.1.2.1
      · rw [(fY _ _ (by omega)).1]; exact h3.1.2.2.1
      · rw [(fY _ _ (by omega)).1]; exact h3.1.2.2.2.1
      · rw [(fY _ _ (by omega)).1]; exact h3.1.2.2.2.2.1
      · rw [(fY _ _ (by omega)).1]; exact h3.1.2.2.2.2.2.1
      · rw [rd_sl1', rd_ne (by omega), rd_eq]; rfl
      · rw [rd_sl1', rd_eq]; rfl
      · rw [(fY _ _ (by omega)).1]; exact h3.1.2.2.2.2.2.2.2.2.1
      · rw [(fY _ _ (by omega)).1]; exact h3.1.2.2.2.2.2.2.2.2.2.1
      · rw [(fY _ _ (by omega)).1]; exact h3.1.2.2.2.2.2.2.2.2.2.2.1
      · rw [(fY _ _ (by omega)).1]; exact h3.1.2.2.2.2.2.2.2.2.2.2.2
      · exact cSetE (q := (k, v)) hch hW.gok (by omega) hc.2 hb hil z3
  | none =>
    have hmem : k ∉ zA_S A := fun hm => by obtain ⟨t, ht⟩ := (zS_fi hW k).mp hm; rw [hz] at ht; cases ht
    have hsz : M3.1 (o + 15) 1 = nI (zA_S A).length := h3.2.2.2.1.1
    rw [if_neg (by simpa using hmem), hsz]
    by_cases hS : (zA_S A).length < 300
    · show ∃ M', _ = some ((if (zA_S A).length < 300 then (nI 0, zpuD A k v) else ((-3 : Int32), A)).1, M') ∧ zRC M' o (if (zA_S A).length < 300 then (nI 0, zpuD A k v) else ((-3 : Int32), A)).2 ∧ _
      rw [if_pos hS, if_pos (nI_lt hS (by omega))]
      have c10 : M3.1 o 10 = zA_rd A := h3.1.2.2.2.2.2.2.1
      have n13 : M3.1 (o + 13) (zA_a A k) = nI (zA_G A (zA_a A k)).length := h3.2.2.1.2.1 _ hb
      have h11 := h3.rdc (r := zA_rd A + nI (zA_G A (zA_a A k)).length)
      have f11 : zFr (fun a j => a = o ∧ j = 10) M3 (zz_si M3 o 10 (zA_rd A + nI (zA_G A (zA_a A k)).length)) := zFr.si ⟨rfl, rfl⟩
      generalize hM11 : zz_si M3 o 10 (zA_rd A + nI (zA_G A (zA_a A k)).length) = M11 at h11 f11
      have h11c : zCh M11 (o + 4) (zA_c A) (zA_h A) (zA_E A) (zA_G A) := h11.2.2.1
      obtain ⟨M14, t1, t2, t3⟩ := cAppE (q := (k, v)) h11c hW.pk hc.1 hc.2 h11.1.2.2.2.2.2.2.2.2.2.2.2 hb
      have c11 : M14.1 o 11 = zA_wr A := by rw [(t3 _ _ (by omega)).1]; exact h11.1.2.2.2.2.2.2.2.1
      have hor : zOr (zz_si M14 o 11 (zA_wr A + (if znew A k = true then nI 2 else nI 1))) (o + 15) (zA_cd A) (zA_S A) := (h11.2.2.2.1.frS t3 (by omega) (by intro i; omega)).frS (S := fun a j => a = o) (zFr.si (by omega)) (by omega) (by intro i; omega)
      obtain ⟨M2, i1, i2, i3⟩ := cInsert hor hW.pw hS hW.cds (zcd_lt hW hk)
      have fI : zFr (fun a j => (a = o ∧ (j = 10 ∨ j = 11)) ∨ (o + 5 ≤ a ∧ a ≤ o + 13) ∨ (a = o + 15 ∧ j = 1) ∨ a = o + 16) M3 M2 := ((f11.weak (fun k i h => by omega)).trans (t3.weak (fun k i h => by omega))).trans ((zFr.si (by omega)).trans (i3.weak (fun k i h => by omega)))
      have hRC : zRC M2 o (zpuN A k v) := by
        refine ⟨⟨?_, ?_, ?_, ?_, ?_, ?_, ?_, ?_, ?_, ?_, ?_, ?_⟩, h3.2.1.frS fI (by omega) (by intro i; omega), ?_, i2, h3.2.2.2.2.frS fI (by intro i; omega) (by intro i; omega)⟩
        · rw [(fI _ _ (by omega)).1]; exact h3.1.1
        · rw [(fI _ _ (by omega)).1]; exact h3.1.2.1
        · rw [(fI _ _ (by omega)).1]; exact h3.1.2.2.1
        · rw [(fI _ _ (by omega)).1]; exact h3.1.2.2.2.1
        · rw [(fI _ _ (by omega)).1]; exact h3.1.2.2.2.2.1
        · rw [(fI _ _ (by omega)).1]; exact h3.1.2.2.2.2.2.1
        · rw [(i3 _ _ (by omega)).1, rd_ne (by omega), (t3 _ _ (by omega)).1]; exact h11.1.2.2.2.2.2.2.1
        · rw [(i3 _ _ (by omega)).1, rd_eq]; rfl
        · rw [(fI _ _ (by omega)).1]; exact h3.1.2.2.2.2.2.2.2.2.1
        · rw [(fI _ _ (by omega)).1]; exact h3.1.2.2.2.2.2.2.2.2.2.1
        · rw [(fI _ _ (by omega)).1]; exact h3.1.2.2.2.2.2.2.2.2.2.2.1
        · rw [(fI _ _ (by omega)).1]; exact h3.1.2.2.2.2.2.2.2.2.2.2.2
        · exact (t2.frS (S := fun a j => a = o) (zFr.si (by omega)) (by intro k i; omega)).frS i3 (by intro k i; omega)
      obtain ⟨M', d1, d2, d3⟩ := zdue_c (w := znew A k) (zpuN_wf hW hk hv hS hz) hRC
      refine ⟨M', ?_, d2, (f3.trans (fI.weak (fun k i h => by unfold zcpS; omega))).trans d3⟩
      simp (disch := omega) only [zgd_in, nIc, n13, c10, zbd_eq, hM11]
      rw [t1, Option.bind_some]
      simp only [zpr]
      have hw : decide ((zA_E A (zA_a A k)).length = zA_c A * (zA_G A (zA_a A k)).length) = znew A k := rfl
      rw [hw]
      unfold j_X2_store_121
      rw [c11]
      simp only [zbd_eq]
      cases hnw : znew A k with
      | true =>
        rw [hnw] at i1 d1
        simp only [if_true] at i1
        rw [if_pos rfl, i1, Option.bind_some]
        exact d1
      | false =>
        rw [hnw] at i1 d1
        simp only [Bool.false_eq_true, if_false] at i1
        rw [if_neg (by decide), i1, Option.bind_some]
        exact d1
    · show ∃ M', _ = some ((if (zA_S A).length < 300 then (nI 0, zpuD A k v) else ((-3 : Int32), A)).1, M') ∧ zRC M' o (if (zA_S A).length < 300 then (nI 0, zpuD A k v) else ((-3 : Int32), A)).2 ∧ _
      rw [if_neg hS, if_neg (nI_nlt (by omega) (by omega))]
      exact ⟨M3, rfl, h3, f3⟩
end CS
