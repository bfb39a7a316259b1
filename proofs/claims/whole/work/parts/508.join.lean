/-! ===== a join: the value behind it ===== -/
def zjlv (A : zzA) : Nat := if zA_pt A = 0 then zA_lv A - 1 else zA_lv A
def zjpt (A : zzA) : Nat := if zA_pt A = 0 then zA_n A * 2 ^ (zA_lv A - 1) - 1 else zA_pt A - 1
noncomputable def zjoG (A : zzA) : Nat → List Nat := zlay (zA_c A) (zjpt A) (zA_E A (zjpt A)).length (zupd (zA_G A) (zA_B A - 1) []) (zA_E A (zA_B A - 1)).length
noncomputable def zjoE (A : zzA) : Nat → List (Nat × Nat) := zupd (zupd (zA_E A) (zA_B A - 1) []) (zjpt A) (zA_E A (zjpt A) ++ zA_E A (zA_B A - 1))
noncomputable def zjoi (A : zzA) : zzA :=
  (A.1, (zjlv A, zjpt A),
   (zA_rd A + nI ((zA_G A (zjpt A)).length + (zA_G A (zA_B A - 1)).length), zA_wr A + nI (zjoG A (zjpt A)).length, zA_sp A, zA_jn A + nI 1),
   A.2.2.2.1, A.2.2.2.2.1, zjoE A, zjoG A, A.2.2.2.2.2.2.2)
section JO
variable {N : Nat} {A : zzA}
theorem zWF.Bn (hW : zWF N A) : zA_n A ≤ zA_B A := by
  have : zA_n A * 1 ≤ zA_n A * 2 ^ zA_lv A := Nat.mul_le_mul_left _ (Nat.one_le_two_pow)
  unfold zA_B zA_s; omega
/-- level and pointer behind a join -/
theorem zjoi_s (hW : zWF N A) (hB : zA_n A < zA_B A) : zjlv A ≤ 6 ∧ zA_s (zjoi A) = zA_n A * 2 ^ zjlv A ∧ zA_B A = zA_s (zjoi A) + zjpt A + 1 ∧ zjpt A < zA_s (zjoi A) ∧ 1 ≤ zA_s (zjoi A) ∧ zA_s (zjoi A) ≤ 64 ∧ ((zA_pt A = 0 ∧ 1 ≤ zA_lv A ∧ zA_s A = 2 * zA_s (zjoi A) ∧ zjpt A + 1 = zA_s (zjoi A)) ∨ (zA_pt A ≠ 0 ∧ zA_s (zjoi A) = zA_s A ∧ zjpt A + 1 = zA_pt A)) := by
  have hs := hW.sB
  have hlv := hW.lv
  have hBd : zA_B A = zA_s A + zA_pt A := rfl
  have hsj : zA_s (zjoi A) = zA_n A * 2 ^ zjlv A := rfl
  by_cases hp : zA_pt A = 0
  · have e1 : zjlv A = zA_lv A - 1 := if_pos hp
    have e2 : zjpt A = zA_n A * 2 ^ (zA_lv A - 1) - 1 := if_pos hp
    have hl1 : 1 ≤ zA_lv A := by
      rcases Nat.eq_zero_or_pos (zA_lv A) with h0 | h0
      · exfalso
        unfold zA_s at hBd
        rw [h0] at hBd
        simp at hBd
        omega
      · exact h0
    have hpow : 2 ^ zA_lv A = 2 * 2 ^ (zA_lv A - 1) := by
      obtain ⟨l, hl⟩ : ∃ l, zA_lv A = l + 1 := ⟨zA_lv A - 1, by omega⟩
      rw [hl, Nat.pow_succ, Nat.add_sub_cancel, Nat.mul_comm]
    have hs2 : zA_s A = 2 * (zA_n A * 2 ^ (zA_lv A - 1)) := by
      unfold zA_s
      rw [hpow, ← Nat.mul_assoc, Nat.mul_comm (zA_n A) 2, Nat.mul_assoc]
    rw [e1] at hsj
    rw [hsj, e1, e2]
    generalize zA_n A * 2 ^ (zA_lv A - 1) = w at *
    refine ⟨by omega, rfl, by omega, by omega, by omega, by omega, Or.inl ⟨hp, hl1, hs2, by omega⟩⟩
  · have e1 : zjlv A = zA_lv A := if_neg hp
    have e2 : zjpt A = zA_pt A - 1 := if_neg hp
    have hs2 : zA_s A = zA_n A * 2 ^ zA_lv A := rfl
    rw [e1] at hsj
    rw [hsj, e1, e2, ← hs2]
    refine ⟨by omega, rfl, by omega, by omega, by omega, by omega, Or.inr ⟨hp, rfl, by omega⟩⟩
theorem zjoi_B (hW : zWF N A) (hB : zA_n A < zA_B A) : zA_B (zjoi A) = zA_B A - 1 := by
  have h := zjoi_s hW hB
  have : zA_B (zjoi A) = zA_s (zjoi A) + zjpt A := rfl
  omega
theorem zjoi_a (hW : zWF N A) (hB : zA_n A < zA_B A) (k : Nat) : zA_a (zjoi A) k = if zA_a A k = zA_B A - 1 then zjpt A else zA_a A k := by
  obtain ⟨-, -, h3, h4, h5, h6, h7⟩ := zjoi_s hW hB
  have hs := hW.sB
  obtain ⟨m1, m2⟩ := zmod2 (zA_h A k) h5
  have hh : zA_a (zjoi A) k = zadr (zA_s (zjoi A)) (zjpt A) (zA_h A k) := rfl
  have hA : zA_a A k = zadr (zA_s A) (zA_pt A) (zA_h A k) := rfl
  rw [hh, hA]
  unfold zadr
  rcases h7 with ⟨g1, g2, g3, g4⟩ | ⟨g1, g2, g3⟩
  · rw [g1, g3, if_neg (Nat.not_lt_zero _)]
    by_cases hr : zA_h A k % zA_s (zjoi A) < zjpt A
    · rw [if_pos hr, if_neg (by omega)]
    · rw [if_neg hr]
      by_cases hm : zA_h A k % (2 * zA_s (zjoi A)) = zA_B A - 1
      · rw [if_pos hm]; omega
      · rw [if_neg hm]; omega
  · rw [g2] at m1 m2 h3 h4 ⊢
    by_cases hr : zA_h A k % zA_s A < zjpt A
    · rw [if_pos hr, if_pos (show zA_h A k % zA_s A < zA_pt A by omega), if_neg (by omega)]
    · rw [if_neg hr]
      by_cases hr2 : zA_h A k % zA_s A = zjpt A
      · rw [if_pos (show zA_h A k % zA_s A < zA_pt A by omega)]
        by_cases hm : zA_h A k % (2 * zA_s A) = zA_B A - 1
        · rw [if_pos hm]; omega
        · rw [if_neg hm]; omega
      · rw [if_neg (show ¬ zA_h A k % zA_s A < zA_pt A by omega), if_neg (by omega)]
theorem zjo_pk1 (hW : zWF N A) (hB : zA_n A < zA_B A) : zPk (zA_c A) (zupd (fun b => (zA_E A b).length) (zA_B A - 1) 0) (zupd (zA_G A) (zA_B A - 1) []) := by
  have hs := hW.sB
  have hsum := zsum_upd (f := fun b => (zA_E A b).length) (x := 0) 64 (show zA_B A - 1 < 64 by omega)
  obtain ⟨p1, p2, p3, p4⟩ := hW.pk
  refine ⟨p1.sub (fun x => ?_), fun x hx => ?_, fun x hx => ?_, by omega⟩
  · by_cases hxp : x = zA_B A - 1
    · subst hxp; rw [zupd_eq]; exact List.nil_sublist _
    · rw [zupd_ne hxp]; exact List.Sublist.refl _
  · rw [zupd_ne (by omega)]; exact p2 x hx
  · by_cases hxp : x = zA_B A - 1
    · subst hxp
      right
      rw [zupd_eq, zupd_eq]; exact ⟨rfl, rfl⟩
    · rw [zupd_ne hxp, zupd_ne hxp]; exact p3 x hx
theorem zjo_pk2 (hW : zWF N A) (hB : zA_n A < zA_B A) {n : Nat} (hn : n ≤ (zA_E A (zA_B A - 1)).length) : zPk (zA_c A) (zupd (zupd (fun b => (zA_E A b).length) (zA_B A - 1) 0) (zjpt A) ((zA_E A (zjpt A)).length + n)) (zlay (zA_c A) (zjpt A) (zA_E A (zjpt A)).length (zupd (zA_G A) (zA_B A - 1) []) n) := by
  have hs := hW.sB
  obtain ⟨-, -, h3, h4, h5, h6, h7⟩ := zjoi_s hW hB
  have hsum := zsum_upd (f := fun b => (zA_E A b).length) (x := 0) 64 (show zA_B A - 1 < 64 by omega)
  have h4' := hW.pk.2.2.2
  have := (zjo_pk1 hW hB).lay hW.c2.1 (show zjpt A < 64 by omega) n (by omega)
  rw [zupd_ne (show zjpt A ≠ zA_B A - 1 by omega)] at this
  exact this
theorem zjoi_pk (hW : zWF N A) (hB : zA_n A < zA_B A) : zPk (zA_c A) (fun b => (zjoE A b).length) (zjoG A) := by
  have := zjo_pk2 hW hB (Nat.le_refl _)
  unfold zjoE zjoG
  rw [zlen_upd, zlen_upd, List.length_append]
  exact this
theorem zjoi_wf (hW : zWF N A) (hB : zA_n A < zA_B A) : zWF N (zjoi A) := by
  have hBB := zjoi_B hW hB
  have hpk := zjoi_pk hW hB
  have hs := hW.sB
  obtain ⟨-, -, h3, h4, h5, h6, h7⟩ := zjoi_s hW hB
  have hpB : zjpt A ≠ zA_B A - 1 := by omega
  have hEo : zjoE A (zjpt A) = zA_E A (zjpt A) ++ zA_E A (zA_B A - 1) := by unfold zjoE; rw [zupd_eq]
  have hEl : zjoE A (zA_B A - 1) = [] := by unfold zjoE; rw [zupd_ne (by omega), zupd_eq]
  have hEx : ∀ x, x ≠ zjpt A → x ≠ zA_B A - 1 → zjoE A x = zA_E A x := fun x h1 h2 => by unfold zjoE; rw [zupd_ne h1, zupd_ne h2]
  obtain ⟨⟨w1, w2, w3, w4, w5, w6, w7, w8, w9, w10, w11, w12⟩, v2, v3, v4, v5, v6, v7, v8, v9, v10⟩ := id hW
  refine ⟨⟨w1, w2, w3, w4, w5, w6, w7, w8, h4, by omega, w11, w12⟩, fun b hb => ?_, fun b q hq => ?_, fun b => ?_, fun b hb => ?_, hpk.1.1, hpk.1.2.1, hpk.1.2.2, ⟨v9.1, v9.2.1, fun k => ?_⟩, v10⟩
  · rw [hBB] at hb
    show zjoE A b = [] ∧ zjoG A b = []
    have hG : zjoG A b = zupd (zA_G A) (zA_B A - 1) [] b := by unfold zjoG; rw [zlay_ne (by omega)]
    by_cases hbl : b = zA_B A - 1
    · subst hbl
      rw [hG, zupd_eq]
      exact ⟨hEl, rfl⟩
    · rw [hG, zupd_ne hbl, hEx b (by omega) hbl]
      exact v2 b (by omega)
  · have hq : q ∈ zjoE A b := hq
    rw [zjoi_a hW hB]
    by_cases h1 : b = zjpt A
    · subst h1
      rw [hEo] at hq
      rcases List.mem_append.mp hq with hq | hq
      · have := v3 _ q hq
        refine ⟨this.1, this.2.1, ?_⟩
        rw [if_neg (by omega)]; exact this.2.2
      · have := v3 _ q hq
        refine ⟨this.1, this.2.1, ?_⟩
        rw [if_pos this.2.2]
    · by_cases h2 : b = zA_B A - 1
      · subst h2
        rw [hEl] at hq; cases hq
      · rw [hEx b h1 h2] at hq
        have := v3 _ q hq
        refine ⟨this.1, this.2.1, ?_⟩
        rw [if_neg (by omega)]
        exact this.2.2
  · show ((zjoE A b).map Prod.fst).Nodup
    by_cases h1 : b = zjpt A
    · subst h1
      rw [hEo, List.map_append, List.nodup_append]
      refine ⟨v4 _, v4 _, fun x hx y hy e => ?_⟩
      obtain ⟨q, q1, q2⟩ := List.mem_map.mp hx
      obtain ⟨r, r1, r2⟩ := List.mem_map.mp hy
      have a1 := (v3 _ q q1).2.2
      have a2 := (v3 _ r r1).2.2
      rw [q2] at a1
      rw [r2] at a2
      rw [e] at a1
      omega
    · by_cases h2 : b = zA_B A - 1
      · subst h2; rw [hEl]; exact List.nodup_nil
      · rw [hEx b h1 h2]; exact v4 b
  · rw [hBB] at hb
    show (zjoG A b).length = zpgs (zA_c A) (zjoE A b).length
    rcases hpk.2.2.1 b (by omega) with e | ⟨e1, e2⟩
    · exact e
    · exfalso
      have l1 := zlay_len (c := zA_c A) (b := zjpt A) (e := (zA_E A (zjpt A)).length) (G := zupd (zA_G A) (zA_B A - 1) []) b (zA_E A (zA_B A - 1)).length
      rw [zupd_ne (by omega)] at l1
      have hl := v5 b (by omega)
      have h0 : 1 ≤ zpgs (zA_c A) (zA_E A b).length := by unfold zpgs; omega
      unfold zjoG at e1
      omega
  · show k ∈ zA_S A ↔ ∃ b v, (k, v) ∈ zjoE A b
    rw [v9.2.2 k]
    constructor
    · rintro ⟨b, v, hh⟩
      by_cases h1 : b = zjpt A
      · subst h1
        exact ⟨zjpt A, v, by rw [hEo]; exact List.mem_append.mpr (Or.inl hh)⟩
      · by_cases h2 : b = zA_B A - 1
        · subst h2
          exact ⟨zjpt A, v, by rw [hEo]; exact List.mem_append.mpr (Or.inr hh)⟩
        · exact ⟨b, v, by rw [hEx b h1 h2]; exact hh⟩
    · rintro ⟨b, v, hh⟩
      by_cases h1 : b = zjpt A
      · subst h1
        rw [hEo] at hh
        rcases List.mem_append.mp hh with hh | hh
        · exact ⟨_, v, hh⟩
        · exact ⟨_, v, hh⟩
      · by_cases h2 : b = zA_B A - 1
        · subst h2
          rw [hEl] at hh; cases hh
        · rw [hEx b h1 h2] at hh
          exact ⟨b, v, hh⟩
/-! ===== the class: a join ===== -/
set_option maxHeartbeats 8000000 in
theorem cUnite39 {M M0 : zzMem} {o : Nat} (hW : zWF N A) (h : zRC M o A) (hB : zA_n A < zA_B A) (f0 : zFr (fun k i => k = o ∧ (i = 8 ∨ i = 9)) M M0) (h8 : M0.1 o 8 = nI (zjlv A)) (h9 : M0.1 o 9 = nI (zjpt A + 1)) : ∃ M', j_X2_unite_39 o M0 = some (nI (zA_E A (zA_B A - 1)).length, M') ∧ zRC M' o (zjoi A) ∧ zFr (zcpS o) M M' := by
  have hs := hW.sB
  have hc := hW.c2
  obtain ⟨z1, z2, h3, h4, h5, h6, h7⟩ := zjoi_s hW hB
  have hpB : zjpt A ≠ zA_B A - 1 := by omega
  have hL3 := hW.e300 (zA_B A - 1)
  have hS3 := hW.2.2.2.2.2.2.2.2.1.1
  generalize hLd : zA_E A (zA_B A - 1) = L at hL3
  have f5 : zFr (fun k i => k = o ∧ (i = 8 ∨ i = 9 ∨ i = 10)) M (zz_si (zz_si M0 o 9 (nI (zjpt A))) o 10 (zA_rd A + nI ((zA_G A (zjpt A)).length + (zA_G A (zA_B A - 1)).length))) := ((f0.weak (fun k i h => by omega)).trans (zFr.si (by omega))).trans (zFr.si (by omega))
  have c8 : (zz_si (zz_si M0 o 9 (nI (zjpt A))) o 10 (zA_rd A + nI ((zA_G A (zjpt A)).length + (zA_G A (zA_B A - 1)).length))).1 o 8 = nI (zjlv A) := by rw [rd_ne (by omega), rd_ne (by omega)]; exact h8
  have c9 : (zz_si (zz_si M0 o 9 (nI (zjpt A))) o 10 (zA_rd A + nI ((zA_G A (zjpt A)).length + (zA_G A (zA_B A - 1)).length))).1 o 9 = nI (zjpt A) := by rw [rd_ne (by omega), rd_eq]
  have c10 : (zz_si (zz_si M0 o 9 (nI (zjpt A))) o 10 (zA_rd A + nI ((zA_G A (zjpt A)).length + (zA_G A (zA_B A - 1)).length))).1 o 10 = zA_rd A + nI ((zA_G A (zjpt A)).length + (zA_G A (zA_B A - 1)).length) := by rw [rd_eq]
  generalize hM5 : zz_si (zz_si M0 o 9 (nI (zjpt A))) o 10 (zA_rd A + nI ((zA_G A (zjpt A)).length + (zA_G A (zA_B A - 1)).length)) = M5 at f5 c8 c9 c10
  have hch5 : zCh M5 (o + 4) (zA_c A) (zA_h A) (zA_E A) (zA_G A) := h.2.2.1.frS f5 (by intro k i; omega)
  have hr5 : M5.1 (o + 4) 11 = nI (zA_c A) := by rw [(f5 _ _ (by omega)).1]; exact h.1.2.2.2.2.2.2.2.2.2.2.2
  obtain ⟨M6, g1, g2, g3, g4⟩ := cGather hch5 hW.pk hc.1 hc.2 (show zA_B A - 1 < 64 by omega)
  rw [hLd] at g2 g3
  have hch6 : zCh M6 (o + 4) (zA_c A) (zA_h A) (zA_E A) (zA_G A) := hch5.frS g4 (by intro k i; omega)
  obtain ⟨M7, e1, e2, e3⟩ := cEmpty0 hch6 hW.gok (show zA_B A - 1 < 64 by omega)
  have f7 : zFr (fun k i => (k = o + 4 ∧ i = 10) ∨ (o + 5 ≤ k ∧ k ≤ o + 14)) M5 M7 := (g4.weak (fun k i h => by omega)).trans (e3.weak (fun k i h => by omega))
  let R : Int32 × zzMem → Prop := fun r => r.1 = nI L.length ∧ zRC r.2 o (zjoi A) ∧ zFr (zcpS o) M r.2
  have hloop : ∃ r, j_X2_unite_104 o (nI 0) M7 = some r ∧ R r := by
    unfold j_X2_unite_104
    refine zlp_forI (B := fun s : (Int32 × zzMem) => b_X2_unite_104 o s.1 s.2) (fun i X => (nI i, X)) (fun i X => zFr (fun k i => (k = o + 4 ∧ i = 10) ∨ (o + 5 ≤ k ∧ k ≤ o + 14)) M5 X ∧ X.1 (o + 4) 10 = nI L.length ∧ (∀ (t : Nat) (q : Nat × Nat), L[t]? = some q → X.2 (o + 14) t = zen (zA_h A) q) ∧ zCh X (o + 4) (zA_c A) (zA_h A) (zupd (zupd (zA_E A) (zA_B A - 1) []) (zjpt A) (zA_E A (zjpt A) ++ L.take i)) (zlay (zA_c A) (zjpt A) (zA_E A (zjpt A)).length (zupd (zA_G A) (zA_B A - 1) []) i)) L.length R (fun i hi X hX => ?_) (fun X hX => ?_) 0 (by omega) M7 ?_
    · obtain ⟨x1, x2, x3, x4⟩ := hX
      have hget := List.getElem?_eq_getElem hi
      have hv := x3 i _ hget
      generalize L[i]'hi = q at hget hv
      have n9 : X.1 o 9 = nI (zjpt A) := by rw [(x1 _ _ (by omega)).1]; exact c9
      have hpk := zjo_pk2 hW hB (n := i) (by rw [hLd]; omega)
      have hlt : (L.take i).length = i := by rw [List.length_take]; omega
      have hpk' : zPk (zA_c A) (fun x => (zupd (zupd (zA_E A) (zA_B A - 1) []) (zjpt A) (zA_E A (zjpt A) ++ L.take i) x).length) (zlay (zA_c A) (zjpt A) (zA_E A (zjpt A)).length (zupd (zA_G A) (zA_B A - 1) []) i) := by
        rw [zlen_upd, zlen_upd, List.length_append, hlt]; exact hpk
      obtain ⟨X', t1, t2, t3⟩ := cAppE (q := q) x4 hpk' hc.1 hc.2 (by rw [(x1 _ _ (by omega)).1]; exact hr5) (show zjpt A < 64 by omega)
      refine ⟨X', ?_, x1.trans (t3.weak (fun k i h => by omega)), by rw [(t3 _ _ (by omega)).1]; exact x2, fun t q hq => by rw [(t3 _ _ (by omega)).2]; exact x3 t q hq, ?_⟩
      · show b_X2_unite_104 o (nI i) X = _
        unfold b_X2_unite_104
        simp (disch := omega) only [x2, ifLe_f, zgd_in, nIc, n9, hv, t1, Option.bind_some, zpr, zbd, nIadd]
      · rw [zupd_eq, zupd_upd, List.append_assoc, List.length_append, hlt] at t2
        rw [List.take_add_one, hget]
        exact t2
    · obtain ⟨x1, x2, x3, x4⟩ := hX
      rw [List.take_of_length_le (Nat.le_refl _)] at x4
      have x4' : zCh X (o + 4) (zA_c A) (zA_h A) (zjoE A) (zjoG A) := by unfold zjoE zjoG; rw [hLd]; exact x4
      have n9 : X.1 o 9 = nI (zjpt A) := by rw [(x1 _ _ (by omega)).1]; exact c9
      have n13 := x4'.2.1 (zjpt A) (by omega)
      have fX : zFr (fun k i => (k = o ∧ (i = 8 ∨ i = 9 ∨ i = 10)) ∨ (k = o + 4 ∧ i = 10) ∨ (o + 5 ≤ k ∧ k ≤ o + 14)) M X := (f5.weak (fun k i h => by omega)).trans (x1.weak (fun k i h => by omega))
      have c11 : X.1 o 11 = zA_wr A := by rw [(fX _ _ (by omega)).1]; exact h.1.2.2.2.2.2.2.2.1
      have c13 : X.1 o 13 = zA_jn A := by rw [(fX _ _ (by omega)).1]; exact h.1.2.2.2.2.2.2.2.2.2.1
      have fY : zFr (fun k i => k = o ∧ (i = 11 ∨ i = 13)) X (zz_si (zz_si X o 11 (zA_wr A + nI (zjoG A (zjpt A)).length)) o 13 (zA_jn A + nI 1)) := (zFr.si (by omega)).trans (zFr.si (by omega))
      have fA : zFr (fun k i => (k = o ∧ 8 ≤ i ∧ i ≤ 13) ∨ (k = o + 4 ∧ i = 10) ∨ (o + 5 ≤ k ∧ k ≤ o + 14)) M (zz_si (zz_si X o 11 (zA_wr A + nI (zjoG A (zjpt A)).length)) o 13 (zA_jn A + nI 1)) := (fX.weak (fun k i h => by omega)).trans (fY.weak (fun k i h => by omega))
      refine ⟨(nI L.length, zz_si (zz_si X o 11 (zA_wr A + nI (zjoG A (zjpt A)).length)) o 13 (zA_jn A + nI 1)), ?_, rfl, ⟨⟨?_, ?_, ?_, ?_, ?_, ?_, ?_, ?_, ?_, ?_, ?_, ?_⟩, h.2.1.frS fA (by omega) (by intro i; omega), x4'.frS fY (by intro k i; omega), h.2.2.2.1.frS fA (by omega) (by intro i; omega), h.2.2.2.2.frS fA (by intro i; omega) (by intro i; omega)⟩, fA.weak (fun k i h => by unfold zcpS; omega)⟩
      · show b_X2_unite_104 o (nI L.length) X = _
        unfold b_X2_unite_104
        simp (disch := omega) only [x2, ifLe_t, zgd_in, nIc, n9, c11, n13, zbd, rd_ne, c13]
      · rw [(fA _ _ (by omega)).1]; exact h.1.1
      · rw [(fA _ _ (by omega)).1]; exact h.1.2.1
      · rw [(fA _ _ (by omega)).1]; exact h.1.2.2.1
      · rw [(fA _ _ (by omega)).1]; exact h.1.2.2.2.1
      · rw [(fY _ _ (by omega)).1, (x1 _ _ (by omega)).1]; exact c8
      · rw [(fY _ _ (by omega)).1]; exact n9
      · rw [(fY _ _ (by omega)).1, (x1 _ _ (by omega)).1]; exact c10
      · show (zz_si (zz_si X o 11 (zA_wr A + nI (zjoG A (zjpt A)).length)) o 13 (zA_jn A + nI 1)).1 o 11 = _
        rw [rd_ne (by omega), rd_eq]; rfl
      · rw [(fY _ _ (by omega)).1, (fX _ _ (by omega)).1]; exact h.1.2.2.2.2.2.2.2.2.1
      · show (zz_si (zz_si X o 11 (zA_wr A + nI (zjoG A (zjpt A)).length)) o 13 (zA_jn A + nI 1)).1 o 13 = _
        rw [rd_eq]; rfl
      · rw [(fA _ _ (by omega)).1]; exact h.1.2.2.2.2.2.2.2.2.2.2.1
      · rw [(fA _ _ (by omega)).1]; exact h.1.2.2.2.2.2.2.2.2.2.2.2
    · refine ⟨f7, by rw [(e3 _ _ (by omega)).1]; exact g2, fun t q hq => by rw [(e3 _ _ (by omega)).2]; exact g3 t q hq, ?_⟩
      rw [List.take_zero, List.append_nil, zupd_same (by rw [zupd_ne (by omega)])]
      exact e2
  obtain ⟨r, r1, r2, r3, r4⟩ := hloop
  refine ⟨r.2, ?_, r3, r4⟩
  have hbk : f_X2_buckets o (zz_si M0 o 9 (nI (zjpt A))) = nI (zA_B A - 1) := by
    unfold f_X2_buckets
    rw [rd_ne (by omega), rd_ne (by omega), rd_eq, h8, (f0 _ _ (by omega)).1, h.1.1, nIshl (by omega) (by omega), nIadd]
    congr 1
    omega
  have n13a : (zz_si M0 o 9 (nI (zjpt A))).1 (o + 13) (zjpt A) = nI (zA_G A (zjpt A)).length := by
    rw [rd_ne (by omega), (f0 _ _ (by omega)).1]; exact h.2.2.1.2.1 _ (by omega)
  have n13b : (zz_si M0 o 9 (nI (zjpt A))).1 (o + 13) (zA_B A - 1) = nI (zA_G A (zA_B A - 1)).length := by
    rw [rd_ne (by omega), (f0 _ _ (by omega)).1]; exact h.2.2.1.2.1 _ (by omega)
  have n10 : (zz_si M0 o 9 (nI (zjpt A))).1 o 10 = zA_rd A := by
    rw [rd_ne (by omega), (f0 _ _ (by omega)).1]; exact h.1.2.2.2.2.2.2.1
  have hsub : nI (zjpt A + 1) - nI 1 = nI (zjpt A) := by rw [nIsub (by omega), Nat.add_sub_cancel]
  unfold j_X2_unite_39
  rw [h9, hsub]
  simp (disch := omega) only [zbd, hbk, rd_eq, zgd_in, nIc, n13a, n13b, n10, nIadd, hM5, g1, Option.bind_some, e1, r1]
  rw [← r2]
theorem zbd_eq {α β : Type} (v : α) (f : α → β) : zbd v f = f v := rfl
theorem cUniteS {M : zzMem} {o : Nat} (hW : zWF N A) (h : zRC M o A) (hB : zA_n A < zA_B A) (g1 : zA_pt A = 0) : f_X2_span o (zz_si M o 8 (nI (zA_lv A - 1))) = nI (zjpt A + 1) := by
  obtain ⟨z1, z2, h3, h4, h5, h6, h7⟩ := zjoi_s hW hB
  have hg : zjpt A + 1 = zA_s (zjoi A) := by omega
  have e1 : zA_lv A - 1 = zjlv A := (if_pos g1).symm
  have c4 := h.1.1
  unfold f_X2_span
  rw [rd_ne (by omega), rd_eq, c4, e1, nIshl (by omega) (by omega), ← z2, hg]
theorem cUnite {M : zzMem} {o : Nat} (hW : zWF N A) (h : zRC M o A) (hB : zA_n A < zA_B A) : ∃ M', f_X2_unite o M = some (nI (zA_E A (zA_B A - 1)).length, M') ∧ zRC M' o (zjoi A) ∧ zFr (zcpS o) M M' := by
  have hs := hW.sB
  have hn := hW.1.2.1
  obtain ⟨z1, z2, h3, h4, h5, h6, h7⟩ := zjoi_s hW hB
  have c4 := h.1.1
  have c8 := h.1.2.2.2.2.1
  have c9 := h.1.2.2.2.2.2.1
  have hlt : M.1 o 4 < f_X2_buckets o M := by
    rw [cBuck hW h.1, c4]; exact nI_lt (by omega) (by omega)
  unfold f_X2_unite
  rw [if_pos hlt]
  rcases h7 with ⟨g1, g2, g3, g4⟩ | ⟨g1, g2, g3⟩
  · have e1 : zA_lv A - 1 = zjlv A := (if_pos g1).symm
    have h0 : M.1 o 9 = 0 := by rw [c9, g1]; rfl
    have hv : M.1 o 8 - nI 1 = nI (zA_lv A - 1) := by rw [c8, nIsub g2]
    rw [if_pos h0, hv, zbd_eq, cUniteS hW h hB g1, zbd_eq]
    refine cUnite39 hW h hB ((zFr.si ?_).trans (zFr.si ?_)) ?_ ?_
    · omega
    · omega
    · rw [rd_ne (by omega), rd_eq, e1]
    · rw [rd_eq]
  · have e1 : zjlv A = zA_lv A := if_neg g1
    have h0 : ¬ M.1 o 9 = 0 := by rw [c9]; exact nI_ne0 (by omega) (by omega)
    rw [if_neg h0]
    refine cUnite39 hW h hB (zFr.refl M) ?_ ?_
    · rw [e1]; exact c8
    · rw [g3]; exact c9
theorem cUniteN {M : zzMem} {o : Nat} (hW : zWF N A) (h : zRC M o A) (hB : ¬ zA_n A < zA_B A) : f_X2_unite o M = some ((-3 : Int32), M) := by
  have hn := hW.1.2.1
  unfold f_X2_unite
  rw [cBuck hW h.1, h.1.1]
  simp (disch := omega) only [ifLt_f]
end JO
