set_option maxHeartbeats 2000000 in
theorem op_tell (N : Nat) (a : Int32) : zSame N (f_X9_tell a) (f_X10_tell a) := by
  refine zSame.tr (fun hN A hW => ?_)
  have hlen := hW.2.2.2.2.2.2.2.2.1.1
  cases hz : zop (zA_sc A) a with
  | false =>
    refine ⟨(-1 : Int32), A, hW.up, fun M h => ⟨M, ?_, h, zFr.refl M⟩, fun M h => ⟨M, ?_, h.up, zFr.refl M⟩⟩
    · unfold f_X9_tell
      rw [cIsOpen (o := 29) hN hW h.2.2.2.2, hz]; rfl
    · unfold f_X10_tell
      rw [mIsOpen h.2.2.2.2, hz]; rfl
  | true =>
    obtain ⟨s, q, hs, rfl, hq⟩ := zop_t hz
    have hq12 := hW.2.2.2.2.2.2.2.2.2 s hs q hq
    have hq2 := hq12.2
    have hc31 : ∀ M, zRC M 12 A → M.1 31 s = q.2 ∧ M.1 30 s = nI q.1 := fun M h => ⟨((h.2.2.2.2 s hs).2 q hq).2, ((h.2.2.2.2 s hs).2 q hq).1⟩
    have hm15 : ∀ M, zRM M 0 N A → M.1 74 (15 + s) = q.2 ∧ M.1 74 (19 + s) = nI q.1 := fun M h => by
      obtain ⟨w, w1, w2, w3⟩ := h.2.2.2.2
      simp only [Nat.zero_add] at w3
      have := (w3 s hs).2 q hq
      exact ⟨this.2.1, this.2.2⟩
    obtain ⟨cd, hcd⟩ : ∃ cd : Nat → Nat, cd = zA_cd A := ⟨_, rfl⟩
    obtain ⟨pc, hpc⟩ : ∃ pc : Nat → Bool, pc = zcom A q.2 := ⟨_, rfl⟩
    by_cases hat : zbeh A q.2 < (zA_S A).length
    · have hget := zgetD hat
      generalize hkd : (zA_S A).getD (zbeh A q.2) 0 = k at hget
      have hk := hW.key (List.mem_of_getElem? hget)
      let A' : zzA := zsct A (zscs (zA_sc A) s (some (q.1 + 1, nI k)))
      have hsc' : ∀ u, u < 4 → ∀ r, zscs (zA_sc A) s (some (q.1 + 1, nI k)) u = some r → r.1 ≤ N + 1 ∧ (r.2 = (-1 : Int32) ∨ ∃ k, k < 65536 ∧ r.2 = nI k) := fun u hu r hr => by
        unfold zscs at hr
        by_cases hus : u = s
        · rw [if_pos hus] at hr
          cases hr
          exact ⟨by show q.1 + 1 ≤ N + 1; omega, Or.inr ⟨k, hk, rfl⟩⟩
        · rw [if_neg hus] at hr
          have := hW.2.2.2.2.2.2.2.2.2 u hu r hr
          exact ⟨by omega, this.2⟩
      have hWA' : zWF (N + 1) A' := by
        obtain ⟨a1, a2, a3, a4, a5, a6, a7, a8, a9, -⟩ := hW
        exact ⟨a1, a2, a3, a4, a5, a6, a7, a8, a9, hsc'⟩
      refine ⟨nI k, A', hWA', fun M h => ?_, fun M h => ?_⟩
      · obtain ⟨M6, e1, e2⟩ := cBehind hW h hq2
        have h6 : zRC M6 12 A := h.frS e2 (by intro k i; omega)
        have hs1 : M6.1 27 1 = nI (zA_S A).length := h6.2.2.2.1.1
        have hf : zFr (fun a i => (a = 31 ∧ i = s) ∨ (a = 30 ∧ i = s)) M6 (zz_si (zz_si M6 31 s (nI k)) 30 s (nI (q.1 + 1))) := (zFr.si (by omega)).trans (zFr.si (by omega))
        refine ⟨zz_si (zz_si M6 31 s (nI k)) 30 s (nI (q.1 + 1)), ?_, ?_, (e2.weak (fun k i h => by unfold zcS; omega)).trans (hf.weak (fun k i h => by unfold zcS; omega))⟩
        · unfold f_X9_tell
          rw [cIsOpen (o := 29) hN hW h.2.2.2.2, hz]
          have hka := cKeyAt (o := 27) hW h6.2.2.2.1 hat
          rw [hkd] at hka
          have h30 := (hc31 M6 h6).2
          simp (disch := omega) only [Option.bind_some, if_true, zgd_in, nIc, (hc31 M h).1, e1, zpr, hs1, ifLt_t, hka, zbd, rd_ne, h30, nIadd]
        · refine ⟨h6.1.frS hf (by intro i; omega) (by omega), h6.2.1.frS hf (by omega) (by intro i; omega), h6.2.2.1.frS hf (by intro k i; omega), h6.2.2.2.1.frS hf (by omega) (by intro i; omega), fun u hu => ?_⟩
          show (zscs (zA_sc A) s (some (q.1 + 1, nI k)) u = none → _) ∧ ∀ r, zscs (zA_sc A) s (some (q.1 + 1, nI k)) u = some r → _
          unfold zscs
          by_cases hus : u = s
          · rw [if_pos hus]
            refine ⟨fun hh => (by cases hh), fun r hr => ?_⟩
            cases hr
            rw [hus]
            exact ⟨by rw [rd_eq], by rw [rd_ne (by omega), rd_eq]⟩
          · rw [if_neg hus, rd_ne (by omega), rd_ne (by omega), rd_ne (a := 29 + 2) (by omega), rd_ne (a := 29 + 2) (by omega)]
            exact h6.2.2.2.2 u hu
      · obtain ⟨ke, X, l1, l2, l3, l4⟩ := mTellLoop hN hW hs hz hq2 h (hm15 M h).1 hpc hcd
        have hX : zRM X 0 N A := h.frS hW l3 (by intro i; omega)
        have hmX : X.1 74 7 = nI (zA_S A).length := by have := hX.1.2.2.2.2.2.2.2.1; simpa using this
        obtain ⟨o1, o2⟩ := zbst_ok (fun x => pc (ke x)) (fun x => cd (ke x)) (zA_S A).length
        obtain ⟨x, hx1, hx2⟩ := (l2 k).mp (List.mem_of_getElem? hget)
        have hcx : pc (ke x) = true := by rw [hpc, hx2, zcom_at hW hget, decide_eq_true (Nat.le_refl _)]
        have hbz : zbst (fun x => pc (ke x)) (fun x => cd (ke x)) (zA_S A).length = some x ∨ ∃ y, y < (zA_S A).length ∧ ke y = k ∧ zbst (fun x => pc (ke x)) (fun x => cd (ke x)) (zA_S A).length = some y := by
          cases hb : zbst (fun x => pc (ke x)) (fun x => cd (ke x)) (zA_S A).length with
          | none => have := o1 hb x hx1; rw [hcx] at this; cases this
          | some y =>
            right
            obtain ⟨y1, y2, y3⟩ := o2 y hb
            have y4 := y3 x hx1 hcx
            refine ⟨y, y1, ?_, rfl⟩
            obtain ⟨j, hj⟩ := List.getElem?_of_mem ((l2 (ke y)).mpr ⟨y, y1, rfl⟩)
            have hcj := zcom_at (l := q.2) hW hj
            rw [← hpc, y2] at hcj
            have hjb : zbeh A q.2 ≤ j := by simpa using hcj.symm
            have hnl := pw_lt (f := zA_cd A) hW.pw hget hj
            rw [← hcd] at hnl
            rw [hx2] at y4
            have hje : j = zbeh A q.2 := by
              rcases Nat.lt_or_ge (zbeh A q.2) j with hh | hh
              · have := hnl.mpr hh; omega
              · omega
            rw [hje, hget] at hj
            cases hj; rfl
        have hbz2 : ∃ y, y < (zA_S A).length ∧ ke y = k ∧ zbst (fun x => pc (ke x)) (fun x => cd (ke x)) (zA_S A).length = some y := by
          rcases hbz with hh | hh
          · exact ⟨x, hx1, hx2, hh⟩
          · exact hh
        obtain ⟨y, y1, y2, y3⟩ := hbz2
        have hky : X.1 74 (40 + y) = nI k := by rw [(l3 _ _ (by omega)).1, (l1 y y1).2, y2]
        have h19 := (hm15 X hX).2
        have hf : zFr (fun a i => a = 74 ∧ (i = 15 + s ∨ i = 19 + s)) X (zz_si (zz_si X 74 (15 + s) (nI k)) 74 (19 + s) (nI (q.1 + 1))) := (zFr.si (by omega)).trans (zFr.si (by omega))
        refine ⟨zz_si (zz_si X 74 (15 + s) (nI k)) 74 (19 + s) (nI (q.1 + 1)), ?_, ?_, (l3.weak (fun k i h => by unfold zmS; omega)).trans (hf.weak (fun k i h => by unfold zmS; omega))⟩
        · refine l4 _ ?_
          have hzp : zpg (some y) = nI y := rfl
          rw [y3]
          unfold b_X10_tell_14
          simp (disch := omega) only [hmX, ifLe_t, hzp, ifm1, nIadd, zgd_in, nIc, hky, zbd, rd_ne, h19]
        · obtain ⟨g1, g2, ⟨cm, xs, ke', ve, be, se, hcm, e⟩, g4, w, w1, w2, w3⟩ := hX.up
          refine ⟨g1.frS hf (by intro i hi; omega), g2.frS hW.hok.2 hf (by intro i hi; omega), ⟨cm, xs, ke', ve, be, se, hcm, e.frS hlen hf (by intro i hi; omega)⟩, g4.frS hW.2.2.2.2.2.1 hf (by intro i hi; omega), w, w1, by rw [(hf _ _ (by omega)).1]; exact w2, fun u hu => ?_⟩
          simp only [Nat.zero_add] at w3 ⊢
          show (zscs (zA_sc A) s (some (q.1 + 1, nI k)) u = none → _) ∧ ∀ r, zscs (zA_sc A) s (some (q.1 + 1, nI k)) u = some r → _
          unfold zscs
          by_cases hus : u = s
          · rw [if_pos hus]
            refine ⟨fun hh => (by cases hh), fun r hr => ?_⟩
            cases hr
            rw [hus]
            exact ⟨((w3 s hs).2 q hq).1, by rw [rd_ne (by omega), rd_eq], by rw [rd_eq]⟩
          · rw [if_neg hus, (hf _ _ (by omega)).1, (hf _ _ (by omega)).1]
            exact w3 u hu
    · refine ⟨(-2 : Int32), A, hW.up, fun M h => ?_, fun M h => ?_⟩
      · obtain ⟨M6, e1, e2⟩ := cBehind hW h hq2
        have h6 : zRC M6 12 A := h.frS e2 (by intro k i; omega)
        have hs1 : M6.1 27 1 = nI (zA_S A).length := h6.2.2.2.1.1
        have := zbeh_le A q.2
        refine ⟨M6, ?_, h6, e2.weak (fun k i h => by unfold zcS; omega)⟩
        unfold f_X9_tell
        rw [cIsOpen (o := 29) hN hW h.2.2.2.2, hz]
        simp (disch := omega) only [Option.bind_some, if_true, zgd_in, nIc, (hc31 M h).1, e1, zpr, hs1, ifLt_f]
      · obtain ⟨ke, X, l1, l2, l3, l4⟩ := mTellLoop hN hW hs hz hq2 h (hm15 M h).1 hpc hcd
        have hX : zRM X 0 N A := h.frS hW l3 (by intro i; omega)
        have hmX : X.1 74 7 = nI (zA_S A).length := by have := hX.1.2.2.2.2.2.2.2.1; simpa using this
        obtain ⟨o1, o2⟩ := zbst_ok (fun x => pc (ke x)) (fun x => cd (ke x)) (zA_S A).length
        refine ⟨X, ?_, hX.up, l3.weak (fun k i h => by unfold zmS; omega)⟩
        refine l4 _ ?_
        cases hb : zbst (fun x => pc (ke x)) (fun x => cd (ke x)) (zA_S A).length with
        | none =>
          have hzp : zpg none = (-1 : Int32) := rfl
          unfold b_X10_tell_14
          simp (disch := omega) only [hmX, ifLe_t, hzp, if_true]
        | some y =>
          exfalso
          obtain ⟨y1, y2, y3⟩ := o2 y hb
          obtain ⟨j, hj⟩ := List.getElem?_of_mem ((l2 (ke y)).mpr ⟨y, y1, rfl⟩)
          have hjl := (List.getElem?_eq_some_iff.mp hj).1
          have hcj := zcom_at (l := q.2) hW hj
          rw [← hpc, y2] at hcj
          have hjb : zbeh A q.2 ≤ j := by simpa using hcj.symm
          omega
