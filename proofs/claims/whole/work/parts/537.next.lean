/-! ===== which keys the next split moves ===== -/
theorem zfilt_at {α : Type} {g : α → Bool} {L : List α} {t : Nat} {q : α} (h : L[t]? = some q) (hg : g q = true) : (L.filter g)[((L.take t).filter g).length]? = some q := by
  obtain ⟨hl, hq⟩ := List.getElem?_eq_some_iff.mp h
  have hs := List.take_append_drop t L
  rw [List.drop_eq_getElem_cons hl, hq] at hs
  have h2 : L.filter g = (L.take t).filter g ++ q :: (L.drop (t + 1)).filter g := by
    rw [← hs, List.filter_append, List.filter_cons, if_pos hg]
    simp [hs]
  rw [h2, List.getElem?_append_right (Nat.le_refl _), Nat.sub_self, List.getElem?_cons_zero]
noncomputable def znxt (A : zzA) (a : Int32) : Int32 := if a = (-1 : Int32) then nI (zgon A).length else match (zgon A)[a.toNatClampNeg]? with
  | some q => nI q.1
  | none => (-4 : Int32)
section NX
variable {N : Nat} {A : zzA}
theorem cNext {M : zzMem} {a : Int32} (hW : zWF N A) (h : zRC M 12 A) (ha : a = (-1 : Int32) ∨ ∃ i, i < 2147483648 ∧ a = nI i) (hc : M.1 16 10 = nI (zA_E A (zA_pt A)).length) (hh : ∀ i q, (zA_E A (zA_pt A))[i]? = some q → M.2 26 i = zen (zA_h A) q) : j_X9_next_45 a (nI 0) (nI 0) M = some (znxt A a, M) := by
  have hE := hW.e300 (zA_pt A)
  have hlen := hW.2.2.2.2.2.2.2.2.1.1
  let L := zA_E A (zA_pt A)
  have hL : L = zA_E A (zA_pt A) := rfl
  have hLl : L.length ≤ 300 := Nat.le_trans hE hlen
  have hc : M.1 16 10 = nI L.length := hc
  have hgl : (L.filter (zgo A)).length ≤ L.length := List.length_filter_le _ _
  unfold j_X9_next_45
  have hZ := zlp_inv (B := fun s : (Int32 × Int32) => b_X9_next_45 a s.1 s.2 M) (fun s => ∃ t, s = (nI ((L.take t).filter (zgo A)).length, nI t) ∧ t ≤ L.length ∧ ∀ i, i < 2147483648 → a = nI i → ((L.take t).filter (zgo A)).length ≤ i) (fun r => r = (znxt A a, M)) (fun s => 1000 - s.2.toNatClampNeg) ?_ (nI 0, nI 0) ⟨0, rfl, by omega, fun i _ _ => Nat.zero_le _⟩
  · obtain ⟨r, r1, r2⟩ := hZ
    rw [r1, r2]
  · rintro s ⟨t, rfl, ht, hi⟩
    have hfl := ztake_flen L t (zgo A)
    by_cases hte : t = L.length
    · right
      refine ⟨(znxt A a, M), ?_, rfl⟩
      show b_X9_next_45 a (nI ((L.take t).filter (zgo A)).length) (nI t) M = _
      have hall : L.take t = L := by rw [hte]; exact List.take_of_length_le (Nat.le_refl _)
      rw [hall] at hi ⊢
      have hz : L.filter (zgo A) = zgon A := rfl
      rw [hz] at hi ⊢
      unfold b_X9_next_45 znxt
      rw [hc, ifLe_t (by rw [hte]; exact Nat.le_refl _) (by omega)]
      rcases ha with rfl | ⟨i, h1, rfl⟩
      · rw [if_pos rfl, if_pos rfl]
      · have := hi i h1 rfl
        rw [ifm1 h1, if_neg (nI_nm1 h1), nIc h1, List.getElem?_eq_none this]
    · have hlt : t < L.length := by omega
      have hget := List.getElem?_eq_getElem hlt
      generalize L[t]'hlt = q at hget
      have hq := hW.ent _ q (List.mem_of_getElem? hget)
      have hv := hh t q hget
      have hgo := cGoes hW h.1 hW rfl rfl hq
      have htf := ztake_filter hget (zgo A)
      cases hg : zgo A q with
      | true =>
        rw [hg, if_pos rfl] at htf
        have hat := zfilt_at hget hg
        by_cases hia : nI ((L.take t).filter (zgo A)).length = a
        · right
          refine ⟨(znxt A a, M), ?_, rfl⟩
          show b_X9_next_45 a (nI ((L.take t).filter (zgo A)).length) (nI t) M = _
          unfold b_X9_next_45 znxt
          rw [hc, ifLe_f hlt (by omega)]
          simp (disch := omega) only [zgd_in, nIc, hv, hgo, Option.bind_some, hg, if_true]
          rw [if_pos hia, zen_key hq.1 hq.2.1 hq.2.2, ← hia, if_neg (nI_nm1 (by omega)), nIc (by omega)]
          have hat : (zgon A)[((L.take t).filter (zgo A)).length]? = some q := hat
          rw [hat]
        · left
          refine ⟨(nI ((L.take (t + 1)).filter (zgo A)).length, nI (t + 1)), ?_, ⟨t + 1, rfl, by omega, fun i h1 h2 => ?_⟩, ?_⟩
          · show b_X9_next_45 a (nI ((L.take t).filter (zgo A)).length) (nI t) M = _
            unfold b_X9_next_45
            rw [hc, ifLe_f hlt (by omega), htf, List.length_append, List.length_singleton]
            simp (disch := omega) only [zgd_in, nIc, hv, hgo, Option.bind_some, hg, if_true]
            rw [if_neg hia]
            simp only [zbd, nIadd]
          · rw [htf, List.length_append, List.length_singleton]
            have h3 := hi i h1 h2
            have h4 : ((L.take t).filter (zgo A)).length ≠ i := fun hh => hia (by rw [hh]; exact h2.symm)
            omega
          · simp (disch := omega) only [nIc]; omega
      | false =>
        rw [hg, if_neg (by decide), List.append_nil] at htf
        left
        refine ⟨(nI ((L.take (t + 1)).filter (zgo A)).length, nI (t + 1)), ?_, ⟨t + 1, rfl, by omega, fun i h1 h2 => by rw [htf]; exact hi i h1 h2⟩, ?_⟩
        · show b_X9_next_45 a (nI ((L.take t).filter (zgo A)).length) (nI t) M = _
          unfold b_X9_next_45
          rw [hc, ifLe_f hlt (by omega), htf]
          simp (disch := omega) only [zgd_in, nIc, hv, hgo, Option.bind_some, hg, Bool.false_eq_true, if_false, zbd, nIadd]
        · simp (disch := omega) only [nIc]; omega
theorem mNext {M : zzMem} {C cm : Nat} {xs : Nat → List Nat} {ke ve be se : Nat → Nat} {a : Int32} (hW : zWF N A) (h : zRc M 0 C A) (e : zMe M 0 (zA_S A).length cm (zA_E A) xs ke ve be se) (ha : a = (-1 : Int32) ∨ ∃ i, i < 2147483648 ∧ a = nI i) (hc : M.1 73 15 = nI (xs (zA_pt A)).length) (hh : ∀ i x, (xs (zA_pt A))[i]? = some x → M.1 79 i = nI x) : ∃ M', j_X10_next_35 a (nI 0) (nI 0) M = some (znxt A a, M') ∧ zFr (fun a _ => a = 78) M M' := by
  have hlen := hW.2.2.2.2.2.2.2.2.1.1
  have hE := e.xlen (zA_pt A)
  let L := xs (zA_pt A)
  have hLx : ∀ x ∈ L, x < (zA_S A).length := fun x hx => (e.2.2.1 _ x hx).1
  let g : Nat → Bool := fun x => zgo A (ke x, ve x)
  have hgon : zgon A = (L.filter g).map (fun x => (ke x, ve x)) := by
    unfold zgon
    rw [e.2.2.2.2 (zA_pt A), List.filter_map]; rfl
  have hkk : ∀ x, x < (zA_S A).length → ke x < 65536 := fun x hx => hW.key ((e.mem hW _).mpr ⟨x, hx, rfl⟩)
  have hgl : (L.filter g).length ≤ L.length := List.length_filter_le _ _
  have hc : M.1 73 15 = nI L.length := hc
  have hh : ∀ i x, L[i]? = some x → M.1 79 i = nI x := hh
  have hE : L.length ≤ (zA_S A).length := hE
  unfold j_X10_next_35
  have hZ := zlp_inv (B := fun s : (Int32 × Int32 × zzMem) => b_X10_next_35 a s.1 s.2.1 s.2.2) (fun s => ∃ t X, s = (nI ((L.take t).filter g).length, nI t, X) ∧ t ≤ L.length ∧ zFr (fun a _ => a = 78) M X ∧ ∀ i, i < 2147483648 → a = nI i → ((L.take t).filter g).length ≤ i) (fun r => r.1 = znxt A a ∧ zFr (fun a _ => a = 78) M r.2) (fun s => 1000 - s.2.1.toNatClampNeg) ?_ (nI 0, nI 0, M) ⟨0, M, rfl, by omega, zFr.refl M, fun i _ _ => Nat.zero_le _⟩
  · obtain ⟨r, r1, r2, r3⟩ := hZ
    exact ⟨r.2, by rw [r1, ← r2], r3⟩
  · rintro s ⟨t, X, rfl, ht, hX, hi⟩
    have hfl := ztake_flen L t g
    have hcX : X.1 73 15 = nI L.length := by rw [(hX _ _ (by omega)).1]; exact hc
    by_cases hte : t = L.length
    · right
      refine ⟨(znxt A a, X), ?_, rfl, hX⟩
      show b_X10_next_35 a (nI ((L.take t).filter g).length) (nI t) X = _
      have hall : L.take t = L := by rw [hte]; exact List.take_of_length_le (Nat.le_refl _)
      rw [hall] at hi ⊢
      have hz : (L.filter g).length = (zgon A).length := by rw [hgon, List.length_map]
      rw [hz] at hi ⊢
      unfold b_X10_next_35 znxt
      rw [hcX, ifLe_t (by omega) (by omega)]
      rcases ha with rfl | ⟨i, h1, rfl⟩
      · rw [if_pos rfl, if_pos rfl]
      · have := hi i h1 rfl
        rw [ifm1 h1, if_neg (nI_nm1 h1), nIc h1, List.getElem?_eq_none this]
    · have hlt : t < L.length := by omega
      have hget := List.getElem?_eq_getElem hlt
      generalize L[t]'hlt = x at hget
      have hxm := hLx x (List.mem_of_getElem? hget)
      have hv : X.1 79 t = nI x := by rw [(hX _ _ (by omega)).1]; exact hh t x hget
      have hke : X.1 74 (40 + x) = nI (ke x) := by rw [(hX _ _ (by omega)).1]; have := (e.2.1 x hxm).1; simpa using this
      obtain ⟨Y, y1, y2⟩ := mGoes (v := ve x) hW hW rfl rfl (h.1.frS hX (by intro i hi; omega)) (h.2.1.frS hW.hok.2 hX (by intro i hi; omega)) (by omega) (hkk x hxm) hke
      have y1 : f_X10_goesOver (nI x) X = some (g x, Y) := y1
      have fY : zFr (fun a _ => a = 78) M Y := hX.trans y2
      have hvY : Y.1 79 t = nI x := by rw [(y2 _ _ (by omega)).1]; exact hv
      have hkeY : Y.1 74 (40 + x) = nI (ke x) := by rw [(y2 _ _ (by omega)).1]; exact hke
      have htf := ztake_filter hget g
      cases hg : g x with
      | true =>
        rw [hg, if_pos rfl] at htf
        rw [hg] at y1
        have hat := zfilt_at hget hg
        by_cases hia : nI ((L.take t).filter g).length = a
        · right
          refine ⟨(znxt A a, Y), ?_, rfl, fY⟩
          show b_X10_next_35 a (nI ((L.take t).filter g).length) (nI t) X = _
          unfold b_X10_next_35 znxt
          rw [hcX, ifLe_f hlt (by omega)]
          simp (disch := omega) only [zgd_in, nIc, hv, y1, Option.bind_some, zpr, if_true, hvY, nIadd, hkeY]
          rw [if_pos hia, ← hia, if_neg (nI_nm1 (by omega)), nIc (by omega), hgon, List.getElem?_map, hat]
          rfl
        · left
          refine ⟨(nI ((L.take (t + 1)).filter g).length, nI (t + 1), Y), ?_, ⟨t + 1, Y, rfl, by omega, fY, fun i h1 h2 => ?_⟩, ?_⟩
          · show b_X10_next_35 a (nI ((L.take t).filter g).length) (nI t) X = _
            unfold b_X10_next_35
            rw [hcX, ifLe_f hlt (by omega), htf, List.length_append, List.length_singleton]
            simp (disch := omega) only [zgd_in, nIc, hv, y1, Option.bind_some, zpr, if_true]
            rw [if_neg hia]
            simp only [zbd, nIadd]
          · rw [htf, List.length_append, List.length_singleton]
            have h3 := hi i h1 h2
            have h4 : ((L.take t).filter g).length ≠ i := fun hh => hia (by rw [hh]; exact h2.symm)
            omega
          · simp (disch := omega) only [nIc]; omega
      | false =>
        rw [hg, if_neg (by decide), List.append_nil] at htf
        rw [hg] at y1
        left
        refine ⟨(nI ((L.take (t + 1)).filter g).length, nI (t + 1), Y), ?_, ⟨t + 1, Y, rfl, by omega, fY, fun i h1 h2 => by rw [htf]; exact hi i h1 h2⟩, ?_⟩
        · show b_X10_next_35 a (nI ((L.take t).filter g).length) (nI t) X = _
          unfold b_X10_next_35
          rw [hcX, ifLe_f hlt (by omega), htf]
          simp (disch := omega) only [zgd_in, nIc, hv, y1, Option.bind_some, zpr, Bool.false_eq_true, if_false, zbd, nIadd]
        · simp (disch := omega) only [nIc]; omega
end NX
theorem op_next (N : Nat) (a : Int32) : zSame N (f_X9_next a) (f_X10_next a) := by
  refine zSame.tr (fun hN A hW => ?_)
  have hp := hW.ptB
  have hc := hW.c2
  have hB := hW.sB
  by_cases h1 : (-1 : Int32) ≤ a
  · have ha : a = (-1 : Int32) ∨ ∃ i, i < 2147483648 ∧ a = nI i := by
      by_cases h0 : a < 0
      · left
        rw [Int32.lt_iff_toInt_lt] at h0
        rw [Int32.le_iff_toInt_le] at h1
        have e0 : (0 : Int32).toInt = 0 := by decide
        have e1 : (-1 : Int32).toInt = -1 := by decide
        apply Int32.toInt_inj.mp
        omega
      · obtain ⟨i, hi, rfl⟩ := nI_of h0
        exact Or.inr ⟨i, hi, rfl⟩
    by_cases h64 : zA_B A = 64
    · refine ⟨(-3 : Int32), A, hW.up, fun M h => ⟨M, ?_, h, zFr.refl M⟩, fun M h => ⟨M, ?_, h.up, zFr.refl M⟩⟩
      · unfold f_X9_next
        rw [if_pos h1, cFull (o := 12) hW h.1, decide_eq_true h64]; rfl
      · unfold f_X10_next
        rw [if_pos h1, mBuck hW h.1, h64]
        simp only [Option.bind_some, if_true]
    · refine ⟨znxt A a, A, hW.up, fun M h => ?_, fun M h => ?_⟩
      · obtain ⟨M3, g1, g2, g3, g4⟩ := cGather (ch := 16) h.2.2.1 hW.pk hc.1 hc.2 hp.2
        have h3 : zRC M3 12 A := h.frS g4 (by intro k i; omega)
        have h9 : M.1 12 9 = nI (zA_pt A) := h.1.2.2.2.2.2.1
        refine ⟨M3, ?_, h3, g4.weak (fun k i h => by unfold zcS; omega)⟩
        unfold f_X9_next
        rw [if_pos h1, cFull (o := 12) hW h.1, decide_eq_false h64, if_neg (by decide), h9, g1, Option.bind_some]
        exact cNext hW h3 ha g2 g3
      · obtain ⟨cm, xs, ke, ve, be, se, hcm, e, hm, hm3, hx, hc1⟩ := h.rc.fx hW
        obtain ⟨M4, l1, l2, l3, l4⟩ := mLists hm hm3 e (by omega) (fun x hx1 => by have := (hx x hx1).1; omega) hp.2
        have h4 : zRM M4 0 N A := h.frS hW l4 (by intro i; omega)
        obtain ⟨M', n1, n2⟩ := mNext hW h4.rc (e.frS hm3 l4 (by intro i; omega)) ha l2 l3
        have h6 : M.1 74 6 = nI (zA_pt A) := by have := h.1.2.2.2.2.2.2.1; simpa using this
        refine ⟨M', ?_, (h4.frS hW n2 (by intro i; omega)).up, (l4.weak (fun k i h => by unfold zmS; omega)).trans (n2.weak (fun k i h => by unfold zmS; omega))⟩
        unfold f_X10_next
        rw [if_pos h1, mBuck hW h.1, Option.bind_some, ifEq_f h64 (by omega) (by omega), h6, l1, Option.bind_some]
        exact n1
  · refine ⟨(-9 : Int32), A, hW.up, fun M h => ⟨M, ?_, h, zFr.refl M⟩, fun M h => ⟨M, ?_, h.up, zFr.refl M⟩⟩
    · unfold f_X9_next; rw [if_neg h1]
    · unfold f_X10_next; rw [if_neg h1]
