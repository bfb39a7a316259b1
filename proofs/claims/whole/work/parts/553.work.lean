/-! ===== work: read by the reference, then done ===== -/
theorem zlp_up {σ ρ : Type} {B : σ → Option (σ ⊕ ρ)} {s : σ} {o : Option ρ} (h : B s = zup o) : zlp B s = o := by
  rw [zlp_eq, h]
  cases o <;> rfl
def zmQ : Nat → Nat → Prop := fun k j => (k = 73 ∧ (j = 7 ∨ j = 9 ∨ j = 10 ∨ j = 20)) ∨ (80 ≤ k ∧ k ≤ 83)
theorem mRead {tp : List Nat} {n : Nat} (htx : ∀ x ∈ tp, x < 256) (hn : n ≤ tp.length) (hl : tp.length ≤ 320) : ∀ (f i a : Nat) (M : zzMem) (l0 : List (Nat × Nat × Nat × Nat)), i + f = 20 → l0.length = i → a ≤ n → zMS M tp n a → zSM M l0 → M.1 73 20 = nI i → ∃ b M1 ok M', f_X10_readsStep M = some (b, M1) ∧ zlp (fun s : (Bool × zzMem) => b_X10_work_40 s.1 s.2) (b, M1) = j_X10_work_107 ok M' ∧ zFr zmQ M M' ∧ (∀ g, zwk tp n f a = .inl g → ok = false ∧ M'.1 73 9 = g) ∧ ∀ l, zwk tp n f a = .inr l → ok = true ∧ zSM M' (l0 ++ l) ∧ M'.1 73 20 = nI (l0 ++ l).length := by
  have hend : ∀ X : zzMem, zlp (fun s : (Bool × zzMem) => b_X10_work_40 s.1 s.2) (false, X) = j_X10_work_107 false X := fun X => zlp_up (by
    show b_X10_work_40 false X = _
    unfold b_X10_work_40
    rw [if_neg (by decide)])
  have hnl : n ≤ 320 := Nat.le_trans hn hl
  intro f
  induction f with
  | zero =>
    intro i a M l0 hi hli ha hT hS h20
    refine ⟨false, zz_si M 73 9 (zfc 4 a), false, zz_si M 73 9 (zfc 4 a), ?_, hend _, zFr.si (by unfold zmQ; omega), fun g hg => ?_, fun l hl => by cases hl⟩
    · unfold f_X10_readsStep
      rw [h20, ifEq_t (by omega), hT.1, mWrong]; rfl
    · have hg := Sum.inl.inj hg
      subst hg
      exact ⟨rfl, rd_eq⟩
  | succ f ih =>
    intro i a M l0 hi hli ha hT hS h20
    obtain ⟨s1, s2⟩ := zstp_ok (tp := tp) (n := n) (a := a) hnl ha
    obtain ⟨b, M1, g1, g2, g3, g4⟩ := mStep hT h20 (by omega) htx hn hl ha
    have f1 : zFr zmQ M M1 := g2.weak (fun k j hh => by unfold zmR at hh; unfold zmQ; omega)
    have hw : zwk tp n (f + 1) a = zsb (zstp tp n a) (fun p => if n ≤ p.2 then .inr [p.1] else if tp.getD p.2 0 = 59 then zsb (zwk tp n f (p.2 + 1)) (fun l => .inr (p.1 :: l)) else .inl (zfc 1 p.2)) := rfl
    rw [hw]
    cases hz : zstp tp n a with
    | inl g =>
      obtain ⟨rfl, q2⟩ := g3 g hz
      rw [zsb_l]
      refine ⟨false, M1, false, M1, g1, hend _, f1, fun g' hg => ?_, fun l hl => by cases hl⟩
      rw [← Sum.inl.inj hg]
      exact ⟨rfl, q2⟩
    | inr p =>
      obtain ⟨rfl, q2, q3, q4⟩ := g4 p.1 p.2 hz
      obtain ⟨p1, p2, p3⟩ := s2 p.1 p.2 hz
      have hS1 : zSM M1 (l0 ++ [p.1]) := fun j q hq => by
        by_cases hjl : j < l0.length
        · rw [List.getElem?_append_left hjl] at hq
          rw [(g2 _ _ (by unfold zmR; omega)).1, (g2 _ _ (by unfold zmR; omega)).1, (g2 _ _ (by unfold zmR; omega)).1, (g2 _ _ (by unfold zmR; omega)).1]
          exact hS j q hq
        · rw [List.getElem?_append_right (by omega)] at hq
          have hj : j = i := by
            have := (List.getElem?_eq_some_iff.mp hq).1
            simp at this
            omega
          rw [hj, hli, Nat.sub_self] at hq
          cases hq
          rw [hj]
          exact q4
      have hl1 : (l0 ++ [p.1]).length = i + 1 := by rw [List.length_append, hli]; rfl
      rw [zsb_r]
      by_cases h1 : n ≤ p.2
      · rw [if_pos h1]
        refine ⟨true, M1, true, M1, g1, zlp_up ?_, f1, fun g' hg => (by cases hg), fun l hl => ?_⟩
        · show b_X10_work_40 true M1 = _
          unfold b_X10_work_40
          rw [if_pos rfl, q2.1, q2.2.1, ifLe_t h1 (by omega)]
        · cases hl
          exact ⟨rfl, hS1, by rw [hl1]; exact q3⟩
      · have hx := htx _ (List.mem_of_getElem? (ztp_get hn (show p.2 < n by omega)))
        have hsn : zsn tp n p.2 = nI (tp.getD p.2 0) := by unfold zsn; rw [if_pos (by omega)]
        rw [if_neg h1]
        have hb : b_X10_work_40 true M1 = if nI (tp.getD p.2 0) = nI 59 then j_X10_work_87 true (zz_si M1 73 7 (nI (p.2 + 1))) else j_X10_work_87 false (zz_si M1 73 9 (zfc 1 p.2)) := by
          unfold b_X10_work_40
          rw [if_pos rfl, q2.1, q2.2.1, ifLe_f (by omega) (by omega), mHere q2 hn hl (by omega), Option.bind_some, hsn]
          simp only [zbd, nIadd]
          by_cases h : nI (tp.getD p.2 0) = nI 59
          · rw [if_pos h, if_pos h]
          · rw [if_neg h, if_neg h, mWrong]; rfl
        by_cases h2 : tp.getD p.2 0 = 59
        · rw [if_pos h2]
          rw [if_pos (by rw [h2])] at hb
          obtain ⟨b2, M2, ok, M', r1, r2, r3, r4, r5⟩ := ih (i + 1) (p.2 + 1) (zz_si M1 73 7 (nI (p.2 + 1))) (l0 ++ [p.1]) (by omega) hl1 (by omega) (q2.go) (fun j q hq => by rw [rd_ne (by omega), rd_ne (by omega), rd_ne (by omega), rd_ne (by omega)]; exact hS1 j q hq) (by rw [rd_ne (by omega)]; exact q3)
          have hb2 : b_X10_work_40 true M1 = some (.inl (b2, M2)) := by
            rw [hb]
            unfold j_X10_work_87 j_X10_work_102 j_X10_work_103
            rw [if_pos rfl, r1]
            cases b2 <;> rfl
          refine ⟨true, M1, ok, M', g1, ?_, (f1.trans (zFr.si (by unfold zmQ; omega))).trans r3, fun g' hg => ?_, fun l hl => ?_⟩
          · rw [← r2]; exact zlp_step hb2
          · cases hy : zwk tp n f (p.2 + 1) with
            | inl g => rw [hy] at hg; rw [← Sum.inl.inj hg]; exact r4 g hy
            | inr l1 => rw [hy] at hg; cases hg
          · cases hy : zwk tp n f (p.2 + 1) with
            | inl g => rw [hy] at hl; cases hl
            | inr l1 =>
              rw [hy] at hl
              cases hl
              have := r5 l1 hy
              rw [List.append_assoc] at this
              exact this
        · rw [if_neg h2]
          have hne : ¬ nI (tp.getD p.2 0) = nI 59 := fun hh => h2 ((nI_eq (by omega) (by omega)).mp hh)
          rw [if_neg hne] at hb
          have hb2 : b_X10_work_40 true M1 = some (.inl (false, zz_si M1 73 9 (zfc 1 p.2))) := by
            rw [hb]
            unfold j_X10_work_87 j_X10_work_102 j_X10_work_103
            rw [if_neg (by decide)]
          refine ⟨true, M1, false, zz_si M1 73 9 (zfc 1 p.2), g1, ?_, f1.trans (zFr.si (by unfold zmQ; omega)), fun g' hg => ?_, fun l hl => by cases hl⟩
          · rw [← hend]; exact zlp_step hb2
          · have hg := Sum.inl.inj hg
            subst hg
            exact ⟨rfl, rd_eq⟩
noncomputable def zrow (A : zzA) (a c : Nat) : Nat → zzA
  | 0 => A
  | k + 1 => (zput (zrow A a c k) ((a + k * c) % 65536) ((a + k * c) % 65536 % 256)).2
noncomputable def zdo (A : zzA) (q : Nat × Nat × Nat × Nat) : zzA := if q.1 = 100 then (zdrp A q.2.1).2 else if q.1 = 103 then (zlook A q.2.1).2 else if q.1 = 106 then zjoj A else if q.1 = 110 then zrow A q.2.1 q.2.2.2 q.2.2.1 else if q.1 = 112 then (zput A q.2.1 q.2.2.1).2 else if q.1 = 115 then zspi A else if q.1 = 120 then zpds A q.2.1 else zdds A q.2.1
noncomputable def zdos (A : zzA) (l : List (Nat × Nat × Nat × Nat)) : Nat → zzA
  | 0 => A
  | k + 1 => zdo (zdos A l k) (l.getD k (0, 0, 0, 0))
section DO
variable {N : Nat} {A : zzA}
theorem zrow_wf (hW : zWF N A) (a c : Nat) : ∀ k, zWF N (zrow A a c k)
  | 0 => hW
  | k + 1 => zput_wf (zrow_wf hW a c k) (Nat.mod_lt _ (by decide)) (Nat.mod_lt _ (by decide))
theorem zdo_wf (hW : zWF N A) {q : Nat × Nat × Nat × Nat} (hq : zSv q) : zWF N (zdo A q) := by
  unfold zdo
  repeat' split
  · exact zdrp_wf hW _
  · exact zlook_wf hW _
  · exact zjoj_wf hW
  · exact zrow_wf hW _ _ _
  · rename_i h; exact zput_wf hW hq.2.1 (hq.2.2.2.1 h)
  · exact zspi_wf hW
  · exact zpds_wf hW _
  · exact zdds_wf hW _
theorem zdos_wf (hW : zWF N A) {l : List (Nat × Nat × Nat × Nat)} (hl : ∀ q ∈ l, zSv q) : ∀ k, k ≤ l.length → zWF N (zdos A l k)
  | 0, _ => hW
  | k + 1, hk => by
    refine zdo_wf (zdos_wf hW hl k (by omega)) (hl _ ?_)
    have := List.getElem?_eq_getElem (show k < l.length by omega)
    rw [List.getD_eq_getElem?_getD, this]
    exact List.getElem_mem _
theorem cRow {M : zzMem} {a m c : Nat} (ha : a < 65536) (hm : m ≤ 60) (hc : c ≤ 9999) (hW : zWF N A) (h : zRC M 12 A) : ∃ M', f_X9_storeRow (nI a) (nI m) (nI c) M = some M' ∧ zRC M' 12 (zrow A a c m) ∧ zFr (zcpS 12) M M' := by
  unfold f_X9_storeRow j_X9_storeRow_3
  refine zlp_forI (B := fun s : (Int32 × zzMem) => b_X9_storeRow_3 (nI a) (nI m) (nI c) s.1 s.2) (fun t X => (nI t, X)) (fun t X => zRC X 12 (zrow A a c t) ∧ zFr (zcpS 12) M X) m (fun r => zRC r 12 (zrow A a c m) ∧ zFr (zcpS 12) M r) (fun t ht X hX => ?_) (fun X hX => ?_) 0 (by omega) M ⟨h, zFr.refl M⟩
  · obtain ⟨x1, x2⟩ := hX
    have hk : (a + t * c) % 65536 < 65536 := Nat.mod_lt _ (by decide)
    obtain ⟨Y, y1, y2, y3⟩ := cStore (zrow_wf hW a c t) x1 hk (show (a + t * c) % 65536 % 256 < 256 from Nat.mod_lt _ (by decide))
    refine ⟨Y, ?_, y2, x2.trans y3⟩
    show b_X9_storeRow_3 (nI a) (nI m) (nI c) (nI t) X = _
    unfold b_X9_storeRow_3
    have hmod : (nI a + nI t * nI c) &&& nI 65535 = nI ((a + t * c) % 65536) := by rw [nImul, nIadd]; exact nx_mod _
    rw [ifLe_f ht (by omega), hmod]
    simp only [zbd]
    rw [nI_255 hk, y1]
    simp only [Option.bind_some, zpr, nIadd]
  · obtain ⟨x1, x2⟩ := hX
    refine ⟨X, ?_, x1, x2⟩
    show b_X9_storeRow_3 (nI a) (nI m) (nI c) (nI m) X = _
    unfold b_X9_storeRow_3
    rw [ifLe_t (Nat.le_refl _) (by omega)]
theorem mRow {M : zzMem} {C i a m c : Nat} (hi : i < 20) (hC : C + 301 * 60 < 2147483648) (ha : a < 65536) (hm : m ≤ 60) (hc : c ≤ 9999) (hW : zWF N A) (h : zRc M 0 C A) (h81 : M.1 81 i = nI a) (h82 : M.1 82 i = nI m) (h83 : M.1 83 i = nI c) : ∃ M', j_X10_does_160 (nI i) (nI 0) M = some M' ∧ zRc M' 0 (C + 301 * m) (zrow A a c m) ∧ zFr zmN M M' := by
  unfold j_X10_does_160
  refine zlp_forI (B := fun s : (Int32 × zzMem) => b_X10_does_160 (nI i) s.1 s.2) (fun t X => (nI t, X)) (fun t X => zRc X 0 (C + 301 * t) (zrow A a c t) ∧ zFr zmN M X) m (fun r => zRc r 0 (C + 301 * m) (zrow A a c m) ∧ zFr zmN M r) (fun t ht X hX => ?_) (fun X hX => ?_) 0 (by omega) M ⟨h, zFr.refl M⟩
  · obtain ⟨x1, x2⟩ := hX
    have hk : (a + t * c) % 65536 < 65536 := Nat.mod_lt _ (by decide)
    have htc : t * c ≤ 60 * 9999 := Nat.mul_le_mul (by omega) hc
    have e81 : X.1 81 i = nI a := by rw [(x2 _ _ (by unfold zmN; omega)).1]; exact h81
    have e82 : X.1 82 i = nI m := by rw [(x2 _ _ (by unfold zmN; omega)).1]; exact h82
    have e83 : X.1 83 i = nI c := by rw [(x2 _ _ (by unfold zmN; omega)).1]; exact h83
    have hv : (a + t * c) % 65536 % 256 = (a + t * c) % 256 := by omega
    obtain ⟨Y, y1, y2, y3⟩ := mPuts (C := C + 301 * t) (by omega) (zrow_wf hW a c t) x1 hk (show (a + t * c) % 65536 % 256 < 256 from Nat.mod_lt _ (by decide))
    refine ⟨Y, ?_, y2.mono (by omega), x2.trans y3⟩
    show b_X10_does_160 (nI i) (nI t) X = _
    unfold b_X10_does_160
    rw [hv] at y1
    simp (disch := omega) only [zgd_in, nIc, e81, e82, e83, ifLe_f, nImul, nIadd, nIrem, y1, Option.bind_some, zpr, zbd]
  · obtain ⟨x1, x2⟩ := hX
    have e82 : X.1 82 i = nI m := by rw [(x2 _ _ (by unfold zmN; omega)).1]; exact h82
    refine ⟨X, ?_, x1, x2⟩
    show b_X10_does_160 (nI i) (nI m) X = _
    unfold b_X10_does_160
    simp (disch := omega) only [zgd_in, nIc, e82, ifLe_t]
theorem cDo {M : zzMem} {L F S T : Int32} {q : Nat × Nat × Nat × Nat} (hq : zSv q) (hs : zS1 L F S T q) (hW : zWF N A) (h : zRC M 12 A) : ∃ M', f_X9_doStep L F S T M = some M' ∧ zRC M' 12 (zdo A q) ∧ zFr (zcpS 12) M M' := by
  obtain ⟨c, a, b, d⟩ := q
  obtain ⟨v1, v2, v3, v4, v5, v6⟩ := hq
  obtain ⟨s1, s2, s3, s4⟩ := hs
  simp only at v1 v2 v3 v4 v5 v6 s1 s2 s3 s4
  unfold f_X9_doStep zdo
  rw [s1]
  try simp only
  rcases zltr_c v1 with rfl | rfl | rfl | rfl | rfl | rfl | rfl | rfl
  · obtain ⟨M', e1, e2, e3⟩ := cDropK hW h v2
    exact ⟨M', by rw [ifEq_t rfl, s2 (by omega) (by omega), e1]; rfl, e2, e3⟩
  · obtain ⟨M', e1, e2, e3⟩ := cLook hW h v2
    exact ⟨M', by simp (disch := omega) only [ifEq_f, ifEq_t]; rw [s2 (by omega) (by omega), e1]; rfl, e2, e3⟩
  · show ∃ M', _ ∧ zRC M' 12 (zjoj A) ∧ _
    unfold zjoj
    by_cases hB : zA_n A < zA_B A
    · obtain ⟨M', e1, e2, e3⟩ := cUnite hW h hB
      exact ⟨M', by simp (disch := omega) only [ifEq_f, ifEq_t]; rw [e1]; rfl, by rw [if_pos hB]; exact e2, e3⟩
    · exact ⟨M, by simp (disch := omega) only [ifEq_f, ifEq_t]; rw [cUniteN hW h hB]; rfl, by rw [if_neg hB]; exact h, zFr.refl M⟩
  · obtain ⟨M', e1, e2, e3⟩ := cRow v2 (v5 rfl) v6 hW h
    exact ⟨M', by simp (disch := omega) only [ifEq_f, ifEq_t]; rw [s2 (by omega) (by omega), s3 (Or.inr rfl), s4 rfl, e1]; rfl, e2, e3⟩
  · obtain ⟨M', e1, e2, e3⟩ := cStore hW h v2 (v4 rfl)
    exact ⟨M', by simp (disch := omega) only [ifEq_f, ifEq_t]; rw [s2 (by omega) (by omega), s3 (Or.inl rfl), e1]; rfl, e2, e3⟩
  · show ∃ M', _ ∧ zRC M' 12 (zspi A) ∧ _
    unfold zspi
    by_cases hB : zA_B A < 64
    · obtain ⟨M', e1, e2, e3, -⟩ := cDivide hW h hB
      exact ⟨M', by simp (disch := omega) only [ifEq_f, ifEq_t]; rw [e1]; rfl, by rw [if_pos hB]; exact e2, e3⟩
    · exact ⟨M, by simp (disch := omega) only [ifEq_f, ifEq_t]; rw [cDivide64 hW h (by have := hW.sB; omega)]; rfl, by rw [if_neg hB]; exact h, zFr.refl M⟩
  · obtain ⟨M', e1, e2, e3⟩ := cStoreDrawn (o := 12) (n := a) (by have := v3 (Or.inl rfl); omega) hW h
    exact ⟨M', by simp (disch := omega) only [ifEq_f, ifEq_t]; rw [s2 (by omega) (by omega), e1]; rfl, e2, e3⟩
  · obtain ⟨M', e1, e2, e3⟩ := cRemoveDrawn (o := 12) (n := a) (by have := v3 (Or.inr rfl); omega) hW h
    exact ⟨M', by simp (disch := omega) only [ifEq_f, ifEq_t]; rw [s2 (by omega) (by omega), e1]; rfl, e2, e3⟩
theorem mDo {M : zzMem} {C i : Nat} {q : Nat × Nat × Nat × Nat} (hi : i < 20) (hC : C + 18060 < 2147483648) (hq : zSv q) (hs : zS1 (M.1 80 i) (M.1 81 i) (M.1 82 i) (M.1 83 i) q) (hW : zWF N A) (h : zRc M 0 C A) : ∃ M', f_X10_does (nI i) M = some M' ∧ zRc M' 0 (C + 18060) (zdo A q) ∧ zFr zmD M M' := by
  obtain ⟨c, a, b, d⟩ := q
  obtain ⟨v1, v2, v3, v4, v5, v6⟩ := hq
  obtain ⟨s1, s2, s3, s4⟩ := hs
  simp only at v1 v2 v3 v4 v5 v6 s1 s2 s3 s4
  have hND : ∀ X Y : zzMem, zFr zmN X Y → zFr zmD X Y := fun X Y hh => hh.weak (fun _ _ h => Or.inl h)
  have hB64 := hW.sB.2.2.1
  have hBn := hW.Bn
  have hn4 := hW.1.2.1
  have c0 : M.1 74 0 = nI (zA_n A) := h.1.1
  unfold f_X10_does zdo
  simp (disch := omega) only [zgd_in, nIc]
  rw [s1]
  try simp only
  rcases zltr_c v1 with rfl | rfl | rfl | rfl | rfl | rfl | rfl | rfl
  · obtain ⟨M', e1, e2, e3⟩ := mDrops (by omega) hW h v2
    exact ⟨M', by rw [ifEq_t rfl, s2 (by omega) (by omega), e1]; rfl, e2.mono (by omega), hND _ _ e3⟩
  · obtain ⟨M', e1, e2, e3⟩ := mLook (by omega) hW h v2
    exact ⟨M', by simp (disch := omega) only [ifEq_f, ifEq_t]; rw [s2 (by omega) (by omega), e1]; rfl, e2.mono (by omega), hND _ _ e3⟩
  · show ∃ M', _ ∧ zRc M' 0 (C + 18060) (zjoj A) ∧ _
    unfold zjoj f_X10_join
    rw [mBuck hW h.1, c0]
    by_cases hB : zA_n A < zA_B A
    · obtain ⟨M', e1, e2, e3⟩ := mJoin (by omega) hW h hB
      exact ⟨M', by simp (disch := omega) only [ifEq_f, ifEq_t, if_true, Option.bind_some, e1, zpr], by rw [if_pos hB]; exact e2.mono (by omega), hND _ _ e3⟩
    · exact ⟨M, by simp (disch := omega) only [ifEq_f, ifEq_t, if_true, Option.bind_some, zpr], by rw [if_neg hB]; exact h.mono (by omega), zFr.refl M⟩
  · obtain ⟨M', e1, e2, e3⟩ := mRow hi (by omega) v2 (v5 rfl) v6 hW h (s2 (by omega) (by omega)) (s3 (Or.inr rfl)) (s4 rfl)
    have := v5 rfl
    exact ⟨M', by simp (disch := omega) only [ifEq_f, ifEq_t]; exact e1, e2.mono (by omega), hND _ _ e3⟩
  · obtain ⟨M', e1, e2, e3⟩ := mPuts (by omega) hW h v2 (v4 rfl)
    exact ⟨M', by simp (disch := omega) only [ifEq_f, ifEq_t]; rw [s2 (by omega) (by omega), s3 (Or.inl rfl), e1]; rfl, e2.mono (by omega), hND _ _ e3⟩
  · show ∃ M', _ ∧ zRc M' 0 (C + 18060) (zspi A) ∧ _
    unfold zspi f_X10_split
    rw [mBuck hW h.1]
    by_cases hB : zA_B A < 64
    · obtain ⟨M', e1, e2, e3⟩ := mSplits (by omega) hW h hB
      exact ⟨M', by simp (disch := omega) only [ifEq_f, ifEq_t, if_true, Option.bind_some, e1, zpr], by rw [if_pos hB]; exact e2.mono (by omega), hND _ _ e3⟩
    · exact ⟨M, by simp (disch := omega) only [ifEq_f, ifEq_t, if_true, Option.bind_some, zpr], by rw [if_neg hB]; exact h.mono (by omega), zFr.refl M⟩
  · have := v3 (Or.inl rfl)
    obtain ⟨M', e1, e2, e3⟩ := mPutsDrawn (n := a) (by omega) (by omega) hW h
    exact ⟨M', by simp (disch := omega) only [ifEq_f, ifEq_t]; rw [s2 (by omega) (by omega), e1]; rfl, e2.mono (by omega), hND _ _ e3⟩
  · have := v3 (Or.inr rfl)
    obtain ⟨M', e1, e2, e3⟩ := mDropsDrawn (n := a) (by omega) (by omega) hW h
    exact ⟨M', by simp (disch := omega) only [ifEq_f, ifEq_t]; rw [s2 (by omega) (by omega), e1]; rfl, e2.mono (by omega), e3⟩
theorem zlist_get {l : List (Nat × Nat × Nat × Nat)} {t : Nat} (ht : t < l.length) : l[t]? = some (l.getD t (0, 0, 0, 0)) := by
  rw [List.getD_eq_getElem?_getD, List.getElem?_eq_getElem ht]; rfl
theorem cDos {M : zzMem} {l : List (Nat × Nat × Nat × Nat)} (hl20 : l.length ≤ 20) (hl : ∀ q ∈ l, zSv q) (hS : zSC M l) (h74 : M.1 7 4 = nI l.length) (hW : zWF N A) (h : zRC M 12 A) : ∃ M', j_X9_work_44 (nI 0) M = some (nI l.length, M') ∧ zRC M' 12 (zdos A l l.length) ∧ zFr (zcpS 12) M M' := by
  have hZ := zlp_forI (B := fun s : (Int32 × zzMem) => b_X9_work_44 s.1 s.2) (fun t X => (nI t, X)) (fun t X => zRC X 12 (zdos A l t) ∧ zFr (zcpS 12) M X) l.length (fun r => r.1 = nI l.length ∧ zRC r.2 12 (zdos A l l.length) ∧ zFr (zcpS 12) M r.2) (fun t ht X hX => ?_) (fun X hX => ?_) 0 (by omega) M ⟨h, zFr.refl M⟩
  · obtain ⟨r, r1, r2, r3, r4⟩ := hZ
    refine ⟨r.2, ?_, r3, r4⟩
    unfold j_X9_work_44
    rw [← r2]; exact r1
  · obtain ⟨x1, x2⟩ := hX
    have hq := zlist_get ht
    have e74 : X.1 7 4 = nI l.length := by rw [(x2 _ _ (by unfold zcpS; omega)).1]; exact h74
    have hs : zS1 (X.1 8 t) (X.1 9 t) (X.1 10 t) (X.1 11 t) (l.getD t (0, 0, 0, 0)) := by
      rw [(x2 8 t (by unfold zcpS; omega)).1, (x2 9 t (by unfold zcpS; omega)).1, (x2 10 t (by unfold zcpS; omega)).1, (x2 11 t (by unfold zcpS; omega)).1]
      exact hS t _ hq
    obtain ⟨Y, y1, y2, y3⟩ := cDo (hl _ (List.mem_of_getElem? hq)) hs (zdos_wf hW hl t (by omega)) x1
    refine ⟨Y, ?_, y2, x2.trans y3⟩
    show b_X9_work_44 (nI t) X = _
    unfold b_X9_work_44
    rw [e74, ifLe_f ht (by omega)]
    simp (disch := omega) only [zgd_in, nIc, y1, Option.bind_some, zbd, nIadd]
  · obtain ⟨x1, x2⟩ := hX
    have e74 : X.1 7 4 = nI l.length := by rw [(x2 _ _ (by unfold zcpS; omega)).1]; exact h74
    refine ⟨(nI l.length, X), ?_, rfl, x1, x2⟩
    show b_X9_work_44 (nI l.length) X = _
    unfold b_X9_work_44
    rw [e74, ifLe_t (Nat.le_refl _) (by omega)]
theorem mDos {M : zzMem} {C : Nat} {l : List (Nat × Nat × Nat × Nat)} (hC : C + 18060 * 20 < 2147483648) (hl20 : l.length ≤ 20) (hl : ∀ q ∈ l, zSv q) (hS : zSM M l) (h20 : M.1 73 20 = nI l.length) (hW : zWF N A) (h : zRc M 0 C A) : ∃ M', j_X10_work_123 (nI 0) M = some (nI l.length, M') ∧ zRc M' 0 (C + 18060 * 20) (zdos A l l.length) ∧ zFr zmD M M' := by
  have hZ := zlp_forI (B := fun s : (Int32 × zzMem) => b_X10_work_123 s.1 s.2) (fun t X => (nI t, X)) (fun t X => zRc X 0 (C + 18060 * t) (zdos A l t) ∧ zFr zmD M X) l.length (fun r => r.1 = nI l.length ∧ zRc r.2 0 (C + 18060 * 20) (zdos A l l.length) ∧ zFr zmD M r.2) (fun t ht X hX => ?_) (fun X hX => ?_) 0 (by omega) M ⟨h, zFr.refl M⟩
  · obtain ⟨r, r1, r2, r3, r4⟩ := hZ
    refine ⟨r.2, ?_, r3, r4⟩
    unfold j_X10_work_123
    rw [← r2]; exact r1
  · obtain ⟨x1, x2⟩ := hX
    have hq := zlist_get ht
    have e20 : X.1 73 20 = nI l.length := by rw [(x2 _ _ (by unfold zmD zmN; omega)).1]; exact h20
    have hs : zS1 (X.1 80 t) (X.1 81 t) (X.1 82 t) (X.1 83 t) (l.getD t (0, 0, 0, 0)) := by
      rw [(x2 80 t (by unfold zmD zmN; omega)).1, (x2 81 t (by unfold zmD zmN; omega)).1, (x2 82 t (by unfold zmD zmN; omega)).1, (x2 83 t (by unfold zmD zmN; omega)).1]
      exact hS t _ hq
    obtain ⟨Y, y1, y2, y3⟩ := mDo (C := C + 18060 * t) (by omega) (by omega) (hl _ (List.mem_of_getElem? hq)) hs (zdos_wf hW hl t (by omega)) x1
    refine ⟨Y, ?_, y2.mono (by omega), x2.trans y3⟩
    show b_X10_work_123 (nI t) X = _
    unfold b_X10_work_123
    rw [e20, ifLe_f ht (by omega), y1]
    simp only [Option.bind_some, zbd, nIadd]
  · obtain ⟨x1, x2⟩ := hX
    have e20 : X.1 73 20 = nI l.length := by rw [(x2 _ _ (by unfold zmD zmN; omega)).1]; exact h20
    refine ⟨(nI l.length, X), ?_, rfl, x1.mono (by omega), x2⟩
    show b_X10_work_123 (nI l.length) X = _
    unfold b_X10_work_123
    rw [e20, ifLe_t (Nat.le_refl _) (by omega)]
end DO
theorem cOpenT {M : zzMem} {tp : List Nat} {n : Nat} (hc : zCt M tp) : zTS (f_X8_open (nI n) M) tp n 0 0 ∧ zFr (fun a i => a = 1 ∧ 1 ≤ i) M (f_X8_open (nI n) M) ∧ (f_X8_open (nI n) M).1 1 1 = nI 0 := by
  have hM2 : f_X8_open (nI n) M = zz_si (zz_si (zz_si (zz_si M 1 3 (nI n)) 1 4 (nI 0)) 1 2 (nI 0)) 1 1 (nI 0) := rfl
  rw [hM2]
  have f2 : zFr (fun a i => a = 1 ∧ 1 ≤ i) M (zz_si (zz_si (zz_si (zz_si M 1 3 (nI n)) 1 4 (nI 0)) 1 2 (nI 0)) 1 1 (nI 0)) := by
    refine (((zFr.si ?_).trans (zFr.si ?_)).trans (zFr.si ?_)).trans (zFr.si ?_) <;> omega
  refine ⟨⟨?_, ?_, ?_, fun i x hx => ?_⟩, f2, rd_eq⟩
  · rw [rd_ne (by omega), rd_eq]; rfl
  · rw [rd_ne (by omega), rd_ne (by omega), rd_ne (by omega), rd_eq]
  · rw [rd_ne (by omega), rd_ne (by omega), rd_eq]
  · rw [(f2 _ _ (by omega)).1]; exact hc.2 i x hx
set_option maxHeartbeats 1000000 in
theorem op_work (N : Nat) (a : Int32) : zSame N (f_X9_work a) (f_X10_work a) := by
  refine zSame.tp (fun hN tp A hW htl htx => ?_)
  rcases inC a 1 120 (by decide) (by decide) with ⟨ha, n, hn1, hn2, rfl⟩ | ha
  · by_cases hnt : n ≤ tp.length
    · obtain ⟨k1, k2⟩ := zwk_ok (tp := tp) (n := n) (by omega) 20 0 (by omega)
      have hcls : ∀ M, zCt M tp → zRC M 12 A → ∃ M5, f_X9_work (nI n) M = (if zgs (zwk tp n 20 0) = 0 then j_X9_work_44 (nI 0) M5 else some (zgs (zwk tp n 20 0), M5)) ∧ zRC M5 12 A ∧ zCt M5 [] ∧ zFr zcT M M5 ∧ ∀ l, zwk tp n 20 0 = .inr l → zSC M5 l ∧ M5.1 7 4 = nI l.length := by
        intro M hc h
        obtain ⟨o1, o2, o3⟩ := cOpenT (n := n) hc
        have hhas : f_X8_has (nI n) (nI 1) (nI 120) M = true := by
          unfold f_X8_has
          rw [if_pos ha, hc.1, ifLt_f hnt (by omega)]
        have hun : f_X9_work (nI n) M = (f_X7_read (f_X8_open (nI n) M)).bind (fun q3 => zpr q3 (fun r4 M5 => if r4 = 0 then (j_X9_work_44 (nI 0) M5) else (some ((r4, M5))))) := by
          unfold f_X9_work
          rw [if_pos hhas]
          rfl
        generalize f_X8_open (nI n) M = M2 at o1 o2 o3 hun
        have hT : zTS (zz_si M2 7 4 (nI 0)) tp n 0 0 := o1.frS (S := fun k j => k = 7) (zFr.si rfl) (by intro i; omega) (by intro i; omega)
        obtain ⟨r, M5, r1, r2, r3, r4⟩ := cRead htx hnt htl 20 0 0 (zz_si M2 7 4 (nI 0)) [] (by omega) rfl (by omega) hT (fun i q hq => by simp at hq) rd_eq
        have fM : zFr (fun k j => (k = 1 ∧ 1 ≤ j) ∨ (7 ≤ k ∧ k ≤ 11)) M M5 := ((o2.weak (fun k j hh => by omega)).trans (zFr.si (by omega))).trans (r2.weak (fun k j hh => by omega))
        refine ⟨M5, ?_, h.frS fM (by intro k i; omega), ⟨?_, fun i x hx => by simp at hx⟩, fM.weak (fun k j hh => by unfold zcT zcS; omega), r4⟩
        · rw [hun]
          unfold f_X7_read j_X7_read_9
          simp only [zbd]
          rw [r1, r3]
          rfl
        · rw [(r2 _ _ (by omega)).1, rd_ne (by omega)]; exact o3
      have hmod : ∀ M, zMt M tp → zRM M 0 N A → ∃ ok M', f_X10_work (nI n) M = j_X10_work_107 ok M' ∧ zRM M' 0 N A ∧ zFr zmT M M' ∧ (∀ g, zwk tp n 20 0 = .inl g → ok = false ∧ M'.1 73 9 = g) ∧ ∀ l, zwk tp n 20 0 = .inr l → ok = true ∧ zSM M' l ∧ M'.1 73 20 = nI l.length := by
        intro M hc h
        have hun : f_X10_work (nI n) M = (f_X10_readsStep (zz_si (zz_si (zz_si M 73 7 (nI 0)) 73 8 (nI n)) 73 20 (nI 0))).bind (fun q6 => zpr q6 (fun r7 M8 => j_X10_work_40 r7 M8)) := by
          unfold f_X10_work
          rw [in_eq, if_pos ha, hc.1, ifLe_t hnt (by omega)]
          rfl
        have f5 : zFr (fun k j => k = 73 ∧ (j = 7 ∨ j = 8 ∨ j = 20)) M (zz_si (zz_si (zz_si M 73 7 (nI 0)) 73 8 (nI n)) 73 20 (nI 0)) := ((zFr.si (by omega)).trans (zFr.si (by omega))).trans (zFr.si (by omega))
        have hT : zMS (zz_si (zz_si (zz_si M 73 7 (nI 0)) 73 8 (nI n)) 73 20 (nI 0)) tp n 0 := ⟨by rw [rd_ne (by omega), rd_ne (by omega), rd_eq], by rw [rd_ne (by omega), rd_eq], fun i x hx => by rw [(f5 _ _ (by omega)).1]; exact hc.2 i x hx⟩
        have h20 : (zz_si (zz_si (zz_si M 73 7 (nI 0)) 73 8 (nI n)) 73 20 (nI 0)).1 73 20 = nI 0 := rd_eq
        generalize zz_si (zz_si (zz_si M 73 7 (nI 0)) 73 8 (nI n)) 73 20 (nI 0) = M5 at f5 hT h20 hun
        obtain ⟨b, M1, ok, M', r1, r2, r3, r4, r5⟩ := mRead htx hnt htl 20 0 0 M5 [] (by omega) rfl (by omega) hT (fun i q hq => by simp at hq) h20
        have fM : zFr (fun k j => (k = 73 ∧ 7 ≤ j) ∨ (80 ≤ k ∧ k ≤ 83)) M M' := (f5.weak (fun k j hh => by omega)).trans (r3.weak (fun k j hh => by unfold zmQ at hh; omega))
        refine ⟨ok, M', ?_, h.frS hW fM (by intro i; omega), fM.weak (fun k j hh => by unfold zmT zmS; omega), r4, r5⟩
        rw [hun, r1]
        simp only [Option.bind_some, zpr]
        unfold j_X10_work_40
        exact r2
      cases hz : zwk tp n 20 0 with
      | inl g =>
        have hg := k1 g hz
        refine ⟨g, A, hW.up, Or.inl ⟨fun M hc h => ?_, fun M hc h => ?_⟩⟩
        · obtain ⟨M5, c1, c2, c3, c4, c5⟩ := hcls M hc h
          rw [hz] at c1
          exact ⟨M5, by rw [c1]; exact if_neg hg, c3, c2, c4⟩
        · obtain ⟨ok, M', d1, d2, d3, d4, d5⟩ := hmod M hc h
          obtain ⟨rfl, q2⟩ := d4 g hz
          refine ⟨zz_si M' 73 6 (nI 0), ?_, ⟨by rw [rd_eq]; rfl, fun i x hx => by simp at hx⟩, (d2.frS (S := fun k j => k = 73) hW (zFr.si rfl) (by intro i; omega)).up, d3.trans (zFr.si (by unfold zmT; omega))⟩
          rw [d1]
          unfold j_X10_work_107
          simp only [zbd]
          rw [if_neg (by decide), rd_ne (by omega), q2]
      | inr l =>
        obtain ⟨l1, l2⟩ := k2 l hz
        refine ⟨nI l.length, zdos A l l.length, (zdos_wf hW l2 _ (Nat.le_refl _)).up, Or.inl ⟨fun M hc h => ?_, fun M hc h => ?_⟩⟩
        · obtain ⟨M5, c1, c2, c3, c4, c5⟩ := hcls M hc h
          rw [hz] at c1
          obtain ⟨s1, s2⟩ := c5 l hz
          obtain ⟨M', e1, e2, e3⟩ := cDos l1 l2 s1 s2 hW c2
          refine ⟨M', ?_, c3.frS e3 (by unfold zcpS; omega) (by intro i; unfold zcpS; omega), e2, c4.trans (e3.weak (fun k i hh => by have := zcpS_c hh; exact Or.inl this))⟩
          rw [c1, ← e1]
          exact if_pos rfl
        · obtain ⟨ok, M', d1, d2, d3, d4, d5⟩ := hmod M hc h
          obtain ⟨rfl, s1, s2⟩ := d5 l hz
          have h9 : zRM (zz_si M' 73 6 (nI 0)) 0 N A := d2.frS (S := fun k j => k = 73) hW (zFr.si rfl) (by intro i; omega)
          obtain ⟨M'', e1, e2, e3⟩ := mDos (M := zz_si M' 73 6 (nI 0)) (C := 400000 * N) (by omega) l1 l2 (fun i q hq => by rw [rd_ne (by omega), rd_ne (by omega), rd_ne (by omega), rd_ne (by omega)]; exact s1 i q hq) (by rw [rd_ne (by omega)]; exact s2) hW h9.rc
          refine ⟨M'', ?_, ⟨?_, fun i x hx => by simp at hx⟩, e2.rm (by omega), (d3.trans (zFr.si (by unfold zmT; omega))).trans (e3.weak (fun k i hh => by unfold zmD zmN at hh; unfold zmT zmS; omega))⟩
          · rw [d1]
            unfold j_X10_work_107
            simp only [zbd, if_true]
            exact e1
          · rw [(e3 _ _ (by unfold zmD zmN; omega)).1, rd_eq]; rfl
    · refine ⟨(-1 : Int32), A, hW.up, Or.inr ⟨fun M hc h => ⟨M, ?_, h, zFr.refl M⟩, fun M hc h => ⟨M, ?_, h.up, zFr.refl M⟩⟩⟩
      · unfold f_X9_work f_X8_has
        rw [if_pos ha, hc.1, ifLt_t (by omega) (by omega)]; rfl
      · unfold f_X10_work
        rw [in_eq, if_pos ha, hc.1, ifLe_f (by omega) (by omega)]
  · refine ⟨(-1 : Int32), A, hW.up, Or.inr ⟨fun M hc h => ⟨M, ?_, h, zFr.refl M⟩, fun M hc h => ⟨M, ?_, h.up, zFr.refl M⟩⟩⟩
    · unfold f_X9_work f_X8_has
      rw [ha]; rfl
    · unfold f_X10_work
      rw [in_eq, ha]; rfl
