/-! ===== a law's text: the class's loop; the reference ===== -/
section LW
variable {M : zzMem} {tp : List Nat} {n : Nat}
theorem cWhole {s : zzL} (hT : zTS M tp n s.2.2.2 0) (htx : ∀ x ∈ tp, x < 256) (hn : n ≤ tp.length) (hl : tp.length ≤ 320) (hI : zLI n s) (h : zLC M s) : f_X4_isWhole M = some (zlwh n s) := by
  obtain ⟨due, code, st, a⟩ := s
  obtain ⟨-, h2, h3, h4, -⟩ := hI
  obtain ⟨-, c3, -, -, c6⟩ := h
  simp only at hT h2 h3 h4 c3 c6
  unfold f_X4_isWhole zlwh
  simp only
  rw [cSgn hT hn hl (by omega), Option.bind_some, c3, c6]
  unfold zsn
  by_cases han : a < n
  · have hx := htx _ (List.mem_of_getElem? (ztp_get hn han))
    rw [if_pos han, ifm1 (by omega), decide_eq_false (by omega), Bool.false_and, Bool.and_false]
  · rw [if_neg han, if_pos rfl, decide_eq_true (by omega), Bool.true_and]
    cases due with
    | true => simp only [if_true]; rw [ifE0_f (by omega) (by omega)]; rfl
    | false =>
      simp only [Bool.false_eq_true, if_false]
      rw [ifE0_t rfl]
      by_cases h0 : znop st = 0
      · rw [ifE0_t h0, decide_eq_true h0]; rfl
      · rw [ifE0_f (by omega) (by omega), decide_eq_false h0]; rfl
theorem cLrun (htx : ∀ x ∈ tp, x < 256) (hn : n ≤ tp.length) (hl : tp.length ≤ 320) (h60 : n ≤ 60) : ∀ (f i : Nat) (s : zzL) (M : zzMem), zLI n s → n + 1 ≤ s.2.2.2 + f → i ≤ s.2.2.2 → zTS M tp n s.2.2.2 0 → zLC M s → ∃ r M', zlp (fun s : (Int32 × zzMem) => b_X4_read_24 s.1 s.2) (nI i, M) = some (r, M') ∧ zFr zcL M M' ∧ r = zgs (zLR tp n s) ∧ ∀ code, zLR tp n s = .inr code → zCd M' (code.map zcc) := by
  intro f
  induction f with
  | zero => intro i s M hI hf; have := hI.2.2.2.1; omega
  | succ f ih =>
    intro i s M hI hf hi hT hC
    have ha := hI.2.2.2.1
    rw [zLR_s (by omega) hI]
    have hwh := cWhole hT htx hn hl hI hC
    have hdone : ∀ (j : Nat) (X : zzMem), X.1 1 2 ≠ 0 → zlp (fun s : (Int32 × zzMem) => b_X4_read_24 s.1 s.2) (nI j, X) = some (X.1 1 2, X) := fun j X hX => zlp_done (by
      show b_X4_read_24 (nI j) X = _
      unfold b_X4_read_24 j_X4_read_71
      by_cases h : nI 60 < nI j
      · rw [if_pos h]; rfl
      · rw [if_neg h, if_neg hX]; rfl)
    cases hw : zlwh n s with
    | true =>
      rw [if_pos rfl]
      refine ⟨0, M, zlp_done ?_, zFr.refl M, rfl, fun code hc => ?_⟩
      · show b_X4_read_24 (nI i) M = _
        unfold b_X4_read_24 j_X4_read_71
        rw [ifLt_f (by omega) (by omega), if_pos hT.1, hwh, Option.bind_some, hw, if_pos rfl, hT.1]; rfl
      · cases hc
        exact hC.1
    | false =>
      rw [if_neg (by decide)]
      obtain ⟨M', a', g1, g2, g3, g4⟩ := cLst hT htx hn hl h60 hI hw hC
      have hb : b_X4_read_24 (nI i) M = some (.inl (nI (i + 1), M')) := by
        unfold b_X4_read_24
        rw [ifLt_f (by omega) (by omega), if_pos hT.1, hwh, Option.bind_some, hw, if_neg (by decide), hC.2.2.2.2]
        cases hd : s.1 with
        | true =>
          rw [hd, if_pos rfl] at g1
          simp only [if_true]
          rw [ifE0_f (by omega) (by omega), g1]
          simp only [Option.bind_some, zbd, nIadd]
        | false =>
          rw [hd, if_neg (by decide)] at g1
          simp only [Bool.false_eq_true, if_false]
          rw [ifE0_t rfl, g1]
          simp only [Option.bind_some, zbd, nIadd]
      cases hz : zlst tp n s with
      | inl g =>
        rw [hz] at g3
        have hg := zlst_l (by omega) ha hz
        have hf : M'.1 1 2 = g := g3.1
        rw [zsb_l]
        refine ⟨g, M', ?_, g2, rfl, fun code hc => by cases hc⟩
        rw [← hf, ← hdone (i + 1) M' (by rw [hf]; exact hg)]
        exact zlp_step hb
      | inr s' =>
        rw [hz] at g3
        obtain ⟨e1, e2⟩ := g4 s' hz
        obtain ⟨i1, i2⟩ := zLI_s (by omega) hI hz
        rw [e1] at g3
        obtain ⟨r, M'', r1, r2, r3, r4⟩ := ih (i + 1) s' M' i1 (by omega) (by omega) g3 e2
        rw [zsb_r]
        exact ⟨r, M'', by rw [← r1]; exact zlp_step hb, g2.trans r2, r3, r4⟩
/-! the reference -/
def zSk (M : zzMem) : List (Nat × Nat) → Prop
  | [] => True
  | q :: r => M.1 77 r.length = zcm q ∧ zSk M r
theorem zSk.fr {M M' : zzMem} : ∀ {st : List (Nat × Nat)}, (∀ i, i < st.length → M'.1 77 i = M.1 77 i) → zSk M st → zSk M' st
  | [], _, _ => trivial
  | q :: r, h, hs => ⟨by rw [h _ (by simp)]; exact hs.1, zSk.fr (fun i hi => h i (by simp; omega)) hs.2⟩
def zMd (M : zzMem) (code : List (Nat × Nat)) : Prop := M.1 73 11 = nI code.length ∧ ∀ j q, code[j]? = some q → M.1 76 j = zcm q
/-- the reference's reader of laws, in a state -/
def zLX (M : zzMem) (s : zzL) : Prop := zMd M s.2.1 ∧ M.1 73 12 = nI s.2.2.1.length ∧ zSk M s.2.2.1 ∧ M.1 73 13 = nI (znop s.2.2.1)
def zmL : Nat → Nat → Prop := fun k i => (k = 73 ∧ 7 ≤ i ∧ i ≠ 8 ∧ i ≤ 13) ∨ k = 76 ∨ k = 77
theorem mNotes {code : List (Nat × Nat)} {d v : Nat} (h : zMd M code) (hl : code.length < 140) : ∃ M', f_X10_notes (nI d) (nI v) M = some M' ∧ zMd M' (code ++ [(d, v)]) ∧ zFr (fun k i => (k = 73 ∧ i = 11) ∨ k = 76) M M' := by
  refine ⟨zz_si (zz_si M 76 code.length (zcm (d, v))) 73 11 (nI (code.length + 1)), ?_, ⟨by rw [rd_eq, List.length_append]; rfl, fun j y hy => ?_⟩, (zFr.si (by omega)).trans (zFr.si (by omega))⟩
  · unfold f_X10_notes
    rw [h.1]
    simp (disch := omega) only [zgd_in, nIc, zbd, rd_ne, h.1, nIadd, nImul]
    rfl
  · rw [rd_ne (by omega)]
    by_cases hj : j < code.length
    · rw [List.getElem?_append_left hj] at hy
      rw [rd_ne (by omega)]; exact h.2 j y hy
    · rw [List.getElem?_append_right (by omega)] at hy
      have hjl : j = code.length := by
        have := (List.getElem?_eq_some_iff.mp hy).1
        simp at this
        omega
      rw [hjl, Nat.sub_self] at hy
      cases hy
      rw [hjl, rd_eq]
theorem mTop {q : Nat × Nat} {r : List (Nat × Nat)} (h12 : M.1 73 12 = nI (q :: r).length) (hs : zSk M (q :: r)) (hl : r.length < 70) (hd : q.1 ≤ 13) (hv : q.2 < 65536) : f_X10_uppermost M = some (nI q.1) := by
  have h12 : M.1 73 12 = nI (r.length + 1) := h12
  have h77 : M.1 77 r.length = nI (65536 * q.1 + q.2) := hs.1
  unfold f_X10_uppermost
  rw [h12, ifE0_f (by omega) (by omega), nIsub (by omega), Nat.add_sub_cancel]
  simp (disch := omega) only [zgd_in, nIc, h77, nIdiv]
  rw [show (65536 * q.1 + q.2) / 65536 = q.1 by omega]
theorem mTop0 (h12 : M.1 73 12 = nI 0) : f_X10_uppermost M = some (-1 : Int32) := by
  unfold f_X10_uppermost
  rw [h12, ifE0_t rfl]
theorem mSettle : ∀ (st code : List (Nat × Nat)) (M : zzMem), zMd M code → M.1 73 12 = nI st.length → zSk M st → M.1 73 13 = nI (znop st) → zsok st → code.length + st.length ≤ 100 → st.length < 70 → ∃ M', f_X10_settles M = some M' ∧ zMd M' (code ++ (zset st).1) ∧ M'.1 73 12 = nI (zset st).2.length ∧ zSk M' (zset st).2 ∧ M'.1 73 13 = nI (znop (zset st).2) ∧ zFr (fun k i => (k = 73 ∧ (i = 11 ∨ i = 12 ∨ i = 13)) ∨ k = 76) M M' := by
  intro st
  induction st with
  | nil =>
    intro code M hC h12 hS h13 hs hl h70
    have h12 : M.1 73 12 = nI 0 := h12
    refine ⟨M, zlp_done ?_, ?_, h12, trivial, h13, zFr.refl M⟩
    · show b_X10_settles_0 M = _
      unfold b_X10_settles_0
      rw [mTop0 h12, Option.bind_some, show f_X10_in (-1 : Int32) (nI 10) (nI 12) = false by decide, if_neg (by decide), Option.bind_some, show f_X10_in (-1 : Int32) (nI 2) (nI 9) = false by decide, if_neg (by decide)]
    · show zMd M (code ++ [])
      rw [List.append_nil]; exact hC
  | cons q r ih =>
    intro code M hC h12 hS h13 hs hl h70
    obtain ⟨d, v⟩ := q
    obtain ⟨hs1, hs2⟩ := hs
    simp only at hs1
    simp only [List.length_cons] at hl h70
    have h12' : M.1 73 12 = nI (r.length + 1) := h12
    have hdv : d ≤ 13 ∧ v < 65536 := by
      rcases hs1 with ⟨a1, a2, a3, a4⟩ | ⟨a1, a2, a3, a4⟩
      · omega
      · by_cases h11 : d = 11
        · have := a3 h11; omega
        · have := a4 h11; omega
    have htop := mTop h12 hS (by omega) hdv.1 hdv.2
    have htop : f_X10_uppermost M = some (nI d) := htop
    rcases hs1 with ⟨a1, a2, a3, a4⟩ | ⟨a1, a2, a3, a4⟩
    · subst a3
      have hno : znop ((d, 0) :: r) = znop r := by show (if 10 ≤ d then _ else _) = _; rw [if_neg (by omega)]
      have hzs : zset ((d, 0) :: r) = ([(d, 0)], r) := by unfold zset; simp only; rw [if_neg (by omega), if_pos (by omega)]
      rw [hno] at h13
      obtain ⟨M6, e1, e2, e3⟩ := mNotes (d := d) (v := 0) hC (by omega)
      have h126 : M6.1 73 12 = nI (r.length + 1) := by rw [(e3 _ _ (by omega)).1]; exact h12'
      rw [hzs]
      refine ⟨zz_si M6 73 12 (nI r.length), zlp_done ?_, ⟨by rw [rd_ne (by omega)]; exact e2.1, fun j y hy => by rw [rd_ne (by omega)]; exact e2.2 j y hy⟩, rd_eq, hS.2.fr (fun i hi => by rw [rd_ne (by omega), (e3 _ _ (by omega)).1]), by rw [rd_ne (by omega), (e3 _ _ (by omega)).1]; exact h13, (e3.weak (fun k i hh => by omega)).trans (zFr.si (by omega))⟩
      show b_X10_settles_0 M = _
      unfold b_X10_settles_0
      rw [htop, Option.bind_some, show f_X10_in (nI d) (nI 10) (nI 12) = false by rw [in_eq, in_nI (by omega) (by omega) (by omega), decide_eq_false (by omega)], if_neg (by decide), Option.bind_some, show f_X10_in (nI d) (nI 2) (nI 9) = true by rw [in_eq, in_nI (by omega) (by omega) (by omega), decide_eq_true (by omega)], if_pos rfl, Option.bind_some, e1]
      simp only [Option.bind_some, zbd]
      rw [h126, nIsub (by omega), Nat.add_sub_cancel]
    · have hno : znop ((d, v) :: r) = znop r + 1 := by show (if 10 ≤ d then _ else _) = _; rw [if_pos (by omega)]
      rw [hno] at h13
      by_cases h12u : d ≤ 12
      · have hzs : zset ((d, v) :: r) = ((d, v) :: (zset r).1, (zset r).2) := by rw [zset]; simp only; rw [if_pos (by omega)]
        obtain ⟨M10, e1, e2, e3⟩ := mNotes (d := d) (v := v) hC (by omega)
        have h1210 : M10.1 73 12 = nI (r.length + 1) := by rw [(e3 _ _ (by omega)).1]; exact h12'
        have h1310 : M10.1 73 13 = nI (znop r + 1) := by rw [(e3 _ _ (by omega)).1]; exact h13
        have h77 : M.1 77 r.length = nI (65536 * d + v) := hS.1
        obtain ⟨M', i1, i2, i3, i4, i5, i6⟩ := ih (code ++ [(d, v)]) (zz_si (zz_si M10 73 12 (nI r.length)) 73 13 (nI (znop r))) ⟨by rw [rd_ne (by omega), rd_ne (by omega)]; exact e2.1, fun j y hy => by rw [rd_ne (by omega), rd_ne (by omega)]; exact e2.2 j y hy⟩ (by rw [rd_ne (by omega), rd_eq]) (hS.2.fr (fun i hi => by rw [rd_ne (by omega), rd_ne (by omega), (e3 _ _ (by omega)).1])) rd_eq hs2 (by rw [List.length_append]; simp only [List.length_singleton]; omega) (by omega)
        rw [hzs]
        refine ⟨M', ?_, ?_, i3, i4, i5, ((e3.weak (fun k i hh => by omega)).trans ((zFr.si (by omega)).trans (zFr.si (by omega)))).trans i6⟩
        · unfold f_X10_settles at i1 ⊢
          rw [← i1]
          refine zlp_step ?_
          show b_X10_settles_0 M = _
          unfold b_X10_settles_0
          have hu : zgd (vp_in (nI (r.length + 1) - nI 1) 70) ((f_X10_notes (nI d) (zrm (M.1 77 ((nI (r.length + 1) - nI 1)).toNatClampNeg) (nI 65536)) M).bind (fun M10 => zbd (zz_si M10 73 12 ((M10.1 73 12) - (nI 1))) (fun M11 => zbd (zz_si M11 73 13 ((M11.1 73 13) - (nI 1))) (fun M12 => (some (.inl M12) : Option (zzMem ⊕ zzMem)))))) = some (.inl (zz_si (zz_si M10 73 12 (nI r.length)) 73 13 (nI (znop r)))) := by
            rw [nIsub (by omega), Nat.add_sub_cancel]
            simp (disch := omega) only [zgd_in, nIc, h77, nIrem]
            rw [show (65536 * d + v) % 65536 = v by omega, e1]
            simp only [Option.bind_some, zbd]
            rw [h1210, nIsub (by omega), Nat.add_sub_cancel, rd_ne (by omega), h1310, nIsub (by omega), Nat.add_sub_cancel]
          rw [htop, Option.bind_some, show f_X10_in (nI d) (nI 10) (nI 12) = true by rw [in_eq, in_nI (by omega) (by omega) (by omega), decide_eq_true (by omega)], if_pos rfl, Option.bind_some, h12']
          exact hu
        · show zMd M' (code ++ (d, v) :: (zset r).1)
          rw [List.append_cons]
          exact i2
      · have hzs : zset ((d, v) :: r) = ([], (d, v) :: r) := by rw [zset]; simp only; rw [if_neg (by omega), if_neg (by omega)]
        rw [hzs]
        refine ⟨M, zlp_done ?_, ?_, h12, hS, by rw [hno]; exact h13, zFr.refl M⟩
        · show b_X10_settles_0 M = _
          unfold b_X10_settles_0
          rw [htop, Option.bind_some, show f_X10_in (nI d) (nI 10) (nI 12) = false by rw [in_eq, in_nI (by omega) (by omega) (by omega), decide_eq_false (by omega)], if_neg (by decide), Option.bind_some, show f_X10_in (nI d) (nI 2) (nI 9) = false by rw [in_eq, in_nI (by omega) (by omega) (by omega), decide_eq_false (by omega)], if_neg (by decide)]
        · show zMd M (code ++ [])
          rw [List.append_nil]; exact hC
theorem mWaits {code st : List (Nat × Nat)} {due : Bool} {a d v : Nat} (h12 : M.1 73 12 = nI st.length) (hS : zSk M st) (hl : st.length < 70) : ∃ M', f_X10_waitsFor (nI d) (nI v) M = some M' ∧ M'.1 73 12 = nI ((d, v) :: st).length ∧ zSk M' ((d, v) :: st) ∧ zFr (fun k i => (k = 73 ∧ i = 12) ∨ k = 77) M M' := by
  refine ⟨zz_si (zz_si M 77 st.length (zcm (d, v))) 73 12 (nI (st.length + 1)), ?_, rd_eq, ⟨by rw [rd_ne (by omega), rd_eq], hS.fr (fun i hi => by rw [rd_ne (by omega), rd_ne (by omega)])⟩, (zFr.si (by omega)).trans (zFr.si (by omega))⟩
  unfold f_X10_waitsFor
  rw [h12]
  simp (disch := omega) only [zgd_in, nIc, zbd, rd_ne, h12, nIadd, nImul]
  rfl
theorem zLX.fr {s : zzL} {M' : zzMem} {S : Nat → Nat → Prop} (hf : zFr S M M') (h1 : ¬ S 73 11) (h2 : ¬ S 73 12) (h3 : ¬ S 73 13) (h4 : ∀ i, ¬ S 76 i) (h5 : ∀ i, ¬ S 77 i) (h : zLX M s) : zLX M' s :=
  ⟨⟨by rw [(hf _ _ h1).1]; exact h.1.1, fun j q hq => by rw [(hf _ _ (h4 j)).1]; exact h.1.2 j q hq⟩, by rw [(hf _ _ h2).1]; exact h.2.1, h.2.2.1.fr (fun i _ => (hf _ _ (h5 i)).1), by rw [(hf _ _ h3).1]; exact h.2.2.2⟩
theorem zopn_is : ∀ c, c < 256 → f_X10_opener (nI c) = if zopn c = 0 then (-1 : Int32) else nI (zopn c) := by decide +kernel
theorem zsd_is : ∀ c, c < 256 → f_X10_signOf (nI c) = if zsd c = 0 then (-1 : Int32) else nI (zsd c) := by decide +kernel
set_option maxHeartbeats 1000000 in
theorem mPart (htx : ∀ x ∈ tp, x < 256) (hn : n ≤ tp.length) (hl : tp.length ≤ 320) (h60 : n ≤ 60) : ∀ (f : Nat) (s : zzL) (M : zzMem), zLI n s → s.1 = true → n + 1 ≤ s.2.2.2 + f → zMS M tp n s.2.2.2 → zLX M s → ∃ b M', f_X10_readsPart M = some (b, M') ∧ zFr zmL M M' ∧ ((b = false ∧ ∃ g, zLR tp n s = .inl g ∧ M'.1 73 9 = g) ∨ (b = true ∧ ∃ s', s'.1 = false ∧ zLI n s' ∧ zLR tp n s = zLR tp n s' ∧ zMS M' tp n s'.2.2.2 ∧ zLX M' s' ∧ s.2.2.2 < s'.2.2.2)) := by
  intro f
  induction f with
  | zero => intro s M hI hd hf; have := hI.2.2.2.1; omega
  | succ f ih =>
    intro s M hI hd hf hT hX
    have hLR := zLR_s (tp := tp) (by omega) hI
    obtain ⟨due, code, st, a⟩ := s
    simp only at hd
    subst hd
    obtain ⟨h1, h2, h3, h4, h5, h6⟩ := id hI
    obtain ⟨x1, x2, x3, x4⟩ := id hX
    simp only at hf hT h1 h2 h3 h4 h5 h6 x1 x2 x3 x4
    have hw : zlwh n (true, code, st, a) = false := rfl
    rw [hw, if_neg (by decide)] at hLR
    -- a part, then its end
    have hend : ∀ (q : Nat × Nat) (X : zzMem) (b : Nat), q.1 ≤ 1 → q.2 < 65536 → a < b → b ≤ n → zMd X (code ++ [q]) → zMS X tp n b → zFr (fun k i => (k = 73 ∧ (i = 7 ∨ i = 9 ∨ i = 10 ∨ i = 11)) ∨ k = 76) M X → zlst tp n (true, code, st, a) = .inr (false, code ++ q :: (zset st).1, (zset st).2, b) → ∃ M', f_X10_settles X = some M' ∧ zFr zmL M M' ∧ ∃ s', s'.1 = false ∧ zLI n s' ∧ zLR tp n (true, code, st, a) = zLR tp n s' ∧ zMS M' tp n s'.2.2.2 ∧ zLX M' s' ∧ a < s'.2.2.2 := by
      intro q X b hq1 hq2 hab hbn hMd hXT fX hz
      have i1 := zLI_part hI hq1 hq2 hab hbn
      obtain ⟨M', r1, r2, r3, r4, r5, r6⟩ := mSettle st (code ++ [q]) X hMd (by rw [(fX _ _ (by omega)).1]; exact x2) (x3.fr (fun i _ => by rw [(fX _ _ (by omega)).1])) (by rw [(fX _ _ (by omega)).1]; exact x4) h1 (by rw [List.length_append]; simp only [List.length_singleton]; omega) (by omega)
      refine ⟨M', r1, (fX.weak (fun k i hh => by unfold zmL; omega)).trans (r6.weak (fun k i hh => by unfold zmL; omega)), (false, code ++ q :: (zset st).1, (zset st).2, b), rfl, i1, by rw [hLR, hz, zsb_r], hXT.frS r6 (by omega) (by omega) (by intro i; omega), ⟨?_, r3, r4, r5⟩, hab⟩
      show zMd M' (code ++ q :: (zset st).1)
      rw [List.append_cons]
      exact r2
    unfold f_X10_readsPart
    by_cases han : a < n
    · have hx := htx _ (List.mem_of_getElem? (ztp_get hn han))
      have hsn : zsn tp n a = nI (tp.getD a 0) := by unfold zsn; rw [if_pos han]
      by_cases ho : zopn (tp.getD a 0) ≠ 0
      · have hc := zopn_c ho
        have hzo : zlst tp n (true, code, st, a) = (if znop st = 6 then .inl (zfc 5 a) else if tp.getD a 0 = 60 then (if zdig tp n (a + 1) = true then (if tp.getD (a + 1) 0 = 48 then .inl (zfc 3 (a + 1)) else .inr (true, code, (11, tp.getD (a + 1) 0 - 48) :: st, a + 2)) else .inl (zfc 1 (a + 1))) else .inr (true, code, (zopn (tp.getD a 0), 0) :: st, a + 1)) := by
          unfold zlst
          simp only [if_true]
          rw [if_pos (show a < n ∧ zopn (tp.getD a 0) ≠ 0 from ⟨han, ho⟩)]
        have hb : b_X10_readsPart_0 M = (f_X10_opens (nI (zopn (tp.getD a 0))) M).bind (fun q13 => zpr q13 (fun r14 M15 => if r14 = true then (some (.inl M15)) else (some ((.inr (false, M15)))))) := by
          unfold b_X10_readsPart_0
          rw [mHere hT hn hl (by omega), Option.bind_some, hsn, zopn_is _ hx, if_neg ho, ifm1 (by omega), Option.bind_some, zopn_is _ hx, if_neg ho]
        -- it goes on
        have hgo : ∀ (q : Nat × Nat) (b : Nat) (X : zzMem), a < b → b ≤ n → zlst tp n (true, code, st, a) = .inr (true, code, q :: st, b) → f_X10_opens (nI (zopn (tp.getD a 0))) M = some (true, X) → zMS X tp n b → zLX X (true, code, q :: st, b) → zFr zmL M X → ∃ b M', zlp (fun s : zzMem => b_X10_readsPart_0 s) M = some (b, M') ∧ zFr zmL M M' ∧ ((b = false ∧ ∃ g, zLR tp n (true, code, st, a) = .inl g ∧ M'.1 73 9 = g) ∨ (b = true ∧ ∃ s', s'.1 = false ∧ zLI n s' ∧ zLR tp n (true, code, st, a) = zLR tp n s' ∧ zMS M' tp n s'.2.2.2 ∧ zLX M' s' ∧ a < s'.2.2.2)) := by
          intro q b X hab hbn hz hop hXT hXX fX
          obtain ⟨i1, i2⟩ := zLI_s (by omega) hI hz
          obtain ⟨b', M', r1, r2, r3⟩ := ih (true, code, q :: st, b) X i1 rfl (by show n + 1 ≤ b + f; omega) hXT hXX
          have hst : b_X10_readsPart_0 M = some (.inl X) := by rw [hb, hop]; rfl
          refine ⟨b', M', ?_, fX.trans r2, ?_⟩
          · unfold f_X10_readsPart at r1
            rw [← r1]; exact zlp_step hst
          · rw [hLR, hz, zsb_r]
            rcases r3 with r3 | ⟨e1, s', e2, e3, e4, e5, e6, e7⟩
            · exact Or.inl r3
            · have e7 : b < s'.2.2.2 := e7
              exact Or.inr ⟨e1, s', e2, e3, e4, e5, e6, by omega⟩
        have hstop : ∀ (g : Int32) (X : zzMem), zlst tp n (true, code, st, a) = .inl g → f_X10_opens (nI (zopn (tp.getD a 0))) M = some (false, X) → X.1 73 9 = g → zFr zmL M X → ∃ b M', zlp (fun s : zzMem => b_X10_readsPart_0 s) M = some (b, M') ∧ zFr zmL M M' ∧ ((b = false ∧ ∃ g, zLR tp n (true, code, st, a) = .inl g ∧ M'.1 73 9 = g) ∨ (b = true ∧ ∃ s', s'.1 = false ∧ zLI n s' ∧ zLR tp n (true, code, st, a) = zLR tp n s' ∧ zMS M' tp n s'.2.2.2 ∧ zLX M' s' ∧ a < s'.2.2.2)) := by
          intro g X hz hop hg fX
          refine ⟨false, X, zlp_done (by show b_X10_readsPart_0 M = _; rw [hb, hop]; rfl), fX, Or.inl ⟨rfl, g, by rw [hLR, hz, zsb_l], hg⟩⟩
        by_cases h66 : znop st = 6
        · rw [if_pos h66] at hzo
          refine hstop (zfc 5 a) (zz_si M 73 9 (zfc 5 a)) hzo ?_ rd_eq (zFr.si (by unfold zmL; omega))
          unfold f_X10_opens
          rw [x4, ifEq_t h66, hT.1, mWrong]; rfl
        · rw [if_neg h66] at hzo
          have f3 : zFr (fun k i => k = 73 ∧ (i = 13 ∨ i = 7)) M (zz_si (zz_si M 73 13 (nI (znop st + 1))) 73 7 (nI (a + 1))) := (zFr.si (by omega)).trans (zFr.si (by omega))
          have hT3 : zMS (zz_si (zz_si M 73 13 (nI (znop st + 1))) 73 7 (nI (a + 1))) tp n (a + 1) := (hT.frS (S := fun k i => k = 73 ∧ i = 13) (zFr.si ⟨rfl, rfl⟩) (by omega) (by omega) (by intro i; omega)).go
          have h133 : (zz_si (zz_si M 73 13 (nI (znop st + 1))) 73 7 (nI (a + 1))).1 73 13 = nI (znop st + 1) := by rw [rd_ne (by omega), rd_eq]
          have hop : f_X10_opens (nI (zopn (tp.getD a 0))) M = (if nI (zopn (tp.getD a 0)) = (nI 11) then ((f_X10_here (zz_si (zz_si M 73 13 (nI (znop st + 1))) 73 7 (nI (a + 1)))).bind (fun r5 => if (f_X10_isDigit r5) = true then ((f_X10_here (zz_si (zz_si M 73 13 (nI (znop st + 1))) 73 7 (nI (a + 1)))).bind (fun r7 => zbd ((r7 - (nI 48))) (fun x8 => if x8 = 0 then ((f_X10_wrongAt (nI 3) ((zz_si (zz_si M 73 13 (nI (znop st + 1))) 73 7 (nI (a + 1))).1 73 7) (zz_si (zz_si M 73 13 (nI (znop st + 1))) 73 7 (nI (a + 1)))).bind (fun q11 => zpr q11 (fun r12 M13 => some ((r12, M13))))) else (zbd (zz_si (zz_si (zz_si M 73 13 (nI (znop st + 1))) 73 7 (nI (a + 1))) 73 7 (((zz_si (zz_si M 73 13 (nI (znop st + 1))) 73 7 (nI (a + 1))).1 73 7) + (nI 1))) (fun M10 => j_X10_opens_99 (nI (zopn (tp.getD a 0))) x8 M10))))) else ((f_X10_wrongAt (nI 1) ((zz_si (zz_si M 73 13 (nI (znop st + 1))) 73 7 (nI (a + 1))).1 73 7) (zz_si (zz_si M 73 13 (nI (znop st + 1))) 73 7 (nI (a + 1)))).bind (fun q14 => zpr q14 (fun r15 M16 => some ((r15, M16))))))) else (j_X10_opens_99 (nI (zopn (tp.getD a 0))) (nI 0) (zz_si (zz_si M 73 13 (nI (znop st + 1))) 73 7 (nI (a + 1))))) := by
            unfold f_X10_opens
            rw [x4, ifEq_f (by omega) (by omega) (by omega), nIadd]
            simp only [zbd]
            rw [rd_ne (show ¬ (73 = 73 ∧ 7 = 13) by omega), hT.1, nIadd]
          generalize zz_si (zz_si M 73 13 (nI (znop st + 1))) 73 7 (nI (a + 1)) = M3 at f3 hT3 h133 hop
          have hpush : ∀ (d v b : Nat) (X : zzMem), 10 ≤ d → zMS X tp n b → zFr (fun k i => k = 73 ∧ (i = 13 ∨ i = 7)) M X → X.1 73 13 = nI (znop st + 1) → ∃ Y, j_X10_opens_99 (nI d) (nI v) X = some (true, Y) ∧ zMS Y tp n b ∧ zLX Y (true, code, (d, v) :: st, b) ∧ zFr zmL M Y := by
            intro d v b X hd hXT fX hX13
            have hno : znop ((d, v) :: st) = znop st + 1 := by show (if 10 ≤ d then _ else _) = _; rw [if_pos hd]
            obtain ⟨Y, y1, y2, y3, y4⟩ := mWaits (code := code) (due := true) (a := 0) (d := d) (v := v) (M := X) (st := st) (by rw [(fX _ _ (by omega)).1]; exact x2) (x3.fr (fun i _ => by rw [(fX _ _ (by omega)).1])) (by omega)
            refine ⟨Y, by unfold j_X10_opens_99; rw [y1]; rfl, hXT.frS y4 (by omega) (by omega) (by intro i; omega), ⟨⟨?_, fun j q hq => ?_⟩, y2, y3, ?_⟩, (fX.weak (fun k i hh => by unfold zmL; omega)).trans (y4.weak (fun k i hh => by unfold zmL; omega))⟩
            · rw [(y4 _ _ (by omega)).1, (fX _ _ (by omega)).1]; exact x1.1
            · rw [(y4 _ _ (by omega)).1, (fX _ _ (by omega)).1]; exact x1.2 j q hq
            · show Y.1 73 13 = nI (znop ((d, v) :: st))
              rw [(y4 _ _ (by omega)).1, hno]; exact hX13
          by_cases h60c : tp.getD a 0 = 60
          · have hz11 : zopn (tp.getD a 0) = 11 := by rw [h60c]; rfl
            rw [if_pos h60c] at hzo
            rw [hz11, ifEq_t rfl, mHere hT3 hn hl (by omega), Option.bind_some] at hop
            unfold f_X10_isDigit at hop
            rw [in_eq, zsn_dig htx hn] at hop
            by_cases hdg : zdig tp n (a + 1) = true
            · obtain ⟨e1, e2, e3⟩ := zdig_t hdg
              have hsn1 : zsn tp n (a + 1) = nI (tp.getD (a + 1) 0) := by unfold zsn; rw [if_pos e1]
              rw [if_pos hdg] at hzo hop
              rw [Option.bind_some, hsn1] at hop
              simp only [zbd] at hop
              rw [nIsub e2] at hop
              by_cases h48 : tp.getD (a + 1) 0 = 48
              · rw [if_pos h48] at hzo
                rw [ifE0_t (by omega), hT3.1, mWrong] at hop
                refine hstop (zfc 3 (a + 1)) (zz_si M3 73 9 (zfc 3 (a + 1))) hzo ?_ rd_eq ((f3.weak (fun k i hh => by unfold zmL; omega)).trans (zFr.si (by unfold zmL; omega)))
                rw [hz11, hop]; rfl
              · rw [if_neg h48] at hzo
                rw [ifE0_f (by omega) (by omega), hT3.1, nIadd] at hop
                obtain ⟨Y, y1, y2, y3, y4⟩ := hpush 11 (tp.getD (a + 1) 0 - 48) (a + 1 + 1) (zz_si M3 73 7 (nI (a + 1 + 1))) (by omega) hT3.go (f3.trans (zFr.si (by omega))) (by rw [rd_ne (by omega)]; exact h133)
                rw [y1] at hop
                exact hgo _ _ Y (by omega) (by omega) hzo (by rw [hz11]; exact hop) y2 y3 y4
            · rw [if_neg hdg] at hzo hop
              rw [hT3.1, mWrong] at hop
              refine hstop (zfc 1 (a + 1)) (zz_si M3 73 9 (zfc 1 (a + 1))) hzo ?_ rd_eq ((f3.weak (fun k i hh => by unfold zmL; omega)).trans (zFr.si (by unfold zmL; omega)))
              rw [hz11, hop]; rfl
          · rw [if_neg h60c] at hzo
            rw [ifEq_f (by omega) (by omega) (by omega)] at hop
            obtain ⟨Y, y1, y2, y3, y4⟩ := hpush (zopn (tp.getD a 0)) 0 (a + 1) M3 (by omega) hT3 f3 h133
            rw [y1] at hop
            exact hgo _ _ Y (by omega) (by omega) hzo hop y2 y3 y4
      · have ho0 : zopn (tp.getD a 0) = 0 := by omega
        have hz1 : zlst tp n (true, code, st, a) = (if a < n ∧ tp.getD a 0 = 107 then .inr (false, code ++ (1, 0) :: (zset st).1, (zset st).2, a + 1) else zsb (znm tp n 0 65535 a) (fun p => .inr (false, code ++ (0, p.1) :: (zset st).1, (zset st).2, p.2))) := by
          unfold zlst
          simp only [if_true]
          rw [if_neg (show ¬ (a < n ∧ zopn (tp.getD a 0) ≠ 0) from fun hh => hh.2 ho0)]
        have hb : b_X10_readsPart_0 M = if nI (tp.getD a 0) = nI 107 then ((f_X10_notes (nI 1) (nI 0) M).bind (fun M10 => zbd (zz_si M10 73 7 ((M10.1 73 7) + (nI 1))) (fun M11 => zup (j_X10_readsPart_76 M11)))) else ((f_X10_readsNumber (nI 0) (nI 65535) M).bind (fun q5 => zpr q5 (fun r6 M7 => if r6 = true then ((f_X10_notes (nI 0) (M7.1 73 10) M7).bind (fun M9 => zup (j_X10_readsPart_76 M9))) else (some ((.inr (false, M7))))))) := by
          unfold b_X10_readsPart_0
          rw [mHere hT hn hl (by omega), Option.bind_some, hsn, zopn_is _ hx, if_pos ho0, if_pos rfl, Option.bind_some]
        by_cases hk : tp.getD a 0 = 107
        · rw [if_pos ⟨han, hk⟩] at hz1
          rw [ifEq_t hk] at hb
          obtain ⟨M10, e1, e2, e3⟩ := mNotes (d := 1) (v := 0) x1 (by omega)
          have h710 : M10.1 73 7 = nI a := by rw [(e3 _ _ (by omega)).1]; exact hT.1
          rw [e1, Option.bind_some] at hb
          simp only [zbd] at hb
          rw [h710, nIadd] at hb
          obtain ⟨M', r1, r2, r3⟩ := hend (1, 0) (zz_si M10 73 7 (nI (a + 1))) (a + 1) (by decide) (by decide) (by omega) (by omega) ⟨by rw [rd_ne (by omega)]; exact e2.1, fun j q hq => by rw [rd_ne (by omega)]; exact e2.2 j q hq⟩ ((hT.frS e3 (by omega) (by omega) (by intro i; omega)).go) ((e3.weak (fun k i hh => by omega)).trans (zFr.si (by omega))) hz1
          refine ⟨true, M', zlp_up (o := some (true, M')) ?_, r2, Or.inr ⟨rfl, r3⟩⟩
          show b_X10_readsPart_0 M = _
          rw [hb]
          unfold j_X10_readsPart_76
          rw [r1]; rfl
        · rw [if_neg (fun hh => hk hh.2)] at hz1
          rw [ifEq_f hk (by omega) (by omega)] at hb
          obtain ⟨b, M7, g1, g2, g3, g4⟩ := mNumber (lo := 0) (hi := 65535) hT htx hn hl (by omega) (by omega) (by omega)
          rw [g1] at hb
          simp only [Option.bind_some, zpr] at hb
          cases hz : znm tp n 0 65535 a with
          | inl g =>
            obtain ⟨rfl, q2⟩ := g3 g hz
            rw [hz, zsb_l] at hz1
            rw [if_neg (by decide)] at hb
            exact ⟨false, M7, zlp_done hb, g2.weak (fun k i hh => by unfold zmL; omega), Or.inl ⟨rfl, g, by rw [hLR, hz1, zsb_l], q2⟩⟩
          | inr p =>
            obtain ⟨rfl, q2, q3⟩ := g4 p.1 p.2 hz
            obtain ⟨p1, p2, p3, p4, p5⟩ := znm_r (v := p.1) (b := p.2) hz
            rw [hz, zsb_r] at hz1
            rw [if_pos rfl, q3] at hb
            have x17 : zMd M7 code := ⟨by rw [(g2 _ _ (by omega)).1]; exact x1.1, fun j q hq => by rw [(g2 _ _ (by omega)).1]; exact x1.2 j q hq⟩
            obtain ⟨M9, e1, e2, e3⟩ := mNotes (d := 0) (v := p.1) x17 (by omega)
            rw [e1, Option.bind_some] at hb
            obtain ⟨M', r1, r2, r3⟩ := hend (0, p.1) M9 p.2 (by show 0 ≤ 1; omega) (by show p.1 < 65536; omega) p3 p4 e2 (q2.frS e3 (by omega) (by omega) (by intro i; omega)) ((g2.weak (fun k i hh => by omega)).trans (e3.weak (fun k i hh => by omega))) hz1
            refine ⟨true, M', zlp_up (o := some (true, M')) ?_, r2, Or.inr ⟨rfl, r3⟩⟩
            show b_X10_readsPart_0 M = _
            rw [hb]
            unfold j_X10_readsPart_76
            rw [r1]; rfl
    · have hsn : zsn tp n a = (-1 : Int32) := by unfold zsn; rw [if_neg han]
      have hdf : zdig tp n a = false := by unfold zdig; rw [decide_eq_false han]; rfl
      have hz : znm tp n 0 65535 a = .inl (zfc 1 a) := by
        have h0 : zdc tp n a 6 = 0 := by unfold zdc; rw [if_neg (by rw [hdf]; decide)]
        unfold znm; rw [if_pos h0]
      have hz1 : zlst tp n (true, code, st, a) = .inl (zfc 1 a) := by
        unfold zlst
        simp only [if_true]
        rw [if_neg (show ¬ (a < n ∧ zopn (tp.getD a 0) ≠ 0) from fun hh => han hh.1), if_neg (show ¬ (a < n ∧ tp.getD a 0 = 107) from fun hh => han hh.1), hz, zsb_l]
      obtain ⟨b, M7, g1, g2, g3, g4⟩ := mNumber (lo := 0) (hi := 65535) hT htx hn hl (by omega) (by omega) (by omega)
      obtain ⟨rfl, q2⟩ := g3 _ hz
      refine ⟨false, M7, zlp_done ?_, g2.weak (fun k i hh => by unfold zmL; omega), Or.inl ⟨rfl, zfc 1 a, by rw [hLR, hz1, zsb_l], q2⟩⟩
      show b_X10_readsPart_0 M = _
      unfold b_X10_readsPart_0
      rw [mHere hT hn hl (by omega), Option.bind_some, hsn, if_pos (by decide), Option.bind_some, if_neg (by decide), g1]
      rfl
end LW
