/-! ===== a law's text: the class ===== -/
def zCd (M : zzMem) (cs : List Int32) : Prop := M.1 3 1 = nI cs.length ∧ ∀ j x, cs[j]? = some x → M.1 4 j = x
def zlv (q : Nat × Nat) : Int32 := if q.1 = 13 then nI 0 else zcc q
def zWt (st : List (Nat × Nat)) : Int32 := match st with
  | [] => nI 0
  | q :: _ => if 10 ≤ q.1 then nI 0 else nI (zsg q.1)
def zOW (M : zzMem) : List (Nat × Nat) → Prop
  | [] => True
  | q :: r => (10 ≤ q.1 → M.1 5 (znop r) = zlv q ∧ M.1 6 (znop r) = zWt r) ∧ zOW M r
theorem znop_le : ∀ (q : Nat × Nat) (r : List (Nat × Nat)), znop r ≤ znop (q :: r) := fun q r => by
  show znop r ≤ (if 10 ≤ q.1 then znop r + 1 else znop r)
  split <;> omega
theorem zOW.fr {M M' : zzMem} : ∀ {st : List (Nat × Nat)} {m : Nat}, znop st ≤ m → (∀ i, i < m → M'.1 5 i = M.1 5 i) → (∀ i, i < m → M'.1 6 i = M.1 6 i) → zOW M st → zOW M' st
  | [], _, _, _, _, _ => trivial
  | q :: r, m, hm, h5, h6, h => by
    obtain ⟨h1, h2⟩ := h
    have hle := znop_le q r
    refine ⟨fun hq => ?_, zOW.fr (by omega) h5 h6 h2⟩
    have hno : znop (q :: r) = znop r + 1 := by show (if 10 ≤ q.1 then _ else _) = _; rw [if_pos hq]
    rw [h5 _ (by omega), h6 _ (by omega)]
    exact h1 hq
theorem cEmit {M : zzMem} {cs : List Int32} {x : Int32} (h : zCd M cs) (hl : cs.length < 60) : ∃ M', f_X4_emit x M = some M' ∧ zCd M' (cs ++ [x]) ∧ zFr (fun k i => (k = 3 ∧ i = 1) ∨ k = 4) M M' := by
  refine ⟨zz_si (zz_si M 4 cs.length x) 3 1 (nI (cs.length + 1)), ?_, ⟨by rw [rd_eq, List.length_append]; rfl, fun j y hy => ?_⟩, (zFr.si (by omega)).trans (zFr.si (by omega))⟩
  · unfold f_X4_emit
    rw [h.1, ifLe_f hl (by omega)]
    simp (disch := omega) only [zgd_in, nIc, zbd, rd_ne, h.1, nIadd]
  · rw [rd_ne (by omega)]
    by_cases hj : j < cs.length
    · rw [List.getElem?_append_left hj] at hy
      rw [rd_ne (by omega)]; exact h.2 j y hy
    · rw [List.getElem?_append_right (by omega)] at hy
      have hjl : j = cs.length := by
        have := (List.getElem?_eq_some_iff.mp hy).1
        simp at this
        omega
      rw [hjl, Nat.sub_self] at hy
      cases hy
      rw [hjl, rd_eq]
theorem zlv_ne {q : Nat × Nat} (h1 : 10 ≤ q.1) (h2 : q.1 ≤ 12) (h3 : q.1 = 11 → 1 ≤ q.2 ∧ q.2 ≤ 9) : zlv q = zcc q ∧ zcc q ≠ 0 := by
  obtain ⟨d, v⟩ := q
  simp only at h1 h2 h3
  refine ⟨by unfold zlv; rw [if_neg (by show ¬ d = 13; omega)], ?_⟩
  unfold zcc
  simp only
  rcases (show d = 10 ∨ d = 11 ∨ d = 12 by omega) with rfl | rfl | rfl
  · show (-2 : Int32) ≠ 0; decide
  · have := h3 rfl
    rcases (show v = 1 ∨ v = 2 ∨ v = 3 ∨ v = 4 ∨ v = 5 ∨ v = 6 ∨ v = 7 ∨ v = 8 ∨ v = 9 by omega) with rfl | rfl | rfl | rfl | rfl | rfl | rfl | rfl | rfl <;> decide
  · show (-3 : Int32) ≠ 0; decide
theorem zsg_b {d : Nat} (h1 : 2 ≤ d) (h2 : d ≤ 9) : 0 < zsg d ∧ zsg d < 256 ∧ zcc (d, 0) = -nI (zsg d) := by
  rcases (show d = 2 ∨ d = 3 ∨ d = 4 ∨ d = 5 ∨ d = 6 ∨ d = 7 ∨ d = 8 ∨ d = 9 by omega) with rfl | rfl | rfl | rfl | rfl | rfl | rfl | rfl <;> exact ⟨by decide, by decide, by decide⟩
theorem cEnd : ∀ (st : List (Nat × Nat)) (cs : List Int32) (M : zzMem), zCd M cs → M.1 3 4 = nI (znop st) → zOW M st → M.1 6 (znop st) = zWt st → zsok st → znop st ≤ 6 → cs.length + st.length ≤ 60 → ∃ M', f_X4_endPart M = some M' ∧ zCd M' (cs ++ (zset st).1.map zcc) ∧ M'.1 3 4 = nI (znop (zset st).2) ∧ zOW M' (zset st).2 ∧ M'.1 6 (znop (zset st).2) = zWt (zset st).2 ∧ M'.1 3 5 = nI 0 ∧ zFr (fun k _ => k = 3 ∨ k = 4 ∨ k = 6) M M' := by
  intro st
  induction st with
  | nil =>
    intro cs M hC h34 hO hW hs ho hl
    have h34 : M.1 3 4 = nI 0 := h34
    have hW : M.1 6 0 = nI 0 := hW
    refine ⟨zz_si M 3 5 (nI 0), zlp_up ?_, ⟨?_, fun j y hy => ?_⟩, by rw [rd_ne (by omega)]; exact h34, trivial, by rw [rd_ne (by omega)]; exact hW, rd_eq, zFr.si (by omega)⟩
    · show b_X4_endPart_0 M = _
      unfold b_X4_endPart_0 j_X4_endPart_49 j_X4_endPart_85
      rw [h34, ifLe0_t rfl]
      simp (disch := omega) only [zgd_in, nIc, hW, zbd]
      rw [ifE0_t rfl]
    · rw [rd_ne (by omega)]
      show _ = nI (cs ++ []).length
      rw [List.append_nil]; exact hC.1
    · rw [rd_ne (by omega)]
      have hy : (cs ++ [])[j]? = some y := hy
      rw [List.append_nil] at hy
      exact hC.2 j y hy
  | cons q r ih =>
    intro cs M hC h34 hO hW hs ho hl
    obtain ⟨d, v⟩ := q
    obtain ⟨hs1, hs2⟩ := hs
    obtain ⟨hO1, hO2⟩ := hO
    simp only at hs1 hO1
    simp only [List.length_cons] at hl
    rcases hs1 with ⟨a1, a2, a3, a4⟩ | ⟨a1, a2, a3, a4⟩
    · -- a sign
      subst a3
      have hno : znop ((d, 0) :: r) = znop r := by show (if 10 ≤ d then _ else _) = _; rw [if_neg (by omega)]
      have hwt : zWt ((d, 0) :: r) = nI (zsg d) := by show (if 10 ≤ d then _ else _) = _; rw [if_neg (by omega)]
      have hzs : zset ((d, 0) :: r) = ([(d, 0)], r) := by unfold zset; simp only; rw [if_neg (by omega), if_pos (by omega)]
      obtain ⟨b1, b2, b3⟩ := zsg_b a1 a2
      rw [hno] at h34 ho hW
      rw [hwt] at hW
      rw [hzs]
      obtain ⟨M3, e1, e2, e3⟩ := cEmit (x := -nI (zsg d)) hC (by omega)
      have h343 : M3.1 3 4 = nI (znop r) := by rw [(e3 _ _ (by omega)).1]; exact h34
      have h49 : j_X4_endPart_49 M = some (zz_si (zz_si M3 6 (znop r) (nI 0)) 3 5 (nI 0)) := by
        unfold j_X4_endPart_49 j_X4_endPart_85
        simp (disch := omega) only [h34, zgd_in, nIc, hW, ifE0_f, e1, Option.bind_some, h343, zbd]
      have hwr : zWt r = nI 0 := by
        rcases a4 with h | ⟨r', h⟩
        · rw [h]; rfl
        · rw [h]; rfl
      refine ⟨zz_si (zz_si M3 6 (znop r) (nI 0)) 3 5 (nI 0), zlp_up ?_, ⟨?_, fun j y hy => ?_⟩, by rw [rd_ne (by omega), rd_ne (by omega)]; exact h343, ?_, ?_, rd_eq, (e3.weak (fun k i h => by omega)).trans ((zFr.si (by omega)).trans (zFr.si (by omega)))⟩
      · show b_X4_endPart_0 M = _
        unfold b_X4_endPart_0
        rcases a4 with h | ⟨r', h⟩
        · have h0 : znop r = 0 := by rw [h]; rfl
          rw [h34, ifLe0_t h0, h49]
        · have hnr : znop r = znop r' + 1 := by rw [h]; rfl
          have h5 : M.1 5 (znop r') = nI 0 := by
            rw [h] at hO2
            exact (hO2.1 (by decide)).1
          rw [h34, ifLe0_f (by omega) (by omega), nIsub (by omega), show znop r - 1 = znop r' by omega]
          simp (disch := omega) only [zgd_in, nIc, h5]
          rw [ifE0_t rfl, h49]
      · rw [rd_ne (by omega), rd_ne (by omega)]
        have := e2.1
        rw [← b3] at this
        exact this
      · rw [rd_ne (by omega), rd_ne (by omega)]
        have hy : (cs ++ [zcc (d, 0)])[j]? = some y := hy
        rw [b3] at hy
        exact e2.2 j y hy
      · refine hO2.fr (m := znop r) (Nat.le_refl _) (fun i hi => ?_) (fun i hi => ?_)
        · rw [rd_ne (by omega), rd_ne (by omega), (e3 _ _ (by omega)).1]
        · rw [rd_ne (by omega), rd_ne (by omega), (e3 _ _ (by omega)).1]
      · rw [rd_ne (by omega), rd_eq, hwr]
    · have hno : znop ((d, v) :: r) = znop r + 1 := by show (if 10 ≤ d then _ else _) = _; rw [if_pos (by omega)]
      have hwt : zWt ((d, v) :: r) = nI 0 := by show (if 10 ≤ d then _ else _) = _; rw [if_pos (by omega)]
      obtain ⟨o1, o2⟩ := hO1 a1
      rw [hno] at h34 ho hW
      rw [hwt] at hW
      by_cases h12 : d ≤ 12
      · -- what turns the part
        obtain ⟨l1, l2⟩ := zlv_ne (q := (d, v)) a1 h12 a3
        have hzs : zset ((d, v) :: r) = ((d, v) :: (zset r).1, (zset r).2) := by rw [zset]; simp only; rw [if_pos (by omega)]
        rw [l1] at o1
        obtain ⟨M4, e1, e2, e3⟩ := cEmit (x := zcc (d, v)) hC (by omega)
        have h344 : M4.1 3 4 = nI (znop r + 1) := by rw [(e3 _ _ (by omega)).1]; exact h34
        obtain ⟨M', i1, i2, i3, i4, i5, i6, i7⟩ := ih (cs ++ [zcc (d, v)]) (zz_si M4 3 4 (nI (znop r))) ⟨by rw [rd_ne (by omega)]; exact e2.1, fun j y hy => by rw [rd_ne (by omega)]; exact e2.2 j y hy⟩ rd_eq (hO2.fr (Nat.le_refl _) (fun i hi => by rw [rd_ne (by omega), (e3 _ _ (by omega)).1]) (fun i hi => by rw [rd_ne (by omega), (e3 _ _ (by omega)).1])) (by rw [rd_ne (by omega), (e3 _ _ (by omega)).1]; exact o2) hs2 (by omega) (by rw [List.length_append]; simp only [List.length_singleton]; omega)
        rw [hzs]
        refine ⟨M', ?_, ?_, i3, i4, i5, i6, ((e3.weak (fun k i h => by omega)).trans (zFr.si (by omega))).trans i7⟩
        · unfold f_X4_endPart at i1 ⊢
          rw [← i1]
          refine zlp_step ?_
          show b_X4_endPart_0 M = _
          unfold b_X4_endPart_0
          rw [h34, ifLe0_f (by omega) (by omega), nIsub (by omega), Nat.add_sub_cancel]
          simp (disch := omega) only [zgd_in, nIc, o1]
          rw [if_neg l2, e1]
          simp only [Option.bind_some, zbd]
          rw [h344, nIsub (by omega), Nat.add_sub_cancel]
        · show zCd M' (cs ++ zcc (d, v) :: (zset r).1.map zcc)
          rw [List.append_cons]
          exact i2
      · -- a bracket
        have hd13 : d = 13 := by omega
        have hzs : zset ((d, v) :: r) = ([], (d, v) :: r) := by rw [zset]; simp only; rw [if_neg (by omega), if_neg (by omega)]
        have o1 : M.1 5 (znop r) = nI 0 := by rw [o1]; unfold zlv; rw [if_pos (by show d = 13; exact hd13)]
        rw [hzs]
        refine ⟨zz_si M 3 5 (nI 0), zlp_up ?_, ⟨?_, fun j y hy => ?_⟩, ?_, ?_, ?_, rd_eq, zFr.si (by omega)⟩
        · show b_X4_endPart_0 M = _
          unfold b_X4_endPart_0 j_X4_endPart_49 j_X4_endPart_85
          rw [h34, ifLe0_f (by omega) (by omega), nIsub (by omega), Nat.add_sub_cancel]
          simp (disch := omega) only [zgd_in, nIc, o1, hW, zbd]
          rw [ifE0_t rfl, ifE0_t rfl]
        · rw [rd_ne (by omega)]
          show _ = nI (cs ++ []).length
          rw [List.append_nil]; exact hC.1
        · rw [rd_ne (by omega)]
          have hy : (cs ++ [])[j]? = some y := hy
          rw [List.append_nil] at hy
          exact hC.2 j y hy
        · rw [rd_ne (by omega), hno]; exact h34
        · refine (show zOW M ((d, v) :: r) from ⟨hO1, hO2⟩).fr (m := znop r + 1) (by rw [hno]; exact Nat.le_refl _) (fun i hi => by rw [rd_ne (by omega)]) (fun i hi => by rw [rd_ne (by omega)])
        · rw [rd_ne (by omega), hno, hwt]; exact hW
/-- the class's reader of laws, in a state -/
def zLC (M : zzMem) (s : zzL) : Prop := zCd M (s.2.1.map zcc) ∧ M.1 3 4 = nI (znop s.2.2.1) ∧ zOW M s.2.2.1 ∧ M.1 6 (znop s.2.2.1) = zWt s.2.2.1 ∧ M.1 3 5 = (if s.1 = true then nI 1 else nI 0)
def zcL : Nat → Nat → Prop := fun k i => (k = 1 ∧ 2 ≤ i) ∨ (3 ≤ k ∧ k ≤ 6)
section CL
variable {M : zzMem} {tp : List Nat} {n : Nat}
theorem zLC.fr1 {M' : zzMem} {s : zzL} {S : Nat → Nat → Prop} (hf : zFr S M M') (h1 : ∀ k i, 3 ≤ k → k ≤ 6 → ¬ S k i) (h : zLC M s) : zLC M' s := by
  obtain ⟨⟨c1, c2⟩, c3, c4, c5, c6⟩ := h
  refine ⟨⟨by rw [(hf _ _ (h1 3 1 (by omega) (by omega))).1]; exact c1, fun j x hx => by rw [(hf _ _ (h1 4 j (by omega) (by omega))).1]; exact c2 j x hx⟩, by rw [(hf _ _ (h1 3 4 (by omega) (by omega))).1]; exact c3, c4.fr (Nat.le_refl _) (fun i _ => (hf _ _ (h1 5 i (by omega) (by omega))).1) (fun i _ => (hf _ _ (h1 6 i (by omega) (by omega))).1), by rw [(hf _ _ (h1 6 _ (by omega) (by omega))).1]; exact c5, by rw [(hf _ _ (h1 3 5 (by omega) (by omega))).1]; exact c6⟩
/-- an opener goes on -/
theorem cPush {code st : List (Nat × Nat)} {q : Nat × Nat} (hq : 10 ≤ q.1) (ho : znop st < 6) (h : zLC M (true, code, st, 0)) : ∃ M', j_X4_openOne_56 (zlv q) M = some M' ∧ zLC M' (true, code, q :: st, 0) ∧ zFr (fun k i => (k = 3 ∧ i = 4) ∨ k = 5 ∨ k = 6) M M' := by
  obtain ⟨⟨c1, c2⟩, c3, c4, c5, c6⟩ := h
  simp only at c1 c2 c3 c4 c5 c6
  have hno : znop (q :: st) = znop st + 1 := by show (if 10 ≤ q.1 then _ else _) = _; rw [if_pos hq]
  have hwt : zWt (q :: st) = nI 0 := by show (if 10 ≤ q.1 then _ else _) = _; rw [if_pos hq]
  have fS : zFr (fun k i => (k = 3 ∧ i = 4) ∨ k = 5 ∧ i = znop st ∨ k = 6 ∧ i = znop st + 1) M (zz_si (zz_si (zz_si M 5 (znop st) (zlv q)) 3 4 (nI (znop st + 1))) 6 (znop st + 1) (nI 0)) := ((zFr.si (by omega)).trans (zFr.si (by omega))).trans (zFr.si (by omega))
  refine ⟨zz_si (zz_si (zz_si M 5 (znop st) (zlv q)) 3 4 (nI (znop st + 1))) 6 (znop st + 1) (nI 0), ?_, ⟨⟨?_, fun j x hx => ?_⟩, ?_, ⟨fun _ => ⟨?_, ?_⟩, ?_⟩, ?_, ?_⟩, fS.weak (fun k i h => by omega)⟩
  · unfold j_X4_openOne_56
    simp (disch := omega) only [c3, zgd_in, nIc, zbd, rd_ne, nIadd, rd_eq]
  · rw [(fS _ _ (by omega)).1]; exact c1
  · rw [(fS _ _ (by omega)).1]; exact c2 j x hx
  · rw [rd_ne (by omega), rd_eq]
    show _ = nI (znop (q :: st))
    rw [hno]
  · rw [rd_ne (by omega), rd_ne (by omega), rd_eq]
  · rw [(fS _ _ (by omega)).1]; exact c5
  · exact c4.fr (Nat.le_refl _) (fun i hi => by rw [(fS _ _ (by omega)).1]) (fun i hi => by rw [(fS _ _ (by omega)).1])
  · show _ = zWt (q :: st)
    rw [hwt]
    show (zz_si (zz_si (zz_si M 5 (znop st) (zlv q)) 3 4 (nI (znop st + 1))) 6 (znop st + 1) (nI 0)).1 6 (znop (q :: st)) = _
    rw [hno, rd_eq]
  · rw [(fS _ _ (by omega)).1]; exact c6
set_option maxHeartbeats 1000000 in
theorem cLst {s : zzL} (hT : zTS M tp n s.2.2.2 0) (htx : ∀ x ∈ tp, x < 256) (hn : n ≤ tp.length) (hl : tp.length ≤ 320) (h60 : n ≤ 60) (hI : zLI n s) (hw : zlwh n s = false) (h : zLC M s) : ∃ M' a', (if s.1 = true then f_X4_readPart M else f_X4_readBehindPart M) = some M' ∧ zFr zcL M M' ∧ zTS M' tp n a' (zgs (zlst tp n s)) ∧ ∀ s', zlst tp n s = .inr s' → a' = s'.2.2.2 ∧ zLC M' s' := by
  obtain ⟨due, code, st, a⟩ := s
  obtain ⟨h1, h2, h3, h4, h5, h6⟩ := id hI
  obtain ⟨⟨c1, c2⟩, c3, c4, c5, c6⟩ := id h
  simp only at hT h1 h2 h3 h4 h5 h6 c1 c2 c3 c4 c5 c6
  have hlc : (code.map zcc).length = code.length := List.length_map ..
  -- a part, then its end
  have hend : ∀ (q : Nat × Nat) (x : Int32) (b : Nat) (f : Int32) (X : zzMem), zTS X tp n b f → zFr (fun k i => k = 1 ∧ 2 ≤ i) M X → a < n → ∃ Y Z, f_X4_emit x X = some Y ∧ f_X4_endPart Y = some Z ∧ zFr zcL M Z ∧ zTS Z tp n b f ∧ (x = zcc q → zLC Z (false, code ++ q :: (zset st).1, (zset st).2, b)) := by
    intro q x b f X hX fX han
    obtain ⟨Y, y1, y2, y3⟩ := cEmit (M := X) (cs := code.map zcc) (x := x) ⟨by rw [(fX _ _ (by omega)).1]; exact c1, fun j z hz => by rw [(fX _ _ (by omega)).1]; exact c2 j z hz⟩ (by omega)
    have fY : zFr (fun k i => (k = 1 ∧ 2 ≤ i) ∨ (k = 3 ∧ i = 1) ∨ k = 4) M Y := (fX.weak (fun k i hh => by omega)).trans (y3.weak (fun k i hh => by omega))
    obtain ⟨Z, z1, z2, z3, z4, z5, z6, z7⟩ := cEnd st (code.map zcc ++ [x]) Y y2 (by rw [(fY _ _ (by omega)).1]; exact c3) (c4.fr (Nat.le_refl _) (fun i _ => by rw [(fY _ _ (by omega)).1]) (fun i _ => by rw [(fY _ _ (by omega)).1])) (by rw [(fY _ _ (by omega)).1]; exact c5) h1 h2 (by rw [List.length_append, hlc]; simp only [List.length_singleton]; omega)
    refine ⟨Y, Z, y1, z1, (fY.weak (fun k i hh => by unfold zcL; omega)).trans (z7.weak (fun k i hh => by unfold zcL; omega)), ?_, fun hx => ⟨?_, z3, z4, z5, z6⟩⟩
    · refine (hX.frS (S := fun k i => (k = 3 ∧ i = 1) ∨ k = 4) y3 (by intro i; omega) (by intro i; omega)).frS z7 (by intro i; omega) (by intro i; omega)
    · show zCd Z ((code ++ q :: (zset st).1).map zcc)
      rw [List.map_append, List.map_cons, ← hx, List.append_cons]
      exact z2
  unfold zlst
  simp only
  cases due with
  | true =>
    rw [if_pos rfl, if_pos rfl]
    unfold f_X4_readPart
    rw [cSgn hT hn hl (by omega), Option.bind_some, cIsDig hT htx hn hl (by omega), Option.bind_some]
    by_cases han : a < n
    · have hx := htx _ (List.mem_of_getElem? (ztp_get hn han))
      have hsn : zsn tp n a = nI (tp.getD a 0) := by unfold zsn; rw [if_pos han]
      rw [hsn]
      by_cases ho : zopn (tp.getD a 0) ≠ 0
      · have hc := zopn_c ho
        have hnd : zdig tp n a = false := by
          cases hd : zdig tp n a with
          | false => rfl
          | true => obtain ⟨e1, e2, e3⟩ := zdig_t hd; omega
        rw [if_pos (show a < n ∧ zopn (tp.getD a 0) ≠ 0 from ⟨han, ho⟩), hnd, if_neg (by decide), ifEq_f (by omega) (by omega) (by omega)]
        have hopen : (if nI (tp.getD a 0) = nI 40 then j_X4_readPart_76 (nI (tp.getD a 0)) M else if nI (tp.getD a 0) = nI 126 then j_X4_readPart_76 (nI (tp.getD a 0)) M else if nI (tp.getD a 0) = nI 60 then j_X4_readPart_76 (nI (tp.getD a 0)) M else if nI (tp.getD a 0) = nI 114 then j_X4_readPart_76 (nI (tp.getD a 0)) M else zbd (f_X8_failHere (nI 1) M) (fun M9 => some M9)) = f_X4_openOne (nI (tp.getD a 0)) M := by
          have h76 : j_X4_readPart_76 (nI (tp.getD a 0)) M = f_X4_openOne (nI (tp.getD a 0)) M := by
            unfold j_X4_readPart_76
            cases f_X4_openOne (nI (tp.getD a 0)) M <;> rfl
          rw [h76]
          rcases hc with ⟨e, -⟩ | ⟨e, -⟩ | ⟨e, -⟩ | ⟨e, -⟩
          · rw [ifEq_t e]
          · rw [ifEq_f (by omega) (by omega) (by omega), ifEq_t e]
          · rw [ifEq_f (by omega) (by omega) (by omega), ifEq_f (by omega) (by omega) (by omega), ifEq_t e]
          · rw [ifEq_f (by omega) (by omega) (by omega), ifEq_f (by omega) (by omega) (by omega), ifEq_f (by omega) (by omega) (by omega), ifEq_t e]
        rw [hopen]
        unfold f_X4_openOne
        rw [c3]
        by_cases h66 : znop st = 6
        · rw [if_pos h66, ifLt_f (by omega) (by omega)]
          obtain ⟨q1, q2⟩ := cFailH (k := 5) hT
          rw [zff_0] at q1
          exact ⟨_, a, rfl, q2.weak (fun k i hh => by unfold zcL; omega), q1, fun s' hs => by cases hs⟩
        · rw [if_neg h66, ifLt_t (by omega) (by omega)]
          obtain ⟨p1, p2⟩ := cPass hT
          simp only [zbd]
          generalize f_X8_pass M = M2 at p1 p2
          have hL2 : zLC M2 (true, code, st, 0) := h.fr1 (S := fun a i => a = 1 ∧ i = 4) p2 (by intro k i; omega)
          have hpush : ∀ (q : Nat × Nat) (b : Nat) (X : zzMem), 10 ≤ q.1 → zLC X (true, code, st, 0) → zTS X tp n b 0 → zFr (fun k i => k = 1 ∧ 2 ≤ i) M X → ∃ M', j_X4_openOne_56 (zlv q) X = some M' ∧ zFr zcL M M' ∧ zTS M' tp n b 0 ∧ zLC M' (true, code, q :: st, b) := by
            intro q b X hq hX hXT fX
            obtain ⟨M', r1, r2, r3⟩ := cPush hq (by omega) hX
            exact ⟨M', r1, (fX.weak (fun k i hh => by unfold zcL; omega)).trans (r3.weak (fun k i hh => by unfold zcL; omega)), hXT.frS r3 (by intro i; omega) (by intro i; omega), r2⟩
          have f2 : zFr (fun k i => k = 1 ∧ 2 ≤ i) M M2 := p2.weak (fun k i hh => by omega)
          by_cases h60c : tp.getD a 0 = 60
          · rw [if_pos h60c, ifEq_f (by omega) (by omega) (by omega), ifEq_f (by omega) (by omega) (by omega), ifEq_t h60c]
            unfold f_X4_readRound j_X4_readRound_32
            rw [cSgn p1 hn hl (by omega), Option.bind_some]
            simp only [zbd]
            rw [cIsDig p1 htx hn hl (by omega), Option.bind_some]
            have hgarb : ∀ (x : Int32) (b : Nat) (g : Int32) (X : zzMem), X.1 3 4 = nI (znop st) → zTS X tp n b g → zFr (fun k i => k = 1 ∧ 2 ≤ i) M X → ∃ M', j_X4_openOne_56 x X = some M' ∧ zFr zcL M M' ∧ zTS M' tp n b g := by
              intro x b g X h34 hX fX
              refine ⟨zz_si (zz_si (zz_si X 5 (znop st) x) 3 4 (nI (znop st + 1))) 6 (znop st + 1) (nI 0), ?_, (fX.weak (fun k i hh => by unfold zcL; omega)).trans (((zFr.si (by unfold zcL; omega)).trans (zFr.si (by unfold zcL; omega))).trans (zFr.si (by unfold zcL; omega))), hX.frS (S := fun k i => k = 3 ∨ k = 5 ∨ k = 6) (((zFr.si (by omega)).trans (zFr.si (by omega))).trans (zFr.si (by omega))) (by intro i; omega) (by intro i; omega)⟩
              unfold j_X4_openOne_56
              simp (disch := omega) only [h34, zgd_in, nIc, zbd, rd_ne, nIadd, rd_eq]
            by_cases hdg : zdig tp n (a + 1) = true
            · obtain ⟨e1, e2, e3⟩ := zdig_t hdg
              have hsn1 : zsn tp n (a + 1) = nI (tp.getD (a + 1) 0) := by unfold zsn; rw [if_pos e1]
              rw [hdg, if_pos rfl, if_pos rfl, hsn1, nIsub e2]
              by_cases h48 : tp.getD (a + 1) 0 = 48
              · rw [if_pos h48, ifE0_t (by omega)]
                obtain ⟨q1, q2⟩ := cFailH (k := 3) p1
                rw [zff_0] at q1
                generalize f_X8_failHere (nI 3) M2 = M6 at q1 q2
                obtain ⟨r1, r2⟩ := cPass q1
                generalize f_X8_pass M6 = M7 at r1 r2
                have f7 : zFr (fun k i => k = 1 ∧ 2 ≤ i) M M7 := (f2.trans (q2.weak (fun k i hh => by omega))).trans (r2.weak (fun k i hh => by omega))
                obtain ⟨M', g1, g2, g3⟩ := hgarb ((-10 : Int32) - nI (tp.getD (a + 1) 0 - 48)) _ _ M7 (by rw [(f7 _ _ (by omega)).1]; exact c3) r1 f7
                exact ⟨M', _, by simp only [Option.bind_some, zpr]; exact g1, g2, g3, fun s' hs => by cases hs⟩
              · rw [if_neg h48, ifE0_f (by omega) (by omega)]
                obtain ⟨r1, r2⟩ := cPass p1
                generalize f_X8_pass M2 = M7 at r1 r2
                have f7 : zFr (fun k i => k = 1 ∧ 2 ≤ i) M M7 := f2.trans (r2.weak (fun k i hh => by omega))
                obtain ⟨M', g1, g2, g3, g4⟩ := hpush (11, tp.getD (a + 1) 0 - 48) (a + 1 + 1) M7 (by show 10 ≤ 11; omega) (hL2.fr1 r2 (by intro k i; omega)) r1 f7
                refine ⟨M', a + 1 + 1, ?_, g2, g3, fun s' hs => ?_⟩
                · simp only [Option.bind_some, zpr]
                  exact g1
                · cases hs
                  exact ⟨rfl, g4⟩
            · have hdf : zdig tp n (a + 1) = false := by simpa using hdg
              rw [hdf, if_neg (by decide), if_neg (by decide)]
              obtain ⟨q1, q2⟩ := cFailH (k := 1) p1
              rw [zff_0] at q1
              generalize f_X8_failHere (nI 1) M2 = M6 at q1 q2
              obtain ⟨r1, r2⟩ := cPass q1
              generalize f_X8_pass M6 = M7 at r1 r2
              have f7 : zFr (fun k i => k = 1 ∧ 2 ≤ i) M M7 := (f2.trans (q2.weak (fun k i hh => by omega))).trans (r2.weak (fun k i hh => by omega))
              obtain ⟨M', g1, g2, g3⟩ := hgarb ((-10 : Int32) - (zsn tp n (a + 1) - nI 48)) _ _ M7 (by rw [(f7 _ _ (by omega)).1]; exact c3) r1 f7
              exact ⟨M', _, by simp only [Option.bind_some, zpr]; exact g1, g2, g3, fun s' hs => by cases hs⟩
          · rw [if_neg h60c]
            have hdo : ∀ q : Nat × Nat, 10 ≤ q.1 → zopn (tp.getD a 0) = q.1 → q.2 = 0 → ∃ M' a', j_X4_openOne_56 (zlv q) M2 = some M' ∧ zFr zcL M M' ∧ zTS M' tp n a' (zgs (.inr (true, code, (zopn (tp.getD a 0), 0) :: st, a + 1) : Int32 ⊕ zzL)) ∧ ∀ s', (.inr (true, code, (zopn (tp.getD a 0), 0) :: st, a + 1) : Int32 ⊕ zzL) = .inr s' → a' = s'.2.2.2 ∧ zLC M' s' := by
              intro q hq1 hq2 hq3
              obtain ⟨M', g1, g2, g3, g4⟩ := hpush q (a + 1) M2 hq1 hL2 p1 f2
              refine ⟨M', a + 1, g1, g2, g3, fun s' hs => ?_⟩
              cases hs
              refine ⟨rfl, ?_⟩
              rw [hq2, ← hq3]
              exact g4
            rcases hc with ⟨e, e'⟩ | ⟨e, e'⟩ | ⟨e, e'⟩ | ⟨e, e'⟩
            · rw [ifEq_f (by omega) (by omega) (by omega), ifEq_f (by omega) (by omega) (by omega), ifEq_f (by omega) (by omega) (by omega)]
              exact hdo (13, 0) (by decide) e' rfl
            · rw [ifEq_t e]
              exact hdo (10, 0) (by decide) e' rfl
            · exact absurd e h60c
            · rw [ifEq_f (by omega) (by omega) (by omega), ifEq_t e]
              exact hdo (12, 0) (by decide) e' rfl
      · have ho0 : zopn (tp.getD a 0) = 0 := by omega
        rw [if_neg (show ¬ (a < n ∧ zopn (tp.getD a 0) ≠ 0) from fun hh => hh.2 ho0)]
        have hnot : tp.getD a 0 ≠ 40 ∧ tp.getD a 0 ≠ 126 ∧ tp.getD a 0 ≠ 60 ∧ tp.getD a 0 ≠ 114 := by
          refine ⟨fun hh => ?_, fun hh => ?_, fun hh => ?_, fun hh => ?_⟩ <;> (rw [hh] at ho0; revert ho0; decide)
        by_cases hk : tp.getD a 0 = 107
        · have hnd : zdig tp n a = false := by
            cases hd : zdig tp n a with
            | false => rfl
            | true => obtain ⟨e1, e2, e3⟩ := zdig_t hd; omega
          rw [if_pos (show a < n ∧ tp.getD a 0 = 107 from ⟨han, hk⟩), hnd, if_neg (by decide), ifEq_t hk]
          obtain ⟨p1, p2⟩ := cPass hT
          simp only [zbd]
          generalize f_X8_pass M = M2 at p1 p2
          obtain ⟨Y, Z, y1, y2, y3, y4, y5⟩ := hend (1, 0) (-1 : Int32) (a + 1) 0 M2 p1 (p2.weak (fun k i hh => by omega)) han
          refine ⟨Z, a + 1, ?_, y3, y4, fun s' hs => ?_⟩
          · rw [y1, Option.bind_some, y2]; rfl
          · cases hs
            exact ⟨rfl, y5 rfl⟩
        · rw [if_neg (show ¬ (a < n ∧ tp.getD a 0 = 107) from fun hh => hk hh.2)]
          by_cases hd : zdig tp n a = true
          · rw [hd, if_pos rfl]
            obtain ⟨r, M15, a', g1, g2, g3, g4, g5, g6⟩ := cNumber (lo := 0) (hi := 65535) hT htx hn hl (by omega) (by omega) (by omega)
            rw [zff_0] at g2
            cases hz : znm tp n 0 65535 a with
            | inl g =>
              rw [hz] at g2
              obtain ⟨Y, Z, y1, y2, y3, y4, y5⟩ := hend (0, 0) r a' g M15 g2 g5 han
              refine ⟨Z, a', ?_, y3, y4, fun s' hs => by cases hs⟩
              rw [g1]
              simp only [Option.bind_some, zpr]
              rw [y1, Option.bind_some, y2]; rfl
            | inr p =>
              rw [hz] at g2
              obtain ⟨q1, q2⟩ := g6 p.1 p.2 hz
              obtain ⟨Y, Z, y1, y2, y3, y4, y5⟩ := hend (0, p.1) r a' 0 M15 g2 g5 han
              refine ⟨Z, a', ?_, y3, y4, fun s' hs => ?_⟩
              · rw [g1]
                simp only [Option.bind_some, zpr]
                rw [y1, Option.bind_some, y2]; rfl
              · cases hs
                refine ⟨q2, ?_⟩
                rw [q2] at y5
                exact y5 q1
          · have hdf : zdig tp n a = false := by simpa using hd
            have hz : znm tp n 0 65535 a = .inl (zfc 1 a) := by
              have h0 : zdc tp n a 6 = 0 := by unfold zdc; rw [if_neg hd]
              unfold znm; rw [if_pos h0]
            rw [hdf, if_neg (by decide), ifEq_f hk (by omega) (by omega), ifEq_f hnot.1 (by omega) (by omega), ifEq_f hnot.2.1 (by omega) (by omega), ifEq_f hnot.2.2.1 (by omega) (by omega), ifEq_f hnot.2.2.2 (by omega) (by omega), hz, zsb_l]
            obtain ⟨q1, q2⟩ := cFailH (k := 1) hT
            rw [zff_0] at q1
            exact ⟨_, a, rfl, q2.weak (fun k i hh => by unfold zcL; omega), q1, fun s' hs => by cases hs⟩
    · have hsn : zsn tp n a = (-1 : Int32) := by unfold zsn; rw [if_neg han]
      have hdf : zdig tp n a = false := by unfold zdig; rw [decide_eq_false han]; rfl
      have hz : znm tp n 0 65535 a = .inl (zfc 1 a) := by
        have h0 : zdc tp n a 6 = 0 := by unfold zdc; rw [if_neg (by rw [hdf]; decide)]
        unfold znm; rw [if_pos h0]
      rw [if_neg (show ¬ (a < n ∧ zopn (tp.getD a 0) ≠ 0) from fun hh => han hh.1), if_neg (show ¬ (a < n ∧ tp.getD a 0 = 107) from fun hh => han hh.1), hz, zsb_l, hsn, hdf, if_neg (by decide), if_neg (by decide), if_neg (by decide), if_neg (by decide), if_neg (by decide), if_neg (by decide)]
      obtain ⟨q1, q2⟩ := cFailH (k := 1) hT
      rw [zff_0] at q1
      exact ⟨_, a, rfl, q2.weak (fun k i hh => by unfold zcL; omega), q1, fun s' hs => by cases hs⟩
  | false =>
    rw [if_neg (by decide), if_neg (by decide)]
    unfold f_X4_readBehindPart
    rw [cSgn hT hn hl (by omega), Option.bind_some]
    have hfail : ∃ M', j_X4_readBehindPart_68 M = some M' ∧ zFr zcL M M' ∧ zTS M' tp n a (zfc 1 a) := by
      obtain ⟨q1, q2⟩ := cFailH (k := 1) hT
      rw [zff_0] at q1
      exact ⟨_, rfl, q2.weak (fun k i hh => by unfold zcL; omega), q1⟩
    obtain ⟨Mf, w1, w2, w3⟩ := hfail
    by_cases han : a < n
    · have hx := htx _ (List.mem_of_getElem? (ztp_get hn han))
      have hsn : zsn tp n a = nI (tp.getD a 0) := by unfold zsn; rw [if_pos han]
      have hjs : f_X4_isJoiningSign (nI (tp.getD a 0)) = decide (zsd (tp.getD a 0) ≠ 0) := by
        have key : ∀ c, c < 256 → f_X4_isJoiningSign (nI c) = decide (zsd c ≠ 0) := by decide +kernel
        exact key _ hx
      rw [hsn, hjs]
      by_cases hd : zsd (tp.getD a 0) ≠ 0
      · obtain ⟨d1, d2, d3⟩ := zsd_c hd
        rw [if_pos (show a < n ∧ zsd (tp.getD a 0) ≠ 0 from ⟨han, hd⟩), decide_eq_true hd, if_pos rfl]
        obtain ⟨p1, p2⟩ := cPass hT
        simp only [zbd]
        generalize f_X8_pass M = M8 at p1 p2
        have h348 : M8.1 3 4 = nI (znop st) := by rw [(p2 _ _ (by omega)).1]; exact c3
        have hno : znop ((zsd (tp.getD a 0), 0) :: st) = znop st := by show (if 10 ≤ zsd (tp.getD a 0) then _ else _) = _; rw [if_neg (by omega)]
        have hwt : zWt ((zsd (tp.getD a 0), 0) :: st) = nI (tp.getD a 0) := by show (if 10 ≤ zsd (tp.getD a 0) then _ else _) = _; rw [if_neg (by omega), d3]
        have fS : zFr (fun k i => k = 1 ∧ 2 ≤ i ∨ k = 6 ∧ i = znop st ∨ k = 3 ∧ i = 5) M (zz_si (zz_si M8 6 (znop st) (nI (tp.getD a 0))) 3 5 (nI 1)) := (p2.weak (fun k i hh => by omega)).trans ((zFr.si (by omega)).trans (zFr.si (by omega)))
        refine ⟨zz_si (zz_si M8 6 (znop st) (nI (tp.getD a 0))) 3 5 (nI 1), a + 1, ?_, fS.weak (fun k i hh => by unfold zcL; omega), p1.frS (S := fun k i => k = 6 ∨ k = 3) ((zFr.si (by omega)).trans (zFr.si (by omega))) (by intro i; omega) (by intro i; omega), fun s' hs => ?_⟩
        · simp (disch := omega) only [h348, zgd_in, nIc]
        · cases hs
          refine ⟨rfl, ⟨?_, fun j x hx' => ?_⟩, ?_, ⟨fun hh => ?_, ?_⟩, ?_, ?_⟩
          · rw [(fS _ _ (by omega)).1]; exact c1
          · rw [(fS _ _ (by omega)).1]; exact c2 j x hx'
          · rw [(fS _ _ (by omega)).1]
            show _ = nI (znop ((zsd (tp.getD a 0), 0) :: st))
            rw [hno]; exact c3
          · have hh : 10 ≤ zsd (tp.getD a 0) := hh
            omega
          · exact c4.fr (Nat.le_refl _) (fun i hi => by rw [(fS _ _ (by omega)).1]) (fun i hi => by rw [(fS _ _ (by omega)).1])
          · show (zz_si (zz_si M8 6 (znop st) (nI (tp.getD a 0))) 3 5 (nI 1)).1 6 (znop ((zsd (tp.getD a 0), 0) :: st)) = zWt ((zsd (tp.getD a 0), 0) :: st)
            rw [hno, hwt, rd_ne (by omega), rd_eq]
          · rw [rd_eq]; rfl
      · have hd0 : zsd (tp.getD a 0) = 0 := by omega
        rw [if_neg (show ¬ (a < n ∧ zsd (tp.getD a 0) ≠ 0) from fun hh => hh.2 hd0), decide_eq_false hd, if_neg (by decide)]
        by_cases h41 : tp.getD a 0 = 41
        · rw [ifEq_t h41, c3]
          by_cases hz0 : znop st = 0
          · rw [if_neg (show ¬ (a < n ∧ tp.getD a 0 = 41 ∧ 0 < znop st) from fun hh => by omega), ifLe0_t hz0]
            exact ⟨Mf, a, w1, w2, w3, fun s' hs => by cases hs⟩
          · rw [if_pos (show a < n ∧ tp.getD a 0 = 41 ∧ 0 < znop st from ⟨han, h41, by omega⟩), ifLe0_f (by omega) (by omega)]
            rcases h6 rfl with hh | ⟨r, hh⟩
            · rw [hh] at hz0; exact absurd rfl hz0
            · subst hh
              have hno : znop ((13, 0) :: r) = znop r + 1 := rfl
              obtain ⟨p1, p2⟩ := cPass hT
              simp only [zbd]
              generalize f_X8_pass M = M5 at p1 p2
              have h345 : M5.1 3 4 = nI (znop r + 1) := by rw [(p2 _ _ (by omega)).1]; exact c3
              rw [h345, nIsub (by omega), Nat.add_sub_cancel]
              have f6 : zFr (fun k i => k = 1 ∧ 2 ≤ i ∨ k = 3 ∧ i = 4) M (zz_si M5 3 4 (nI (znop r))) := (p2.weak (fun k i hh => by omega)).trans (zFr.si (by omega))
              obtain ⟨o1, o2⟩ := c4
              simp only [List.length_cons] at h3
              obtain ⟨Z, z1, z2, z3, z4, z5, z6, z7⟩ := cEnd r (code.map zcc) (zz_si M5 3 4 (nI (znop r))) ⟨by rw [(f6 _ _ (by omega)).1]; exact c1, fun j z hz => by rw [(f6 _ _ (by omega)).1]; exact c2 j z hz⟩ rd_eq (o2.fr (Nat.le_refl _) (fun i _ => by rw [(f6 _ _ (by omega)).1]) (fun i _ => by rw [(f6 _ _ (by omega)).1])) (by rw [(f6 _ _ (by omega)).1]; exact (o1 (by decide)).2) h1.2 (by omega) (by rw [hlc]; omega)
              refine ⟨Z, a + 1, by rw [z1]; rfl, (f6.weak (fun k i hh => by unfold zcL; omega)).trans (z7.weak (fun k i hh => by unfold zcL; omega)), (p1.frS (S := fun k i => k = 3) (zFr.si rfl) (by intro i; omega) (by intro i; omega)).frS z7 (by intro i; omega) (by intro i; omega), fun s' hs => ?_⟩
              cases hs
              refine ⟨rfl, ?_, z3, z4, z5, z6⟩
              show zCd Z ((code ++ (zset r).1).map zcc)
              rw [List.map_append]
              exact z2
        · rw [if_neg (show ¬ (a < n ∧ tp.getD a 0 = 41 ∧ 0 < znop st) from fun hh => h41 hh.2.1), ifEq_f h41 (by omega) (by omega)]
          exact ⟨Mf, a, w1, w2, w3, fun s' hs => by cases hs⟩
    · have hsn : zsn tp n a = (-1 : Int32) := by unfold zsn; rw [if_neg han]
      have hj1 : f_X4_isJoiningSign (-1 : Int32) = false := by decide
      rw [if_neg (show ¬ (a < n ∧ zsd (tp.getD a 0) ≠ 0) from fun hh => han hh.1), if_neg (show ¬ (a < n ∧ tp.getD a 0 = 41 ∧ 0 < znop st) from fun hh => han hh.1), hsn, hj1, if_neg (by decide), if_neg (by decide)]
      exact ⟨Mf, a, w1, w2, w3, fun s' hs => by cases hs⟩
end CL
