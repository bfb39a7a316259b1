/-! ===== frames: what stays ===== -/
def zFr (S : Nat → Nat → Prop) (M M' : zzMem) : Prop := ∀ k i, ¬ S k i → M'.1 k i = M.1 k i ∧ M'.2 k i = M.2 k i
theorem zFr.refl {S : Nat → Nat → Prop} (M : zzMem) : zFr S M M := fun _ _ _ => ⟨rfl, rfl⟩
theorem zFr.trans {S : Nat → Nat → Prop} {M M' M'' : zzMem} (h1 : zFr S M M') (h2 : zFr S M' M'') : zFr S M M'' := fun k i h => ⟨(h2 k i h).1.trans (h1 k i h).1, (h2 k i h).2.trans (h1 k i h).2⟩
theorem zFr.weak {S S' : Nat → Nat → Prop} {M M' : zzMem} (h : zFr S M M') (hs : ∀ k i, S k i → S' k i) : zFr S' M M' := fun k i hn => h k i (fun hh => hn (hs k i hh))
theorem zFr.si {S : Nat → Nat → Prop} {M : zzMem} {k i : Nat} {v : Int32} (h : S k i) : zFr S M (zz_si M k i v) := fun a b hn => ⟨by
  rw [rd_si, if_neg]
  rintro ⟨rfl, rfl⟩
  exact hn h, rfl⟩
theorem zFr.sl {S : Nat → Nat → Prop} {M : zzMem} {k i : Nat} {v : Int64} (h : S k i) : zFr S M (zz_sl M k i v) := fun a b hn => ⟨rfl, by
  rw [rd_sl, if_neg]
  rintro ⟨rfl, rfl⟩
  exact hn h⟩
/-! ===== the law as a list of deeds (deed, number), and the hash by it ===== -/
noncomputable def zbI (d : Nat) (x y : Int32) : Int32 := if d = 2 then x + y else if d = 3 then x - y else if d = 4 then x * y else if d = 5 then (if y = 0 then nI 0 else x / y) else if d = 6 then (if y = 0 then nI 0 else zrm x y) else if d = 7 then x ^^^ y else if d = 8 then x &&& y else x ||| y
noncomputable def zb2 (d a b : Nat) : Nat := (zbI d (nI a) (nI b)).toBitVec.toNat % 65536
noncomputable def zu1 (d v a : Nat) : Nat := if d = 10 then 65535 - a else if d = 12 then zrev a else ((nI a <<< (nI v &&& 31)) ||| (nI a >>> ((nI 16 - nI v) &&& 31))).toBitVec.toNat % 65536
noncomputable def zst : List (Nat × Nat) → Nat → List Nat → List Nat
  | [], _, st => st
  | (d, v) :: r, k, st => zst r k (if d = 0 then v :: st else if d = 1 then k :: st else if 10 ≤ d then (match st with
    | a :: st' => zu1 d v a :: st'
    | [] => []) else (match st with
    | b :: a :: st' => zb2 d a b :: st'
    | _ => []))
noncomputable def zhs (law : List (Nat × Nat)) (k : Nat) : Nat := (zst law k []).headD 0
/-- deeds that a stack of at most 8 bears: dep numbers stand on it ahead of them, one behind -/
def zlok : List (Nat × Nat) → Nat → Prop
  | [], dep => dep = 1
  | (d, v) :: r, dep => v < 65536 ∧ ((d ≤ 1 ∧ dep < 8 ∧ zlok r (dep + 1)) ∨ (2 ≤ d ∧ d ≤ 9 ∧ 2 ≤ dep ∧ zlok r (dep - 1)) ∨ (10 ≤ d ∧ d ≤ 12 ∧ 1 ≤ dep ∧ (d = 11 → 1 ≤ v ∧ v ≤ 9) ∧ zlok r dep))
def zsg (d : Nat) : Nat := if d = 2 then 43 else if d = 3 then 45 else if d = 4 then 42 else if d = 5 then 47 else if d = 6 then 37 else if d = 7 then 94 else if d = 8 then 38 else 124
/-- a deed in the class's code, and in the reference's -/
def zcc (q : Nat × Nat) : Int32 := if q.1 = 0 then nI q.2 else if q.1 = 1 then (-1 : Int32) else if q.1 = 10 then (-2 : Int32) else if q.1 = 12 then (-3 : Int32) else if q.1 = 11 then (-10 : Int32) - nI q.2 else -nI (zsg q.1)
theorem zu1_lt (d v : Nat) {a : Nat} (ha : a < 65536) : zu1 d v a < 65536 := by
  unfold zu1
  split
  · omega
  · split
    · exact zrev_lt a
    · exact Nat.mod_lt _ (by decide)
theorem zb2_lt (d a b : Nat) : zb2 d a b < 65536 := Nat.mod_lt _ (by decide)
theorem zmask (x : Int32) : x &&& nI 65535 = nI (x.toBitVec.toNat % 65536) := pk_and x 16 (by decide)
theorem clsJoin {d a b : Nat} (h1 : 2 ≤ d) (h2 : d ≤ 9) : ∃ r, f_X3_joined (nI (zsg d)) (nI a) (nI b) = some r ∧ r &&& nI 65535 = nI (zb2 d a b) := by
  refine ⟨zbI d (nI a) (nI b), ?_, zmask _⟩
  unfold f_X3_joined zbI
  rcases (show d = 2 ∨ d = 3 ∨ d = 4 ∨ d = 5 ∨ d = 6 ∨ d = 7 ∨ d = 8 ∨ d = 9 by omega) with rfl | rfl | rfl | rfl | rfl | rfl | rfl | rfl
  all_goals simp (disch := decide) only [zsg, ifEq_f, ifEq_t, if_true, if_false, reduceIte, Nat.reduceEqDiff]
  all_goals first
    | rfl
    | (by_cases h0 : nI b = 0
       · simp [h0]
       · simp [h0, zgd_t])
theorem modJoin {d a b : Nat} (h1 : 2 ≤ d) (h2 : d ≤ 9) : ∃ r, f_X10_joined (nI d) (nI a) (nI b) = some r ∧ r &&& nI 65535 = nI (zb2 d a b) := by
  refine ⟨zbI d (nI a) (nI b), ?_, zmask _⟩
  unfold f_X10_joined zbI
  rcases (show d = 2 ∨ d = 3 ∨ d = 4 ∨ d = 5 ∨ d = 6 ∨ d = 7 ∨ d = 8 ∨ d = 9 by omega) with rfl | rfl | rfl | rfl | rfl | rfl | rfl | rfl
  all_goals simp (disch := decide) only [ifEq_f, ifEq_t, if_true, if_false, reduceIte, Nat.reduceEqDiff]
  all_goals first
    | rfl
    | (by_cases h0 : nI b = 0
       · simp [h0]
       · simp [h0, zgd_t])
theorem modTurn {d v a : Nat} (h1 : 10 ≤ d) (h2 : d ≤ 12) (ha : a < 65536) : ∃ r, f_X10_turnedBy (nI d) (nI a) (nI v) = some r ∧ r &&& nI 65535 = nI (zu1 d v a) := by
  unfold f_X10_turnedBy
  rcases (show d = 10 ∨ d = 11 ∨ d = 12 by omega) with rfl | rfl | rfl
  · refine ⟨nI (65535 - a), ?_, ?_⟩
    · simp (disch := omega) only [ifEq_t, nIsub, reduceIte]
    · rw [show nI 65535 = (65535 : Int32) from rfl, nx_m16 (by omega)]; rfl
  · refine ⟨(nI a <<< (nI v &&& 31)) ||| (nI a >>> ((nI 16 - nI v) &&& 31)), ?_, ?_⟩
    · simp (disch := omega) only [ifEq_f]
    · rw [zmask]; rfl
  · refine ⟨nI (zrev a), ?_, ?_⟩
    · simp (disch := omega) only [ifEq_f, ifEq_t, modRev]; rfl
    · rw [show nI 65535 = (65535 : Int32) from rfl, nx_m16 (zrev_lt a)]; rfl
theorem clsChange {d v a : Nat} (h1 : 10 ≤ d) (h2 : d ≤ 12) (ha : a < 65536) (hv : d = 11 → 1 ≤ v ∧ v ≤ 9) : f_X3_changed (zcc (d, v)) (nI a) = nI (zu1 d v a) := by
  unfold f_X3_changed zcc
  rcases (show d = 10 ∨ d = 11 ∨ d = 12 by omega) with rfl | rfl | rfl
  · simp only [zu1, Nat.reduceEqDiff, reduceIte]
    exact clsTurn a ha
  · have hv := hv rfl
    simp only [zbd, zu1, Nat.reduceEqDiff, if_false, if_true, reduceIte]
    have e1 : ∀ w, 1 ≤ w → w ≤ 9 → ¬ ((-10 : Int32) - nI w = -2) ∧ ¬ ((-10 : Int32) - nI w = -3) ∧ (-10 : Int32) - ((-10 : Int32) - nI w) = nI w := by
      intro w h1 h2
      rcases (show w = 1 ∨ w = 2 ∨ w = 3 ∨ w = 4 ∨ w = 5 ∨ w = 6 ∨ w = 7 ∨ w = 8 ∨ w = 9 by omega) with rfl | rfl | rfl | rfl | rfl | rfl | rfl | rfl | rfl <;> decide
    obtain ⟨q1, q2, q3⟩ := e1 v hv.1 hv.2
    rw [if_neg q1, if_neg q2, q3, zmask]
  · simp [zu1, clsRev a ha]
/-- what a push, a turn, a join do to the stack in the memory -/
def zStk (M : zzMem) (k : Nat) (st : List Nat) : Prop := ∀ (j : Nat) (h : j < st.length), M.1 k (st.length - 1 - j) = nI st[j]
theorem zStk.push {M : zzMem} {k : Nat} {st : List Nat} (h : zStk M k st) (v : Nat) : zStk (zz_si M k st.length (nI v)) k (v :: st) := by
  intro j hj
  cases j with
  | zero => rw [rd_si]; simp
  | succ j =>
    have hj' : j < st.length := by simpa using hj
    have e : (v :: st).length - 1 - (j + 1) = st.length - 1 - j := by simp only [List.length_cons]; omega
    rw [e, rd_si, if_neg (by omega)]
    simpa using h j hj'
theorem zStk.top {M : zzMem} {k a : Nat} {st : List Nat} (h : zStk M k (a :: st)) : M.1 k st.length = nI a := by
  have := h 0 (by simp)
  simpa using this
theorem zStk.pop {M : zzMem} {k a : Nat} {st : List Nat} (h : zStk M k (a :: st)) : zStk M k st := by
  intro j hj
  have := h (j + 1) (by simpa using hj)
  have e : (a :: st).length - 1 - (j + 1) = st.length - 1 - j := by simp only [List.length_cons]; omega
  rw [e] at this
  simpa using this
theorem zStk.set {M : zzMem} {k a : Nat} {st : List Nat} (h : zStk M k (a :: st)) (v : Nat) : zStk (zz_si M k st.length (nI v)) k (v :: st) := h.pop.push v
set_option maxHeartbeats 4000000 in
/-- the class reckons the hash; o is the law's cell -/
theorem cls_eval (o k : Nat) (hk : k < 65536) : ∀ (r : List (Nat × Nat)) (i : Nat) (st : List Nat) (M : zzMem),
    M.1 o 2 = nI (i + r.length) → i + r.length ≤ 60 → (∀ (j : Nat) (h : j < r.length), M.1 (o + 1) (i + j) = zcc r[j]) → (∀ x ∈ st, x < 65536) → zlok r st.length → st.length ≤ 8 → zStk M (o + 2) st →
    ∃ M', zlp (fun s : (Int32 × Int32 × zzMem) => b_X3_hashOf_4 o (nI k) s.1 s.2.1 s.2.2) (nI st.length, nI i, M) = some (nI ((zst r k st).headD 0), M') ∧ zFr (fun a _ => a = o + 2) M M' := by
  intro r
  induction r with
  | nil =>
    intro i st M h1 h2 h3 h4 h5 h6 h7
    unfold zlok at h5
    match st, h5 with
    | [a], _ =>
      refine ⟨M, ?_, zFr.refl M⟩
      apply zlp_done
      have := h7.top
      unfold b_X3_hashOf_4
      simp (disch := omega) only [h1, List.length_nil, ifLe_t, Nat.add_zero]
      simp only [List.length_nil] at this
      rw [this]
      rfl
  | cons q r ih =>
    obtain ⟨d, v⟩ := q
    intro i st M h1 h2 h3 h4 h5 h6 h7
    have h30 := h3 0 (by simp)
    simp only [List.getElem_cons_zero, Nat.add_zero] at h30
    have hlen : i + (r.length + 1) ≤ 60 := by simpa using h2
    have h1' : M.1 o 2 = nI (i + 1 + r.length) := by rw [h1]; congr 1; simp; omega
    have h3' : ∀ (M1 : zzMem), zFr (fun a _ => a = o + 2) M M1 → ∀ (j : Nat) (h : j < r.length), M1.1 (o + 1) (i + 1 + j) = zcc r[j] := by
      intro M1 hf j hj
      rw [(hf (o + 1) (i + 1 + j) (by simp)).1, show i + 1 + j = i + (j + 1) by omega, h3 (j + 1) (by simpa using hj)]
      simp
    have hgo : ∀ (st' : List Nat) (M1 : zzMem), b_X3_hashOf_4 o (nI k) (nI st.length) (nI i) M = some (.inl (nI st'.length, nI (i + 1), M1)) → zFr (fun a _ => a = o + 2) M M1 → (∀ x ∈ st', x < 65536) → zlok r st'.length → st'.length ≤ 8 → zStk M1 (o + 2) st' → zst ((d, v) :: r) k st = zst r k st' →
        ∃ M', zlp (fun s : (Int32 × Int32 × zzMem) => b_X3_hashOf_4 o (nI k) s.1 s.2.1 s.2.2) (nI st.length, nI i, M) = some (nI ((zst ((d, v) :: r) k st).headD 0), M') ∧ zFr (fun a _ => a = o + 2) M M' := by
      intro st' M1 hb hf g4 g5 g6 g7 he
      obtain ⟨M', e1, e2⟩ := ih (i + 1) st' M1 (by rw [(hf o 2 (by simp)).1]; exact h1') (by omega) (h3' M1 hf) g4 g5 g6 g7
      refine ⟨M', ?_, hf.trans e2⟩
      rw [zlp_step (s' := (nI st'.length, nI (i + 1), M1)) hb, e1, he]
    unfold zlok at h5
    obtain ⟨hv, h5⟩ := h5
    rcases h5 with ⟨hd, hdep, h5⟩ | ⟨hd1, hd2, hdep, h5⟩ | ⟨hd1, hd2, hdep, h11, h5⟩
    · -- a number, or the key
      have hcase : ∃ w, w < 65536 ∧ zst ((d, v) :: r) k st = zst r k (w :: st) ∧ b_X3_hashOf_4 o (nI k) (nI st.length) (nI i) M = some (.inl (nI (st.length + 1), nI (i + 1), zz_si M (o + 2) st.length (nI w))) := by
        rcases (show d = 0 ∨ d = 1 by omega) with rfl | rfl
        · refine ⟨v, hv, by simp [zst], ?_⟩
          unfold b_X3_hashOf_4 j_X3_hashOf_49
          have e0 : zcc (0, v) = nI v := rfl
          have e1 : ¬ nI v < (-1 : Int32) := by
            intro hc
            have := Int32.lt_iff_toInt_lt.mp hc
            rw [nI_toInt (by omega)] at this
            have h9 : ((-1 : Int32)).toInt = -1 := by decide
            omega
          simp (disch := omega) only [h1', ifLe_f, zgd_in, zbd, nIc, h30, e0, if_neg e1, ifm1, nIadd]
        · refine ⟨k, hk, by simp [zst], ?_⟩
          unfold b_X3_hashOf_4 j_X3_hashOf_49
          have e0 : zcc (1, v) = (-1 : Int32) := rfl
          have e1 : ¬ (-1 : Int32) < (-1 : Int32) := by decide
          simp (disch := omega) only [h1', ifLe_f, zgd_in, zbd, nIc, h30, e0, if_neg e1, nIadd, reduceIte]
      obtain ⟨w, hw, he, hb⟩ := hcase
      exact hgo (w :: st) _ (by simpa using hb) (zFr.si rfl) (by simpa using ⟨hw, h4⟩) (by simpa using h5) (by simp; omega) (h7.push w) he
    · -- a sign joins two
      match st, hdep with
      | b :: a :: st', _ =>
        have hb : b < 65536 := h4 b (by simp)
        have ha : a < 65536 := h4 a (by simp)
        have t1 := h7.top
        have t2 := h7.pop.top
        obtain ⟨q, hq1, hq2⟩ := clsJoin (d := d) (a := a) (b := b) hd1 hd2
        have hz : ∀ e, 2 ≤ e → e ≤ 9 → zcc (e, v) < (-1 : Int32) ∧ zcc (e, v) < (-19 : Int32) ∧ -zcc (e, v) = nI (zsg e) := by
          intro e h1 h2
          have hcc : zcc (e, v) = -nI (zsg e) := by
            unfold zcc
            simp only [show ¬ e = 0 by omega, show ¬ e = 1 by omega, show ¬ e = 10 by omega, show ¬ e = 12 by omega, show ¬ e = 11 by omega, if_false]
          rw [hcc]
          rcases (show e = 2 ∨ e = 3 ∨ e = 4 ∨ e = 5 ∨ e = 6 ∨ e = 7 ∨ e = 8 ∨ e = 9 by omega) with rfl | rfl | rfl | rfl | rfl | rfl | rfl | rfl <;> exact ⟨by decide, by decide, by decide⟩
        obtain ⟨z1, z2, z3⟩ := hz d hd1 hd2
        have hl8 : st'.length + 2 ≤ 8 := by simpa using h6
        refine hgo (zb2 d a b :: st') (zz_si M (o + 2) st'.length (nI (zb2 d a b))) ?_ (zFr.si rfl) ?_ (by simpa using h5) (by simp; omega) (h7.pop.set _) ?_
        · unfold b_X3_hashOf_4
          have e1 : nI (st'.length + 1 + 1) + (-1 : Int32) = nI (st'.length + 1) := pk_m1 _
          simp only [List.length_cons] at t1 t2 ⊢
          simp (disch := omega) only [h1', ifLe_f, zgd_in, zbd, nIc, h30, if_pos z1, if_pos z2, e1, nIsub, Nat.add_sub_cancel, z3, t1, t2, hq1, Option.bind_some, hq2, nIadd]
        · simp only [List.mem_cons, forall_eq_or_imp]
          exact ⟨zb2_lt d a b, fun x hx => h4 x (by simp [hx])⟩
        · rw [zst]
          simp only [show ¬ d = 0 by omega, show ¬ d = 1 by omega, show ¬ 10 ≤ d by omega, if_false]
    · -- one is turned
      match st, hdep with
      | a :: st', _ =>
        have ha : a < 65536 := h4 a (by simp)
        have t1 := h7.top
        have hch := clsChange (v := v) hd1 hd2 ha h11
        have hz : zcc (d, v) < (-1 : Int32) ∧ ¬ zcc (d, v) < (-19 : Int32) := by
          rcases (show d = 10 ∨ d = 11 ∨ d = 12 by omega) with rfl | rfl | rfl
          · exact ⟨show (-2 : Int32) < -1 by decide, show ¬ (-2 : Int32) < -19 by decide⟩
          · obtain ⟨v1, v2⟩ := h11 rfl
            rcases (show v = 1 ∨ v = 2 ∨ v = 3 ∨ v = 4 ∨ v = 5 ∨ v = 6 ∨ v = 7 ∨ v = 8 ∨ v = 9 by omega) with rfl | rfl | rfl | rfl | rfl | rfl | rfl | rfl | rfl <;> exact ⟨by decide, by decide⟩
          · exact ⟨show (-3 : Int32) < -1 by decide, show ¬ (-3 : Int32) < -19 by decide⟩
        have hl8 : st'.length + 1 ≤ 8 := by simpa using h6
        refine hgo (zu1 d v a :: st') (zz_si M (o + 2) st'.length (nI (zu1 d v a))) ?_ (zFr.si rfl) ?_ (by simpa using h5) (by simp; omega) (h7.set _) ?_
        · unfold b_X3_hashOf_4
          simp only [List.length_cons] at t1 ⊢
          simp (disch := omega) only [h1', ifLe_f, ifLe0_f, zgd_in, zbd, nIc, h30, if_pos hz.1, if_neg hz.2, nIsub, Nat.add_sub_cancel, t1, hch, nIadd]
        · simp only [List.mem_cons, forall_eq_or_imp]
          exact ⟨zu1_lt d v ha, fun x hx => h4 x (by simp [hx])⟩
        · rw [zst]
          simp only [show ¬ d = 0 by omega, show ¬ d = 1 by omega, hd1, if_false, if_true]
