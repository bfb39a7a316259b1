def zcm (q : Nat × Nat) : Int32 := nI (65536 * q.1 + q.2)
set_option maxHeartbeats 4000000 in
/-- the reference reckons the hash; s0 is where the slot begins -/
theorem mod_eval (s0 k : Nat) (hs0 : s0 ≤ 3784) (hk : k < 65536) : ∀ (r : List (Nat × Nat)) (i : Nat) (st : List Nat) (M : zzMem),
    M.1 74 (s0 + 23) = nI (i + r.length) → i + r.length ≤ 60 → (∀ (j : Nat) (h : j < r.length), M.1 74 (s0 + 1752 + (i + j)) = zcm r[j]) → (∀ x ∈ st, x < 65536) → zlok r st.length → st.length ≤ 8 → zStk M 78 st →
    ∃ M', zlp (fun s : (Int32 × Int32 × zzMem) => b_X10_hashIn_12 (nI k) (nI s0) s.1 s.2.1 s.2.2) (nI st.length, nI i, M) = some (nI ((zst r k st).headD 0), M') ∧ zFr (fun a _ => a = 78) M M' := by
  intro r
  induction r with
  | nil =>
    intro i st M h1 h2 h3 h4 h5 h6 h7
    unfold zlok at h5
    match st, h5 with
    | [a], _ =>
      refine ⟨M, ?_, zFr.refl M⟩
      apply zlp_done
      have := h7.top
      unfold b_X10_hashIn_12
      simp (disch := omega) only [nIadd, zgd_in, nIc, h1, List.length_nil, ifLe_t, Nat.add_zero]
      simp only [List.length_nil] at this
      rw [this]
      rfl
  | cons q r ih =>
    obtain ⟨d, v⟩ := q
    intro i st M h1 h2 h3 h4 h5 h6 h7
    have h30 := h3 0 (by simp)
    simp only [List.getElem_cons_zero, Nat.add_zero] at h30
    have hlen : i + (r.length + 1) ≤ 60 := by simpa using h2
    have h1' : M.1 74 (s0 + 23) = nI (i + 1 + r.length) := by rw [h1]; congr 1; simp; omega
    have h3' : ∀ (M1 : zzMem), zFr (fun a _ => a = 78) M M1 → ∀ (j : Nat) (h : j < r.length), M1.1 74 (s0 + 1752 + (i + 1 + j)) = zcm r[j] := by
      intro M1 hf j hj
      rw [(hf 74 _ (by simp)).1, show i + 1 + j = i + (j + 1) by omega, h3 (j + 1) (by simpa using hj)]
      simp
    have hgo : ∀ (st' : List Nat) (M1 : zzMem), b_X10_hashIn_12 (nI k) (nI s0) (nI st.length) (nI i) M = some (.inl (nI st'.length, nI (i + 1), M1)) → zFr (fun a _ => a = 78) M M1 → (∀ x ∈ st', x < 65536) → zlok r st'.length → st'.length ≤ 8 → zStk M1 78 st' → zst ((d, v) :: r) k st = zst r k st' →
        ∃ M', zlp (fun s : (Int32 × Int32 × zzMem) => b_X10_hashIn_12 (nI k) (nI s0) s.1 s.2.1 s.2.2) (nI st.length, nI i, M) = some (nI ((zst ((d, v) :: r) k st).headD 0), M') ∧ zFr (fun a _ => a = 78) M M' := by
      intro st' M1 hb hf g4 g5 g6 g7 he
      obtain ⟨M', e1, e2⟩ := ih (i + 1) st' M1 (by rw [(hf 74 _ (by simp)).1]; exact h1') (by omega) (h3' M1 hf) g4 g5 g6 g7
      refine ⟨M', ?_, hf.trans e2⟩
      rw [zlp_step (s' := (nI st'.length, nI (i + 1), M1)) hb, e1, he]
    unfold zlok at h5
    obtain ⟨hv, h5⟩ := h5
    have hd12 : d ≤ 12 := by rcases h5 with ⟨h, -⟩ | ⟨-, h, -⟩ | ⟨-, h, -⟩ <;> omega
    have hcm : zcm (d, v) = nI (65536 * d + v) := rfl
    have hdv : (65536 * d + v) / 65536 = d := by omega
    have hmd : (65536 * d + v) % 65536 = v := by omega
    rcases h5 with ⟨hd, hdep, h5⟩ | ⟨hd1, hd2, hdep, h5⟩ | ⟨hd1, hd2, hdep, h11, h5⟩
    · -- a number, or the key
      have hcase : ∃ w, w < 65536 ∧ zst ((d, v) :: r) k st = zst r k (w :: st) ∧ b_X10_hashIn_12 (nI k) (nI s0) (nI st.length) (nI i) M = some (.inl (nI (st.length + 1), nI (i + 1), zz_si M 78 st.length (nI w))) := by
        rcases (show d = 0 ∨ d = 1 by omega) with rfl | rfl
        · refine ⟨v, hv, by simp [zst], ?_⟩
          unfold b_X10_hashIn_12 j_X10_hashIn_85
          simp (disch := omega) only [nIadd, h1', ifLe_f, ifLt_f, ifE0_t, zgd_in, zbd, nIc, h30, hcm, nIdiv, nIrem, hdv, hmd]
        · refine ⟨k, hk, by simp [zst], ?_⟩
          unfold b_X10_hashIn_12 j_X10_hashIn_85
          simp (disch := omega) only [nIadd, h1', ifLe_f, ifLt_f, ifE0_f, zgd_in, zbd, nIc, h30, hcm, nIdiv, nIrem, hdv, hmd]
      obtain ⟨w, hw, he, hb⟩ := hcase
      exact hgo (w :: st) _ (by simpa using hb) (zFr.si rfl) (by simpa using ⟨hw, h4⟩) (by simpa using h5) (by simp; omega) (h7.push w) he
    · -- a sign joins two
      match st, hdep with
      | b :: a :: st', _ =>
        have hb : b < 65536 := h4 b (by simp)
        have ha : a < 65536 := h4 a (by simp)
        have t1 := h7.top
        have t2 := h7.pop.top
        obtain ⟨q, hq1, hq2⟩ := modJoin (d := d) (a := a) (b := b) hd1 hd2
        have hl8 : st'.length + 2 ≤ 8 := by simpa using h6
        refine hgo (zb2 d a b :: st') (zz_si M 78 st'.length (nI (zb2 d a b))) ?_ (zFr.si rfl) ?_ (by simpa using h5) (by simp; omega) (h7.pop.set _) ?_
        · unfold b_X10_hashIn_12
          simp only [List.length_cons] at t1 t2 ⊢
          simp (disch := omega) only [nIadd, h1', ifLe_f, ifLt_t, zgd_in, zbd, nIc, h30, hcm, nIdiv, nIrem, hdv, hmd, nIsub, Nat.add_sub_cancel, t1, t2, hq1, Option.bind_some, hq2]
        · simp only [List.mem_cons, forall_eq_or_imp]
          exact ⟨zb2_lt d a b, fun x hx => h4 x (by simp [hx])⟩
        · rw [zst]
          simp only [show ¬ d = 0 by omega, show ¬ d = 1 by omega, show ¬ 10 ≤ d by omega, if_false]
    · -- one is turned
      match st, hdep with
      | a :: st', _ =>
        have ha : a < 65536 := h4 a (by simp)
        have t1 := h7.top
        obtain ⟨q, hq1, hq2⟩ := modTurn (v := v) hd1 hd2 ha
        have hl8 : st'.length + 1 ≤ 8 := by simpa using h6
        refine hgo (zu1 d v a :: st') (zz_si M 78 st'.length (nI (zu1 d v a))) ?_ (zFr.si rfl) ?_ (by simpa using h5) (by simp; omega) (h7.set _) ?_
        · unfold b_X10_hashIn_12
          simp only [List.length_cons] at t1 ⊢
          simp (disch := omega) only [nIadd, h1', ifLe_f, ifLt_t, ifLt_f, zgd_in, zbd, nIc, h30, hcm, nIdiv, nIrem, hdv, hmd, nIsub, Nat.add_sub_cancel, t1, hq1, Option.bind_some, hq2]
        · simp only [List.mem_cons, forall_eq_or_imp]
          exact ⟨zu1_lt d v ha, fun x hx => h4 x (by simp [hx])⟩
        · rw [zst]
          simp only [show ¬ d = 0 by omega, show ¬ d = 1 by omega, hd1, if_false, if_true]
theorem zst_lt : ∀ (r : List (Nat × Nat)) (k : Nat) (st : List Nat), k < 65536 → (∀ x ∈ st, x < 65536) → zlok r st.length → ∀ x ∈ zst r k st, x < 65536 := by
  intro r
  induction r with
  | nil => intro k st hk h4 h5; exact h4
  | cons q r ih =>
    obtain ⟨d, v⟩ := q
    intro k st hk h4 h5
    unfold zlok at h5
    obtain ⟨hv, h5⟩ := h5
    simp only [zst]
    rcases h5 with ⟨hd, hdep, h5⟩ | ⟨hd1, hd2, hdep, h5⟩ | ⟨hd1, hd2, hdep, h11, h5⟩
    · rcases (show d = 0 ∨ d = 1 by omega) with rfl | rfl
      · exact ih k (v :: st) hk (by simpa using ⟨hv, h4⟩) (by simpa using h5)
      · exact ih k (k :: st) hk (by simpa using ⟨hk, h4⟩) (by simpa using h5)
    · match st, hdep with
      | b :: a :: st', _ =>
        simp only [show ¬ d = 0 by omega, show ¬ d = 1 by omega, show ¬ 10 ≤ d by omega, if_false]
        exact ih k _ hk (by simp only [List.mem_cons, forall_eq_or_imp]; exact ⟨zb2_lt d a b, fun x hx => h4 x (by simp [hx])⟩) (by simpa using h5)
    · match st, hdep with
      | a :: st', _ =>
        simp only [show ¬ d = 0 by omega, show ¬ d = 1 by omega, hd1, if_false, if_true]
        exact ih k _ hk (by simp only [List.mem_cons, forall_eq_or_imp]; exact ⟨zu1_lt d v (h4 a (by simp)), fun x hx => h4 x (by simp [hx])⟩) (by simpa using h5)
theorem zhs_lt {law : List (Nat × Nat)} {k : Nat} (hk : k < 65536) (h : zlok law 0) : zhs law k < 65536 := by
  have h1 := zst_lt law k [] hk (by simp) h
  unfold zhs
  cases hz : zst law k [] with
  | nil => simp
  | cons a l => simpa using h1 a (by rw [hz]; simp)
/-- the law in the class's memory (o: the law's cell), and in the reference's (s0: where its slot begins) -/
def zLc (M : zzMem) (o : Nat) (law : List (Nat × Nat)) : Prop := M.1 o 2 = nI law.length ∧ ∀ (j : Nat) (h : j < law.length), M.1 (o + 1) j = zcc law[j]
def zLm (M : zzMem) (s0 : Nat) (law : List (Nat × Nat)) : Prop := M.1 74 (s0 + 23) = nI law.length ∧ ∀ (j : Nat) (h : j < law.length), M.1 74 (s0 + 1752 + j) = zcm law[j]
def zLok (law : List (Nat × Nat)) : Prop := zlok law 0 ∧ law.length ≤ 60
theorem cHash {M : zzMem} {o k : Nat} {law : List (Nat × Nat)} (hl : zLc M o law) (hok : zLok law) (hk : k < 65536) : ∃ M', f_X3_hashOf o (nI k) M = some (nI (zhs law k), M') ∧ zFr (fun a _ => a = o + 2) M M' := by
  unfold f_X3_hashOf j_X3_hashOf_4
  exact cls_eval o k hk law 0 [] M (by rw [hl.1]; congr 1; omega) (by have := hok.2; omega) (fun j h => by rw [Nat.zero_add]; exact hl.2 j h) (by simp) hok.1 (by simp) (fun j h => by simp at h)
theorem mHash {M : zzMem} {sl k : Nat} {law : List (Nat × Nat)} (hsl : sl ≤ 2) (hl : zLm M (1892 * sl) law) (hok : zLok law) (hk : k < 65536) : ∃ M', f_X10_hashIn (nI sl) (nI k) M = some (nI (zhs law k), M') ∧ zFr (fun a _ => a = 78) M M' := by
  unfold f_X10_hashIn j_X10_hashIn_12
  simp only [zbd, nImul]
  exact mod_eval (1892 * sl) k (by omega) hk law 0 [] M (by rw [hl.1]; congr 1; omega) (by have := hok.2; omega) (fun j h => by rw [Nat.zero_add]; exact hl.2 j h) (by simp) hok.1 (by simp) (fun j h => by simp at h)
