/-! ===== a law's text: the machine that reads it ===== -/
def zopn (c : Nat) : Nat := if c = 40 then 13 else if c = 126 then 10 else if c = 60 then 11 else if c = 114 then 12 else 0
def zsd (c : Nat) : Nat := if c = 37 then 6 else if c = 38 then 8 else if c = 42 then 4 else if c = 43 then 2 else if c = 45 then 3 else if c = 47 then 5 else if c = 94 then 7 else if c = 124 then 9 else 0
/-- a part is whole: what turns it, then the sign that waits for it -/
def zset : List (Nat × Nat) → List (Nat × Nat) × List (Nat × Nat)
  | [] => ([], [])
  | q :: r => if 10 ≤ q.1 ∧ q.1 ≤ 12 then (q :: (zset r).1, (zset r).2) else if 2 ≤ q.1 ∧ q.1 ≤ 9 then ([q], r) else ([], q :: r)
def znop : List (Nat × Nat) → Nat
  | [] => 0
  | q :: r => if 10 ≤ q.1 then znop r + 1 else znop r
def znsg : List (Nat × Nat) → Nat
  | [] => 0
  | q :: r => if 10 ≤ q.1 then znsg r else znsg r + 1
abbrev zzL : Type := Bool × List (Nat × Nat) × List (Nat × Nat) × Nat
def zlst (tp : List Nat) (n : Nat) (s : zzL) : Int32 ⊕ zzL :=
  if s.1 = true then
    (if s.2.2.2 < n ∧ zopn (tp.getD s.2.2.2 0) ≠ 0 then
      (if znop s.2.2.1 = 6 then .inl (zfc 5 s.2.2.2) else if tp.getD s.2.2.2 0 = 60 then
        (if zdig tp n (s.2.2.2 + 1) = true then (if tp.getD (s.2.2.2 + 1) 0 = 48 then .inl (zfc 3 (s.2.2.2 + 1)) else .inr (true, s.2.1, (11, tp.getD (s.2.2.2 + 1) 0 - 48) :: s.2.2.1, s.2.2.2 + 2)) else .inl (zfc 1 (s.2.2.2 + 1)))
        else .inr (true, s.2.1, (zopn (tp.getD s.2.2.2 0), 0) :: s.2.2.1, s.2.2.2 + 1))
      else if s.2.2.2 < n ∧ tp.getD s.2.2.2 0 = 107 then .inr (false, s.2.1 ++ (1, 0) :: (zset s.2.2.1).1, (zset s.2.2.1).2, s.2.2.2 + 1)
      else zsb (znm tp n 0 65535 s.2.2.2) (fun p => .inr (false, s.2.1 ++ (0, p.1) :: (zset s.2.2.1).1, (zset s.2.2.1).2, p.2)))
  else (if s.2.2.2 < n ∧ zsd (tp.getD s.2.2.2 0) ≠ 0 then .inr (true, s.2.1, (zsd (tp.getD s.2.2.2 0), 0) :: s.2.2.1, s.2.2.2 + 1)
    else if s.2.2.2 < n ∧ tp.getD s.2.2.2 0 = 41 ∧ 0 < znop s.2.2.1 then .inr (false, s.2.1 ++ (zset s.2.2.1.tail).1, (zset s.2.2.1.tail).2, s.2.2.2 + 1)
    else .inl (zfc 1 s.2.2.2))
def zlwh (n : Nat) (s : zzL) : Bool := !s.1 && (decide (n ≤ s.2.2.2) && decide (znop s.2.2.1 = 0))
def zlrn (tp : List Nat) (n : Nat) : Nat → zzL → Int32 ⊕ List (Nat × Nat)
  | 0, s => .inr s.2.1
  | f + 1, s => if zlwh n s = true then .inr s.2.1 else zsb (zlst tp n s) (zlrn tp n f)
/-- the stack that waits: what may stand on what -/
def zsok : List (Nat × Nat) → Prop
  | [] => True
  | q :: r => ((2 ≤ q.1 ∧ q.1 ≤ 9 ∧ q.2 = 0 ∧ (r = [] ∨ ∃ r', r = (13, 0) :: r')) ∨ (10 ≤ q.1 ∧ q.1 ≤ 13 ∧ (q.1 = 11 → 1 ≤ q.2 ∧ q.2 ≤ 9) ∧ (q.1 ≠ 11 → q.2 = 0))) ∧ zsok r
/-- deeds on a stack, how many numbers stand behind them -/
def zlr : List (Nat × Nat) → Nat → Option Nat
  | [], dep => some dep
  | q :: r, dep => if q.2 < 65536 then (if q.1 ≤ 1 then (if dep < 8 then zlr r (dep + 1) else none) else if q.1 ≤ 9 then (if 2 ≤ dep then zlr r (dep - 1) else none) else if q.1 ≤ 12 ∧ 1 ≤ dep ∧ (q.1 = 11 → 1 ≤ q.2 ∧ q.2 ≤ 9) then zlr r dep else none) else none
theorem zlr_ok : ∀ (l : List (Nat × Nat)) (dep : Nat), zlr l dep = some 1 → zlok l dep
  | [], dep, h => by
    have : dep = 1 := by simpa [zlr] using h
    exact this
  | (d, v) :: r, dep, h => by
    unfold zlr at h
    unfold zlok
    simp only at h
    by_cases hv : v < 65536
    · rw [if_pos hv] at h
      refine ⟨hv, ?_⟩
      by_cases h1 : d ≤ 1
      · rw [if_pos h1] at h
        by_cases h8 : dep < 8
        · rw [if_pos h8] at h; exact Or.inl ⟨h1, h8, zlr_ok r _ h⟩
        · rw [if_neg h8] at h; cases h
      · rw [if_neg h1] at h
        by_cases h9 : d ≤ 9
        · rw [if_pos h9] at h
          by_cases h2 : 2 ≤ dep
          · rw [if_pos h2] at h; exact Or.inr (Or.inl ⟨by omega, h9, h2, zlr_ok r _ h⟩)
          · rw [if_neg h2] at h; cases h
        · rw [if_neg h9] at h
          by_cases hu : d ≤ 12 ∧ 1 ≤ dep ∧ (d = 11 → 1 ≤ v ∧ v ≤ 9)
          · rw [if_pos hu] at h; exact Or.inr (Or.inr ⟨by omega, hu.1, hu.2.1, hu.2.2, zlr_ok r _ h⟩)
          · rw [if_neg hu] at h; cases h
    · rw [if_neg hv] at h; cases h
theorem zlr_app : ∀ (l l2 : List (Nat × Nat)) (dep : Nat), zlr (l ++ l2) dep = (zlr l dep).bind (zlr l2)
  | [], l2, dep => rfl
  | q :: l, l2, dep => by
    show zlr (q :: (l ++ l2)) dep = _
    unfold zlr
    repeat' split
    all_goals first
      | rfl
      | exact zlr_app l l2 _
theorem zset_len : ∀ st : List (Nat × Nat), (zset st).1.length + (zset st).2.length ≤ st.length
  | [] => by simp [zset]
  | q :: r => by
    have := zset_len r
    unfold zset
    repeat' split
    · simp; omega
    · simp; omega
    · simp
theorem zset_ok : ∀ st : List (Nat × Nat), zsok st → zsok (zset st).2 ∧ znop (zset st).2 ≤ znop st ∧ ((zset st).2 = [] ∨ ∃ r, (zset st).2 = (13, 0) :: r) ∧ ∀ dep, znsg st ≤ dep → zlr (zset st).1 (dep + 1) = some (dep + 1 - znsg st + znsg (zset st).2)
  | [], _ => ⟨trivial, Nat.le_refl _, Or.inl rfl, fun dep hd => by simp [zset, zlr, znsg]⟩
  | (d, v) :: r, h => by
    obtain ⟨h1, h2⟩ := h
    obtain ⟨i1, i2, i3, i4⟩ := zset_ok r h2
    simp only at h1
    unfold zset
    simp only
    rcases h1 with ⟨a1, a2, a3, a4⟩ | ⟨a1, a2, a3, a4⟩
    · rw [if_neg (by omega), if_pos (by omega)]
      have hno : znop ((d, v) :: r) = znop r := by show (if 10 ≤ d then _ else _) = _; rw [if_neg (by omega)]
      have hns : znsg ((d, v) :: r) = znsg r + 1 := by show (if 10 ≤ d then _ else _) = _; rw [if_neg (by omega)]
      refine ⟨h2, by rw [hno]; exact Nat.le_refl _, ?_, fun dep hd => ?_⟩
      · rcases a4 with h | ⟨r', h⟩
        · exact Or.inl h
        · exact Or.inr ⟨r', h⟩
      · rw [hns] at hd ⊢
        show zlr [(d, v)] (dep + 1) = _
        unfold zlr
        simp only
        rw [if_pos (by omega), if_neg (by omega), if_pos (by omega), if_pos (by omega)]
        show some (dep + 1 - 1) = _
        congr 1
        omega
    · have hns : znsg ((d, v) :: r) = znsg r := by show (if 10 ≤ d then _ else _) = _; rw [if_pos (by omega)]
      have hno : znop ((d, v) :: r) = znop r + 1 := by show (if 10 ≤ d then _ else _) = _; rw [if_pos (by omega)]
      by_cases h12 : d ≤ 12
      · rw [if_pos (by omega)]
        refine ⟨i1, by rw [hno]; show znop (zset r).2 ≤ znop r + 1; omega, i3, fun dep hd => ?_⟩
        rw [hns] at hd ⊢
        show zlr ((d, v) :: (zset r).1) (dep + 1) = _
        rw [zlr]
        have hv : v < 65536 := by
          by_cases h11 : d = 11
          · have := a3 h11; omega
          · have := a4 h11; omega
        rw [if_pos hv, if_neg (by omega), if_neg (by omega), if_pos ⟨h12, by omega, a3⟩]
        exact i4 dep hd
      · rw [if_neg (by omega), if_neg (by omega)]
        have hd13 : d = 13 := by omega
        have hv0 := a4 (by omega)
        refine ⟨⟨Or.inr ⟨a1, a2, a3, a4⟩, h2⟩, Nat.le_refl _, Or.inr ⟨r, by rw [hd13, hv0]⟩, fun dep hd => ?_⟩
        show some (dep + 1) = _
        congr 1
        show dep + 1 = dep + 1 - znsg ((d, v) :: r) + znsg ((d, v) :: r)
        omega
theorem znsg_le : ∀ st : List (Nat × Nat), zsok st → znsg st ≤ znop st + 1 ∧ ((st = [] ∨ ∃ r, st = (13, 0) :: r) → znsg st ≤ znop st)
  | [], _ => ⟨by simp [znsg], fun _ => Nat.le_refl _⟩
  | (d, v) :: r, h => by
    obtain ⟨h1, h2⟩ := h
    obtain ⟨i1, i2⟩ := znsg_le r h2
    simp only at h1
    rcases h1 with ⟨a1, a2, a3, a4⟩ | ⟨a1, a2, a3, a4⟩
    · have hno : znop ((d, v) :: r) = znop r := by show (if 10 ≤ d then _ else _) = _; rw [if_neg (by omega)]
      have hns : znsg ((d, v) :: r) = znsg r + 1 := by show (if 10 ≤ d then _ else _) = _; rw [if_neg (by omega)]
      have := i2 a4
      rw [hno, hns]
      refine ⟨by omega, fun hh => ?_⟩
      rcases hh with hh | ⟨r', hh⟩
      · cases hh
      · cases hh; omega
    · have hno : znop ((d, v) :: r) = znop r + 1 := by show (if 10 ≤ d then _ else _) = _; rw [if_pos (by omega)]
      have hns : znsg ((d, v) :: r) = znsg r := by show (if 10 ≤ d then _ else _) = _; rw [if_pos (by omega)]
      rw [hno, hns]
      exact ⟨by omega, fun _ => i1⟩
/-- what holds between steps -/
def zLI (n : Nat) (s : zzL) : Prop := zsok s.2.2.1 ∧ znop s.2.2.1 ≤ 6 ∧ s.2.1.length + s.2.2.1.length ≤ s.2.2.2 ∧ s.2.2.2 ≤ n ∧ zlr s.2.1 0 = some (znsg s.2.2.1 + (if s.1 = true then 0 else 1)) ∧ (s.1 = false → s.2.2.1 = [] ∨ ∃ r, s.2.2.1 = (13, 0) :: r)
theorem zopn_c {c : Nat} (h : zopn c ≠ 0) : (c = 40 ∧ zopn c = 13) ∨ (c = 126 ∧ zopn c = 10) ∨ (c = 60 ∧ zopn c = 11) ∨ (c = 114 ∧ zopn c = 12) := by
  unfold zopn at h ⊢
  by_cases h1 : c = 40
  · exact Or.inl ⟨h1, if_pos h1⟩
  · rw [if_neg h1] at h ⊢
    by_cases h2 : c = 126
    · exact Or.inr (Or.inl ⟨h2, if_pos h2⟩)
    · rw [if_neg h2] at h ⊢
      by_cases h3 : c = 60
      · exact Or.inr (Or.inr (Or.inl ⟨h3, if_pos h3⟩))
      · rw [if_neg h3] at h ⊢
        by_cases h4 : c = 114
        · exact Or.inr (Or.inr (Or.inr ⟨h4, if_pos h4⟩))
        · rw [if_neg h4] at h; exact absurd rfl h
theorem zsd_c {c : Nat} (h : zsd c ≠ 0) : 2 ≤ zsd c ∧ zsd c ≤ 9 ∧ zsg (zsd c) = c := by
  unfold zsd at h ⊢
  repeat' split
  all_goals first
    | (subst_vars; decide)
    | (exfalso; simp_all; done)
theorem zLI_part {n : Nat} {code st : List (Nat × Nat)} {a b : Nat} {q : Nat × Nat} (h : zLI n (true, code, st, a)) (hq1 : q.1 ≤ 1) (hq2 : q.2 < 65536) (hab : a < b) (hb : b ≤ n) : zLI n (false, code ++ q :: (zset st).1, (zset st).2, b) := by
  obtain ⟨h1, h2, h3, h4, h5, h6⟩ := h
  obtain ⟨s1, s2, s3, s4⟩ := zset_ok st h1
  have hl := zset_len st
  have hns := (znsg_le st h1).1
  simp only at h2 h3 h4 h5 ⊢
  refine ⟨s1, by show znop (zset st).2 ≤ 6; omega, ?_, hb, ?_, fun _ => s3⟩
  · simp only [List.length_append, List.length_cons]; omega
  · rw [zlr_app, h5]
    show zlr (q :: (zset st).1) (znsg st + 0) = _
    rw [zlr, if_pos hq2, if_pos hq1, if_pos (by omega), s4 (znsg st + 0) (by omega)]
    congr 1
    show znsg st + 0 + 1 - znsg st + znsg (zset st).2 = znsg (zset st).2 + 1
    omega
theorem zLI_s {tp : List Nat} {n : Nat} {s s' : zzL} (hn : n ≤ 320) (h : zLI n s) (hs : zlst tp n s = .inr s') : zLI n s' ∧ s.2.2.2 < s'.2.2.2 := by
  obtain ⟨due, code, st, a⟩ := s
  obtain ⟨h1, h2, h3, h4, h5, h6⟩ := id h
  simp only at h1 h2 h3 h4 h5 h6
  unfold zlst at hs
  simp only at hs
  cases due with
  | true =>
    rw [if_pos rfl] at hs
    by_cases ho : a < n ∧ zopn (tp.getD a 0) ≠ 0
    · rw [if_pos ho] at hs
      by_cases h6' : znop st = 6
      · rw [if_pos h6'] at hs; cases hs
      · rw [if_neg h6'] at hs
        have hpush : ∀ d v b, 10 ≤ d → d ≤ 13 → (d = 11 → 1 ≤ v ∧ v ≤ 9) → (d ≠ 11 → v = 0) → a < b → b ≤ n → zLI n (true, code, (d, v) :: st, b) := fun d v b g1 g2 g3 g4 g5 g6 => by
          have hno : znop ((d, v) :: st) = znop st + 1 := by show (if 10 ≤ d then _ else _) = _; rw [if_pos g1]
          have hns : znsg ((d, v) :: st) = znsg st := by show (if 10 ≤ d then _ else _) = _; rw [if_pos g1]
          refine ⟨⟨Or.inr ⟨g1, g2, g3, g4⟩, h1⟩, ?_, ?_, g6, ?_, fun hh => by cases hh⟩
          · show znop ((d, v) :: st) ≤ 6
            omega
          · show code.length + (st.length + 1) ≤ b
            omega
          · show zlr code 0 = some (znsg ((d, v) :: st) + 0)
            rw [hns]; exact h5
        by_cases hlt : tp.getD a 0 = 60
        · rw [if_pos hlt] at hs
          by_cases hdg : zdig tp n (a + 1) = true
          · rw [if_pos hdg] at hs
            obtain ⟨e1, e2, e3⟩ := zdig_t hdg
            by_cases h48 : tp.getD (a + 1) 0 = 48
            · rw [if_pos h48] at hs; cases hs
            · rw [if_neg h48] at hs
              cases hs
              exact ⟨hpush _ _ _ (by omega) (by omega) (fun _ => by omega) (fun hh => absurd rfl hh) (by omega) (by omega), by show a < a + 2; omega⟩
          · rw [if_neg hdg] at hs; cases hs
        · rw [if_neg hlt] at hs
          cases hs
          have hc := zopn_c ho.2
          exact ⟨hpush _ _ _ (by omega) (by omega) (fun hh => by omega) (fun _ => rfl) (by omega) (by omega), by show a < a + 1; omega⟩
    · rw [if_neg ho] at hs
      by_cases hk : a < n ∧ tp.getD a 0 = 107
      · rw [if_pos hk] at hs
        cases hs
        exact ⟨zLI_part h (by decide) (by decide) (by omega) (by omega), by show a < a + 1; omega⟩
      · rw [if_neg hk] at hs
        cases hz : znm tp n 0 65535 a with
        | inl g => rw [hz] at hs; cases hs
        | inr p =>
          rw [hz] at hs
          cases hs
          obtain ⟨p1, p2, p3, p4, p5⟩ := znm_r (v := p.1) (b := p.2) hz
          exact ⟨zLI_part h (by show 0 ≤ 1; omega) (by show p.1 < 65536; omega) p3 p4, p3⟩
  | false =>
    rw [if_neg (by decide)] at hs
    by_cases hd : a < n ∧ zsd (tp.getD a 0) ≠ 0
    · rw [if_pos hd] at hs
      cases hs
      obtain ⟨d1, d2, d3⟩ := zsd_c hd.2
      have h6 := h6 rfl
      have hno : znop ((zsd (tp.getD a 0), 0) :: st) = znop st := by show (if 10 ≤ zsd (tp.getD a 0) then _ else _) = _; rw [if_neg (by omega)]
      have hns : znsg ((zsd (tp.getD a 0), 0) :: st) = znsg st + 1 := by show (if 10 ≤ zsd (tp.getD a 0) then _ else _) = _; rw [if_neg (by omega)]
      refine ⟨⟨⟨Or.inl ⟨d1, d2, rfl, h6⟩, h1⟩, ?_, ?_, ?_, ?_, fun hh => by cases hh⟩, by show a < a + 1; omega⟩
      · show znop ((zsd (tp.getD a 0), 0) :: st) ≤ 6
        omega
      · show code.length + (st.length + 1) ≤ a + 1
        omega
      · show a + 1 ≤ n
        omega
      · show zlr code 0 = some (znsg ((zsd (tp.getD a 0), 0) :: st) + 0)
        rw [hns]; exact h5
    · rw [if_neg hd] at hs
      by_cases hb : a < n ∧ tp.getD a 0 = 41 ∧ 0 < znop st
      · rw [if_pos hb] at hs
        cases hs
        refine ⟨?_, by show a < a + 1; omega⟩
        rcases h6 rfl with hh | ⟨r, hh⟩
        · rw [hh] at hb; simp [znop] at hb
        · subst hh
          obtain ⟨-, hr⟩ := h1
          obtain ⟨s1, s2, s3, s4⟩ := zset_ok r hr
          have hl := zset_len r
          have hno : znop ((13, 0) :: r) = znop r + 1 := rfl
          have hns : znsg ((13, 0) :: r) = znsg r := rfl
          rw [hno] at h2
          rw [hns] at h5
          refine ⟨s1, ?_, ?_, ?_, ?_, fun _ => s3⟩
          · show znop (zset r).2 ≤ 6
            omega
          · show (code ++ (zset r).1).length + (zset r).2.length ≤ a + 1
            rw [List.length_append]
            simp only [List.length_cons] at h3
            omega
          · show a + 1 ≤ n
            omega
          · show zlr (code ++ (zset r).1) 0 = some (znsg (zset r).2 + 1)
            rw [zlr_app, h5]
            show zlr (zset r).1 (znsg r + 1) = _
            rw [s4 (znsg r) (Nat.le_refl _)]
            congr 1
            omega
      · rw [if_neg hb] at hs; cases hs
theorem zlst_l {tp : List Nat} {n : Nat} {s : zzL} {g : Int32} (hn : n ≤ 320) (ha : s.2.2.2 ≤ n) (hs : zlst tp n s = .inl g) : g ≠ 0 := by
  obtain ⟨due, code, st, a⟩ := s
  unfold zlst at hs
  simp only at hs ha
  repeat' split at hs
  all_goals first
    | (rw [← Sum.inl.inj hs]; exact zfc_ne (by omega) (by omega) (by omega))
    | (cases hz : znm tp n 0 65535 a with
       | inl g' => rw [hz] at hs; rw [← Sum.inl.inj hs]; exact znm_l (by omega) hz
       | inr p => rw [hz] at hs; cases hs)
    | (cases hs; done)
/-- more fuel than is needed changes nothing -/
theorem zlrn_f {tp : List Nat} {n : Nat} (hn : n ≤ 320) : ∀ (f : Nat) (s : zzL), zLI n s → n + 1 ≤ s.2.2.2 + f → zlrn tp n (f + 1) s = zlrn tp n f s
  | 0, s, h, hf => by have := h.2.2.2.1; omega
  | f + 1, s, h, hf => by
    show (if zlwh n s = true then .inr s.2.1 else zsb (zlst tp n s) (zlrn tp n (f + 1))) = (if zlwh n s = true then .inr s.2.1 else zsb (zlst tp n s) (zlrn tp n f))
    by_cases hw : zlwh n s = true
    · rw [if_pos hw, if_pos hw]
    · rw [if_neg hw, if_neg hw]
      cases hz : zlst tp n s with
      | inl g => rfl
      | inr s' =>
        obtain ⟨i1, i2⟩ := zLI_s hn h hz
        exact zlrn_f hn f s' i1 (by omega)
theorem zlrn_ge {tp : List Nat} {n : Nat} (hn : n ≤ 320) {s : zzL} (h : zLI n s) {f : Nat} (hf : n + 1 ≤ s.2.2.2 + f) : ∀ d, zlrn tp n (f + d) s = zlrn tp n f s
  | 0 => rfl
  | d + 1 => by
    rw [show f + (d + 1) = (f + d) + 1 by omega, zlrn_f hn (f + d) s h (by omega)]
    exact zlrn_ge hn h hf d
def zLR (tp : List Nat) (n : Nat) (s : zzL) : Int32 ⊕ List (Nat × Nat) := zlrn tp n (n + 1 - s.2.2.2) s
theorem zLR_s {tp : List Nat} {n : Nat} (hn : n ≤ 320) {s : zzL} (h : zLI n s) : zLR tp n s = if zlwh n s = true then .inr s.2.1 else zsb (zlst tp n s) (zLR tp n) := by
  have ha := h.2.2.2.1
  unfold zLR
  rw [show n + 1 - s.2.2.2 = (n - s.2.2.2) + 1 by omega]
  show (if zlwh n s = true then .inr s.2.1 else zsb (zlst tp n s) (zlrn tp n (n - s.2.2.2))) = _
  by_cases hw : zlwh n s = true
  · rw [if_pos hw, if_pos hw]
  · rw [if_neg hw, if_neg hw]
    cases hz : zlst tp n s with
    | inl g => rfl
    | inr s' =>
      obtain ⟨i1, i2⟩ := zLI_s hn h hz
      have hb := i1.2.2.2.1
      show zlrn tp n (n - s.2.2.2) s' = zlrn tp n (n + 1 - s'.2.2.2) s'
      rw [show n - s.2.2.2 = (n + 1 - s'.2.2.2) + (n - s.2.2.2 - (n + 1 - s'.2.2.2)) by omega]
      exact zlrn_ge hn i1 (by omega) _
