/-! ===== a split that is torn: what is counted ===== -/
def zwr (W : List Nat) (w p : Nat) : Bool := decide (p ∈ W.take w)
noncomputable def zsi (A : zzA) (i : Nat) : Nat := (((zA_E A (zA_pt A)).take i).filter (fun q => !zgo A q)).length
noncomputable def zpre (A : zzA) (i : Nat) : Nat := (zA_G A (zA_pt A)).getD (i / zA_c A) 0
noncomputable def zpst (A : zzA) (i : Nat) : Nat := if zgo A ((zA_E A (zA_pt A)).getD i (0, 0)) = true then (zspG A (zA_B A)).getD ((i - zsi A i) / zA_c A) 0 else (zspG A (zA_pt A)).getD (zsi A i / zA_c A) 0
noncomputable def zahd (A : zzA) (k : Nat) : Nat := if k = 0 then zA_pt A else zA_B A
noncomputable def zoth (A : zzA) (k : Nat) : Nat := if k = 0 then zA_B A else zA_pt A
noncomputable def zTW (A : zzA) (k : Nat) : List Nat := zspG A (zahd A k) ++ zspG A (zoth A k)
noncomputable def zhit (A : zzA) (k w u i : Nat) : Bool := if u = 1 then (!zwr (zTW A k) w (zpre A i) && zwr (zTW A k) w (zpst A i)) else (zwr (zTW A k) w (zpre A i) && !zwr (zTW A k) w (zpst A i))
theorem zmem_take {W : List Nat} (hn : W.Nodup) {j p : Nat} (h : W[j]? = some p) (w : Nat) : zwr W w p = decide (j < w) := by
  unfold zwr
  by_cases hj : j < w
  · rw [decide_eq_true hj, decide_eq_true]
    exact List.mem_of_getElem? (i := j) (by rw [List.getElem?_take, if_pos hj]; exact h)
  · rw [decide_eq_false hj, decide_eq_false]
    intro hm
    obtain ⟨j', hj'⟩ := List.getElem?_of_mem hm
    rw [List.getElem?_take] at hj'
    by_cases h2 : j' < w
    · rw [if_pos h2] at hj'
      obtain ⟨l1, e1⟩ := List.getElem?_eq_some_iff.mp h
      obtain ⟨l2, e2⟩ := List.getElem?_eq_some_iff.mp hj'
      have := (List.getElem_inj hn).mp (e1.trans e2.symm)
      omega
    · rw [if_neg h2] at hj'; cases hj'
theorem zwr_no {W : List Nat} {p : Nat} (h : p ∉ W) (w : Nat) : zwr W w p = false := by
  unfold zwr
  exact decide_eq_false (fun hm => h (List.mem_of_mem_take hm))
theorem zfltg {α : Type} {p : α → Bool} : ∀ (L : List α) (i : Nat) (q : α), L[i]? = some q → p q = true → (L.filter p)[((L.take i).filter p).length]? = some q
  | [], i, q, h, _ => by simp at h
  | x :: L, 0, q, h, hq => by
    have h : x = q := by simpa using h
    subst h
    rw [List.filter_cons_of_pos hq]; rfl
  | x :: L, i + 1, q, h, hq => by
    have h : L[i]? = some q := by simpa using h
    have ih := zfltg L i q h hq
    rw [List.take_succ_cons]
    by_cases hx : p x = true
    · rw [List.filter_cons_of_pos hx, List.filter_cons_of_pos hx, List.length_cons, List.getElem?_cons_succ]; exact ih
    · rw [List.filter_cons_of_neg hx, List.filter_cons_of_neg hx]; exact ih
theorem zfilt_two {α : Type} (p : α → Bool) : ∀ (L : List α), (L.filter p).length + (L.filter (fun x => !p x)).length = L.length
  | [] => rfl
  | x :: L => by
    have ih := zfilt_two p L
    cases hx : p x with
    | true =>
      rw [List.filter_cons_of_pos hx, List.filter_cons_of_neg (by rw [hx]; decide), List.length_cons, List.length_cons]; omega
    | false =>
      rw [List.filter_cons_of_neg (by rw [hx]; decide), List.filter_cons_of_pos (by rw [hx]; rfl), List.length_cons, List.length_cons]; omega
section TO
variable {N : Nat} {A : zzA}
theorem zL_get {i : Nat} (h : i < (zA_E A (zA_pt A)).length) : (zA_E A (zA_pt A))[i]? = some ((zA_E A (zA_pt A)).getD i (0, 0)) := by
  rw [List.getD_eq_getElem?_getD, List.getElem?_eq_getElem h]; rfl
theorem zsi_0 : zsi A 0 = 0 := rfl
theorem zsi_s {i : Nat} (h : i < (zA_E A (zA_pt A)).length) : zsi A (i + 1) = zsi A i + (if zgo A ((zA_E A (zA_pt A)).getD i (0, 0)) = true then 0 else 1) := by
  unfold zsi
  rw [List.take_succ, zL_get h, List.filter_append, List.length_append]
  congr 1
  show (List.filter _ [_]).length = _
  by_cases hg : zgo A ((zA_E A (zA_pt A)).getD i (0, 0)) = true
  · rw [if_pos hg, List.filter_cons_of_neg (by rw [hg]; decide)]; rfl
  · have hg' : zgo A ((zA_E A (zA_pt A)).getD i (0, 0)) = false := by simpa using hg
    rw [if_neg hg, List.filter_cons_of_pos (by rw [hg']; rfl)]; rfl
theorem zsi_g {i : Nat} (h : i ≤ (zA_E A (zA_pt A)).length) : (((zA_E A (zA_pt A)).take i).filter (zgo A)).length = i - zsi A i ∧ zsi A i ≤ i := by
  have := zfilt_two (zgo A) ((zA_E A (zA_pt A)).take i)
  rw [List.length_take, Nat.min_eq_left h] at this
  unfold zsi
  omega
theorem zspE_p (hW : zWF N A) : zspE A (zA_pt A) = zsta A := by
  have hp := hW.ptB
  unfold zspE; rw [zupd_ne (by omega), zupd_eq]
theorem zspE_B : zspE A (zA_B A) = zgon A := by unfold zspE; rw [zupd_eq]
/-- where the entry i stands when it is split -/
noncomputable def zwb (A : zzA) (i : Nat) : Nat := if zgo A ((zA_E A (zA_pt A)).getD i (0, 0)) = true then zA_B A else zA_pt A
noncomputable def zwi (A : zzA) (i : Nat) : Nat := if zgo A ((zA_E A (zA_pt A)).getD i (0, 0)) = true then i - zsi A i else zsi A i
theorem zw_at (hW : zWF N A) {i : Nat} (h : i < (zA_E A (zA_pt A)).length) : (zspE A (zwb A i))[zwi A i]? = some ((zA_E A (zA_pt A)).getD i (0, 0)) := by
  unfold zwb zwi
  by_cases hg : zgo A ((zA_E A (zA_pt A)).getD i (0, 0)) = true
  · rw [if_pos hg, if_pos hg, zspE_B, ← (zsi_g (Nat.le_of_lt h)).1]
    exact zfltg _ i _ (zL_get h) hg
  · have hg' : zgo A ((zA_E A (zA_pt A)).getD i (0, 0)) = false := by simpa using hg
    rw [if_neg hg, if_neg hg, zspE_p hW]
    exact zfltg (p := fun q => !zgo A q) _ i _ (zL_get h) (by rw [hg']; rfl)
theorem zcap_get {G : Nat → List Nat} {E : Nat → List (Nat × Nat)} {c b i : Nat} (hcap : (E b).length ≤ c * (G b).length) (hi : i < (E b).length) : (G b)[i / c]? = some ((G b).getD (i / c) 0) := zgetD (Nat.div_lt_of_lt_mul (by omega))
theorem zpre_get (hW : zWF N A) {i : Nat} (h : i < (zA_E A (zA_pt A)).length) : (zA_G A (zA_pt A))[i / zA_c A]? = some (zpre A i) := zcap_get (E := zA_E A) (hW.cap _) h
theorem zpst_get (hW : zWF N A) (hB : zA_B A < 64) {i : Nat} (h : i < (zA_E A (zA_pt A)).length) : (zspG A (zwb A i))[zwi A i / zA_c A]? = some (zpst A i) := by
  have hl := (List.getElem?_eq_some_iff.mp (zw_at hW h)).1
  have hcap : (zspE A (zwb A i)).length ≤ zA_c A * (zspG A (zwb A i)).length := (zspl_wf hW hB).cap (zwb A i)
  have := zcap_get (E := zspE A) hcap hl
  rw [this]
  unfold zpst zwb zwi
  by_cases hg : zgo A ((zA_E A (zA_pt A)).getD i (0, 0)) = true
  · rw [if_pos hg, if_pos hg, if_pos hg]
  · rw [if_neg hg, if_neg hg, if_neg hg]
theorem zspG_ok (hW : zWF N A) (hB : zA_B A < 64) : zGok (zspG A) := (zspl_wf hW hB).gok
theorem zao (hW : zWF N A) (k : Nat) : zahd A k ≠ zoth A k ∧ zahd A k ≤ zA_B A ∧ zoth A k ≤ zA_B A ∧ (zahd A k = zA_pt A ∨ zahd A k = zA_B A) ∧ ∀ b, (b = zA_pt A ∨ b = zA_B A) ↔ (b = zahd A k ∨ b = zoth A k) := by
  have hp := hW.ptB
  unfold zahd zoth
  by_cases hk : k = 0
  · rw [if_pos hk, if_pos hk]; exact ⟨by omega, by omega, by omega, Or.inl rfl, fun b => Iff.rfl⟩
  · rw [if_neg hk, if_neg hk]; exact ⟨by omega, by omega, by omega, Or.inr rfl, fun b => Or.comm⟩
theorem zTW_nd (hW : zWF N A) (hB : zA_B A < 64) (k : Nat) : (zTW A k).Nodup := by
  have hG := zspG_ok hW hB
  refine List.nodup_append.mpr ⟨hG.2.1 _, hG.2.1 _, ?_⟩
  intro a ha b hb hab
  subst hab
  exact (zao hW k).1 (hG.2.2 _ _ a ha hb)
theorem zTW_256 (hW : zWF N A) (hB : zA_B A < 64) (k : Nat) : ∀ p ∈ zTW A k, p < 256 := fun p hp => by
  have hG := zspG_ok hW hB
  rcases List.mem_append.mp hp with h | h
  · exact hG.1 _ p h
  · exact hG.1 _ p h
theorem zTW_len (hW : zWF N A) (hB : zA_B A < 64) (k : Nat) : (zTW A k).length ≤ 256 := by
  have : zcnt (fun p => decide (p ∈ zTW A k)) 256 = (zTW A k).length := zcnt_list (zTW_nd hW hB k) (fun x => ⟨fun h1 => ⟨zTW_256 hW hB k x h1, by simp [h1]⟩, fun h => by simpa using h.2⟩)
  rw [← this]; exact zcnt_le _ _
theorem ifzb {α : Type} {a b : Bool} {x y : α} : (if zb a = zb b then x else y) = if a = b then x else y := by
  cases a <;> cases b <;> first | rw [if_pos rfl, if_pos rfl] | rw [if_neg (by decide), if_neg (by decide)]
/-! the class -/
theorem cWritten {M : zzMem} {k w p : Nat} (hW : zWF N A) (hB : zA_B A < 64) (h52 : zCh M 56 (zA_c A) (zA_h (zspl A)) (zspE A) (zspG A)) (h12 : zCi M 12 A) (hp : p < 256) (hw : w < 2147483648) : f_X9_isWritten (nI p) (nI (zahd A k)) (nI w) M = some (zwr (zTW A k) w p) := by
  have hG := zspG_ok hW hB
  have hnd := zTW_nd hW hB k
  obtain ⟨a1, a2, a3, a4, a5⟩ := zao hW k
  have hs := hW.sB
  have hpt := hW.ptB
  have h9 : M.1 12 9 = nI (zA_pt A) := h12.2.2.2.2.2.1
  have hsB : zA_s A + zA_pt A = zA_B A := rfl
  unfold f_X9_isWritten
  rw [ifm1 (by omega)]
  simp only [zbd]
  rw [h9, cSpan hW h12, nIadd, hsB]
  simp (disch := omega) only [zgd_in, nIc]
  rcases zown_cases hG p with ⟨-, hn⟩ | ⟨b, i, hb, hi, -⟩
  · have h57 : M.1 57 p = (-1 : Int32) := h52.2.2.2.2.1 p hp hn
    rw [h57, if_neg (fun h => nI_nm1 (show zA_pt A < 2147483648 by omega) h.symm), if_neg (fun h => nI_nm1 (show zA_B A < 2147483648 by omega) h.symm), zwr_no]
    intro hm
    rcases List.mem_append.mp hm with h | h
    · exact hn _ (by omega) h
    · exact hn _ (by omega) h
  · obtain ⟨h57, h58, -⟩ := h52.2.2.2.2.2.1 b hb i p hi
    have h57 : M.1 57 p = nI b := h57
    have h58 : M.1 58 p = nI i := h58
    have h65 : M.1 65 (zahd A k) = nI (zspG A (zahd A k)).length := h52.2.1 _ (by omega)
    have hl := hG.len (zahd A k)
    have hil := (List.getElem?_eq_some_iff.mp hi).1
    have hl2 := hG.len b
    have h76 : ∀ s, s ≤ 256 → j_X9_isWritten_76 (nI p) (nI w) (nI s) M = some (decide (s + i < w)) := by
      intro s hs
      unfold j_X9_isWritten_76
      simp (disch := omega) only [zgd_in, nIc]
      rw [h58, nIadd]
      by_cases hh : s + i < w
      · rw [ifLe_f hh hw, decide_eq_true hh]
      · rw [ifLe_t (by omega) (by omega), decide_eq_false hh]
    rw [h57]
    by_cases hba : b = zahd A k ∨ b = zoth A k
    · have hj : j_X9_isWritten_54 (nI p) (nI (zahd A k)) (nI w) (nI b) M = some (zwr (zTW A k) w p) := by
        unfold j_X9_isWritten_54
        by_cases hb1 : b = zahd A k
        · rw [ifEq_t hb1, h76 0 (by omega), zmem_take (j := i) hnd (by
            unfold zTW
            rw [hb1] at hil hi
            rw [List.getElem?_append_left hil]; exact hi), Nat.zero_add]
        · have hb2 : b = zoth A k := by rcases hba with h | h; exact absurd h hb1; exact h
          rw [ifEq_f hb1 (by omega) (by omega)]
          simp (disch := omega) only [zgd_in, nIc]
          rw [h65, h76 _ hl, zmem_take (j := (zspG A (zahd A k)).length + i) hnd (by
            unfold zTW
            rw [hb2] at hi
            rw [List.getElem?_append_right (by omega), Nat.add_sub_cancel_left]; exact hi)]
      rw [hj]
      by_cases hbp : b = zA_pt A
      · rw [ifEq_t hbp]
      · have hbB : b = zA_B A := by rcases (a5 b).mpr hba with h | h; exact absurd h hbp; exact h
        rw [ifEq_f hbp (by omega) (by omega), ifEq_t hbB]
    · have hn : ¬ (b = zA_pt A ∨ b = zA_B A) := fun h => hba ((a5 b).mp h)
      rw [ifEq_f (fun h => hn (Or.inl h)) (by omega) (by omega), ifEq_f (fun h => hn (Or.inr h)) (by omega) (by omega), zwr_no]
      intro hm
      have hpb := List.mem_of_getElem? hi
      rcases List.mem_append.mp hm with h | h
      · exact hba (Or.inl (hG.2.2 _ _ p hpb h))
      · exact hba (Or.inr (hG.2.2 _ _ p hpb h))
theorem c263 {M : zzMem} {v2 v4 v5 v6 x1 v11 : Int32} {u cnt i : Nat} {ws wa : Bool} (hu : u ≤ 1) (hw : f_X9_isWritten v11 v6 v2 M = some wa) : j_X9_torn_263 v2 (nI u) v4 v5 v6 (nI cnt) x1 (nI i) v11 ws M = some (.inl (nI (cnt + (if (if u = 1 then ws && wa else !ws && !wa) = true then 1 else 0)), x1, nI (i + 1))) := by
  unfold j_X9_torn_263 j_X9_torn_295
  rw [hw, Option.bind_some]
  simp only [ifzb, zbd, nIadd]
  rcases (show u = 0 ∨ u = 1 by omega) with rfl | rfl
  · rw [ifEq_f (by omega) (by omega) (by omega)]
    cases ws <;> cases wa <;> simp
  · rw [ifEq_t rfl]
    cases ws <;> cases wa <;> simp
set_option maxHeartbeats 1000000 in
theorem c133 {M : zzMem} {k w u cnt i : Nat} (hW : zWF N A) (hB : zA_B A < 64) (hi : i < (zA_E A (zA_pt A)).length) (hu : u ≤ 1) (hw : w < 2147483648) (h12 : zRC M 12 A) (h52 : zRC M 52 (zspl A)) (hh : M.1 56 10 = nI (zA_E A (zA_pt A)).length) (hh2 : ∀ i q, (zA_E A (zA_pt A))[i]? = some q → M.2 66 i = zen (zA_h A) q) : b_X9_torn_133 (nI w) (nI u) (nI (zA_pt A)) (nI (zA_B A)) (nI (zahd A k)) (nI cnt) (nI (zsi A i)) (nI i) M = some (.inl (nI (cnt + (if zhit A k w u i = true then 1 else 0)), nI (zsi A (i + 1)), nI (i + 1))) := by
  have hs := hW.sB
  have hpt := hW.ptB
  have hc := hW.c2
  have hlen := hW.2.2.2.2.2.2.2.2.1.1
  have he := hW.e300 (zA_pt A)
  have hW2 := zspl_wf hW hB
  have hG2 := zspG_ok hW hB
  have hch : zCh M 56 (zA_c A) (zA_h (zspl A)) (zspE A) (zspG A) := h52.2.2.1
  have hch1 : zCh M 16 (zA_c A) (zA_h A) (zA_E A) (zA_G A) := h12.2.2.1
  have hr2 : M.1 56 11 = nI (zA_c A) := h52.1.2.2.2.2.2.2.2.2.2.2.2
  have hr1 : M.1 16 11 = nI (zA_c A) := h12.1.2.2.2.2.2.2.2.2.2.2.2
  have hq := zL_get hi
  have hsi := (zsi_g (Nat.le_of_lt hi)).2
  have hgo := cGoes (o := 12) hW h12.1 hW rfl rfl (hW.ent _ _ (List.mem_of_getElem? hq))
  have hwat := zw_at hW hi
  have hwl := (List.getElem?_eq_some_iff.mp hwat).1
  have hpg := zpst_get hW hB hi
  have hpr := zpre_get hW hi
  have hp256 : zpst A i < 256 := hG2.1 _ _ (List.mem_of_getElem? hpg)
  have hr256 : zpre A i < 256 := hW.gok.1 _ _ (List.mem_of_getElem? hpr)
  have hpre : f_X0_pageOfKey 16 (nI (zA_pt A)) (nI i) M = some (nI (zpre A i)) := by
    rw [cPageOfKey hch1 hW.gok hr1 (by omega) hc.2 hpt.2 (by omega) (by omega), if_pos hi, hpr]; rfl
  have hpost : ∀ b j, b < 64 → zwb A i = b → zwi A i = j → f_X0_pageOfKey 56 (nI b) (nI j) M = some (nI (zpst A i)) := by
    intro b j hb h1 h2
    rw [h1, h2] at hpg
    rw [h1, h2] at hwl
    have h3 : (zspE A b).length ≤ (zA_S (zspl A)).length := hW2.e300 b
    have h4 : (zA_S (zspl A)).length ≤ 300 := hW2.2.2.2.2.2.2.2.2.1.1
    rw [cPageOfKey hch hG2 hr2 (by omega) hc.2 hb (by omega) (by omega), if_pos hwl, hpg]; rfl
  have hw1 := cWritten (k := k) hW hB hch h12.1 hr256 hw
  have hw2 := cWritten (k := k) hW hB hch h12.1 hp256 hw
  have h231 : ∀ s ws, s = zsi A i → (if ws = true then 1 else 0) = (if zgo A ((zA_E A (zA_pt A)).getD i (0, 0)) = true then 0 else 1) → j_X9_torn_231 (nI w) (nI u) (nI (zA_pt A)) (nI (zA_B A)) (nI (zahd A k)) (nI cnt) (nI i) (nI (zpst A i)) (nI s) ws M = some (.inl (nI (cnt + (if zhit A k w u i = true then 1 else 0)), nI (zsi A (i + 1)), nI (i + 1))) := by
    intro s ws hs hws
    have hx : nI s + zb ws = nI (zsi A (i + 1)) := by
      rw [zsi_s hi, ← hws, hs]
      cases ws
      · rw [zb_f, nIadd]; rfl
      · rw [zb_t, nIadd]; rfl
    unfold j_X9_torn_231
    simp only [zbd]
    rw [hx, hpre, Option.bind_some, hw1, Option.bind_some]
    unfold zhit
    cases hb : zwr (zTW A k) w (zpre A i) with
    | true =>
      rw [if_pos rfl, c263 hu hw2]
      simp only [Bool.not_true, Bool.false_and, Bool.true_and, Bool.not_false]
    | false =>
      rw [if_neg (by decide), c263 hu hw2]
      simp only [Bool.not_true, Bool.false_and, Bool.true_and, Bool.not_false]
  unfold b_X9_torn_133
  rw [hh, ifLe_f hi (by omega)]
  simp (disch := omega) only [zgd_in, nIc]
  rw [hh2 i _ hq, hgo, Option.bind_some]
  unfold j_X9_torn_176 j_X9_torn_217
  cases hg : zgo A ((zA_E A (zA_pt A)).getD i (0, 0)) with
  | true =>
    have h1 : zwb A i = zA_B A := by unfold zwb; rw [if_pos hg]
    have h2 : zwi A i = i - zsi A i := by unfold zwi; rw [if_pos hg]
    simp only [if_true, Bool.false_eq_true, if_false]
    rw [nIsub hsi, hpost _ _ hB h1 h2, Option.bind_some]
    exact h231 (zsi A i) false rfl (by rw [hg]; rfl)
  | false =>
    have h1 : zwb A i = zA_pt A := by unfold zwb; rw [if_neg (by rw [hg]; decide)]
    have h2 : zwi A i = zsi A i := by unfold zwi; rw [if_neg (by rw [hg]; decide)]
    simp only [if_true, Bool.false_eq_true, if_false]
    rw [hpost _ _ hpt.2 h1 h2, Option.bind_some]
    exact h231 (zsi A i) true rfl (by rw [hg]; rfl)
theorem cTorn {M : zzMem} {k w u : Nat} (hW : zWF N A) (hB : zA_B A < 64) (hk : k ≤ 1) (hu : u ≤ 1) (hw : w < 2147483648) (h : zRC M 12 A) : ∃ M', f_X9_torn (nI k) (nI w) (nI u) M = some (if w ≤ (zTW A k).length then nI (zcnt (zhit A k w u) (zA_E A (zA_pt A)).length) else (-4 : Int32), M') ∧ zFr (zcpS 52) M M' := by
  have hs := hW.sB
  have hpt := hW.ptB
  have hlen := hW.2.2.2.2.2.2.2.2.1.1
  have he := hW.e300 (zA_pt A)
  have hink : f_X9_within (nI k) (nI 0) (nI 1) = true := by rw [in_nI (by omega) (by omega) (by omega)]; simp; omega
  have hinu : f_X9_within (nI u) (nI 0) (nI 1) = true := by rw [in_nI (by omega) (by omega) (by omega)]; simp; omega
  obtain ⟨M5, c1, c2, c3⟩ := cCopy (o := 52) (p := 12) (by omega) hW h
  obtain ⟨M8, d1, d2, d3, d4, d5⟩ := cDivide (o := 52) hW c2 hB
  have fM : zFr (zcpS 52) M M8 := c3.trans d3
  have h12 : zRC M8 12 A := h.frS fM (by intro k i; unfold zcpS; omega)
  have h9 : M8.1 12 9 = nI (zA_pt A) := h12.1.2.2.2.2.2.1
  have hsB : zA_s A + zA_pt A = zA_B A := rfl
  have h65 : ∀ b, b < 64 → M8.1 65 b = nI (zspG A b).length := fun b hb => d2.2.2.1.2.1 b hb
  have hG2 := zspG_ok hW hB
  have hl1 := hG2.len (zA_pt A)
  have hl2 := hG2.len (zA_B A)
  have hTl : (zTW A k).length = (zspG A (zA_pt A)).length + (zspG A (zA_B A)).length := by
    unfold zTW zahd zoth
    by_cases h0 : k = 0
    · rw [if_pos h0, if_pos h0, List.length_append]
    · rw [if_neg h0, if_neg h0, List.length_append]; omega
  refine ⟨M8, ?_, fM⟩
  have hrun : j_X9_torn_122 (nI w) (nI u) (nI (zA_pt A)) (nI (zA_B A)) (nI (zahd A k)) M8 = some (nI (zcnt (zhit A k w u) (zA_E A (zA_pt A)).length), M8) := by
    unfold j_X9_torn_122 j_X9_torn_133
    refine zlp_for (B := fun s : (Int32 × Int32 × Int32) => b_X9_torn_133 (nI w) (nI u) (nI (zA_pt A)) (nI (zA_B A)) (nI (zahd A k)) s.1 s.2.1 s.2.2 M8) (fun i => (nI (zcnt (zhit A k w u) i), nI (zsi A i), nI i)) (zA_E A (zA_pt A)).length _ (fun i hi => ?_) ?_ 0 (by omega)
    · exact c133 hW hB hi hu hw h12 d2 d4 d5
    · show b_X9_torn_133 (nI w) (nI u) (nI (zA_pt A)) (nI (zA_B A)) (nI (zahd A k)) _ _ (nI (zA_E A (zA_pt A)).length) M8 = _
      unfold b_X9_torn_133
      have d4 : M8.1 56 10 = nI (zA_E A (zA_pt A)).length := d4
      rw [d4, ifLe_t (Nat.le_refl _) (by omega)]
  unfold f_X9_torn
  rw [if_pos hink, if_neg (nI_pos hw), if_pos hinu, cFull hW h.1, decide_eq_false (by omega), if_neg (by decide), c1, Option.bind_some, d1]
  simp only [Option.bind_some, zpr, zbd]
  rw [h9, cSpan hW h12.1, nIadd, hsB]
  simp (disch := omega) only [zgd_in, nIc, h65, nIadd]
  rw [hTl]
  by_cases hwl : w ≤ (zspG A (zA_pt A)).length + (zspG A (zA_B A)).length
  · rw [ifLe_t hwl (by omega), if_pos hwl, ← hrun]
    unfold zahd
    by_cases h0 : k = 0
    · rw [ifE0_t h0, if_pos h0]
    · rw [ifE0_f (by omega) (by omega), if_neg h0]
  · rw [ifLe_f (by omega) hw, if_neg hwl]
end TO
