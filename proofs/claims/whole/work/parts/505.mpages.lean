/-! ===== the reference: pages taken, freed, as many as are needed ===== -/
section MP
variable {M : zzMem} {G : Nat → List Nat}
def zpgS : Nat → Nat → Prop := fun k i => k = 74 ∧ 1240 ≤ i ∧ i < 1752
theorem zMp0 (h : zMp M 0 G) : (∀ p, p < 256 → (∀ b, b < 64 → p ∉ G b) → M.1 74 (1240 + p) = (-1 : Int32)) ∧ ∀ b, b < 64 → ∀ i p, (G b)[i]? = some p → M.1 74 (1240 + p) = nI b ∧ M.1 74 (1496 + p) = nI i := by
  have h1 := h.1
  have h2 := h.2
  simp only [Nat.zero_add] at h1 h2
  exact ⟨h1, h2⟩
theorem zMp_of (h : (∀ p, p < 256 → (∀ b, b < 64 → p ∉ G b) → M.1 74 (1240 + p) = (-1 : Int32)) ∧ ∀ b, b < 64 → ∀ i p, (G b)[i]? = some p → M.1 74 (1240 + p) = nI b ∧ M.1 74 (1496 + p) = nI i) : zMp M 0 G := by
  refine ⟨fun p hp hn => ?_, fun b hb i p hi => ?_⟩
  · rw [Nat.zero_add]; exact h.1 p hp hn
  · rw [Nat.zero_add, Nat.zero_add]; exact h.2 b hb i p hi
theorem mTakes {b : Nat} (hm : zMp M 0 G) (hf : zfree1 G (zfp G)) (hn : ∀ b, zfp G ∉ G b) (hG : zGok G) (hb : b < 64) : ∃ M', f_X10_takesPage (nI b) (nI (G b).length) M = some M' ∧ zMp M' 0 (zpush G b) ∧ zFr zpgS M M' := by
  obtain ⟨h1, h2⟩ := zMp0 hm
  have hp := hf.1
  generalize hpd : zfp G = p at hf hn hp
  refine ⟨zz_si (zz_si M 74 (1240 + p) (nI b)) 74 (1496 + p) (nI (G b).length), ?_, zMp_of ⟨fun r hr hnr => ?_, fun x hx i r hi => ?_⟩, (zFr.si ⟨rfl, by omega, by omega⟩).trans (zFr.si ⟨rfl, by omega, by omega⟩)⟩
  · unfold f_X10_takesPage j_X10_takesPage_2
    refine zlp_for (B := fun s : Int32 => b_X10_takesPage_2 (nI b) (nI (G b).length) s M) (fun t => nI t) p _ (fun t ht => ?_) ?_ 0 (by omega)
    · obtain ⟨x, hx, htx⟩ := hf.2.2 t ht
      obtain ⟨i, hi⟩ := List.getElem?_of_mem htx
      have ho := (h2 x hx i t hi).1
      unfold b_X10_takesPage_2
      simp (disch := omega) only [nIadd, zgd_in, nIc, ho, ifm1, zbd]
    · have ho := h1 p hp hf.2.1
      unfold b_X10_takesPage_2
      simp (disch := omega) only [nIadd, zgd_in, nIc, ho, if_true, zbd]
  · have hrp : r ≠ p := fun e => hnr b hb (by rw [zpush_eq, hpd, e]; simp)
    rw [rd_ne (by omega), rd_ne (by omega)]
    refine h1 r hr (fun x hx hrx => hnr x hx ?_)
    by_cases hxb : x = b
    · subst hxb; rw [zpush_eq]; simp [hrx]
    · rw [zpush_ne hxb]; exact hrx
  · by_cases hrp : r = p
    · subst hrp
      have hxb : x = b := by
        refine Classical.byContradiction (fun hh => ?_)
        rw [zpush_ne hh] at hi
        exact hn x (List.mem_of_getElem? hi)
      subst hxb
      rw [zpush_eq, hpd] at hi
      have hil := (List.getElem?_eq_some_iff.mp hi).1
      rw [List.length_append, List.length_singleton] at hil
      have him : i = (G x).length := by
        rcases Nat.lt_or_ge i (G x).length with hh | hh
        · rw [List.getElem?_append_left hh] at hi
          exact absurd (List.mem_of_getElem? hi) (hn x)
        · omega
      subst him
      refine ⟨by rw [rd_ne (by omega), rd_eq], by rw [rd_eq]⟩
    · have hr256 : r ≠ p := hrp
      have hi' : (G x)[i]? = some r := by
        by_cases hxb : x = b
        · subst hxb
          rw [zpush_eq, hpd] at hi
          rcases Nat.lt_or_ge i (G x).length with hh | hh
          · rw [List.getElem?_append_left hh] at hi; exact hi
          · rw [List.getElem?_append_right hh] at hi
            have := List.mem_of_getElem? hi
            simp at this
            exact absurd this hrp
        · rw [zpush_ne hxb] at hi; exact hi
      have hr := hG.1 x r (List.mem_of_getElem? hi')
      obtain ⟨q1, q2⟩ := h2 x hx i r hi'
      exact ⟨by rw [rd_ne (by omega), rd_ne (by omega)]; exact q1, by rw [rd_ne (by omega), rd_ne (by omega)]; exact q2⟩
theorem mFrees {b j : Nat} (hm : zMp M 0 G) (hG : zGok G) (hb : b < 64) (hj : j < 2147483648) : ∃ M', f_X10_freesPages (nI b) (nI j) M = some M' ∧ zMp M' 0 (zupd G b ((G b).take j)) ∧ zFr zpgS M M' := by
  obtain ⟨h1, h2⟩ := zMp0 hm
  have hGl := hG.len b
  let S : Nat → Nat → Prop := fun k i => k = 74 ∧ ∃ p, p ∈ (G b).drop j ∧ i = 1240 + p
  have hd256 : ∀ p, p ∈ (G b).drop j → p < 256 := fun p hp => hG.1 b p (List.mem_of_mem_drop hp)
  have hdix : ∀ i p, (G b)[i]? = some p → (p ∈ (G b).drop j ↔ j ≤ i) := by
    intro i p hi
    constructor
    · intro hp
      obtain ⟨t, ht⟩ := List.getElem?_of_mem hp
      rw [List.getElem?_drop] at ht
      have := (hG.at hi ht).2
      omega
    · intro hle
      refine List.mem_of_getElem? (i := i - j) ?_
      rw [List.getElem?_drop, show j + (i - j) = i by omega]; exact hi
  unfold f_X10_freesPages j_X10_freesPages_2
  have hZ := zlp_forI (B := fun s : (Int32 × zzMem) => b_X10_freesPages_2 (nI b) (nI j) s.1 s.2) (fun t X => (nI t, X)) (fun t X => zFr S M X ∧ (∀ p, t ≤ p → p < 256 → X.1 74 (1240 + p) = M.1 74 (1240 + p)) ∧ ∀ p, p < t → p ∈ (G b).drop j → X.1 74 (1240 + p) = (-1 : Int32)) 256 (fun X => zFr S M X ∧ ∀ p, p ∈ (G b).drop j → X.1 74 (1240 + p) = (-1 : Int32)) (fun t ht X hX => ?_) (fun X hX => ?_) 0 (by omega) M ⟨zFr.refl M, fun p _ _ => rfl, fun p hp => by omega⟩
  · obtain ⟨X, q1, q2, q3⟩ := hZ
    refine ⟨X, q1, zMp_of ⟨fun r hr hnr => ?_, fun x hx i r hi => ?_⟩, q2.weak ?_⟩
    · by_cases hrd : r ∈ (G b).drop j
      · exact q3 r hrd
      · rw [(q2 _ _ (by rintro ⟨-, p, hp, he⟩; have : r = p := by omega
                        rw [this] at hrd; exact hrd hp)).1]
        refine h1 r hr (fun x hx hrx => ?_)
        by_cases hxb : x = b
        · subst hxb
          rw [← List.take_append_drop j (G x)] at hrx
          rcases List.mem_append.mp hrx with hh | hh
          · exact hnr x hx (by rw [zupd_eq]; exact hh)
          · exact hrd hh
        · exact hnr x hx (by rw [zupd_ne hxb]; exact hrx)
    · have hi' : (G x)[i]? = some r ∧ r ∉ (G b).drop j := by
        by_cases hxb : x = b
        · subst hxb
          rw [zupd_eq, List.getElem?_take] at hi
          split at hi
          · rename_i hij
            exact ⟨hi, fun hh => by have := (hdix i r hi).mp hh; omega⟩
          · cases hi
        · rw [zupd_ne hxb] at hi
          exact ⟨hi, fun hh => hxb (hG.2.2 x b r (List.mem_of_getElem? hi) (List.mem_of_mem_drop hh))⟩
      have hr := hG.1 x r (List.mem_of_getElem? hi'.1)
      obtain ⟨w1, w2⟩ := h2 x hx i r hi'.1
      refine ⟨?_, ?_⟩
      · rw [(q2 _ _ (by rintro ⟨-, p, hp, he⟩; have : r = p := by omega
                        rw [this] at hi'; exact hi'.2 hp)).1]; exact w1
      · rw [(q2 _ _ (by rintro ⟨-, p, hp, he⟩; have := hd256 p hp; omega)).1]; exact w2
    · rintro k i ⟨hk, p, hp, he⟩
      have := hd256 p hp
      exact ⟨hk, by omega, by omega⟩
  · obtain ⟨x1, x2, x3⟩ := hX
    have e1 := x2 t (Nat.le_refl _) ht
    have skip : (t ∉ (G b).drop j) → (b_X10_freesPages_2 (nI b) (nI j) (nI t) X = some (.inl (nI (t + 1), X))) → ∃ M', b_X10_freesPages_2 (nI b) (nI j) (nI t) X = some (.inl (nI (t + 1), M')) ∧ zFr S M M' ∧ (∀ p, t + 1 ≤ p → p < 256 → M'.1 74 (1240 + p) = M.1 74 (1240 + p)) ∧ ∀ p, p < t + 1 → p ∈ (G b).drop j → M'.1 74 (1240 + p) = (-1 : Int32) := by
      intro hnt hh
      refine ⟨X, hh, x1, fun p hp => x2 p (by omega), fun p hp hpd => ?_⟩
      have : p ≠ t := fun e => hnt (e ▸ hpd)
      exact x3 p (by omega) hpd
    by_cases hx : ∀ x, x < 64 → t ∉ G x
    · refine skip (fun hh => hx b hb (List.mem_of_mem_drop hh)) ?_
      have ho := h1 t ht hx
      have hne : ¬ (-1 : Int32) = nI b := fun hh => nI_nm1 (by omega) hh.symm
      unfold b_X10_freesPages_2
      simp (disch := omega) only [ifLe_f, nIadd, zgd_in, nIc, e1, ho, if_neg hne, zbd]
    · simp only [Classical.not_forall, Classical.not_not] at hx
      obtain ⟨x, hx64, htx⟩ := hx
      obtain ⟨i, hi⟩ := List.getElem?_of_mem htx
      obtain ⟨w1, w2⟩ := h2 x hx64 i t hi
      have hil := (List.getElem?_eq_some_iff.mp hi).1
      have hxl := hG.len x
      have w2' : X.1 74 (1496 + t) = nI i := by
        rw [(x1 _ _ (by rintro ⟨-, p, hp, he⟩; have := hd256 p hp; omega)).1]; exact w2
      by_cases hxb : x = b
      · subst hxb
        by_cases hij : i < j
        · refine skip (fun hh => by have := (hdix i t hi).mp hh; omega) ?_
          unfold b_X10_freesPages_2
          simp (disch := omega) only [ifLe_f, nIadd, zgd_in, nIc, e1, w1, if_true, w2', ifLt_t, zbd]
        · have htd : t ∈ (G x).drop j := (hdix i t hi).mpr (by omega)
          refine ⟨zz_si X 74 (1240 + t) (-1 : Int32), ?_, x1.trans (zFr.si ⟨rfl, t, htd, rfl⟩), fun p hp hp2 => ?_, fun p hp hpd => ?_⟩
          · unfold b_X10_freesPages_2
            simp (disch := omega) only [ifLe_f, nIadd, zgd_in, nIc, e1, w1, if_true, w2', ifLt_f, zbd]
          · rw [rd_ne (by omega)]; exact x2 p (by omega) hp2
          · by_cases hpt : p = t
            · subst hpt; rw [rd_eq]
            · rw [rd_ne (by omega)]; exact x3 p (by omega) hpd
      · refine skip (fun hh => hxb (hG.2.2 x b t htx (List.mem_of_mem_drop hh))) ?_
        unfold b_X10_freesPages_2
        simp (disch := omega) only [ifLe_f, nIadd, zgd_in, nIc, e1, w1, ifEq_f, zbd]
  · obtain ⟨x1, x2, x3⟩ := hX
    refine ⟨X, ?_, x1, fun p hp => x3 p (hd256 p hp) hp⟩
    unfold b_X10_freesPages_2
    simp (disch := omega) only [ifLe_t]
theorem mNeedsL {c b : Nat} (h2 : 2 ≤ c) (h6 : c ≤ 6) (hb : b < 64) : ∀ (n e : Nat) (G : Nat → List Nat) (cnt : Nat → Nat) (M : zzMem), zMp M 0 G → zPk c cnt G → cnt b = e → zsum cnt 64 + n ≤ 300 → M.1 74 1 = nI c → ∃ M', zlp (fun s : (Int32 × zzMem) => b_X10_needsPages_6 (nI b) (nI (e + n)) s.1 s.2) (nI (G b).length, M) = some M' ∧ zMp M' 0 (zlay c b e G n) ∧ zFr zpgS M M' := by
  intro n
  induction n with
  | zero =>
    intro e G cnt M hm hP he hs hc
    have hcap := hP.cap (by omega) hb
    have hcn := hP.cn hb
    have hGl := hP.1.len b
    have hmul : (G b).length * c ≤ 256 * 6 := Nat.mul_le_mul hGl h6
    rw [he, Nat.mul_comm] at hcap
    refine ⟨M, zlp_done ?_, hm, zFr.refl M⟩
    show b_X10_needsPages_6 (nI b) (nI (e + 0)) (nI (G b).length) M = _
    unfold b_X10_needsPages_6
    simp (disch := omega) only [hc, nImul, Nat.add_zero, ifLe_t]
  | succ n ih =>
    intro e G cnt M hm hP he hs hc
    have hcap := hP.cap (by omega) hb
    have hcn := hP.cn hb
    have hGl := hP.1.len b
    have hmul : (G b).length * c ≤ 256 * 6 := Nat.mul_le_mul hGl h6
    rw [he, Nat.mul_comm] at hcap
    have hP1 := hP.lay1 h2 hb (by omega)
    rw [he] at hP1
    have hsum := zsum_upd (f := cnt) (x := e + 1) 64 hb
    rw [zlay_front, show e + (n + 1) = e + 1 + n by omega]
    by_cases hf : e = c * (G b).length
    · have hf' : e = (G b).length * c := by rw [Nat.mul_comm]; exact hf
      have hz : zlay1 c b e G = zpush G b := if_pos hf
      rw [hz] at hP1 ⊢
      obtain ⟨f1, f2, f3⟩ := hP.fp h2
      obtain ⟨M2, t1, t2, t3⟩ := mTakes hm f3 f2 hP.1 hb
      have hc2 : M2.1 74 1 = nI c := by rw [(t3 _ _ (by unfold zpgS; omega)).1]; exact hc
      obtain ⟨M3, u1, u2, u3⟩ := ih (e + 1) (zpush G b) (zupd cnt b (e + 1)) M2 t2 hP1 zupd_eq (by omega) hc2
      refine ⟨M3, ?_, u2, t3.trans u3⟩
      have hl : (zpush G b b).length = (G b).length + 1 := by rw [zpush_eq, List.length_append]; rfl
      rw [hl] at u1
      rw [zlp_step (s' := (nI ((G b).length + 1), M2)), u1]
      show b_X10_needsPages_6 (nI b) (nI (e + 1 + n)) (nI (G b).length) M = _
      unfold b_X10_needsPages_6
      simp (disch := omega) only [hc, nImul, ifLe_f, t1, Option.bind_some, zbd, nIadd]
    · have hz : zlay1 c b e G = G := if_neg hf
      rw [hz] at hP1 ⊢
      exact ih (e + 1) G (zupd cnt b (e + 1)) M hm hP1 zupd_eq (by omega) hc
theorem mNeeds {c b n : Nat} {cnt : Nat → Nat} (h2 : 2 ≤ c) (h6 : c ≤ 6) (hb : b < 64) (hm : zMp M 0 G) (hP : zPk c cnt G) (hs : zsum cnt 64 + n ≤ 300) (hc : M.1 74 1 = nI c) : ∃ M', f_X10_needsPages (nI b) (nI (cnt b + n)) M = some M' ∧ zMp M' 0 (zlay c b (cnt b) G n) ∧ zFr zpgS M M' := by
  obtain ⟨M', t1, t2, t3⟩ := mNeedsL h2 h6 hb n (cnt b) G cnt M hm hP rfl hs hc
  refine ⟨M', ?_, t2, t3⟩
  unfold f_X10_needsPages j_X10_needsPages_6
  rw [mChainG hP.1 hm hb]
  simp only [Option.bind_some]
  exact t1
end MP
