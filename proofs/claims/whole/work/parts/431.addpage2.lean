set_option maxHeartbeats 4000000 in
theorem cAddPage {M : zzMem} {ch c b p : Nat} {h : Nat → Nat} {E : Nat → List (Nat × Nat)} {G : Nat → List Nat} (hc : zCh M ch c h E G) (hG : zGok G) (hc0 : 0 < c) (hb : b < 64) (hp : zfree1 G p) (hpn : ∀ b, p ∉ G b) (hm : (G b).length ≤ 256) (hE : (E b).length ≤ c * (G b).length) :
    ∃ M', f_X0_addPage ch (nI b) M = some (nI p, M') ∧ zCh M' ch c h E (zupd G b (G b ++ [p])) ∧ zFr (fun k i => k = ch + 1 ∨ k = ch + 2 ∨ k = ch + 3 ∨ k = ch + 4 ∨ ((k = ch + 6 ∨ k = ch + 7 ∨ k = ch + 9) ∧ i = b)) M M' := by
  obtain ⟨h1, h2, h3, h4, h5, h6, h7⟩ := id hc
  have hp256 := hp.1
  have hown : M.1 (ch + 1) p = (-1 : Int32) := h5 p hp256 hp.2.1
  have hpg := h2 b hb
  -- the memory behind it, by what it holds
  have main : ∃ M', j_X0_addPage_25 ch (nI b) (nI p) M = some (nI p, M') ∧ M'.2 = M.2 ∧ (∀ k, k ≠ ch + 1 → k ≠ ch + 2 → k ≠ ch + 3 → k ≠ ch + 4 → k ≠ ch + 6 → k ≠ ch + 7 → k ≠ ch + 9 → ∀ i, M'.1 k i = M.1 k i) ∧
      (∀ q, q ≠ p → M'.1 (ch + 1) q = M.1 (ch + 1) q ∧ M'.1 (ch + 2) q = M.1 (ch + 2) q ∧ M'.1 (ch + 3) q = M.1 (ch + 3) q) ∧ M'.1 (ch + 1) p = nI b ∧ M'.1 (ch + 2) p = nI (G b).length ∧ M'.1 (ch + 3) p = nI 0 ∧ M'.1 (ch + 4) p = (-1 : Int32) ∧
      (∀ q, q ≠ p → (G b).getLast? ≠ some q → M'.1 (ch + 4) q = M.1 (ch + 4) q) ∧ (∀ q, (G b).getLast? = some q → M'.1 (ch + 4) q = nI p) ∧
      (∀ x, x ≠ b → M'.1 (ch + 6) x = M.1 (ch + 6) x ∧ M'.1 (ch + 7) x = M.1 (ch + 7) x ∧ M'.1 (ch + 9) x = M.1 (ch + 9) x) ∧
      M'.1 (ch + 6) b = zpg (G b ++ [p]).head? ∧ M'.1 (ch + 7) b = nI p ∧ M'.1 (ch + 9) b = nI ((G b).length + 1) := by
    unfold j_X0_addPage_25 j_X0_addPage_98
    cases hl : (G b).getLast? with
    | none =>
      have hnil : G b = [] := List.getLast?_eq_none_iff.mp hl
      have hl0 : (G b).length = 0 := by rw [hnil]; rfl
      rw [hl0] at hpg ⊢
      refine ⟨zz_si (zz_si (zz_si (zz_si (zz_si (zz_si (zz_si M (ch + 1) p (nI b)) (ch + 2) p (nI 0)) (ch + 3) p (nI 0)) (ch + 4) p (-1 : Int32)) (ch + 6) b (nI p)) (ch + 7) b (nI p)) (ch + 9) b (nI (0 + 1)), ?_, ?_⟩
      · simp (disch := omega) only [ifEq_f, zgd_in, nIc, zbd, rd_ne, rd_eq, hpg, ifE0_t, nIadd]
      · refine ⟨rfl, fun k a1 a2 a3 a4 a5 a6 a7 i => ?_, fun q hq => ⟨?_, ?_, ?_⟩, ?_, ?_, ?_, ?_, fun q hq _ => ?_, fun q hq => by (first | cases hq | (rw [hl] at hq; cases hq)), fun x hx => ⟨?_, ?_, ?_⟩, ?_, ?_, ?_⟩
        all_goals first
          | (simp (disch := omega) only [rd_ne, rd_eq]; done)
          | (rw [hnil]; simp (disch := omega) only [rd_ne, rd_eq]; rfl)
    | some l =>
      have hlm : l ∈ G b := List.mem_of_getLast? hl
      have hl256 := hG.1 b l hlm
      have hlp : l ≠ p := fun e => hpn b (e ▸ hlm)
      have hpos : 0 < (G b).length := List.length_pos_of_mem hlm
      have hlast : M.1 (ch + 7) b = nI l := by rw [h4 b hb, hl]; rfl
      have hfst := h3 b hb
      refine ⟨zz_si (zz_si (zz_si (zz_si (zz_si (zz_si (zz_si M (ch + 1) p (nI b)) (ch + 2) p (nI (G b).length)) (ch + 3) p (nI 0)) (ch + 4) p (-1 : Int32)) (ch + 4) l (nI p)) (ch + 7) b (nI p)) (ch + 9) b (nI ((G b).length + 1)), ?_, ?_⟩
      · simp (disch := omega) only [ifEq_f, zgd_in, nIc, zbd, rd_ne, rd_eq, hpg, ifE0_f, hlast, nIadd]
      · refine ⟨rfl, fun k a1 a2 a3 a4 a5 a6 a7 i => ?_, fun q hq => ⟨?_, ?_, ?_⟩, ?_, ?_, ?_, ?_, fun q hq hql => ?_, fun q hq => ?_, fun x hx => ⟨?_, ?_, ?_⟩, ?_, ?_, ?_⟩
        · simp (disch := omega) only [rd_ne]
        · simp (disch := omega) only [rd_ne]
        · simp (disch := omega) only [rd_ne]
        · simp (disch := omega) only [rd_ne]
        · simp (disch := omega) only [rd_ne, rd_eq]
        · simp (disch := omega) only [rd_ne, rd_eq]
        · simp (disch := omega) only [rd_ne, rd_eq]
        · simp (disch := omega) only [rd_ne, rd_eq]
        · have hqn : q ≠ l := fun e => hql (by rw [e])
          simp (disch := omega) only [rd_ne]
        · have hqe : q = l := by simpa using hq.symm
          subst hqe
          simp (disch := omega) only [rd_ne, rd_eq]
        · simp (disch := omega) only [rd_ne]
        · simp (disch := omega) only [rd_ne]
        · simp (disch := omega) only [rd_ne]
        · simp (disch := omega) only [rd_ne]
          rw [hfst]
          cases hg : G b with
          | nil => rw [hg] at hpos; simp at hpos
          | cons x y => simp
        · simp (disch := omega) only [rd_ne, rd_eq]
        · simp (disch := omega) only [rd_eq]
  obtain ⟨M', m1, m2, m3, m4, m5, m6, m7, m8, m9, m10, m11, m12, m13, m14⟩ := main
  refine ⟨M', ?_, ⟨fun x hx => ?_, fun x hx => ?_, fun x hx => ?_, fun x hx => ?_, fun q hq hn => ?_, fun x hx i q hi => ?_, fun x hx i e q hi hq => ?_⟩, fun k i hs => ?_⟩
  · unfold f_X0_addPage j_X0_addPage_2
    refine zlp_for (B := fun s : Int32 => b_X0_addPage_2 ch (nI b) s M) (fun i => nI i) p _ (fun i hi => ?_) ?_ 0 (by omega)
    · obtain ⟨x, hx, hix⟩ := hp.2.2 i hi
      obtain ⟨j, hj⟩ := List.getElem?_of_mem hix
      have ho := (h6 x hx j i hj).1
      unfold b_X0_addPage_2
      simp (disch := omega) only [ifLe_f, zgd_in, nIc, ho, ifm1, zbd, nIadd]
    · unfold b_X0_addPage_2
      simp (disch := omega) only [ifLe_f, zgd_in, nIc, hown, if_true, m1]
      rfl
  · rw [m3 _ (by omega) (by omega) (by omega) (by omega) (by omega) (by omega) (by omega)]; exact h1 x hx
  · by_cases hxb : x = b
    · subst hxb; rw [zupd_eq, m14]; simp
    · rw [zupd_ne hxb, (m11 x hxb).2.2]; exact h2 x hx
  · by_cases hxb : x = b
    · subst hxb; rw [zupd_eq, m12]
    · rw [zupd_ne hxb, (m11 x hxb).1]; exact h3 x hx
  · by_cases hxb : x = b
    · subst hxb; rw [zupd_eq, m13]; simp [zpg]
    · rw [zupd_ne hxb, (m11 x hxb).2.1]; exact h4 x hx
  · have hqp : q ≠ p := fun e => hn b hb (by rw [zupd_eq, e]; simp)
    rw [(m4 q hqp).1]
    refine h5 q hq (fun x hx hqx => hn x hx ?_)
    by_cases hxb : x = b
    · subst hxb; rw [zupd_eq]; simp [hqx]
    · rw [zupd_ne hxb]; exact hqx
  · by_cases hxb : x = b
    · subst hxb
      rw [zupd_eq] at hi ⊢
      by_cases him : i < (G x).length
      · rw [List.getElem?_append_left him] at hi
        have hqp : q ≠ p := fun e => hpn x (e ▸ List.mem_of_getElem? hi)
        obtain ⟨a1, a2, a3, a4⟩ := h6 x hx i q hi
        obtain ⟨b1, b2, b3⟩ := m4 q hqp
        refine ⟨by rw [b1]; exact a1, by rw [b2]; exact a2, by rw [b3]; exact a3, ?_⟩
        by_cases hlast : i + 1 < (G x).length
        · have hnl : (G x).getLast? ≠ some q := by
            intro e
            rw [List.getLast?_eq_getElem?] at e
            have := (hG.at hi e).2
            omega
          rw [m9 q hqp hnl, a4, List.getElem?_append_left hlast]
        · have hil : i + 1 = (G x).length := by omega
          have hl : (G x).getLast? = some q := by rw [List.getLast?_eq_getElem?, show (G x).length - 1 = i by omega]; exact hi
          rw [m10 q hl, List.getElem?_append_right (by omega), hil]
          simp [zpg]
      · have hlt := (List.getElem?_eq_some_iff.mp hi).1
        simp only [List.length_append, List.length_singleton] at hlt
        have him2 : i = (G x).length := by omega
        rw [List.getElem?_append_right (by omega), him2] at hi
        simp only [Nat.sub_self, List.getElem?_cons_zero, Option.some.injEq] at hi
        subst hi
        refine ⟨m5, by rw [m6, him2], ?_, ?_⟩
        · rw [m7, him2]
          unfold zfil
          congr 1
          omega
        · rw [m8, him2, List.getElem?_eq_none (by simp)]
          rfl
    · rw [zupd_ne hxb] at hi ⊢
      have hqp : q ≠ p := fun e => hpn x (e ▸ List.mem_of_getElem? hi)
      have hnl : (G b).getLast? ≠ some q := by
        intro e
        rw [List.getLast?_eq_getElem?] at e
        exact hxb (hG.at hi e).1
      obtain ⟨b1, b2, b3⟩ := m4 q hqp
      rw [b1, b2, b3, m9 q hqp hnl]
      exact h6 x hx i q hi
  · rw [m2]
    by_cases hxb : x = b
    · subst hxb
      rw [zupd_eq] at hq
      have hlt := (List.getElem?_eq_some_iff.mp hi).1
      have hdiv : i / c < (G x).length := (Nat.div_lt_iff_lt_mul hc0).mpr (by rw [Nat.mul_comm]; omega)
      rw [List.getElem?_append_left hdiv] at hq
      exact h7 x hx i e q hi hq
    · rw [zupd_ne hxb] at hq
      exact h7 x hx i e q hi hq
  · refine ⟨?_, by rw [m2]⟩
    by_cases k6 : k = ch + 6 ∨ k = ch + 7 ∨ k = ch + 9
    · have hib : i ≠ b := fun e => hs (by simp [k6, e])
      obtain ⟨t1, t2, t3⟩ := m11 i hib
      rcases k6 with rfl | rfl | rfl
      · exact t1
      · exact t2
      · exact t3
    · exact m3 k (by omega) (by omega) (by omega) (by omega) (by omega) (by omega) (by omega) i
