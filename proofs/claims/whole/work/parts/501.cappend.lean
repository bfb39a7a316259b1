/-! ===== the class: an entry laid behind the last one; a bucket's entries held; a bucket emptied ===== -/
theorem clq {M : zzMem} {k0 k1 s d n a b : Nat} (hs : s < 2147483648) (hd : d < 2147483648) (hn : n < 2147483648) : (zz_cl M k0 (nI s) k1 (nI d) (nI n)).2 a b = if a = k1 ∧ d ≤ b ∧ b < d + n then M.2 k0 (s + (b - d)) else M.2 a b := by
  unfold zz_cl va_cpy
  by_cases ha : a = k1
  · subst ha
    simp only [if_true, nIc hs, nIc hd, nIc hn, true_and]
  · simp [ha]
section CA
variable {M : zzMem} {ch c : Nat} {h : Nat → Nat} {E : Nat → List (Nat × Nat)} {G : Nat → List Nat}
theorem rd_sln {k i a b : Nat} {v : Int64} (hn : ¬ (a = k ∧ b = i)) : (zz_sl M k i v).2 a b = M.2 a b := by rw [rd_sl, if_neg hn]
theorem rd_sle {k i : Nat} {v : Int64} : (zz_sl M k i v).2 k i = v := by rw [rd_sl, if_pos ⟨rfl, rfl⟩]
theorem rd_sl1' {k i a b : Nat} {v : Int64} : (zz_sl M k i v).1 a b = M.1 a b := rfl
theorem rd_si2' {k i a b : Nat} {v : Int32} : (zz_si M k i v).2 a b = M.2 a b := rfl
set_option maxHeartbeats 4000000 in
theorem cLay47 (hc : zCh M ch c h E G) (hG : zGok G) (h1 : 1 ≤ c) (h6 : c ≤ 6) {b j p : Nat} {q : Nat × Nat} {w : Bool} (hb : b < 64) (hj : (G b)[j]? = some p) (hj2 : (G b).length = j + 1) (lo : c * j ≤ (E b).length) (hi : (E b).length < c * j + c) (he : (E b).length ≤ 300) :
    ∃ M', j_X0_append_47 ch (nI b) (zen h q) (nI p) w M = some (w, M') ∧ zCh M' ch c h (zupd E b (E b ++ [q])) G ∧ zFr (fun k i => ch + 1 ≤ k ∧ k ≤ ch + 9) M M' := by
  obtain ⟨a1, a2, a3, a4, a5, a6, a7⟩ := id hc
  have hp := hG.1 b p (List.mem_of_getElem? hj)
  obtain ⟨o1, o2, o3, o4⟩ := a6 b hb j p hj
  have hfl : zfil c (E b).length j = (E b).length - c * j := by unfold zfil; omega
  rw [hfl] at o3
  have ho8 := a1 b hb
  refine ⟨zz_si (zz_si (zz_sl M (ch + 5) (6 * p + ((E b).length - c * j)) (zen h q)) (ch + 3) p (nI ((E b).length - c * j + 1))) (ch + 8) b (nI ((E b).length + 1)), ?_, ⟨fun x hx => ?_, fun x hx => ?_, fun x hx => ?_, fun x hx => ?_, fun r hr hn => ?_, fun x hx i r hi' => ?_, fun x hx i e r hi' hr => ?_⟩, fun k i hs => ⟨?_, ?_⟩⟩
  · unfold j_X0_append_47
    simp (disch := omega) only [ifm1, zgd_in, nIc, o3, nImul, nIadd, zbd, rd_sl1', rd_ne, ho8]
    rw [Nat.mul_comm p 6]
  · by_cases hxb : x = b
    · subst hxb; rw [zupd_eq, rd_eq]; simp
    · rw [zupd_ne hxb, rd_ne (by omega), rd_ne (by omega), rd_sl1']; exact a1 x hx
  · rw [rd_ne (by omega), rd_ne (by omega), rd_sl1']; exact a2 x hx
  · rw [rd_ne (by omega), rd_ne (by omega), rd_sl1']; exact a3 x hx
  · rw [rd_ne (by omega), rd_ne (by omega), rd_sl1']; exact a4 x hx
  · rw [rd_ne (by omega), rd_ne (by omega), rd_sl1']; exact a5 r hr hn
  · obtain ⟨t1, t2, t3, t4⟩ := a6 x hx i r hi'
    refine ⟨by rw [rd_ne (by omega), rd_ne (by omega), rd_sl1']; exact t1, by rw [rd_ne (by omega), rd_ne (by omega), rd_sl1']; exact t2, ?_, by rw [rd_ne (by omega), rd_ne (by omega), rd_sl1']; exact t4⟩
    rw [rd_ne (by omega)]
    by_cases hrp : r = p
    · subst hrp
      obtain ⟨e1, e2⟩ := hG.at hi' hj
      subst e1; subst e2
      rw [rd_eq, zupd_eq, List.length_append]
      congr 1
      unfold zfil
      simp only [List.length_singleton]
      omega
    · rw [rd_ne (by omega), rd_sl1', t3]
      by_cases hxb : x = b
      · subst hxb
        rw [zupd_eq, List.length_append]
        have hil := (List.getElem?_eq_some_iff.mp hi').1
        have hij : i < j := by
          rcases Nat.lt_or_ge i j with hh | hh
          · exact hh
          · have : i = j := by omega
            subst this
            rw [hi'] at hj
            exact absurd (Option.some.inj hj) hrp
        have hm : c * (i + 1) ≤ c * j := Nat.mul_le_mul_left c hij
        rw [Nat.mul_add, Nat.mul_one] at hm
        congr 1
        unfold zfil
        simp only [List.length_singleton]
        omega
      · rw [zupd_ne hxb]
  · rw [rd_si2', rd_si2']
    have hr256 := hG.1 x r (List.mem_of_getElem? hr)
    have hmod := Nat.mod_lt i (show c > 0 by omega)
    have hdm := Nat.div_add_mod i c
    by_cases hxb : x = b
    · subst hxb
      rw [zupd_eq] at hi'
      have hil := (List.getElem?_eq_some_iff.mp hi').1
      rw [List.length_append, List.length_singleton] at hil
      by_cases hie : i = (E x).length
      · have hdj : i / c = j := by
          apply Nat.div_eq_of_lt_le
          · rw [Nat.mul_comm]; omega
          · rw [Nat.succ_mul, Nat.mul_comm]; omega
        rw [hdj, hj] at hr
        cases hr
        rw [hdj] at hdm
        have : i % c = (E x).length - c * j := by omega
        rw [this, rd_sle]
        rw [List.getElem?_append_right (by omega), hie, Nat.sub_self, List.getElem?_cons_zero] at hi'
        cases hi'; rfl
      · rw [List.getElem?_append_left (by omega)] at hi'
        rw [rd_sln]
        · exact a7 x hx i e r hi' hr
        · rintro ⟨-, hh⟩
          have hrp : r = p := by omega
          subst hrp
          have hdj := (hG.at hr hj).2
          rw [hdj] at hdm
          omega
    · rw [zupd_ne hxb] at hi'
      rw [rd_sln]
      · exact a7 x hx i e r hi' hr
      · rintro ⟨-, hh⟩
        have hrp : r = p := by omega
        subst hrp
        exact hxb (hG.at hr hj).1
  · rw [rd_ne (by omega), rd_ne (by omega), rd_sl1']
  · rw [rd_si2', rd_si2', rd_sln (by omega)]
set_option maxHeartbeats 4000000 in
theorem cAppE (hc : zCh M ch c h E G) (hP : zPk c (fun b => (E b).length) G) (h2 : 2 ≤ c) (h6 : c ≤ 6) (hr : M.1 ch 11 = nI c) {b : Nat} {q : Nat × Nat} (hb : b < 64) :
    ∃ M', f_X0_append ch (nI b) (zen h q) M = some (decide ((E b).length = c * (G b).length), M') ∧ zCh M' ch c h (zupd E b (E b ++ [q])) (zlay1 c b (E b).length G) ∧ zFr (fun k i => ch + 1 ≤ k ∧ k ≤ ch + 9) M M' := by
  obtain ⟨f1, f2, f3⟩ := hP.fp h2
  have hG := hP.1
  have he : (E b).length ≤ 300 := hP.cn hb
  have hcap : (E b).length ≤ c * (G b).length := hP.cap (by omega) hb
  have hlast := hc.2.2.2.1 b hb
  have hGl := hG.len b
  have hnew : (E b).length = c * (G b).length → ∃ M', j_X0_append_28 ch (nI b) (zen h q) (M.1 (ch + 7) b) M = some (true, M') ∧ zCh M' ch c h (zupd E b (E b ++ [q])) (zpush G b) ∧ zFr (fun k i => ch + 1 ≤ k ∧ k ≤ ch + 9) M M' := by
    intro hf
    obtain ⟨M4, g1, g2, g3⟩ := cAddPage (b := b) (p := zfp G) hc hG (by omega) hb f3 f2 hGl hcap
    have hG' : zGok (zupd G b (G b ++ [zfp G])) := hG.push f1 f2
    have hjj : (zupd G b (G b ++ [zfp G]) b)[(G b).length]? = some (zfp G) := by
      rw [zupd_eq, List.getElem?_append_right (by omega), Nat.sub_self]; rfl
    obtain ⟨M5, k1, k2, k3⟩ := cLay47 (q := q) (w := true) g2 hG' (by omega) h6 hb hjj (by rw [zupd_eq, List.length_append]; rfl) (by omega) (by omega) he
    refine ⟨M5, ?_, k2, (g3.weak (fun k i h => by omega)).trans k3⟩
    unfold j_X0_append_28 j_X0_append_33
    rw [if_pos rfl, g1]
    simp only [Option.bind_some, zpr]
    exact k1
  unfold f_X0_append zlay1
  simp (disch := omega) only [zgd_in, nIc, zbd]
  cases hl : (G b).getLast? with
  | none =>
    have hnil : G b = [] := List.getLast?_eq_none_iff.mp hl
    have hl0 : (G b).length = 0 := by rw [hnil]; rfl
    have hf : (E b).length = c * (G b).length := by rw [hl0] at hcap ⊢; omega
    have h7 : M.1 (ch + 7) b = (-1 : Int32) := by rw [hlast, hl]; rfl
    obtain ⟨M', k1, k2, k3⟩ := hnew hf
    refine ⟨M', ?_, by rw [if_pos hf]; exact k2, k3⟩
    rw [h7] at k1 ⊢
    rw [if_pos rfl, k1, decide_eq_true hf]
  | some l =>
    have hlm : l ∈ G b := List.mem_of_getLast? hl
    have hl256 := hG.1 b l hlm
    have hpos : 0 < (G b).length := List.length_pos_of_mem hlm
    have h7 : M.1 (ch + 7) b = nI l := by rw [hlast, hl]; rfl
    have hlj : (G b)[(G b).length - 1]? = some l := by rw [← List.getLast?_eq_getElem?]; exact hl
    obtain ⟨o1, o2, o3, o4⟩ := hc.2.2.2.2.2.1 b hb _ l hlj
    have hlow := hP.low (by omega) hb (show (G b).length - 1 < (G b).length by omega)
    have hmul : c * (G b).length = c * ((G b).length - 1) + c := by
      obtain ⟨m, hm⟩ : ∃ m, (G b).length = m + 1 := ⟨(G b).length - 1, by omega⟩
      rw [hm, Nat.mul_add]; simp
    by_cases hf : (E b).length = c * (G b).length
    · have hz : zfil c (E b).length ((G b).length - 1) = c := by unfold zfil; omega
      rw [hz] at o3
      obtain ⟨M', k1, k2, k3⟩ := hnew hf
      refine ⟨M', ?_, by rw [if_pos hf]; exact k2, k3⟩
      rw [h7] at k1 ⊢
      simp (disch := omega) only [ifm1, zgd_in, nIc, o3, hr, ifLt_f]
      rw [k1, decide_eq_true hf]
    · have hz : zfil c (E b).length ((G b).length - 1) = (E b).length - c * ((G b).length - 1) := by unfold zfil; omega
      rw [hz] at o3
      obtain ⟨M5, k1, k2, k3⟩ := cLay47 (q := q) (w := false) hc hG (by omega) h6 hb hlj (by omega) hlow (by omega) he
      refine ⟨M5, ?_, by rw [if_neg hf]; exact k2, k3⟩
      rw [h7]
      simp (disch := omega) only [ifm1, zgd_in, nIc, o3, hr, ifLt_t]
      unfold j_X0_append_33
      rw [if_neg (by decide), k1, decide_eq_false hf]
set_option maxHeartbeats 4000000 in
theorem cGather (hc : zCh M ch c h E G) (hP : zPk c (fun b => (E b).length) G) (h2 : 2 ≤ c) (h6 : c ≤ 6) {b : Nat} (hb : b < 64) :
    ∃ M', f_X0_gather ch (nI b) M = some M' ∧ M'.1 ch 10 = nI (E b).length ∧ (∀ i q, (E b)[i]? = some q → M'.2 (ch + 10) i = zen h q) ∧ zFr (fun k i => (k = ch ∧ i = 10) ∨ k = ch + 10) M M' := by
  have hG := hP.1
  have he : (E b).length ≤ 300 := hP.cn hb
  have hcap : (E b).length ≤ c * (G b).length := hP.cap (by omega) hb
  have hGl := hG.len b
  unfold f_X0_gather j_X0_gather_14
  have h6' : (zz_si M ch 10 (nI 0)).1 (ch + 6) b = zpg (G b).head? := by rw [rd_ne (by omega)]; exact hc.2.2.1 b hb
  simp (disch := omega) only [zbd, zgd_in, nIc, h6']
  rw [List.head?_eq_getElem?]
  have hZ := zlp_forI (B := fun s : (Int32 × Int32 × zzMem) => b_X0_gather_14 ch (nI b) s.1 s.2.1 s.2.2) (fun j X => (zpg ((G b)[j]?), nI j, X)) (fun j X => X.1 ch 10 = nI (min (E b).length (c * j)) ∧ (∀ i q, i < c * j → (E b)[i]? = some q → X.2 (ch + 10) i = zen h q) ∧ zFr (fun k i => (k = ch ∧ i = 10) ∨ k = ch + 10) M X) (G b).length (fun X => X.1 ch 10 = nI (E b).length ∧ (∀ i q, (E b)[i]? = some q → X.2 (ch + 10) i = zen h q) ∧ zFr (fun k i => (k = ch ∧ i = 10) ∨ k = ch + 10) M X) (fun j hj X hX => ?_) (fun X hX => ?_) 0 (by omega) (zz_si M ch 10 (nI 0)) ⟨by rw [rd_eq, Nat.mul_zero, Nat.min_zero], fun i q hi => by omega, zFr.si (Or.inl ⟨rfl, rfl⟩)⟩
  · obtain ⟨r, q1, q2⟩ := hZ
    exact ⟨r, q1, q2⟩
  · obtain ⟨x1, x2, x3⟩ := hX
    have hlow : c * j ≤ (E b).length := hP.low (by omega) hb hj
    rw [Nat.min_eq_right hlow] at x1
    have hget := List.getElem?_eq_getElem hj
    have hp := hG.1 b _ (List.getElem_mem hj)
    generalize hpp : (G b)[j]'hj = p at hget hp
    obtain ⟨o1, o2, o3, o4⟩ := hc.2.2.2.2.2.1 b hb j p hget
    have n9 : X.1 (ch + 9) b = nI (G b).length := by rw [(x3 _ _ (by omega)).1]; exact hc.2.1 b hb
    have n3 : X.1 (ch + 3) p = nI (zfil c (E b).length j) := by rw [(x3 _ _ (by omega)).1]; exact o3
    have n4 : X.1 (ch + 4) p = zpg ((G b)[j + 1]?) := by rw [(x3 _ _ (by omega)).1]; exact o4
    have hzf : zfil c (E b).length j = min c ((E b).length - c * j) := rfl
    generalize hzz : zfil c (E b).length j = z at n3 hzf
    have hmin : min z (300 - c * j) = z := by omega
    have hmul : c * (j + 1) = c * j + c := by rw [Nat.mul_add, Nat.mul_one]
    refine ⟨zz_si (zz_cl X (ch + 5) (nI (p * 6)) (ch + 10) (nI (c * j)) (nI z)) ch 10 (nI (c * j + z)), ?_, ?_, fun i q hi hq => ?_, x3.trans (fun k i hs => ⟨?_, ?_⟩)⟩
    · rw [hget]
      unfold b_X0_gather_14
      have e1 : (zz_cl X (ch + 5) (nI (p * 6)) (ch + 10) (nI (c * j)) (nI z)).1 ch 10 = nI (c * j) := x1
      have e2 : (zz_cl X (ch + 5) (nI (p * 6)) (ch + 10) (nI (c * j)) (nI z)).1 (ch + 4) p = zpg ((G b)[j + 1]?) := n4
      simp (disch := omega) only [zgd_in, nIc, n9, ifLe_f, zpg, ifm1, n3, x1, nIsub, zmn_nI, hmin, nImul, zbd]
      rw [zgd_t ⟨nI_pos (by omega), nI_pos (by omega), nI_pos (by omega), by rw [nIc (by omega), nIc (by omega)]; omega, by rw [nIc (by omega), nIc (by omega)]; omega⟩]
      simp (disch := omega) only [e1, rd_ne, e2, nIadd]
      rfl
    · rw [rd_eq, hmul]
      congr 1
      omega
    · rw [rd_si2', clq (by omega) (by omega) (by omega)]
      have hil := (List.getElem?_eq_some_iff.mp hq).1
      by_cases hlt : i < c * j
      · rw [if_neg (by omega)]; exact x2 i q hlt hq
      · rw [if_pos (by omega), (x3 _ _ (by omega)).2]
        have hdj : i / c = j := by
          apply Nat.div_eq_of_lt_le
          · rw [Nat.mul_comm]; omega
          · rw [Nat.succ_mul, Nat.mul_comm]; omega
        have hdm := Nat.div_add_mod i c
        rw [hdj] at hdm
        have h7 := hc.2.2.2.2.2.2 b hb i q p hq (by rw [hdj]; exact hget)
        rw [show p * 6 + (i - c * j) = 6 * p + i % c by omega]
        exact h7
    · rw [rd_ne (by omega)]; rfl
    · rw [rd_si2', clq (by omega) (by omega) (by omega), if_neg (by omega)]
  · obtain ⟨x1, x2, x3⟩ := hX
    rw [Nat.min_eq_left hcap] at x1
    refine ⟨X, ?_, x1, fun i q hq => x2 i q ?_ hq, x3⟩
    · have n9 : X.1 (ch + 9) b = nI (G b).length := by rw [(x3 _ _ (by omega)).1]; exact hc.2.1 b hb
      unfold b_X0_gather_14
      simp (disch := omega) only [zgd_in, nIc, n9, ifLe_t]
    · have hil := (List.getElem?_eq_some_iff.mp hq).1
      omega
end CA
