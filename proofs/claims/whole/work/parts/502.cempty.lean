/-! ===== the class: a bucket emptied ===== -/
section CB
variable {M : zzMem} {ch c : Nat} {h : Nat → Nat} {E : Nat → List (Nat × Nat)} {G : Nat → List Nat}
theorem cEmptyLoop (hc : zCh M ch c h E G) (hG : zGok G) {b : Nat} {kf : Bool} {v3 : Int32} (hb : b < 64) {Q : zzMem → Prop} (hQ : ∀ X, (∀ p ∈ G b, X.1 (ch + 1) p = (-1 : Int32)) → zFr (fun k i => k = ch + 1 ∧ i ∈ G b) M X → ∃ M', j_X0_empty_53 ch (nI b) kf v3 X = some M' ∧ Q M') :
    ∃ M', j_X0_empty_13 ch (nI b) kf v3 (zpg (G b).head?) (nI 0) M = some M' ∧ Q M' := by
  have hGl := hG.len b
  unfold j_X0_empty_13
  rw [List.head?_eq_getElem?]
  have hZ := zlp_forI (B := fun s : (Int32 × Int32 × zzMem) => b_X0_empty_13 ch (nI b) kf v3 s.1 s.2.1 s.2.2) (fun j X => (zpg ((G b)[j]?), nI j, X)) (fun j X => (∀ i p, i < j → (G b)[i]? = some p → X.1 (ch + 1) p = (-1 : Int32)) ∧ zFr (fun k i => k = ch + 1 ∧ i ∈ G b) M X) (G b).length Q (fun j hj X hX => ?_) (fun X hX => ?_) 0 (by omega) M ⟨fun i p hi => by omega, zFr.refl M⟩
  · exact hZ
  · obtain ⟨x1, x2⟩ := hX
    have hget := List.getElem?_eq_getElem hj
    have hmem := List.getElem_mem hj
    have hp := hG.1 b _ hmem
    generalize hpp : (G b)[j]'hj = p at hget hp hmem
    have n9 : X.1 (ch + 9) b = nI (G b).length := by rw [(x2 _ _ (by omega)).1]; exact hc.2.1 b hb
    have n4 : X.1 (ch + 4) p = zpg ((G b)[j + 1]?) := by rw [(x2 _ _ (by omega)).1]; exact (hc.2.2.2.2.2.1 b hb j p hget).2.2.2
    refine ⟨zz_si X (ch + 1) p (-1 : Int32), ?_, fun i r hi hr => ?_, x2.trans (zFr.si ⟨rfl, hmem⟩)⟩
    · rw [hget]
      unfold b_X0_empty_13
      simp (disch := omega) only [zgd_in, nIc, n9, ifLe_f, zpg, ifm1, zbd, rd_ne, nIadd]
      rw [n4]
      rfl
    · by_cases hij : i = j
      · subst hij
        rw [hget] at hr
        cases hr
        rw [rd_eq]
      · by_cases hrp : r = p
        · rw [hrp, rd_eq]
        · rw [rd_ne (by omega)]; exact x1 i r (by omega) hr
  · obtain ⟨x1, x2⟩ := hX
    have n9 : X.1 (ch + 9) b = nI (G b).length := by rw [(x2 _ _ (by omega)).1]; exact hc.2.1 b hb
    obtain ⟨M', m1, m2⟩ := hQ X (fun p hp => by
      obtain ⟨i, hi⟩ := List.getElem?_of_mem hp
      exact x1 i p (List.getElem?_eq_some_iff.mp hi).1 hi) x2
    refine ⟨M', ?_, m2⟩
    unfold b_X0_empty_13
    simp (disch := omega) only [zgd_in, nIc, n9, ifLe_t]
    rw [m1]
    rfl
theorem zupd_upd {α : Type} {F : Nat → α} {b : Nat} {x y : α} : zupd (zupd F b x) b y = zupd F b y := by
  funext z
  by_cases hz : z = b
  · subst hz; rw [zupd_eq, zupd_eq]
  · rw [zupd_ne hz, zupd_ne hz, zupd_ne hz]
set_option maxHeartbeats 4000000 in
theorem cEmpty0 (hc : zCh M ch c h E G) (hG : zGok G) {b : Nat} (hb : b < 64) : ∃ M', f_X0_empty ch (nI b) false M = some M' ∧ zCh M' ch c h (zupd E b []) (zupd G b []) ∧ zFr (fun k i => ch + 1 ≤ k ∧ k ≤ ch + 9) M M' := by
  unfold f_X0_empty
  simp (disch := omega) only [zgd_in, nIc, zbd, hc.2.2.1 b hb]
  refine cEmptyLoop hc hG hb (fun X x1 x2 => ?_)
  obtain ⟨a1, a2, a3, a4, a5, a6, a7⟩ := id hc
  refine ⟨zz_si (zz_si (zz_si (zz_si X (ch + 8) b (nI 0)) (ch + 9) b (nI 0)) (ch + 6) b (-1 : Int32)) (ch + 7) b (-1 : Int32), ?_, ⟨fun x hx => ?_, fun x hx => ?_, fun x hx => ?_, fun x hx => ?_, fun r hr hn => ?_, fun x hx i r hi => ?_, fun x hx i e r hi hr => ?_⟩, fun k i hs => ⟨?_, ?_⟩⟩
  · unfold j_X0_empty_53
    simp (disch := omega) only [zgd_in, nIc, zbd]
    rfl
  · by_cases hxb : x = b
    · subst hxb
      simp (disch := omega) only [zupd_eq, rd_ne, rd_eq]
      rfl
    · simp (disch := omega) only [zupd_ne hxb, rd_ne]
      rw [(x2 _ _ (by omega)).1]; exact a1 x hx
  · by_cases hxb : x = b
    · subst hxb
      simp (disch := omega) only [zupd_eq, rd_ne, rd_eq]
      rfl
    · simp (disch := omega) only [zupd_ne hxb, rd_ne]
      rw [(x2 _ _ (by omega)).1]; exact a2 x hx
  · by_cases hxb : x = b
    · subst hxb
      simp (disch := omega) only [zupd_eq, rd_ne, rd_eq]
      rfl
    · simp (disch := omega) only [zupd_ne hxb, rd_ne]
      rw [(x2 _ _ (by omega)).1]; exact a3 x hx
  · by_cases hxb : x = b
    · subst hxb
      simp (disch := omega) only [zupd_eq, rd_eq]
      rfl
    · simp (disch := omega) only [zupd_ne hxb, rd_ne]
      rw [(x2 _ _ (by omega)).1]; exact a4 x hx
  · simp (disch := omega) only [rd_ne]
    by_cases hm : r ∈ G b
    · exact x1 r hm
    · rw [(x2 _ _ (fun hh => hm hh.2)).1]
      refine a5 r hr (fun x hx hrx => ?_)
      by_cases hxb : x = b
      · rw [hxb] at hrx; exact hm hrx
      · exact hn x hx (by rw [zupd_ne hxb]; exact hrx)
  · by_cases hxb : x = b
    · subst hxb; rw [zupd_eq] at hi; simp at hi
    · rw [zupd_ne hxb] at hi
      have hm : r ∉ G b := fun hh => hxb (hG.2.2 x b r (List.mem_of_getElem? hi) hh)
      simp (disch := omega) only [zupd_ne hxb, rd_ne]
      rw [(x2 _ _ (fun hh => hm hh.2)).1, (x2 (ch + 2) _ (by omega)).1, (x2 (ch + 3) _ (by omega)).1, (x2 (ch + 4) _ (by omega)).1]
      exact a6 x hx i r hi
  · by_cases hxb : x = b
    · subst hxb; rw [zupd_eq] at hi; simp at hi
    · rw [zupd_ne hxb] at hi hr
      simp only [rd_si2']
      rw [(x2 _ _ (by omega)).2]
      exact a7 x hx i e r hi hr
  · simp (disch := omega) only [rd_ne]
    rw [(x2 _ _ (by omega)).1]
  · simp only [rd_si2']
    rw [(x2 _ _ (by omega)).2]
set_option maxHeartbeats 4000000 in
theorem cEmpty1 (hc : zCh M ch c h E G) (hG : zGok G) {b : Nat} (hb : b < 64) (hne : G b ≠ []) : ∃ M', f_X0_empty ch (nI b) true M = some M' ∧ zCh M' ch c h (zupd E b []) (zupd G b ((G b).take 1)) ∧ zFr (fun k i => ch + 1 ≤ k ∧ k ≤ ch + 9) M M' := by
  obtain ⟨p, l, hpl⟩ : ∃ p l, G b = p :: l := by
    cases hg : G b with
    | nil => exact absurd hg hne
    | cons p l => exact ⟨p, l, rfl⟩
  have hp0 : (G b)[0]? = some p := by rw [hpl]; rfl
  have hpm : p ∈ G b := List.mem_of_getElem? hp0
  have hp := hG.1 b p hpm
  have hhead : (G b).head? = some p := by rw [hpl]; rfl
  have htk : (G b).take 1 = [p] := by rw [hpl]; rfl
  unfold f_X0_empty
  simp (disch := omega) only [zgd_in, nIc, zbd, hc.2.2.1 b hb]
  refine cEmptyLoop hc hG hb (fun X x1 x2 => ?_)
  obtain ⟨a1, a2, a3, a4, a5, a6, a7⟩ := id hc
  obtain ⟨o1, o2, o3, o4⟩ := a6 b hb 0 p hp0
  refine ⟨zz_si (zz_si (zz_si (zz_si (zz_si (zz_si (zz_si (zz_si (zz_si (zz_si X (ch + 8) b (nI 0)) (ch + 9) b (nI 0)) (ch + 6) b (-1 : Int32)) (ch + 7) b (-1 : Int32)) (ch + 1) p (nI b)) (ch + 3) p (nI 0)) (ch + 4) p (-1 : Int32)) (ch + 6) b (nI p)) (ch + 7) b (nI p)) (ch + 9) b (nI 1), ?_, ⟨fun x hx => ?_, fun x hx => ?_, fun x hx => ?_, fun x hx => ?_, fun r hr hn => ?_, fun x hx i r hi => ?_, fun x hx i e r hi hr => ?_⟩, fun k i hs => ⟨?_, ?_⟩⟩
  · unfold j_X0_empty_53
    rw [hhead]
    simp (disch := omega) only [zgd_in, nIc, zbd, zpg, ifm1, if_true]
  · by_cases hxb : x = b
    · subst hxb
      simp (disch := omega) only [zupd_eq, rd_ne, rd_eq]
      rfl
    · simp (disch := omega) only [zupd_ne hxb, rd_ne]
      rw [(x2 _ _ (by omega)).1]; exact a1 x hx
  · by_cases hxb : x = b
    · subst hxb
      simp (disch := omega) only [zupd_eq, rd_ne, rd_eq, htk]
      rfl
    · simp (disch := omega) only [zupd_ne hxb, rd_ne]
      rw [(x2 _ _ (by omega)).1]; exact a2 x hx
  · by_cases hxb : x = b
    · subst hxb
      simp (disch := omega) only [zupd_eq, rd_ne, rd_eq, htk]
      rfl
    · simp (disch := omega) only [zupd_ne hxb, rd_ne]
      rw [(x2 _ _ (by omega)).1]; exact a3 x hx
  · by_cases hxb : x = b
    · subst hxb
      simp (disch := omega) only [zupd_eq, rd_ne, rd_eq, htk]
      rfl
    · simp (disch := omega) only [zupd_ne hxb, rd_ne]
      rw [(x2 _ _ (by omega)).1]; exact a4 x hx
  · have hrp : r ≠ p := fun e => hn b hb (by rw [zupd_eq, htk, e]; simp)
    simp (disch := omega) only [rd_ne]
    by_cases hm : r ∈ G b
    · exact x1 r hm
    · rw [(x2 _ _ (fun hh => hm hh.2)).1]
      refine a5 r hr (fun x hx hrx => ?_)
      by_cases hxb : x = b
      · rw [hxb] at hrx; exact hm hrx
      · exact hn x hx (by rw [zupd_ne hxb]; exact hrx)
  · by_cases hxb : x = b
    · subst hxb
      rw [zupd_eq, htk] at hi
      have hi0 : i = 0 := by
        have := (List.getElem?_eq_some_iff.mp hi).1
        simpa using this
      subst hi0
      have hrp : r = p := by simpa using hi.symm
      subst hrp
      simp (disch := omega) only [zupd_eq, rd_ne, rd_eq, htk]
      rw [(x2 (ch + 2) _ (by omega)).1]
      refine ⟨trivial, o2, ?_, rfl⟩
      unfold zfil
      simp
    · rw [zupd_ne hxb] at hi
      have hm : r ∉ G b := fun hh => hxb (hG.2.2 x b r (List.mem_of_getElem? hi) hh)
      have hrp : r ≠ p := fun e => hm (by rw [e]; exact hpm)
      simp (disch := omega) only [zupd_ne hxb, rd_ne]
      rw [(x2 _ _ (fun hh => hm hh.2)).1, (x2 (ch + 2) _ (by omega)).1, (x2 (ch + 3) _ (by omega)).1, (x2 (ch + 4) _ (by omega)).1]
      exact a6 x hx i r hi
  · by_cases hxb : x = b
    · subst hxb; rw [zupd_eq] at hi; simp at hi
    · rw [zupd_ne hxb] at hi hr
      simp only [rd_si2']
      rw [(x2 _ _ (by omega)).2]
      exact a7 x hx i e r hi hr
  · simp (disch := omega) only [rd_ne]
    rw [(x2 _ _ (by omega)).1]
  · simp only [rd_si2']
    rw [(x2 _ _ (by omega)).2]
end CB
