/-! ===== a law: behind a part; the law itself ===== -/
section LV
variable {tp : List Nat} {n : Nat}
theorem zLR_ne (hn : n ≤ 320) : ∀ (f : Nat) (s : zzL), zLI n s → n + 1 ≤ s.2.2.2 + f → ∀ g, zLR tp n s = .inl g → g ≠ 0 := by
  intro f
  induction f with
  | zero => intro s hI hf; have := hI.2.2.2.1; omega
  | succ f ih =>
    intro s hI hf g hg
    rw [zLR_s hn hI] at hg
    by_cases hw : zlwh n s = true
    · rw [if_pos hw] at hg; cases hg
    · rw [if_neg hw] at hg
      cases hz : zlst tp n s with
      | inl g' => rw [hz, zsb_l] at hg; rw [← Sum.inl.inj hg]; exact zlst_l hn hI.2.2.2.1 hz
      | inr s' =>
        rw [hz, zsb_r] at hg
        obtain ⟨i1, i2⟩ := zLI_s hn hI hz
        exact ih s' i1 (by omega) g hg
theorem zLR_ok (hn : n ≤ 320) : ∀ (f : Nat) (s : zzL), zLI n s → n + 1 ≤ s.2.2.2 + f → ∀ code, zLR tp n s = .inr code → zlok code 0 ∧ code.length ≤ n := by
  intro f
  induction f with
  | zero => intro s hI hf; have := hI.2.2.2.1; omega
  | succ f ih =>
    intro s hI hf code hg
    rw [zLR_s hn hI] at hg
    by_cases hw : zlwh n s = true
    · rw [if_pos hw] at hg
      have hg := Sum.inr.inj hg
      obtain ⟨due, cd, st, a⟩ := s
      obtain ⟨h1, h2, h3, h4, h5, h6⟩ := hI
      unfold zlwh at hw
      simp only [Bool.and_eq_true, Bool.not_eq_true', decide_eq_true_eq] at hw
      simp only at h1 h2 h3 h4 h5 h6 hg
      obtain ⟨w1, w2, w3⟩ := hw
      subst hg
      have hst : st = [] := by
        rcases h6 w1 with h | ⟨r, h⟩
        · exact h
        · rw [h] at w3
          have : znop ((13, 0) :: r) = znop r + 1 := rfl
          omega
      rw [w1, hst] at h5
      exact ⟨zlr_ok _ _ h5, by omega⟩
    · rw [if_neg hw] at hg
      cases hz : zlst tp n s with
      | inl g' => rw [hz, zsb_l] at hg; cases hg
      | inr s' =>
        rw [hz, zsb_r] at hg
        obtain ⟨i1, i2⟩ := zLI_s hn hI hz
        exact ih s' i1 (by omega) code hg
set_option maxHeartbeats 1000000 in
theorem mBehind (htx : ∀ x ∈ tp, x < 256) (hn : n ≤ tp.length) (hl : tp.length ≤ 320) (h60 : n ≤ 60) : ∀ (f : Nat) (s : zzL) (M : zzMem), zLI n s → s.1 = false → n + 1 ≤ s.2.2.2 + f → zMS M tp n s.2.2.2 → zLX M s → ∃ ok M', j_X10_readsLaw_24 M = some (ok, M') ∧ zFr zmL M M' ∧ (∀ g, zLR tp n s = .inl g → ok = false ∧ M'.1 73 9 = g) ∧ ∀ code, zLR tp n s = .inr code → ok = true ∧ zMd M' code := by
  intro f
  induction f with
  | zero => intro s M hI hd hf; have := hI.2.2.2.1; omega
  | succ f ih =>
    intro s M hI hd hf hT hX
    have hLR := zLR_s (tp := tp) (by omega) hI
    obtain ⟨due, code, st, a⟩ := s
    simp only at hd
    subst hd
    obtain ⟨h1, h2, h3, h4, h5, h6⟩ := id hI
    obtain ⟨x1, x2, x3, x4⟩ := id hX
    simp only at hf hT h1 h2 h3 h4 h5 h6 x1 x2 x3 x4
    have h6 := hI.2.2.2.2.2 rfl
    simp only at h6
    unfold j_X10_readsLaw_24
    have hwr : f_X10_wrongAt (nI 1) (nI a) M = some (false, zz_si M 73 9 (zfc 1 a)) := mWrong
    -- it ends here
    have hstop : zlst tp n (false, code, st, a) = .inl (zfc 1 a) → zlwh n (false, code, st, a) = false → b_X10_readsLaw_24 M = some (.inr (false, zz_si M 73 9 (zfc 1 a))) → ∃ ok M', zlp (fun s : zzMem => b_X10_readsLaw_24 s) M = some (ok, M') ∧ zFr zmL M M' ∧ (∀ g, zLR tp n (false, code, st, a) = .inl g → ok = false ∧ M'.1 73 9 = g) ∧ ∀ code', zLR tp n (false, code, st, a) = .inr code' → ok = true ∧ zMd M' code' := by
      intro hz hw hb
      rw [hw, if_neg (by decide), hz, zsb_l] at hLR
      refine ⟨false, _, zlp_done hb, zFr.si (by unfold zmL; omega), fun g hg => ?_, fun c hc => ?_⟩
      · rw [hLR] at hg
        exact ⟨rfl, by rw [rd_eq]; exact Sum.inl.inj hg⟩
      · rw [hLR] at hc; cases hc
    -- it goes on from a state with no part due
    have hgo : ∀ (s' : zzL) (X : zzMem), zLR tp n (false, code, st, a) = zLR tp n s' → zLI n s' → s'.1 = false → a < s'.2.2.2 → zMS X tp n s'.2.2.2 → zLX X s' → zFr zmL M X → b_X10_readsLaw_24 M = some (.inl X) → ∃ ok M', zlp (fun s : zzMem => b_X10_readsLaw_24 s) M = some (ok, M') ∧ zFr zmL M M' ∧ (∀ g, zLR tp n (false, code, st, a) = .inl g → ok = false ∧ M'.1 73 9 = g) ∧ ∀ code', zLR tp n (false, code, st, a) = .inr code' → ok = true ∧ zMd M' code' := by
      intro s' X e1 e2 e3 e4 e5 e6 e7 hb
      obtain ⟨ok, M', r1, r2, r3, r4⟩ := ih s' X e2 e3 (by omega) e5 e6
      rw [e1]
      unfold j_X10_readsLaw_24 at r1
      exact ⟨ok, M', by rw [← r1]; exact zlp_step hb, e7.trans r2, r3, r4⟩
    by_cases han : a < n
    · have hx := htx _ (List.mem_of_getElem? (ztp_get hn han))
      have hsn : zsn tp n a = nI (tp.getD a 0) := by unfold zsn; rw [if_pos han]
      have hw : zlwh n (false, code, st, a) = false := by
        unfold zlwh
        simp only
        rw [decide_eq_false (by omega), Bool.false_and, Bool.and_false]
      have hb : b_X10_readsLaw_24 M = (if nI (tp.getD a 0) = (nI 41) then ((f_X10_closes M).bind (fun q22 => zpr q22 (fun r23 M24 => if r23 = true then (some (.inl M24)) else (some ((.inr (false, M24))))))) else (if (if zsd (tp.getD a 0) = 0 then (-1 : Int32) else nI (zsd (tp.getD a 0))) = (-1 : Int32) then (some ((.inr (false, zz_si M 73 9 (zfc 1 a))))) else ((f_X10_waitsFor (if zsd (tp.getD a 0) = 0 then (-1 : Int32) else nI (zsd (tp.getD a 0))) (nI 0) M).bind (fun M13 => zbd (zz_si M13 73 7 ((M13.1 73 7) + (nI 1))) (fun M14 => (f_X10_readsPart M14).bind (fun q15 => zpr q15 (fun r16 M17 => if r16 = true then (some (.inl M17)) else (some ((.inr (false, M17)))))))))))  := by
        unfold b_X10_readsLaw_24
        rw [mHere hT hn hl (by omega), Option.bind_some, hsn, ifm1 (by omega), Option.bind_some, zsd_is _ hx, hT.1, hwr]
        rfl
      by_cases h41 : tp.getD a 0 = 41
      · rw [ifEq_t h41] at hb
        have hs0 : ¬ (a < n ∧ zsd (tp.getD a 0) ≠ 0) := fun hh => hh.2 (by rw [h41]; rfl)
        rcases h6 with hst | ⟨r, hst⟩
        · subst hst
          have hz : zlst tp n (false, code, [], a) = .inl (zfc 1 a) := by
            unfold zlst
            simp only [Bool.false_eq_true, if_false]
            rw [if_neg hs0, if_neg (show ¬ (a < n ∧ tp.getD a 0 = 41 ∧ 0 < znop []) from fun hh => absurd hh.2.2 (by decide))]
          refine hstop hz hw ?_
          rw [hb]
          unfold f_X10_closes
          rw [mTop0 x2, Option.bind_some, if_neg (by decide), hT.1, hwr]
          rfl
        · subst hst
          have hno : znop ((13, 0) :: r) = znop r + 1 := rfl
          have hz : zlst tp n (false, code, (13, 0) :: r, a) = .inr (false, code ++ (zset r).1, (zset r).2, a + 1) := by
            unfold zlst
            simp only [Bool.false_eq_true, if_false]
            rw [if_neg hs0, if_pos (show a < n ∧ tp.getD a 0 = 41 ∧ 0 < znop ((13, 0) :: r) from ⟨han, h41, by omega⟩)]
            rfl
          obtain ⟨i1, i2⟩ := zLI_s (by omega) hI hz
          rw [hw, if_neg (by decide), hz, zsb_r] at hLR
          simp only [List.length_cons] at h3
          have x2' : M.1 73 12 = nI (r.length + 1) := x2
          have f5 : zFr (fun k i => k = 73 ∧ (i = 12 ∨ i = 13 ∨ i = 7)) M (zz_si (zz_si (zz_si M 73 12 (nI r.length)) 73 13 (nI (znop r))) 73 7 (nI (a + 1))) := ((zFr.si (by omega)).trans (zFr.si (by omega))).trans (zFr.si (by omega))
          have hT5 : zMS (zz_si (zz_si (zz_si M 73 12 (nI r.length)) 73 13 (nI (znop r))) 73 7 (nI (a + 1))) tp n (a + 1) := (hT.frS (S := fun k i => k = 73 ∧ (i = 12 ∨ i = 13)) ((zFr.si (by omega)).trans (zFr.si (by omega))) (by omega) (by omega) (by intro i; omega)).go
          have h12 : (zz_si (zz_si (zz_si M 73 12 (nI r.length)) 73 13 (nI (znop r))) 73 7 (nI (a + 1))).1 73 12 = nI r.length := by rw [rd_ne (by omega), rd_ne (by omega), rd_eq]
          have h13 : (zz_si (zz_si (zz_si M 73 12 (nI r.length)) 73 13 (nI (znop r))) 73 7 (nI (a + 1))).1 73 13 = nI (znop r) := by rw [rd_ne (by omega), rd_eq]
          have hcl : f_X10_closes M = (f_X10_settles (zz_si (zz_si (zz_si M 73 12 (nI r.length)) 73 13 (nI (znop r))) 73 7 (nI (a + 1)))).bind (fun M6 => some ((true, M6))) := by
            unfold f_X10_closes
            rw [mTop x2 x3 (by omega) (by show 13 ≤ 13; omega) (by show 0 < 65536; omega), Option.bind_some, ifEq_t rfl]
            simp only [zbd]
            rw [x2', nIsub (by omega), Nat.add_sub_cancel, rd_ne (show ¬ (73 = 73 ∧ 13 = 12) by omega), x4, hno, nIsub (by omega), Nat.add_sub_cancel, rd_ne (show ¬ (73 = 73 ∧ 7 = 13) by omega), rd_ne (show ¬ (73 = 73 ∧ 7 = 12) by omega), hT.1, nIadd]
          generalize zz_si (zz_si (zz_si M 73 12 (nI r.length)) 73 13 (nI (znop r))) 73 7 (nI (a + 1)) = M5 at f5 hT5 h12 h13 hcl
          obtain ⟨M6, r1, r2, r3, r4, r5, r6⟩ := mSettle r code M5 ⟨by rw [(f5 _ _ (by omega)).1]; exact x1.1, fun j q hq => by rw [(f5 _ _ (by omega)).1]; exact x1.2 j q hq⟩ h12 (x3.2.fr (fun i _ => by rw [(f5 _ _ (by omega)).1])) h13 h1.2 (by omega) (by omega)
          refine hgo (false, code ++ (zset r).1, (zset r).2, a + 1) M6 hLR i1 rfl (by show a < a + 1; omega) (hT5.frS r6 (by omega) (by omega) (by intro i; omega)) ⟨r2, r3, r4, r5⟩ ((f5.weak (fun k i hh => by unfold zmL; omega)).trans (r6.weak (fun k i hh => by unfold zmL; omega))) ?_
          rw [hb, hcl, r1]
          rfl
      · rw [ifEq_f h41 (by omega) (by omega)] at hb
        by_cases hs0 : zsd (tp.getD a 0) = 0
        · rw [if_pos hs0] at hb
          have hz : zlst tp n (false, code, st, a) = .inl (zfc 1 a) := by
            unfold zlst
            simp only [Bool.false_eq_true, if_false]
            rw [if_neg (show ¬ (a < n ∧ zsd (tp.getD a 0) ≠ 0) from fun hh => hh.2 hs0), if_neg (show ¬ (a < n ∧ tp.getD a 0 = 41 ∧ 0 < znop st) from fun hh => h41 hh.2.1)]
          refine hstop hz hw ?_
          rw [hb, if_pos rfl]
        · obtain ⟨d1, d2, d3⟩ := zsd_c hs0
          rw [if_neg hs0, ifm1 (by omega)] at hb
          have hz : zlst tp n (false, code, st, a) = .inr (true, code, (zsd (tp.getD a 0), 0) :: st, a + 1) := by
            unfold zlst
            simp only [Bool.false_eq_true, if_false]
            rw [if_pos (show a < n ∧ zsd (tp.getD a 0) ≠ 0 from ⟨han, hs0⟩)]
          obtain ⟨i1, i2⟩ := zLI_s (by omega) hI hz
          rw [hw, if_neg (by decide), hz, zsb_r] at hLR
          have hno : znop ((zsd (tp.getD a 0), 0) :: st) = znop st := by show (if 10 ≤ zsd (tp.getD a 0) then _ else _) = _; rw [if_neg (by omega)]
          obtain ⟨M13, y1, y2, y3, y4⟩ := mWaits (code := code) (due := true) (a := 0) (d := zsd (tp.getD a 0)) (v := 0) (M := M) (st := st) x2 x3 (by omega)
          have h713 : M13.1 73 7 = nI a := by rw [(y4 _ _ (by omega)).1]; exact hT.1
          rw [y1, Option.bind_some] at hb
          simp only [zbd] at hb
          rw [h713, nIadd] at hb
          have hT13 := hT.frS y4 (by omega) (by omega) (by intro i; omega)
          obtain ⟨b, M17, p1, p2, p3⟩ := mPart htx hn hl h60 (f + 1) (true, code, (zsd (tp.getD a 0), 0) :: st, a + 1) (zz_si M13 73 7 (nI (a + 1))) i1 rfl (by show n + 1 ≤ a + 1 + (f + 1); omega) hT13.go ⟨⟨by rw [rd_ne (by omega), (y4 _ _ (by omega)).1]; exact x1.1, fun j q hq => by rw [rd_ne (by omega), (y4 _ _ (by omega)).1]; exact x1.2 j q hq⟩, by rw [rd_ne (by omega)]; exact y2, y3.fr (fun i _ => by rw [rd_ne (by omega)]), by rw [rd_ne (by omega), (y4 _ _ (by omega)).1, x4]; show _ = nI (znop ((zsd (tp.getD a 0), 0) :: st)); rw [hno]⟩
          have fM : zFr zmL M M17 := ((y4.weak (fun k i hh => by unfold zmL; omega)).trans (zFr.si (by unfold zmL; omega))).trans p2
          rw [p1] at hb
          rcases p3 with ⟨rfl, g, q2, q3⟩ | ⟨rfl, s', q2, q3, q4, q5, q6, q7⟩
          · refine ⟨false, M17, zlp_done hb, fM, fun g' hg' => ?_, fun c hc => ?_⟩
            · rw [hLR, q2] at hg'
              exact ⟨rfl, by rw [q3]; exact Sum.inl.inj hg'⟩
            · rw [hLR, q2] at hc; cases hc
          · have q7 : a + 1 < s'.2.2.2 := q7
            exact hgo s' M17 (hLR.trans q4) q3 q2 (by omega) q5 q6 fM hb
    · have hsn : zsn tp n a = (-1 : Int32) := by unfold zsn; rw [if_neg han]
      by_cases h0 : znop st = 0
      · have hw : zlwh n (false, code, st, a) = true := by
          unfold zlwh
          simp only
          rw [decide_eq_true (show n ≤ a by omega), decide_eq_true h0]; rfl
        rw [hw, if_pos rfl] at hLR
        refine ⟨true, M, zlp_up (o := some (true, M)) ?_, zFr.refl M, fun g hg => ?_, fun c hc => ?_⟩
        · show b_X10_readsLaw_24 M = _
          unfold b_X10_readsLaw_24
          rw [mHere hT hn hl (by omega), Option.bind_some, hsn, if_pos rfl, x4, ifE0_t h0]; rfl
        · rw [hLR] at hg; cases hg
        · rw [hLR] at hc
          have hc : code = c := Sum.inr.inj hc
          rw [← hc]; exact ⟨rfl, x1⟩
      · have hw : zlwh n (false, code, st, a) = false := by
          unfold zlwh
          simp only
          rw [decide_eq_false h0, Bool.and_false, Bool.and_false]
        have hz : zlst tp n (false, code, st, a) = .inl (zfc 1 a) := by
          unfold zlst
          simp only [Bool.false_eq_true, if_false]
          rw [if_neg (show ¬ (a < n ∧ zsd (tp.getD a 0) ≠ 0) from fun hh => han hh.1), if_neg (show ¬ (a < n ∧ tp.getD a 0 = 41 ∧ 0 < znop st) from fun hh => han hh.1)]
        refine hstop hz hw ?_
        unfold b_X10_readsLaw_24
        rw [mHere hT hn hl (by omega), Option.bind_some, hsn, if_pos rfl, x4, ifE0_f (by omega) (by omega), hT.1, hwr]; rfl
theorem zLI_0 : zLI n (true, [], [], 0) := ⟨trivial, by show 0 ≤ 6; omega, by show 0 ≤ 0; omega, by show 0 ≤ n; omega, rfl, fun h => by cases h⟩
theorem mLawR {M : zzMem} (htx : ∀ x ∈ tp, x < 256) (hn : n ≤ tp.length) (hl : tp.length ≤ 320) (h60 : n ≤ 60) (hT : zMS M tp n 0) : ∃ ok M', f_X10_readsLaw M = some (ok, M') ∧ zFr zmL M M' ∧ (∀ g, zLR tp n (true, [], [], 0) = .inl g → ok = false ∧ M'.1 73 9 = g) ∧ ∀ code, zLR tp n (true, [], [], 0) = .inr code → ok = true ∧ zMd M' code := by
  have f3 : zFr (fun k i => k = 73 ∧ 11 ≤ i ∧ i ≤ 13) M (zz_si (zz_si (zz_si M 73 11 (nI 0)) 73 12 (nI 0)) 73 13 (nI 0)) := ((zFr.si (by omega)).trans (zFr.si (by omega))).trans (zFr.si (by omega))
  have h11 : (zz_si (zz_si (zz_si M 73 11 (nI 0)) 73 12 (nI 0)) 73 13 (nI 0)).1 73 11 = nI 0 := by rw [rd_ne (by omega), rd_ne (by omega), rd_eq]
  have h12 : (zz_si (zz_si (zz_si M 73 11 (nI 0)) 73 12 (nI 0)) 73 13 (nI 0)).1 73 12 = nI 0 := by rw [rd_ne (by omega), rd_eq]
  have h13 : (zz_si (zz_si (zz_si M 73 11 (nI 0)) 73 12 (nI 0)) 73 13 (nI 0)).1 73 13 = nI 0 := rd_eq
  unfold f_X10_readsLaw
  simp only [zbd]
  generalize zz_si (zz_si (zz_si M 73 11 (nI 0)) 73 12 (nI 0)) 73 13 (nI 0) = M3 at f3 h11 h12 h13
  obtain ⟨b, M6, p1, p2, p3⟩ := mPart htx hn hl h60 (n + 1) (true, [], [], 0) M3 zLI_0 rfl (by show n + 1 ≤ 0 + (n + 1); omega) (hT.frS f3 (by omega) (by omega) (by intro i; omega)) ⟨⟨h11, fun j q hq => by simp at hq⟩, h12, trivial, h13⟩
  have fM : zFr zmL M M6 := (f3.weak (fun k i hh => by unfold zmL; omega)).trans p2
  rw [p1]
  simp only [Option.bind_some, zpr]
  rcases p3 with ⟨rfl, g, q2, q3⟩ | ⟨rfl, s', q2, q3, q4, q5, q6, q7⟩
  · rw [if_neg (by decide)]
    refine ⟨false, M6, rfl, fM, fun g' hg' => ?_, fun c hc => ?_⟩
    · rw [q2] at hg'
      exact ⟨rfl, by rw [q3]; exact Sum.inl.inj hg'⟩
    · rw [q2] at hc; cases hc
  · rw [if_pos rfl, q4]
    obtain ⟨ok, M', r1, r2, r3, r4⟩ := mBehind htx hn hl h60 (n + 1) s' M6 q3 q2 (by omega) q5 q6
    exact ⟨ok, M', r1, fM.trans r2, r3, r4⟩
def zlw (A : zzA) (code : List (Nat × Nat)) : zzA := (A.1, A.2.1, A.2.2.1, A.2.2.2.1, code, A.2.2.2.2.2)
theorem zE_nil {N : Nat} {A : zzA} (hW : zWF N A) (hS : zA_S A = []) (b : Nat) : zA_E A b = [] := by
  cases h : zA_E A b with
  | nil => rfl
  | cons q r =>
    have : q.1 ∈ zA_S A := (hW.2.2.2.2.2.2.2.2.1.2.2 q.1).mpr ⟨b, q.2, by rw [h]; exact List.mem_cons_self ..⟩
    rw [hS] at this; cases this
theorem zlw_wf {N : Nat} {A : zzA} {code : List (Nat × Nat)} (hW : zWF N A) (hS : zA_S A = []) (hc : zLok code) : zWF (N + 1) (zlw A code) := by
  have hE := zE_nil hW hS
  obtain ⟨h1, h2, h3, h4, h5, h6, h7, h8, h9, h10⟩ := hW.up
  refine ⟨⟨h1.1, h1.2.1, h1.2.2.1, h1.2.2.2.1, h1.2.2.2.2.1, h1.2.2.2.2.2.1, h1.2.2.2.2.2.2.1, h1.2.2.2.2.2.2.2.1, h1.2.2.2.2.2.2.2.2.1, h1.2.2.2.2.2.2.2.2.2.1, h1.2.2.2.2.2.2.2.2.2.2.1, hc⟩, h2, fun b q hq => ?_, h4, h5, h6, h7, h8, ⟨h9.1, ?_, h9.2.2⟩, h10⟩
  · have hq : q ∈ zA_E A b := hq
    rw [hE b] at hq; cases hq
  · show List.Pairwise _ (zA_S A)
    rw [hS]; exact List.Pairwise.nil
theorem zcd_get {code : List (Nat × Nat)} {j : Nat} (h : j < code.length) : code[j]? = some code[j] := List.getElem?_eq_getElem h
set_option maxHeartbeats 1000000 in
theorem op_law (N : Nat) (a : Int32) : zSame N (f_X9_law a) (f_X10_law a) := by
  refine zSame.tp (fun hN tp A hW htl htx => ?_)
  have h300 : (zA_S A).length ≤ 300 := hW.2.2.2.2.2.2.2.2.1.1
  rcases inC a 1 60 (by decide) (by decide) with ⟨ha, n, hn1, hn2, rfl⟩ | ha
  · by_cases hnt : n ≤ tp.length
    · have hopen : ∀ M, zCt M tp → zRC M 12 A → ∃ M2, zTS M2 tp n 0 0 ∧ zFr (fun a i => a = 1 ∧ 1 ≤ i) M M2 ∧ M2.1 1 1 = nI 0 ∧ zRC M2 12 A ∧ f_X9_law (nI n) M = (if (M2.1 27 1) ≤ 0 then ((f_X4_read M2).bind (fun q4 => zpr q4 (fun r5 M6 => if r5 = 0 then ((f_X3_take 13 4 (M6.1 3 1) M6).bind (fun M8 => some (((M8.1 27 1), M8)))) else (some ((r5, M6)))))) else (some (((-3 : Int32), M2)))) := by
        intro M hc h
        obtain ⟨o1, o2, o3⟩ := cOpenT (n := n) hc
        have hhas : f_X8_has (nI n) (nI 1) (nI 60) M = true := by
          unfold f_X8_has
          rw [if_pos ha, hc.1, ifLt_f hnt (by omega)]
        have hun : f_X9_law (nI n) M = (if ((f_X8_open (nI n) M).1 27 1) ≤ 0 then ((f_X4_read (f_X8_open (nI n) M)).bind (fun q4 => zpr q4 (fun r5 M6 => if r5 = 0 then ((f_X3_take 13 4 (M6.1 3 1) M6).bind (fun M8 => some (((M8.1 27 1), M8)))) else (some ((r5, M6)))))) else (some (((-3 : Int32), f_X8_open (nI n) M)))) := by
          unfold f_X9_law
          rw [if_pos hhas]
          rfl
        generalize f_X8_open (nI n) M = M2 at o1 o2 o3 hun
        exact ⟨M2, o1, o2, o3, h.frS o2 (by intro k i; omega), hun⟩
      have hmo : ∀ M, zMt M tp → f_X10_law (nI n) M = (if (M.1 74 7) ≤ 0 then (zbd (zz_si M 73 7 (nI 0)) (fun M4 => zbd (zz_si M4 73 8 (nI n)) (fun M5 => (f_X10_readsLaw M5).bind (fun q6 => zpr q6 (fun r7 M8 => zbd (zz_si M8 73 6 (nI 0)) (fun M9 => if r7 = true then (zbd (zz_si M9 74 23 (M9.1 73 11)) (fun M11 => j_X10_law_80 (nI 0) M11)) else (some (((M9.1 73 9), M9))))))))) else (zbd (zz_si M 73 6 (nI 0)) (fun M12 => some (((-3 : Int32), M12))))) := by
        intro M hc
        unfold f_X10_law
        rw [in_eq, if_pos ha, hc.1, ifLe_t hnt (by omega)]
      by_cases hS0 : (zA_S A).length = 0
      · have hS : zA_S A = [] := List.eq_nil_of_length_eq_zero hS0
        have hcls : ∀ M, zCt M tp → zRC M 12 A → ∃ M6, f_X9_law (nI n) M = (if zgs (zLR tp n (true, [], [], 0)) = 0 then ((f_X3_take 13 4 (M6.1 3 1) M6).bind (fun M8 => some (((M8.1 27 1), M8)))) else (some ((zgs (zLR tp n (true, [], [], 0)), M6)))) ∧ zRC M6 12 A ∧ zCt M6 [] ∧ zFr zcT M M6 ∧ ∀ code, zLR tp n (true, [], [], 0) = .inr code → zCd M6 (code.map zcc) := by
          intro M hc h
          obtain ⟨M2, o1, o2, o3, o4, hun⟩ := hopen M hc h
          have h27 : M2.1 27 1 = nI (zA_S A).length := o4.2.2.2.1.1
          rw [h27, ifLe0_t hS0] at hun
          have f4 : zFr (fun k i => (k = 3 ∨ k = 6)) M2 (zz_si (zz_si (zz_si (zz_si M2 3 1 (nI 0)) 3 4 (nI 0)) 6 0 (nI 0)) 3 5 (nI 1)) := (((zFr.si (by omega)).trans (zFr.si (by omega))).trans (zFr.si (by omega))).trans (zFr.si (by omega))
          have hT4 := o1.frS f4 (by intro i; omega) (by intro i; omega)
          have hC4 : zLC (zz_si (zz_si (zz_si (zz_si M2 3 1 (nI 0)) 3 4 (nI 0)) 6 0 (nI 0)) 3 5 (nI 1)) (true, [], [], 0) := ⟨⟨by rw [rd_ne (by omega), rd_ne (by omega), rd_ne (by omega), rd_eq]; rfl, fun j x hx => by simp at hx⟩, by rw [rd_ne (by omega), rd_ne (by omega), rd_eq]; rfl, trivial, by show _ = nI 0; rw [rd_ne (by show ¬ (6 = 3 ∧ znop [] = 5); omega)]; exact rd_eq, by rw [rd_eq]; rfl⟩
          have hun2 : f_X4_read M2 = zlp (fun s : (Int32 × zzMem) => b_X4_read_24 s.1 s.2) (nI 0, zz_si (zz_si (zz_si (zz_si M2 3 1 (nI 0)) 3 4 (nI 0)) 6 0 (nI 0)) 3 5 (nI 1)) := rfl
          rw [hun2] at hun
          generalize zz_si (zz_si (zz_si (zz_si M2 3 1 (nI 0)) 3 4 (nI 0)) 6 0 (nI 0)) 3 5 (nI 1) = M4 at f4 hT4 hC4 hun
          obtain ⟨r, M6, r1, r2, r3, r4⟩ := cLrun htx hnt htl hn2 (n + 1) 0 (true, [], [], 0) M4 zLI_0 (by show n + 1 ≤ 0 + (n + 1); omega) (Nat.le_refl _) hT4 hC4
          rw [r1] at hun
          have fM : zFr (fun k i => (k = 1 ∧ 1 ≤ i) ∨ (3 ≤ k ∧ k ≤ 6)) M M6 := ((o2.weak (fun k i hh => by omega)).trans (f4.weak (fun k i hh => by omega))).trans (r2.weak (fun k i hh => by unfold zcL at hh; omega))
          refine ⟨M6, ?_, h.frS fM (by intro k i; omega), ⟨?_, fun i x hx => by simp at hx⟩, fM.weak (fun k i hh => by unfold zcT zcS; omega), r4⟩
          · rw [hun, ← r3]; rfl
          · rw [(r2 _ _ (by unfold zcL; omega)).1, (f4 _ _ (by omega)).1]; exact o3
        have hmod : ∀ M, zMt M tp → zRM M 0 N A → ∃ ok M9, f_X10_law (nI n) M = (if ok = true then (zbd (zz_si M9 74 23 (M9.1 73 11)) (fun M11 => j_X10_law_80 (nI 0) M11)) else (some (((M9.1 73 9), M9)))) ∧ zRM M9 0 N A ∧ zMt M9 [] ∧ zFr zmT M M9 ∧ (∀ g, zLR tp n (true, [], [], 0) = .inl g → ok = false ∧ M9.1 73 9 = g) ∧ ∀ code, zLR tp n (true, [], [], 0) = .inr code → ok = true ∧ zMd M9 code := by
          intro M hc h
          have h7 : M.1 74 7 = nI (zA_S A).length := h.1.2.2.2.2.2.2.2.1
          have hun := hmo M hc
          rw [h7, ifLe0_t hS0] at hun
          simp only [zbd] at hun
          have f5 : zFr (fun k j => k = 73 ∧ (j = 7 ∨ j = 8)) M (zz_si (zz_si M 73 7 (nI 0)) 73 8 (nI n)) := (zFr.si (by omega)).trans (zFr.si (by omega))
          have hT : zMS (zz_si (zz_si M 73 7 (nI 0)) 73 8 (nI n)) tp n 0 := ⟨by rw [rd_ne (by omega), rd_eq], rd_eq, fun i x hx => by rw [(f5 _ _ (by omega)).1]; exact hc.2 i x hx⟩
          generalize zz_si (zz_si M 73 7 (nI 0)) 73 8 (nI n) = M5 at f5 hT hun
          obtain ⟨ok, M8, r1, r2, r3, r4⟩ := mLawR htx hnt htl hn2 hT
          rw [r1] at hun
          have fM : zFr (fun k j => (k = 73 ∧ 6 ≤ j) ∨ k = 76 ∨ k = 77) M (zz_si M8 73 6 (nI 0)) := ((f5.weak (fun k j hh => by omega)).trans (r2.weak (fun k j hh => by unfold zmL at hh; omega))).trans (zFr.si (by omega))
          refine ⟨ok, zz_si M8 73 6 (nI 0), hun, h.frS hW fM (by intro i; omega), ⟨by rw [rd_eq]; rfl, fun i x hx => by simp at hx⟩, fM.weak (fun k j hh => by unfold zmT zmS; omega), fun g hg => ?_, fun code hc => ?_⟩
          · rw [rd_ne (by omega)]; exact r3 g hg
          · obtain ⟨s1, s2, s3⟩ := r4 code hc
            exact ⟨s1, by rw [rd_ne (by omega)]; exact s2, fun j q hq => by rw [rd_ne (by omega)]; exact s3 j q hq⟩
        cases hz : zLR tp n (true, [], [], 0) with
        | inl g =>
          have hg := zLR_ne (by omega) (n + 1) (true, [], [], 0) zLI_0 (by show n + 1 ≤ 0 + (n + 1); omega) g hz
          refine ⟨g, A, hW.up, Or.inl ⟨fun M hc h => ?_, fun M hc h => ?_⟩⟩
          · obtain ⟨M6, c1, c2, c3, c4, c5⟩ := hcls M hc h
            rw [hz] at c1
            exact ⟨M6, by rw [c1]; exact if_neg hg, c3, c2, c4⟩
          · obtain ⟨ok, M9, d1, d2, d3, d4, d5, d6⟩ := hmod M hc h
            obtain ⟨rfl, q2⟩ := d5 g hz
            refine ⟨M9, ?_, d3, d2.up, d4⟩
            rw [d1, if_neg (by decide), q2]
        | inr code =>
          obtain ⟨k1, k2⟩ := zLR_ok (by omega) (n + 1) (true, [], [], 0) zLI_0 (by show n + 1 ≤ 0 + (n + 1); omega) code hz
          have k2 : code.length ≤ 60 := by omega
          refine ⟨nI (zA_S A).length, zlw A code, zlw_wf hW hS ⟨k1, k2⟩, Or.inl ⟨fun M hc h => ?_, fun M hc h => ?_⟩⟩
          · obtain ⟨M6, c1, c2, c3, c4, c5⟩ := hcls M hc h
            rw [hz] at c1
            obtain ⟨s1, s2⟩ := c5 code hz
            rw [List.length_map] at s1
            have hz6 : zmn (nI 60) (nI 60) = nI 60 := zmn_nI (by decide) (by decide)
            have ht : f_X3_take 13 4 (M6.1 3 1) M6 = some (zz_ci (zz_si M6 13 2 (nI code.length)) 4 (nI 0) 14 (nI 0) (nI code.length)) := by
              unfold f_X3_take
              simp only [zbd]
              rw [hz6, s1, zmn_nI (by omega) (by decide), Nat.min_eq_left k2, rd_eq, zgd_t (cpok k2 (by decide))]
            have f8 : zFr (fun k i => (k = 13 ∧ i = 2) ∨ k = 14) M6 (zz_ci (zz_si M6 13 2 (nI code.length)) 4 (nI 0) 14 (nI 0) (nI code.length)) := (zFr.si (by omega)).trans (zFr.ci (by omega) (by intro i; omega))
            have hl1 : (zz_ci (zz_si M6 13 2 (nI code.length)) 4 (nI 0) 14 (nI 0) (nI code.length)).1 13 2 = nI code.length := by rw [cin (by omega) (by omega), rd_eq]
            have hl2 : ∀ (j : Nat) (h : j < code.length), (zz_ci (zz_si M6 13 2 (nI code.length)) 4 (nI 0) 14 (nI 0) (nI code.length)).1 14 j = zcc code[j] := by
              intro j hj
              rw [cie (by omega) hj, rd_ne (by omega)]
              exact s2 j _ (by rw [List.getElem?_map, zcd_get hj]; rfl)
            rw [ht, Option.bind_some] at c1
            generalize zz_ci (zz_si M6 13 2 (nI code.length)) 4 (nI 0) 14 (nI 0) (nI code.length) = M8 at c1 f8 hl1 hl2
            have h27 : M8.1 27 1 = nI (zA_S A).length := by rw [(f8 _ _ (by omega)).1]; exact c2.2.2.2.1.1
            obtain ⟨g1, g2, g3, g4, g5⟩ := c2
            refine ⟨M8, by rw [c1, h27]; exact if_pos rfl, c3.frS f8 (by omega) (by intro i; omega), ⟨g1.frS f8 (by intro i; omega) (by omega), ⟨hl1, hl2⟩, ?_, ⟨h27, fun i k hk => ?_⟩, g5.frS f8 (by intro i; omega) (by intro i; omega)⟩, c4.trans (f8.weak (fun k i hh => by unfold zcT zcS; omega))⟩
            · obtain ⟨e1, e2, e3, e4, e5, e6, -⟩ := g3.frS f8 (by intro k i; omega)
              refine ⟨e1, e2, e3, e4, e5, e6, fun b hb i q p hi => ?_⟩
              have hi : (zA_E A b)[i]? = some q := hi
              rw [zE_nil hW hS b] at hi; simp at hi
            · have hk : (zA_S A)[i]? = some k := hk
              rw [hS] at hk; simp at hk
          · obtain ⟨ok, M9, d1, d2, d3, d4, d5, d6⟩ := hmod M hc h
            obtain ⟨rfl, s1, s2⟩ := d6 code hz
            rw [if_pos rfl] at d1
            simp only [zbd] at d1
            rw [s1] at d1
            have hZ := zlp_forI (B := fun s : (Int32 × zzMem) => b_X10_law_80 s.1 s.2) (fun t X => (nI t, X)) (fun t X => zFr (fun k i => k = 74 ∧ (i = 23 ∨ (1752 ≤ i ∧ i < 1812))) M9 X ∧ X.1 74 23 = nI code.length ∧ ∀ (j : Nat) (h : j < code.length), j < t → X.1 74 (1752 + j) = zcm code[j]) code.length (fun r => r.1 = nI (zA_S A).length ∧ zFr (fun k i => k = 74 ∧ (i = 23 ∨ (1752 ≤ i ∧ i < 1812))) M9 r.2 ∧ r.2.1 74 23 = nI code.length ∧ ∀ (j : Nat) (h : j < code.length), r.2.1 74 (1752 + j) = zcm code[j]) (fun t ht X hX => ?_) (fun X hX => ?_) 0 (by omega) (zz_si M9 74 23 (nI code.length)) ⟨zFr.si (by omega), rd_eq, fun j _ hj => by omega⟩
            · obtain ⟨⟨r, M'⟩, r1, r2, r3, r4, r5⟩ := hZ
              simp only at r2 r3 r4 r5
              subst r2
              have e2' := d2.up
              obtain ⟨g1, g2, ⟨cm, xs, ke, ve, be, se, hcm, e⟩, g4, g5⟩ := e2'
              refine ⟨M', by rw [d1]; exact r1, d3.frS r3 (by omega) (by intro i; omega), ⟨g1.frS r3 (by intro i; omega), ⟨r4, fun j hj => by rw [show 0 + 1752 + j = 1752 + j by omega]; exact r5 j hj⟩, ⟨cm, xs, ke, ve, be, se, hcm, e.frS h300 r3 (by intro i; omega)⟩, g4.frS hW.2.2.2.2.2.1 r3 (by intro i; omega), g5.frS r3 (by intro i; omega)⟩, d4.trans (r3.weak (fun k i hh => by unfold zmT zmS; omega))⟩
            · obtain ⟨x1, x2, x3⟩ := hX
              have e11 : X.1 73 11 = nI code.length := by rw [(x1 _ _ (by omega)).1]; exact s1
              have e76 : X.1 76 t = zcm code[t] := by rw [(x1 _ _ (by omega)).1]; exact s2 t _ (zcd_get ht)
              refine ⟨zz_si X 74 (1752 + t) (zcm code[t]), ?_, x1.trans (zFr.si (by omega)), by rw [rd_ne (by omega)]; exact x2, fun j hj hjt => ?_⟩
              · show b_X10_law_80 (nI t) X = _
                unfold b_X10_law_80
                rw [e11, ifLe_f ht (by omega), nIadd]
                simp (disch := omega) only [zgd_in, nIc, e76, zbd, nIadd]
              · by_cases hjt' : j = t
                · subst hjt'; exact rd_eq
                · rw [rd_ne (by omega)]; exact x3 j hj (by omega)
            · obtain ⟨x1, x2, x3⟩ := hX
              have e11 : X.1 73 11 = nI code.length := by rw [(x1 _ _ (by omega)).1]; exact s1
              have e7 : X.1 74 7 = nI (zA_S A).length := by rw [(x1 _ _ (by omega)).1]; exact d2.1.2.2.2.2.2.2.2.1
              refine ⟨(nI (zA_S A).length, X), ?_, rfl, x1, x2, fun j hj => x3 j hj hj⟩
              show b_X10_law_80 (nI code.length) X = _
              unfold b_X10_law_80
              rw [e11, ifLe_t (Nat.le_refl _) (by omega), e7]
      · refine ⟨(-3 : Int32), A, hW.up, Or.inl ⟨fun M hc h => ?_, fun M hc h => ?_⟩⟩
        · obtain ⟨M2, o1, o2, o3, o4, hun⟩ := hopen M hc h
          have h27 : M2.1 27 1 = nI (zA_S A).length := o4.2.2.2.1.1
          refine ⟨M2, ?_, ⟨o3, fun i x hx => by simp at hx⟩, o4, o2.weak (fun k i hh => by unfold zcT; omega)⟩
          rw [hun, h27, ifLe0_f (by omega) (by omega)]
        · have h7 : M.1 74 7 = nI (zA_S A).length := h.1.2.2.2.2.2.2.2.1
          refine ⟨zz_si M 73 6 (nI 0), ?_, ⟨rd_eq, fun i x hx => by simp at hx⟩, (h.frS (S := fun k j => k = 73) hW (zFr.si rfl) (by intro i; omega)).up, zFr.si (by unfold zmT; omega)⟩
          rw [hmo M hc, h7, ifLe0_f (by omega) (by omega)]
          rfl
    · refine ⟨(-1 : Int32), A, hW.up, Or.inr ⟨fun M hc h => ⟨M, ?_, h, zFr.refl M⟩, fun M hc h => ⟨M, ?_, h.up, zFr.refl M⟩⟩⟩
      · unfold f_X9_law f_X8_has
        rw [if_pos ha, hc.1, ifLt_t (by omega) (by omega)]; rfl
      · unfold f_X10_law
        rw [in_eq, if_pos ha, hc.1, ifLe_f (by omega) (by omega)]
  · refine ⟨(-1 : Int32), A, hW.up, Or.inr ⟨fun M hc h => ⟨M, ?_, h, zFr.refl M⟩, fun M hc h => ⟨M, ?_, h.up, zFr.refl M⟩⟩⟩
    · unfold f_X9_law f_X8_has
      rw [ha]; rfl
    · unfold f_X10_law
      rw [in_eq, ha]; rfl
end LV
