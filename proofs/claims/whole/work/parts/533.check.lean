/-! ===== calls that read the tape ===== -/
def zCt (M : zzMem) (tp : List Nat) : Prop := M.1 1 1 = nI tp.length ∧ ∀ i x, tp[i]? = some x → M.1 2 i = nI x
def zMt (M : zzMem) (tp : List Nat) : Prop := M.1 73 6 = nI tp.length ∧ ∀ i x, tp[i]? = some x → M.1 75 i &&& 255 = nI x
def zcT : Nat → Nat → Prop := fun k i => zcS k i ∨ (k = 1 ∧ 1 ≤ i)
def zmT : Nat → Nat → Prop := fun k i => zmS k i ∨ (k = 73 ∧ i = 6)
theorem zCt.frS {M M' : zzMem} {S : Nat → Nat → Prop} {tp : List Nat} (hf : zFr S M M') (h1 : ¬ S 1 1) (h2 : ∀ i, ¬ S 2 i) (h : zCt M tp) : zCt M' tp :=
  ⟨by rw [(hf _ _ h1).1]; exact h.1, fun i x hx => by rw [(hf _ _ (h2 i)).1]; exact h.2 i x hx⟩
theorem zMt.frS {M M' : zzMem} {S : Nat → Nat → Prop} {tp : List Nat} (hf : zFr S M M') (h1 : ¬ S 73 6) (h2 : ∀ i, ¬ S 75 i) (h : zMt M tp) : zMt M' tp :=
  ⟨by rw [(hf _ _ h1).1]; exact h.1, fun i x hx => by rw [(hf _ _ (h2 i)).1]; exact h.2 i x hx⟩
theorem zSame.tp {α : Type} {N : Nat} {f g : zzMem → Option (α × zzMem)} (h : N ≤ 600 → ∀ tp A, zWF N A → tp.length ≤ 320 → (∀ x ∈ tp, x < 256) → ∃ r A', zWF (N + 1) A' ∧ ((∀ M, zCt M tp → zRC M 12 A → ∃ M1, f M = some (r, M1) ∧ zCt M1 [] ∧ zRC M1 12 A' ∧ zFr zcT M M1) ∧ (∀ M, zMt M tp → zRM M 0 N A → ∃ M2, g M = some (r, M2) ∧ zMt M2 [] ∧ zRM M2 0 (N + 1) A' ∧ zFr zmT M M2) ∨
    (∀ M, zCt M tp → zRC M 12 A → ∃ M1, f M = some (r, M1) ∧ zRC M1 12 A' ∧ zFr zcS M M1) ∧ (∀ M, zMt M tp → zRM M 0 N A → ∃ M2, g M = some (r, M2) ∧ zRM M2 0 (N + 1) A' ∧ zFr zmS M M2))) : zSame N f g := by
  intro hN M hI
  obtain ⟨tp, A, h1, h2, h3, h4, h5⟩ := hI
  obtain ⟨t1, t2, t3, t4⟩ := h1
  have hc : zCt M tp := ⟨t2, fun i x hx => (t4 i x hx).2.1⟩
  have hm : zMt M tp := ⟨t3, fun i x hx => (t4 i x hx).2.2⟩
  have hx : ∀ x ∈ tp, x < 256 := fun x hx => by obtain ⟨i, hi⟩ := List.getElem?_of_mem hx; exact (t4 i x hi).1
  obtain ⟨r, A', w, ⟨hf, hg⟩ | ⟨hf, hg⟩⟩ := h hN tp A h2 t1 hx
  · obtain ⟨M1, f1, f2, f3, f4⟩ := hf M hc h3
    have h4' : zRM M1 0 N A := h4.frS h2 f4 (by intro i; unfold zcT zcS; omega)
    have hm' : zMt M1 tp := hm.frS f4 (by unfold zcT zcS; omega) (by intro i; unfold zcT zcS; omega)
    obtain ⟨M2, g1, g2, g3, g4⟩ := hg M1 hm' h4'
    refine ⟨r, M1, M2, f1, g1, [], A', ⟨by simp, ?_, g2.1, fun i x hx => by simp at hx⟩, w, ?_, g3, ?_⟩
    · rw [(g4 _ _ (by unfold zmT zmS; omega)).1]; exact f2.1
    · exact f3.frS g4 (by intro k i; unfold zmT zmS; omega)
    · exact zKp.frS ((f4.weak (S' := fun k i => zcT k i ∨ zmT k i) (fun k i h => Or.inl h)).trans (g4.weak (fun k i h => Or.inr h))) (by unfold zcT zmT zcS zmS; omega) (by unfold zcT zmT zcS zmS; omega) (by intro k i; unfold zcT zmT zcS zmS; omega) (by intro i; unfold zcT zmT zcS zmS; omega) h5
  · obtain ⟨M1, f1, f2, f3⟩ := hf M hc h3
    have h4' : zRM M1 0 N A := h4.frS h2 f3 (by intro i; unfold zcS; omega)
    have hm' : zMt M1 tp := hm.frS f3 (by unfold zcS; omega) (by intro i; unfold zcS; omega)
    obtain ⟨M2, g1, g2, g3⟩ := hg M1 hm' h4'
    refine ⟨r, M1, M2, f1, g1, tp, A', ?_, w, ?_, g2, ?_⟩
    · have h1 : zTp M tp := ⟨t1, t2, t3, t4⟩
      exact (h1.frS f3 (by unfold zcS; omega) (by unfold zcS; omega) (by intro i; unfold zcS; omega) (by intro i; unfold zcS; omega)).frS g3 (by unfold zmS; omega) (by unfold zmS; omega) (by intro i; unfold zmS; omega) (by intro i; unfold zmS; omega)
    · exact f2.frS g3 (by intro k i; unfold zmS; omega)
    · exact zKp.frS ((f3.weak (S' := fun k i => zcS k i ∨ zmS k i) (fun k i h => Or.inl h)).trans (g3.weak (fun k i h => Or.inr h))) (by unfold zcS zmS; omega) (by unfold zcS zmS; omega) (by intro k i; unfold zcS zmS; omega) (by intro i; unfold zcS zmS; omega) h5
/-! ===== check ===== -/
noncomputable def zvl (A : zzA) (k : Nat) : Nat := match zfi (zA_E A (zA_a A k)) k with
  | some t => t.2
  | none => 0
theorem nI_m1 (x : Int32) : x + (-1 : Int32) = x - nI 1 := by rw [Int32.sub_eq_add_neg]; rfl
section CK
variable {N : Nat} {A : zzA}
theorem cValueOf {M : zzMem} {o k : Nat} (hW : zWF N A) (h : zRC M o A) (hk : k < 65536) (hS : k ∈ zA_S A) : ∃ M', f_X2_valueOf o (nI k) M = some (nI (zvl A k), M') ∧ zFr (fun a _ => a = o + 3) M M' := by
  have hb : zA_a A k < 64 := by have := hW.adr k; have := hW.sB; omega
  have hc6 := hW.1.2.2.2.1
  obtain ⟨M3, e1, e2⟩ := cHash (o := o + 1) h.2.1 hW.hok hk
  have h' : zRC M3 o A := h.frS e2 (by intro k i; omega)
  have ha : f_X2_addressOf o (nI (zhs (zA_law A) k)) M3 = some (nI (zA_a A k)) := cAdr hW h'.1 hk
  refine ⟨M3, ?_, e2⟩
  obtain ⟨t, ht⟩ := (zS_fi hW k).mp hS
  unfold f_X2_valueOf zvl
  rw [e1]
  simp only [Option.bind_some, zpr, ha]
  rcases cSlot hW h'.2.2.1 hb hk with ⟨z1, z2⟩ | ⟨i, v, p, z1, z2, z3, z4, z5, z6⟩
  · rw [z1] at ht; cases ht
  · rw [z1, z6]
    have h7 := h'.2.2.1.2.2.2.2.2.2 _ hb i _ p z2 z3
    obtain ⟨q1, q2, q3⟩ := hW.ent _ _ (List.mem_of_getElem? z2)
    simp (disch := omega) only [Option.bind_some, ifm1, zgd_in, nIc]
    rw [show o + 9 = o + 4 + 5 by omega, h7, zen_val q1 q2 q3]
theorem zvl_ve {M : zzMem} {s0 cm : Nat} {xs : Nat → List Nat} {ke ve be se : Nat → Nat} (hW : zWF N A) (e : zMe M s0 (zA_S A).length cm (zA_E A) xs ke ve be se) {x : Nat} (hx : x < (zA_S A).length) : zvl A (ke x) = ve x ∧ zA_a A (ke x) = be x ∧ ve x < 256 := by
  have hmem := (e.2.1 x hx).2.2.2.2.2
  obtain ⟨i, hi⟩ := List.getElem?_of_mem hmem
  have hE : (zA_E A (be x))[i]? = some (ke x, ve x) := by rw [e.2.2.2.2, List.getElem?_map, hi]; rfl
  have hb := hW.2.2.1 _ _ (List.mem_of_getElem? hE)
  refine ⟨?_, hb.2.2, hb.2.1⟩
  unfold zvl
  rw [show zA_a A (ke x) = be x from hb.2.2, zfi_of (hW.2.2.2.1 _) hE]
theorem zvl_lt (hW : zWF N A) (k : Nat) : zvl A k < 256 := by
  unfold zvl
  cases hz : zfi (zA_E A (zA_a A k)) k with
  | none => exact (by decide)
  | some t => exact (hW.2.2.1 _ _ (List.mem_of_getElem? (zfi_some (i := t.1) (v := t.2) hz))).2.1
end CK
set_option maxHeartbeats 1000000 in
theorem op_check (N : Nat) (a : Int32) : zSame N (f_X9_check a) (f_X10_check a) := by
  refine zSame.tp (fun hN tp A hW htl htx => ?_)
  have hlen := hW.2.2.2.2.2.2.2.2.1.1
  rcases inC a 0 300 (by decide) (by decide) with ⟨ha, n, -, hn, rfl⟩ | ha
  · by_cases hnt : n ≤ tp.length
    · let bad : Nat → Bool := fun i => decide ((zA_S A).length ≤ i) || !decide (zvl A ((zA_S A).getD i 0) = tp.getD i 0)
      obtain ⟨b1, b2, b3, b4⟩ := zfs_ok bad n 0
      have hget : ∀ i, i < n → tp[i]? = some (tp.getD i 0) ∧ tp.getD i 0 < 256 := fun i hi => by
        have := List.getElem?_eq_getElem (show i < tp.length by omega)
        have h2 : tp.getD i 0 = tp[i]'(by omega) := by rw [List.getD_eq_getElem?_getD, this]; rfl
        rw [h2]
        exact ⟨this, htx _ (List.getElem_mem _)⟩
      refine ⟨if zfs bad 0 n = n then (-1 : Int32) else nI (zfs bad 0 n), A, hW.up, Or.inl ⟨fun M hc h => ?_, fun M hc h => ?_⟩⟩
      · let M2 : zzMem := f_X8_open (nI n) M
        have hM2 : M2 = zz_si (zz_si (zz_si (zz_si M 1 3 (nI n)) 1 4 (nI 0)) 1 2 (nI 0)) 1 1 (nI 0) := rfl
        have f2 : zFr (fun a i => a = 1 ∧ 1 ≤ i) M M2 := by
          rw [hM2]
          refine (((zFr.si ?_).trans (zFr.si ?_)).trans (zFr.si ?_)).trans (zFr.si ?_) <;> omega
        have h2 : zRC M2 12 A := h.frS f2 (by intro k i; omega)
        have hb2 : ∀ i x, tp[i]? = some x → M2.1 2 i = nI x := fun i x hx => by rw [(f2 _ _ (by omega)).1]; exact hc.2 i x hx
        have h11 : M2.1 1 1 = nI 0 := by rw [hM2, rd_eq]
        have hstep : ∀ t, t < zfs bad 0 n → ∀ X, zFr (fun a _ => a = 15) M2 X → ∃ X', b_X9_check_28 (nI n) (nI t) X = some (.inl (nI (t + 1), X')) ∧ zFr (fun a _ => a = 15) M2 X' := by
          intro t ht X hX
          have hbt := b3 t (by omega) ht
          have hbt : (decide ((zA_S A).length ≤ t) || !decide (zvl A ((zA_S A).getD t 0) = tp.getD t 0)) = false := hbt
          simp only [Bool.or_eq_false_iff, decide_eq_false_iff_not, Bool.not_eq_false', decide_eq_true_eq] at hbt
          have hXc : zRC X 12 A := h2.frS hX (by intro k i; omega)
          have hs1 : X.1 27 1 = nI (zA_S A).length := hXc.2.2.2.1.1
          have hmem := List.mem_of_getElem? (zgetD (show t < (zA_S A).length by omega))
          have hka := cKeyAt (o := 27) hW hXc.2.2.2.1 (show t < (zA_S A).length by omega)
          obtain ⟨X', v1, v2⟩ := cValueOf hW hXc (hW.key hmem) hmem
          have fX' : zFr (fun a _ => a = 15) M2 X' := hX.trans v2
          have htp : X'.1 2 t = nI (tp.getD t 0) := by rw [(fX' _ _ (by omega)).1]; exact hb2 t _ (hget t (by omega)).1
          refine ⟨X', ?_, fX'⟩
          unfold b_X9_check_28
          rw [ifLe_f (by omega) (by omega), hs1, ifLe_f (by omega) (by omega), hka, Option.bind_some, v1]
          simp (disch := omega) only [Option.bind_some, zpr, zgd_in, nIc, htp, hbt.2, if_true, zbd, nIadd]
        have hZ := zlp_forI (B := fun s : (Int32 × zzMem) => b_X9_check_28 (nI n) s.1 s.2) (fun t X => (nI t, X)) (fun t X => zFr (fun a _ => a = 15) M2 X) (zfs bad 0 n) (fun r => r.1 = (if zfs bad 0 n = n then (-1 : Int32) else nI (zfs bad 0 n)) ∧ zFr (fun a _ => a = 15) M2 r.2) (fun t ht X hX => hstep t ht X hX) (fun X hX => ?_) 0 (by omega) M2 (zFr.refl M2)
        · obtain ⟨r, r1, r2, r3⟩ := hZ
          refine ⟨r.2, ?_, ⟨?_, fun i x hx => by simp at hx⟩, h2.frS r3 (by intro k i; omega), (f2.weak (fun k i h => by unfold zcT; omega)).trans (r3.weak (fun k i h => by unfold zcT zcS; omega))⟩
          · have hhas : f_X8_has (nI n) (nI 0) (nI 300) M = true := by
              unfold f_X8_has
              rw [if_pos ha, hc.1, ifLt_f hnt (by omega)]
            unfold f_X9_check j_X9_check_28
            rw [if_pos hhas]
            simp only [zbd]
            rw [← r2]
            exact r1
          · rw [(r3 _ _ (by omega)).1]; exact h11
        · show ∃ r, b_X9_check_28 (nI n) (nI (zfs bad 0 n)) X = _ ∧ _
          unfold b_X9_check_28
          by_cases hzn : zfs bad 0 n = n
          · rw [hzn, ifLe_t (Nat.le_refl _) (by omega)]
            exact ⟨((-1 : Int32), X), rfl, by rw [if_pos rfl], hX⟩
          · have hbt := b4 (by omega)
            rw [ifLe_f (by omega) (by omega), if_neg hzn]
            generalize hzd : zfs bad 0 n = z at *
            have hbt : (decide ((zA_S A).length ≤ z) || !decide (zvl A ((zA_S A).getD z 0) = tp.getD z 0)) = true := hbt
            have hXc : zRC X 12 A := h2.frS hX (by intro k i; omega)
            have hs1 : X.1 27 1 = nI (zA_S A).length := hXc.2.2.2.1.1
            rw [hs1]
            by_cases hlz : (zA_S A).length ≤ z
            · rw [ifLe_t hlz (by omega)]
              exact ⟨(nI z, X), rfl, rfl, hX⟩
            · rw [decide_eq_false hlz, Bool.false_or, Bool.not_eq_true', decide_eq_false_iff_not] at hbt
              have hmem := List.mem_of_getElem? (zgetD (show z < (zA_S A).length by omega))
              have hka := cKeyAt (o := 27) hW hXc.2.2.2.1 (show z < (zA_S A).length by omega)
              obtain ⟨X', v1, v2⟩ := cValueOf hW hXc (hW.key hmem) hmem
              have fX' : zFr (fun a _ => a = 15) M2 X' := hX.trans v2
              have hg := hget z (by omega)
              have htp : X'.1 2 z = nI (tp.getD z 0) := by rw [(fX' _ _ (by omega)).1]; exact hb2 z _ hg.1
              have hvl := zvl_lt hW ((zA_S A).getD z 0)
              refine ⟨(nI z, X'), ?_, rfl, fX'⟩
              rw [ifLe_f (by omega) (by omega), hka, Option.bind_some, v1]
              simp (disch := omega) only [Option.bind_some, zpr, zgd_in, nIc, htp, ifEq_f]
      · obtain ⟨cm, xs, ke, ve, be, se, hcm, e, hm, hm3, hx, hc1⟩ := h.rc.fx hW
        obtain ⟨X, x1, x2, x3⟩ := zsrt hW e
        obtain ⟨M3, o1, o2, o3⟩ := mOrders hW h.1 h.2.1 e x1 x2 x3
        have hXl : X.length = (zA_S A).length := by rw [← x1, List.length_map]
        have hm3' : M3.1 74 7 = nI (zA_S A).length := by rw [(o3 _ _ (by omega)).1]; exact hm
        have hordv : ∀ i, i < (zA_S A).length → ∃ x, x < (zA_S A).length ∧ M3.1 84 i = nI x ∧ M3.1 74 (340 + x) = nI (zvl A ((zA_S A).getD i 0)) := fun i hi => by
          have hg := List.getElem?_eq_getElem (show i < X.length by omega)
          generalize X[i]'(by omega) = x at hg
          have hxm := (x2 x).mp (List.mem_of_getElem? hg)
          have hk : (zA_S A).getD i 0 = ke x := by rw [List.getD_eq_getElem?_getD, ← x1, List.getElem?_map, hg]; rfl
          refine ⟨x, hxm, o2 i x hg, ?_⟩
          rw [hk, (zvl_ve hW e hxm).1, (o3 _ _ (by omega)).1]
          have := (e.2.1 x hxm).2.1
          simpa using this
        have hW2 : ∀ t, t < n → zfs bad (n - (t + 1)) (t + 1) = if bad (n - (t + 1)) = true then n - (t + 1) else zfs bad (n - t) t := fun t ht => by
          rw [zfs, show n - (t + 1) + 1 = n - t by omega]
        have hZ := zlp_for (B := fun s : (Int32 × Int32) => b_X10_check_32 s.1 s.2 M3) (fun t => (if zfs bad (n - t) t = n then (-1 : Int32) else nI (zfs bad (n - t) t), nI (n - t) - nI 1)) n ((if zfs bad 0 n = n then (-1 : Int32) else nI (zfs bad 0 n)), zz_si M3 73 6 (nI 0)) (fun t ht => ?_) ?_ 0 (by omega)
        · refine ⟨zz_si M3 73 6 (nI 0), ?_, ⟨by rw [rd_eq]; rfl, fun i x hx => by simp at hx⟩, ?_, (o3.weak (fun k i h => by unfold zmT zmS; omega)).trans (zFr.si (by unfold zmT; omega))⟩
          · unfold f_X10_check j_X10_check_32
            rw [in_eq, if_pos ha, hc.1, ifLe_t hnt (by omega), o1]
            simp only [Option.bind_some, zbd]
            rw [← hZ]
            show _ = zlp _ (if zfs bad (n - 0) 0 = n then (-1 : Int32) else nI (zfs bad (n - 0) 0), nI (n - 0) - nI 1)
            rw [Nat.sub_zero, zfs, if_pos rfl]
          · exact ((h.frS hW o3 (by intro i; omega)).frS (S := fun a i => a = 73) hW (zFr.si rfl) (by intro i; omega)).up
        · show b_X10_check_32 _ (nI (n - t) - nI 1) M3 = some (.inl (_, nI (n - (t + 1)) - nI 1))
          rw [nIsub (show 1 ≤ n - t by omega), show n - t - 1 = n - (t + 1) by omega]
          unfold b_X10_check_32 j_X10_check_75
          have hg := hget (n - (t + 1)) (by omega)
          have h75 := hc.2 _ _ hg.1
          have h75' : M3.1 75 (n - (t + 1)) &&& nI 255 = nI (tp.getD (n - (t + 1)) 0) := by rw [(o3 _ _ (by omega)).1]; exact h75
          rw [ifL0 (by omega), hm3', hW2 t ht]
          simp only [zbd, nI_m1]
          have hne : n - (t + 1) ≠ n := by omega
          by_cases hl : (zA_S A).length ≤ n - (t + 1)
          · have hbd : bad (n - (t + 1)) = true := by show (decide _ || _) = true; rw [decide_eq_true hl]; rfl
            rw [ifLe_t hl (by omega), if_pos hbd, if_neg hne]
          · obtain ⟨x, y1, y2, y3⟩ := hordv (n - (t + 1)) (by omega)
            have hvl := zvl_lt hW ((zA_S A).getD (n - (t + 1)) 0)
            rw [ifLe_f (by omega) (by omega)]
            simp (disch := omega) only [zgd_in, nIc, y2, nIadd, y3, h75']
            by_cases heq : zvl A ((zA_S A).getD (n - (t + 1)) 0) = tp.getD (n - (t + 1)) 0
            · have hbd : bad (n - (t + 1)) = false := by show (decide _ || _) = false; rw [decide_eq_false hl, decide_eq_true heq]; rfl
              rw [ifEq_t heq.symm, hbd]
              simp only [Bool.false_eq_true, if_false]
            · have hbd : bad (n - (t + 1)) = true := by show (decide _ || _) = true; rw [decide_eq_false heq]; simp
              rw [ifEq_f (fun hh => heq hh.symm) (by omega) (by omega), if_pos hbd, if_neg hne]
        · show b_X10_check_32 (if zfs bad (n - n) n = n then (-1 : Int32) else nI (zfs bad (n - n) n)) (nI (n - n) - nI 1) M3 = _
          rw [Nat.sub_self]
          unfold b_X10_check_32
          rw [if_pos (show nI 0 - nI 1 < 0 by decide)]
          rfl
    · refine ⟨(-2 : Int32), A, hW.up, Or.inr ⟨fun M hc h => ⟨M, ?_, h, zFr.refl M⟩, fun M hc h => ⟨M, ?_, h.up, zFr.refl M⟩⟩⟩
      · unfold f_X9_check f_X8_has
        rw [if_pos ha, hc.1, ifLt_t (by omega) (by omega)]; rfl
      · unfold f_X10_check
        rw [in_eq, if_pos ha, hc.1, ifLe_f (by omega) (by omega)]
  · refine ⟨(-2 : Int32), A, hW.up, Or.inr ⟨fun M hc h => ⟨M, ?_, h, zFr.refl M⟩, fun M hc h => ⟨M, ?_, h.up, zFr.refl M⟩⟩⟩
    · unfold f_X9_check f_X8_has
      rw [ha]; rfl
    · unfold f_X10_check
      rw [in_eq, ha]; rfl
