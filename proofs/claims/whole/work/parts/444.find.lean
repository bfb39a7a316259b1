/-! ===== from one value of the file to the next ===== -/
/-- the reference's memory, with a bound of its stamps -/
def zRc (M : zzMem) (s0 C : Nat) (A : zzA) : Prop :=
  zMi M s0 A ∧ zLm M s0 (zA_law A) ∧ (∃ cm xs ke ve be se, cm ≤ C ∧ zMe M s0 (zA_S A).length cm (zA_E A) xs ke ve be se) ∧ zMp M s0 (zA_G A) ∧ zMs M s0 (zA_sc A)
theorem zRM.rc {M : zzMem} {s0 N : Nat} {A : zzA} (h : zRM M s0 N A) : zRc M s0 (400000 * N) A := h
theorem zRc.rm {M : zzMem} {s0 N C : Nat} {A : zzA} (h : zRc M s0 C A) (hC : C ≤ 400000 * N) : zRM M s0 N A := by
  obtain ⟨h1, h2, ⟨cm, xs, ke, ve, be, se, hcm, e⟩, h4⟩ := h
  exact ⟨h1, h2, ⟨cm, xs, ke, ve, be, se, by omega, e⟩, h4⟩
theorem zRc.frS {M M' : zzMem} {S : Nat → Nat → Prop} {A : zzA} {s0 C N' : Nat} (hW : zWF N' A) (hf : zFr S M M') (h1 : ∀ i, s0 ≤ i → i < s0 + 1892 → ¬ S 74 i) (h : zRc M s0 C A) : zRc M' s0 C A := by
  obtain ⟨g1, g2, ⟨cm, xs, ke, ve, be, se, hcm, e⟩, g4, g5⟩ := h
  have hm : (zA_S A).length ≤ 300 := hW.2.2.2.2.2.2.2.2.1.1
  have hl : (zA_law A).length ≤ 60 := hW.1.2.2.2.2.2.2.2.2.2.2.2.2
  exact ⟨g1.frS hf (fun i hi => h1 i (by omega) (by omega)), g2.frS hl hf (fun i hi => h1 i (by omega) (by omega)), ⟨cm, xs, ke, ve, be, se, hcm, e.frS hm hf (fun i hi => h1 i (by omega) (by omega))⟩,
    g4.frS hW.2.2.2.2.2.1 hf (fun i hi => h1 i (by omega) (by omega)), g5.frS hf (fun i hi => h1 i (by omega) (by omega))⟩
theorem zRc.fx {N C : Nat} {M : zzMem} {A : zzA} (hW : zWF N A) (h4 : zRc M 0 C A) : ∃ cm xs ke ve be se, cm ≤ C ∧ zMe M 0 (zA_S A).length cm (zA_E A) xs ke ve be se ∧ M.1 74 7 = nI (zA_S A).length ∧ (zA_S A).length ≤ 300 ∧ (∀ x, x < (zA_S A).length → be x < zA_B A ∧ ke x < 65536 ∧ ve x < 256) ∧ M.1 74 1 = nI (zA_c A) := by
  obtain ⟨hm, -, ⟨cm, xs, ke, ve, be, se, hcm, e⟩, -⟩ := h4
  refine ⟨cm, xs, ke, ve, be, se, hcm, e, by have := hm.2.2.2.2.2.2.2.1; simpa using this, hW.2.2.2.2.2.2.2.2.1.1, fun x hx => ?_, by have := hm.2.1; simpa using this⟩
  have h1 : (ke x, ve x) ∈ zA_E A (be x) := by rw [e.2.2.2.2]; exact List.mem_map.mpr ⟨x, (e.2.1 x hx).2.2.2.2.2, rfl⟩
  refine ⟨?_, (hW.2.2.1 _ _ h1).1, (hW.2.2.1 _ _ h1).2.1⟩
  rcases Nat.lt_or_ge (be x) (zA_B A) with h | h
  · exact h
  · rw [(hW.2.1 _ h).1] at h1; cases h1
/-- what the class's calls may change, and the reference's -/
def zcS : Nat → Nat → Prop := fun k i => (k = 12 ∧ 4 ≤ i) ∨ (13 ≤ k ∧ k ≤ 31) ∨ (52 ≤ k ∧ k ≤ 72) ∨ (3 ≤ k ∧ k ≤ 11) ∨ (k = 1 ∧ 2 ≤ i)
def zmS : Nat → Nat → Prop := fun k i => (k = 74 ∧ i < 1892) ∨ (76 ≤ k ∧ k ≤ 90) ∨ (k = 73 ∧ 7 ≤ i)
/-- what puts, drops, splits and joins of the reference change -/
def zmN : Nat → Nat → Prop := fun k i => (k = 74 ∧ i < 1892) ∨ k = 78 ∨ k = 79 ∨ (k = 73 ∧ i = 15)
theorem zmN_S {k i : Nat} (h : zmN k i) : zmS k i := by unfold zmN at h; unfold zmS; omega
theorem zcpS_c {k i : Nat} (h : zcpS 12 k i) : zcS k i := by unfold zcpS at h; unfold zcS; omega
/-- both go over to the same value -/
theorem zSame.tr {α : Type} {N : Nat} {f g : zzMem → Option (α × zzMem)} (h : N ≤ 600 → ∀ A, zWF N A → ∃ r A', zWF (N + 1) A' ∧ (∀ M, zRC M 12 A → ∃ M1, f M = some (r, M1) ∧ zRC M1 12 A' ∧ zFr zcS M M1) ∧ (∀ M, zRM M 0 N A → ∃ M2, g M = some (r, M2) ∧ zRM M2 0 (N + 1) A' ∧ zFr zmS M M2)) : zSame N f g := by
  intro hN M hI
  obtain ⟨tp, A, h1, h2, h3, h4, h5⟩ := hI
  obtain ⟨r, A', w, hf, hg⟩ := h hN A h2
  obtain ⟨M1, f1, f2, f3⟩ := hf M h3
  have h4' : zRM M1 0 N A := h4.frS h2 f3 (by intro i; unfold zcS; omega)
  obtain ⟨M2, g1, g2, g3⟩ := hg M1 h4'
  refine ⟨r, M1, M2, f1, g1, tp, A', ?_, w, ?_, g2, ?_⟩
  · exact (h1.frS f3 (by unfold zcS; omega) (by unfold zcS; omega) (by intro i; unfold zcS; omega) (by intro i; unfold zcS; omega)).frS g3 (by unfold zmS; omega) (by unfold zmS; omega) (by intro i; unfold zmS; omega) (by intro i; unfold zmS; omega)
  · exact f2.frS g3 (by intro k i; unfold zmS; omega)
  · exact zKp.frS ((f3.weak (S' := fun k i => zcS k i ∨ zmS k i) (fun k i h => Or.inl h)).trans (g3.weak (fun k i h => Or.inr h))) (by unfold zcS zmS; omega) (by unfold zcS zmS; omega) (by intro k i; unfold zcS zmS; omega) (by intro i; unfold zcS zmS; omega) h5
/-- where a key stands in a row, and its value -/
def zfi : List (Nat × Nat) → Nat → Option (Nat × Nat)
  | [], _ => none
  | q :: r, k => if q.1 = k then some (0, q.2) else (zfi r k).map (fun t => (t.1 + 1, t.2))
theorem zfi_some : ∀ {l : List (Nat × Nat)} {k i v : Nat}, zfi l k = some (i, v) → l[i]? = some (k, v)
  | [], k, i, v, h => by cases h
  | q :: r, k, i, v, h => by
    unfold zfi at h
    by_cases hq : q.1 = k
    · rw [if_pos hq] at h
      cases h
      rw [List.getElem?_cons_zero, ← hq]
    · rw [if_neg hq] at h
      cases hr : zfi r k with
      | none => rw [hr] at h; cases h
      | some t =>
        rw [hr] at h
        cases h
        rw [List.getElem?_cons_succ]
        exact zfi_some hr
theorem zfi_none : ∀ {l : List (Nat × Nat)} {k : Nat}, zfi l k = none → ∀ v, (k, v) ∉ l
  | [], k, h, v => by simp
  | q :: r, k, h, v => by
    unfold zfi at h
    by_cases hq : q.1 = k
    · rw [if_pos hq] at h; cases h
    · rw [if_neg hq] at h
      cases hr : zfi r k with
      | none =>
        have := zfi_none hr v
        intro hm
        rcases List.mem_cons.mp hm with h1 | h1
        · rw [← h1] at hq; exact hq rfl
        · exact this h1
      | some t => rw [hr] at h; cases h
theorem zfi_of {l : List (Nat × Nat)} (hn : (l.map Prod.fst).Nodup) {k i v : Nat} (h : l[i]? = some (k, v)) : zfi l k = some (i, v) := by
  cases hz : zfi l k with
  | none => exact absurd (List.mem_of_getElem? h) (zfi_none hz v)
  | some t =>
    have h2 := zfi_some (i := t.1) (v := t.2) hz
    have e1 : (l.map Prod.fst)[i]? = some k := by rw [List.getElem?_map, h]; rfl
    have e2 : (l.map Prod.fst)[t.1]? = some k := by rw [List.getElem?_map, h2]; rfl
    obtain ⟨l1, g1⟩ := List.getElem?_eq_some_iff.mp e1
    obtain ⟨l2, g2⟩ := List.getElem?_eq_some_iff.mp e2
    have := (List.getElem_inj hn).mp (g1.trans g2.symm)
    rw [← this, h] at h2
    have hv : t.2 = v := by cases h2; rfl
    rw [show t = (t.1, t.2) from rfl, ← this, hv]
/-- counters set -/
def zct (A : zzA) (rd wr sp jn : Int32) : zzA := (A.1, A.2.1, (rd, wr, sp, jn), A.2.2.2)
theorem zct_wf {N : Nat} {A : zzA} {rd wr sp jn : Int32} (h : zWF N A) : zWF N (zct A rd wr sp jn) := h
theorem zWF.hok {N : Nat} {A : zzA} (h : zWF N A) : zLok (zA_law A) := h.1.2.2.2.2.2.2.2.2.2.2.2
theorem zWF.adr {N : Nat} {A : zzA} (h : zWF N A) (k : Nat) : zA_a A k < zA_B A := by
  have h1 := h.sB
  unfold zA_a zadr zA_B
  by_cases hc : zA_h A k % zA_s A < zA_pt A
  · rw [if_pos hc]
    have h2 : zA_h A k % (2 * zA_s A) = zA_h A k % zA_s A ∨ zA_h A k % (2 * zA_s A) = zA_h A k % zA_s A + zA_s A := by
      have e1 : zA_h A k % (2 * zA_s A) % zA_s A = zA_h A k % zA_s A := Nat.mod_mod_of_dvd _ ⟨2, Nat.mul_comm _ _⟩
      have e2 := Nat.mod_lt (zA_h A k) (show 2 * zA_s A > 0 by omega)
      rcases Nat.lt_or_ge (zA_h A k % (2 * zA_s A)) (zA_s A) with h | h
      · left; rw [← e1, Nat.mod_eq_of_lt h]
      · right
        rw [Nat.mod_eq_sub_mod h, Nat.mod_eq_of_lt (by omega)] at e1
        omega
    omega
  · rw [if_neg hc]
    have := Nat.mod_lt (zA_h A k) (show zA_s A > 0 by omega)
    omega
section LK
variable {N : Nat} {A : zzA}
/-- a find -/
noncomputable def zlook (A : zzA) (k : Nat) : Int32 × zzA := match zfi (zA_E A (zA_a A k)) k with
  | some t => (nI t.2, zct A (zA_rd A + nI (t.1 / zA_c A + 1)) (zA_wr A) (zA_sp A) (zA_jn A))
  | none => ((-2 : Int32), zct A (zA_rd A + nI (zA_G A (zA_a A k)).length) (zA_wr A) (zA_sp A) (zA_jn A))
theorem zlook_wf (h : zWF N A) (k : Nat) : zWF N (zlook A k).2 := by
  unfold zlook
  split <;> exact zct_wf h
/-- what a find costs -/
noncomputable def zrds (A : zzA) (k : Nat) : Nat := match zfi (zA_E A (zA_a A k)) k with
  | some t => t.1 / zA_c A + 1
  | none => (zA_G A (zA_a A k)).length
theorem zgetG (hW : zWF N A) {b i : Nat} (hi : i < (zA_E A b).length) : ∃ p, (zA_G A b)[i / zA_c A]? = some p ∧ p < 256 := by
  have hc := hW.1.2.2.1
  have hdiv : i / zA_c A < (zA_G A b).length := (Nat.div_lt_iff_lt_mul (by omega)).mpr (by have := hW.cap b; rw [Nat.mul_comm]; omega)
  exact ⟨_, List.getElem?_eq_getElem hdiv, hW.gok.1 b _ (List.getElem_mem hdiv)⟩
theorem cAdr {o k : Nat} {M : zzMem} (hW : zWF N A) (h : zCi M o A) (hk : k < 65536) : f_X2_addressOf o (nI (zA_h A k)) M = some (nI (zA_a A k)) := by
  have h1 := hW.sB
  have hh : zA_h A k < 65536 := zhs_lt hk hW.hok.1
  unfold f_X2_addressOf
  rw [cSpan hW h, h.2.2.2.2.2.1, cAddr hh (by omega) (by omega) (by omega)]
  rfl
theorem cSlot {o k b : Nat} {M : zzMem} (hW : zWF N A) (h : zCh M (o + 4) (zA_c A) (zA_h A) (zA_E A) (zA_G A)) (hb : b < 64) (hk : k < 65536) : (zfi (zA_E A b) k = none ∧ f_X0_slotOf (o + 4) (nI b) (nI k) M = some (-1 : Int32)) ∨ ∃ i v p, zfi (zA_E A b) k = some (i, v) ∧ (zA_E A b)[i]? = some (k, v) ∧ (zA_G A b)[i / zA_c A]? = some p ∧ p < 256 ∧ i % zA_c A < zA_c A ∧ f_X0_slotOf (o + 4) (nI b) (nI k) M = some (nI (6 * p + i % zA_c A)) := by
  have hc := hW.1.2.2.1
  have hc6 := hW.1.2.2.2.1
  have hE := hW.e300 b
  have hS := hW.2.2.2.2.2.2.2.2.1.1
  cases hz : zfi (zA_E A b) k with
  | none => exact Or.inl ⟨rfl, cSlotNo h hW.gok (by omega) hc6 hb (by omega) hk (hW.ent b) (zfi_none hz)⟩
  | some t =>
    have hi := zfi_some (i := t.1) (v := t.2) hz
    obtain ⟨p, hp1, hp2⟩ := zgetG hW (List.getElem?_eq_some_iff.mp hi).1
    exact Or.inr ⟨t.1, t.2, p, rfl, hi, hp1, hp2, Nat.mod_lt _ (by omega), cSlotIn h hW.gok (by omega) hc6 hb (by omega) hk (hW.ent b) (hW.2.2.2.1 b) hi hp1⟩
theorem cReadsFor {o k : Nat} {M : zzMem} (hW : zWF N A) (h : zRC M o A) (hk : k < 65536) : f_X2_readsFor o (nI k) (nI (zA_a A k)) M = some (nI (zrds A k)) := by
  have hb : zA_a A k < 64 := by have := hW.adr k; have := hW.sB; omega
  have hc6 := hW.1.2.2.2.1
  unfold f_X2_readsFor zrds
  rcases cSlot hW h.2.2.1 hb hk with ⟨z1, z2⟩ | ⟨i, v, p, z1, z2, z3, z4, z5, z6⟩
  · have h9 : M.1 (o + 13) (zA_a A k) = nI (zA_G A (zA_a A k)).length := h.2.2.1.2.1 _ hb
    rw [z1, z2]
    simp (disch := omega) only [Option.bind_some, if_true, zgd_in, nIc, h9]
  · have h2 : M.1 (o + 6) p = nI (i / zA_c A) := (h.2.2.1.2.2.2.2.2.1 _ hb _ p z3).2.1
    have hd : (6 * p + i % zA_c A) / 6 = p := by rw [Nat.mul_add_div (by omega), Nat.div_eq_of_lt (by omega)]; omega
    rw [z1, z6]
    simp (disch := omega) only [Option.bind_some, ifm1, nIdiv, hd, zgd_in, nIc, h2, nIadd]
theorem zRC.rdc {o : Nat} {M : zzMem} {r : Int32} (h : zRC M o A) : zRC (zz_si M o 10 r) o (zct A r (zA_wr A) (zA_sp A) (zA_jn A)) := by
  obtain ⟨⟨c1, c2, c3, c4, c5, c6, c7, c8, c9, c10, c11, c12⟩, h2, h3, h4, h5⟩ := h
  have hf : zFr (fun k i => k = o ∧ i = 10) M (zz_si M o 10 r) := zFr.si ⟨rfl, rfl⟩
  refine ⟨⟨?_, ?_, ?_, ?_, ?_, ?_, rd_eq, ?_, ?_, ?_, ?_, ?_⟩, h2.frS hf (by omega) (by intro i; omega), h3.frS hf (by intro k i; omega), h4.frS hf (by omega) (by intro i; omega), h5.frS hf (by intro i; omega) (by intro i; omega)⟩
  all_goals (rw [rd_ne (by omega)]; assumption)
theorem cLook {o k : Nat} {M : zzMem} (hW : zWF N A) (h : zRC M o A) (hk : k < 65536) : ∃ M', f_X2_look o (nI k) M = some ((zlook A k).1, M') ∧ zRC M' o (zlook A k).2 ∧ zFr (zcpS o) M M' := by
  have hb : zA_a A k < 64 := by have := hW.adr k; have := hW.sB; omega
  have hc6 := hW.1.2.2.2.1
  obtain ⟨M3, e1, e2⟩ := cHash (o := o + 1) h.2.1 hW.hok hk
  have h' : zRC M3 o A := h.frS e2 (by intro k i; omega)
  have hrd : M3.1 o 10 = zA_rd A := h'.1.2.2.2.2.2.2.1
  have h6 := h'.rdc (r := zA_rd A + nI (zrds A k))
  have hf : zFr (zcpS o) M (zz_si M3 o 10 (zA_rd A + nI (zrds A k))) := (e2.weak (fun k i h => by unfold zcpS; omega)).trans (zFr.si (by unfold zcpS; omega))
  refine ⟨zz_si M3 o 10 (zA_rd A + nI (zrds A k)), ?_, ?_, hf⟩
  · unfold f_X2_look
    have ha : f_X2_addressOf o (nI (zhs (zA_law A) k)) M3 = some (nI (zA_a A k)) := cAdr hW h'.1 hk
    simp only [e1, Option.bind_some, zpr, ha, cReadsFor hW h' hk, hrd, zbd]
    have hch : zCh (zz_si M3 o 10 (zA_rd A + nI (zrds A k))) (o + 4) (zA_c A) (zA_h A) (zA_E A) (zA_G A) := h6.2.2.1
    unfold zlook
    rcases cSlot hW hch hb hk with ⟨z1, z2⟩ | ⟨i, v, p, z1, z2, z3, z4, z5, z6⟩
    · rw [z1, z2]
      simp only [Option.bind_some, if_true]
    · rw [z1, z6]
      have h7 := hch.2.2.2.2.2.2 _ hb i _ p z2 z3
      obtain ⟨q1, q2, q3⟩ := hW.ent _ _ (List.mem_of_getElem? z2)
      simp (disch := omega) only [Option.bind_some, ifm1, zgd_in, nIc]
      rw [show o + 9 = o + 4 + 5 by omega, h7, zen_val q1 q2 q3]
  · unfold zlook
    cases hz : zfi (zA_E A (zA_a A k)) k with
    | none =>
      have : zrds A k = (zA_G A (zA_a A k)).length := by unfold zrds; rw [hz]
      rw [this] at h6 ⊢; exact h6
    | some t =>
      have : zrds A k = t.1 / zA_c A + 1 := by unfold zrds; rw [hz]
      rw [this] at h6 ⊢; exact h6
/-- the reference: where a key is -/
theorem mIdx {cm : Nat} {M : zzMem} {xs : Nat → List Nat} {ke ve be se : Nat → Nat} {k : Nat} (hW : zWF N A) (e : zMe M 0 (zA_S A).length cm (zA_E A) xs ke ve be se) (hm : M.1 74 7 = nI (zA_S A).length) (hk : k < 65536) (hke : ∀ x, x < (zA_S A).length → ke x < 65536) :
    (∃ x i, x < (zA_S A).length ∧ ke x = k ∧ (xs (zA_a A k))[i]? = some x ∧ be x = zA_a A k ∧ zfi (zA_E A (zA_a A k)) k = some (i, ve x) ∧ f_X10_entryOf (nI 0) (nI k) M = some (nI x)) ∨ (zfi (zA_E A (zA_a A k)) k = none ∧ (∀ x, x < (zA_S A).length → ke x ≠ k) ∧ f_X10_entryOf (nI 0) (nI k) M = some (-1 : Int32)) := by
  have hm3 := hW.2.2.2.2.2.2.2.2.1.1
  rcases mEntryOf (sl := 0) (s0 := 0) rfl (by omega) (by simpa using hm) hm3 e hke hk with ⟨x, h1, h2, h3⟩ | ⟨h1, h2⟩
  · left
    have hmem := (e.2.1 x h1).2.2.2.2.2
    obtain ⟨i, hi⟩ := List.getElem?_of_mem hmem
    have hE : (zA_E A (be x))[i]? = some (k, ve x) := by rw [e.2.2.2.2, List.getElem?_map, hi, ← h2]; rfl
    have hb : zA_a A k = be x := (hW.2.2.1 _ _ (List.mem_of_getElem? hE)).2.2
    rw [← hb] at hi hE
    exact ⟨x, i, h1, h2, hi, hb.symm, zfi_of (hW.2.2.2.1 _) hE, h3⟩
  · right
    refine ⟨?_, h1, h2⟩
    cases hz : zfi (zA_E A (zA_a A k)) k with
    | none => rfl
    | some t =>
      have hi := zfi_some (i := t.1) (v := t.2) hz
      rw [e.2.2.2.2, List.getElem?_map] at hi
      cases hx : (xs (zA_a A k))[t.1]? with
      | none => rw [hx] at hi; cases hi
      | some x =>
        rw [hx] at hi
        simp only [Option.map_some, Option.some.injEq, Prod.mk.injEq] at hi
        exact absurd hi.1 (h1 x (e.2.2.1 _ x (List.mem_of_getElem? hx)).1)
theorem mAdr {M : zzMem} {k : Nat} (hW : zWF N A) (h1 : zMi M 0 A) (h2 : zLm M 0 (zA_law A)) (hk : k < 65536) : ∃ M', f_X10_addressOf (nI k) M = some (nI (zA_a A k), M') ∧ zFr (fun a _ => a = 78) M M' := by
  obtain ⟨M', e1, e2⟩ := mHash (sl := 0) (by omega) h2 hW.hok hk
  have hB := hW.sB
  have hh : zA_h A k < 65536 := zhs_lt hk hW.hok.1
  have h1' : zMi M' 0 A := h1.frS e2 (by intro i hi; omega)
  have h6 : M'.1 74 6 = nI (zA_pt A) := by have := h1'.2.2.2.2.2.2.1; simpa using this
  refine ⟨M', ?_, e2⟩
  unfold f_X10_addressOf f_X10_addressIn
  rw [e1]
  simp only [Option.bind_some, zpr]
  rw [mFirst (sl := 0) (by omega) hW h1']
  have hm := Nat.mod_lt (zhs (zA_law A) k) (show zA_s A > 0 by omega)
  have hh' : zhs (zA_law A) k < 65536 := hh
  simp (disch := omega) only [Option.bind_some, nImul, nIadd, zgd_in, nIc, Nat.reduceMul, Nat.zero_add, h6, nIrem]
  rw [zgd_t (nI_ne0 (by omega) (by omega))]
  unfold zA_a zadr
  by_cases hc : zA_h A k % zA_s A < zA_pt A
  · have hc' : zhs (zA_law A) k % zA_s A < zA_pt A := hc
    rw [if_pos hc]
    simp (disch := omega) only [ifLe_f]
    rw [zgd_t (nI_ne0 (by omega) (by omega))]
    rfl
  · have hc' : ¬ zhs (zA_law A) k % zA_s A < zA_pt A := hc
    rw [if_neg hc]
    simp (disch := omega) only [ifLe_t]
    rfl
theorem mFindReads {M : zzMem} {C k : Nat} (hC : C < 2147483648) (hW : zWF N A) (h : zRc M 0 C A) (hk : k < 65536) : ∃ M', f_X10_findReads (nI k) M = some (nI (zrds A k), M') ∧ zFr (fun a _ => a = 78) M M' := by
  obtain ⟨cm, xs, ke, ve, be, se, hcm, e, hm, hm3, hx, hc1⟩ := h.fx hW
  have hB64 := hW.sB.2.2.1
  have hbe : ∀ x, x < (zA_S A).length → be x < 64 := fun x h => by have := (hx x h).1; omega
  have hc := hW.1.2.2.1
  have hc6 := hW.1.2.2.2.1
  unfold f_X10_findReads zrds
  rcases mIdx hW e hm hk (fun x h => (hx x h).2.1) with ⟨x, i, q1, q2, q3, q4, q5, q6⟩ | ⟨q1, q2, q3⟩
  · have hil := (List.getElem?_eq_some_iff.mp q3).1
    have := e.xlen (zA_a A k)
    refine ⟨M, ?_, zFr.refl M⟩
    rw [q6, q5]
    unfold f_X10_readsOf
    simp (disch := omega) only [Option.bind_some, ifm1, mPlaceOf hm hm3 e (by omega) hbe q3, hc1, nIdiv, nIadd]
    rw [zgd_t (nI_ne0 (by omega) (by omega))]
    rfl
  · obtain ⟨M', a1, a2⟩ := mAdr hW h.1 h.2.1 hk
    refine ⟨M', ?_, a2⟩
    have hp : zMp M' 0 (zA_G A) := h.2.2.2.1.frS hW.2.2.2.2.2.1 a2 (by intro i; omega)
    rw [q1, q3]
    simp (disch := omega) only [Option.bind_some, if_true, a1, zpr, mChainG hW.gok hp (show zA_a A k < 64 by have := hW.adr k; omega)]
theorem zRc.rdc {M : zzMem} {C : Nat} {r : Int32} (hW : zWF N A) (h : zRc M 0 C A) : zRc (zz_si M 74 8 r) 0 C (zct A r (zA_wr A) (zA_sp A) (zA_jn A)) := by
  have hm : (zA_S A).length ≤ 300 := hW.2.2.2.2.2.2.2.2.1.1
  have hl : (zA_law A).length ≤ 60 := hW.1.2.2.2.2.2.2.2.2.2.2.2.2
  obtain ⟨⟨c1, c2, c3, c4, c5, c6, c7, c8, c9, c10, c11, c12, c13⟩, h2, ⟨cm, xs, ke, ve, be, se, hcm, e⟩, h4, h5⟩ := h
  have hf : zFr (fun k i => k = 74 ∧ i = 8) M (zz_si M 74 8 r) := zFr.si ⟨rfl, rfl⟩
  refine ⟨⟨?_, ?_, ?_, ?_, ?_, ?_, ?_, ?_, rd_eq, ?_, ?_, ?_, ?_⟩, h2.frS hl hf (by intro i; omega), ⟨cm, xs, ke, ve, be, se, hcm, e.frS hm hf (by intro i; omega)⟩, h4.frS hW.2.2.2.2.2.1 hf (by intro i; omega), h5.frS hf (by intro i; omega)⟩
  all_goals (rw [rd_ne (by omega)]; assumption)
theorem mLook {M : zzMem} {C k : Nat} (hC : C < 2147483648) (hW : zWF N A) (h : zRc M 0 C A) (hk : k < 65536) : ∃ M', f_X10_finds0 (nI k) M = some ((zlook A k).1, M') ∧ zRc M' 0 C (zlook A k).2 ∧ zFr zmN M M' := by
  obtain ⟨M4, a1, a2⟩ := mFindReads hC hW h hk
  have h' : zRc M4 0 C A := h.frS hW a2 (by intro i; omega)
  have h6 := h'.rdc hW (r := zA_rd A + nI (zrds A k))
  have hf : zFr zmN M (zz_si M4 74 8 (zA_rd A + nI (zrds A k))) := (a2.weak (fun k i h => by unfold zmN; omega)).trans (zFr.si (by unfold zmN; omega))
  have hrd : M.1 74 8 = zA_rd A := by have := h.1.2.2.2.2.2.2.2.2.1; simpa using this
  obtain ⟨cm, xs, ke, ve, be, se, hcm, e, hm, hm3, hx, hc1⟩ := h.fx hW
  refine ⟨zz_si M4 74 8 (zA_rd A + nI (zrds A k)), ?_, ?_, hf⟩
  · unfold f_X10_finds0 zlook
    rcases mIdx hW e hm hk (fun x h => (hx x h).2.1) with ⟨x, i, q1, q2, q3, q4, q5, q6⟩ | ⟨q1, q2, q3⟩
    · have hv : M.1 74 (340 + x) = nI (ve x) := by have := (e.2.1 x q1).2.1; simpa using this
      rw [q6, q5]
      simp (disch := omega) only [Option.bind_some, a1, zpr, zbd, hrd, ifm1, nIadd, zgd_in, nIc, rd_ne]
      rw [(a2 74 _ (by omega)).1, hv]
    · rw [q1, q3]
      simp only [Option.bind_some, a1, zpr, zbd, hrd, if_true]
  · unfold zlook
    cases hz : zfi (zA_E A (zA_a A k)) k with
    | none =>
      have : zrds A k = (zA_G A (zA_a A k)).length := by unfold zrds; rw [hz]
      rw [this] at h6 ⊢; exact h6
    | some t =>
      have : zrds A k = t.1 / zA_c A + 1 := by unfold zrds; rw [hz]
      rw [this] at h6 ⊢; exact h6
end LK
theorem op_find (N : Nat) (a : Int32) : zSame N (f_X9_find a) (f_X10_find a) := by
  rcases keyC a with ⟨ha, k, hk, rfl⟩ | ha
  · refine zSame.tr (fun hN A hW => ⟨(zlook A k).1, (zlook A k).2, (zlook_wf hW k).up, fun M h => ?_, fun M h => ?_⟩)
    · obtain ⟨M', e1, e2, e3⟩ := cLook hW h hk
      refine ⟨M', ?_, e2, e3.weak (fun k i h => zcpS_c h)⟩
      unfold f_X9_find
      simp only [ha, if_true, e1, Option.bind_some, zpr]
    · obtain ⟨M', e1, e2, e3⟩ := mLook (by omega) hW h.rc hk
      refine ⟨M', ?_, e2.rm (by omega), e3.weak (fun _ _ h => zmN_S h)⟩
      unfold f_X10_find
      simp only [isKey_eq, ha, if_true, e1, Option.bind_some, zpr]
  · refine zSame.tr (fun hN A hW => ⟨(-1 : Int32), A, hW.up, fun M h => ⟨M, ?_, h, zFr.refl M⟩, fun M h => ⟨M, ?_, h.up, zFr.refl M⟩⟩)
    · unfold f_X9_find; simp only [ha, Bool.false_eq_true, if_false]
    · unfold f_X10_find; simp only [isKey_eq, ha, Bool.false_eq_true, if_false]
