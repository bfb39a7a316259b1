/-! ===== tell ===== -/
section TL
variable {N : Nat} {A : zzA}
set_option maxHeartbeats 2000000 in
theorem mTellLoop (hN : N ≤ 600) (hW : zWF N A) {s : Nat} {q : Nat × Int32} (hs : s < 4) (hz : zop (zA_sc A) (nI s) = true) (hq2 : q.2 = (-1 : Int32) ∨ ∃ k, k < 65536 ∧ q.2 = nI k) {M : zzMem} (h : zRM M 0 N A) (hm15 : M.1 74 (15 + s) = q.2) {pc : Nat → Bool} {cd : Nat → Nat} (hpc : pc = zcom A q.2) (hcd : cd = zA_cd A) : ∃ (ke : Nat → Nat) (X : zzMem), (∀ x, x < (zA_S A).length → ke x < 65536 ∧ M.1 74 (40 + x) = nI (ke x)) ∧ (∀ k, k ∈ zA_S A ↔ ∃ x, x < (zA_S A).length ∧ ke x = k) ∧ zFr (fun a _ => a = 78) M X ∧ ∀ r, b_X10_tell_14 (nI s) (zpg (zbst (fun x => pc (ke x)) (fun x => cd (ke x)) (zA_S A).length)) (nI (zA_S A).length) X = some (.inr r) → f_X10_tell (nI s) M = some r := by
  have hlen := hW.2.2.2.2.2.2.2.2.1.1
  obtain ⟨cm, xs, ke, ve, be, se, hcm, e, hm, hm3, hx, hc1⟩ := h.rc.fx hW
  have hstep : ∀ t, t < (zA_S A).length → ∀ X, zFr (fun a _ => a = 78) M X → ∃ Y, b_X10_tell_14 (nI s) (zpg (zbst (fun x => pc (ke x)) (fun x => cd (ke x)) t)) (nI t) X = some (.inl (zpg (zbst (fun x => pc (ke x)) (fun x => cd (ke x)) (t + 1)), nI (t + 1), Y)) ∧ zFr (fun a _ => a = 78) M Y := by
    intro t ht X hX
    have hk : ke t < 65536 := (hx t ht).2.1
    have hkeX : ∀ Z, zFr (fun a _ => a = 78) M Z → ∀ x, x < (zA_S A).length → Z.1 74 (40 + x) = nI (ke x) := fun Z hZ x hx1 => by rw [(hZ _ _ (by omega)).1]; have := (e.2.1 x hx1).1; simpa using this
    have hke := hkeX X hX t ht
    have h15 : X.1 74 (15 + s) = q.2 := by rw [(hX _ _ (by omega)).1]; exact hm15
    have hmX : X.1 74 7 = nI (zA_S A).length := by rw [(hX _ _ (by omega)).1]; exact hm
    obtain ⟨Y, y1, y2⟩ := mToCome hW (h.1.frS hX (by intro i hi; omega)) (h.2.1.frS hW.hok.2 hX (by intro i hi; omega)) hs (by omega) hq2 h15 hk hke
    rw [← hpc] at y1
    have fY : zFr (fun a _ => a = 78) M Y := hX.trans y2
    have hok := zbst_ok (fun x => pc (ke x)) (fun x => cd (ke x)) t
    unfold b_X10_tell_14 j_X10_tell_90
    simp (disch := omega) only [hmX, ifLe_f, y1, Option.bind_some, zpr, zbd, nIadd]
    rw [zbst]
    cases hcm2 : pc (ke t) with
    | false => exact ⟨Y, by simp, fY⟩
    | true =>
      cases hbz : zbst (fun x => pc (ke x)) (fun x => cd (ke x)) t with
      | none => exact ⟨Y, by simp [zpg], fY⟩
      | some y =>
        obtain ⟨b1, b2, b3⟩ := hok.2 y hbz
        obtain ⟨Y2, r1, r2⟩ := mRank (k := ke y) hW (h.1.frS fY (by intro i hi; omega)) (h.2.1.frS hW.hok.2 fY (by intro i hi; omega)) (hx y (by omega)).2.1
        have fY2 : zFr (fun a _ => a = 78) M Y2 := fY.trans r2
        obtain ⟨Y3, r3, r4⟩ := mRank (k := ke t) hW (h.1.frS fY2 (by intro i hi; omega)) (h.2.1.frS hW.hok.2 fY2 (by intro i hi; omega)) hk
        have fY3 : zFr (fun a _ => a = 78) M Y3 := fY2.trans r4
        refine ⟨Y3, ?_, fY3⟩
        have ky := hkeX Y fY y (by omega)
        have ky2 := hkeX Y2 fY2 y (by omega)
        have kt2 := hkeX Y2 fY2 t ht
        have kt3 := hkeX Y3 fY3 t ht
        have hzp : zpg (some y) = nI y := rfl
        have hib : f_X10_isBehind (nI (zrk A (ke y))) (nI (ke y)) (nI (zrk A (ke t))) (nI (ke t)) = decide (cd (ke t) < cd (ke y)) := by rw [hcd]; exact isBeh hW (hx y (by omega)).2.1 hk
        simp (disch := omega) only [if_true, hzp, ifm1, nIadd, zgd_in, nIc, ky, r1, Option.bind_some, zpr, kt2, r3, ky2, kt3, hib]
        by_cases hlt : cd (ke t) < cd (ke y)
        · rw [decide_eq_true hlt]; simp [hlt, zpg]
        · rw [decide_eq_false hlt]; simp [hlt, zpg]
  have hreach : ∀ t, t ≤ (zA_S A).length → ∃ X, zFr (fun a _ => a = 78) M X ∧ f_X10_tell (nI s) M = zlp (fun s_1 : (Int32 × Int32 × zzMem) => b_X10_tell_14 (nI s) s_1.1 s_1.2.1 s_1.2.2) (zpg (zbst (fun x => pc (ke x)) (fun x => cd (ke x)) t), nI t, X) := by
    intro t ht
    induction t with
    | zero =>
      refine ⟨M, zFr.refl M, ?_⟩
      have hzb : zpg (zbst (fun x => pc (ke x)) (fun x => cd (ke x)) 0) = (-1 : Int32) := rfl
      rw [hzb]
      unfold f_X10_tell j_X10_tell_14
      rw [mIsOpen h.2.2.2.2, hz]
      simp only [Option.bind_some, if_true]
    | succ t ih =>
      obtain ⟨X, x1, x2⟩ := ih (by omega)
      obtain ⟨Y, y1, y2⟩ := hstep t (by omega) X x1
      exact ⟨Y, y2, by rw [x2]; exact zlp_step y1⟩
  obtain ⟨X, x1, x2⟩ := hreach _ (Nat.le_refl _)
  refine ⟨ke, X, fun x hx1 => ⟨(hx x hx1).2.1, by have := (e.2.1 x hx1).1; simpa using this⟩, fun k => e.mem hW k, x1, ?_⟩
  intro r hr
  rw [x2]
  exact zlp_done hr
end TL
