/-- a method that only reads, as one that leaves the memory as it was -/
def zR {α : Type} (f : zzMem → Option α) : zzMem → Option (α × zzMem) := fun M => (f M).map (fun r => (r, M))
theorem zR_some {α : Type} {f : zzMem → Option α} {M M1 : zzMem} {r : α} (h : zR f M = some (r, M1)) : f M = some r ∧ M1 = M := by
  unfold zR at h
  cases hf : f M with
  | none => rw [hf] at h; cases h
  | some x =>
    rw [hf] at h
    simp only [Option.map_some, Option.some.injEq, Prod.mk.injEq] at h
    exact ⟨by rw [h.1], h.2.symm⟩
/-- both only read: one answer for both -/
theorem zSame.rr {α : Type} {N : Nat} {f g : zzMem → Option α} (h : N ≤ 600 → ∀ M, zIv N M → ∃ r, f M = some r ∧ g M = some r) : zSame N (zR f) (zR g) := by
  intro hN M hI
  obtain ⟨r, h1, h2⟩ := h hN M hI
  exact ⟨r, M, M, by unfold zR; rw [h1]; rfl, by unfold zR; rw [h2]; rfl, hI.up⟩
/-- nothing but scratch is written, and the answer is one that the invariant's own value has -/
theorem zSame.ss {α : Type} {N : Nat} {f g : zzMem → Option (α × zzMem)} (h : N ≤ 600 → ∀ tp A M, zTp M tp → zWF N A → zRC M 12 A → zRM M 0 N A → zKp N M → ∃ r, (∃ M1, f M = some (r, M1) ∧ zFr zScr M M1) ∧ ∀ M1, zFr zScr M M1 → ∃ M2, g M1 = some (r, M2) ∧ zFr zScr M1 M2) : zSame N f g := by
  intro hN M hI
  obtain ⟨tp, A, h1, h2, h3, h4, h5⟩ := id hI
  obtain ⟨r, ⟨M1, g1, g2⟩, g3⟩ := h hN tp A M h1 h2 h3 h4 h5
  obtain ⟨M2, g4, g5⟩ := g3 M1 g2
  exact ⟨r, M1, M2, g1, g4, ((hI.fr g2).fr g5).up⟩
