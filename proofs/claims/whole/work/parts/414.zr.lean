/-- a method that only reads, as one that leaves the memory as it was -/
def zR {α : Type} (f : zzMem → Option α) : zzMem → Option (α × zzMem) := fun M => (f M).map (fun r => (r, M))
theorem zR_some {α : Type} {f : zzMem → Option α} {M M1 : zzMem} {r : α} (h : zR f M = some (r, M1)) : f M = some r ∧ M1 = M := by
  unfold zR at h
  cases hf : f M with
  | none => rw [hf] at h; cases h
  | some x =>
    rw [hf] at h
    simp only [Option.map_some, Option.some.injEq, Prod.mk.injEq] at h
    exact ⟨by rw [h.1], h.2.symm⟩
/-- both only read: one answer for both -/
theorem zSame.rr {α : Type} {N : Nat} {f g : zzMem → Option α} (h : ∀ M, zIv N M → ∃ r, f M = some r ∧ g M = some r) : zSame N (zR f) (zR g) := by
  intro M hI
  obtain ⟨r, h1, h2⟩ := h M hI
  exact ⟨r, M, M, by unfold zR; rw [h1]; rfl, by unfold zR; rw [h2]; rfl, hI.up⟩
/-- nothing but scratch is written -/
theorem zSame.ss {α : Type} {N : Nat} {f g : zzMem → Option (α × zzMem)} (h : ∀ M, zIv N M → ∃ r, (∃ M1, f M = some (r, M1) ∧ zFr zScr M M1) ∧ ∃ M2, g M = some (r, M2) ∧ zFr zScr M M2) (hg : ∀ M, zIv N M → ∃ r, (∃ M1, f M = some (r, M1) ∧ zFr zScr M M1)) (hgg : ∀ M M', zIv N M → zFr zScr M M' → (f M).map Prod.fst = (f M').map Prod.fst) : zSame N f g := by
  intro M hI
  obtain ⟨r, M1, h1, h2⟩ := hg M hI
  obtain ⟨r', ⟨M1', g1, g2⟩, M2, g3, g4⟩ := h M1 (hI.fr h2)
  have := hgg M M1 hI h2
  rw [h1, g1] at this
  simp only [Option.map_some, Option.some.injEq] at this
  exact ⟨r, M1, M2, h1, by rw [g3, this], ((hI.fr h2).fr g4).up⟩
