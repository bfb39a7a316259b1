/-! ===== a page comes ===== -/
def zupd {α : Type} (G : Nat → α) (b : Nat) (l : α) : Nat → α := fun x => if x = b then l else G x
theorem zupd_eq {α : Type} {G : Nat → α} {b : Nat} {l : α} : zupd G b l b = l := if_pos rfl
theorem zupd_ne {α : Type} {G : Nat → α} {b x : Nat} {l : α} (h : x ≠ b) : zupd G b l x = G x := if_neg h
/-- pages as they must be: each in one place of one chain alone -/
def zGok (G : Nat → List Nat) : Prop := (∀ b, ∀ p ∈ G b, p < 256) ∧ (∀ b, (G b).Nodup) ∧ ∀ b b' p, p ∈ G b → p ∈ G b' → b = b'
theorem zGok.at {G : Nat → List Nat} (h : zGok G) {b b' i i' p : Nat} (h1 : (G b)[i]? = some p) (h2 : (G b')[i']? = some p) : b = b' ∧ i = i' := by
  have hb := h.2.2 b b' p (List.mem_of_getElem? h1) (List.mem_of_getElem? h2)
  subst hb
  refine ⟨rfl, ?_⟩
  obtain ⟨l1, e1⟩ := List.getElem?_eq_some_iff.mp h1
  obtain ⟨l2, e2⟩ := List.getElem?_eq_some_iff.mp h2
  exact (List.getElem_inj (h.2.1 b)).mp (e1.trans e2.symm)
/-- the lowest free page -/
def zfree1 (G : Nat → List Nat) (p : Nat) : Prop := p < 256 ∧ (∀ b, b < 64 → p ∉ G b) ∧ ∀ q, q < p → ∃ b, b < 64 ∧ q ∈ G b
theorem zGok.push {G : Nat → List Nat} {b p : Nat} (h : zGok G) (hp : p < 256) (hn : ∀ b, p ∉ G b) : zGok (zupd G b (G b ++ [p])) := by
  refine ⟨fun x q hq => ?_, fun x => ?_, fun x y q hx hy => ?_⟩
  · by_cases hx : x = b
    · subst hx
      rw [zupd_eq] at hq
      rcases List.mem_append.mp hq with h1 | h1
      · exact h.1 x q h1
      · rw [List.mem_singleton.mp h1]; exact hp
    · rw [zupd_ne hx] at hq; exact h.1 x q hq
  · by_cases hx : x = b
    · subst hx
      rw [zupd_eq, List.nodup_append]
      refine ⟨h.2.1 x, by simp, fun a ha c hc e => ?_⟩
      rw [List.mem_singleton.mp hc] at e
      rw [e] at ha
      exact hn x ha
    · rw [zupd_ne hx]; exact h.2.1 x
  · have hm : ∀ z, q ∈ zupd G b (G b ++ [p]) z → q ∈ G z ∨ (z = b ∧ q = p) := by
      intro z hz
      by_cases hzb : z = b
      · subst hzb
        rw [zupd_eq] at hz
        rcases List.mem_append.mp hz with h1 | h1
        · exact Or.inl h1
        · exact Or.inr ⟨rfl, List.mem_singleton.mp h1⟩
      · rw [zupd_ne hzb] at hz; exact Or.inl hz
    rcases hm x hx with a | ⟨a1, a2⟩ <;> rcases hm y hy with c | ⟨c1, c2⟩
    · exact h.2.2 x y q a c
    · rw [c2] at a; exact absurd a (hn x)
    · rw [a2] at c; exact absurd c (hn y)
    · rw [a1, c1]
