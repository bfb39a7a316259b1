section FR
variable {M M' : zzMem} {N : Nat}
theorem zCi.fr {A : zzA} {o : Nat} (ho : o = 12 ∨ o = 32) (hf : zFr zScr M M') (h : zCi M o A) : zCi M' o A := by
  have g : ∀ i, M'.1 o i = M.1 o i := fun i => (hf o i (by unfold zScr; omega)).1
  have g2 : M'.1 (o + 4) 11 = M.1 (o + 4) 11 := (hf _ _ (by unfold zScr; omega)).1
  unfold zCi at h ⊢
  simp only [g, g2]
  exact h
theorem zLc.fr {law : List (Nat × Nat)} {o : Nat} (ho : o = 12 ∨ o = 32) (hf : zFr zScr M M') (h : zLc M (o + 1) law) : zLc M' (o + 1) law := by
  refine ⟨?_, fun j hj => ?_⟩
  · rw [(hf _ _ (by unfold zScr; omega)).1]; exact h.1
  · rw [(hf _ _ (by unfold zScr; omega)).1]; exact h.2 j hj
theorem zCh.fr {c o : Nat} {h : Nat → Nat} {E : Nat → List (Nat × Nat)} {G : Nat → List Nat} (ho : o = 12 ∨ o = 32) (hf : zFr zScr M M') (hc : zCh M (o + 4) c h E G) : zCh M' (o + 4) c h E G := by
  have g : ∀ k i, 1 ≤ k → k ≤ 9 → M'.1 (o + 4 + k) i = M.1 (o + 4 + k) i := fun k i h1 h2 => (hf _ _ (by unfold zScr; omega)).1
  have g2 : ∀ i, M'.2 (o + 4 + 5) i = M.2 (o + 4 + 5) i := fun i => (hf _ _ (by unfold zScr; omega)).2
  obtain ⟨h1, h2, h3, h4, h5, h6, h7⟩ := hc
  refine ⟨fun b hb => ?_, fun b hb => ?_, fun b hb => ?_, fun b hb => ?_, fun p hp hn => ?_, fun b hb i p hi => ?_, fun b hb i q p hi hp => ?_⟩
  · rw [g 8 b (by omega) (by omega)]; exact h1 b hb
  · rw [g 9 b (by omega) (by omega)]; exact h2 b hb
  · rw [g 6 b (by omega) (by omega)]; exact h3 b hb
  · rw [g 7 b (by omega) (by omega)]; exact h4 b hb
  · rw [g 1 p (by omega) (by omega)]; exact h5 p hp hn
  · rw [g 1 p (by omega) (by omega), g 2 p (by omega) (by omega), g 3 p (by omega) (by omega), g 4 p (by omega) (by omega)]; exact h6 b hb i p hi
  · rw [g2]; exact h7 b hb i q p hi hp
theorem zOr.fr {cd : Nat → Nat} {S : List Nat} {o : Nat} (ho : o = 12 ∨ o = 32) (hf : zFr zScr M M') (h : zOr M (o + 15) cd S) : zOr M' (o + 15) cd S := by
  refine ⟨?_, fun i k hk => ?_⟩
  · rw [(hf _ _ (by unfold zScr; omega)).1]; exact h.1
  · rw [(hf _ _ (by unfold zScr; omega)).2]; exact h.2 i k hk
theorem zSn.fr {f : Nat → Option (Nat × Int32)} {o : Nat} (ho : o = 12 ∨ o = 32) (hf : zFr zScr M M') (h : zSn M (o + 17) f) : zSn M' (o + 17) f := by
  intro s hs
  rw [(hf _ s (by unfold zScr; omega)).1, (hf (o + 17 + 2) s (by unfold zScr; omega)).1]
  exact h s hs
theorem zRC.fr {A : zzA} {o : Nat} (ho : o = 12 ∨ o = 32) (hf : zFr zScr M M') (h : zRC M o A) : zRC M' o A :=
  ⟨h.1.fr ho hf, h.2.1.fr ho hf, h.2.2.1.fr ho hf, h.2.2.2.1.fr ho hf, h.2.2.2.2.fr ho hf⟩
theorem zf74 (hf : zFr zScr M M') {i : Nat} (hi : i < 3784) : M'.1 74 i = M.1 74 i := (hf 74 i (by unfold zScr; omega)).1
theorem zRM.fr {A : zzA} {s0 : Nat} (hs : s0 = 0 ∨ s0 = 1892) (hW : zWF N A) (hf : zFr zScr M M') (h : zRM M s0 N A) : zRM M' s0 N A := by
  have hm : (zA_S A).length ≤ 300 := hW.2.2.2.2.2.2.2.2.1.1
  have hl : (zA_law A).length ≤ 60 := hW.1.2.2.2.2.2.2.2.2.2.2.2.2
  have hp : ∀ b, ∀ p ∈ zA_G A b, p < 256 := hW.2.2.2.2.2.1
  obtain ⟨h1, h2, ⟨cm, xs, ke, ve, be, se, hcm, e1, e2, e3, e4, e5⟩, h4, h5⟩ := h
  refine ⟨?_, ?_, ⟨cm, xs, ke, ve, be, se, hcm, ?_, fun e he => ?_, e3, e4, e5⟩, ⟨fun p hp hn => ?_, fun b hb i p hi => ?_⟩, ?_⟩
  · unfold zMi at h1 ⊢
    simp only [zf74 hf (show s0 < 3784 by omega), zf74 hf (show s0 + 1 < 3784 by omega), zf74 hf (show s0 + 2 < 3784 by omega), zf74 hf (show s0 + 3 < 3784 by omega), zf74 hf (show s0 + 4 < 3784 by omega), zf74 hf (show s0 + 5 < 3784 by omega), zf74 hf (show s0 + 6 < 3784 by omega), zf74 hf (show s0 + 7 < 3784 by omega), zf74 hf (show s0 + 8 < 3784 by omega), zf74 hf (show s0 + 9 < 3784 by omega), zf74 hf (show s0 + 10 < 3784 by omega), zf74 hf (show s0 + 11 < 3784 by omega), zf74 hf (show s0 + 12 < 3784 by omega)]
    exact h1
  · refine ⟨?_, fun j hj => ?_⟩
    · rw [zf74 hf (by omega)]; exact h2.1
    · rw [zf74 hf (by omega)]; exact h2.2 j hj
  · rw [zf74 hf (by omega)]; exact e1
  · rw [zf74 hf (by omega), zf74 hf (by omega), zf74 hf (by omega), zf74 hf (by omega)]; exact e2 e he
  · rw [zf74 hf (by omega)]; exact h4.1 p hp hn
  · have := hp b p (List.mem_of_getElem? hi)
    rw [zf74 hf (by omega), zf74 hf (by omega)]; exact h4.2 b hb i p hi
  · obtain ⟨w, w1, w2, w3⟩ := h5
    refine ⟨w, w1, by rw [zf74 hf (by omega)]; exact w2, fun s hs => ?_⟩
    rw [zf74 hf (by omega), zf74 hf (by omega)]
    exact w3 s hs
theorem zTp.fr {tp : List Nat} (hf : zFr zScr M M') (h : zTp M tp) : zTp M' tp := by
  refine ⟨h.1, ?_, ?_, fun i x hx => ?_⟩
  · rw [(hf _ _ (by unfold zScr; omega)).1]; exact h.2.1
  · rw [(hf _ _ (by unfold zScr; omega)).1]; exact h.2.2.1
  · rw [(hf _ _ (by unfold zScr; omega)).1, (hf 75 _ (by unfold zScr; omega)).1]; exact h.2.2.2 i x hx
/-- the invariant doesn't see the scratch -/
theorem zIv.fr (hf : zFr zScr M M') (h : zIv N M) : zIv N M' := by
  obtain ⟨tp, A, h1, h2, h3, h4, h5⟩ := h
  refine ⟨tp, A, h1.fr hf, h2, h3.fr (Or.inl rfl) hf, h4.fr (Or.inl rfl) h2 hf, ?_⟩
  rw [(hf 0 7 (by unfold zScr; omega)).1, (hf 73 1 (by unfold zScr; omega)).1]
  rcases h5 with h | ⟨g1, g2, K, k1, k2, k3⟩
  · exact Or.inl h
  · exact Or.inr ⟨g1, g2, K, k1, k2.fr (Or.inr rfl) hf, k3.fr (Or.inr rfl) k1 hf⟩
theorem zWF.up {A : zzA} (h : zWF N A) : zWF (N + 1) A := by
  obtain ⟨h1, h2, h3, h4, h5, h6, h7, h8, h9, h10⟩ := h
  exact ⟨h1, h2, h3, h4, h5, h6, h7, h8, h9, fun s hs q hq => ⟨Nat.le_succ_of_le (h10 s hs q hq).1, (h10 s hs q hq).2⟩⟩
theorem zRM.up {A : zzA} {s0 : Nat} (h : zRM M s0 N A) : zRM M s0 (N + 1) A := by
  obtain ⟨h1, h2, ⟨cm, xs, ke, ve, be, se, hcm, e⟩, h4⟩ := h
  exact ⟨h1, h2, ⟨cm, xs, ke, ve, be, se, by omega, e⟩, h4⟩
theorem zIv.up (h : zIv N M) : zIv (N + 1) M := by
  obtain ⟨tp, A, h1, h2, h3, h4, h5⟩ := h
  refine ⟨tp, A, h1, h2.up, h3, h4.up, ?_⟩
  rcases h5 with h | ⟨g1, g2, K, k1, k2, k3⟩
  · exact Or.inl h
  · exact Or.inr ⟨g1, g2, K, k1.up, k2, k3.up⟩
end FR
