/-! ===== all keys: in order for the class, as entries for the reference ===== -/
theorem zWF.nd {N : Nat} {A : zzA} (h : zWF N A) : (zA_S A).Nodup := by
  have hp := h.2.2.2.2.2.2.2.2.1.2.1
  exact hp.imp (fun {a b} hab e => by rw [e] at hab; omega)
theorem zWF.key {N : Nat} {A : zzA} (h : zWF N A) {k : Nat} (hk : k ∈ zA_S A) : k < 65536 := by
  obtain ⟨b, v, hq⟩ := (h.2.2.2.2.2.2.2.2.1.2.2 k).mp hk
  exact (h.2.2.1 b (k, v) hq).1
/-- a bucket's places don't repeat -/
theorem zMe.xnd {M : zzMem} {s0 m cm : Nat} {E : Nat → List (Nat × Nat)} {xs : Nat → List Nat} {ke ve be se : Nat → Nat} (h : zMe M s0 m cm E xs ke ve be se) (b : Nat) : (xs b).Nodup :=
  (h.2.2.2.1 b).imp (fun {x y} hxy e => by rw [e] at hxy; omega)
theorem nodup_map_inj {α β : Type} {f : α → β} : ∀ {l : List α}, (l.map f).Nodup → ∀ x ∈ l, ∀ y ∈ l, f x = f y → x = y
  | [], _, x, hx, _, _, _ => by cases hx
  | a :: l, h, x, hx, y, hy, e => by
    rw [List.map_cons, List.nodup_cons] at h
    rcases List.mem_cons.mp hx with hx1 | hx1
    · rcases List.mem_cons.mp hy with hy1 | hy1
      · rw [hx1, hy1]
      · rw [hx1] at e
        exact absurd (show f a ∈ l.map f from List.mem_map.mpr ⟨y, hy1, e.symm⟩) h.1
    · rcases List.mem_cons.mp hy with hy1 | hy1
      · rw [hy1] at e
        exact absurd (show f a ∈ l.map f from List.mem_map.mpr ⟨x, hx1, e⟩) h.1
      · exact nodup_map_inj h.2 x hx1 y hy1 e
theorem zMe.inj {N : Nat} {M : zzMem} {s0 cm : Nat} {A : zzA} {xs : Nat → List Nat} {ke ve be se : Nat → Nat} (hW : zWF N A) (h : zMe M s0 (zA_S A).length cm (zA_E A) xs ke ve be se) {e e' : Nat} (he : e < (zA_S A).length) (he' : e' < (zA_S A).length) (hk : ke e = ke e') : e = e' := by
  have m1 : e ∈ xs (be e) := (h.2.1 e he).2.2.2.2.2
  have m2 : e' ∈ xs (be e') := (h.2.1 e' he').2.2.2.2.2
  have a1 : (ke e, ve e) ∈ zA_E A (be e) := by rw [h.2.2.2.2]; exact List.mem_map.mpr ⟨e, m1, rfl⟩
  have a2 : (ke e', ve e') ∈ zA_E A (be e') := by rw [h.2.2.2.2]; exact List.mem_map.mpr ⟨e', m2, rfl⟩
  have b1 := (hW.2.2.1 _ _ a1).2.2
  have b2 := (hW.2.2.1 _ _ a2).2.2
  simp only at b1 b2
  have hb : be e = be e' := by rw [← b1, ← b2, hk]
  rw [← hb] at m2
  have hn := hW.2.2.2.1 (be e)
  rw [h.2.2.2.2, List.map_map] at hn
  exact nodup_map_inj hn e m1 e' m2 hk
theorem zMe.mem {N : Nat} {M : zzMem} {s0 cm : Nat} {A : zzA} {xs : Nat → List Nat} {ke ve be se : Nat → Nat} (hW : zWF N A) (h : zMe M s0 (zA_S A).length cm (zA_E A) xs ke ve be se) (k : Nat) : k ∈ zA_S A ↔ ∃ e, e < (zA_S A).length ∧ ke e = k := by
  rw [hW.2.2.2.2.2.2.2.2.1.2.2 k]
  constructor
  · rintro ⟨b, v, hq⟩
    rw [h.2.2.2.2] at hq
    obtain ⟨e, he, hq⟩ := List.mem_map.mp hq
    cases hq
    exact ⟨e, (h.2.2.1 b e he).1, rfl⟩
  · rintro ⟨e, he, rfl⟩
    refine ⟨be e, ve e, ?_⟩
    rw [h.2.2.2.2]
    exact List.mem_map.mpr ⟨e, (h.2.1 e he).2.2.2.2.2, rfl⟩
theorem zMe.perm {N : Nat} {M : zzMem} {s0 cm : Nat} {A : zzA} {xs : Nat → List Nat} {ke ve be se : Nat → Nat} (hW : zWF N A) (h : zMe M s0 (zA_S A).length cm (zA_E A) xs ke ve be se) : ((List.range (zA_S A).length).map ke).Perm (zA_S A) := by
  refine (List.perm_ext_iff_of_nodup ?_ hW.nd).mpr (fun k => ?_)
  · refine List.pairwise_map.mpr ?_
    refine (List.nodup_range (n := (zA_S A).length)).imp_of_mem (fun {a b} ha hb hab e => hab ?_)
    exact h.inj hW (List.mem_range.mp ha) (List.mem_range.mp hb) e
  · rw [h.mem hW k]
    simp only [List.mem_map, List.mem_range]
theorem zcnt_map {α : Type} (l : List α) (d : α) (p : α → Bool) : zcnt (fun i => p (l.getD i d)) l.length = l.countP p := by
  have h : l = (List.range l.length).map (fun i => l.getD i d) := by
    apply List.ext_getElem
    · simp
    · intro i h1 h2
      simp [List.getD_eq_getElem?_getD, h1]
  rw [zcnt_range]
  calc (List.range l.length).countP (fun i => p (l.getD i d)) = ((List.range l.length).map (fun i => l.getD i d)).countP p := by rw [List.countP_map]; rfl
    _ = l.countP p := by rw [← h]
/-- a count over all keys: the same by order and by entries -/
theorem zcnt_keys {N : Nat} {M : zzMem} {s0 cm : Nat} {A : zzA} {xs : Nat → List Nat} {ke ve be se : Nat → Nat} (hW : zWF N A) (h : zMe M s0 (zA_S A).length cm (zA_E A) xs ke ve be se) (p : Nat → Bool) :
    zcnt (fun i => p ((zA_S A).getD i 0)) (zA_S A).length = zcnt (fun e => p (ke e)) (zA_S A).length := by
  rw [zcnt_map, zcnt_range, ← (h.perm hW).countP_eq p, List.countP_map]
  rfl
/-- the class's key at a place -/
theorem cKeyAt {N o : Nat} {M : zzMem} {A : zzA} (hW : zWF N A) (h : zOr M o (zA_cd A) (zA_S A)) {i : Nat} (hi : i < (zA_S A).length) : f_X5_keyAt o (nI i) M = some (nI ((zA_S A).getD i 0)) := by
  have hlen := hW.2.2.2.2.2.2.2.2.1.1
  have hget : (zA_S A)[i]? = some ((zA_S A).getD i 0) := by simp [List.getD_eq_getElem?_getD, hi]
  have hk := hW.key (List.mem_of_getElem? hget)
  have hc := h.2 i _ hget
  unfold f_X5_keyAt
  have hn : 1 ≤ zA_n A ∧ zA_n A ≤ 4 := ⟨hW.1.1, hW.1.2.1⟩
  have hm : zA_h A ((zA_S A).getD i 0) % zA_n A < 4 := by have := Nat.mod_lt (zA_h A ((zA_S A).getD i 0)) (show zA_n A > 0 by omega); omega
  have hr := zrev_lt (zA_h A ((zA_S A).getD i 0) / zA_n A)
  simp (disch := omega) only [ifL0, h.1, ifLt_t, zgd_in, nIc, hc]
  rw [show (65535 : Int64) = lN (2 ^ 16 - 1) from rfl, wb_mask (by unfold zA_cd zcod; omega) (by decide), lN_i]
  congr 2
  unfold zA_cd zcod
  omega
theorem op_between (N : Nat) (a b : Int32) : zSame N (zR (f_X9_between a b)) (zR (f_X10_between a b)) := by
  refine zSame.rr (fun hN M hI => ?_)
  obtain ⟨tp, A, h1, h2, h3, h4, h5⟩ := hI
  have hlen := h2.2.2.2.2.2.2.2.2.1.1
  unfold f_X9_between f_X10_between
  rw [isKey_eq]
  rcases keyC a with ⟨ha, lo, hlo, rfl⟩ | ha
  · rcases keyC b with ⟨hb, hi, hhi, rfl⟩ | hb
    · simp only [ha, hb, if_true]
      by_cases hle : nI lo ≤ nI hi
      · simp only [if_pos hle]
        obtain ⟨hm, -, ⟨cm, xs, ke, ve, be, se, hcm, e⟩, -⟩ := h4
        refine ⟨nI (zcnt (fun i => decide (lo ≤ (zA_S A).getD i 0 ∧ (zA_S A).getD i 0 ≤ hi)) (zA_S A).length), ?_, ?_⟩
        · unfold j_X9_between_26
          refine zlp_for (B := fun s : (Int32 × Int32) => b_X9_between_26 (nI lo) (nI hi) s.1 s.2 M) (fun i => (nI (zcnt (fun i => decide (lo ≤ (zA_S A).getD i 0 ∧ (zA_S A).getD i 0 ≤ hi)) i), nI i)) (zA_S A).length _ (fun i hi' => ?_) ?_ 0 (by omega)
          · unfold b_X9_between_26
            have hs : M.1 27 1 = nI (zA_S A).length := h3.2.2.2.1.1
            have hk := h2.key (k := (zA_S A).getD i 0) (by rw [List.getD_eq_getElem?_getD, List.getElem?_eq_getElem hi']; simp)
            simp (disch := omega) only [hs, ifLe_f, cKeyAt (o := 27) h2 h3.2.2.2.1 hi', Option.bind_some, in_nI, zbd, nIadd, zcnt]
            by_cases hd : lo ≤ (zA_S A).getD i 0 ∧ (zA_S A).getD i 0 ≤ hi
            · simp only [hd, and_self, decide_true, if_true]
            · simp only [hd, decide_false, Bool.false_eq_true, if_false, Nat.add_zero]
          · unfold b_X9_between_26
            have hs : M.1 27 1 = nI (zA_S A).length := h3.2.2.2.1.1
            simp (disch := omega) only [hs, ifLe_t]
        · rw [zcnt_keys h2 e (fun k => decide (lo ≤ k ∧ k ≤ hi))]
          unfold j_X10_between_26
          refine zlp_for (B := fun s : (Int32 × Int32) => b_X10_between_26 (nI lo) (nI hi) s.1 s.2 M) (fun i => (nI (zcnt (fun i => decide (lo ≤ ke i ∧ ke i ≤ hi)) i), nI i)) (zA_S A).length _ (fun i hi' => ?_) ?_ 0 (by omega)
          · unfold b_X10_between_26
            have hs : M.1 74 7 = nI (zA_S A).length := by have := hm.2.2.2.2.2.2.2.1; simpa using this
            have hke := (e.2.1 i hi').1
            simp only [Nat.zero_add] at hke
            have hk : ke i < 65536 := h2.key ((e.mem h2 (ke i)).mpr ⟨i, hi', rfl⟩)
            simp (disch := omega) only [hs, ifLe_f, nIadd, zgd_in, nIc, hke, in_eq, in_nI, zbd, zcnt]
            by_cases hd : lo ≤ ke i ∧ ke i ≤ hi
            · simp only [hd, and_self, decide_true, if_true]
            · simp only [hd, decide_false, Bool.false_eq_true, if_false, Nat.add_zero]
          · unfold b_X10_between_26
            have hs : M.1 74 7 = nI (zA_S A).length := by have := hm.2.2.2.2.2.2.2.1; simpa using this
            simp (disch := omega) only [hs, ifLe_t]
      · simp only [if_neg hle]
        exact ⟨_, rfl, rfl⟩
    · simp only [ha, hb, if_true, Bool.false_eq_true, if_false]
      exact ⟨_, rfl, rfl⟩
  · simp only [ha, Bool.false_eq_true, if_false]
    exact ⟨_, rfl, rfl⟩
