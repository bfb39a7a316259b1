/-! ===== a put: the value behind it ===== -/
noncomputable def zlod (A : zzA) : Nat := 100 * (zA_S A).length / (zA_B A * zA_c A)
noncomputable def zpuS (A : zzA) (k v i : Nat) : zzA := (A.1, A.2.1, (zA_rd A + nI (i / zA_c A + 1), zA_wr A + nI 1, zA_sp A, zA_jn A), A.2.2.2.1, A.2.2.2.2.1, zupd (zA_E A) (zA_a A k) ((zA_E A (zA_a A k)).set i (k, v)), A.2.2.2.2.2.2)
noncomputable def znew (A : zzA) (k : Nat) : Bool := decide ((zA_E A (zA_a A k)).length = zA_c A * (zA_G A (zA_a A k)).length)
noncomputable def zpuN (A : zzA) (k v : Nat) : zzA := (A.1, A.2.1, (zA_rd A + nI (zA_G A (zA_a A k)).length, zA_wr A + (if znew A k = true then nI 2 else nI 1), zA_sp A, zA_jn A), A.2.2.2.1, A.2.2.2.2.1, zupd (zA_E A) (zA_a A k) (zA_E A (zA_a A k) ++ [(k, v)]), zlay1 (zA_c A) (zA_a A k) (zA_E A (zA_a A k)).length (zA_G A), zins (zA_cd A) (zA_S A) k, zA_sc A)
noncomputable def zdue (A : zzA) (w : Bool) : Bool := (decide (zA_po A = 1) && decide (zA_up A < zlod A)) || (decide (zA_po A = 2) && w)
noncomputable def zspi (A : zzA) : zzA := if zA_B A < 64 then zspl A else A
noncomputable def zpuD (A : zzA) (k v : Nat) : zzA := if zdue (zpuN A k v) (znew A k) = true then zspi (zpuN A k v) else zpuN A k v
noncomputable def zput (A : zzA) (k v : Nat) : Int32 × zzA := match zfi (zA_E A (zA_a A k)) k with
  | some t => (nI 1, zpuS A k v t.1)
  | none => if (zA_S A).length < 300 then (nI 0, zpuD A k v) else ((-3 : Int32), A)
theorem zins_mem {cd : Nat → Nat} {S : List Nat} {k x : Nat} : x ∈ zins cd S k ↔ x = k ∨ x ∈ S := by
  unfold zins
  rw [List.mem_append, List.mem_cons]
  have h := List.take_append_drop (zpos cd S (cd k)) S
  constructor
  · rintro (h1 | h1 | h1)
    · exact Or.inr (List.mem_of_mem_take h1)
    · exact Or.inl h1
    · exact Or.inr (List.mem_of_mem_drop h1)
  · rintro (h1 | h1)
    · exact Or.inr (Or.inl h1)
    · rw [← h] at h1
      rcases List.mem_append.mp h1 with h2 | h2
      · exact Or.inl h2
      · exact Or.inr (Or.inr h2)
theorem zins_len (cd : Nat → Nat) (S : List Nat) (k : Nat) : (zins cd S k).length = S.length + 1 := by
  have := zpos_le cd S (cd k)
  unfold zins
  simp only [List.length_append, List.length_take, List.length_cons, List.length_drop]
  omega
theorem zins_pw {cd : Nat → Nat} {S : List Nat} {k : Nat} (hp : S.Pairwise (fun a b => cd a < cd b)) (hk : ∀ x ∈ S, cd x ≠ cd k) : (zins cd S k).Pairwise (fun a b => cd a < cd b) := by
  unfold zins
  have h1 : ∀ x ∈ S.take (zpos cd S (cd k)), cd x < cd k := fun x hx => by
    obtain ⟨i, hi⟩ := List.getElem?_of_mem hx
    rw [List.getElem?_take] at hi
    split at hi
    · rename_i hlt
      exact (zpos_iff hp hi).mpr hlt
    · cases hi
  have h2 : ∀ x ∈ S.drop (zpos cd S (cd k)), cd k < cd x := fun x hx => by
    obtain ⟨i, hi⟩ := List.getElem?_of_mem hx
    rw [List.getElem?_drop] at hi
    have h3 := zpos_iff (x := cd k) hp hi
    have h4 := hk x (List.mem_of_mem_drop hx)
    omega
  rw [List.pairwise_append]
  refine ⟨hp.sublist (List.take_sublist _ _), List.pairwise_cons.mpr ⟨fun x hx => h2 x hx, hp.sublist (List.drop_sublist _ _)⟩, fun x hx y hy => ?_⟩
  have h3 := h1 x hx
  rcases List.mem_cons.mp hy with h4 | h4
  · rw [h4]; exact h3
  · have := h2 y h4; omega
section PU
variable {N : Nat} {A : zzA}
theorem zS_fi (hW : zWF N A) (k : Nat) : k ∈ zA_S A ↔ ∃ t, zfi (zA_E A (zA_a A k)) k = some t := by
  rw [hW.2.2.2.2.2.2.2.2.1.2.2 k]
  constructor
  · rintro ⟨b, v, hq⟩
    have hb : zA_a A k = b := (hW.2.2.1 b (k, v) hq).2.2
    rw [hb]
    obtain ⟨i, hi⟩ := List.getElem?_of_mem hq
    exact ⟨(i, v), zfi_of (hW.2.2.2.1 b) hi⟩
  · rintro ⟨t, ht⟩
    exact ⟨_, t.2, List.mem_of_getElem? (zfi_some (i := t.1) (v := t.2) ht)⟩
theorem zset_fst {l : List (Nat × Nat)} {i k v v0 : Nat} (h : l[i]? = some (k, v0)) : (l.set i (k, v)).map Prod.fst = l.map Prod.fst := by
  rw [List.map_set]
  apply List.ext_getElem?
  intro j
  rw [List.getElem?_set]
  by_cases hij : i = j
  · subst hij
    have hl := (List.getElem?_eq_some_iff.mp h).1
    rw [if_pos rfl, List.getElem?_map, h, List.length_map, if_pos hl]; rfl
  · rw [if_neg hij]
theorem zput_wfS (hW : zWF N A) {k v i v0 : Nat} (hv : v < 256) (hi : (zA_E A (zA_a A k))[i]? = some (k, v0)) : zWF N (zpuS A k v i) := by
  obtain ⟨⟨w1, w2, w3, w4, w5, w6, w7, w8, w9, w10, w11, w12⟩, v2, v3, v4, v5, v6, v7, v8, v9, v10⟩ := id hW
  have hE : ∀ b, (zA_E (zpuS A k v i) b).map Prod.fst = (zA_E A b).map Prod.fst := fun b => by
    show (zupd (zA_E A) (zA_a A k) ((zA_E A (zA_a A k)).set i (k, v)) b).map Prod.fst = _
    by_cases hb : b = zA_a A k
    · subst hb; rw [zupd_eq]; exact zset_fst hi
    · rw [zupd_ne hb]
  have hl : ∀ b, (zA_E (zpuS A k v i) b).length = (zA_E A b).length := fun b => by
    have := congrArg List.length (hE b)
    rw [List.length_map, List.length_map] at this; exact this
  have hB : zA_B (zpuS A k v i) = zA_B A := rfl
  refine ⟨⟨w1, w2, w3, w4, w5, w6, w7, w8, w9, w10, w11, w12⟩, fun b hb => ⟨?_, (v2 b hb).2⟩, fun b q hq => ?_, fun b => by rw [hE]; exact v4 b, fun b hb => ?_, v6, v7, v8, ⟨v9.1, v9.2.1, fun x => ?_⟩, v10⟩
  · have := hl b
    rw [(v2 b hb).1] at this
    exact List.eq_nil_of_length_eq_zero this
  · have hq : q ∈ zupd (zA_E A) (zA_a A k) ((zA_E A (zA_a A k)).set i (k, v)) b := hq
    have ha : ∀ x, zA_a (zpuS A k v i) x = zA_a A x := fun x => rfl
    rw [ha]
    by_cases hb : b = zA_a A k
    · subst hb
      rw [zupd_eq] at hq
      rcases List.mem_or_eq_of_mem_set hq with h1 | h1
      · exact v3 _ q h1
      · have := v3 _ _ (List.mem_of_getElem? hi)
        rw [h1]
        exact ⟨this.1, hv, rfl⟩
    · rw [zupd_ne hb] at hq; exact v3 b q hq
  · rw [hl b]; exact v5 b hb
  · show x ∈ zA_S A ↔ _
    rw [v9.2.2 x]
    constructor
    · rintro ⟨b, u, hh⟩
      have : x ∈ (zA_E (zpuS A k v i) b).map Prod.fst := by rw [hE]; exact List.mem_map.mpr ⟨_, hh, rfl⟩
      obtain ⟨q, q1, q2⟩ := List.mem_map.mp this
      exact ⟨b, q.2, by rw [← q2]; exact q1⟩
    · rintro ⟨b, u, hh⟩
      have : x ∈ (zA_E A b).map Prod.fst := by rw [← hE]; exact List.mem_map.mpr ⟨_, hh, rfl⟩
      obtain ⟨q, q1, q2⟩ := List.mem_map.mp this
      exact ⟨b, q.2, by rw [← q2]; exact q1⟩
theorem zpuN_pk (hW : zWF N A) {k v : Nat} (hS : (zA_S A).length < 300) : zPk (zA_c A) (fun b => (zA_E (zpuN A k v) b).length) (zA_G (zpuN A k v)) := by
  have hb : zA_a A k < 64 := by have := hW.adr k; have := hW.sB; omega
  have h1 := hW.pk.lay1 hW.c2.1 hb (by have := zsumE hW; omega)
  have h2 : (fun b => (zA_E (zpuN A k v) b).length) = zupd (fun b => (zA_E A b).length) (zA_a A k) ((zA_E A (zA_a A k)).length + 1) := by
    show (fun b => (zupd (zA_E A) (zA_a A k) (zA_E A (zA_a A k) ++ [(k, v)]) b).length) = _
    rw [zlen_upd, List.length_append]; rfl
  rw [h2]
  exact h1
theorem zpuN_wf (hW : zWF N A) {k v : Nat} (hk : k < 65536) (hv : v < 256) (hS : (zA_S A).length < 300) (hn : zfi (zA_E A (zA_a A k)) k = none) : zWF N (zpuN A k v) := by
  have hpk := zpuN_pk (k := k) (v := v) hW hS
  have hkS : k ∉ zA_S A := fun hh => by obtain ⟨t, ht⟩ := (zS_fi hW k).mp hh; rw [hn] at ht; cases ht
  have hab := hW.adr k
  have hs := hW.sB
  obtain ⟨⟨w1, w2, w3, w4, w5, w6, w7, w8, w9, w10, w11, w12⟩, v2, v3, v4, v5, v6, v7, v8, v9, v10⟩ := id hW
  have hB : zA_B (zpuN A k v) = zA_B A := rfl
  have hEb : zA_E (zpuN A k v) (zA_a A k) = zA_E A (zA_a A k) ++ [(k, v)] := zupd_eq
  have hEx : ∀ b, b ≠ zA_a A k → zA_E (zpuN A k v) b = zA_E A b := fun b hb => zupd_ne hb
  have hGx : ∀ b, b ≠ zA_a A k → zA_G (zpuN A k v) b = zA_G A b := fun b hb => zlay1_ne hb
  refine ⟨⟨w1, w2, w3, w4, w5, w6, w7, w8, w9, w10, w11, w12⟩, fun b hb => ?_, fun b q hq => ?_, fun b => ?_, fun b hb => ?_, hpk.1.1, hpk.1.2.1, hpk.1.2.2, ⟨?_, ?_, fun x => ?_⟩, v10⟩
  · rw [hB] at hb
    rw [hEx b (by omega), hGx b (by omega)]; exact v2 b hb
  · have ha : ∀ x, zA_a (zpuN A k v) x = zA_a A x := fun x => rfl
    rw [ha]
    by_cases hb : b = zA_a A k
    · subst hb
      rw [hEb] at hq
      rcases List.mem_append.mp hq with h1 | h1
      · exact v3 _ q h1
      · rw [List.mem_singleton.mp h1]; exact ⟨hk, hv, rfl⟩
    · rw [hEx b hb] at hq; exact v3 b q hq
  · by_cases hb : b = zA_a A k
    · subst hb
      rw [hEb, List.map_append, List.nodup_append]
      refine ⟨v4 _, by simp, fun x hx y hy e => ?_⟩
      have hy : y = k := by simpa using hy
      obtain ⟨q, q1, q2⟩ := List.mem_map.mp hx
      have hkq : k = q.1 := by rw [q2, e, hy]
      have hqq : (k, q.2) = q := by rw [hkq]
      exact zfi_none hn q.2 (by rw [hqq]; exact q1)
    · rw [hEx b hb]; exact v4 b
  · rw [hB] at hb
    rcases hpk.2.2.1 b (by omega) with e | ⟨e1, e2⟩
    · exact e
    · exfalso
      have hl := v5 b hb
      have h0 : 1 ≤ zpgs (zA_c A) (zA_E A b).length := by unfold zpgs; omega
      by_cases hbb : b = zA_a A k
      · subst hbb
        have e2 : (zA_E (zpuN A k v) (zA_a A k)).length = 0 := e2
        rw [hEb] at e2; simp at e2
      · rw [hGx b hbb] at e1; omega
  · show (zins (zA_cd A) (zA_S A) k).length ≤ 300
    rw [zins_len]; omega
  · exact zins_pw (cd := zA_cd A) v9.2.1 (fun x hx e => hkS (by rw [← zcd_inj hW (hW.key hx) hk e]; exact hx))
  · show x ∈ zins (zA_cd A) (zA_S A) k ↔ _
    rw [zins_mem, v9.2.2 x]
    constructor
    · rintro (h1 | ⟨b, u, h1⟩)
      · exact ⟨zA_a A k, v, by rw [hEb, h1]; simp⟩
      · by_cases hb : b = zA_a A k
        · subst hb; exact ⟨_, u, by rw [hEb]; exact List.mem_append.mpr (Or.inl h1)⟩
        · exact ⟨b, u, by rw [hEx b hb]; exact h1⟩
    · rintro ⟨b, u, h1⟩
      by_cases hb : b = zA_a A k
      · subst hb
        rw [hEb] at h1
        rcases List.mem_append.mp h1 with h2 | h2
        · exact Or.inr ⟨_, u, h2⟩
        · left
          have := List.mem_singleton.mp h2
          cases this; rfl
      · rw [hEx b hb] at h1; exact Or.inr ⟨b, u, h1⟩
theorem zspi_wf (hW : zWF N A) : zWF N (zspi A) := by
  unfold zspi
  split
  · rename_i h; exact zspl_wf hW h
  · exact hW
theorem zput_wf (hW : zWF N A) {k v : Nat} (hk : k < 65536) (hv : v < 256) : zWF N (zput A k v).2 := by
  unfold zput
  cases hz : zfi (zA_E A (zA_a A k)) k with
  | some t => exact zput_wfS hW hv (zfi_some (i := t.1) (v := t.2) hz)
  | none =>
    by_cases hS : (zA_S A).length < 300
    · have h1 := zpuN_wf hW hk hv hS hz
      show zWF N (if (zA_S A).length < 300 then (nI 0, zpuD A k v) else ((-3 : Int32), A)).2
      rw [if_pos hS]
      show zWF N (zpuD A k v)
      unfold zpuD
      split
      · exact zspi_wf h1
      · exact h1
    · show zWF N (if (zA_S A).length < 300 then (nI 0, zpuD A k v) else ((-3 : Int32), A)).2
      rw [if_neg hS]; exact hW
end PU
