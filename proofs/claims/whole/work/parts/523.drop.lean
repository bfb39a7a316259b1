/-! ===== a drop: the value behind it ===== -/
def zdr (l : List (Nat × Nat)) (i : Nat) : List (Nat × Nat) := (l.set i (l.getD (l.length - 1) (0, 0))).take (l.length - 1)
noncomputable def zdrG (A : zzA) (k : Nat) : Nat → List Nat := zupd (zA_G A) (zA_a A k) ((zA_G A (zA_a A k)).take (zpgs (zA_c A) ((zA_E A (zA_a A k)).length - 1)))
noncomputable def zdrN (A : zzA) (k i : Nat) : zzA := (A.1, A.2.1, (zA_rd A + nI (zA_G A (zA_a A k)).length, zA_wr A + (if ((zA_E A (zA_a A k)).length - 1) / zA_c A = i / zA_c A then nI 1 else nI 2), zA_sp A, zA_jn A), A.2.2.2.1, A.2.2.2.2.1, zupd (zA_E A) (zA_a A k) (zdr (zA_E A (zA_a A k)) i), zdrG A k, zdel (zA_cd A) (zA_S A) k, zA_sc A)
noncomputable def zjdu (A : zzA) : Bool := !decide (zA_po A = 0) && decide (zlod A < zA_dn A)
noncomputable def zjoj (A : zzA) : zzA := if zA_n A < zA_B A then zjoi A else A
noncomputable def zdrD (A : zzA) (k i : Nat) : zzA := if zjdu (zdrN A k i) = true then zjoj (zdrN A k i) else zdrN A k i
noncomputable def zdrp (A : zzA) (k : Nat) : Int32 × zzA := match zfi (zA_E A (zA_a A k)) k with
  | some t => (nI t.2, zdrD A k t.1)
  | none => ((-2 : Int32), zct A (zA_rd A + nI (zA_G A (zA_a A k)).length) (zA_wr A) (zA_sp A) (zA_jn A))
theorem zdr_len (l : List (Nat × Nat)) (i : Nat) : (zdr l i).length = l.length - 1 := by
  unfold zdr
  rw [List.length_take, List.length_set]; omega
theorem zdr_get {l : List (Nat × Nat)} {i t : Nat} (ht : t < l.length - 1) : (zdr l i)[t]? = if t = i then l[l.length - 1]? else l[t]? := by
  unfold zdr
  rw [List.getElem?_take, if_pos ht, List.getElem?_set]
  by_cases hit : i = t
  · rw [if_pos hit, if_pos hit.symm, if_pos (by omega), List.getD_eq_getElem?_getD, List.getElem?_eq_getElem (show l.length - 1 < l.length by omega)]
    rfl
  · rw [if_neg hit, if_neg (fun h => hit h.symm)]
theorem zkey_at {l : List (Nat × Nat)} (hn : (l.map Prod.fst).Nodup) {i j : Nat} {p q : Nat × Nat} (hi : l[i]? = some p) (hj : l[j]? = some q) (h : p.1 = q.1) : i = j := by
  have e1 : (l.map Prod.fst)[i]? = some p.1 := by rw [List.getElem?_map, hi]; rfl
  have e2 : (l.map Prod.fst)[j]? = some p.1 := by rw [List.getElem?_map, hj, h]; rfl
  obtain ⟨l1, g1⟩ := List.getElem?_eq_some_iff.mp e1
  obtain ⟨l2, g2⟩ := List.getElem?_eq_some_iff.mp e2
  exact (List.getElem_inj hn).mp (g1.trans g2.symm)
theorem zdr_mem {l : List (Nat × Nat)} (hn : (l.map Prod.fst).Nodup) {i k v : Nat} (hi : l[i]? = some (k, v)) (q : Nat × Nat) : q ∈ zdr l i ↔ q ∈ l ∧ q.1 ≠ k := by
  have hil := (List.getElem?_eq_some_iff.mp hi).1
  constructor
  · intro hq
    obtain ⟨t, ht⟩ := List.getElem?_of_mem hq
    have htl := (List.getElem?_eq_some_iff.mp ht).1
    rw [zdr_len] at htl
    rw [zdr_get htl] at ht
    by_cases hti : t = i
    · rw [if_pos hti] at ht
      refine ⟨List.mem_of_getElem? ht, fun hh => ?_⟩
      have := zkey_at hn ht hi hh
      omega
    · rw [if_neg hti] at ht
      refine ⟨List.mem_of_getElem? ht, fun hh => hti (zkey_at hn ht hi hh)⟩
  · rintro ⟨hq, hk⟩
    obtain ⟨j, hj⟩ := List.getElem?_of_mem hq
    have hjl := (List.getElem?_eq_some_iff.mp hj).1
    have hji : j ≠ i := fun hh => hk (by rw [hh, hi] at hj; cases hj; rfl)
    by_cases hjn : j < l.length - 1
    · exact List.mem_of_getElem? (i := j) (by rw [zdr_get hjn, if_neg hji]; exact hj)
    · have hje : j = l.length - 1 := by omega
      exact List.mem_of_getElem? (i := i) (by rw [zdr_get (by omega), if_pos rfl, ← hje]; exact hj)
theorem zdr_nd {l : List (Nat × Nat)} (hn : (l.map Prod.fst).Nodup) (i : Nat) : ((zdr l i).map Prod.fst).Nodup := by
  unfold List.Nodup
  rw [List.pairwise_iff_getElem]
  intro s t hs ht hst e
  rw [List.length_map, zdr_len] at hs ht
  have hs1 : s < (zdr l i).length := by rw [zdr_len]; exact hs
  have ht1 : t < (zdr l i).length := by rw [zdr_len]; exact ht
  rw [List.getElem_map, List.getElem_map] at e
  have a1 := List.getElem?_eq_getElem hs1
  have a2 := List.getElem?_eq_getElem ht1
  rw [zdr_get hs] at a1
  rw [zdr_get ht] at a2
  by_cases h1 : s = i
  · rw [if_pos h1] at a1
    rw [if_neg (by omega)] at a2
    have := zkey_at hn a1 a2 e
    omega
  · rw [if_neg h1] at a1
    by_cases h2 : t = i
    · rw [if_pos h2] at a2
      have := zkey_at hn a1 a2 e
      omega
    · rw [if_neg h2] at a2
      have := zkey_at hn a1 a2 e
      omega
theorem zpos_at {cd : Nat → Nat} {S : List Nat} (hp : S.Pairwise (fun a b => cd a < cd b)) {p k : Nat} (hget : S[p]? = some k) : zpos cd S (cd k) = p := by
  have hlt := (List.getElem?_eq_some_iff.mp hget).1
  have h1 := zpos_iff (x := cd k) hp hget
  have h2 := zpos_le cd S (cd k)
  rcases Nat.lt_or_ge (zpos cd S (cd k)) p with hh | hh
  · exfalso
    have hl3 : zpos cd S (cd k) < S.length := by omega
    have h3 := zpos_iff (x := cd k) hp (List.getElem?_eq_getElem hl3)
    have h4 := (pw_lt (f := cd) hp (List.getElem?_eq_getElem hl3) hget).mpr hh
    omega
  · omega
theorem zdel_eq {cd : Nat → Nat} {S : List Nat} (hp : S.Pairwise (fun a b => cd a < cd b)) {k : Nat} (hk : k ∈ S) : ∃ S1 S2, S = S1 ++ k :: S2 ∧ zdel cd S k = S1 ++ S2 := by
  obtain ⟨p, hget⟩ := List.getElem?_of_mem hk
  obtain ⟨hl, hg⟩ := List.getElem?_eq_some_iff.mp hget
  refine ⟨S.take p, S.drop (p + 1), ?_, ?_⟩
  · have := List.take_append_drop p S
    rw [List.drop_eq_getElem_cons hl, hg] at this
    exact this.symm
  · unfold zdel
    rw [zpos_at hp hget]
theorem zdel_len {cd : Nat → Nat} {S : List Nat} (hp : S.Pairwise (fun a b => cd a < cd b)) {k : Nat} (hk : k ∈ S) : (zdel cd S k).length = S.length - 1 := by
  obtain ⟨S1, S2, h1, h2⟩ := zdel_eq hp hk
  rw [h2, h1]
  simp only [List.length_append, List.length_cons]
  omega
theorem zpgs_pred {c n : Nat} : zpgs c (n - 1) ≤ zpgs c n := by
  unfold zpgs
  have : (n - 1 + c - 1) / c ≤ (n + c - 1) / c := Nat.div_le_div_right (by omega)
  omega
section DR
variable {N : Nat} {A : zzA}
theorem zdrN_wf (hW : zWF N A) {k i v : Nat} (hi : (zA_E A (zA_a A k))[i]? = some (k, v)) : zWF N (zdrN A k i) := by
  have hab := hW.adr k
  have hs := hW.sB
  have hkS : k ∈ zA_S A := (hW.2.2.2.2.2.2.2.2.1.2.2 k).mpr ⟨_, v, List.mem_of_getElem? hi⟩
  obtain ⟨⟨w1, w2, w3, w4, w5, w6, w7, w8, w9, w10, w11, w12⟩, v2, v3, v4, v5, v6, v7, v8, v9, v10⟩ := id hW
  have hB : zA_B (zdrN A k i) = zA_B A := rfl
  have hEb : zA_E (zdrN A k i) (zA_a A k) = zdr (zA_E A (zA_a A k)) i := zupd_eq
  have hEx : ∀ b, b ≠ zA_a A k → zA_E (zdrN A k i) b = zA_E A b := fun b hb => zupd_ne hb
  have hGb : zA_G (zdrN A k i) (zA_a A k) = (zA_G A (zA_a A k)).take (zpgs (zA_c A) ((zA_E A (zA_a A k)).length - 1)) := zupd_eq
  have hGx : ∀ b, b ≠ zA_a A k → zA_G (zdrN A k i) b = zA_G A b := fun b hb => zupd_ne hb
  have hgok : zGok (zA_G (zdrN A k i)) := hW.gok.sub (fun x => by
    by_cases hx : x = zA_a A k
    · subst hx; rw [hGb]; exact List.take_sublist _ _
    · rw [hGx x hx]; exact List.Sublist.refl _)
  obtain ⟨S1, S2, d1, d2⟩ := zdel_eq (cd := zA_cd A) hW.pw hkS
  have hSd : zA_S (zdrN A k i) = S1 ++ S2 := d2
  have hnd := hW.nd
  rw [d1] at hnd
  refine ⟨⟨w1, w2, w3, w4, w5, w6, w7, w8, w9, w10, w11, w12⟩, fun b hb => ?_, fun b q hq => ?_, fun b => ?_, fun b hb => ?_, hgok.1, hgok.2.1, hgok.2.2, ⟨?_, ?_, fun x => ?_⟩, v10⟩
  · rw [hB] at hb
    rw [hEx b (by omega), hGx b (by omega)]; exact v2 b hb
  · have ha : ∀ x, zA_a (zdrN A k i) x = zA_a A x := fun x => rfl
    rw [ha]
    by_cases hb : b = zA_a A k
    · subst hb
      rw [hEb] at hq
      exact v3 _ q ((zdr_mem (v4 _) hi q).mp hq).1
    · rw [hEx b hb] at hq; exact v3 b q hq
  · by_cases hb : b = zA_a A k
    · subst hb
      rw [hEb]; exact zdr_nd (v4 _) i
    · rw [hEx b hb]; exact v4 b
  · rw [hB] at hb
    show (zA_G (zdrN A k i) b).length = zpgs (zA_c A) (zA_E (zdrN A k i) b).length
    by_cases hbb : b = zA_a A k
    · subst hbb
      rw [hEb, hGb, zdr_len, List.length_take, v5 _ hb]
      have := zpgs_pred (c := zA_c A) (n := (zA_E A (zA_a A k)).length)
      omega
    · rw [hEx b hbb, hGx b hbb]; exact v5 b hb
  · rw [hSd]
    have := v9.1
    rw [d1] at this
    simp only [List.length_append, List.length_cons] at this ⊢
    omega
  · rw [hSd]
    have := hW.pw
    rw [d1] at this
    exact this.sublist (List.Sublist.append (List.Sublist.refl _) (List.sublist_cons_self _ _))
  · rw [hSd]
    have hx1 : x ∈ S1 ++ S2 ↔ x ∈ zA_S A ∧ x ≠ k := by
      rw [d1]
      rw [List.nodup_append] at hnd
      obtain ⟨n1, n2, n3⟩ := hnd
      have n4 := (List.nodup_cons.mp n2).1
      constructor
      · intro hx
        rcases List.mem_append.mp hx with h1 | h1
        · exact ⟨List.mem_append.mpr (Or.inl h1), fun hh => n3 x h1 k (List.mem_cons_self) hh⟩
        · exact ⟨List.mem_append.mpr (Or.inr (List.mem_cons_of_mem _ h1)), fun hh => n4 (by rw [← hh]; exact h1)⟩
      · rintro ⟨hx, hne⟩
        rcases List.mem_append.mp hx with h1 | h1
        · exact List.mem_append.mpr (Or.inl h1)
        · rcases List.mem_cons.mp h1 with h2 | h2
          · exact absurd h2 hne
          · exact List.mem_append.mpr (Or.inr h2)
    rw [hx1, v9.2.2 x]
    constructor
    · rintro ⟨⟨b, u, h1⟩, hne⟩
      by_cases hb : b = zA_a A k
      · subst hb; exact ⟨_, u, by rw [hEb]; exact (zdr_mem (v4 _) hi _).mpr ⟨h1, hne⟩⟩
      · exact ⟨b, u, by rw [hEx b hb]; exact h1⟩
    · rintro ⟨b, u, h1⟩
      by_cases hb : b = zA_a A k
      · subst hb
        rw [hEb] at h1
        obtain ⟨h2, h3⟩ := (zdr_mem (v4 _) hi _).mp h1
        exact ⟨⟨_, u, h2⟩, h3⟩
      · rw [hEx b hb] at h1
        refine ⟨⟨b, u, h1⟩, fun hh => hb ?_⟩
        have := (v3 b _ h1).2.2
        rw [← this, ← hh]
theorem zjoj_wf (hW : zWF N A) : zWF N (zjoj A) := by
  unfold zjoj
  split
  · rename_i h; exact zjoi_wf hW h
  · exact hW
theorem zdrp_wf (hW : zWF N A) (k : Nat) : zWF N (zdrp A k).2 := by
  unfold zdrp
  cases hz : zfi (zA_E A (zA_a A k)) k with
  | some t =>
    have h1 := zdrN_wf hW (zfi_some (i := t.1) (v := t.2) hz)
    show zWF N (zdrD A k t.1)
    unfold zdrD
    split
    · exact zjoj_wf h1
    · exact h1
  | none => exact zct_wf hW
end DR
