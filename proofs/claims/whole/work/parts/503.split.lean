/-! ===== a split: the value behind it ===== -/
noncomputable def zgo (A : zzA) (q : Nat × Nat) : Bool := !decide (zA_h A q.1 % (2 * zA_s A) = zA_pt A)
noncomputable def zsta (A : zzA) : List (Nat × Nat) := (zA_E A (zA_pt A)).filter (fun q => !zgo A q)
noncomputable def zgon (A : zzA) : List (Nat × Nat) := (zA_E A (zA_pt A)).filter (zgo A)
/-- pages when the old one has but its first and the new one its first -/
noncomputable def zspG2 (A : zzA) : Nat → List Nat := zpush (zupd (zA_G A) (zA_pt A) ((zA_G A (zA_pt A)).take 1)) (zA_B A)
noncomputable def zspG3 (A : zzA) : Nat → List Nat := zlay (zA_c A) (zA_pt A) 0 (zspG2 A) (zsta A).length
noncomputable def zspG (A : zzA) : Nat → List Nat := zlay (zA_c A) (zA_B A) 0 (zspG3 A) (zgon A).length
noncomputable def zspE (A : zzA) : Nat → List (Nat × Nat) := zupd (zupd (zA_E A) (zA_pt A) (zsta A)) (zA_B A) (zgon A)
noncomputable def zspl (A : zzA) : zzA :=
  (A.1, (if zA_pt A + 1 = zA_s A then (zA_lv A + 1, 0) else (zA_lv A, zA_pt A + 1)),
   (zA_rd A + nI (zA_G A (zA_pt A)).length, zA_wr A + nI ((zspG A (zA_pt A)).length + (zspG A (zA_B A)).length), zA_sp A + nI 1, zA_jn A),
   A.2.2.2.1, A.2.2.2.2.1, zspE A, zspG A, A.2.2.2.2.2.2.2)
theorem zGok.sub {G G' : Nat → List Nat} (h : zGok G) (hs : ∀ x, (G' x).Sublist (G x)) : zGok G' :=
  ⟨fun b p hp => h.1 b p ((hs b).subset hp), fun b => (h.2.1 b).sublist (hs b), fun b b' p h1 h2 => h.2.2 b b' p ((hs b).subset h1) ((hs b').subset h2)⟩
theorem zupd_same {α : Type} {F : Nat → α} {b : Nat} {x : α} (h : F b = x) : zupd F b x = F := by
  funext z
  by_cases hz : z = b
  · subst hz; rw [zupd_eq, h]
  · rw [zupd_ne hz]
theorem zlen_upd {α : Type} {E : Nat → List α} {b : Nat} {l : List α} : (fun x => (zupd E b l x).length) = zupd (fun x => (E x).length) b l.length := by
  funext z
  by_cases hz : z = b
  · subst hz; rw [zupd_eq, zupd_eq]
  · rw [zupd_ne hz, zupd_ne hz]
theorem zfilt_len {α : Type} (f : α → Bool) : ∀ l : List α, (l.filter (fun q => !f q)).length + (l.filter f).length = l.length
  | [] => rfl
  | a :: l => by
    have := zfilt_len f l
    cases hf : f a <;> simp [List.filter_cons, hf] <;> omega
theorem zPk.push0 {c b : Nat} {cnt : Nat → Nat} {G : Nat → List Nat} (h2 : 2 ≤ c) (h : zPk c cnt G) (hb : b < 64) (hg : G b = []) (h0 : cnt b = 0) : zPk c cnt (zpush G b) := by
  obtain ⟨f1, f2, f3⟩ := h.fp h2
  obtain ⟨p1, p2, p3, p4⟩ := h
  refine ⟨p1.push f1 f2, fun x hx => ?_, fun x hx => ?_, p4⟩
  · rw [zpush_ne (by omega)]; exact p2 x hx
  · by_cases hxb : x = b
    · subst hxb
      left
      rw [zpush_eq, hg, h0, zpgs_0 (by omega)]; rfl
    · rw [zpush_ne hxb]; exact p3 x hx
theorem zlay_len {c b e : Nat} {G : Nat → List Nat} (x : Nat) : ∀ n, (G x).length ≤ (zlay c b e G n x).length
  | 0 => Nat.le_refl _
  | n + 1 => by
    have := zlay_len (c := c) (b := b) (e := e) (G := G) x n
    show _ ≤ (zlay1 c b (e + n) (zlay c b e G n) x).length
    unfold zlay1
    split
    · by_cases hx : x = b
      · subst hx; rw [zpush_eq, List.length_append]; omega
      · rw [zpush_ne hx]; exact this
    · exact this
section SP
variable {N : Nat} {A : zzA}
theorem zWF.c2 (hW : zWF N A) : 2 ≤ zA_c A ∧ zA_c A ≤ 6 := ⟨hW.1.2.2.1, hW.1.2.2.2.1⟩
theorem zWF.ptB (hW : zWF N A) : zA_pt A < zA_B A ∧ zA_pt A < 64 := by
  have := hW.sB
  unfold zA_B at *
  omega
theorem zsp_pk1 (hW : zWF N A) : zPk (zA_c A) (zupd (fun b => (zA_E A b).length) (zA_pt A) 0) (zupd (zA_G A) (zA_pt A) ((zA_G A (zA_pt A)).take 1)) := by
  have hp := hW.ptB
  have hc := hW.c2
  have hlen := hW.2.2.2.2.1 (zA_pt A) hp.1
  have h0 : 1 ≤ zpgs (zA_c A) (zA_E A (zA_pt A)).length := by unfold zpgs; omega
  obtain ⟨p1, p2, p3, p4⟩ := hW.pk
  have hsum := zsum_upd (f := fun b => (zA_E A b).length) (x := 0) 64 hp.2
  refine ⟨p1.sub (fun x => ?_), fun x hx => ?_, fun x hx => ?_, by omega⟩
  · by_cases hxp : x = zA_pt A
    · subst hxp; rw [zupd_eq]; exact List.take_sublist _ _
    · rw [zupd_ne hxp]; exact List.Sublist.refl _
  · rw [zupd_ne (by omega)]; exact p2 x hx
  · by_cases hxp : x = zA_pt A
    · subst hxp
      left
      rw [zupd_eq, zupd_eq, List.length_take, zpgs_0 (by omega), hlen]; omega
    · rw [zupd_ne hxp, zupd_ne hxp]; exact p3 x hx
theorem zsp_pk2 (hW : zWF N A) (hB : zA_B A < 64) : zPk (zA_c A) (zupd (fun b => (zA_E A b).length) (zA_pt A) 0) (zspG2 A) := by
  have hp := hW.ptB
  have hB2 := hW.2.1 (zA_B A) (Nat.le_refl _)
  refine (zsp_pk1 hW).push0 hW.c2.1 hB ?_ ?_
  · rw [zupd_ne (by omega)]; exact hB2.2
  · rw [zupd_ne (by omega)]
    show (zA_E A (zA_B A)).length = 0
    rw [hB2.1]; rfl
theorem zsp_sum (hW : zWF N A) : (zsta A).length + (zgon A).length = (zA_E A (zA_pt A)).length := zfilt_len _ _
theorem zsp_pk3 (hW : zWF N A) (hB : zA_B A < 64) {n : Nat} (hn : n ≤ (zsta A).length) : zPk (zA_c A) (zupd (fun b => (zA_E A b).length) (zA_pt A) n) (zlay (zA_c A) (zA_pt A) 0 (zspG2 A) n) := by
  have hp := hW.ptB
  have hs := zsp_sum hW
  have hsum := zsum_upd (f := fun b => (zA_E A b).length) (x := 0) 64 hp.2
  have h4 := hW.pk.2.2.2
  have := (zsp_pk2 hW hB).lay hW.c2.1 hp.2 n (by omega)
  rw [zupd_eq, zupd_upd, Nat.zero_add] at this
  exact this
theorem zsp_pk4 (hW : zWF N A) (hB : zA_B A < 64) {n : Nat} (hn : n ≤ (zgon A).length) : zPk (zA_c A) (zupd (zupd (fun b => (zA_E A b).length) (zA_pt A) (zsta A).length) (zA_B A) n) (zlay (zA_c A) (zA_B A) 0 (zspG3 A) n) := by
  have hp := hW.ptB
  have hs := zsp_sum hW
  have hsum := zsum_upd (f := fun b => (zA_E A b).length) (x := (zsta A).length) 64 hp.2
  have h4 := hW.pk.2.2.2
  have hB2 := hW.2.1 (zA_B A) (Nat.le_refl _)
  have hE0 : (zA_E A (zA_B A)).length = 0 := by rw [hB2.1]; rfl
  have := (zsp_pk3 hW hB (Nat.le_refl _)).lay hW.c2.1 hB n (by omega)
  rw [zupd_ne (show zA_B A ≠ zA_pt A by omega)] at this
  simp only [hE0, Nat.zero_add] at this
  exact this
theorem zspE_len (A : zzA) : (fun b => (zspE A b).length) = zupd (zupd (fun b => (zA_E A b).length) (zA_pt A) (zsta A).length) (zA_B A) (zgon A).length := by
  unfold zspE
  rw [zlen_upd, zlen_upd]
theorem zspl_pk (hW : zWF N A) (hB : zA_B A < 64) : zPk (zA_c A) (fun b => (zspE A b).length) (zspG A) := by
  rw [zspE_len]
  exact zsp_pk4 hW hB (Nat.le_refl _)
theorem zspl_s (hW : zWF N A) : (zA_pt A + 1 = zA_s A ∧ zA_lv (zspl A) = zA_lv A + 1 ∧ zA_pt (zspl A) = 0 ∧ zA_s (zspl A) = 2 * zA_s A) ∨ (zA_pt A + 1 < zA_s A ∧ zA_lv (zspl A) = zA_lv A ∧ zA_pt (zspl A) = zA_pt A + 1 ∧ zA_s (zspl A) = zA_s A) := by
  have hs := hW.sB
  have hn : zA_n (zspl A) = zA_n A := rfl
  by_cases h : zA_pt A + 1 = zA_s A
  · left
    have e : (zspl A).2.1 = (zA_lv A + 1, 0) := if_pos h
    have e1 : zA_lv (zspl A) = zA_lv A + 1 := by show (zspl A).2.1.1 = _; rw [e]
    have e2 : zA_pt (zspl A) = 0 := by show (zspl A).2.1.2 = _; rw [e]
    refine ⟨h, e1, e2, ?_⟩
    show zA_n (zspl A) * 2 ^ zA_lv (zspl A) = _
    rw [e1, hn, Nat.pow_succ]
    unfold zA_s
    rw [← Nat.mul_assoc]; omega
  · right
    have e : (zspl A).2.1 = (zA_lv A, zA_pt A + 1) := if_neg h
    have e1 : zA_lv (zspl A) = zA_lv A := by show (zspl A).2.1.1 = _; rw [e]
    have e2 : zA_pt (zspl A) = zA_pt A + 1 := by show (zspl A).2.1.2 = _; rw [e]
    refine ⟨by omega, e1, e2, ?_⟩
    show zA_n (zspl A) * 2 ^ zA_lv (zspl A) = _
    rw [e1, hn]; rfl
theorem zspl_B (hW : zWF N A) : zA_B (zspl A) = zA_B A + 1 := by
  unfold zA_B
  rcases zspl_s hW with ⟨h1, h2, h3, h4⟩ | ⟨h1, h2, h3, h4⟩
  · rw [h3, h4]; omega
  · rw [h3, h4]; omega
theorem zmod2 (h : Nat) {s : Nat} (hs : 1 ≤ s) : h % s < s ∧ (h % (2 * s) = h % s ∨ h % (2 * s) = h % s + s) := by
  have e2 := Nat.mod_lt h (show s > 0 by omega)
  refine ⟨e2, ?_⟩
  have e1 : h % (2 * s) % s = h % s := Nat.mod_mod_of_dvd _ ⟨2, Nat.mul_comm _ _⟩
  have e3 := Nat.mod_lt h (show 2 * s > 0 by omega)
  rcases Nat.lt_or_ge (h % (2 * s)) s with hh | hh
  · left; rw [← e1, Nat.mod_eq_of_lt hh]
  · right
    rw [Nat.mod_eq_sub_mod hh, Nat.mod_eq_of_lt (by omega)] at e1
    omega
theorem zspl_a (hW : zWF N A) (k : Nat) : zA_a (zspl A) k = if zA_a A k = zA_pt A then (if zA_h A k % (2 * zA_s A) = zA_pt A then zA_pt A else zA_B A) else zA_a A k := by
  have hs := hW.sB
  have hh : zA_h (zspl A) k = zA_h A k := rfl
  obtain ⟨m1, m2⟩ := zmod2 (zA_h A k) hs.2.1
  have hB : zA_B A = zA_s A + zA_pt A := rfl
  unfold zA_a zadr
  rw [hh]
  rcases zspl_s hW with ⟨h1, h2, h3, h4⟩ | ⟨h1, h2, h3, h4⟩
  · rw [h3, h4, if_neg (Nat.not_lt_zero _)]
    by_cases hr : zA_h A k % zA_s A < zA_pt A
    · rw [if_pos hr, if_neg (by omega)]
    · rw [if_neg hr, if_pos (by omega)]
      by_cases hm : zA_h A k % (2 * zA_s A) = zA_pt A
      · rw [if_pos hm]; exact hm
      · rw [if_neg hm]; omega
  · rw [h3, h4]
    by_cases hr : zA_h A k % zA_s A < zA_pt A
    · rw [if_pos hr, if_pos (by omega), if_neg (by omega)]
    · rw [if_neg hr]
      by_cases hr2 : zA_h A k % zA_s A = zA_pt A
      · rw [if_pos (by omega), if_pos hr2]
        by_cases hm : zA_h A k % (2 * zA_s A) = zA_pt A
        · rw [if_pos hm]; exact hm
        · rw [if_neg hm]; omega
      · rw [if_neg (by omega), if_neg hr2]
theorem zspl_wf (hW : zWF N A) (hB : zA_B A < 64) : zWF N (zspl A) := by
  have hp := hW.ptB
  have hBB := zspl_B hW
  have hpk := zspl_pk hW hB
  have hs := hW.sB
  have hpB : zA_pt A ≠ zA_B A := by omega
  have hB2 := hW.2.1 (zA_B A) (Nat.le_refl _)
  have hEo : zspE A (zA_pt A) = zsta A := by unfold zspE; rw [zupd_ne hpB, zupd_eq]
  have hEf : zspE A (zA_B A) = zgon A := by unfold zspE; rw [zupd_eq]
  have hEx : ∀ x, x ≠ zA_pt A → x ≠ zA_B A → zspE A x = zA_E A x := fun x h1 h2 => by unfold zspE; rw [zupd_ne h2, zupd_ne h1]
  obtain ⟨⟨w1, w2, w3, w4, w5, w6, w7, w8, w9, w10, w11, w12⟩, v2, v3, v4, v5, v6, v7, v8, v9, v10⟩ := id hW
  refine ⟨⟨w1, w2, w3, w4, w5, w6, w7, w8, ?_, by omega, w11, w12⟩, fun b hb => ?_, fun b q hq => ?_, fun b => ?_, fun b hb => ?_, hpk.1.1, hpk.1.2.1, hpk.1.2.2, ⟨v9.1, v9.2.1, fun k => ?_⟩, v10⟩
  · rcases zspl_s hW with ⟨h1, h2, h3, h4⟩ | ⟨h1, h2, h3, h4⟩ <;> rw [h3, h4] <;> omega
  · rw [hBB] at hb
    have := v2 b (by omega)
    refine ⟨by show zspE A b = []; rw [hEx b (by omega) (by omega)]; exact this.1, ?_⟩
    show zspG A b = []
    unfold zspG zspG3 zspG2
    rw [zlay_ne (by omega), zlay_ne (by omega), zpush_ne (by omega), zupd_ne (by omega)]
    exact this.2
  · have hq : q ∈ zspE A b := hq
    rw [zspl_a hW]
    by_cases h1 : b = zA_pt A
    · subst h1
      rw [hEo] at hq
      obtain ⟨q1, q2⟩ := List.mem_filter.mp hq
      have := v3 _ q q1
      refine ⟨this.1, this.2.1, ?_⟩
      rw [if_pos this.2.2, if_pos (by unfold zgo at q2; simpa using q2)]
    · by_cases h2 : b = zA_B A
      · subst h2
        rw [hEf] at hq
        obtain ⟨q1, q2⟩ := List.mem_filter.mp hq
        have := v3 _ q q1
        refine ⟨this.1, this.2.1, ?_⟩
        rw [if_pos this.2.2, if_neg (by unfold zgo at q2; simpa using q2)]
      · rw [hEx b h1 h2] at hq
        have := v3 _ q hq
        refine ⟨this.1, this.2.1, ?_⟩
        rw [if_neg (by rw [this.2.2]; exact h1)]
        exact this.2.2
  · show ((zspE A b).map Prod.fst).Nodup
    by_cases h1 : b = zA_pt A
    · subst h1
      rw [hEo]
      exact (v4 _).sublist ((List.filter_sublist).map _)
    · by_cases h2 : b = zA_B A
      · subst h2
        rw [hEf]
        exact (v4 (zA_pt A)).sublist ((List.filter_sublist).map _)
      · rw [hEx b h1 h2]; exact v4 b
  · rw [hBB] at hb
    show (zspG A b).length = zpgs (zA_c A) (zspE A b).length
    rcases hpk.2.2.1 b (by omega) with e | ⟨e1, e2⟩
    · exact e
    · exfalso
      have l1 := zlay_len (c := zA_c A) (b := zA_B A) (e := 0) (G := zspG3 A) b (zgon A).length
      have l2 := zlay_len (c := zA_c A) (b := zA_pt A) (e := 0) (G := zspG2 A) b (zsta A).length
      have l3 : 1 ≤ (zspG2 A b).length := by
        unfold zspG2
        by_cases h2 : b = zA_B A
        · subst h2; rw [zpush_eq, List.length_append]; simp
        · rw [zpush_ne h2]
          have hl := v5 b (by omega)
          have h0 : 1 ≤ zpgs (zA_c A) (zA_E A b).length := by unfold zpgs; omega
          by_cases h1 : b = zA_pt A
          · subst h1; rw [zupd_eq, List.length_take]; omega
          · rw [zupd_ne h1]; omega
      unfold zspG at e1
      unfold zspG3 at l1 e1
      omega
  · show k ∈ zA_S A ↔ ∃ b v, (k, v) ∈ zspE A b
    rw [v9.2.2 k]
    constructor
    · rintro ⟨b, v, hh⟩
      by_cases h1 : b = zA_pt A
      · subst h1
        by_cases hg : zgo A (k, v) = true
        · exact ⟨zA_B A, v, by rw [hEf]; exact List.mem_filter.mpr ⟨hh, hg⟩⟩
        · exact ⟨zA_pt A, v, by rw [hEo]; exact List.mem_filter.mpr ⟨hh, by simpa using hg⟩⟩
      · have h2 : b ≠ zA_B A := fun e => by rw [e, hB2.1] at hh; cases hh
        exact ⟨b, v, by rw [hEx b h1 h2]; exact hh⟩
    · rintro ⟨b, v, hh⟩
      by_cases h1 : b = zA_pt A
      · subst h1
        rw [hEo] at hh
        exact ⟨_, v, (List.mem_filter.mp hh).1⟩
      · by_cases h2 : b = zA_B A
        · subst h2
          rw [hEf] at hh
          exact ⟨_, v, (List.mem_filter.mp hh).1⟩
        · rw [hEx b h1 h2] at hh
          exact ⟨b, v, hh⟩
end SP
