/-- a loop that counts up, with a memory that may change within a frame -/
theorem zlp_forM {σ ρ : Type} {B : σ → Option (σ ⊕ ρ)} (st : Nat → zzMem → σ) (J : zzMem → Prop) (n : Nat) (R : ρ → Prop) (hs : ∀ i, i < n → ∀ M, J M → ∃ M', B (st i M) = some (.inl (st (i + 1) M')) ∧ J M') (he : ∀ M, J M → ∃ r, B (st n M) = some (.inr r) ∧ R r) : ∀ i, i ≤ n → ∀ M, J M → ∃ r, zlp B (st i M) = some r ∧ R r := by
  intro i hi
  obtain ⟨d, hd⟩ : ∃ d, n = i + d := ⟨n - i, by omega⟩
  induction d generalizing i with
  | zero =>
    intro M hJ
    have : i = n := by omega
    subst this
    obtain ⟨r, h1, h2⟩ := he M hJ
    exact ⟨r, zlp_done h1, h2⟩
  | succ d ih =>
    intro M hJ
    obtain ⟨M', h1, h2⟩ := hs i (by omega) M hJ
    obtain ⟨r, h3, h4⟩ := ih (i + 1) (by omega) (by omega) M' h2
    exact ⟨r, by rw [zlp_step h1]; exact h3, h4⟩
/-- the first from s on, of f in all -/
def zfs (p : Nat → Bool) : Nat → Nat → Nat
  | s, 0 => s
  | s, f + 1 => if p s = true then s else zfs p (s + 1) f
theorem zfs_ok (p : Nat → Bool) : ∀ f s, s ≤ zfs p s f ∧ zfs p s f ≤ s + f ∧ (∀ b, s ≤ b → b < zfs p s f → p b = false) ∧ (zfs p s f < s + f → p (zfs p s f) = true) := by
  intro f
  induction f with
  | zero => intro s; exact ⟨Nat.le_refl _, Nat.le_refl _, fun b h1 h2 => by simp [zfs] at h2; omega, fun h => by simp [zfs] at h⟩
  | succ f ih =>
    intro s
    unfold zfs
    by_cases hp : p s = true
    · rw [if_pos hp]
      exact ⟨Nat.le_refl _, by omega, fun b h1 h2 => by omega, fun _ => hp⟩
    · rw [if_neg hp]
      obtain ⟨h1, h2, h3, h4⟩ := ih (s + 1)
      refine ⟨by omega, by omega, fun b hb1 hb2 => ?_, fun h => h4 (by omega)⟩
      by_cases hbs : b = s
      · subst hbs; simpa using hp
      · exact h3 b (by omega) hb2
theorem zwh_lt {n b h : Nat} (h1 : 1 ≤ n) (h2 : n ≤ b) (h3 : b ≤ 64) : zwh n b h < 128 := by
  obtain ⟨e1, e2⟩ := zspn_le h1 h2 h3
  have := zadr_lt (s := zspn n b) (p := b - zspn n b) (h := h) e2
  unfold zwh
  omega
theorem op_parted (N : Nat) (a b : Int32) : zSame N (f_X9_parted a b) (f_X10_parted a b) := by
  refine zSame.ss (fun hN tp A M h1 h2 h3 h4 h5 => ?_)
  have hn : 1 ≤ zA_n A ∧ zA_n A ≤ 4 := ⟨h2.1.1, h2.1.2.1⟩
  have hok : zLok (zA_law A) := h2.1.2.2.2.2.2.2.2.2.2.2.2
  unfold f_X9_parted f_X10_parted
  rw [isKey_eq]
  rcases keyC a with ⟨ha, k, hk, rfl⟩ | ha
  · rcases keyC b with ⟨hb, x, hx, rfl⟩ | hb
    · simp only [ha, hb, if_true]
      by_cases hkx : nI k = nI x
      · exact ⟨(-1 : Int32), ⟨M, by simp [hkx], zFr.refl M⟩, fun M1 hf => ⟨M1, by simp [hkx], zFr.refl M1⟩⟩
      · simp only [if_neg hkx]
        obtain ⟨M1, e1, e2⟩ := cHash (o := 13) h3.2.1 hok hk
        obtain ⟨M2, e3, e4⟩ := cHash (o := 13) (h3.2.1.frS e2 (by simp) (by simp)) hok hx
        have hf2 := e2.trans e4
        have hc4 : M2.1 12 4 = nI (zA_n A) := by rw [(hf2 12 4 (by simp)).1]; exact h3.1.1
        generalize hp : (fun b => decide (zwh (zA_n A) b (zhs (zA_law A) k) ≠ zwh (zA_n A) b (zhs (zA_law A) x))) = p
        obtain ⟨f1, f2, f3, f4⟩ := zfs_ok p (65 - zA_n A) (zA_n A)
        generalize zfs p (zA_n A) (65 - zA_n A) = z at f1 f2 f3 f4
        have hne : ∀ y, p y = true ↔ zwh (zA_n A) y (zhs (zA_law A) k) ≠ zwh (zA_n A) y (zhs (zA_law A) x) := fun y => by rw [← hp]; simp
        refine ⟨if z = 65 then (-2 : Int32) else nI z, ⟨M2, ?_, hf2.weak zScr15⟩, fun M3 hf => ?_⟩
        · simp only [e1, e3, Option.bind_some, zpr, zbd, hc4]
          unfold j_X9_parted_55
          have := zlp_for (B := fun s : Int32 => b_X9_parted_55 (nI (zhs (zA_law A) k)) (nI (zhs (zA_law A) x)) s M2) (fun i => nI (zA_n A + i)) (z - zA_n A) (if z = 65 then (-2 : Int32) else nI z, M2) (fun i hi => ?_) ?_ 0 (by omega)
          · simpa using this
          · unfold b_X9_parted_55
            have hpf := f3 (zA_n A + i) (by omega) (by omega)
            have heq : zwh (zA_n A) (zA_n A + i) (zhs (zA_law A) k) = zwh (zA_n A) (zA_n A + i) (zhs (zA_law A) x) := by
              rcases Classical.em (zwh (zA_n A) (zA_n A + i) (zhs (zA_law A) k) = zwh (zA_n A) (zA_n A + i) (zhs (zA_law A) x)) with h | h
              · exact h
              · rw [(hne _).mpr h] at hpf; cases hpf
            simp (disch := omega) only [ifLt_f, cAddrAmong hc4 hn.1 (show zA_n A ≤ zA_n A + i by omega) (show zA_n A + i ≤ 64 by omega) (zhs_lt hk hok.1), cAddrAmong hc4 hn.1 (show zA_n A ≤ zA_n A + i by omega) (show zA_n A + i ≤ 64 by omega) (zhs_lt hx hok.1), Option.bind_some, heq, if_true, zbd, nIadd, Nat.add_assoc]
          · rw [show zA_n A + (z - zA_n A) = z by omega]
            unfold b_X9_parted_55
            by_cases h65 : z = 65
            · subst h65
              simp (disch := omega) only [ifLt_t, if_true]
            · have hpt := f4 (by omega)
              rw [hne] at hpt
              simp (disch := omega) only [ifLt_f, cAddrAmong hc4 hn.1 (show zA_n A ≤ z by omega) (show z ≤ 64 by omega) (zhs_lt hk hok.1), cAddrAmong hc4 hn.1 (show zA_n A ≤ z by omega) (show z ≤ 64 by omega) (zhs_lt hx hok.1), Option.bind_some, if_neg h65]
              rw [if_neg]
              intro he
              have l1 := zwh_lt (h := zhs (zA_law A) k) hn.1 (show zA_n A ≤ z by omega) (show z ≤ 64 by omega)
              have l2 := zwh_lt (h := zhs (zA_law A) x) hn.1 (show zA_n A ≤ z by omega) (show z ≤ 64 by omega)
              exact hpt ((nI_eq (by omega) (by omega)).mp he)
        · have h4' := h4.fr (Or.inl rfl) h2 hf
          have hm0 : M3.1 74 0 = nI (zA_n A) := by have := h4'.1.1; simpa using this
          rw [hm0]
          unfold j_X10_parted_28 zbd
          have hl60 : (zA_law A).length ≤ 60 := hok.2
          have hall : ∀ M4, zFr (fun a _ => a = 78) M3 M4 → M4.1 74 0 = nI (zA_n A) ∧ zLm M4 0 (zA_law A) := fun M4 hf4 => ⟨by rw [(hf4 74 0 (by simp)).1]; exact hm0, h4'.2.1.frS hl60 hf4 (by intro i _; simp)⟩
          have hZ := zlp_forM (B := fun s : (Int32 × zzMem) => b_X10_parted_28 (nI k) (nI x) s.1 s.2) (fun i M => (nI (zA_n A + i), M)) (fun M4 => zFr (fun a _ => a = 78) M3 M4) (z - zA_n A) (fun r => ∃ M4, r = (if z = 65 then (-2 : Int32) else nI z, M4) ∧ zFr (fun a _ => a = 78) M3 M4) (fun i hi M4 hf4 => ?_) (fun M4 hf4 => ?_) 0 (by omega) M3 (zFr.refl M3)
          · obtain ⟨r, hr1, M4, rfl, hf4⟩ := hZ
            exact ⟨M4, by simpa using hr1, hf4.weak zScr78⟩
          · obtain ⟨a1, a2⟩ := hall M4 hf4
            obtain ⟨M5, g1, g2⟩ := mWhereIn a1 hn.1 (show zA_n A ≤ zA_n A + i by omega) (show zA_n A + i ≤ 64 by omega) a2 hok hk
            obtain ⟨b1, b2⟩ := hall M5 (hf4.trans g2)
            obtain ⟨M6, g3, g4⟩ := mWhereIn b1 hn.1 (show zA_n A ≤ zA_n A + i by omega) (show zA_n A + i ≤ 64 by omega) b2 hok hx
            have hpf := f3 (zA_n A + i) (by omega) (by omega)
            have heq : zwh (zA_n A) (zA_n A + i) (zhs (zA_law A) k) = zwh (zA_n A) (zA_n A + i) (zhs (zA_law A) x) := by
              rcases Classical.em (zwh (zA_n A) (zA_n A + i) (zhs (zA_law A) k) = zwh (zA_n A) (zA_n A + i) (zhs (zA_law A) x)) with h | h
              · exact h
              · rw [(hne _).mpr h] at hpf; cases hpf
            refine ⟨M6, ?_, (hf4.trans g2).trans g4⟩
            unfold b_X10_parted_28
            simp (disch := omega) only [ifLt_f, g1, g3, Option.bind_some, zpr, heq, if_true, zbd, nIadd, Nat.add_assoc]
          · rw [show zA_n A + (z - zA_n A) = z by omega]
            unfold b_X10_parted_28
            by_cases h65 : z = 65
            · subst h65
              exact ⟨_, by simp (disch := omega) only [ifLt_t, if_true], M4, rfl, hf4⟩
            · obtain ⟨a1, a2⟩ := hall M4 hf4
              obtain ⟨M5, g1, g2⟩ := mWhereIn a1 hn.1 (show zA_n A ≤ z by omega) (show z ≤ 64 by omega) a2 hok hk
              obtain ⟨b1, b2⟩ := hall M5 (hf4.trans g2)
              obtain ⟨M6, g3, g4⟩ := mWhereIn b1 hn.1 (show zA_n A ≤ z by omega) (show z ≤ 64 by omega) b2 hok hx
              have hpt := f4 (by omega)
              rw [hne] at hpt
              refine ⟨(nI z, M6), ?_, M6, by rw [if_neg h65], (hf4.trans g2).trans g4⟩
              simp (disch := omega) only [ifLt_f, g1, g3, Option.bind_some, zpr]
              rw [if_neg]
              intro he
              have l1 := zwh_lt (h := zhs (zA_law A) k) hn.1 (show zA_n A ≤ z by omega) (show z ≤ 64 by omega)
              have l2 := zwh_lt (h := zhs (zA_law A) x) hn.1 (show zA_n A ≤ z by omega) (show z ≤ 64 by omega)
              exact hpt ((nI_eq (by omega) (by omega)).mp he)
    · exact ⟨(-1 : Int32), ⟨M, by simp [ha, hb], zFr.refl M⟩, fun M1 hf => ⟨M1, by simp [ha, hb], zFr.refl M1⟩⟩
  · exact ⟨(-1 : Int32), ⟨M, by simp [ha], zFr.refl M⟩, fun M1 hf => ⟨M1, by simp [ha], zFr.refl M1⟩⟩
