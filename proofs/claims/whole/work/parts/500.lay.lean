/-! ===== pages laid, one behind the other ===== -/
theorem zcnt_or (p q : Nat → Bool) : ∀ n, zcnt (fun i => p i || q i) n ≤ zcnt p n + zcnt q n
  | 0 => Nat.le_refl 0
  | n + 1 => by
    have := zcnt_or p q n
    unfold zcnt
    cases hp : p n <;> cases hq : q n <;> simp <;> omega
theorem zcnt_dis {p q : Nat → Bool} (h : ∀ i, p i = true → q i = true → False) : ∀ n, zcnt (fun i => p i || q i) n = zcnt p n + zcnt q n
  | 0 => rfl
  | n + 1 => by
    have := zcnt_dis h n
    have h1 := h n
    unfold zcnt
    cases hp : p n <;> cases hq : q n <;> simp [hp, hq] at h1 ⊢ <;> omega
theorem zcnt_all {p : Nat → Bool} : ∀ n, (∀ i, i < n → p i = true) → zcnt p n = n
  | 0, _ => rfl
  | n + 1, h => by
    unfold zcnt
    rw [zcnt_all n (fun i hi => h i (by omega)), h n (by omega)]
    rfl
theorem zcnt_no {p : Nat → Bool} : ∀ n, (∀ i, i < n → p i = false) → zcnt p n = 0
  | 0, _ => rfl
  | n + 1, h => by
    unfold zcnt
    rw [zcnt_no n (fun i hi => h i (by omega)), h n (by omega)]
    rfl
theorem zrange_any {n : Nat} {f : Nat → Bool} : (List.range (n + 1)).any f = ((List.range n).any f || f n) := by
  rw [List.range_succ, List.any_append]
  simp
theorem zused_le {G : Nat → List Nat} (hG : zGok G) : ∀ n, zcnt (fun p => (List.range n).any (fun b => decide (p ∈ G b))) 256 ≤ zsum (fun b => (G b).length) n
  | 0 => by rw [zcnt_no 256 (fun i _ => by simp)]; exact Nat.zero_le _
  | n + 1 => by
    have h1 := zused_le hG n
    have h2 : zcnt (fun p => decide (p ∈ G n)) 256 = (G n).length := zcnt_list (hG.2.1 n) (fun x => ⟨fun h => ⟨hG.1 n x h, by simp [h]⟩, fun h => by simpa using h.2⟩)
    have h3 := zcnt_or (fun p => (List.range n).any (fun b => decide (p ∈ G b))) (fun p => decide (p ∈ G n)) 256
    rw [zcnt_congr 256 (q := fun p => (List.range n).any (fun b => decide (p ∈ G b)) || decide (p ∈ G n)) (fun i _ => zrange_any)]
    unfold zsum
    omega
theorem zfree_ex {G : Nat → List Nat} (hG : zGok G) (hs : zsum (fun b => (G b).length) 64 < 256) : ∃ p, zfree1 G p := by
  have h1 := zused_le hG 64
  have hex : ∃ p, p < 256 ∧ ∀ b, b < 64 → p ∉ G b := by
    refine Classical.byContradiction (fun hno => ?_)
    have : zcnt (fun p => (List.range 64).any (fun b => decide (p ∈ G b))) 256 = 256 := zcnt_all 256 (fun p hp => by
      refine Classical.byContradiction (fun hf => hno ⟨p, hp, fun b hb hm => hf ?_⟩)
      rw [List.any_eq_true]
      exact ⟨b, List.mem_range.mpr hb, by simpa using hm⟩)
    omega
  obtain ⟨p, hp, hmin⟩ := zleast hex
  refine ⟨p, hp.1, hp.2, fun q hq => Classical.byContradiction (fun hno => hmin q hq ⟨by omega, fun b hb hm => hno ⟨b, hb, hm⟩⟩)⟩
/-- the lowest free page -/
noncomputable def zfp (G : Nat → List Nat) : Nat := by
  classical
  exact if h : ∃ p, zfree1 G p then Classical.choose h else 0
theorem zfp_ok {G : Nat → List Nat} (h : ∃ p, zfree1 G p) : zfree1 G (zfp G) := by
  unfold zfp
  rw [dif_pos h]
  exact Classical.choose_spec h
noncomputable def zpush (G : Nat → List Nat) (b : Nat) : Nat → List Nat := zupd G b (G b ++ [zfp G])
/-- the pages of b behind one entry more, e being there -/
noncomputable def zlay1 (c b e : Nat) (G : Nat → List Nat) : Nat → List Nat := if e = c * (G b).length then zpush G b else G
noncomputable def zlay (c b e : Nat) (G : Nat → List Nat) : Nat → Nat → List Nat
  | 0 => G
  | n + 1 => zlay1 c b (e + n) (zlay c b e G n)
theorem zlay_front (c b e : Nat) (G : Nat → List Nat) : ∀ n, zlay c b e G (n + 1) = zlay c b (e + 1) (zlay1 c b e G) n
  | 0 => rfl
  | n + 1 => by
    show zlay1 c b (e + (n + 1)) (zlay c b e G (n + 1)) = zlay1 c b (e + 1 + n) (zlay c b (e + 1) (zlay1 c b e G) n)
    rw [zlay_front c b e G n, show e + (n + 1) = e + 1 + n by omega]
theorem zpush_ne {G : Nat → List Nat} {b x : Nat} (h : x ≠ b) : zpush G b x = G x := zupd_ne h
theorem zpush_eq {G : Nat → List Nat} {b : Nat} : zpush G b b = G b ++ [zfp G] := zupd_eq
theorem zlay1_ne {c b e x : Nat} {G : Nat → List Nat} (h : x ≠ b) : zlay1 c b e G x = G x := by
  unfold zlay1
  split
  · exact zpush_ne h
  · rfl
theorem zlay_ne {c b e x : Nat} {G : Nat → List Nat} (h : x ≠ b) : ∀ n, zlay c b e G n x = G x
  | 0 => rfl
  | n + 1 => by
    show zlay1 c b (e + n) (zlay c b e G n) x = G x
    rw [zlay1_ne h, zlay_ne h n]
/-- pages as so many keys of each bucket need them -/
def zPk (c : Nat) (cnt : Nat → Nat) (G : Nat → List Nat) : Prop :=
  zGok G ∧ (∀ b, 64 ≤ b → G b = []) ∧ (∀ b, b < 64 → (G b).length = zpgs c (cnt b) ∨ ((G b).length = 0 ∧ cnt b = 0)) ∧ zsum cnt 64 ≤ 300
theorem zpgs_two {c e : Nat} (h : 2 ≤ c) : 2 * zpgs c e ≤ e + 2 := by
  unfold zpgs
  have h1 := Nat.mul_div_le (e + c - 1) c
  generalize (e + c - 1) / c = q at h1
  cases q with
  | zero => omega
  | succ r =>
    rw [Nat.mul_add, Nat.mul_one] at h1
    have h2 : 2 * r ≤ c * r := Nat.mul_le_mul_right r h
    omega
theorem zsum_two {f g : Nat → Nat} : ∀ n, (∀ i, i < n → 2 * f i ≤ g i + 2) → 2 * zsum f n ≤ zsum g n + 2 * n
  | 0, _ => by simp [zsum]
  | n + 1, h => by
    have h1 := zsum_two n (fun i hi => h i (by omega))
    have h2 := h n (by omega)
    unfold zsum
    omega
theorem zsum_upd {f : Nat → Nat} {b x : Nat} : ∀ n, b < n → zsum (zupd f b x) n + f b = zsum f n + x
  | 0, h => by omega
  | n + 1, h => by
    unfold zsum
    by_cases hb : b = n
    · subst hb
      rw [zupd_eq, zsum_congr b (g := f) (fun i hi => zupd_ne (by omega))]; omega
    · have := zsum_upd (f := f) (x := x) n (show b < n by omega)
      rw [zupd_ne (by omega)]; omega
theorem zPk.free {c : Nat} {cnt : Nat → Nat} {G : Nat → List Nat} (h2 : 2 ≤ c) (h : zPk c cnt G) : ∃ p, zfree1 G p := by
  refine zfree_ex h.1 ?_
  have := zsum_two (f := fun b => (G b).length) (g := cnt) 64 (fun b hb => by
    rcases h.2.2.1 b hb with e | e
    · have := zpgs_two (e := cnt b) h2
      simp only [e]; exact this
    · simp only [e]; omega)
  have := h.2.2.2
  omega
theorem zPk.fp {c : Nat} {cnt : Nat → Nat} {G : Nat → List Nat} (h2 : 2 ≤ c) (h : zPk c cnt G) : zfp G < 256 ∧ (∀ b, zfp G ∉ G b) ∧ zfree1 G (zfp G) := by
  have h1 := zfp_ok (h.free h2)
  refine ⟨h1.1, fun b hb => ?_, h1⟩
  rcases Nat.lt_or_ge b 64 with hh | hh
  · exact h1.2.1 b hh hb
  · rw [h.2.1 b hh] at hb; cases hb
theorem zpgs_full {c e : Nat} (h : 1 ≤ c) (he : e = c * zpgs c e) : zpgs c (e + 1) = zpgs c e + 1 := by
  have h0 : 1 ≤ zpgs c e := by unfold zpgs; omega
  generalize hq : zpgs c e = q at h0 he
  unfold zpgs
  have : (e + 1 + c - 1) / c = q + 1 := by
    rw [he, show c * q + 1 + c - 1 = c * (q + 1) by rw [Nat.mul_add]; omega, Nat.mul_div_cancel_left _ (by omega)]
  rw [this]; omega
theorem zpgs_part {c e : Nat} (h : 1 ≤ c) (he : e ≠ c * zpgs c e) : zpgs c (e + 1) = zpgs c e := by
  have h1 := zpgs_cap (e := e) h
  have hlt : e < c * zpgs c e := by omega
  have h0 : 1 ≤ zpgs c e := by unfold zpgs; omega
  generalize hq : zpgs c e = q at hlt h0
  have hqd : q = max 1 ((e + c - 1) / c) := by rw [← hq]; rfl
  unfold zpgs
  have hle : (e + 1 + c - 1) / c ≤ q := by
    apply Nat.le_of_lt_succ
    rw [Nat.div_lt_iff_lt_mul (by omega), Nat.succ_mul, Nat.mul_comm q c]
    omega
  have hge : (e + c - 1) / c ≤ (e + 1 + c - 1) / c := Nat.div_le_div_right (by omega)
  omega
theorem zpgs_0 {c : Nat} (h : 1 ≤ c) : zpgs c 0 = 1 := by
  unfold zpgs
  rw [Nat.div_eq_of_lt (by omega)]; rfl
theorem zpgs_1 {c : Nat} (h : 1 ≤ c) : zpgs c 1 = 1 := by
  unfold zpgs
  rw [show 1 + c - 1 = c by omega, Nat.div_self (by omega)]; rfl
theorem zPk.lay1 {c b : Nat} {cnt : Nat → Nat} {G : Nat → List Nat} (h2 : 2 ≤ c) (h : zPk c cnt G) (hb : b < 64) (hs : zsum cnt 64 < 300) : zPk c (zupd cnt b (cnt b + 1)) (zlay1 c b (cnt b) G) := by
  have hsum := zsum_upd (f := cnt) (x := cnt b + 1) 64 hb
  obtain ⟨f1, f2, f3⟩ := h.fp h2
  obtain ⟨p1, p2, p3, p4⟩ := h
  have hlen : (zlay1 c b (cnt b) G b).length = zpgs c (cnt b + 1) := by
    unfold zlay1
    rcases p3 b hb with e | ⟨e1, e2⟩
    · by_cases hf : cnt b = c * (G b).length
      · rw [if_pos hf, zpush_eq, List.length_append, e, zpgs_full (by omega) (by rw [← e]; exact hf)]; rfl
      · rw [if_neg hf, e, zpgs_part (by omega) (by rw [← e]; exact hf)]
    · rw [if_pos (by rw [e1, e2]; rfl), zpush_eq, List.length_append, e1, e2, zpgs_1 (by omega)]; rfl
  refine ⟨?_, fun x hx => ?_, fun x hx => ?_, by omega⟩
  · unfold zlay1
    split
    · exact p1.push f1 f2
    · exact p1
  · rw [zlay1_ne (by omega)]; exact p2 x hx
  · by_cases hxb : x = b
    · subst hxb
      left
      rw [hlen, zupd_eq]
    · rw [zlay1_ne hxb, zupd_ne hxb]; exact p3 x hx
theorem zPk.lay {c b : Nat} {cnt : Nat → Nat} {G : Nat → List Nat} (h2 : 2 ≤ c) (h : zPk c cnt G) (hb : b < 64) : ∀ n, zsum cnt 64 + n ≤ 300 → zPk c (zupd cnt b (cnt b + n)) (zlay c b (cnt b) G n)
  | 0, _ => by
    have : zupd cnt b (cnt b + 0) = cnt := by
      funext x
      by_cases hx : x = b
      · subst hx; rw [zupd_eq]; rfl
      · rw [zupd_ne hx]
    rw [this]; exact h
  | n + 1, hs => by
    have h1 := zPk.lay h2 h hb n (by omega)
    have hsum := zsum_upd (f := cnt) (x := cnt b + n) 64 hb
    have h3 := h1.lay1 h2 hb (by omega)
    rw [zupd_eq] at h3
    have he : zupd (zupd cnt b (cnt b + n)) b (cnt b + n + 1) = zupd cnt b (cnt b + (n + 1)) := by
      funext x
      by_cases hx : x = b
      · subst hx; rw [zupd_eq, zupd_eq]; rfl
      · rw [zupd_ne hx, zupd_ne hx, zupd_ne hx]
    rw [he] at h3
    exact h3
theorem zPk.cap {c b : Nat} {cnt : Nat → Nat} {G : Nat → List Nat} (h1 : 1 ≤ c) (h : zPk c cnt G) (hb : b < 64) : cnt b ≤ c * (G b).length := by
  rcases h.2.2.1 b hb with e | ⟨e1, e2⟩
  · rw [e]; exact zpgs_cap h1
  · rw [e2]; exact Nat.zero_le _
theorem zPk.low {c b j : Nat} {cnt : Nat → Nat} {G : Nat → List Nat} (h1 : 1 ≤ c) (h : zPk c cnt G) (hb : b < 64) (hj : j < (G b).length) : c * j ≤ cnt b := by
  rcases h.2.2.1 b hb with e | ⟨e1, e2⟩
  · rw [e] at hj; exact zpgs_low h1 hj
  · omega
theorem zPk.cn {c b : Nat} {cnt : Nat → Nat} {G : Nat → List Nat} (h : zPk c cnt G) (hb : b < 64) : cnt b ≤ 300 := by
  have := zsum_upd (f := cnt) (x := 0) 64 hb
  have := h.2.2.2
  omega
/-- of a file that can be -/
theorem zsumE {N : Nat} {A : zzA} (hW : zWF N A) : zsum (fun b => (zA_E A b).length) 64 ≤ (zA_S A).length := by
  have key : ∀ n, zsum (fun b => (zA_E A b).length) n = zcnt (fun k => (List.range n).any (fun b => decide (k ∈ (zA_E A b).map Prod.fst))) 65536 := by
    intro n
    induction n with
    | zero => rw [zcnt_no 65536 (fun i _ => by simp)]; rfl
    | succ n ih =>
      have h2 : zcnt (fun k => decide (k ∈ (zA_E A n).map Prod.fst)) 65536 = ((zA_E A n).map Prod.fst).length := zcnt_list (hW.2.2.2.1 n) (fun x => ⟨fun hx => ⟨by
        obtain ⟨q, hq, rfl⟩ := List.mem_map.mp hx
        exact (hW.2.2.1 n q hq).1, by simpa using hx⟩, fun hx => by simpa using hx.2⟩)
      rw [List.length_map] at h2
      rw [zcnt_congr 65536 (q := fun p => (List.range n).any (fun b => decide (p ∈ (zA_E A b).map Prod.fst)) || decide (p ∈ (zA_E A n).map Prod.fst)) (fun i _ => zrange_any), zcnt_dis (fun k h3 h4 => ?_), ← ih, h2]
      · rfl
      · rw [List.any_eq_true] at h3
        obtain ⟨b, hb, hk⟩ := h3
        have hb := List.mem_range.mp hb
        have hk : k ∈ (zA_E A b).map Prod.fst := by simpa using hk
        have h4 : k ∈ (zA_E A n).map Prod.fst := by simpa using h4
        obtain ⟨q, q1, q2⟩ := List.mem_map.mp hk
        obtain ⟨r, r1, r2⟩ := List.mem_map.mp h4
        have a1 := (hW.2.2.1 b q q1).2.2
        have a2 := (hW.2.2.1 n r r1).2.2
        rw [q2] at a1
        rw [r2] at a2
        omega
  have h2 : zcnt (fun k => decide (k ∈ zA_S A)) 65536 = (zA_S A).length := zcnt_list hW.nd (fun x => ⟨fun hx => ⟨hW.key hx, by simpa using hx⟩, fun hx => by simpa using hx.2⟩)
  rw [key, ← h2]
  refine zcnt_mono (fun k hk => ?_) 65536
  rw [List.any_eq_true] at hk
  obtain ⟨b, hb, hk⟩ := hk
  have hk : k ∈ (zA_E A b).map Prod.fst := by simpa using hk
  obtain ⟨q, hq, rfl⟩ := List.mem_map.mp hk
  have : q.1 ∈ zA_S A := (hW.2.2.2.2.2.2.2.2.1.2.2 q.1).mpr ⟨b, q.2, hq⟩
  simpa using this
theorem zWF.pk {N : Nat} {A : zzA} (hW : zWF N A) : zPk (zA_c A) (fun b => (zA_E A b).length) (zA_G A) := by
  have hB := hW.sB.2.2.1
  refine ⟨hW.gok, fun b hb => (hW.2.1 b (by omega)).2, fun b hb => ?_, ?_⟩
  · rcases Nat.lt_or_ge b (zA_B A) with hh | hh
    · exact Or.inl (hW.2.2.2.2.1 b hh)
    · right
      have := hW.2.1 b hh
      show (zA_G A b).length = 0 ∧ (zA_E A b).length = 0
      rw [this.1, this.2]
      exact ⟨rfl, rfl⟩
  · have h1 := zsumE hW
    have h2 := hW.2.2.2.2.2.2.2.2.1.1
    omega
