/-! ===== the class's order ===== -/
theorem zL_le {a b : Nat} (ha : a < 2 ^ 63) (hb : b < 2 ^ 63) : lN a ≤ lN b ↔ a ≤ b := by
  rw [Int64.le_iff_toInt_le, lN_ti (by omega), lN_ti (by omega), if_pos ha, if_pos hb]
  omega
theorem zL_eq {a b : Nat} (ha : a < 2 ^ 63) (hb : b < 2 ^ 63) : lN a = lN b ↔ a = b := by
  constructor
  · intro h
    have h1 : (lN a).toInt = (lN b).toInt := by rw [h]
    rw [lN_ti (by omega), lN_ti (by omega), if_pos ha, if_pos hb] at h1
    omega
  · intro h; rw [h]
/-- how many stand ahead of a code -/
def zpos (cd : Nat → Nat) (S : List Nat) (x : Nat) : Nat := S.countP (fun k => decide (cd k < x))
theorem zpos_le (cd : Nat → Nat) (S : List Nat) (x : Nat) : zpos cd S x ≤ S.length := List.countP_le_length
theorem zpos_iff {cd : Nat → Nat} {x : Nat} : ∀ {S : List Nat}, S.Pairwise (fun a b => cd a < cd b) → ∀ {i k : Nat}, S[i]? = some k → (cd k < x ↔ i < zpos cd S x)
  | [], _, i, k, h => by simp at h
  | a :: S, hp, i, k, h => by
    have hp1 := (List.pairwise_cons.mp hp).1
    have hp2 := List.Pairwise.of_cons hp
    unfold zpos
    rw [List.countP_cons]
    by_cases ha : cd a < x
    · rw [if_pos (by simpa using ha)]
      cases i with
      | zero =>
        rw [List.getElem?_cons_zero] at h
        cases h
        exact ⟨fun _ => by omega, fun _ => ha⟩
      | succ i =>
        rw [List.getElem?_cons_succ] at h
        have ih := zpos_iff (x := x) hp2 h
        unfold zpos at ih
        rw [ih]; omega
    · rw [if_neg (by simpa using ha)]
      have hz : S.countP (fun k => decide (cd k < x)) = 0 := by
        rw [List.countP_eq_zero]
        intro y hy
        have := hp1 y hy
        simp; omega
      rw [hz]
      cases i with
      | zero =>
        rw [List.getElem?_cons_zero] at h
        cases h
        exact ⟨fun hh => absurd hh ha, fun hh => by omega⟩
      | succ i =>
        rw [List.getElem?_cons_succ] at h
        have := hp1 k (List.mem_of_getElem? h)
        exact ⟨fun hh => by omega, fun hh => by omega⟩
section OR
variable {M : zzMem} {o : Nat} {cd : Nat → Nat} {S : List Nat}
theorem cPlaceFrom (h : zOr M o cd S) (hp : S.Pairwise (fun a b => cd a < cd b)) (hl : S.length ≤ 300) (hc : ∀ k ∈ S, cd k < 2 ^ 62) {x : Nat} (hx : x < 2 ^ 63) : f_X5_placeFrom o (lN x) M = some (nI (zpos cd S x)) := by
  have hz := zpos_le cd S x
  unfold f_X5_placeFrom j_X5_placeFrom_11
  simp only [zbd, h.1]
  have hZ := zlp_inv (B := fun s : (Int32 × Int32 × Int32) => b_X5_placeFrom_11 o (lN x) s.1 s.2.1 s.2.2 M) (fun s => ∃ lo hi it, s = (nI lo, nI hi, nI it) ∧ lo ≤ zpos cd S x ∧ zpos cd S x ≤ hi ∧ hi ≤ S.length ∧ it + (hi - lo) ≤ 300) (fun r => r = nI (zpos cd S x)) (fun s => s.2.1.toNatClampNeg - s.1.toNatClampNeg) ?_ (nI 0, nI S.length, nI 0) ⟨0, S.length, 0, rfl, by omega, hz, by omega, by omega⟩
  · obtain ⟨r, h1, h2⟩ := hZ
    rw [h1, h2]
  · rintro s ⟨lo, hi, it, rfl, a1, a2, a3, a4⟩
    unfold b_X5_placeFrom_11
    by_cases hlh : hi ≤ lo
    · right
      refine ⟨nI (zpos cd S x), ?_, rfl⟩
      have : lo = zpos cd S x := by omega
      by_cases hit : 300 ≤ it
      · simp (disch := omega) only [ifLe_t, this]
      · simp (disch := omega) only [ifLe_f]
        rw [this, show hi = zpos cd S x by omega, if_pos (Int32.le_refl _)]
    · left
      have hmid : (lo + hi) / 2 < S.length := by omega
      have hget := List.getElem?_eq_getElem hmid
      have hM := h.2 _ _ hget
      have hcd := hc _ (List.getElem_mem hmid)
      have hiff := zpos_iff (x := x) hp hget
      by_cases hlt : x ≤ cd (S[(lo + hi) / 2]'hmid)
      · refine ⟨(nI lo, nI ((lo + hi) / 2), nI (it + 1)), ?_, ⟨lo, (lo + hi) / 2, it + 1, rfl, a1, by omega, by omega, by omega⟩, ?_⟩
        · simp (disch := omega) only [ifLe_f, nIadd, nIdiv, zbd, zgd_in, nIc, hM]
          rw [if_pos ((lg_cmp_ge _ _).mpr ((zL_le (by omega) (by omega)).mpr hlt))]
        · simp (disch := omega) only [nIc]
          omega
      · refine ⟨(nI ((lo + hi) / 2 + 1), nI hi, nI (it + 1)), ?_, ⟨(lo + hi) / 2 + 1, hi, it + 1, rfl, by omega, by omega, by omega, by omega⟩, ?_⟩
        · simp (disch := omega) only [ifLe_f, nIadd, nIdiv, zbd, zgd_in, nIc, hM]
          rw [if_neg (fun hh => hlt ((zL_le (by omega) (by omega)).mp ((lg_cmp_ge _ _).mp hh)))]
        · simp (disch := omega) only [nIc]
          omega
theorem cHas (h : zOr M o cd S) (hp : S.Pairwise (fun a b => cd a < cd b)) (hl : S.length ≤ 300) (hc : ∀ k ∈ S, cd k < 2 ^ 62) {k : Nat} (hk : cd k < 2 ^ 62) (hinj : ∀ x ∈ S, cd x = cd k → x = k) : f_X5_has o (lN (cd k)) M = some (decide (k ∈ S)) := by
  have hz := zpos_le cd S (cd k)
  unfold f_X5_has
  rw [cPlaceFrom h hp hl hc (by omega)]
  simp only [Option.bind_some, h.1]
  by_cases hlt : zpos cd S (cd k) < S.length
  · have hget := List.getElem?_eq_getElem hlt
    have hM := h.2 _ _ hget
    have hcd := hc _ (List.getElem_mem hlt)
    simp (disch := omega) only [ifLe_f, zgd_in, nIc, hM]
    by_cases he : cd (S[zpos cd S (cd k)]'hlt) = cd k
    · rw [if_pos ((lg_cmp_eq _ _).mpr (by rw [he]))]
      have := hinj _ (List.getElem_mem hlt) he
      rw [decide_eq_true (by rw [← this]; exact List.getElem_mem hlt)]
    · rw [if_neg (fun hh => he ((zL_eq (by omega) (by omega)).mp ((lg_cmp_eq _ _).mp hh)))]
      rw [decide_eq_false]
      intro hmem
      obtain ⟨j, hj⟩ := List.getElem?_of_mem hmem
      have h1 := zpos_iff (x := cd k) hp hj
      have h2 := zpos_iff (x := cd (S[zpos cd S (cd k)]'hlt)) hp hj
      have h3 := zpos_iff (x := cd k) hp hget
      have h4 : ¬ cd k < cd (S[zpos cd S (cd k)]'hlt) := by
        intro hh
        have hji := (pw_lt (f := cd) hp hj hget).mp hh
        omega
      omega
  · simp (disch := omega) only [ifLe_t]
    rw [decide_eq_false]
    intro hmem
    obtain ⟨j, hj⟩ := List.getElem?_of_mem hmem
    have h1 := zpos_iff (x := cd k) hp hj
    have := (List.getElem?_eq_some_iff.mp hj).1
    omega
theorem clg {k s d n b : Nat} (hs : s < 2147483648) (hd : d < 2147483648) (hn : n < 2147483648) : (zz_cl M k (nI s) k (nI d) (nI n)).2 k b = if d ≤ b ∧ b < d + n then M.2 k (s + (b - d)) else M.2 k b := by
  unfold zz_cl va_cpy
  simp only [if_true, nIc hs, nIc hd, nIc hn]
theorem clo {k s d n a b : Nat} (ha : a ≠ k) : (zz_cl M k (nI s) k (nI d) (nI n)).2 a b = M.2 a b := by
  unfold zz_cl
  simp [ha]
def zins (cd : Nat → Nat) (S : List Nat) (k : Nat) : List Nat := S.take (zpos cd S (cd k)) ++ k :: S.drop (zpos cd S (cd k))
def zdel (cd : Nat → Nat) (S : List Nat) (k : Nat) : List Nat := S.take (zpos cd S (cd k)) ++ S.drop (zpos cd S (cd k) + 1)
theorem cInsert (h : zOr M o cd S) (hp : S.Pairwise (fun a b => cd a < cd b)) (hl : S.length < 300) (hc : ∀ k ∈ S, cd k < 2 ^ 62) {k : Nat} (hk : cd k < 2 ^ 62) : ∃ M', f_X5_insert o (lN (cd k)) M = some M' ∧ zOr M' o cd (zins cd S k) ∧ zFr (fun a i => (a = o ∧ i = 1) ∨ a = o + 1) M M' := by
  have hz := zpos_le cd S (cd k)
  generalize hpd : zpos cd S (cd k) = p at hz
  let M6 : zzMem := zz_sl (zz_cl M (o + 1) (nI p) (o + 1) (nI (p + 1)) (nI (S.length - p))) (o + 1) p (lN (cd k))
  have h61 : M6.1 o 1 = nI S.length := h.1
  refine ⟨zz_si M6 o 1 (nI (S.length + 1)), ?_, ⟨?_, fun i q hq => ?_⟩, fun a i hs => ⟨?_, ?_⟩⟩
  · unfold f_X5_insert
    rw [cPlaceFrom h hp (by omega) hc (by omega), hpd]
    simp (disch := omega) only [h.1, ifLt_t, Option.bind_some, nIadd, nIsub]
    rw [zgd_t ⟨nI_pos (by omega), nI_pos (by omega), nI_pos (by omega), by rw [nIc (by omega), nIc (by omega)]; omega, by rw [nIc (by omega), nIc (by omega)]; omega⟩]
    simp (disch := omega) only [zbd, zgd_in, nIc]
    have e2 : (zz_sl (zz_cl M (o + 1) (nI p) (o + 1) (nI (p + 1)) (nI (S.length - p))) (o + 1) p (lN (cd k))).1 o 1 = nI S.length := h61
    rw [e2, nIadd]
  · rw [rd_eq]
    unfold zins
    rw [hpd]
    congr 1
    simp; omega
  · show M6.2 (o + 1) i = lN (cd q)
    simp only [M6]
    rw [rd_sl]
    unfold zins at hq
    rw [hpd] at hq
    have htl : (S.take p).length = p := by rw [List.length_take]; omega
    by_cases hip : i = p
    · subst hip
      rw [if_pos ⟨rfl, rfl⟩]
      rw [List.getElem?_append_right (by omega), htl, Nat.sub_self, List.getElem?_cons_zero] at hq
      cases hq; rfl
    · rw [if_neg (by omega), clg (by omega) (by omega) (by omega)]
      by_cases hlt : i < p
      · rw [if_neg (by omega)]
        rw [List.getElem?_append_left (by omega), List.getElem?_take, if_pos hlt] at hq
        exact h.2 i q hq
      · rw [List.getElem?_append_right (by omega), htl] at hq
        obtain ⟨d, rfl⟩ : ∃ d, i = p + 1 + d := ⟨i - (p + 1), by omega⟩
        rw [show p + 1 + d - p = d + 1 by omega, List.getElem?_cons_succ, List.getElem?_drop] at hq
        have hlen := (List.getElem?_eq_some_iff.mp hq).1
        rw [if_pos (by omega), show p + (p + 1 + d - (p + 1)) = p + d by omega]
        exact h.2 _ q hq
  · rw [rd_ne (by omega)]; rfl
  · show M6.2 a i = M.2 a i
    simp only [M6]
    rw [rd_sl, if_neg (by omega), clo (by omega)]
theorem cRemove (h : zOr M o cd S) (hp : S.Pairwise (fun a b => cd a < cd b)) (hl : S.length ≤ 300) (hc : ∀ k ∈ S, cd k < 2 ^ 62) {k : Nat} (hk : k ∈ S) : ∃ M', f_X5_remove o (lN (cd k)) M = some M' ∧ zOr M' o cd (zdel cd S k) ∧ zFr (fun a i => (a = o ∧ i = 1) ∨ a = o + 1) M M' := by
  obtain ⟨p, hget⟩ := List.getElem?_of_mem hk
  have hlt := (List.getElem?_eq_some_iff.mp hget).1
  have hck := hc k hk
  have hpd : zpos cd S (cd k) = p := by
    have h1 := zpos_iff (x := cd k) hp hget
    have h2 := zpos_le cd S (cd k)
    rcases Nat.lt_or_ge (zpos cd S (cd k)) p with hh | hh
    · exfalso
      have hl3 : zpos cd S (cd k) < S.length := by omega
      have h3 := zpos_iff (x := cd k) hp (List.getElem?_eq_getElem hl3)
      have h4 := (pw_lt (f := cd) hp (List.getElem?_eq_getElem hl3) hget).mpr hh
      omega
    · omega
  have hM := h.2 _ _ hget
  refine ⟨zz_si (zz_cl M (o + 1) (nI (p + 1)) (o + 1) (nI p) (nI (S.length - p - 1))) o 1 (nI (S.length - 1)), ?_, ⟨?_, fun i q hq => ?_⟩, fun a i hs => ⟨?_, ?_⟩⟩
  · unfold f_X5_remove
    rw [cPlaceFrom h hp hl hc (by omega), hpd]
    simp (disch := omega) only [h.1, ifLe_f, Option.bind_some, zgd_in, nIc, hM, nIadd, nIsub]
    rw [if_pos ((lg_cmp_eq _ _).mpr rfl)]
    rw [zgd_t ⟨nI_pos (by omega), nI_pos (by omega), nI_pos (by omega), by rw [nIc (by omega), nIc (by omega)]; omega, by rw [nIc (by omega), nIc (by omega)]; omega⟩]
    simp only [zbd]
    have e2 : (zz_cl M (o + 1) (nI (p + 1)) (o + 1) (nI p) (nI (S.length - p - 1))).1 o 1 = nI S.length := h.1
    rw [e2, nIsub (by omega)]
  · rw [rd_eq]
    unfold zdel
    rw [hpd]
    congr 1
    simp; omega
  · show (zz_cl M (o + 1) (nI (p + 1)) (o + 1) (nI p) (nI (S.length - p - 1))).2 (o + 1) i = lN (cd q)
    unfold zdel at hq
    rw [hpd] at hq
    have htl : (S.take p).length = p := by rw [List.length_take]; omega
    rw [clg (by omega) (by omega) (by omega)]
    by_cases hip : i < p
    · rw [if_neg (by omega)]
      rw [List.getElem?_append_left (by omega), List.getElem?_take, if_pos hip] at hq
      exact h.2 i q hq
    · rw [List.getElem?_append_right (by omega), htl, List.getElem?_drop] at hq
      have hlen := (List.getElem?_eq_some_iff.mp hq).1
      rw [if_pos (by omega)]
      exact h.2 _ q hq
  · rw [rd_ne (by omega)]; rfl
  · show (zz_cl M (o + 1) (nI (p + 1)) (o + 1) (nI p) (nI (S.length - p - 1))).2 a i = M.2 a i
    rw [clo (by omega)]
end OR
/-! codes -/
theorem cCode {k h n : Nat} (hk : k < 65536) (hh : h < 65536) (h1 : 1 ≤ n) (h4 : n ≤ 4) : f_X5_codeOf (nI k) (nI h) (nI n) = some (lN (zcod n h k)) := by
  have hm := Nat.mod_lt h (show n > 0 by omega)
  have hd : h / n ≤ h := Nat.div_le_self _ _
  have hr := zrev_lt (h / n)
  unfold f_X5_codeOf
  simp (disch := omega) only [ifLe_t, nIrem, nIdiv, clsRev]
  rw [zgd_t (nI_ne0 (by omega) (by omega)), nI_L (by omega), nI_L (n := zrev (h / n)) (by omega), nI_L (n := k) (by omega), wb_shl _ (by decide), wb_shl _ (by decide), wb_or (by omega) (by omega)]
  have e1 : h % n * 2 ^ 32 ||| zrev (h / n) * 2 ^ 16 = h % n * 4294967296 + zrev (h / n) * 65536 := by
    have := Nat.two_pow_add_eq_or_of_lt (i := 32) (b := zrev (h / n) * 2 ^ 16) (by omega) (h % n)
    rw [Nat.mul_comm (h % n), ← this]
  have e2 : (h % n * 4294967296 + zrev (h / n) * 65536) ||| k = h % n * 4294967296 + zrev (h / n) * 65536 + k := by
    have := Nat.two_pow_add_eq_or_of_lt (i := 16) (b := k) (by omega) (h % n * 65536 + zrev (h / n))
    rw [show h % n * 4294967296 + zrev (h / n) * 65536 = 2 ^ 16 * (h % n * 65536 + zrev (h / n)) by omega, ← this]
  rw [e1, wb_or (by omega) (by omega), e2]
  rfl
theorem zcd_lt {N : Nat} {A : zzA} (hW : zWF N A) {k : Nat} (hk : k < 65536) : zA_cd A k < 2 ^ 62 := by
  have hn : 1 ≤ zA_n A ∧ zA_n A ≤ 4 := ⟨hW.1.1, hW.1.2.1⟩
  have hm := Nat.mod_lt (zA_h A k) (show zA_n A > 0 by omega)
  have hr := zrev_lt (zA_h A k / zA_n A)
  unfold zA_cd zcod
  omega
theorem zcd_inj {N : Nat} {A : zzA} (hW : zWF N A) {k k' : Nat} (hk : k < 65536) (hk' : k' < 65536) (h : zA_cd A k = zA_cd A k') : k = k' := by
  unfold zA_cd zcod at h
  omega
theorem zWF.cds {N : Nat} {A : zzA} (hW : zWF N A) : ∀ k ∈ zA_S A, zA_cd A k < 2 ^ 62 := fun k hk => zcd_lt hW (hW.key hk)
theorem zWF.pw {N : Nat} {A : zzA} (hW : zWF N A) : (zA_S A).Pairwise (fun a b => zA_cd A a < zA_cd A b) := hW.2.2.2.2.2.2.2.2.1.2.1
theorem cHolds {N o : Nat} {M : zzMem} {A : zzA} (hW : zWF N A) (h : zRC M o A) {k : Nat} (hk : k < 65536) : f_X2_holds o (nI k) (nI (zA_h A k)) M = some (decide (k ∈ zA_S A)) := by
  unfold f_X2_holds
  rw [h.1.1, cCode (h := zA_h A k) hk (zhs_lt hk hW.hok.1) hW.1.1 hW.1.2.1]
  simp only [Option.bind_some]
  rw [show lN (zcod (zA_n A) (zA_h A k) k) = lN (zA_cd A k) from rfl, cHas h.2.2.2.1 hW.pw hW.2.2.2.2.2.2.2.2.1.1 hW.cds (zcd_lt hW hk) (fun x hx e => zcd_inj hW (hW.key hx) hk e)]
  rfl
theorem cHashAt {N o : Nat} {M : zzMem} {A : zzA} (hW : zWF N A) (h : zRC M o A) {i : Nat} (hi : i < (zA_S A).length) : f_X2_hashAt o (nI i) M = some (nI (zA_h A ((zA_S A).getD i 0))) := by
  have hlen := hW.2.2.2.2.2.2.2.2.1.1
  have hget : (zA_S A)[i]? = some ((zA_S A).getD i 0) := by simp [List.getD_eq_getElem?_getD, hi]
  have hk := hW.key (List.mem_of_getElem? hget)
  have hc := h.2.2.2.1.2 i _ hget
  have hh : zA_h A ((zA_S A).getD i 0) < 65536 := zhs_lt hk hW.hok.1
  have hn : 1 ≤ zA_n A ∧ zA_n A ≤ 4 := ⟨hW.1.1, hW.1.2.1⟩
  generalize (zA_S A).getD i 0 = k at hget hk hc hh
  have hm := Nat.mod_lt (zA_h A k) (show zA_n A > 0 by omega)
  have hr := zrev_lt (zA_h A k / zA_n A)
  have hdl : zA_h A k / zA_n A ≤ zA_h A k := Nat.div_le_self _ _
  unfold f_X2_hashAt f_X5_hashAt
  simp (disch := omega) only [ifL0, h.2.2.2.1.1, ifLt_t, zgd_in, nIc, hc, zbd, h.1.1]
  have hcd : zA_cd A k = zA_h A k % zA_n A * 4294967296 + zrev (zA_h A k / zA_n A) * 65536 + k := rfl
  rw [hcd, wb_sar (by omega) (by decide), wb_sar (by omega) (by decide), show (65535 : Int64) = lN (2 ^ 16 - 1) from rfl, wb_mask (by omega) (by decide), lN_i, lN_i]
  rw [show (zA_h A k % zA_n A * 4294967296 + zrev (zA_h A k / zA_n A) * 65536 + k) / 2 ^ 16 % 2 ^ 16 = zrev (zA_h A k / zA_n A) by omega, show (zA_h A k % zA_n A * 4294967296 + zrev (zA_h A k / zA_n A) * 65536 + k) / 2 ^ 32 = zA_h A k % zA_n A by omega, clsRev _ (by omega), zrev_zrev (by omega), nImul, nIadd]
  simp only [Option.bind_some]
  congr 2
  rw [Nat.mul_comm]
  exact Nat.div_add_mod _ _
/-- the place behind a scan's last key -/
noncomputable def zbeh (A : zzA) (l : Int32) : Nat := if l = (-1 : Int32) then 0 else zpos (zA_cd A) (zA_S A) (zA_cd A l.toNatClampNeg + 1)
theorem cBehind {N o : Nat} {M : zzMem} {A : zzA} (hW : zWF N A) (h : zRC M o A) {l : Int32} (hl : l = (-1 : Int32) ∨ ∃ k, k < 65536 ∧ l = nI k) : ∃ M', f_X2_placeBehind o l M = some (nI (zbeh A l), M') ∧ zFr (fun a _ => a = o + 3) M M' := by
  unfold f_X2_placeBehind zbeh
  rcases hl with rfl | ⟨k, hk, rfl⟩
  · exact ⟨M, by rw [if_pos rfl, if_pos rfl], zFr.refl M⟩
  · obtain ⟨M4, e1, e2⟩ := cHash (o := o + 1) h.2.1 hW.hok hk
    have h' : zRC M4 o A := h.frS e2 (by intro k i; omega)
    have hcl := zcd_lt hW hk
    refine ⟨M4, ?_, e2⟩
    simp (disch := omega) only [ifm1, nIc]
    simp only [e1, Option.bind_some, zpr, h'.1.1]
    rw [cCode hk (zhs_lt hk hW.hok.1) hW.1.1 hW.1.2.1]
    simp only [Option.bind_some]
    rw [show lN (zcod (zA_n A) (zhs (zA_law A) k) k) = lN (zA_cd A k) from rfl, show (1 : Int64) = lN 1 from rfl, lN_add, cPlaceFrom h'.2.2.2.1 hW.pw hW.2.2.2.2.2.2.2.2.1.1 hW.cds (by omega)]
    rfl
