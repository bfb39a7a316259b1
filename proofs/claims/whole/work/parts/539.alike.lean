/-! ===== hashes that fall together ===== -/
/-- counts by hash: the most, and the lowest hash that has so many -/
def ztop (cnt : Nat → Nat) (most : Nat) (best : Int32) : Prop :=
  (∀ h, cnt h ≤ most) ∧ ((most = 0 ∧ best = (-2 : Int32)) ∨ (0 < most ∧ ∃ b, b < 65536 ∧ best = nI b ∧ cnt b = most ∧ ∀ h, h < 65536 → cnt h = most → b ≤ h))
theorem ztop_uniq {cnt : Nat → Nat} {m m' : Nat} {b b' : Int32} (h0 : ∀ h, 65536 ≤ h → cnt h = 0) (h : ztop cnt m b) (h' : ztop cnt m' b') : m = m' ∧ b = b' := by
  obtain ⟨h1, h2⟩ := h
  obtain ⟨h1', h2'⟩ := h'
  rcases h2 with ⟨e1, e2⟩ | ⟨e1, x, x1, x2, x3, x4⟩
  · rcases h2' with ⟨e1', e2'⟩ | ⟨e1', x', x1', x2', x3', x4'⟩
    · exact ⟨by omega, by rw [e2, e2']⟩
    · have := h1 x'; omega
  · rcases h2' with ⟨e1', e2'⟩ | ⟨e1', x', x1', x2', x3', x4'⟩
    · have := h1' x; omega
    · have a1 := h1 x'
      have a2 := h1' x
      have hm : m = m' := by omega
      have a3 := x4 x' x1' (by omega)
      have a4 := x4' x x1 (by omega)
      exact ⟨hm, by rw [x2, x2', show x = x' by omega]⟩
def zcnh (f : Nat → Nat) (t h : Nat) : Nat := zcnt (fun i => decide (f i = h)) t
theorem zcnh_s (f : Nat → Nat) (t : Nat) : zcnh f (t + 1) = zupd (zcnh f t) (f t) (zcnh f t (f t) + 1) := by
  funext h
  unfold zcnh
  rw [zcnt]
  by_cases hh : f t = h
  · rw [← hh, zupd_eq, decide_eq_true rfl, if_pos rfl]
  · rw [zupd_ne (fun e => hh e.symm), decide_eq_false hh, if_neg (by decide)]; rfl
theorem ztop_s {cnt : Nat → Nat} {m x : Nat} {b : Int32} (h : ztop cnt m b) (hx : x < 65536) : (m < cnt x + 1 → ztop (zupd cnt x (cnt x + 1)) (cnt x + 1) (nI x)) ∧ (cnt x + 1 = m → nI x < b → ztop (zupd cnt x (cnt x + 1)) m (nI x)) ∧ (cnt x + 1 = m → ¬ nI x < b → ztop (zupd cnt x (cnt x + 1)) m b) ∧ (cnt x + 1 < m → ztop (zupd cnt x (cnt x + 1)) m b) := by
  obtain ⟨h1, h2⟩ := h
  have hle : ∀ k, cnt x + 1 ≤ k → m ≤ k → ∀ z, zupd cnt x (cnt x + 1) z ≤ k := fun k k1 k2 z => by
    by_cases hz : z = x
    · rw [hz, zupd_eq]; exact k1
    · rw [zupd_ne hz]; have := h1 z; omega
  refine ⟨fun hm => ⟨hle _ (by omega) (by omega), Or.inr ⟨by omega, x, hx, rfl, zupd_eq, fun z hz he => ?_⟩⟩, fun hm hlt => ⟨hle _ (by omega) (by omega), Or.inr ⟨by omega, x, hx, rfl, by rw [zupd_eq]; exact hm, fun z hz he => ?_⟩⟩, fun hm hnl => ⟨hle _ (by omega) (by omega), ?_⟩, fun hm => ⟨hle _ (by omega) (by omega), ?_⟩⟩
  · by_cases hzx : z = x
    · omega
    · rw [zupd_ne hzx] at he
      have := h1 z; omega
  · by_cases hzx : z = x
    · omega
    · rw [zupd_ne hzx] at he
      rcases h2 with ⟨e1, e2⟩ | ⟨e1, y, y1, y2, y3, y4⟩
      · omega
      · have := y4 z hz he
        rw [y2] at hlt
        rcases Nat.lt_or_ge x y with hh | hh
        · omega
        · exact absurd hlt (nI_nlt hh (by omega))
  · rcases h2 with ⟨e1, e2⟩ | ⟨e1, y, y1, y2, y3, y4⟩
    · omega
    · rw [y2] at hnl
      have hyx : y ≤ x := by
        rcases Nat.lt_or_ge x y with hh | hh
        · exact absurd (nI_lt hh (by omega)) hnl
        · exact hh
      refine Or.inr ⟨e1, y, y1, y2, ?_, fun z hz he => ?_⟩
      · by_cases hye : y = x
        · rw [hye] at y3; omega
        · rw [zupd_ne hye]; exact y3
      · by_cases hzx : z = x
        · omega
        · rw [zupd_ne hzx] at he; exact y4 z hz he
  · rcases h2 with ⟨e1, e2⟩ | ⟨e1, y, y1, y2, y3, y4⟩
    · omega
    · refine Or.inr ⟨e1, y, y1, y2, ?_, fun z hz he => ?_⟩
      · by_cases hye : y = x
        · rw [hye] at y3; omega
        · rw [zupd_ne hye]; exact y3
      · by_cases hzx : z = x
        · rw [hzx, zupd_eq] at he; omega
        · rw [zupd_ne hzx] at he; exact y4 z hz he
/-- what falls together: keys whose hash has more than one -/
def ztog (cnt : Nat → Nat) : Nat := zsum (fun h => if 1 < cnt h then cnt h else 0) 65536
theorem ztog_s {cnt : Nat → Nat} {x : Nat} (hx : x < 65536) : ztog (zupd cnt x (cnt x + 1)) = ztog cnt + (if cnt x = 0 then 0 else if cnt x = 1 then 2 else 1) := by
  unfold ztog
  have h1 : (fun h => if 1 < zupd cnt x (cnt x + 1) h then zupd cnt x (cnt x + 1) h else 0) = zupd (fun h => if 1 < cnt h then cnt h else 0) x (if 1 < cnt x + 1 then cnt x + 1 else 0) := by
    funext h
    by_cases hh : h = x
    · rw [hh, zupd_eq, zupd_eq]
    · rw [zupd_ne hh, zupd_ne hh]
  rw [h1]
  have h2 := zsum_upd (f := fun h => if 1 < cnt h then cnt h else 0) (x := if 1 < cnt x + 1 then cnt x + 1 else 0) 65536 hx
  generalize zsum (zupd (fun h => if 1 < cnt h then cnt h else 0) x (if 1 < cnt x + 1 then cnt x + 1 else 0)) 65536 = u at h2 ⊢
  generalize zsum (fun h => if 1 < cnt h then cnt h else 0) 65536 = v at h2 ⊢
  by_cases c0 : cnt x = 0
  · rw [if_pos c0]; rw [if_neg (by omega), if_neg (by omega)] at h2; omega
  · by_cases c1 : cnt x = 1
    · rw [if_neg c0, if_pos c1]; rw [if_neg (by omega), if_pos (by omega)] at h2; omega
    · rw [if_neg c0, if_neg c1]; rw [if_pos (by omega), if_pos (by omega)] at h2; omega
theorem ztog_eq {f : Nat → Nat} {m : Nat} (hf : ∀ i, i < m → f i < 65536) : zcnt (fun i => decide (1 < zcnh f m (f i))) m = ztog (zcnh f m) := by
  rw [zcnt_zsum]
  have h1 := zsum_grp (g := f) (W := fun h => if decide (1 < zcnh f m h) = true then 1 else 0) (n := 65536) m hf
  rw [h1]
  unfold ztog
  refine zsum_congr 65536 (fun h _ => ?_)
  show (if decide (1 < zcnh f m h) = true then 1 else 0) * zcnh f m h = _
  by_cases hh : 1 < zcnh f m h
  · rw [decide_eq_true hh, if_pos rfl, if_pos hh, Nat.one_mul]
  · rw [decide_eq_false hh, if_neg (by decide), if_neg hh, Nat.zero_mul]
theorem zcnh_le (f : Nat → Nat) (t h : Nat) : zcnh f t h ≤ t := zcnt_le _ _
theorem zcnh_hi {f : Nat → Nat} {m : Nat} (hf : ∀ i, i < m → f i < 65536) : ∀ t, t ≤ m → ∀ h, 65536 ≤ h → zcnh f t h = 0 := fun t ht h hh => zcnt_no t (fun i hi => by
  have := hf i (by omega)
  rw [decide_eq_false (by omega)])
theorem zcnh_perm {f g : Nat → Nat} {N : Nat} {M : zzMem} {s0 cm : Nat} {A : zzA} {xs : Nat → List Nat} {ke ve be se : Nat → Nat} (hW : zWF N A) (e : zMe M s0 (zA_S A).length cm (zA_E A) xs ke ve be se) (hf : f = fun i => zA_h A ((zA_S A).getD i 0)) (hg : g = fun x => zA_h A (ke x)) : zcnh f (zA_S A).length = zcnh g (zA_S A).length := by
  funext h
  rw [hf, hg]
  exact zcnt_keys hW e (fun k => decide (zA_h A k = h))
section AL
variable {N : Nat} {A : zzA}
/-- along the order, keys of one hash stand side by side -/
theorem zadj (hW : zWF N A) {i j t : Nat} (hij : i ≤ j) (hjt : j ≤ t) (ht : t < (zA_S A).length) (he : zA_h A ((zA_S A).getD i 0) = zA_h A ((zA_S A).getD t 0)) : zA_h A ((zA_S A).getD j 0) = zA_h A ((zA_S A).getD t 0) := by
  have hi := zgetD (show i < (zA_S A).length by omega)
  have hj := zgetD (show j < (zA_S A).length by omega)
  have htt := zgetD ht
  have ki := hW.key (List.mem_of_getElem? hi)
  have kj := hW.key (List.mem_of_getElem? hj)
  have kt := hW.key (List.mem_of_getElem? htt)
  have h1 : zA_cd A ((zA_S A).getD i 0) ≤ zA_cd A ((zA_S A).getD j 0) := by
    rcases Nat.lt_or_ge i j with hh | hh
    · exact Nat.le_of_lt ((pw_lt hW.pw hi hj).mpr hh)
    · rw [show i = j by omega]; exact Nat.le_refl _
  have h2 : zA_cd A ((zA_S A).getD j 0) ≤ zA_cd A ((zA_S A).getD t 0) := by
    rcases Nat.lt_or_ge j t with hh | hh
    · exact Nat.le_of_lt ((pw_lt hW.pw hj htt).mpr hh)
    · rw [show j = t by omega]; exact Nat.le_refl _
  generalize (zA_S A).getD i 0 = x at ki h1 he
  generalize (zA_S A).getD j 0 = y at kj h1 h2
  generalize (zA_S A).getD t 0 = z at kt h2 he
  rw [zcd_rk, zcd_rk] at h1 h2
  have hrx : zrk A x = zrk A z := by unfold zrk; rw [he]
  have hry : zrk A y = zrk A z := by omega
  have hn : 1 ≤ zA_n A := hW.1.1
  have v1 := zrev_lt (zA_h A y / zA_n A)
  have v2 := zrev_lt (zA_h A z / zA_n A)
  unfold zrk at hry
  have e1 : zA_h A y % zA_n A = zA_h A z % zA_n A := by omega
  have e2 : zrev (zA_h A y / zA_n A) = zrev (zA_h A z / zA_n A) := by omega
  have hy : zA_h A y < 65536 := zhs_lt kj hW.hok.1
  have hz : zA_h A z < 65536 := zhs_lt kt hW.hok.1
  have d1 : zA_h A y / zA_n A < 65536 := Nat.lt_of_le_of_lt (Nat.div_le_self _ _) hy
  have d2 : zA_h A z / zA_n A < 65536 := Nat.lt_of_le_of_lt (Nat.div_le_self _ _) hz
  have e3 : zA_h A y / zA_n A = zA_h A z / zA_n A := by rw [← zrev_zrev d1, ← zrev_zrev d2, e2]
  rw [← Nat.div_add_mod (zA_h A y) (zA_n A), ← Nat.div_add_mod (zA_h A z) (zA_n A), e1, e3]
def zalk (w : Nat) (tog most : Nat) (best : Int32) : Int32 := if w = 0 then nI tog else if w = 1 then best else nI most
set_option maxHeartbeats 1000000 in
theorem cAlike {M : zzMem} {w : Nat} {f : Nat → Nat} (hW : zWF N A) (h : zRC M 12 A) (hw : w ≤ 2) (hf : f = fun i => zA_h A ((zA_S A).getD i 0)) : ∃ most best, most ≤ 300 ∧ ztop (zcnh f (zA_S A).length) most best ∧ f_X9_alike (nI w) M = some (zalk w (ztog (zcnh f (zA_S A).length)) most best) := by
  have hlen := hW.2.2.2.2.2.2.2.2.1.1
  have hs1 : M.1 27 1 = nI (zA_S A).length := h.2.2.2.1.1
  have hfv : ∀ i, i < (zA_S A).length → f i < 65536 ∧ f_X2_hashAt 12 (nI i) M = some (nI (f i)) := fun i hi => by
    have hk := hW.key (List.mem_of_getElem? (zgetD hi))
    rw [hf]
    exact ⟨zhs_lt hk hW.hok.1, cHashAt hW h hi⟩
  have hadj : ∀ i j t, i ≤ j → j ≤ t → t < (zA_S A).length → f i = f t → f j = f t := fun i j t h1 h2 h3 h4 => by
    rw [hf] at h4 ⊢
    exact zadj hW h1 h2 h3 h4
  clear hf
  have hin : f_X9_within (nI w) (nI 0) (nI 2) = true := by rw [in_nI (by omega) (by omega) (by omega)]; simp; omega
  unfold f_X9_alike j_X9_alike_28
  rw [if_pos hin]
  have hZ := zlp_inv (B := fun s : (Int32 × Int32 × Int32 × Int32 × Int32 × Int32) => b_X9_alike_28 (nI w) s.1 s.2.1 s.2.2.1 s.2.2.2.1 s.2.2.2.2.1 s.2.2.2.2.2 M) (fun s => ∃ t most best bef run, s = (nI (ztog (zcnh f t)), nI most, best, bef, nI run, nI t) ∧ t ≤ (zA_S A).length ∧ most ≤ 300 ∧ ztop (zcnh f t) most best ∧ ((t = 0 ∧ bef = (-1 : Int32) ∧ run = 0) ∨ (0 < t ∧ bef = nI (f (t - 1)) ∧ run = zcnh f t (f (t - 1))))) (fun r => ∃ most best, most ≤ 300 ∧ ztop (zcnh f (zA_S A).length) most best ∧ r = zalk w (ztog (zcnh f (zA_S A).length)) most best) (fun s => 1000 - s.2.2.2.2.2.toNatClampNeg) ?_ (nI 0, nI 0, (-2 : Int32), (-1 : Int32), nI 0, nI 0) ⟨0, 0, (-2 : Int32), (-1 : Int32), 0, ?_, by omega, by omega, ⟨fun h => Nat.le_refl _, Or.inl ⟨rfl, rfl⟩⟩, Or.inl ⟨rfl, rfl, rfl⟩⟩
  · obtain ⟨r, r1, most, best, r2, r3, r4⟩ := hZ
    exact ⟨most, best, r2, r3, by rw [r1, r4]⟩
  · rintro s ⟨t, most, best, bef, run, rfl, ht, hm, htop, hbr⟩
    show (∃ s', b_X9_alike_28 (nI w) (nI (ztog (zcnh f t))) (nI most) best bef (nI run) (nI t) M = some (.inl s') ∧ _) ∨ ∃ r, b_X9_alike_28 (nI w) (nI (ztog (zcnh f t))) (nI most) best bef (nI run) (nI t) M = some (.inr r) ∧ _
    by_cases hte : t = (zA_S A).length
    · right
      subst hte
      refine ⟨zalk w (ztog (zcnh f (zA_S A).length)) most best, ?_, most, best, hm, htop, rfl⟩
      unfold b_X9_alike_28 zalk
      rw [hs1, ifLe_t (Nat.le_refl _) (by omega)]
      rcases (show w = 0 ∨ w = 1 ∨ w = 2 by omega) with rfl | rfl | rfl
      · rw [ifE0_t rfl, if_pos rfl]
      · rw [ifE0_f (by omega) (by omega), ifEq_t rfl, if_neg (by omega), if_pos rfl]
      · rw [ifE0_f (by omega) (by omega), ifEq_f (by omega) (by omega) (by omega), if_neg (by omega), if_neg (by omega)]
    · left
      obtain ⟨f1, f2⟩ := hfv t (by omega)
      have hcl := zcnh_le f t (f t)
      have hrun : (if nI (f t) = bef then nI run + nI 1 else nI 1) = nI (zcnh f t (f t) + 1) := by
        rcases hbr with ⟨t0, b0, r0⟩ | ⟨t0, b0, r0⟩
        · rw [b0, if_neg (nI_nm1 (by omega)), t0]; rfl
        · obtain ⟨f3, f4⟩ := hfv (t - 1) (by omega)
          rw [b0]
          by_cases hee : f t = f (t - 1)
          · rw [ifEq_t hee, r0, nIadd, hee]
          · rw [ifEq_f hee (by omega) (by omega)]
            have : zcnh f t (f t) = 0 := zcnt_no t (fun i hi => by
              rw [decide_eq_false]
              intro he
              exact hee (hadj i (t - 1) t (by omega) (by omega) (by omega) he).symm)
            rw [this]
      have hs := ztop_s htop f1
      rw [← zcnh_s] at hs
      have htg := ztog_s (cnt := zcnh f t) f1
      rw [← zcnh_s] at htg
      have hnew : zcnh f (t + 1) (f t) = zcnh f t (f t) + 1 := by rw [zcnh_s, zupd_eq]
      have hstep : ∃ most' best', most' ≤ 300 ∧ ztop (zcnh f (t + 1)) most' best' ∧ b_X9_alike_28 (nI w) (nI (ztog (zcnh f t))) (nI most) best bef (nI run) (nI t) M = some (.inl (nI (ztog (zcnh f (t + 1))), nI most', best', nI (f t), nI (zcnh f t (f t) + 1), nI (t + 1))) := by
        have h95 : ∃ most' best', most' ≤ 300 ∧ ztop (zcnh f (t + 1)) most' best' ∧ ∀ v2, j_X9_alike_95 (nI w) v2 (nI most) best (nI (f t)) (nI (zcnh f t (f t) + 1)) (nI t) (nI (f t)) M = some (.inl (v2, nI most', best', nI (f t), nI (zcnh f t (f t) + 1), nI (t + 1))) := by
          unfold j_X9_alike_95 j_X9_alike_114
          rcases Nat.lt_trichotomy most (zcnh f t (f t) + 1) with hh | hh | hh
          · refine ⟨zcnh f t (f t) + 1, nI (f t), by omega, hs.1 hh, fun v2 => ?_⟩
            rw [ifLt_t hh (by omega)]
            simp only [zbd, nIadd]
          · by_cases hlt : nI (f t) < best
            · refine ⟨most, nI (f t), hm, hs.2.1 hh.symm hlt, fun v2 => ?_⟩
              rw [ifLt_f (by omega) (by omega), ifEq_t hh.symm, if_neg (fun hl => absurd hlt (Int32.not_lt.mpr hl)), ← hh]
              simp only [zbd, nIadd]
            · refine ⟨most, best, hm, hs.2.2.1 hh.symm hlt, fun v2 => ?_⟩
              rw [ifLt_f (by omega) (by omega), ifEq_t hh.symm, if_pos (Int32.not_lt.mp hlt)]
              simp only [zbd, nIadd]
          · refine ⟨most, best, hm, hs.2.2.2 hh, fun v2 => ?_⟩
            rw [ifLt_f (by omega) (by omega), ifEq_f (by omega) (by omega) (by omega)]
            simp only [zbd, nIadd]
        obtain ⟨most', best', g1, g2, g3⟩ := h95
        refine ⟨most', best', g1, g2, ?_⟩
        have h69 : b_X9_alike_28 (nI w) (nI (ztog (zcnh f t))) (nI most) best bef (nI run) (nI t) M = j_X9_alike_69 (nI w) (nI (ztog (zcnh f t))) (nI most) best (nI t) (nI (f t)) (nI (zcnh f t (f t) + 1)) M := by
          unfold b_X9_alike_28
          rw [hs1, ifLe_f (by omega) (by omega), f2, Option.bind_some, ← hrun]
          by_cases hbe : nI (f t) = bef
          · rw [if_pos hbe, if_pos hbe]
          · rw [if_neg hbe, if_neg hbe]
        rw [h69]
        unfold j_X9_alike_69 j_X9_alike_93
        rw [htg]
        simp only [zbd, nIadd]
        by_cases c0 : zcnh f t (f t) = 0
        · rw [ifLe_t (by omega) (by omega), g3, if_pos c0]
          simp only [Nat.add_zero]
        · by_cases c1 : zcnh f t (f t) = 1
          · rw [ifLe_f (by omega) (by omega), ifEq_t (by omega), g3, if_neg c0, if_pos c1]
          · rw [ifLe_f (by omega) (by omega), ifEq_f (by omega) (by omega) (by omega), g3, if_neg c0, if_neg c1]
      obtain ⟨most', best', g1, g2, g3⟩ := hstep
      refine ⟨_, g3, ⟨t + 1, most', best', nI (f t), zcnh f t (f t) + 1, rfl, by omega, g1, g2, Or.inr ⟨by omega, rfl, hnew.symm⟩⟩, ?_⟩
      simp (disch := omega) only [nIc]
      omega
  · have : ztog (zcnh f 0) = 0 := by
      unfold ztog
      refine zsum_zero 65536 (fun h _ => ?_)
      have h0 : zcnh f 0 h = 0 := rfl
      rw [h0]; rfl
    rw [this]
theorem mSameHash {M : zzMem} {C cm h0 : Nat} {xs : Nat → List Nat} {ke ve be se : Nat → Nat} {g : Nat → Nat} (hW : zWF N A) (h : zRc M 0 C A) (e : zMe M 0 (zA_S A).length cm (zA_E A) xs ke ve be se) (hg : g = fun x => zA_h A (ke x)) (hh0 : h0 < 65536) : ∃ M', f_X10_sameHash (nI h0) M = some (nI (zcnh g (zA_S A).length h0), M') ∧ zFr (fun a _ => a = 78) M M' := by
  have hm3 := hW.2.2.2.2.2.2.2.2.1.1
  have hm : M.1 74 7 = nI (zA_S A).length := by have := h.1.2.2.2.2.2.2.2.1; simpa using this
  have hkk : ∀ x, x < (zA_S A).length → ke x < 65536 := fun x hx => hW.key ((e.mem hW _).mpr ⟨x, hx, rfl⟩)
  have hZ := zlp_forI (B := fun s : (Int32 × Int32 × zzMem) => b_X10_sameHash_4 (nI h0) s.1 s.2.1 s.2.2) (fun t X => (nI (zcnh g t h0), nI t, X)) (fun t X => zFr (fun a _ => a = 78) M X) (zA_S A).length (fun r => r.1 = nI (zcnh g (zA_S A).length h0) ∧ zFr (fun a _ => a = 78) M r.2) (fun t ht X hX => ?_) (fun X hX => ?_) 0 (by omega) M (zFr.refl M)
  · obtain ⟨r, r1, r2, r3⟩ := hZ
    refine ⟨r.2, ?_, r3⟩
    unfold f_X10_sameHash j_X10_sameHash_4
    have r1 : zlp (fun s : (Int32 × Int32 × zzMem) => b_X10_sameHash_4 (nI h0) s.1 s.2.1 s.2.2) (nI 0, nI 0, M) = some r := r1
    rw [r1, ← r2]
  · have hk := hkk t ht
    have hke : X.1 74 (40 + t) = nI (ke t) := by rw [(hX _ _ (by omega)).1]; have := (e.2.1 t ht).1; simpa using this
    have hmX : X.1 74 7 = nI (zA_S A).length := by rw [(hX _ _ (by omega)).1]; exact hm
    obtain ⟨Y, y1, y2⟩ := mHashOf (h.2.1.frS hW.hok.2 hX (by intro i hi; omega)) hW.hok hk
    have y1 : f_X10_hashOf (nI (ke t)) X = some (nI (g t), Y) := by rw [hg]; exact y1
    have hgt : g t < 65536 := by rw [hg]; exact zhs_lt hk hW.hok.1
    refine ⟨Y, ?_, hX.trans y2⟩
    show b_X10_sameHash_4 (nI h0) (nI (zcnh g t h0)) (nI t) X = some (.inl (nI (zcnh g (t + 1) h0), nI (t + 1), Y))
    have hs : zcnh g (t + 1) h0 = zcnh g t h0 + (if decide (g t = h0) = true then 1 else 0) := rfl
    rw [hs]
    unfold b_X10_sameHash_4
    simp (disch := omega) only [hmX, ifLe_f, nIadd, zgd_in, nIc, hke, y1, Option.bind_some, zpr, zbd]
    by_cases hd : g t = h0
    · rw [ifEq_t hd, decide_eq_true hd, if_pos rfl]
    · rw [ifEq_f hd (by omega) (by omega), decide_eq_false hd, if_neg (by decide)]; rfl
  · have hmX : X.1 74 7 = nI (zA_S A).length := by rw [(hX _ _ (by omega)).1]; exact hm
    refine ⟨(nI (zcnh g (zA_S A).length h0), X), ?_, rfl, hX⟩
    show b_X10_sameHash_4 (nI h0) _ (nI (zA_S A).length) X = _
    unfold b_X10_sameHash_4
    rw [hmX, ifLe_t (Nat.le_refl _) (by omega)]
/-- the best of the first t, by full counts -/
def ztpm (cnt g : Nat → Nat) (t most : Nat) (best : Int32) : Prop :=
  (∀ x, x < t → cnt (g x) ≤ most) ∧ ((t = 0 ∧ most = 0 ∧ best = (-2 : Int32)) ∨ (0 < t ∧ ∃ b, b < 65536 ∧ best = nI b ∧ cnt b = most ∧ ∀ x, x < t → cnt (g x) = most → b ≤ g x))
set_option maxHeartbeats 1000000 in
theorem mAlike {M : zzMem} {C cm w : Nat} {xs : Nat → List Nat} {ke ve be se : Nat → Nat} {g : Nat → Nat} (hW : zWF N A) (h : zRc M 0 C A) (e : zMe M 0 (zA_S A).length cm (zA_E A) xs ke ve be se) (hw : w ≤ 2) (hg : g = fun x => zA_h A (ke x)) : ∃ most best M', ztop (zcnh g (zA_S A).length) most best ∧ f_X10_alike (nI w) M = some (zalk w (ztog (zcnh g (zA_S A).length)) most best, M') ∧ zFr (fun a _ => a = 78) M M' := by
  have hm3 := hW.2.2.2.2.2.2.2.2.1.1
  have hm : M.1 74 7 = nI (zA_S A).length := by have := h.1.2.2.2.2.2.2.2.1; simpa using this
  have hkk : ∀ x, x < (zA_S A).length → ke x < 65536 := fun x hx => hW.key ((e.mem hW _).mpr ⟨x, hx, rfl⟩)
  have hgl : ∀ x, x < (zA_S A).length → g x < 65536 := fun x hx => by rw [hg]; exact zhs_lt (hkk x hx) hW.hok.1
  have hin : f_X9_within (nI w) (nI 0) (nI 2) = true := by rw [in_nI (by omega) (by omega) (by omega)]; simp; omega
  have hpos : ∀ x, x < (zA_S A).length → 0 < zcnh g (zA_S A).length (g x) := fun x hx => by
    rcases Nat.eq_zero_or_pos (zcnh g (zA_S A).length (g x)) with hh | hh
    · exfalso
      have := zcnt_mono (p := fun i => decide (i = x)) (q := fun i => decide (g i = g x)) (fun i hi => by
        have : i = x := by simpa using hi
        rw [this]; simp) (zA_S A).length
      have h1 : zcnt (fun i => decide (i = x)) (zA_S A).length = 1 := by
        have := zcnt_list (p := fun i => decide (i = x)) (n := (zA_S A).length) (l := [x]) (by simp) (fun y => by simp; omega)
        rw [this]; rfl
      unfold zcnh at hh
      omega
    · exact hh
  generalize hcd : zcnh g (zA_S A).length = cnt at hpos
  have hcl : ∀ z, cnt z ≤ (zA_S A).length := fun z => by rw [← hcd]; exact zcnh_le _ _ _
  have hZ := zlp_inv (B := fun s : (Int32 × Int32 × Int32 × Int32 × zzMem) => b_X10_alike_22 (nI w) s.1 s.2.1 s.2.2.1 s.2.2.2.1 s.2.2.2.2) (fun s => ∃ t most best X, s = (nI (zcnt (fun x => decide (1 < cnt (g x))) t), best, nI most, nI t, X) ∧ t ≤ (zA_S A).length ∧ most ≤ 300 ∧ ztpm cnt g t most best ∧ zFr (fun a _ => a = 78) M X) (fun r => ∃ most best, ztpm cnt g (zA_S A).length most best ∧ r.1 = zalk w (zcnt (fun x => decide (1 < cnt (g x))) (zA_S A).length) most best ∧ zFr (fun a _ => a = 78) M r.2) (fun s => 1000 - s.2.2.2.1.toNatClampNeg) ?_ (nI 0, (-2 : Int32), nI 0, nI 0, M) ⟨0, 0, (-2 : Int32), M, rfl, by omega, by omega, ⟨fun x hx => by omega, Or.inl ⟨rfl, rfl, rfl⟩⟩, zFr.refl M⟩
  · obtain ⟨r, r1, most, best, r2, r3, r4⟩ := hZ
    refine ⟨most, best, r.2, ?_, ?_, r4⟩
    · obtain ⟨t1, t2⟩ := r2
      refine ⟨fun z => ?_, ?_⟩
      · by_cases hz : ∃ x, x < (zA_S A).length ∧ g x = z
        · obtain ⟨x, x1, x2⟩ := hz
          rw [← x2]; exact t1 x x1
        · have : cnt z = 0 := by
            rw [← hcd]
            exact zcnt_no _ (fun i hi => by rw [decide_eq_false]; exact fun hh => hz ⟨i, hi, hh⟩)
          omega
      · rcases t2 with ⟨a1, a2, a3⟩ | ⟨a1, b, b1, b2, b3, b4⟩
        · exact Or.inl ⟨a2, a3⟩
        · have hmp : 0 < most := by have := t1 0 a1; have := hpos 0 a1; omega
          refine Or.inr ⟨hmp, b, b1, b2, b3, fun z hz he => ?_⟩
          by_cases hzz : ∃ x, x < (zA_S A).length ∧ g x = z
          · obtain ⟨x, x1, x2⟩ := hzz
            rw [← x2]; exact b4 x x1 (by rw [x2]; exact he)
          · have : cnt z = 0 := by
              rw [← hcd]
              exact zcnt_no _ (fun i hi => by rw [decide_eq_false]; exact fun hh => hzz ⟨i, hi, hh⟩)
            omega
    · have htg : zcnt (fun x => decide (1 < cnt (g x))) (zA_S A).length = ztog cnt := by rw [← hcd]; exact ztog_eq hgl
      unfold f_X10_alike j_X10_alike_22
      rw [in_eq, if_pos hin, r1, ← htg, ← r3]
  · rintro s ⟨t, most, best, X, rfl, ht, hmo, ⟨t1, t2⟩, hX⟩
    show (∃ s', b_X10_alike_22 (nI w) (nI (zcnt (fun x => decide (1 < cnt (g x))) t)) best (nI most) (nI t) X = some (.inl s') ∧ _) ∨ ∃ r, b_X10_alike_22 (nI w) (nI (zcnt (fun x => decide (1 < cnt (g x))) t)) best (nI most) (nI t) X = some (.inr r) ∧ _
    have hmX : X.1 74 7 = nI (zA_S A).length := by rw [(hX _ _ (by omega)).1]; exact hm
    by_cases hte : t = (zA_S A).length
    · right
      subst hte
      refine ⟨(zalk w (zcnt (fun x => decide (1 < cnt (g x))) (zA_S A).length) most best, X), ?_, most, best, ⟨t1, t2⟩, rfl, hX⟩
      unfold b_X10_alike_22 zalk
      rw [hmX, ifLe_t (Nat.le_refl _) (by omega)]
      rcases (show w = 0 ∨ w = 1 ∨ w = 2 by omega) with rfl | rfl | rfl
      · rw [ifE0_t rfl, if_pos rfl]
      · rw [ifE0_f (by omega) (by omega), ifEq_t rfl, if_neg (by omega), if_pos rfl]
      · rw [ifE0_f (by omega) (by omega), ifEq_f (by omega) (by omega) (by omega), if_neg (by omega), if_neg (by omega)]
    · left
      have htl : t < (zA_S A).length := by omega
      have hk := hkk t htl
      have hke : X.1 74 (40 + t) = nI (ke t) := by rw [(hX _ _ (by omega)).1]; have := (e.2.1 t htl).1; simpa using this
      obtain ⟨Y, y1, y2⟩ := mHashOf (h.2.1.frS hW.hok.2 hX (by intro i hi; omega)) hW.hok hk
      have y1 : f_X10_hashOf (nI (ke t)) X = some (nI (g t), Y) := by rw [hg]; exact y1
      have fY : zFr (fun a _ => a = 78) M Y := hX.trans y2
      have hgt := hgl t htl
      obtain ⟨Z, z1, z2⟩ := mSameHash hW (h.frS hW fY (by intro i; omega)) (e.frS hm3 fY (by intro i; omega)) hg hgt
      rw [hcd] at z1
      have fZ : zFr (fun a _ => a = 78) M Z := fY.trans z2
      have hcg := hcl (g t)
      have hstep : ∃ best', ztpm cnt g (t + 1) (max most (cnt (g t))) best' ∧ b_X10_alike_22 (nI w) (nI (zcnt (fun x => decide (1 < cnt (g x))) t)) best (nI most) (nI t) X = some (.inl (nI (zcnt (fun x => decide (1 < cnt (g x))) (t + 1)), best', nI (max most (cnt (g t))), nI (t + 1), Z)) := by
        have h68 : ∃ best', ztpm cnt g (t + 1) (max most (cnt (g t))) best' ∧ ∀ v2, j_X10_alike_68 (nI w) v2 best (nI most) (nI t) (nI (g t)) (nI (cnt (g t))) Z = some (.inl (v2, best', nI (max most (cnt (g t))), nI (t + 1), Z)) := by
          unfold j_X10_alike_68 j_X10_alike_88 j_X10_alike_91
          rw [mmx_nI (by omega) (by omega)]
          simp only [zbd, nIadd]
          have hall : ∀ x, x < t + 1 → cnt (g x) ≤ max most (cnt (g t)) := fun x hx => by
            by_cases hxt : x = t
            · rw [hxt]; omega
            · have := t1 x (by omega); omega
          rcases Nat.lt_trichotomy most (cnt (g t)) with hh | hh | hh
          · refine ⟨nI (g t), ⟨hall, Or.inr ⟨by omega, g t, hgt, rfl, by omega, fun x hx he => ?_⟩⟩, fun v2 => by rw [ifLt_t hh (by omega)]⟩
            by_cases hxt : x = t
            · rw [hxt]; exact Nat.le_refl _
            · have := t1 x (by omega); omega
          · have hmp : t ≠ 0 := fun h0 => by
              rcases t2 with ⟨a1, a2, a3⟩ | ⟨a1, -⟩
              · have := hpos t htl; omega
              · omega
            obtain ⟨b, b1, b2, b3, b4⟩ : ∃ b, b < 65536 ∧ best = nI b ∧ cnt b = most ∧ ∀ x, x < t → cnt (g x) = most → b ≤ g x := by
              rcases t2 with ⟨a1, -⟩ | ⟨a1, b, b1⟩
              · exact absurd a1 hmp
              · exact ⟨b, b1⟩
            by_cases hlt : g t < b
            · refine ⟨nI (g t), ⟨hall, Or.inr ⟨by omega, g t, hgt, rfl, by omega, fun x hx he => ?_⟩⟩, fun v2 => ?_⟩
              · by_cases hxt : x = t
                · rw [hxt]; exact Nat.le_refl _
                · have := b4 x (by omega) (by omega); omega
              · rw [ifLt_f (by omega) (by omega), ifEq_t hh.symm, b2, ifLe_f hlt (by omega)]
            · refine ⟨best, ⟨hall, Or.inr ⟨by omega, b, b1, b2, by omega, fun x hx he => ?_⟩⟩, fun v2 => ?_⟩
              · by_cases hxt : x = t
                · rw [hxt]; omega
                · exact b4 x (by omega) (by omega)
              · rw [ifLt_f (by omega) (by omega), ifEq_t hh.symm, b2, ifLe_t (by omega) (by omega)]
          · have hmp : t ≠ 0 := fun h0 => by
              rcases t2 with ⟨a1, a2, a3⟩ | ⟨a1, -⟩
              · omega
              · omega
            obtain ⟨b, b1, b2, b3, b4⟩ : ∃ b, b < 65536 ∧ best = nI b ∧ cnt b = most ∧ ∀ x, x < t → cnt (g x) = most → b ≤ g x := by
              rcases t2 with ⟨a1, -⟩ | ⟨a1, b, b1⟩
              · exact absurd a1 hmp
              · exact ⟨b, b1⟩
            refine ⟨best, ⟨hall, Or.inr ⟨by omega, b, b1, b2, by omega, fun x hx he => ?_⟩⟩, fun v2 => ?_⟩
            · by_cases hxt : x = t
              · rw [hxt] at he; omega
              · exact b4 x (by omega) (by omega)
            · rw [ifLt_f (by omega) (by omega), ifEq_f (by omega) (by omega) (by omega)]
        obtain ⟨best', g1, g2⟩ := h68
        refine ⟨best', g1, ?_⟩
        unfold b_X10_alike_22
        simp (disch := omega) only [hmX, ifLe_f, nIadd, zgd_in, nIc, hke, y1, Option.bind_some, zpr, z1, zbd, g2, zcnt]
        by_cases hd : 1 < cnt (g t)
        · rw [ifLe_f hd (by omega)]
          simp only [hd, decide_true, if_true]
        · rw [ifLe_t (by omega) (by omega)]
          simp only [hd, decide_false, Bool.false_eq_true, if_false, Nat.add_zero]
      obtain ⟨best', g1, g2⟩ := hstep
      refine ⟨_, g2, ⟨t + 1, max most (cnt (g t)), best', Z, rfl, by omega, by omega, g1, fZ⟩, ?_⟩
      simp (disch := omega) only [nIc]
      omega
end AL
theorem op_alike (N : Nat) (a : Int32) : zSame N (zR (f_X9_alike a)) (f_X10_alike a) := by
  refine zSame.ss (fun hN tp A M h1 h2 h3 h4 h5 => ?_)
  rcases inC a 0 2 (by decide) (by decide) with ⟨ha, w, -, hw, rfl⟩ | ha
  · obtain ⟨f, hf⟩ : ∃ f : Nat → Nat, f = fun i => zA_h A ((zA_S A).getD i 0) := ⟨_, rfl⟩
    obtain ⟨most, best, c1, c2, c3⟩ := cAlike h2 h3 hw hf
    have hlen := h2.2.2.2.2.2.2.2.2.1.1
    refine ⟨zalk w (ztog (zcnh f (zA_S A).length)) most best, ⟨M, by unfold zR; rw [c3]; rfl, zFr.refl M⟩, fun M1 hfr => ?_⟩
    have h4' := h4.fr (Or.inl rfl) h2 hfr
    obtain ⟨cm, xs, ke, ve, be, se, hcm, e, hm, hm3, hx, hc1⟩ := h4'.rc.fx h2
    obtain ⟨g, hg⟩ : ∃ g : Nat → Nat, g = fun x => zA_h A (ke x) := ⟨_, rfl⟩
    obtain ⟨most', best', M', d1, d2, d3⟩ := mAlike h2 h4'.rc e hw hg
    have hfg := zcnh_perm h2 e hf hg
    rw [← hfg] at d1 d2
    have hhi : ∀ h, 65536 ≤ h → zcnh f (zA_S A).length h = 0 := fun h hh => by
      refine zcnh_hi (m := (zA_S A).length) (fun i hi => ?_) _ (Nat.le_refl _) h hh
      rw [hf]
      exact zhs_lt (h2.key (List.mem_of_getElem? (zgetD hi))) h2.hok.1
    obtain ⟨u1, u2⟩ := ztop_uniq hhi c2 d1
    refine ⟨M', ?_, d3.weak zScr78⟩
    rw [d2, u1, u2]
  · refine ⟨(-1 : Int32), ⟨M, ?_, zFr.refl M⟩, fun M1 hf => ⟨M1, ?_, zFr.refl M1⟩⟩
    · unfold zR f_X9_alike; rw [ha]; rfl
    · unfold f_X10_alike; rw [in_eq, ha]; rfl
