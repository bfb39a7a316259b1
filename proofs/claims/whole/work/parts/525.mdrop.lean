/-! ===== the reference: a drop ===== -/
theorem zYl_get {X : List Nat} {i y t : Nat} (ht : t < X.length - 1) : ((X.set i y).take (X.length - 1))[t]? = if t = i then some y else X[t]? := by
  rw [List.getElem?_take, if_pos ht, List.getElem?_set]
  by_cases hit : i = t
  · rw [if_pos hit, if_pos hit.symm, if_pos (by omega)]
  · rw [if_neg hit, if_neg (fun h => hit h.symm)]
theorem zYl_len {X : List Nat} {i y : Nat} : ((X.set i y).take (X.length - 1)).length = X.length - 1 := by
  rw [List.length_take, List.length_set]; omega
theorem zYl_mem {X : List Nat} {i x y : Nat} (hn : X.Nodup) (hi : X[i]? = some x) (hy : X[X.length - 1]? = some y) (z : Nat) : z ∈ (X.set i y).take (X.length - 1) ↔ z ∈ X ∧ z ≠ x := by
  have hil := (List.getElem?_eq_some_iff.mp hi).1
  have hinj : ∀ {s t w : Nat}, X[s]? = some w → X[t]? = some w → s = t := fun {s t w} h1 h2 => by
    rw [← idx_at hn h1, ← idx_at hn h2]
  constructor
  · intro hz
    obtain ⟨t, ht⟩ := List.getElem?_of_mem hz
    have htl := (List.getElem?_eq_some_iff.mp ht).1
    rw [zYl_len] at htl
    rw [zYl_get htl] at ht
    by_cases hti : t = i
    · rw [if_pos hti] at ht
      cases ht
      refine ⟨List.mem_of_getElem? hy, fun hh => ?_⟩
      rw [hh] at hy
      have := hinj hi hy
      omega
    · rw [if_neg hti] at ht
      refine ⟨List.mem_of_getElem? ht, fun hh => hti ?_⟩
      rw [hh] at ht
      exact hinj ht hi
  · rintro ⟨hz, hne⟩
    obtain ⟨j, hj⟩ := List.getElem?_of_mem hz
    have hjl := (List.getElem?_eq_some_iff.mp hj).1
    have hji : j ≠ i := fun hh => hne (by rw [hh, hi] at hj; cases hj; rfl)
    by_cases hjn : j < X.length - 1
    · exact List.mem_of_getElem? (i := j) (by rw [zYl_get hjn, if_neg hji]; exact hj)
    · have hje : j = X.length - 1 := by omega
      rw [hje, hy] at hj
      exact List.mem_of_getElem? (i := i) (by rw [zYl_get (by omega), if_pos rfl]; exact hj)
theorem zYl_pw {X : List Nat} {i x y : Nat} {s : Nat → Nat} (hn : X.Nodup) (hi : X[i]? = some x) (hy : X[X.length - 1]? = some y) (hp : X.Pairwise (fun a b => s a < s b)) : ((X.set i y).take (X.length - 1)).Pairwise (fun a b => zupd s y (s x) a < zupd s y (s x) b) := by
  have key : ∀ {t z w : Nat}, t < X.length - 1 → ((X.set i y).take (X.length - 1))[t]? = some z → X[t]? = some w → zupd s y (s x) z = s w := fun {t z w} ht hz hw => by
    rw [zYl_get ht] at hz
    by_cases hti : t = i
    · rw [if_pos hti] at hz
      cases hz
      rw [hti, hi] at hw
      cases hw
      rw [zupd_eq]
    · rw [if_neg hti, hw] at hz
      cases hz
      rw [zupd_ne]
      intro hh
      rw [hh] at hw
      have a1 := idx_at hn hw
      have a2 := idx_at hn hy
      omega
  rw [List.pairwise_iff_getElem]
  intro u v hu hv huv
  have hu2 := List.getElem?_eq_getElem hu
  have hv2 := List.getElem?_eq_getElem hv
  rw [zYl_len] at hu hv
  have hu3 := List.getElem?_eq_getElem (show u < X.length by omega)
  have hv3 := List.getElem?_eq_getElem (show v < X.length by omega)
  rw [key hu hu2 hu3, key hv hv2 hv3]
  exact (pw_lt hp hu3 hv3).mpr huv
theorem mLeaves {M : zzMem} {L x k v b s : Nat} (hm : M.1 74 7 = nI (L + 1)) (hL : L < 300) (hx : x < 300) (h1 : M.1 74 (40 + L) = nI k) (h2 : M.1 74 (340 + L) = nI v) (h3 : M.1 74 (640 + L) = nI b) (h4 : M.1 74 (940 + L) = nI s) : f_X10_leaves (nI x) M = some (zz_si (zz_si (zz_si (zz_si (zz_si M 74 (40 + x) (nI k)) 74 (340 + x) (nI v)) 74 (640 + x) (nI b)) 74 (940 + x) (nI s)) 74 7 (nI L)) := by
  unfold f_X10_leaves
  simp (disch := omega) only [hm, nIsub, Nat.add_sub_cancel, zbd, nIadd, zgd_in, nIc, rd_ne, h1, h2, h3, h4]
section MD
variable {N : Nat} {A : zzA}
theorem zjdu_m {M : zzMem} {C : Nat} {B : zzA} {v : Int32} (hC : C + 300 < 2147483648) (hW : zWF N B) (h : zRc M 0 C B) : ∃ M', j_X10_drops_191 v M = some (v, M') ∧ zRc M' 0 (C + 300) (if zjdu B = true then zjoj B else B) ∧ zFr zmN M M' := by
  have hpo : zA_po B ≤ 2 := hW.1.2.2.2.2.2.2.2.1
  have c4 : M.1 74 4 = nI (zA_po B) := by have := h.1.2.2.2.2.1; simpa using this
  have c3 : M.1 74 3 = nI (zA_dn B) := by have := h.1.2.2.2.1; simpa using this
  have c0 : M.1 74 0 = nI (zA_n B) := by have := h.1.1; simpa using this
  have hdn : zA_dn B ≤ 49 := hW.1.2.2.2.2.2.2.1
  have hB64 := hW.sB.2.2.1
  have hn4 : zA_n B ≤ 4 := hW.1.2.1
  have hup' : zRc M 0 (C + 300) B := h.mono (by omega)
  have hld : zlod B < 2147483648 := by
    unfold zlod
    have := hW.2.2.2.2.2.2.2.2.1.1
    exact Nat.lt_of_le_of_lt (Nat.div_le_self _ _) (by omega)
  unfold j_X10_drops_191
  rw [c4, c3, c0, mLoad hW h.1, mBuck hW h.1]
  unfold zjdu
  by_cases h0 : zA_po B = 0
  · rw [ifLe0_t h0]
    exact ⟨M, rfl, by simp [h0]; exact hup', zFr.refl M⟩
  · rw [ifLe0_f (by omega) (by omega), Option.bind_some]
    by_cases hu : zlod B < zA_dn B
    · rw [if_neg (show ¬ nI (zA_dn B) ≤ nI (100 * (zA_S B).length / (zA_B B * zA_c B)) from nI_ge hu (by omega)), Option.bind_some]
      unfold zjoj
      by_cases hB : zA_n B < zA_B B
      · obtain ⟨M', e1, e2, e3⟩ := mJoin hC hW h hB
        refine ⟨M', ?_, by simp [h0, hu, hB]; exact e2, e3⟩
        rw [ifLe_f hB (by omega), e1]; rfl
      · refine ⟨M, ?_, by simp [h0, hu, hB]; exact hup', zFr.refl M⟩
        rw [ifLe_t (by omega) (by omega)]
    · rw [if_pos (show nI (zA_dn B) ≤ nI (100 * (zA_S B).length / (zA_B B * zA_c B)) from nI_le (by unfold zlod at hu; omega) hld)]
      exact ⟨M, rfl, by simp [h0, hu]; exact hup', zFr.refl M⟩
set_option maxHeartbeats 8000000 in
theorem mDrops {M : zzMem} {C k : Nat} (hC : C + 300 < 2147483648) (hW : zWF N A) (h : zRc M 0 C A) (hk : k < 65536) : ∃ M', f_X10_drops (nI k) M = some ((zdrp A k).1, M') ∧ zRc M' 0 (C + 300) (zdrp A k).2 ∧ zFr zmN M M' := by
  obtain ⟨cm, xs, ke, ve, be, se, hcm, e, hm, hm3, hx, hc1⟩ := h.fx hW
  have hs := hW.sB
  have hc := hW.c2
  have hab := hW.adr k
  have hb : zA_a A k < 64 := by omega
  have hbe : ∀ x, x < (zA_S A).length → be x < 64 := fun x h => by have := (hx x h).1; omega
  have g8 : M.1 74 8 = zA_rd A := by have := h.1.2.2.2.2.2.2.2.2.1; simpa using this
  have g9 : M.1 74 9 = zA_wr A := by have := h.1.2.2.2.2.2.2.2.2.2.1; simpa using this
  unfold f_X10_drops zdrp
  rcases mIdx hW e hm hk (fun x h => (hx x h).2.1) with ⟨x, i, q1, q2, q3, q4, q5, q6⟩ | ⟨q1, q2, q3⟩
  · rw [q5]
    have hzi := zfi_some (i := i) (v := ve x) q5
    have hWN := zdrN_wf hW hzi
    have hil := (List.getElem?_eq_some_iff.mp q3).1
    have hxl := e.xlen (zA_a A k)
    have hel := e.elen (zA_a A k)
    have hX := e.xnd (zA_a A k)
    have gy := List.getElem?_eq_getElem (show (xs (zA_a A k)).length - 1 < (xs (zA_a A k)).length by omega)
    generalize (xs (zA_a A k))[(xs (zA_a A k)).length - 1]'(by omega) = y at gy
    have hy := e.2.2.1 _ y (List.mem_of_getElem? gy)
    have hEy := mEntryAt hm hm3 e (by omega) hbe gy
    have hkn := mKeysG hm hm3 e hbe hb
    have hgn := mChainG hW.gok h.2.2.2.1 hb
    have hG256 := hW.gok.len (zA_a A k)
    have f10 : zFr (fun a j => a = 74 ∧ j = 8) M (zz_si M 74 8 (zA_rd A + nI (zA_G A (zA_a A k)).length)) := zFr.si ⟨rfl, rfl⟩
    have r10 : (zz_si M 74 8 (zA_rd A + nI (zA_G A (zA_a A k)).length)).1 74 8 = zA_rd A + nI (zA_G A (zA_a A k)).length := rd_eq
    generalize hM10 : zz_si M 74 8 (zA_rd A + nI (zA_G A (zA_a A k)).length) = M10 at f10 r10
    have e10 : zMe M10 0 (zA_S A).length cm (zA_E A) xs ke ve be se := e.frS hm3 f10 (by intro i; omega)
    have hm10 : M10.1 74 7 = nI (zA_S A).length := by rw [(f10 _ _ (by omega)).1]; exact hm
    have hc10 : M10.1 74 1 = nI (zA_c A) := by rw [(f10 _ _ (by omega)).1]; exact hc1
    have g910 : M10.1 74 9 = zA_wr A := by rw [(f10 _ _ (by omega)).1]; exact g9
    have hr1 : f_X10_readsOf (nI y) M10 = some (nI (((xs (zA_a A k)).length - 1) / zA_c A + 1)) := by
      unfold f_X10_readsOf
      rw [mPlaceOf hm10 hm3 e10 (by omega) hbe gy, Option.bind_some, hc10, zgd_t (nI_ne0 (by omega) (by omega)), nIdiv (by omega) (by omega) (by omega), nIadd]
    have hr2 : f_X10_readsOf (nI x) M10 = some (nI (i / zA_c A + 1)) := by
      unfold f_X10_readsOf
      rw [mPlaceOf hm10 hm3 e10 (by omega) hbe q3, Option.bind_some, hc10, zgd_t (nI_ne0 (by omega) (by omega)), nIdiv (by omega) (by omega) (by omega), nIadd]
    obtain ⟨L, hL⟩ : ∃ L, (zA_S A).length = L + 1 := ⟨(zA_S A).length - 1, by omega⟩
    have eL := e10.2.1 L (by omega)
    have ex := e10.2.1 x q1
    simp only [Nat.zero_add] at eL ex
    let s1 : Nat → Nat := zupd se y (se x)
    have hs1 : s1 = zupd se y (se x) := rfl
    let Z : Int32 → zzMem := fun w => zz_si (zz_si (zz_si (zz_si (zz_si (zz_si (zz_si M10 74 9 w) 74 (940 + y) (nI (se x))) 74 (40 + x) (nI (ke L))) 74 (340 + x) (nI (ve L))) 74 (640 + x) (nI (be L))) 74 (940 + x) (nI (s1 L))) 74 7 (nI L)
    have hZ : ∀ w, Z w = zz_si (zz_si (zz_si (zz_si (zz_si (zz_si (zz_si M10 74 9 w) 74 (940 + y) (nI (se x))) 74 (40 + x) (nI (ke L))) 74 (340 + x) (nI (ve L))) 74 (640 + x) (nI (be L))) 74 (940 + x) (nI (s1 L))) 74 7 (nI L) := fun w => rfl
    have hlv : ∀ w, f_X10_leaves (nI x) (zz_si (zz_si M10 74 9 w) 74 (940 + y) (nI (se x))) = some (Z w) := by
      intro w
      rw [hZ]
      refine mLeaves ?_ (by omega) (by omega) ?_ ?_ ?_ ?_
      · rw [rd_ne (by omega), rd_ne (by omega), hm10, hL]
      · rw [rd_ne (by omega), rd_ne (by omega)]; exact eL.1
      · rw [rd_ne (by omega), rd_ne (by omega)]; exact eL.2.1
      · rw [rd_ne (by omega), rd_ne (by omega)]; exact eL.2.2.1
      · by_cases hLy : L = y
        · rw [hLy, rd_eq, hs1, zupd_eq]
        · rw [rd_ne (by omega), rd_ne (by omega), hs1, zupd_ne hLy]; exact eL.2.2.2.1
    have fZ : ∀ w, zFr (fun a j => a = 74 ∧ (j = 9 ∨ j = 940 + y ∨ j = 40 + x ∨ j = 340 + x ∨ j = 640 + x ∨ j = 940 + x ∨ j = 7)) M10 (Z w) := fun w => by
      rw [hZ]
      refine ((((((zFr.si ?_).trans (zFr.si ?_)).trans (zFr.si ?_)).trans (zFr.si ?_)).trans (zFr.si ?_)).trans (zFr.si ?_)).trans (zFr.si ?_) <;> omega
    have fM : ∀ w, zFr (fun a j => a = 74 ∧ (j = 8 ∨ j = 9 ∨ j = 940 + y ∨ j = 40 + x ∨ j = 340 + x ∨ j = 640 + x ∨ j = 940 + x ∨ j = 7)) M (Z w) := fun w => (f10.weak (fun k i h => by omega)).trans ((fZ w).weak (fun k i h => by omega))
    have z40 : ∀ w, (Z w).1 74 (40 + x) = nI (ke L) := fun w => by rw [hZ]; simp (disch := omega) only [rd_ne, rd_eq]
    have z340 : ∀ w, (Z w).1 74 (340 + x) = nI (ve L) := fun w => by rw [hZ]; simp (disch := omega) only [rd_ne, rd_eq]
    have z640 : ∀ w, (Z w).1 74 (640 + x) = nI (be L) := fun w => by rw [hZ]; simp (disch := omega) only [rd_ne, rd_eq]
    have z940 : ∀ w, (Z w).1 74 (940 + x) = nI (s1 L) := fun w => by rw [hZ]; simp (disch := omega) only [rd_ne, rd_eq]
    have z940y : ∀ w, y ≠ x → (Z w).1 74 (940 + y) = nI (se x) := fun w hyx => by rw [hZ]; simp (disch := omega) only [rd_ne, rd_eq]
    have z7 : ∀ w, (Z w).1 74 7 = nI L := fun w => by rw [hZ]; simp (disch := omega) only [rd_eq]
    have z9 : ∀ w, (Z w).1 74 9 = w := fun w => by rw [hZ]; simp (disch := omega) only [rd_ne, rd_eq]
    have z8 : ∀ w, (Z w).1 74 8 = zA_rd A + nI (zA_G A (zA_a A k)).length := fun w => by rw [((fZ w) _ _ (by omega)).1]; exact r10
    have zc : ∀ w, (Z w).1 74 1 = nI (zA_c A) := fun w => by rw [((fZ w) _ _ (by omega)).1]; exact hc10
    have zmp : ∀ w, zMp (Z w) 0 (zA_G A) := fun w => h.2.2.2.1.frS hW.2.2.2.2.2.1 (fM w) (by intro i; omega)
    have zch : ∀ w, f_X10_chainOf (nI (zA_a A k)) (Z w) = some (nI (zA_G A (zA_a A k)).length) := fun w => mChainG hW.gok (zmp w) hb
    let ρ : Nat → Nat := fun z => if z = L then x else z
    let Ya : List Nat := ((xs (zA_a A k)).set i y).take ((xs (zA_a A k)).length - 1)
    have hYm : ∀ z, z ∈ Ya ↔ z ∈ xs (zA_a A k) ∧ z ≠ x := zYl_mem hX q3 gy
    have hYp : Ya.Pairwise (fun a b => s1 a < s1 b) := zYl_pw hX q3 gy (e.2.2.2.1 _)
    let ys : Nat → List Nat := zupd xs (zA_a A k) Ya
    have hya : ys (zA_a A k) = Ya := zupd_eq
    have hyn : ∀ b, b ≠ zA_a A k → ys b = xs b := fun b hb => zupd_ne hb
    have hys : ∀ b z, z ∈ ys b ↔ z ∈ xs b ∧ z ≠ x := fun b z => by
      by_cases hbb : b = zA_a A k
      · subst hbb; rw [hya]; exact hYm z
      · rw [hyn b hbb]
        exact ⟨fun hz => ⟨hz, fun hh => hbb (by rw [hh] at hz; rw [← (e.2.2.1 b x hz).2, q4])⟩, fun hz => hz.1⟩
    have hρ : ∀ z, z ≠ x → ∀ (f : Nat → Nat) (u : Nat), u = f L → zupd f x u (ρ z) = f z := fun z hz f u hu => by
      simp only [ρ]
      by_cases hzL : z = L
      · rw [if_pos hzL, zupd_eq, hu, hzL]
      · rw [if_neg hzL, zupd_ne hz]
    have hzr : ∀ z, z < (zA_S A).length → z ≠ x → ρ z < L := fun z hz1 hz2 => by
      simp only [ρ]
      by_cases hzL : z = L
      · rw [if_pos hzL]; omega
      · rw [if_neg hzL]; omega
    have hSl : (zA_S (zdrN A k i)).length = L := by
      have := zdel_len (cd := zA_cd A) hW.pw ((hW.2.2.2.2.2.2.2.2.1.2.2 k).mpr ⟨_, _, List.mem_of_getElem? hzi⟩)
      show (zdel (zA_cd A) (zA_S A) k).length = L
      omega
    have hme : ∀ Y : zzMem, ∀ w, zFr zpgS (Z w) Y → zMe Y 0 L cm (zA_E (zdrN A k i)) (fun b => (ys b).map ρ) (zupd ke x (ke L)) (zupd ve x (ve L)) (zupd be x (be L)) (zupd s1 x (s1 L)) := by
      intro Y w fY
      have fN : ∀ j, j < 1240 → Y.1 74 j = (Z w).1 74 j := fun j hj => (fY _ _ (by unfold zpgS; omega)).1
      refine ⟨?_, fun z hz => ?_, fun b z hz => ?_, fun b => ?_, fun b => ?_⟩
      · rw [fN _ (by omega), ((fM w) _ _ (by omega)).1]; exact e.1
      · simp only [Nat.zero_add]
        rw [fN _ (by omega), fN _ (by omega), fN _ (by omega), fN _ (by omega)]
        by_cases hzx : z = x
        · subst hzx
          rw [zupd_eq, zupd_eq, zupd_eq, zupd_eq]
          refine ⟨z40 w, z340 w, z640 w, z940 w, ?_, ?_⟩
          · rw [hs1]
            by_cases hLy : L = y
            · rw [hLy, zupd_eq]; exact ex.2.2.2.2.1
            · rw [zupd_ne hLy]; exact eL.2.2.2.2.1
          · refine List.mem_map.mpr ⟨L, (hys _ L).mpr ⟨eL.2.2.2.2.2, by omega⟩, ?_⟩
            show (if L = L then z else L) = z
            rw [if_pos rfl]
        · have ez := e.2.1 z (by omega)
          simp only [Nat.zero_add] at ez
          rw [zupd_ne hzx, zupd_ne hzx, zupd_ne hzx, zupd_ne hzx]
          refine ⟨by rw [((fM w) _ _ (by omega)).1]; exact ez.1, by rw [((fM w) _ _ (by omega)).1]; exact ez.2.1, by rw [((fM w) _ _ (by omega)).1]; exact ez.2.2.1, ?_, ?_, ?_⟩
          · rw [hs1]
            by_cases hzy : z = y
            · rw [hzy, zupd_eq]; exact z940y w (by omega)
            · rw [zupd_ne hzy, ((fM w) _ _ (by omega)).1]; exact ez.2.2.2.1
          · rw [hs1]
            by_cases hzy : z = y
            · rw [hzy, zupd_eq]; exact ex.2.2.2.2.1
            · rw [zupd_ne hzy]; exact ez.2.2.2.2.1
          · refine List.mem_map.mpr ⟨z, (hys _ z).mpr ⟨ez.2.2.2.2.2, hzx⟩, ?_⟩
            simp only [ρ]
            rw [if_neg (by omega)]
      · obtain ⟨z0, hz0, rfl⟩ := List.mem_map.mp hz
        obtain ⟨hz1, hz2⟩ := (hys b z0).mp hz0
        have hz3 := e.2.2.1 b z0 hz1
        exact ⟨hzr z0 hz3.1 hz2, by rw [hρ z0 hz2 be _ rfl]; exact hz3.2⟩
      · show ((ys b).map ρ).Pairwise _
        rw [List.pairwise_map]
        have hp0 : (ys b).Pairwise (fun a b => s1 a < s1 b) := by
          by_cases hbb : b = zA_a A k
          · subst hbb; rw [hya]; exact hYp
          · rw [hyn b hbb]
            refine (e.2.2.2.1 b).imp_of_mem (fun {u v} h1 h2 huv => ?_)
            have n1 : u ≠ y := fun hh => hbb (by rw [hh] at h1; rw [← (e.2.2.1 b y h1).2, hy.2])
            have n2 : v ≠ y := fun hh => hbb (by rw [hh] at h2; rw [← (e.2.2.1 b y h2).2, hy.2])
            rw [hs1, zupd_ne n1, zupd_ne n2]; exact huv
        refine hp0.imp_of_mem (fun {u v} h1 h2 huv => ?_)
        rw [hρ u ((hys b u).mp h1).2 s1 _ rfl, hρ v ((hys b v).mp h2).2 s1 _ rfl]; exact huv
      · show zupd (zA_E A) (zA_a A k) (zdr (zA_E A (zA_a A k)) i) b = ((ys b).map ρ).map _
        rw [List.map_map]
        have hmp : (ys b).map ((fun e => (zupd ke x (ke L) e, zupd ve x (ve L) e)) ∘ ρ) = (ys b).map (fun e => (ke e, ve e)) := by
          apply List.map_congr_left
          intro z hz
          have hz2 := ((hys b z).mp hz).2
          show (zupd ke x (ke L) (ρ z), zupd ve x (ve L) (ρ z)) = (ke z, ve z)
          rw [hρ z hz2 ke _ rfl, hρ z hz2 ve _ rfl]
        rw [hmp]
        by_cases hbb : b = zA_a A k
        · subst hbb
          rw [zupd_eq, hya]
          show zdr (zA_E A (zA_a A k)) i = ((((xs (zA_a A k)).set i y).take ((xs (zA_a A k)).length - 1))).map _
          rw [List.map_take, List.map_set]
          unfold zdr
          rw [hel, e.2.2.2.2 (zA_a A k), List.getD_eq_getElem?_getD, List.getElem?_map, gy]
          rfl
        · rw [zupd_ne hbb, hyn b hbb]; exact e.2.2.2.2 b
    have hfin : ∀ Y : zzMem, zFr zpgS (Z (zA_wr A + (if ((zA_E A (zA_a A k)).length - 1) / zA_c A = i / zA_c A then nI 1 else nI 2))) Y → zMp Y 0 (zdrG A k) → zRc Y 0 C (zdrN A k i) := by
      generalize hw : zA_wr A + (if ((zA_E A (zA_a A k)).length - 1) / zA_c A = i / zA_c A then nI 1 else nI 2) = w
      intro Y fY hmp
      have fA : zFr (fun a j => a = 74 ∧ (j = 8 ∨ j = 9 ∨ j = 7 ∨ (40 ≤ j ∧ j < 1752))) M Y := ((fM w).weak (fun k i h => by omega)).trans (fY.weak (fun k i h => by unfold zpgS at h; omega))
      have fN : ∀ j, j < 1240 → Y.1 74 j = (Z w).1 74 j := fun j hj => (fY _ _ (by unfold zpgS; omega)).1
      refine ⟨⟨?_, ?_, ?_, ?_, ?_, ?_, ?_, ?_, ?_, ?_, ?_, ?_, ?_⟩, ?_, ⟨cm, fun b => (ys b).map ρ, zupd ke x (ke L), zupd ve x (ve L), zupd be x (be L), zupd s1 x (s1 L), hcm, ?_⟩, hmp, ?_⟩
      · rw [(fA _ _ (by omega)).1]; exact h.1.1
      · rw [(fA _ _ (by omega)).1]; exact h.1.2.1
      · rw [(fA _ _ (by omega)).1]; exact h.1.2.2.1
      · rw [(fA _ _ (by omega)).1]; exact h.1.2.2.2.1
      · rw [(fA _ _ (by omega)).1]; exact h.1.2.2.2.2.1
      · rw [(fA _ _ (by omega)).1]; exact h.1.2.2.2.2.2.1
      · rw [(fA _ _ (by omega)).1]; exact h.1.2.2.2.2.2.2.1
      · rw [hSl, fN _ (by omega)]; exact z7 w
      · rw [fN _ (by omega)]; exact z8 w
      · rw [fN _ (by omega)]; rw [show zA_wr (zdrN A k i) = w from hw]; exact z9 w
      · rw [(fA _ _ (by omega)).1]; exact h.1.2.2.2.2.2.2.2.2.2.2.1
      · rw [(fA _ _ (by omega)).1]; exact h.1.2.2.2.2.2.2.2.2.2.2.2.1
      · rw [(fA _ _ (by omega)).1]; exact h.1.2.2.2.2.2.2.2.2.2.2.2.2
      · exact h.2.1.frS hW.hok.2 fA (by intro i hi; omega)
      · rw [hSl]; exact hme Y w fY
      · exact h.2.2.2.2.frS fA (by intro i; omega)
    -- the pages
    have hdm := Nat.div_add_mod ((zA_E A (zA_a A k)).length - 1) (zA_c A)
    have hrm := Nat.mod_lt ((zA_E A (zA_a A k)).length - 1) (show zA_c A > 0 by omega)
    have hLenG : (zA_G A (zA_a A k)).length = zpgs (zA_c A) (zA_E A (zA_a A k)).length := hW.2.2.2.2.1 _ hab
    generalize hjd : ((zA_E A (zA_a A k)).length - 1) / zA_c A = j at hdm hfin
    generalize hrd : ((zA_E A (zA_a A k)).length - 1) % zA_c A = r at hdm hrm
    have hLg : (zA_G A (zA_a A k)).length = j + 1 := by
      rw [hLenG, show (zA_E A (zA_a A k)).length = zA_c A * j + (r + 1) by omega]
      by_cases hrc : r + 1 < zA_c A
      · rw [zpgs_cj (by omega) hrc, if_neg (by omega)]
      · rw [show zA_c A * j + (r + 1) = zA_c A * (j + 1) + 0 by rw [Nat.mul_add]; omega, zpgs_cj (by omega) (by omega), if_pos rfl]; omega
    have hpgs : zpgs (zA_c A) ((zA_E A (zA_a A k)).length - 1) = if r = 0 then max 1 j else j + 1 := by rw [← hdm]; exact zpgs_cj (by omega) hrm
    have hsame : (r ≠ 0 ∨ j = 0) → zdrG A k = zA_G A := fun hh => by
      unfold zdrG
      refine zupd_same ?_
      rw [hpgs, List.take_of_length_le]
      by_cases hr0 : r = 0
      · rw [if_pos hr0]; omega
      · rw [if_neg hr0]; omega
    have htail : ∀ w, w = zA_wr A + (if j = i / zA_c A then nI 1 else nI 2) → ∃ M', ((f_X10_chainOf (nI (zA_a A k)) (Z w)).bind (fun r7 => if r7 ≤ (nI 1) then (j_X10_drops_191 (nI (ve x)) (Z w)) else (zgd (¬ ((Z w).1 74 1) = 0) (if (zrm (nI (zA_E A (zA_a A k)).length - (nI 1)) ((Z w).1 74 1)) = 0 then ((f_X10_chainOf (nI (zA_a A k)) (Z w)).bind (fun r11 => (f_X10_freesPages (nI (zA_a A k)) (r11 - (nI 1)) (Z w)).bind (fun M12 => j_X10_drops_191 (nI (ve x)) M12))) else (j_X10_drops_191 (nI (ve x)) (Z w)))))) = some (nI (ve x), M') ∧ zRc M' 0 (C + 300) (zdrD A k i) ∧ zFr zmN M M' := by
      intro w hw
      subst hw
      have fzM : ∀ w, zFr zmN M (Z w) := fun w => (fM w).weak (fun k i h => by unfold zmN; omega)
      rw [zch, Option.bind_some, hLg, zc, zgd_t (nI_ne0 (by omega) (by omega)), nIsub (by omega), nIrem (by omega) (by omega) (by omega), hrd]
      have hnodrop : (r ≠ 0 ∨ j = 0) → ∃ M', j_X10_drops_191 (nI (ve x)) (Z (zA_wr A + (if j = i / zA_c A then nI 1 else nI 2))) = some (nI (ve x), M') ∧ zRc M' 0 (C + 300) (zdrD A k i) ∧ zFr zmN M M' := fun hh => by
        obtain ⟨M', d1, d2, d3⟩ := zjdu_m (v := nI (ve x)) hC hWN (hfin _ (zFr.refl _) (by rw [hsame hh]; exact zmp _))
        exact ⟨M', d1, d2, (fzM _).trans d3⟩
      by_cases hj0 : j = 0
      · rw [ifLe_t (by omega) (by omega)]
        exact hnodrop (Or.inr hj0)
      · rw [ifLe_f (by omega) (by omega)]
        by_cases hr0 : r = 0
        · rw [ifE0_t hr0]
          obtain ⟨M12, t1, t2, t3⟩ := mFrees (j := j + 1 - 1) (zmp (zA_wr A + (if j = i / zA_c A then nI 1 else nI 2))) hW.gok hb (by omega)
          have hGd : zdrG A k = zupd (zA_G A) (zA_a A k) ((zA_G A (zA_a A k)).take (j + 1 - 1)) := by
            unfold zdrG
            rw [hpgs, if_pos hr0, show max 1 j = j + 1 - 1 by omega]
          obtain ⟨M', d1, d2, d3⟩ := zjdu_m (v := nI (ve x)) hC hWN (hfin M12 t3 (by rw [hGd]; exact t2))
          refine ⟨M', ?_, d2, ((fzM _).trans (t3.weak (fun k i h => by unfold zmN; unfold zpgS at h; omega))).trans d3⟩
          rw [Option.bind_some, nIsub (by omega), t1, Option.bind_some]
          exact d1
        · rw [ifE0_f (by omega) (by omega)]
          exact hnodrop (Or.inl hr0)
    have hbx : M.1 74 (640 + x) = nI (zA_a A k) := by have := (e.2.1 x q1).2.2.1; rw [q4] at this; simpa using this
    have hvx : M.1 74 (340 + x) = nI (ve x) := by have := (e.2.1 x q1).2.1; simpa using this
    have hEy' : f_X10_entryAt (nI (zA_a A k)) (nI ((zA_E A (zA_a A k)).length - 1)) M = some (nI y) := by rw [hel]; exact hEy
    rw [← hel, hjd] at hr1
    have hjb : j ≤ 300 := by rw [← hjd]; exact Nat.le_trans (Nat.div_le_self _ _) (by omega)
    have hib : i / zA_c A ≤ i := Nat.div_le_self _ _
    have hsx : ∀ w, (zz_si M10 74 9 w).1 74 (940 + x) = nI (se x) := fun w => by rw [rd_ne (by omega)]; exact ex.2.2.2.1
    rw [q6]
    show ∃ M', _ = some (nI (ve x), M') ∧ zRc M' 0 (C + 300) (zdrD A k i) ∧ zFr zmN M M'
    simp (disch := omega) only [Option.bind_some, ifm1, nIadd, zgd_in, nIc, hbx, zbd, hkn, nIsub, hEy', hvx, hgn, g8, hM10, hr1, hr2, g910]
    unfold j_X10_drops_128
    simp (disch := omega) only [zgd_in, nIc, nIadd, zbd, hsx, hlv, Option.bind_some]
    by_cases hji : j = i / zA_c A
    · rw [ifEq_t (by omega)]
      exact htail _ (by rw [if_pos hji])
    · rw [ifEq_f (by omega) (by omega) (by omega)]
      exact htail _ (by rw [if_neg hji])
  · rw [q1, q3]
    have hz : zrds A k = (zA_G A (zA_a A k)).length := by unfold zrds; rw [q1]
    obtain ⟨M3, a1, a2⟩ := mFindReads (by omega) hW h hk
    have h3 : zRc M3 0 C A := h.frS hW a2 (by intro i; omega)
    have h4 := h3.rdc hW (r := zA_rd A + nI (zA_G A (zA_a A k)).length)
    refine ⟨zz_si M3 74 8 (zA_rd A + nI (zA_G A (zA_a A k)).length), ?_, h4.mono (by omega), (a2.weak (fun k i h => by unfold zmN; omega)).trans (zFr.si (by unfold zmN; omega))⟩
    simp (disch := omega) only [Option.bind_some, if_true, a1, zpr, zbd, g8, hz]
end MD
theorem op_drop (N : Nat) (a : Int32) : zSame N (f_X9_drop a) (f_X10_drop a) := by
  rcases keyC a with ⟨ha, k, hk, rfl⟩ | ha
  · refine zSame.tr (fun hN A hW => ⟨(zdrp A k).1, (zdrp A k).2, (zdrp_wf hW k).up, fun M h => ?_, fun M h => ?_⟩)
    · obtain ⟨M', e1, e2, e3⟩ := cDropK hW h hk
      refine ⟨M', ?_, e2, e3.weak (fun k i h => zcpS_c h)⟩
      unfold f_X9_drop
      simp only [ha, if_true, e1, Option.bind_some, zpr]
    · obtain ⟨M', e1, e2, e3⟩ := mDrops (by omega) hW h.rc hk
      refine ⟨M', ?_, e2.rm (by omega), e3.weak (fun _ _ h => zmN_S h)⟩
      unfold f_X10_drop
      simp only [isKey_eq, ha, if_true, e1, Option.bind_some, zpr]
  · refine zSame.tr (fun hN A hW => ⟨(-1 : Int32), A, hW.up, fun M h => ⟨M, ?_, h, zFr.refl M⟩, fun M h => ⟨M, ?_, h.up, zFr.refl M⟩⟩)
    · unfold f_X9_drop; simp only [ha, Bool.false_eq_true, if_false]
    · unfold f_X10_drop; simp only [isKey_eq, ha, Bool.false_eq_true, if_false]
