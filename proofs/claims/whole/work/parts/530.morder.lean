/-! ===== the reference's order ===== -/
noncomputable def zrk (A : zzA) (k : Nat) : Nat := zA_h A k % zA_n A * 65536 + zrev (zA_h A k / zA_n A)
theorem zcd_rk (A : zzA) (k : Nat) : zA_cd A k = zrk A k * 65536 + k := by
  unfold zA_cd zcod zrk
  omega
section OM
variable {N : Nat} {A : zzA}
theorem zrk_lt (hW : zWF N A) (k : Nat) : zrk A k < 262144 := by
  have hn : 1 ≤ zA_n A ∧ zA_n A ≤ 4 := ⟨hW.1.1, hW.1.2.1⟩
  have hm := Nat.mod_lt (zA_h A k) (show zA_n A > 0 by omega)
  have hr := zrev_lt (zA_h A k / zA_n A)
  unfold zrk
  omega
theorem isBeh (hW : zWF N A) {k k' : Nat} (hk : k < 65536) (hk' : k' < 65536) : f_X10_isBehind (nI (zrk A k)) (nI k) (nI (zrk A k')) (nI k') = decide (zA_cd A k' < zA_cd A k) := by
  have h1 := zrk_lt hW k
  have h2 := zrk_lt hW k'
  have e1 := zcd_rk A k
  have e2 := zcd_rk A k'
  unfold f_X10_isBehind
  by_cases hr : zrk A k = zrk A k'
  · rw [ifEq_t hr]
    by_cases hkk : k ≤ k'
    · rw [ifLe_t hkk (by omega), decide_eq_false (by omega)]
    · rw [ifLe_f (by omega) (by omega), decide_eq_true (by omega)]
  · rw [ifEq_f hr (by omega) (by omega)]
    by_cases hkk : zrk A k ≤ zrk A k'
    · rw [ifLe_t hkk (by omega), decide_eq_false (by omega)]
    · rw [ifLe_f (by omega) (by omega), decide_eq_true (by omega)]
theorem mRank {M : zzMem} {k : Nat} (hW : zWF N A) (h1 : zMi M 0 A) (h2 : zLm M 0 (zA_law A)) (hk : k < 65536) : ∃ M', f_X10_rankOf (nI k) M = some (nI (zrk A k), M') ∧ zFr (fun a _ => a = 78) M M' := by
  obtain ⟨M3, e1, e2⟩ := mHashOf h2 hW.hok hk
  have hn : 1 ≤ zA_n A ∧ zA_n A ≤ 4 := ⟨hW.1.1, hW.1.2.1⟩
  have hh : zhs (zA_law A) k < 65536 := zhs_lt hk hW.hok.1
  have h0 : M3.1 74 0 = nI (zA_n A) := by rw [(e2 _ _ (by omega)).1]; exact h1.1
  have hd : zhs (zA_law A) k / zA_n A ≤ zhs (zA_law A) k := Nat.div_le_self _ _
  refine ⟨M3, ?_, e2⟩
  unfold f_X10_rankOf
  simp only [e1, Option.bind_some, zpr, h0]
  rw [zgd_t (nI_ne0 (by omega) (by omega)), nIdiv (by omega) (by omega) (by omega), modRev _ (by omega)]
  simp only [Option.bind_some]
  rw [nIrem (by omega) (by omega) (by omega), nImul, nIadd]
  rfl
/-- the entries in order -/
theorem zsrt {M : zzMem} {cm : Nat} {xs : Nat → List Nat} {ke ve be se : Nat → Nat} (hW : zWF N A) (e : zMe M 0 (zA_S A).length cm (zA_E A) xs ke ve be se) : ∃ X : List Nat, X.map ke = zA_S A ∧ (∀ x, x ∈ X ↔ x < (zA_S A).length) ∧ X.Pairwise (fun a b => zA_cd A (ke a) < zA_cd A (ke b)) := by
  classical
  have hex : ∀ k, ∃ x, k ∈ zA_S A → x < (zA_S A).length ∧ ke x = k := fun k => by
    by_cases hk : k ∈ zA_S A
    · obtain ⟨x, h1, h2⟩ := (e.mem hW k).mp hk
      exact ⟨x, fun _ => ⟨h1, h2⟩⟩
    · exact ⟨0, fun h => absurd h hk⟩
  let ix : Nat → Nat := fun k => Classical.choose (hex k)
  have hix : ∀ k, k ∈ zA_S A → ix k < (zA_S A).length ∧ ke (ix k) = k := fun k => Classical.choose_spec (hex k)
  have hmap : ((zA_S A).map ix).map ke = zA_S A := by
    rw [List.map_map]
    have : (zA_S A).map (ke ∘ ix) = (zA_S A).map id := List.map_congr_left (fun k hk => (hix k hk).2)
    rw [this, List.map_id]
  refine ⟨(zA_S A).map ix, hmap, fun x => ⟨fun hx => ?_, fun hx => ?_⟩, ?_⟩
  · obtain ⟨k, hk, rfl⟩ := List.mem_map.mp hx
    exact (hix k hk).1
  · have hk : ke x ∈ zA_S A := (e.mem hW _).mpr ⟨x, hx, rfl⟩
    refine List.mem_map.mpr ⟨ke x, hk, ?_⟩
    exact e.inj hW (hix _ hk).1 hx (hix _ hk).2
  · have := hW.pw
    rw [← hmap, List.pairwise_map] at this
    exact this
set_option maxHeartbeats 4000000 in
theorem mOrders {M : zzMem} {cm : Nat} {xs : Nat → List Nat} {ke ve be se : Nat → Nat} {X : List Nat} (hW : zWF N A) (h1 : zMi M 0 A) (h2 : zLm M 0 (zA_law A)) (e : zMe M 0 (zA_S A).length cm (zA_E A) xs ke ve be se) (hX1 : X.map ke = zA_S A) (hX2 : ∀ x, x ∈ X ↔ x < (zA_S A).length) (hX3 : X.Pairwise (fun a b => zA_cd A (ke a) < zA_cd A (ke b))) : ∃ M', f_X10_orders M = some M' ∧ (∀ i x, X[i]? = some x → M'.1 84 i = nI x) ∧ zFr (fun a _ => a = 78 ∨ a = 84 ∨ a = 85) M M' := by
  have hm3 : (zA_S A).length ≤ 300 := hW.2.2.2.2.2.2.2.2.1.1
  have hm : M.1 74 7 = nI (zA_S A).length := by have := h1.2.2.2.2.2.2.2.1; simpa using this
  have hkey : ∀ x, x < (zA_S A).length → ke x < 65536 := fun x hx => hW.key ((e.mem hW _).mpr ⟨x, hx, rfl⟩)
  have hke : ∀ x, x < (zA_S A).length → M.1 74 (40 + x) = nI (ke x) := fun x hx => by have := (e.2.1 x hx).1; simpa using this
  have hXn : X.Nodup := hX3.imp (fun {a b} hab hh => by rw [hh] at hab; omega)
  have hXt : ∀ t, t ≤ (zA_S A).length → (X.filter (fun x => decide (x < t))).length = t := fun t ht => by
    have := zcnt_list (p := fun _ => true) (n := t) (l := X.filter (fun x => decide (x < t))) (hXn.sublist List.filter_sublist) (fun x => by
      rw [List.mem_filter, hX2]
      simp
      omega)
    rw [← this, zcnt_all t (fun _ _ => rfl)]
  generalize hmd : (zA_S A).length = m at *
  -- the second loop
  have hloop2 : ∀ Y, zFr (fun a _ => a = 78 ∨ a = 84 ∨ a = 85) M Y → (∀ x, x < m → Y.1 85 x = nI (zrk A (ke x))) → ∃ r, j_X10_orders_40 (nI 0) Y = some r ∧ (∀ i x, X[i]? = some x → r.1 84 i = nI x) ∧ zFr (fun a _ => a = 78 ∨ a = 84 ∨ a = 85) M r := by
    intro Y fY hY
    unfold j_X10_orders_40
    refine zlp_forI (B := fun s : (Int32 × zzMem) => b_X10_orders_40 s.1 s.2) (fun t Z => (nI t, Z)) (fun t Z => (∀ i x, (X.filter (fun x => decide (x < t)))[i]? = some x → Z.1 84 i = nI x) ∧ zFr (fun a _ => a = 84) Y Z) m (fun r => (∀ i x, X[i]? = some x → r.1 84 i = nI x) ∧ zFr (fun a _ => a = 78 ∨ a = 84 ∨ a = 85) M r) (fun t ht Z hZ => ?_) (fun Z hZ => ?_) 0 (by omega) Y ⟨?_, zFr.refl Y⟩
    · obtain ⟨z1, z2⟩ := hZ
      have fZ : zFr (fun a _ => a = 78 ∨ a = 84 ∨ a = 85) M Z := fY.trans (z2.weak (fun k i h => by omega))
      have hmZ : Z.1 74 7 = nI m := by rw [(fZ _ _ (by omega)).1]; exact hm
      obtain ⟨F1, F2, k1, k2, k3, k4⟩ := zins_in (f := fun x => zA_cd A (ke x)) hX3 ((hX2 t).mpr ht)
      have l0 := hXt t (by omega)
      rw [k1] at z1 l0
      rw [List.length_append] at l0
      have hS := zshift (B := fun s : (Int32 × zzMem) => b_X10_orders_53 (nI t) s.1 s.2) (k := 84) (F1 := F1) (F2 := F2) (M := Z) (fun r => ∃ W, r = .inl (nI (t + 1), W) ∧ (∀ i x, (F1 ++ t :: F2)[i]? = some x → W.1 84 i = nI x) ∧ zFr (fun a _ => a = 84) Y W) (fun a y V v1 v2 v3 v4 v5 => ?_) (fun V v1 v2 v3 => ?_) z1
      · obtain ⟨r, r1, W, rfl, w1, w2⟩ := hS
        refine ⟨W, ?_, by rw [k2]; exact w1, w2⟩
        rw [l0] at r1
        show b_X10_orders_40 (nI t) Z = _
        unfold b_X10_orders_40 j_X10_orders_53
        simp (disch := omega) only [hmZ, ifLe_f]
        exact r1
      · have hy := k4 y v4
        have hym := (hX2 y).mp hy.2
        have fV : zFr (fun a _ => a = 84) Y V := z2.trans v3
        have fVM : zFr (fun a _ => a = 78 ∨ a = 84 ∨ a = 85) M V := fY.trans (fV.weak (fun k i h => by omega))
        have r1 : V.1 85 y = nI (zrk A (ke y)) := by rw [(fV _ _ (by omega)).1]; exact hY y hym
        have r2 : V.1 85 t = nI (zrk A (ke t)) := by rw [(fV _ _ (by omega)).1]; exact hY t ht
        have c1 : V.1 74 (40 + y) = nI (ke y) := by rw [(fVM _ _ (by omega)).1]; exact hke y hym
        have c2 : V.1 74 (40 + t) = nI (ke t) := by rw [(fVM _ _ (by omega)).1]; exact hke t ht
        show b_X10_orders_53 (nI t) (nI a) V = _
        unfold b_X10_orders_53
        simp (disch := omega) only [ifLe0_f, nIsub, zgd_in, nIc, v5, nIadd, r1, r2, c1, c2]
        rw [isBeh hW (hkey y hym) (hkey t ht), decide_eq_true hy.1]
        simp (disch := omega) only [if_true, zbd]
      · have fV : zFr (fun a _ => a = 84) Y V := z2.trans v1
        have fVM : zFr (fun a _ => a = 78 ∨ a = 84 ∨ a = 85) M V := fY.trans (fV.weak (fun k i h => by omega))
        have hfin : j_X10_orders_129 (nI t) (nI F1.length) V = some (.inl (nI (t + 1), zz_si V 84 F1.length (nI t))) := by
          unfold j_X10_orders_129
          simp (disch := omega) only [zgd_in, nIc, zbd, nIadd]
        refine ⟨.inl (nI (t + 1), zz_si V 84 F1.length (nI t)), ?_, _, rfl, fun i x hx => zins_arr v2 v3 i x hx, fV.trans (zFr.si rfl)⟩
        show b_X10_orders_53 (nI t) (nI F1.length) V = _
        unfold b_X10_orders_53
        by_cases h0 : F1.length = 0
        · simp (disch := omega) only [ifLe0_t]
          rw [hfin]; rfl
        · have hl1 : F1.length - 1 < F1.length := by omega
          have hg := List.getElem?_eq_getElem hl1
          have hy := k3 _ (List.getElem_mem hl1)
          have hv := v2 _ _ hg
          generalize F1[F1.length - 1]'hl1 = y at hg hy hv
          have hym := (hX2 y).mp hy.2
          have r1 : V.1 85 y = nI (zrk A (ke y)) := by rw [(fV _ _ (by omega)).1]; exact hY y hym
          have r2 : V.1 85 t = nI (zrk A (ke t)) := by rw [(fV _ _ (by omega)).1]; exact hY t ht
          have c1 : V.1 74 (40 + y) = nI (ke y) := by rw [(fVM _ _ (by omega)).1]; exact hke y hym
          have c2 : V.1 74 (40 + t) = nI (ke t) := by rw [(fVM _ _ (by omega)).1]; exact hke t ht
          have hlt : zA_cd A (ke y) < zA_cd A (ke t) := hy.1
          simp (disch := omega) only [ifLe0_f, nIsub, zgd_in, nIc, hv, nIadd, r1, r2, c1, c2]
          rw [isBeh hW (hkey y hym) (hkey t ht), decide_eq_false (by omega), if_neg (by decide), hfin]; rfl
    · obtain ⟨z1, z2⟩ := hZ
      have fZ : zFr (fun a _ => a = 78 ∨ a = 84 ∨ a = 85) M Z := fY.trans (z2.weak (fun k i h => by omega))
      have hmZ : Z.1 74 7 = nI m := by rw [(fZ _ _ (by omega)).1]; exact hm
      have hall : X.filter (fun x => decide (x < m)) = X := List.filter_eq_self.mpr (fun x hx => by have := (hX2 x).mp hx; simpa using this)
      rw [hall] at z1
      refine ⟨Z, ?_, z1, fZ⟩
      show b_X10_orders_40 (nI m) Z = _
      unfold b_X10_orders_40
      simp (disch := omega) only [hmZ, ifLe_t]
    · rw [List.filter_eq_nil_iff.mpr (fun x _ => by simp)]
      intro i x hx; simp at hx
  unfold f_X10_orders j_X10_orders_2
  refine zlp_forI (B := fun s : (Int32 × zzMem) => b_X10_orders_2 s.1 s.2) (fun t Z => (nI t, Z)) (fun t Z => zFr (fun a _ => a = 78 ∨ a = 85) M Z ∧ ∀ x, x < t → Z.1 85 x = nI (zrk A (ke x))) m (fun r => (∀ i x, X[i]? = some x → r.1 84 i = nI x) ∧ zFr (fun a _ => a = 78 ∨ a = 84 ∨ a = 85) M r) (fun t ht Z hZ => ?_) (fun Z hZ => ?_) 0 (by omega) M ⟨zFr.refl M, fun x hx => by omega⟩
  · obtain ⟨z1, z2⟩ := hZ
    have hmZ : Z.1 74 7 = nI m := by rw [(z1 _ _ (by omega)).1]; exact hm
    have hmi : zMi Z 0 A := h1.frS z1 (by intro i hi; omega)
    have hlm : zLm Z 0 (zA_law A) := h2.frS hW.hok.2 z1 (by intro i hi; omega)
    obtain ⟨Z5, r1, r2⟩ := mRank hW hmi hlm (hkey t ht)
    have c1 : Z.1 74 (40 + t) = nI (ke t) := by rw [(z1 _ _ (by omega)).1]; exact hke t ht
    refine ⟨zz_si Z5 85 t (nI (zrk A (ke t))), ?_, (z1.trans (r2.weak (fun k i h => Or.inl h))).trans (zFr.si (Or.inr rfl)), fun x hx => ?_⟩
    · show b_X10_orders_2 (nI t) Z = _
      unfold b_X10_orders_2
      simp (disch := omega) only [hmZ, ifLe_f, nIadd, zgd_in, nIc, c1, r1, Option.bind_some, zpr, zbd]
    · by_cases hxt : x = t
      · rw [hxt, rd_eq]
      · rw [rd_ne (by omega), (r2 _ _ (by omega)).1]; exact z2 x (by omega)
  · obtain ⟨z1, z2⟩ := hZ
    have hmZ : Z.1 74 7 = nI m := by rw [(z1 _ _ (by omega)).1]; exact hm
    obtain ⟨r, r1, r2⟩ := hloop2 Z (z1.weak (fun k i h => by omega)) z2
    refine ⟨r, ?_, r2⟩
    show b_X10_orders_2 (nI m) Z = _
    unfold b_X10_orders_2
    simp (disch := omega) only [hmZ, ifLe_t]
    rw [r1]; rfl
end OM
theorem op_inOrder (N : Nat) (a : Int32) : zSame N (zR (f_X9_inOrder a)) (f_X10_inOrder a) := by
  refine zSame.ss (fun hN tp A M h1 h2 h3 h4 h5 => ?_)
  have hlen := h2.2.2.2.2.2.2.2.2.1.1
  have hs : M.1 27 1 = nI (zA_S A).length := h3.2.2.2.1.1
  unfold f_X9_inOrder f_X10_inOrder
  by_cases h0 : 0 ≤ a
  · have ha : ¬ a < 0 := Int32.not_lt.mpr h0
    obtain ⟨i, hi, rfl⟩ := nI_of ha
    by_cases hl : i < (zA_S A).length
    · refine ⟨nI ((zA_S A).getD i 0), ⟨M, ?_, zFr.refl M⟩, fun M1 hf => ?_⟩
      · simp only [zR]
        rw [if_pos h0, hs, ifLe_f hl (by omega), cKeyAt (o := 27) h2 h3.2.2.2.1 hl]; rfl
      · have h4' := h4.fr (Or.inl rfl) h2 hf
        obtain ⟨cm, xs, ke, ve, be, se, hcm, e, hm, hm3, hx, hc1⟩ := h4'.rc.fx h2
        obtain ⟨X, x1, x2, x3⟩ := zsrt h2 e
        obtain ⟨M3, o1, o2, o3⟩ := mOrders h2 h4'.1 h4'.2.1 e x1 x2 x3
        have hXl : X.length = (zA_S A).length := by rw [← x1, List.length_map]
        have hg := List.getElem?_eq_getElem (show i < X.length by omega)
        generalize X[i]'(by omega) = x at hg
        have hxm := (x2 x).mp (List.mem_of_getElem? hg)
        have hk : (zA_S A).getD i 0 = ke x := by rw [List.getD_eq_getElem?_getD, ← x1, List.getElem?_map, hg]; rfl
        have hv := o2 i x hg
        have hke : M3.1 74 (40 + x) = nI (ke x) := by rw [(o3 _ _ (by omega)).1]; have := (e.2.1 x hxm).1; simpa using this
        refine ⟨M3, ?_, o3.weak (fun k i h => by unfold zScr; omega)⟩
        rw [if_pos h0, hm, ifLt_t hl (by omega), o1, hk]
        simp (disch := omega) only [Option.bind_some, zgd_in, nIc, hv, nIadd, hke]
    · refine ⟨(-4 : Int32), ⟨M, ?_, zFr.refl M⟩, fun M1 hf => ⟨M1, ?_, zFr.refl M1⟩⟩
      · simp only [zR]
        rw [if_pos h0, hs, ifLe_t (by omega) (by omega)]; rfl
      · have h4' := h4.fr (Or.inl rfl) h2 hf
        have hm : M1.1 74 7 = nI (zA_S A).length := by have := h4'.1.2.2.2.2.2.2.2.1; simpa using this
        rw [if_pos h0, hm, ifLt_f (by omega) (by omega)]
  · refine ⟨(-1 : Int32), ⟨M, ?_, zFr.refl M⟩, fun M1 hf => ⟨M1, ?_, zFr.refl M1⟩⟩
    · simp only [zR]
      rw [if_neg h0]; rfl
    · rw [if_neg h0]
