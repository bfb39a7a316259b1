noncomputable def b_X9_chains_26 (v1 : Int32) (v2 : Int32) (v3 : Int32) (v4 : Int32) (M : zzMem) : Option ((Int32 × Int32) ⊕ Int32) :=
  if v3 ≤ v4 then
  (some ((.inr v2)))
  else (zgd (vp_in v4 64) (
  if (M.1 25 (v4).toNatClampNeg) = v1 then
  (zbd (v2 + (nI 1)) (fun x5 =>
  zbd (v4 + (nI 1)) (fun x6 =>
  some (.inl (x5, x6)))))
  else (zbd (v4 + (nI 1)) (fun x4 =>
  some (.inl (v2, x4))))))
set_option maxHeartbeats 4000000 in
set_option maxRecDepth 100000 in
theorem x_X9_chains_26 {G : zzG} {t : Nat} {Q : Option Value → zzMem → Prop} (v1 : Int32) (v2 : Int32) (v3 : Int32) (v4 : Int32) (M : zzMem) (ht : 180 ≤ t)  {P : ((Int32 × Int32) ⊕ Int32) → Prop} (h : zK (b_X9_chains_26 v1 v2 v3 v4 M) P) (k26 : ∀ s : (Int32 × Int32), P (.inl s) → zz_W G m_X9_chains t t t 26 [some (.ref 0), some (.int v1), some (.int s.1), some (.int v3), some (.int s.2)] [] M Q) (kR : ∀ r : Int32, P (.inr r) → Q (some (.int r)) M) : zz_W G m_X9_chains t t t 26 [some (.ref 0), some (.int v1), some (.int v2), some (.int v3), some (.int v4)] [] M Q := by
  unfold b_X9_chains_26 at h
  refine r_iload dX9_chains_26 rfl ?_
  refine r_iload_n dX9_chains_28 rfl ?_
  refine r_icmp_ge 58 dX9_chains_29 (by decide) (fun c1 => ?_) (fun c1 => ?_)
  · have h := zK_pos h c1
    refine r_iload_n dX9_chains_58 rfl ?_
    exact r_iret dX9_chains_59 rfl rfl rfl (kR (v2) (zK_some h))
  · have h := zK_neg h c1
    refine r_aload_n dX9_chains_32 rfl ?_
    refine r_getR (k := 0) (q := 12) dX9_chains_33 zf_X9_33 (zo_X9 (zs_X9 ht)) (zr_X9_3 (zs_X9 ht)).1 (zr_X9_3 (zs_X9 ht)).2.1 (zr_X9_3 (zs_X9 ht)).2.2 ?_
    refine r_getR (k := 12) (q := 16) dX9_chains_36 zf_X9_156 (zo_X2 (zc_X9_3 (zs_X9 ht))) (zr_X2_1 (zc_X9_3 (zs_X9 ht))).1 (zr_X2_1 (zc_X9_3 (zs_X9 ht))).2.1 (zr_X2_1 (zc_X9_3 (zs_X9 ht))).2.2 ?_
    refine r_getR (k := 16) (q := 25) dX9_chains_39 zf_X9_240 (zo_X0 (zc_X2_1 (zc_X9_3 (zs_X9 ht)))) (zr_X0_8 (zc_X2_1 (zc_X9_3 (zs_X9 ht)))).1 (zr_X0_8 (zc_X2_1 (zc_X9_3 (zs_X9 ht)))).2.1 (zr_X0_8 (zc_X2_1 (zc_X9_3 (zs_X9 ht)))).2.2 ?_
    refine r_iload dX9_chains_42 rfl ?_
    obtain ⟨g2, h⟩ := zK_gd h
    refine r_iald dX9_chains_44 (za_X0_8 (zc_X2_1 (zc_X9_3 (zs_X9 ht)))) g2 ?_
    refine r_iload_n dX9_chains_45 rfl ?_
    refine r_icmp_ne 52 dX9_chains_46 (by decide) (fun c3 => ?_) (fun c3 => ?_)
    · have h := zK_neg h c3
      refine r_iinc (nI 1) (fun x4 => [some (.ref 0), some (.int v1), some (.int v2), some (.int v3), some (.int x4)]) dX9_chains_52 rfl (by decide) (by decide) rfl (fun _ => rfl) (fun x4 ex4 => ?_)
      have h := zK_bd h ex4
      refine r_goto 26 dX9_chains_55 (by decide) ?_
      exact k26 ((v2, x4)) (zK_some h)
    · have h := zK_pos h c3
      refine r_iinc (nI 1) (fun x5 => [some (.ref 0), some (.int v1), some (.int x5), some (.int v3), some (.int v4)]) dX9_chains_49 rfl (by decide) (by decide) rfl (fun _ => rfl) (fun x5 ex5 => ?_)
      have h := zK_bd h ex5
      refine r_iinc (nI 1) (fun x6 => [some (.ref 0), some (.int v1), some (.int x5), some (.int v3), some (.int x6)]) dX9_chains_52 rfl (by decide) (by decide) rfl (fun _ => rfl) (fun x6 ex6 => ?_)
      have h := zK_bd h ex6
      refine r_goto 26 dX9_chains_55 (by decide) ?_
      exact k26 ((x5, x6)) (zK_some h)
noncomputable def j_X9_chains_26 (v1 : Int32) (v2 : Int32) (v3 : Int32) (v4 : Int32) (M : zzMem) : Option Int32 :=
  zlp (fun s : (Int32 × Int32) => b_X9_chains_26 v1 s.1 v3 s.2 M) (v2, v4)
set_option maxHeartbeats 4000000 in
set_option maxRecDepth 100000 in
theorem w_X9_chains_26 {G : zzG} {t : Nat} {Q : Option Value → zzMem → Prop} (v1 : Int32) (v2 : Int32) (v3 : Int32) (v4 : Int32) (M : zzMem) (ht : 180 ≤ t)  {P : Int32 → Prop} (h : zK (j_X9_chains_26 v1 v2 v3 v4 M) P) (kR : ∀ r : Int32, P r → Q (some (.int r)) M) : zz_W G m_X9_chains t t t 26 [some (.ref 0), some (.int v1), some (.int v2), some (.int v3), some (.int v4)] [] M Q := by
  unfold j_X9_chains_26 at h
  exact zK_lp h (fun s : (Int32 × Int32) => zz_W G m_X9_chains t t t 26 [some (.ref 0), some (.int v1), some (.int s.1), some (.int v3), some (.int s.2)] [] M Q) (fun s h => x_X9_chains_26 v1 s.1 v3 s.2 M ht h (fun s p => p) kR)
noncomputable def f_X9_chains (a1 : Int32) (M : zzMem) : Option Int32 :=
  if (f_X9_within a1 (nI 1) (nI 150)) = true then
  (zbd ((f_X2_buckets 12 M)) (fun x2 =>
  j_X9_chains_26 a1 (nI 0) x2 (nI 0) M))
  else (some ((-1 : Int32)))
set_option maxHeartbeats 4000000 in
set_option maxRecDepth 100000 in
theorem w_X9_chains_0 {G : zzG} {t : Nat} {Q : Option Value → zzMem → Prop} (a1 : Int32) (M : zzMem) (ht : 180 ≤ t)  {P : Int32 → Prop} (h : zK (f_X9_chains a1 M) P) (kR : ∀ r : Int32, P r → Q (some (.int r)) M) : zz_W G m_X9_chains t t t 0 [some (.ref 0), some (.int a1), none, none, none] [] M Q := by
  unfold f_X9_chains at h
  refine r_iload_n dX9_chains_0 rfl ?_
  refine r_iconst (v := (nI 1)) dX9_chains_1 (by decide) ?_
  refine r_sipush (v := (nI 150)) dX9_chains_2 (by decide) ?_
  refine tS_zr (v := f_X9_within a1 (nI 1) (nI 150)) (as := [.int a1, .int (nI 1), .int (nI 150)]) (st := []) dX9_chains_5 zM_X9_within zk_X9_63 ⟨Nat.le_of_ble_eq_true rfl, Nat.le_of_ble_eq_true rfl⟩ (Nat.le_of_ble_eq_true rfl) (zz_T0 rfl rfl) (fun Q' h => c_X9_within (a1) ((nI 1)) ((nI 150)) M h) ?_
  refine r_ifZ_ne 13 dX9_chains_8 (by decide) (fun c1 => ?_) (fun c1 => ?_)
  · have h := zK_pos h c1
    refine r_iconst (v := (nI 0)) dX9_chains_13 (by decide) ?_
    refine s_istore_n ([some (.ref 0), some (.int a1), some (.int (nI 0)), none, none]) dX9_chains_14 (by decide) rfl rfl ?_
    refine r_aload_n dX9_chains_15 rfl ?_
    refine r_getR (k := 0) (q := 12) dX9_chains_16 zf_X9_33 (zo_X9 (zs_X9 ht)) (zr_X9_3 (zs_X9 ht)).1 (zr_X9_3 (zs_X9 ht)).2.1 (zr_X9_3 (zs_X9 ht)).2.2 ?_
    refine tV_ir (v := f_X2_buckets 12 M) (as := []) (st := []) (k := 12) dX9_chains_19 zM_X2_buckets zk_X9_180 (zo_X2 (zc_X9_3 (zs_X9 ht))) (by decide) rfl ⟨Nat.le_of_ble_eq_true rfl, Nat.le_of_ble_eq_true rfl⟩ (Nat.le_of_ble_eq_true rfl) (zz_T0 rfl rfl) (fun Q' h => c_X2_buckets (12) M (zc_X9_3 (zs_X9 ht)) h) ?_
    refine r_istore_n (fun x2 => [some (.ref 0), some (.int a1), some (.int (nI 0)), some (.int x2), none]) dX9_chains_22 (by decide) rfl (fun _ => rfl) (fun x2 ex2 => ?_)
    have h := zK_bd h ex2
    refine r_iconst (v := (nI 0)) dX9_chains_23 (by decide) ?_
    refine s_istore ([some (.ref 0), some (.int a1), some (.int (nI 0)), some (.int x2), some (.int (nI 0))]) dX9_chains_24 (by decide) rfl rfl ?_
    exact w_X9_chains_26 (a1) ((nI 0)) (x2) ((nI 0)) M ht h kR
  · have h := zK_neg h c1
    refine r_iconst (v := (-1 : Int32)) dX9_chains_11 (by decide) ?_
    exact r_iret dX9_chains_12 rfl rfl rfl (kR ((-1 : Int32)) (zK_some h))
set_option maxHeartbeats 4000000 in
set_option maxRecDepth 100000 in
theorem c_X9_chains {G : zzG} {t : Nat} {Q : Option Value → zzMem → Prop} (a1 : Int32) (M : zzMem) (ht : 180 ≤ t)  {P : Int32 → Prop} (h : zK (f_X9_chains a1 M) P) (kR : ∀ r : Int32, P r → Q (some (.int r)) M) : zz_S G m_X9_chains t t [.ref 0, .int a1] M Q :=
  zz_S_of (by decide) (by decide) (Nat.le_of_ble_eq_true rfl) (w_X9_chains_0 a1 M ht h kR)
noncomputable def f_X9_finds (a1 : Int32) (M : zzMem) : Option Int32 :=
  if a1 = (nI 0) then
  ((f_X0_allReads 16 M).bind (fun r2 =>
  some r2))
  else if a1 = (nI 1) then
  ((f_X0_mostReads 16 M).bind (fun r4 =>
  some r4))
  else if a1 = (nI 2) then
  ((f_X0_usedPages 16 M).bind (fun r6 =>
  some r6))
  else (some ((-1 : Int32)))
set_option maxHeartbeats 4000000 in
set_option maxRecDepth 100000 in
theorem w_X9_finds_0 {G : zzG} {t : Nat} {Q : Option Value → zzMem → Prop} (a1 : Int32) (M : zzMem) (ht : 180 ≤ t)  {P : Int32 → Prop} (h : zK (f_X9_finds a1 M) P) (kR : ∀ r : Int32, P r → Q (some (.int r)) M) : zz_W G m_X9_finds t t t 0 [some (.ref 0), some (.int a1)] [] M Q := by
  unfold f_X9_finds at h
  refine r_iload_n dX9_finds_0 rfl ?_
  by_cases c1 : a1 = (nI 0)
  · have h := zK_pos h c1
    refine r_tabIn (off := 27) 28 dX9_finds_1 (by rw [c1]; first | done | decide) (by rw [c1]; first | done | decide) (by rw [c1]; first | done | decide) (by decide) ?_
    refine r_aload_n dX9_finds_28 rfl ?_
    refine r_getR (k := 0) (q := 12) dX9_finds_29 zf_X9_33 (zo_X9 (zs_X9 ht)) (zr_X9_3 (zs_X9 ht)).1 (zr_X9_3 (zs_X9 ht)).2.1 (zr_X9_3 (zs_X9 ht)).2.2 ?_
    refine r_getR (k := 12) (q := 16) dX9_finds_32 zf_X9_156 (zo_X2 (zc_X9_3 (zs_X9 ht))) (zr_X2_1 (zc_X9_3 (zs_X9 ht))).1 (zr_X2_1 (zc_X9_3 (zs_X9 ht))).2.1 (zr_X2_1 (zc_X9_3 (zs_X9 ht))).2.2 ?_
    refine kV_ir (as := []) (st := []) (k := 16) dX9_finds_35 zM_X0_allReads zk_X9_262 (zo_X0 (zc_X2_1 (zc_X9_3 (zs_X9 ht)))) (by decide) rfl ⟨Nat.le_of_ble_eq_true rfl, Nat.le_of_ble_eq_true rfl⟩ (Nat.le_of_ble_eq_true rfl) (zz_T0 rfl rfl) (fun Q' P' k h => c_X0_allReads (16) M (zc_X2_1 (zc_X9_3 (zs_X9 ht))) h k) h (fun r2 h => ?_)
    exact r_iret dX9_finds_38 rfl rfl rfl (kR (r2) (zK_some h))
  · have h := zK_neg h c1
    by_cases c3 : a1 = (nI 1)
    · have h := zK_pos h c3
      refine r_tabIn (off := 38) 39 dX9_finds_1 (by rw [c3]; first | done | decide) (by rw [c3]; first | done | decide) (by rw [c3]; first | done | decide) (by decide) ?_
      refine r_aload_n dX9_finds_39 rfl ?_
      refine r_getR (k := 0) (q := 12) dX9_finds_40 zf_X9_33 (zo_X9 (zs_X9 ht)) (zr_X9_3 (zs_X9 ht)).1 (zr_X9_3 (zs_X9 ht)).2.1 (zr_X9_3 (zs_X9 ht)).2.2 ?_
      refine r_getR (k := 12) (q := 16) dX9_finds_43 zf_X9_156 (zo_X2 (zc_X9_3 (zs_X9 ht))) (zr_X2_1 (zc_X9_3 (zs_X9 ht))).1 (zr_X2_1 (zc_X9_3 (zs_X9 ht))).2.1 (zr_X2_1 (zc_X9_3 (zs_X9 ht))).2.2 ?_
      refine kV_ir (as := []) (st := []) (k := 16) dX9_finds_46 zM_X0_mostReads zk_X9_265 (zo_X0 (zc_X2_1 (zc_X9_3 (zs_X9 ht)))) (by decide) rfl ⟨Nat.le_of_ble_eq_true rfl, Nat.le_of_ble_eq_true rfl⟩ (Nat.le_of_ble_eq_true rfl) (zz_T0 rfl rfl) (fun Q' P' k h => c_X0_mostReads (16) M (zc_X2_1 (zc_X9_3 (zs_X9 ht))) h k) h (fun r4 h => ?_)
      exact r_iret dX9_finds_49 rfl rfl rfl (kR (r4) (zK_some h))
    · have h := zK_neg h c3
      by_cases c5 : a1 = (nI 2)
      · have h := zK_pos h c5
        refine r_tabIn (off := 49) 50 dX9_finds_1 (by rw [c5]; first | done | decide) (by rw [c5]; first | done | decide) (by rw [c5]; first | done | decide) (by decide) ?_
        refine r_aload_n dX9_finds_50 rfl ?_
        refine r_getR (k := 0) (q := 12) dX9_finds_51 zf_X9_33 (zo_X9 (zs_X9 ht)) (zr_X9_3 (zs_X9 ht)).1 (zr_X9_3 (zs_X9 ht)).2.1 (zr_X9_3 (zs_X9 ht)).2.2 ?_
        refine r_getR (k := 12) (q := 16) dX9_finds_54 zf_X9_156 (zo_X2 (zc_X9_3 (zs_X9 ht))) (zr_X2_1 (zc_X9_3 (zs_X9 ht))).1 (zr_X2_1 (zc_X9_3 (zs_X9 ht))).2.1 (zr_X2_1 (zc_X9_3 (zs_X9 ht))).2.2 ?_
        refine kV_ir (as := []) (st := []) (k := 16) dX9_finds_57 zM_X0_usedPages zk_X9_183 (zo_X0 (zc_X2_1 (zc_X9_3 (zs_X9 ht)))) (by decide) rfl ⟨Nat.le_of_ble_eq_true rfl, Nat.le_of_ble_eq_true rfl⟩ (Nat.le_of_ble_eq_true rfl) (zz_T0 rfl rfl) (fun Q' P' k h => c_X0_usedPages (16) M (zc_X2_1 (zc_X9_3 (zs_X9 ht))) h k) h (fun r6 h => ?_)
        exact r_iret dX9_finds_60 rfl rfl rfl (kR (r6) (zK_some h))
      · have h := zK_neg h c5
        have hD : zz_W G m_X9_finds t t t 61 [some (.ref 0), some (.int a1)] [] M Q := by
          refine r_iconst (v := (-1 : Int32)) dX9_finds_61 (by decide) ?_
          exact r_iret dX9_finds_62 rfl rfl rfl (kR ((-1 : Int32)) (zK_some h))
        refine r_tabOut 61 dX9_finds_1 (zz_tab_out (n := 3) (fun i hi => ?_) (by decide)) (by decide) hD
        exact match i, hi with
        | 0, _ => fun e => c1 (e.trans (by decide))
        | 1, _ => fun e => c3 (e.trans (by decide))
        | 2, _ => fun e => c5 (e.trans (by decide))
        | k + 3, hk => absurd hk (by omega)
set_option maxHeartbeats 4000000 in
set_option maxRecDepth 100000 in
theorem c_X9_finds {G : zzG} {t : Nat} {Q : Option Value → zzMem → Prop} (a1 : Int32) (M : zzMem) (ht : 180 ≤ t)  {P : Int32 → Prop} (h : zK (f_X9_finds a1 M) P) (kR : ∀ r : Int32, P r → Q (some (.int r)) M) : zz_S G m_X9_finds t t [.ref 0, .int a1] M Q :=
  zz_S_of (by decide) (by decide) (Nat.le_of_ble_eq_true rfl) (w_X9_finds_0 a1 M ht h kR)
noncomputable def b_X9_next_45 (v1 : Int32) (v3 : Int32) (v4 : Int32) (M : zzMem) : Option ((Int32 × Int32) ⊕ (Int32 × zzMem)) :=
  if (M.1 16 10) ≤ v4 then
  (if v1 = (-1 : Int32) then
  (some ((.inr (v3, M))))
  else (some ((.inr ((-4 : Int32), M)))))
  else (zgd (vp_in v4 300) (
  (f_X2_goesAtNextSplit 12 (M.2 26 (v4).toNatClampNeg) M).bind (fun r4 =>
  if r4 = true then
  (if v3 = v1 then
  (some ((.inr ((f_X1_keyOf (M.2 26 (v4).toNatClampNeg)), M))))
  else (zbd (v3 + (nI 1)) (fun x8 =>
  zbd (v4 + (nI 1)) (fun x9 =>
  some (.inl (x8, x9))))))
  else (zbd (v4 + (nI 1)) (fun x6 =>
  some (.inl (v3, x6)))))))
set_option maxHeartbeats 4000000 in
set_option maxRecDepth 100000 in
theorem x_X9_next_45 {G : zzG} {t : Nat} {Q : Option Value → zzMem → Prop} (v1 : Int32) (v3 : Int32) (v4 : Int32) (M : zzMem) (ht : 180 ≤ t)  {P : ((Int32 × Int32) ⊕ (Int32 × zzMem)) → Prop} (h : zK (b_X9_next_45 v1 v3 v4 M) P) (k45 : ∀ s : (Int32 × Int32), P (.inl s) → zz_W G m_X9_next t t t 45 [some (.ref 0), some (.int v1), some (.ref 16), some (.int s.1), some (.int s.2)] [] M Q) (kR : ∀ r : (Int32 × zzMem), P (.inr r) → Q (some (.int r.1)) r.2) : zz_W G m_X9_next t t t 45 [some (.ref 0), some (.int v1), some (.ref 16), some (.int v3), some (.int v4)] [] M Q := by
  unfold b_X9_next_45 at h
  refine r_iload dX9_next_45 rfl ?_
  refine r_aload_n dX9_next_47 rfl ?_
  refine r_getI (k := 16) dX9_next_48 zf_X9_271 (zo_X0 (zc_X2_1 (zc_X9_3 (zs_X9 ht)))) (zi_X0_10 (zc_X2_1 (zc_X9_3 (zs_X9 ht)))) ?_
  refine r_icmp_ge 96 dX9_next_51 (by decide) (fun c1 => ?_) (fun c1 => ?_)
  · have h := zK_pos h c1
    refine r_iload_n dX9_next_96 rfl ?_
    refine r_iconst (v := (-1 : Int32)) dX9_next_97 (by decide) ?_
    refine r_icmp_ne 105 dX9_next_98 (by decide) (fun c2 => ?_) (fun c2 => ?_)
    · have h := zK_neg h c2
      refine r_bipush (v := (-4 : Int32)) dX9_next_105 (by decide) ?_
      exact r_iret dX9_next_107 rfl rfl rfl (kR (((-4 : Int32), M)) (zK_some h))
    · have h := zK_pos h c2
      refine r_iload_n dX9_next_101 rfl ?_
      refine r_goto 107 dX9_next_102 (by decide) ?_
      exact r_iret dX9_next_107 rfl rfl rfl (kR ((v3, M)) (zK_some h))
  · have h := zK_neg h c1
    refine r_aload_n dX9_next_54 rfl ?_
    refine r_getR (k := 0) (q := 12) dX9_next_55 zf_X9_33 (zo_X9 (zs_X9 ht)) (zr_X9_3 (zs_X9 ht)).1 (zr_X9_3 (zs_X9 ht)).2.1 (zr_X9_3 (zs_X9 ht)).2.2 ?_
    refine r_aload_n dX9_next_58 rfl ?_
    refine r_getR (k := 16) (q := 26) dX9_next_59 zf_X9_274 (zo_X0 (zc_X2_1 (zc_X9_3 (zs_X9 ht)))) (zr_X0_9 (zc_X2_1 (zc_X9_3 (zs_X9 ht)))).1 (zr_X0_9 (zc_X2_1 (zc_X9_3 (zs_X9 ht)))).2.1 (zr_X0_9 (zc_X2_1 (zc_X9_3 (zs_X9 ht)))).2.2 ?_
    refine r_iload dX9_next_62 rfl ?_
    obtain ⟨g3, h⟩ := zK_gd h
    refine r_lald dX9_next_64 (za_X0_9 (zc_X2_1 (zc_X9_3 (zs_X9 ht)))) g3 ?_
    refine kV_zr (as := [.long (M.2 26 (v4).toNatClampNeg)]) (st := []) (k := 12) dX9_next_65 zM_X2_goesAtNextSplit zk_X9_277 (zo_X2 (zc_X9_3 (zs_X9 ht))) (by decide) rfl ⟨Nat.le_of_ble_eq_true rfl, Nat.le_of_ble_eq_true rfl⟩ (Nat.le_of_ble_eq_true rfl) (zz_T0 rfl rfl) (fun Q' P' k h => c_X2_goesAtNextSplit (12) ((M.2 26 (v4).toNatClampNeg)) M (zc_X9_3 (zs_X9 ht)) h k) h (fun r4 h => ?_)
    refine r_ifZ_eq 90 dX9_next_68 (by decide) (fun c5 => ?_) (fun c5 => ?_)
    · have h := zK_neg h c5
      refine r_iinc (nI 1) (fun x6 => [some (.ref 0), some (.int v1), some (.ref 16), some (.int v3), some (.int x6)]) dX9_next_90 rfl (by decide) (by decide) rfl (fun _ => rfl) (fun x6 ex6 => ?_)
      have h := zK_bd h ex6
      refine r_goto 45 dX9_next_93 (by decide) ?_
      exact k45 ((v3, x6)) (zK_some h)
    · have h := zK_pos h c5
      refine r_iload_n dX9_next_71 rfl ?_
      refine r_iload_n dX9_next_72 rfl ?_
      refine r_icmp_ne 87 dX9_next_73 (by decide) (fun c7 => ?_) (fun c7 => ?_)
      · have h := zK_neg h c7
        refine r_iinc (nI 1) (fun x8 => [some (.ref 0), some (.int v1), some (.ref 16), some (.int x8), some (.int v4)]) dX9_next_87 rfl (by decide) (by decide) rfl (fun _ => rfl) (fun x8 ex8 => ?_)
        have h := zK_bd h ex8
        refine r_iinc (nI 1) (fun x9 => [some (.ref 0), some (.int v1), some (.ref 16), some (.int x8), some (.int x9)]) dX9_next_90 rfl (by decide) (by decide) rfl (fun _ => rfl) (fun x9 ex9 => ?_)
        have h := zK_bd h ex9
        refine r_goto 45 dX9_next_93 (by decide) ?_
        exact k45 ((x8, x9)) (zK_some h)
      · have h := zK_pos h c7
        refine r_aload_n dX9_next_76 rfl ?_
        refine r_getR (k := 16) (q := 26) dX9_next_77 zf_X9_274 (zo_X0 (zc_X2_1 (zc_X9_3 (zs_X9 ht)))) (zr_X0_9 (zc_X2_1 (zc_X9_3 (zs_X9 ht)))).1 (zr_X0_9 (zc_X2_1 (zc_X9_3 (zs_X9 ht)))).2.1 (zr_X0_9 (zc_X2_1 (zc_X9_3 (zs_X9 ht)))).2.2 ?_
        refine r_iload dX9_next_80 rfl ?_
        refine r_lald dX9_next_82 (za_X0_9 (zc_X2_1 (zc_X9_3 (zs_X9 ht)))) g3 ?_
        refine tS_ir (v := f_X1_keyOf (M.2 26 (v4).toNatClampNeg)) (as := [.long (M.2 26 (v4).toNatClampNeg)]) (st := []) dX9_next_83 zM_X1_keyOf zk_X9_253 ⟨Nat.le_of_ble_eq_true rfl, Nat.le_of_ble_eq_true rfl⟩ (Nat.le_of_ble_eq_true rfl) (zz_T0 rfl rfl) (fun Q' h => c_X1_keyOf ((M.2 26 (v4).toNatClampNeg)) M h) ?_
        exact r_iret dX9_next_86 rfl rfl rfl (kR (((f_X1_keyOf (M.2 26 (v4).toNatClampNeg)), M)) (zK_some h))
noncomputable def j_X9_next_45 (v1 : Int32) (v3 : Int32) (v4 : Int32) (M : zzMem) : Option (Int32 × zzMem) :=
  zlp (fun s : (Int32 × Int32) => b_X9_next_45 v1 s.1 s.2 M) (v3, v4)
set_option maxHeartbeats 4000000 in
set_option maxRecDepth 100000 in
theorem w_X9_next_45 {G : zzG} {t : Nat} {Q : Option Value → zzMem → Prop} (v1 : Int32) (v3 : Int32) (v4 : Int32) (M : zzMem) (ht : 180 ≤ t)  {P : (Int32 × zzMem) → Prop} (h : zK (j_X9_next_45 v1 v3 v4 M) P) (kR : ∀ r : (Int32 × zzMem), P r → Q (some (.int r.1)) r.2) : zz_W G m_X9_next t t t 45 [some (.ref 0), some (.int v1), some (.ref 16), some (.int v3), some (.int v4)] [] M Q := by
  unfold j_X9_next_45 at h
  exact zK_lp h (fun s : (Int32 × Int32) => zz_W G m_X9_next t t t 45 [some (.ref 0), some (.int v1), some (.ref 16), some (.int s.1), some (.int s.2)] [] M Q) (fun s h => x_X9_next_45 v1 s.1 s.2 M ht h (fun s p => p) kR)
noncomputable def f_X9_next (a1 : Int32) (M : zzMem) : Option (Int32 × zzMem) :=
  if (-1 : Int32) ≤ a1 then
  (if (f_X2_isFull 12 M) = true then
  (some (((-3 : Int32), M)))
  else ((f_X0_gather 16 (M.1 12 9) M).bind (fun M3 =>
  j_X9_next_45 a1 (nI 0) (nI 0) M3)))
  else (some (((-9 : Int32), M)))
set_option maxHeartbeats 4000000 in
set_option maxRecDepth 100000 in
theorem w_X9_next_0 {G : zzG} {t : Nat} {Q : Option Value → zzMem → Prop} (a1 : Int32) (M : zzMem) (ht : 180 ≤ t)  {P : (Int32 × zzMem) → Prop} (h : zK (f_X9_next a1 M) P) (kR : ∀ r : (Int32 × zzMem), P r → Q (some (.int r.1)) r.2) : zz_W G m_X9_next t t t 0 [some (.ref 0), some (.int a1), none, none, none] [] M Q := by
  unfold f_X9_next at h
  refine r_iload_n dX9_next_0 rfl ?_
  refine r_iconst (v := (-1 : Int32)) dX9_next_1 (by decide) ?_
  refine r_icmp_ge 8 dX9_next_2 (by decide) (fun c1 => ?_) (fun c1 => ?_)
  · have h := zK_pos h c1
    refine r_aload_n dX9_next_8 rfl ?_
    refine r_getR (k := 0) (q := 12) dX9_next_9 zf_X9_33 (zo_X9 (zs_X9 ht)) (zr_X9_3 (zs_X9 ht)).1 (zr_X9_3 (zs_X9 ht)).2.1 (zr_X9_3 (zs_X9 ht)).2.2 ?_
    refine tV_zr (v := f_X2_isFull 12 M) (as := []) (st := []) (k := 12) dX9_next_12 zM_X2_isFull zk_X9_219 (zo_X2 (zc_X9_3 (zs_X9 ht))) (by decide) rfl ⟨Nat.le_of_ble_eq_true rfl, Nat.le_of_ble_eq_true rfl⟩ (Nat.le_of_ble_eq_true rfl) (zz_T0 rfl rfl) (fun Q' h => c_X2_isFull (12) M (zc_X9_3 (zs_X9 ht)) h) ?_
    refine r_ifZ_eq 21 dX9_next_15 (by decide) (fun c2 => ?_) (fun c2 => ?_)
    · have h := zK_neg h c2
      refine r_aload_n dX9_next_21 rfl ?_
      refine r_getR (k := 0) (q := 12) dX9_next_22 zf_X9_33 (zo_X9 (zs_X9 ht)) (zr_X9_3 (zs_X9 ht)).1 (zr_X9_3 (zs_X9 ht)).2.1 (zr_X9_3 (zs_X9 ht)).2.2 ?_
      refine r_getR (k := 12) (q := 16) dX9_next_25 zf_X9_156 (zo_X2 (zc_X9_3 (zs_X9 ht))) (zr_X2_1 (zc_X9_3 (zs_X9 ht))).1 (zr_X2_1 (zc_X9_3 (zs_X9 ht))).2.1 (zr_X2_1 (zc_X9_3 (zs_X9 ht))).2.2 ?_
      refine s_astore_n ([some (.ref 0), some (.int a1), some (.ref 16), none, none]) dX9_next_28 (by decide) rfl rfl ?_
      refine r_iconst (v := (nI 0)) dX9_next_29 (by decide) ?_
      refine s_istore_n ([some (.ref 0), some (.int a1), some (.ref 16), some (.int (nI 0)), none]) dX9_next_30 (by decide) rfl rfl ?_
      refine r_aload_n dX9_next_31 rfl ?_
      refine r_aload_n dX9_next_32 rfl ?_
      refine r_getR (k := 0) (q := 12) dX9_next_33 zf_X9_33 (zo_X9 (zs_X9 ht)) (zr_X9_3 (zs_X9 ht)).1 (zr_X9_3 (zs_X9 ht)).2.1 (zr_X9_3 (zs_X9 ht)).2.2 ?_
      refine r_getI (k := 12) dX9_next_36 zf_X9_177 (zo_X2 (zc_X9_3 (zs_X9 ht))) (zi_X2_9 (zc_X9_3 (zs_X9 ht))) ?_
      refine kV_vw (as := [.int (M.1 12 9)]) (st := []) (k := 16) dX9_next_39 zM_X0_gather zk_X9_268 (zo_X0 (zc_X2_1 (zc_X9_3 (zs_X9 ht)))) (by decide) rfl ⟨Nat.le_of_ble_eq_true rfl, Nat.le_of_ble_eq_true rfl⟩ (Nat.le_of_ble_eq_true rfl) (zz_T0 rfl rfl) (fun Q' P' k h => c_X0_gather (16) ((M.1 12 9)) M (zc_X2_1 (zc_X9_3 (zs_X9 ht))) h k) h (fun M3 h => ?_)
      refine r_iconst (v := (nI 0)) dX9_next_42 (by decide) ?_
      refine s_istore ([some (.ref 0), some (.int a1), some (.ref 16), some (.int (nI 0)), some (.int (nI 0))]) dX9_next_43 (by decide) rfl rfl ?_
      exact w_X9_next_45 (a1) ((nI 0)) ((nI 0)) M3 ht h kR
    · have h := zK_pos h c2
      refine r_bipush (v := (-3 : Int32)) dX9_next_18 (by decide) ?_
      exact r_iret dX9_next_20 rfl rfl rfl (kR (((-3 : Int32), M)) (zK_some h))
  · have h := zK_neg h c1
    refine r_bipush (v := (-9 : Int32)) dX9_next_5 (by decide) ?_
    exact r_iret dX9_next_7 rfl rfl rfl (kR (((-9 : Int32), M)) (zK_some h))
set_option maxHeartbeats 4000000 in
set_option maxRecDepth 100000 in
theorem c_X9_next {G : zzG} {t : Nat} {Q : Option Value → zzMem → Prop} (a1 : Int32) (M : zzMem) (ht : 180 ≤ t)  {P : (Int32 × zzMem) → Prop} (h : zK (f_X9_next a1 M) P) (kR : ∀ r : (Int32 × zzMem), P r → Q (some (.int r.1)) r.2) : zz_S G m_X9_next t t [.ref 0, .int a1] M Q :=
  zz_S_of (by decide) (by decide) (Nat.le_of_ble_eq_true rfl) (w_X9_next_0 a1 M ht h kR)
noncomputable def b_X9_parted_55 (v3 : Int32) (v4 : Int32) (v5 : Int32) (M : zzMem) : Option (Int32 ⊕ (Int32 × zzMem)) :=
  if (nI 64) < v5 then
  (some ((.inr ((-2 : Int32), M))))
  else ((f_X2_addressAmong 12 v3 v5 M).bind (fun r2 =>
  (f_X2_addressAmong 12 v4 v5 M).bind (fun r3 =>
  if r2 = r3 then
  (zbd (v5 + (nI 1)) (fun x5 =>
  some (.inl x5)))
  else (some ((.inr (v5, M)))))))
set_option maxHeartbeats 4000000 in
set_option maxRecDepth 100000 in
theorem x_X9_parted_55 {G : zzG} {t : Nat} {Q : Option Value → zzMem → Prop} (v3 : Int32) (v4 : Int32) (v5 : Int32) (M : zzMem) (ht : 180 ≤ t)  {P : (Int32 ⊕ (Int32 × zzMem)) → Prop} (h : zK (b_X9_parted_55 v3 v4 v5 M) P) (k55 : ∀ s : Int32, P (.inl s) → zz_W G m_X9_parted t t t 55 [some (.ref 0), none, none, some (.int v3), some (.int v4), some (.int s)] [] M Q) (kR : ∀ r : (Int32 × zzMem), P (.inr r) → Q (some (.int r.1)) r.2) : zz_W G m_X9_parted t t t 55 [some (.ref 0), none, none, some (.int v3), some (.int v4), some (.int v5)] [] M Q := by
  unfold b_X9_parted_55 at h
  refine r_iload dX9_parted_55 rfl ?_
  refine r_bipush (v := (nI 64)) dX9_parted_57 (by decide) ?_
  refine r_icmp_gt 95 dX9_parted_59 (by decide) (fun c1 => ?_) (fun c1 => ?_)
  · have h := zK_pos h c1
    refine r_bipush (v := (-2 : Int32)) dX9_parted_95 (by decide) ?_
    exact r_iret dX9_parted_97 rfl rfl rfl (kR (((-2 : Int32), M)) (zK_some h))
  · have h := zK_neg h c1
    refine r_aload_n dX9_parted_62 rfl ?_
    refine r_getR (k := 0) (q := 12) dX9_parted_63 zf_X9_33 (zo_X9 (zs_X9 ht)) (zr_X9_3 (zs_X9 ht)).1 (zr_X9_3 (zs_X9 ht)).2.1 (zr_X9_3 (zs_X9 ht)).2.2 ?_
    refine r_iload_n dX9_parted_66 rfl ?_
    refine r_iload dX9_parted_67 rfl ?_
    refine kV_ir (as := [.int v3, .int v5]) (st := []) (k := 12) dX9_parted_69 zM_X2_addressAmong zk_X9_222 (zo_X2 (zc_X9_3 (zs_X9 ht))) (by decide) rfl ⟨Nat.le_of_ble_eq_true rfl, Nat.le_of_ble_eq_true rfl⟩ (Nat.le_of_ble_eq_true rfl) (zz_T0 rfl rfl) (fun Q' P' k h => c_X2_addressAmong (12) (v3) (v5) M (zc_X9_3 (zs_X9 ht)) h k) h (fun r2 h => ?_)
    refine r_aload_n dX9_parted_72 rfl ?_
    refine r_getR (k := 0) (q := 12) dX9_parted_73 zf_X9_33 (zo_X9 (zs_X9 ht)) (zr_X9_3 (zs_X9 ht)).1 (zr_X9_3 (zs_X9 ht)).2.1 (zr_X9_3 (zs_X9 ht)).2.2 ?_
    refine r_iload dX9_parted_76 rfl ?_
    refine r_iload dX9_parted_78 rfl ?_
    refine kV_ir (as := [.int v4, .int v5]) (st := [.int r2]) (k := 12) dX9_parted_80 zM_X2_addressAmong zk_X9_222 (zo_X2 (zc_X9_3 (zs_X9 ht))) (by decide) rfl ⟨Nat.le_of_ble_eq_true rfl, Nat.le_of_ble_eq_true rfl⟩ (Nat.le_of_ble_eq_true rfl) (zz_T0 rfl rfl) (fun Q' P' k h => c_X2_addressAmong (12) (v4) (v5) M (zc_X9_3 (zs_X9 ht)) h k) h (fun r3 h => ?_)
    refine r_icmp_eq 89 dX9_parted_83 (by decide) (fun c4 => ?_) (fun c4 => ?_)
    · have h := zK_pos h c4
      refine r_iinc (nI 1) (fun x5 => [some (.ref 0), none, none, some (.int v3), some (.int v4), some (.int x5)]) dX9_parted_89 rfl (by decide) (by decide) rfl (fun _ => rfl) (fun x5 ex5 => ?_)
      have h := zK_bd h ex5
      refine r_goto 55 dX9_parted_92 (by decide) ?_
      exact k55 (x5) (zK_some h)
    · have h := zK_neg h c4
      refine r_iload dX9_parted_86 rfl ?_
      exact r_iret dX9_parted_88 rfl rfl rfl (kR ((v5, M)) (zK_some h))
noncomputable def j_X9_parted_55 (v3 : Int32) (v4 : Int32) (v5 : Int32) (M : zzMem) : Option (Int32 × zzMem) :=
  zlp (fun s : Int32 => b_X9_parted_55 v3 v4 s M) v5
set_option maxHeartbeats 4000000 in
set_option maxRecDepth 100000 in
theorem w_X9_parted_55 {G : zzG} {t : Nat} {Q : Option Value → zzMem → Prop} (v3 : Int32) (v4 : Int32) (v5 : Int32) (M : zzMem) (ht : 180 ≤ t)  {P : (Int32 × zzMem) → Prop} (h : zK (j_X9_parted_55 v3 v4 v5 M) P) (kR : ∀ r : (Int32 × zzMem), P r → Q (some (.int r.1)) r.2) : zz_W G m_X9_parted t t t 55 [some (.ref 0), none, none, some (.int v3), some (.int v4), some (.int v5)] [] M Q := by
  unfold j_X9_parted_55 at h
  exact zK_lp h (fun s : Int32 => zz_W G m_X9_parted t t t 55 [some (.ref 0), none, none, some (.int v3), some (.int v4), some (.int s)] [] M Q) (fun s h => x_X9_parted_55 v3 v4 s M ht h (fun s p => p) kR)
noncomputable def f_X9_parted (a1 : Int32) (a2 : Int32) (M : zzMem) : Option (Int32 × zzMem) :=
  if (f_X9_isKey a1) = true then
  (if (f_X9_isKey a2) = true then
  (if a1 = a2 then
  (some (((-1 : Int32), M)))
  else ((f_X3_hashOf 13 a1 M).bind (fun q4 => zpr q4 (fun r5 M6 =>
  (f_X3_hashOf 13 a2 M6).bind (fun q7 => zpr q7 (fun r8 M9 =>
  zbd ((M9.1 12 4)) (fun x10 =>
  j_X9_parted_55 r5 r8 x10 M9)))))))
  else (some (((-1 : Int32), M))))
  else (some (((-1 : Int32), M)))
set_option maxHeartbeats 4000000 in
set_option maxRecDepth 100000 in
theorem w_X9_parted_0 {G : zzG} {t : Nat} {Q : Option Value → zzMem → Prop} (a1 : Int32) (a2 : Int32) (M : zzMem) (ht : 180 ≤ t)  {P : (Int32 × zzMem) → Prop} (h : zK (f_X9_parted a1 a2 M) P) (kR : ∀ r : (Int32 × zzMem), P r → Q (some (.int r.1)) r.2) : zz_W G m_X9_parted t t t 0 [some (.ref 0), some (.int a1), some (.int a2), none, none, none] [] M Q := by
  unfold f_X9_parted at h
  refine r_iload_n dX9_parted_0 rfl ?_
  refine tS_zr (v := f_X9_isKey a1) (as := [.int a1]) (st := []) dX9_parted_1 zM_X9_isKey zk_X9_149 ⟨Nat.le_of_ble_eq_true rfl, Nat.le_of_ble_eq_true rfl⟩ (Nat.le_of_ble_eq_true rfl) (zz_T0 rfl rfl) (fun Q' h => c_X9_isKey (a1) M h) ?_
  refine r_ifZ_eq 19 dX9_parted_4 (by decide) (fun c1 => ?_) (fun c1 => ?_)
  · have h := zK_neg h c1
    refine r_iconst (v := (-1 : Int32)) dX9_parted_19 (by decide) ?_
    exact r_iret dX9_parted_20 rfl rfl rfl (kR (((-1 : Int32), M)) (zK_some h))
  · have h := zK_pos h c1
    refine r_iload_n dX9_parted_7 rfl ?_
    refine tS_zr (v := f_X9_isKey a2) (as := [.int a2]) (st := []) dX9_parted_8 zM_X9_isKey zk_X9_149 ⟨Nat.le_of_ble_eq_true rfl, Nat.le_of_ble_eq_true rfl⟩ (Nat.le_of_ble_eq_true rfl) (zz_T0 rfl rfl) (fun Q' h => c_X9_isKey (a2) M h) ?_
    refine r_ifZ_eq 19 dX9_parted_11 (by decide) (fun c2 => ?_) (fun c2 => ?_)
    · have h := zK_neg h c2
      refine r_iconst (v := (-1 : Int32)) dX9_parted_19 (by decide) ?_
      exact r_iret dX9_parted_20 rfl rfl rfl (kR (((-1 : Int32), M)) (zK_some h))
    · have h := zK_pos h c2
      refine r_iload_n dX9_parted_14 rfl ?_
      refine r_iload_n dX9_parted_15 rfl ?_
      refine r_icmp_ne 21 dX9_parted_16 (by decide) (fun c3 => ?_) (fun c3 => ?_)
      · have h := zK_neg h c3
        refine r_aload_n dX9_parted_21 rfl ?_
        refine r_getR (k := 0) (q := 12) dX9_parted_22 zf_X9_33 (zo_X9 (zs_X9 ht)) (zr_X9_3 (zs_X9 ht)).1 (zr_X9_3 (zs_X9 ht)).2.1 (zr_X9_3 (zs_X9 ht)).2.2 ?_
        refine r_getR (k := 12) (q := 13) dX9_parted_25 zf_X9_88 (zo_X2 (zc_X9_3 (zs_X9 ht))) (zr_X2_0 (zc_X9_3 (zs_X9 ht))).1 (zr_X2_0 (zc_X9_3 (zs_X9 ht))).2.1 (zr_X2_0 (zc_X9_3 (zs_X9 ht))).2.2 ?_
        refine r_iload_n dX9_parted_28 rfl ?_
        refine kV_iw (as := [.int a1]) (st := []) (k := 13) dX9_parted_29 zM_X3_hashOf zk_X9_207 (zo_X3 (zc_X2_0 (zc_X9_3 (zs_X9 ht)))) (by decide) rfl ⟨Nat.le_of_ble_eq_true rfl, Nat.le_of_ble_eq_true rfl⟩ (Nat.le_of_ble_eq_true rfl) (zz_T0 rfl rfl) (fun Q' P' k h => c_X3_hashOf (13) (a1) M (zc_X2_0 (zc_X9_3 (zs_X9 ht))) h (fun r p => k r.1 r.2 p)) h (fun r5 M6 h => ?_)
        have h := zK_pr h
        refine s_istore_n ([some (.ref 0), some (.int a1), some (.int a2), some (.int r5), none, none]) dX9_parted_32 (by decide) rfl rfl ?_
        refine r_aload_n dX9_parted_33 rfl ?_
        refine r_getR (k := 0) (q := 12) dX9_parted_34 zf_X9_33 (zo_X9 (zs_X9 ht)) (zr_X9_3 (zs_X9 ht)).1 (zr_X9_3 (zs_X9 ht)).2.1 (zr_X9_3 (zs_X9 ht)).2.2 ?_
        refine r_getR (k := 12) (q := 13) dX9_parted_37 zf_X9_88 (zo_X2 (zc_X9_3 (zs_X9 ht))) (zr_X2_0 (zc_X9_3 (zs_X9 ht))).1 (zr_X2_0 (zc_X9_3 (zs_X9 ht))).2.1 (zr_X2_0 (zc_X9_3 (zs_X9 ht))).2.2 ?_
        refine r_iload_n dX9_parted_40 rfl ?_
        refine kV_iw (as := [.int a2]) (st := []) (k := 13) dX9_parted_41 zM_X3_hashOf zk_X9_207 (zo_X3 (zc_X2_0 (zc_X9_3 (zs_X9 ht)))) (by decide) rfl ⟨Nat.le_of_ble_eq_true rfl, Nat.le_of_ble_eq_true rfl⟩ (Nat.le_of_ble_eq_true rfl) (zz_T0 rfl rfl) (fun Q' P' k h => c_X3_hashOf (13) (a2) M6 (zc_X2_0 (zc_X9_3 (zs_X9 ht))) h (fun r p => k r.1 r.2 p)) h (fun r8 M9 h => ?_)
        have h := zK_pr h
        refine s_istore ([some (.ref 0), some (.int a1), some (.int a2), some (.int r5), some (.int r8), none]) dX9_parted_44 (by decide) rfl rfl ?_
        refine r_aload_n dX9_parted_46 rfl ?_
        refine r_getR (k := 0) (q := 12) dX9_parted_47 zf_X9_33 (zo_X9 (zs_X9 ht)) (zr_X9_3 (zs_X9 ht)).1 (zr_X9_3 (zs_X9 ht)).2.1 (zr_X9_3 (zs_X9 ht)).2.2 ?_
        refine r_getI (k := 12) dX9_parted_50 zf_X9_153 (zo_X2 (zc_X9_3 (zs_X9 ht))) (zi_X2_4 (zc_X9_3 (zs_X9 ht))) ?_
        refine r_istore (fun x10 => [some (.ref 0), some (.int a1), some (.int a2), some (.int r5), some (.int r8), some (.int x10)]) dX9_parted_53 (by decide) rfl (fun _ => rfl) (fun x10 ex10 => ?_)
        have h := zK_bd h ex10
        refine zz_mask [1, 2] ?_
        exact w_X9_parted_55 (r5) (r8) (x10) M9 ht h kR
      · have h := zK_pos h c3
        refine r_iconst (v := (-1 : Int32)) dX9_parted_19 (by decide) ?_
        exact r_iret dX9_parted_20 rfl rfl rfl (kR (((-1 : Int32), M)) (zK_some h))
set_option maxHeartbeats 4000000 in
set_option maxRecDepth 100000 in
theorem c_X9_parted {G : zzG} {t : Nat} {Q : Option Value → zzMem → Prop} (a1 : Int32) (a2 : Int32) (M : zzMem) (ht : 180 ≤ t)  {P : (Int32 × zzMem) → Prop} (h : zK (f_X9_parted a1 a2 M) P) (kR : ∀ r : (Int32 × zzMem), P r → Q (some (.int r.1)) r.2) : zz_S G m_X9_parted t t [.ref 0, .int a1, .int a2] M Q :=
  zz_S_of (by decide) (by decide) (Nat.le_of_ble_eq_true rfl) (w_X9_parted_0 a1 a2 M ht h kR)
noncomputable def b_X9_countAmong_19 (v1 : Int32) (v2 : Int32) (v3 : Int32) (M : zzMem) : Option ((Int32 × zzMem) ⊕ zzMem) :=
  if (M.1 27 1) ≤ v3 then
  (some ((.inr M)))
  else ((f_X2_hashAt 12 v3 M).bind (fun r2 =>
  (f_X2_address r2 v2 (v1 - v2)).bind (fun r3 =>
  zgd (vp_in r3 64) (
  zbd (zz_si M 72 (r3).toNatClampNeg ((M.1 72 (r3).toNatClampNeg) + (nI 1))) (fun M5 =>
  zbd (v3 + (nI 1)) (fun x6 =>
  some (.inl (x6, M5))))))))
set_option maxHeartbeats 4000000 in
set_option maxRecDepth 100000 in
theorem x_X9_countAmong_19 {G : zzG} {t : Nat} {Q : Option Value → zzMem → Prop} (v1 : Int32) (v2 : Int32) (v3 : Int32) (M : zzMem) (ht : 180 ≤ t)  {P : ((Int32 × zzMem) ⊕ zzMem) → Prop} (h : zK (b_X9_countAmong_19 v1 v2 v3 M) P) (k19 : ∀ s : (Int32 × zzMem), P (.inl s) → zz_W G m_X9_countAmong t t t 19 [some (.ref 0), some (.int v1), some (.int v2), some (.int s.1)] [] s.2 Q) (kR : ∀ r : zzMem, P (.inr r) → Q none r) : zz_W G m_X9_countAmong t t t 19 [some (.ref 0), some (.int v1), some (.int v2), some (.int v3)] [] M Q := by
  unfold b_X9_countAmong_19 at h
  refine r_iload_n dX9_countAmong_19 rfl ?_
  refine r_aload_n dX9_countAmong_20 rfl ?_
  refine r_getR (k := 0) (q := 12) dX9_countAmong_21 zf_X9_33 (zo_X9 (zs_X9 ht)) (zr_X9_3 (zs_X9 ht)).1 (zr_X9_3 (zs_X9 ht)).2.1 (zr_X9_3 (zs_X9 ht)).2.2 ?_
  refine r_getR (k := 12) (q := 27) dX9_countAmong_24 zf_X9_77 (zo_X2 (zc_X9_3 (zs_X9 ht))) (zr_X2_2 (zc_X9_3 (zs_X9 ht))).1 (zr_X2_2 (zc_X9_3 (zs_X9 ht))).2.1 (zr_X2_2 (zc_X9_3 (zs_X9 ht))).2.2 ?_
  refine r_getI (k := 27) dX9_countAmong_27 zf_X9_81 (zo_X5 (zc_X2_2 (zc_X9_3 (zs_X9 ht)))) (zi_X5_1 (zc_X2_2 (zc_X9_3 (zs_X9 ht)))) ?_
  refine r_icmp_ge 63 dX9_countAmong_30 (by decide) (fun c1 => ?_) (fun c1 => ?_)
  · have h := zK_pos h c1
    exact r_vret dX9_countAmong_63 rfl rfl rfl (kR (M) (zK_some h))
  · have h := zK_neg h c1
    refine r_aload_n dX9_countAmong_33 rfl ?_
    refine r_getR (k := 0) (q := 72) dX9_countAmong_34 zf_X9_43 (zo_X9 (zs_X9 ht)) (zr_X9_6 (zs_X9 ht)).1 (zr_X9_6 (zs_X9 ht)).2.1 (zr_X9_6 (zs_X9 ht)).2.2 ?_
    refine r_aload_n dX9_countAmong_37 rfl ?_
    refine r_getR (k := 0) (q := 12) dX9_countAmong_38 zf_X9_33 (zo_X9 (zs_X9 ht)) (zr_X9_3 (zs_X9 ht)).1 (zr_X9_3 (zs_X9 ht)).2.1 (zr_X9_3 (zs_X9 ht)).2.2 ?_
    refine r_iload_n dX9_countAmong_41 rfl ?_
    refine kV_ir (as := [.int v3]) (st := [.ref 72]) (k := 12) dX9_countAmong_42 zM_X2_hashAt zk_X9_300 (zo_X2 (zc_X9_3 (zs_X9 ht))) (by decide) rfl ⟨Nat.le_of_ble_eq_true rfl, Nat.le_of_ble_eq_true rfl⟩ (Nat.le_of_ble_eq_true rfl) (zz_T0 rfl rfl) (fun Q' P' k h => c_X2_hashAt (12) (v3) M (zc_X9_3 (zs_X9 ht)) h k) h (fun r2 h => ?_)
    refine r_iload_n dX9_countAmong_45 rfl ?_
    refine r_iload_n dX9_countAmong_46 rfl ?_
    refine r_iload_n dX9_countAmong_47 rfl ?_
    refine r_isub dX9_countAmong_48 ?_
    refine kS_ir (as := [.int r2, .int v2, .int (v1 - v2)]) (st := [.ref 72]) dX9_countAmong_49 zM_X2_address zk_X9_303 ⟨Nat.le_of_ble_eq_true rfl, Nat.le_of_ble_eq_true rfl⟩ (Nat.le_of_ble_eq_true rfl) (zz_T0 rfl rfl) (fun Q' P' k h => c_X2_address (r2) (v2) ((v1 - v2)) M h k) h (fun r3 h => ?_)
    refine r_dup2 dX9_countAmong_52 rfl rfl ?_
    obtain ⟨g4, h⟩ := zK_gd h
    refine r_iald dX9_countAmong_53 (za_X9_6 (zs_X9 ht)) g4 ?_
    refine r_iconst (v := (nI 1)) dX9_countAmong_54 (by decide) ?_
    refine r_iadd dX9_countAmong_55 ?_
    refine r_iast dX9_countAmong_56 (za_X9_6 (zs_X9 ht)) g4 (fun M5 eM5 => ?_)
    have h := zK_bd h eM5
    refine r_iinc (nI 1) (fun x6 => [some (.ref 0), some (.int v1), some (.int v2), some (.int x6)]) dX9_countAmong_57 rfl (by decide) (by decide) rfl (fun _ => rfl) (fun x6 ex6 => ?_)
    have h := zK_bd h ex6
    refine r_goto 19 dX9_countAmong_60 (by decide) ?_
    exact k19 ((x6, M5)) (zK_some h)
noncomputable def j_X9_countAmong_19 (v1 : Int32) (v2 : Int32) (v3 : Int32) (M : zzMem) : Option zzMem :=
  zlp (fun s : (Int32 × zzMem) => b_X9_countAmong_19 v1 v2 s.1 s.2) (v3, M)
set_option maxHeartbeats 4000000 in
set_option maxRecDepth 100000 in
theorem w_X9_countAmong_19 {G : zzG} {t : Nat} {Q : Option Value → zzMem → Prop} (v1 : Int32) (v2 : Int32) (v3 : Int32) (M : zzMem) (ht : 180 ≤ t)  {P : zzMem → Prop} (h : zK (j_X9_countAmong_19 v1 v2 v3 M) P) (kR : ∀ r : zzMem, P r → Q none r) : zz_W G m_X9_countAmong t t t 19 [some (.ref 0), some (.int v1), some (.int v2), some (.int v3)] [] M Q := by
  unfold j_X9_countAmong_19 at h
  exact zK_lp h (fun s : (Int32 × zzMem) => zz_W G m_X9_countAmong t t t 19 [some (.ref 0), some (.int v1), some (.int v2), some (.int s.1)] [] s.2 Q) (fun s h => x_X9_countAmong_19 v1 v2 s.1 s.2 ht h (fun s p => p) kR)
noncomputable def f_X9_countAmong (a1 : Int32) (M : zzMem) : Option zzMem :=
  (f_J7_fill_53178 72 64 (nI 0) M).bind (fun M1 =>
  (f_X2_spanAmong 12 a1 M1).bind (fun r2 =>
  j_X9_countAmong_19 a1 r2 (nI 0) M1))
set_option maxHeartbeats 4000000 in
set_option maxRecDepth 100000 in
theorem w_X9_countAmong_0 {G : zzG} {t : Nat} {Q : Option Value → zzMem → Prop} (a1 : Int32) (M : zzMem) (ht : 180 ≤ t)  {P : zzMem → Prop} (h : zK (f_X9_countAmong a1 M) P) (kR : ∀ r : zzMem, P r → Q none r) : zz_W G m_X9_countAmong t t t 0 [some (.ref 0), some (.int a1), none, none] [] M Q := by
  unfold f_X9_countAmong at h
  refine r_aload_n dX9_countAmong_0 rfl ?_
  refine r_getR (k := 0) (q := 72) dX9_countAmong_1 zf_X9_43 (zo_X9 (zs_X9 ht)) (zr_X9_6 (zs_X9 ht)).1 (zr_X9_6 (zs_X9 ht)).2.1 (zr_X9_6 (zs_X9 ht)).2.2 ?_
  refine r_iconst (v := (nI 0)) dX9_countAmong_4 (by decide) ?_
  refine kS_vw (as := [.ref 72, .int (nI 0)]) (st := []) dX9_countAmong_5 zM_J7_fill_53178 zk_X9_292 ⟨Nat.le_of_ble_eq_true rfl, Nat.le_of_ble_eq_true rfl⟩ (Nat.le_of_ble_eq_true rfl) (zz_T0 rfl rfl) (fun Q' P' k h => c_J7_fill_53178 (72) (64) ((nI 0)) M (za_X9_6 (zs_X9 ht)) h k) h (fun M1 h => ?_)
  refine r_aload_n dX9_countAmong_8 rfl ?_
  refine r_getR (k := 0) (q := 12) dX9_countAmong_9 zf_X9_33 (zo_X9 (zs_X9 ht)) (zr_X9_3 (zs_X9 ht)).1 (zr_X9_3 (zs_X9 ht)).2.1 (zr_X9_3 (zs_X9 ht)).2.2 ?_
  refine r_iload_n dX9_countAmong_12 rfl ?_
  refine kV_ir (as := [.int a1]) (st := []) (k := 12) dX9_countAmong_13 zM_X2_spanAmong zk_X9_297 (zo_X2 (zc_X9_3 (zs_X9 ht))) (by decide) rfl ⟨Nat.le_of_ble_eq_true rfl, Nat.le_of_ble_eq_true rfl⟩ (Nat.le_of_ble_eq_true rfl) (zz_T0 rfl rfl) (fun Q' P' k h => c_X2_spanAmong (12) (a1) M1 (zc_X9_3 (zs_X9 ht)) h k) h (fun r2 h => ?_)
  refine s_istore_n ([some (.ref 0), some (.int a1), some (.int r2), none]) dX9_countAmong_16 (by decide) rfl rfl ?_
  refine r_iconst (v := (nI 0)) dX9_countAmong_17 (by decide) ?_
  refine s_istore_n ([some (.ref 0), some (.int a1), some (.int r2), some (.int (nI 0))]) dX9_countAmong_18 (by decide) rfl rfl ?_
  exact w_X9_countAmong_19 (a1) (r2) ((nI 0)) M1 ht h kR
set_option maxHeartbeats 4000000 in
set_option maxRecDepth 100000 in
theorem c_X9_countAmong {G : zzG} {t : Nat} {Q : Option Value → zzMem → Prop} (a1 : Int32) (M : zzMem) (ht : 180 ≤ t)  {P : zzMem → Prop} (h : zK (f_X9_countAmong a1 M) P) (kR : ∀ r : zzMem, P r → Q none r) : zz_S G m_X9_countAmong t t [.ref 0, .int a1] M Q :=
  zz_S_of (by decide) (by decide) (Nat.le_of_ble_eq_true rfl) (w_X9_countAmong_0 a1 M ht h kR)
noncomputable def b_X9_mostIn_9 (v1 : Int32) (v2 : Int32) (v3 : Int32) (M : zzMem) : Option ((Int32 × Int32) ⊕ (Int32 × zzMem)) :=
  if v1 ≤ v3 then
  (some ((.inr (v2, M))))
  else (zgd (vp_in v3 64) (
  zbd ((zmx v2 (M.1 72 (v3).toNatClampNeg))) (fun x3 =>
  zbd (v3 + (nI 1)) (fun x4 =>
  some (.inl (x3, x4))))))
set_option maxHeartbeats 4000000 in
set_option maxRecDepth 100000 in
theorem x_X9_mostIn_9 {G : zzG} {t : Nat} {Q : Option Value → zzMem → Prop} (v1 : Int32) (v2 : Int32) (v3 : Int32) (M : zzMem) (ht : 180 ≤ t)  {P : ((Int32 × Int32) ⊕ (Int32 × zzMem)) → Prop} (h : zK (b_X9_mostIn_9 v1 v2 v3 M) P) (k9 : ∀ s : (Int32 × Int32), P (.inl s) → zz_W G m_X9_mostIn t t t 9 [some (.ref 0), some (.int v1), some (.int s.1), some (.int s.2)] [] M Q) (kR : ∀ r : (Int32 × zzMem), P (.inr r) → Q (some (.int r.1)) r.2) : zz_W G m_X9_mostIn t t t 9 [some (.ref 0), some (.int v1), some (.int v2), some (.int v3)] [] M Q := by
  unfold b_X9_mostIn_9 at h
  refine r_iload_n dX9_mostIn_9 rfl ?_
  refine r_iload_n dX9_mostIn_10 rfl ?_
  refine r_icmp_ge 31 dX9_mostIn_11 (by decide) (fun c1 => ?_) (fun c1 => ?_)
  · have h := zK_pos h c1
    refine r_iload_n dX9_mostIn_31 rfl ?_
    exact r_iret dX9_mostIn_32 rfl rfl rfl (kR ((v2, M)) (zK_some h))
  · have h := zK_neg h c1
    refine r_iload_n dX9_mostIn_14 rfl ?_
    refine r_aload_n dX9_mostIn_15 rfl ?_
    refine r_getR (k := 0) (q := 72) dX9_mostIn_16 zf_X9_43 (zo_X9 (zs_X9 ht)) (zr_X9_6 (zs_X9 ht)).1 (zr_X9_6 (zs_X9 ht)).2.1 (zr_X9_6 (zs_X9 ht)).2.2 ?_
    refine r_iload_n dX9_mostIn_19 rfl ?_
    obtain ⟨g2, h⟩ := zK_gd h
    refine r_iald dX9_mostIn_20 (za_X9_6 (zs_X9 ht)) g2 ?_
    refine r_mmax dX9_mostIn_21 zk_X9_287 (Nat.le_of_ble_eq_true rfl) (Nat.le_of_ble_eq_true rfl) ?_
    refine r_istore_n (fun x3 => [some (.ref 0), some (.int v1), some (.int x3), some (.int v3)]) dX9_mostIn_24 (by decide) rfl (fun _ => rfl) (fun x3 ex3 => ?_)
    have h := zK_bd h ex3
    refine r_iinc (nI 1) (fun x4 => [some (.ref 0), some (.int v1), some (.int x3), some (.int x4)]) dX9_mostIn_25 rfl (by decide) (by decide) rfl (fun _ => rfl) (fun x4 ex4 => ?_)
    have h := zK_bd h ex4
    refine r_goto 9 dX9_mostIn_28 (by decide) ?_
    exact k9 ((x3, x4)) (zK_some h)
noncomputable def j_X9_mostIn_9 (v1 : Int32) (v2 : Int32) (v3 : Int32) (M : zzMem) : Option (Int32 × zzMem) :=
  zlp (fun s : (Int32 × Int32) => b_X9_mostIn_9 v1 s.1 s.2 M) (v2, v3)
set_option maxHeartbeats 4000000 in
set_option maxRecDepth 100000 in
theorem w_X9_mostIn_9 {G : zzG} {t : Nat} {Q : Option Value → zzMem → Prop} (v1 : Int32) (v2 : Int32) (v3 : Int32) (M : zzMem) (ht : 180 ≤ t)  {P : (Int32 × zzMem) → Prop} (h : zK (j_X9_mostIn_9 v1 v2 v3 M) P) (kR : ∀ r : (Int32 × zzMem), P r → Q (some (.int r.1)) r.2) : zz_W G m_X9_mostIn t t t 9 [some (.ref 0), some (.int v1), some (.int v2), some (.int v3)] [] M Q := by
  unfold j_X9_mostIn_9 at h
  exact zK_lp h (fun s : (Int32 × Int32) => zz_W G m_X9_mostIn t t t 9 [some (.ref 0), some (.int v1), some (.int s.1), some (.int s.2)] [] M Q) (fun s h => x_X9_mostIn_9 v1 s.1 s.2 M ht h (fun s p => p) kR)
noncomputable def f_X9_mostIn (a1 : Int32) (M : zzMem) : Option (Int32 × zzMem) :=
  (f_X9_countAmong a1 M).bind (fun M1 =>
  j_X9_mostIn_9 a1 (nI 0) (nI 0) M1)
set_option maxHeartbeats 4000000 in
set_option maxRecDepth 100000 in
theorem w_X9_mostIn_0 {G : zzG} {t : Nat} {Q : Option Value → zzMem → Prop} (a1 : Int32) (M : zzMem) (ht : 180 ≤ t)  {P : (Int32 × zzMem) → Prop} (h : zK (f_X9_mostIn a1 M) P) (kR : ∀ r : (Int32 × zzMem), P r → Q (some (.int r.1)) r.2) : zz_W G m_X9_mostIn t t t 0 [some (.ref 0), some (.int a1), none, none] [] M Q := by
  unfold f_X9_mostIn at h
  refine r_aload_n dX9_mostIn_0 rfl ?_
  refine r_iload_n dX9_mostIn_1 rfl ?_
  refine kV_vw (as := [.int a1]) (st := []) (k := 0) dX9_mostIn_2 zM_X9_countAmong zk_X9_284 (zo_X9 (zs_X9 ht)) (by decide) rfl ⟨Nat.le_of_ble_eq_true rfl, Nat.le_of_ble_eq_true rfl⟩ (Nat.le_of_ble_eq_true rfl) (zz_T0 rfl rfl) (fun Q' P' k h => c_X9_countAmong (a1) M ht h k) h (fun M1 h => ?_)
  refine r_iconst (v := (nI 0)) dX9_mostIn_5 (by decide) ?_
  refine s_istore_n ([some (.ref 0), some (.int a1), some (.int (nI 0)), none]) dX9_mostIn_6 (by decide) rfl rfl ?_
  refine r_iconst (v := (nI 0)) dX9_mostIn_7 (by decide) ?_
  refine s_istore_n ([some (.ref 0), some (.int a1), some (.int (nI 0)), some (.int (nI 0))]) dX9_mostIn_8 (by decide) rfl rfl ?_
  exact w_X9_mostIn_9 (a1) ((nI 0)) ((nI 0)) M1 ht h kR
set_option maxHeartbeats 4000000 in
set_option maxRecDepth 100000 in
theorem c_X9_mostIn {G : zzG} {t : Nat} {Q : Option Value → zzMem → Prop} (a1 : Int32) (M : zzMem) (ht : 180 ≤ t)  {P : (Int32 × zzMem) → Prop} (h : zK (f_X9_mostIn a1 M) P) (kR : ∀ r : (Int32 × zzMem), P r → Q (some (.int r.1)) r.2) : zz_S G m_X9_mostIn t t [.ref 0, .int a1] M Q :=
  zz_S_of (by decide) (by decide) (Nat.le_of_ble_eq_true rfl) (w_X9_mostIn_0 a1 M ht h kR)
noncomputable def b_X9_enough_21 (v1 : Int32) (v2 : Int32) (M : zzMem) : Option ((Int32 × zzMem) ⊕ (Int32 × zzMem)) :=
  if (nI 64) < v2 then
  (some ((.inr ((-2 : Int32), M))))
  else ((f_X9_mostIn v2 M).bind (fun q2 => zpr q2 (fun r3 M4 =>
  if v1 < r3 then
  (zbd (v2 + (nI 1)) (fun x6 =>
  some (.inl (x6, M4))))
  else (some ((.inr (v2, M4)))))))
set_option maxHeartbeats 4000000 in
set_option maxRecDepth 100000 in
theorem x_X9_enough_21 {G : zzG} {t : Nat} {Q : Option Value → zzMem → Prop} (v1 : Int32) (v2 : Int32) (M : zzMem) (ht : 180 ≤ t)  {P : ((Int32 × zzMem) ⊕ (Int32 × zzMem)) → Prop} (h : zK (b_X9_enough_21 v1 v2 M) P) (k21 : ∀ s : (Int32 × zzMem), P (.inl s) → zz_W G m_X9_enough t t t 21 [some (.ref 0), some (.int v1), some (.int s.1)] [] s.2 Q) (kR : ∀ r : (Int32 × zzMem), P (.inr r) → Q (some (.int r.1)) r.2) : zz_W G m_X9_enough t t t 21 [some (.ref 0), some (.int v1), some (.int v2)] [] M Q := by
  unfold b_X9_enough_21 at h
  refine r_iload_n dX9_enough_21 rfl ?_
  refine r_bipush (v := (nI 64)) dX9_enough_22 (by decide) ?_
  refine r_icmp_gt 44 dX9_enough_24 (by decide) (fun c1 => ?_) (fun c1 => ?_)
  · have h := zK_pos h c1
    refine r_bipush (v := (-2 : Int32)) dX9_enough_44 (by decide) ?_
    exact r_iret dX9_enough_46 rfl rfl rfl (kR (((-2 : Int32), M)) (zK_some h))
  · have h := zK_neg h c1
    refine r_aload_n dX9_enough_27 rfl ?_
    refine r_iload_n dX9_enough_28 rfl ?_
    refine kV_iw (as := [.int v2]) (st := []) (k := 0) dX9_enough_29 zM_X9_mostIn zk_X9_281 (zo_X9 (zs_X9 ht)) (by decide) rfl ⟨Nat.le_of_ble_eq_true rfl, Nat.le_of_ble_eq_true rfl⟩ (Nat.le_of_ble_eq_true rfl) (zz_T0 rfl rfl) (fun Q' P' k h => c_X9_mostIn (v2) M ht h (fun r p => k r.1 r.2 p)) h (fun r3 M4 h => ?_)
    have h := zK_pr h
    refine r_iload_n dX9_enough_32 rfl ?_
    refine r_icmp_gt 38 dX9_enough_33 (by decide) (fun c5 => ?_) (fun c5 => ?_)
    · have h := zK_pos h c5
      refine r_iinc (nI 1) (fun x6 => [some (.ref 0), some (.int v1), some (.int x6)]) dX9_enough_38 rfl (by decide) (by decide) rfl (fun _ => rfl) (fun x6 ex6 => ?_)
      have h := zK_bd h ex6
      refine r_goto 21 dX9_enough_41 (by decide) ?_
      exact k21 ((x6, M4)) (zK_some h)
    · have h := zK_neg h c5
      refine r_iload_n dX9_enough_36 rfl ?_
      exact r_iret dX9_enough_37 rfl rfl rfl (kR ((v2, M4)) (zK_some h))
noncomputable def j_X9_enough_21 (v1 : Int32) (v2 : Int32) (M : zzMem) : Option (Int32 × zzMem) :=
  zlp (fun s : (Int32 × zzMem) => b_X9_enough_21 v1 s.1 s.2) (v2, M)
set_option maxHeartbeats 4000000 in
set_option maxRecDepth 100000 in
theorem w_X9_enough_21 {G : zzG} {t : Nat} {Q : Option Value → zzMem → Prop} (v1 : Int32) (v2 : Int32) (M : zzMem) (ht : 180 ≤ t)  {P : (Int32 × zzMem) → Prop} (h : zK (j_X9_enough_21 v1 v2 M) P) (kR : ∀ r : (Int32 × zzMem), P r → Q (some (.int r.1)) r.2) : zz_W G m_X9_enough t t t 21 [some (.ref 0), some (.int v1), some (.int v2)] [] M Q := by
  unfold j_X9_enough_21 at h
  exact zK_lp h (fun s : (Int32 × zzMem) => zz_W G m_X9_enough t t t 21 [some (.ref 0), some (.int v1), some (.int s.1)] [] s.2 Q) (fun s h => x_X9_enough_21 v1 s.1 s.2 ht h (fun s p => p) kR)
noncomputable def f_X9_enough (a1 : Int32) (M : zzMem) : Option (Int32 × zzMem) :=
  if (f_X9_within a1 (nI 1) (nI 300)) = true then
  (zbd ((M.1 12 4)) (fun x2 =>
  j_X9_enough_21 a1 x2 M))
  else (some (((-1 : Int32), M)))
set_option maxHeartbeats 4000000 in
set_option maxRecDepth 100000 in
theorem w_X9_enough_0 {G : zzG} {t : Nat} {Q : Option Value → zzMem → Prop} (a1 : Int32) (M : zzMem) (ht : 180 ≤ t)  {P : (Int32 × zzMem) → Prop} (h : zK (f_X9_enough a1 M) P) (kR : ∀ r : (Int32 × zzMem), P r → Q (some (.int r.1)) r.2) : zz_W G m_X9_enough t t t 0 [some (.ref 0), some (.int a1), none] [] M Q := by
  unfold f_X9_enough at h
  refine r_iload_n dX9_enough_0 rfl ?_
  refine r_iconst (v := (nI 1)) dX9_enough_1 (by decide) ?_
  refine r_sipush (v := (nI 300)) dX9_enough_2 (by decide) ?_
  refine tS_zr (v := f_X9_within a1 (nI 1) (nI 300)) (as := [.int a1, .int (nI 1), .int (nI 300)]) (st := []) dX9_enough_5 zM_X9_within zk_X9_63 ⟨Nat.le_of_ble_eq_true rfl, Nat.le_of_ble_eq_true rfl⟩ (Nat.le_of_ble_eq_true rfl) (zz_T0 rfl rfl) (fun Q' h => c_X9_within (a1) ((nI 1)) ((nI 300)) M h) ?_
  refine r_ifZ_ne 13 dX9_enough_8 (by decide) (fun c1 => ?_) (fun c1 => ?_)
  · have h := zK_pos h c1
    refine r_aload_n dX9_enough_13 rfl ?_
    refine r_getR (k := 0) (q := 12) dX9_enough_14 zf_X9_33 (zo_X9 (zs_X9 ht)) (zr_X9_3 (zs_X9 ht)).1 (zr_X9_3 (zs_X9 ht)).2.1 (zr_X9_3 (zs_X9 ht)).2.2 ?_
    refine r_getI (k := 12) dX9_enough_17 zf_X9_153 (zo_X2 (zc_X9_3 (zs_X9 ht))) (zi_X2_4 (zc_X9_3 (zs_X9 ht))) ?_
    refine r_istore_n (fun x2 => [some (.ref 0), some (.int a1), some (.int x2)]) dX9_enough_20 (by decide) rfl (fun _ => rfl) (fun x2 ex2 => ?_)
    have h := zK_bd h ex2
    exact w_X9_enough_21 (a1) (x2) M ht h kR
  · have h := zK_neg h c1
    refine r_iconst (v := (-1 : Int32)) dX9_enough_11 (by decide) ?_
    exact r_iret dX9_enough_12 rfl rfl rfl (kR (((-1 : Int32), M)) (zK_some h))
set_option maxHeartbeats 4000000 in
set_option maxRecDepth 100000 in
theorem c_X9_enough {G : zzG} {t : Nat} {Q : Option Value → zzMem → Prop} (a1 : Int32) (M : zzMem) (ht : 180 ≤ t)  {P : (Int32 × zzMem) → Prop} (h : zK (f_X9_enough a1 M) P) (kR : ∀ r : (Int32 × zzMem), P r → Q (some (.int r.1)) r.2) : zz_S G m_X9_enough t t [.ref 0, .int a1] M Q :=
  zz_S_of (by decide) (by decide) (Nat.le_of_ble_eq_true rfl) (w_X9_enough_0 a1 M ht h kR)
noncomputable def f_X9_pagesFor (a0 : Int32) (a1 : Int32) : Option Int32 :=
  if (nI 1) ≤ a1 then
  (zgd (¬ a1 = 0) (
  some ((zmx (nI 1) (((a0 + a1) - (nI 1)) / a1)))))
  else (some ((nI 1)))
set_option maxHeartbeats 4000000 in
set_option maxRecDepth 100000 in
theorem w_X9_pagesFor_0 {G : zzG} {t : Nat} {Q : Option Value → zzMem → Prop} (a0 : Int32) (a1 : Int32) (M : zzMem)  {P : Int32 → Prop} (h : zK (f_X9_pagesFor a0 a1) P) (kR : ∀ r : Int32, P r → Q (some (.int r)) M) : zz_W G m_X9_pagesFor t t t 0 [some (.int a0), some (.int a1)] [] M Q := by
  unfold f_X9_pagesFor at h
  refine r_iload_n dX9_pagesFor_0 rfl ?_
  refine r_iconst (v := (nI 1)) dX9_pagesFor_1 (by decide) ?_
  refine r_icmp_ge 9 dX9_pagesFor_2 (by decide) (fun c1 => ?_) (fun c1 => ?_)
  · have h := zK_pos h c1
    refine r_iconst (v := (nI 1)) dX9_pagesFor_9 (by decide) ?_
    refine r_iload_n dX9_pagesFor_10 rfl ?_
    refine r_iload_n dX9_pagesFor_11 rfl ?_
    refine r_iadd dX9_pagesFor_12 ?_
    refine r_iconst (v := (nI 1)) dX9_pagesFor_13 (by decide) ?_
    refine r_isub dX9_pagesFor_14 ?_
    refine r_iload_n dX9_pagesFor_15 rfl ?_
    obtain ⟨g2, h⟩ := zK_gd h
    refine r_idiv dX9_pagesFor_16 g2 ?_
    refine r_mmax dX9_pagesFor_17 zk_X9_287 (Nat.le_of_ble_eq_true rfl) (Nat.le_of_ble_eq_true rfl) ?_
    exact r_iret dX9_pagesFor_20 rfl rfl rfl (kR ((zmx (nI 1) (((a0 + a1) - (nI 1)) / a1))) (zK_some h))
  · have h := zK_neg h c1
    refine r_iconst (v := (nI 1)) dX9_pagesFor_5 (by decide) ?_
    refine r_goto 20 dX9_pagesFor_6 (by decide) ?_
    exact r_iret dX9_pagesFor_20 rfl rfl rfl (kR ((nI 1)) (zK_some h))
set_option maxHeartbeats 4000000 in
set_option maxRecDepth 100000 in
theorem c_X9_pagesFor {G : zzG} {t : Nat} {Q : Option Value → zzMem → Prop} (a0 : Int32) (a1 : Int32) (M : zzMem)  {P : Int32 → Prop} (h : zK (f_X9_pagesFor a0 a1) P) (kR : ∀ r : Int32, P r → Q (some (.int r)) M) : zz_S G m_X9_pagesFor t t [.int a0, .int a1] M Q :=
  zz_S_of (by decide) (by decide) (Nat.le_of_ble_eq_true rfl) (w_X9_pagesFor_0 a0 a1 M  h kR)
noncomputable def f_X9_readsOfAll (a0 : Int32) (a1 : Int32) : Option Int32 :=
  if (nI 1) ≤ a1 then
  (zgd (¬ a1 = 0) (
  zbd ((a0 / a1)) (fun x3 =>
  some (((a1 * ((x3 * (x3 + (nI 1))) / (nI 2))) + ((zrm a0 a1) * (x3 + (nI 1))))))))
  else (some ((nI 0)))
set_option maxHeartbeats 4000000 in
set_option maxRecDepth 100000 in
theorem w_X9_readsOfAll_0 {G : zzG} {t : Nat} {Q : Option Value → zzMem → Prop} (a0 : Int32) (a1 : Int32) (M : zzMem)  {P : Int32 → Prop} (h : zK (f_X9_readsOfAll a0 a1) P) (kR : ∀ r : Int32, P r → Q (some (.int r)) M) : zz_W G m_X9_readsOfAll t t t 0 [some (.int a0), some (.int a1), none] [] M Q := by
  unfold f_X9_readsOfAll at h
  refine r_iload_n dX9_readsOfAll_0 rfl ?_
  refine r_iconst (v := (nI 1)) dX9_readsOfAll_1 (by decide) ?_
  refine r_icmp_ge 7 dX9_readsOfAll_2 (by decide) (fun c1 => ?_) (fun c1 => ?_)
  · have h := zK_pos h c1
    refine r_iload_n dX9_readsOfAll_7 rfl ?_
    refine r_iload_n dX9_readsOfAll_8 rfl ?_
    obtain ⟨g2, h⟩ := zK_gd h
    refine r_idiv dX9_readsOfAll_9 g2 ?_
    refine r_istore_n (fun x3 => [some (.int a0), some (.int a1), some (.int x3)]) dX9_readsOfAll_10 (by decide) rfl (fun _ => rfl) (fun x3 ex3 => ?_)
    have h := zK_bd h ex3
    refine r_iload_n dX9_readsOfAll_11 rfl ?_
    refine r_iload_n dX9_readsOfAll_12 rfl ?_
    refine r_iload_n dX9_readsOfAll_13 rfl ?_
    refine r_iconst (v := (nI 1)) dX9_readsOfAll_14 (by decide) ?_
    refine r_iadd dX9_readsOfAll_15 ?_
    refine r_imul dX9_readsOfAll_16 ?_
    refine r_iconst (v := (nI 2)) dX9_readsOfAll_17 (by decide) ?_
    refine r_idiv dX9_readsOfAll_18 (by decide) ?_
    refine r_imul dX9_readsOfAll_19 ?_
    refine r_iload_n dX9_readsOfAll_20 rfl ?_
    refine r_iload_n dX9_readsOfAll_21 rfl ?_
    refine r_irem dX9_readsOfAll_22 g2 ?_
    refine r_iload_n dX9_readsOfAll_23 rfl ?_
    refine r_iconst (v := (nI 1)) dX9_readsOfAll_24 (by decide) ?_
    refine r_iadd dX9_readsOfAll_25 ?_
    refine r_imul dX9_readsOfAll_26 ?_
    refine r_iadd dX9_readsOfAll_27 ?_
    exact r_iret dX9_readsOfAll_28 rfl rfl rfl (kR (((a1 * ((x3 * (x3 + (nI 1))) / (nI 2))) + ((zrm a0 a1) * (x3 + (nI 1))))) (zK_some h))
  · have h := zK_neg h c1
    refine r_iconst (v := (nI 0)) dX9_readsOfAll_5 (by decide) ?_
    exact r_iret dX9_readsOfAll_6 rfl rfl rfl (kR ((nI 0)) (zK_some h))
set_option maxHeartbeats 4000000 in
set_option maxRecDepth 100000 in
theorem c_X9_readsOfAll {G : zzG} {t : Nat} {Q : Option Value → zzMem → Prop} (a0 : Int32) (a1 : Int32) (M : zzMem)  {P : Int32 → Prop} (h : zK (f_X9_readsOfAll a0 a1) P) (kR : ∀ r : Int32, P r → Q (some (.int r)) M) : zz_S G m_X9_readsOfAll t t [.int a0, .int a1] M Q :=
  zz_S_of (by decide) (by decide) (Nat.le_of_ble_eq_true rfl) (w_X9_readsOfAll_0 a0 a1 M  h kR)
noncomputable def j_X9_anew_101 (v1 : Int32) (v2 : Int32) (v3 : Int32) (v4 : Int32) (v6 : Int32) (v7 : Int32) (v8 : Int32) (s0 : Int32) (ws1 : Bool) (M : zzMem) : Option ((Int32 × Int32 × Int32 × Int32 × Int32) ⊕ (Int32 × zzMem)) :=
  zbd ((s0 + (zb ws1))) (fun x1 =>
  zgd (vp_in v8 64) (
  (f_X9_readsOfAll (M.1 72 (v8).toNatClampNeg) v7).bind (fun r3 =>
  zbd ((v6 + r3)) (fun x4 =>
  zbd (v8 + (nI 1)) (fun x5 =>
  some (.inl (v3, v4, x1, x4, x5)))))))
set_option maxHeartbeats 4000000 in
set_option maxRecDepth 100000 in
theorem w_X9_anew_101 {G : zzG} {t : Nat} {Q : Option Value → zzMem → Prop} (v1 : Int32) (v2 : Int32) (v3 : Int32) (v4 : Int32) (v6 : Int32) (v7 : Int32) (v8 : Int32) (s0 : Int32) (ws1 : Bool) (M : zzMem) (ht : 180 ≤ t)  {P : ((Int32 × Int32 × Int32 × Int32 × Int32) ⊕ (Int32 × zzMem)) → Prop} (h : zK (j_X9_anew_101 v1 v2 v3 v4 v6 v7 v8 s0 ws1 M) P) (k50 : ∀ s : (Int32 × Int32 × Int32 × Int32 × Int32), P (.inl s) → zz_W G m_X9_anew t t t 50 [some (.ref 0), some (.int v1), some (.int v2), some (.int s.1), some (.int s.2.1), some (.int s.2.2.1), some (.int s.2.2.2.1), some (.int v7), some (.int s.2.2.2.2), none] [] M Q) (kR : ∀ r : (Int32 × zzMem), P (.inr r) → Q (some (.int r.1)) r.2) : zz_W G m_X9_anew t t t 101 [some (.ref 0), some (.int v1), some (.int v2), some (.int v3), some (.int v4), none, some (.int v6), some (.int v7), some (.int v8), none] [.int (zb ws1), .int s0] M Q := by
  unfold j_X9_anew_101 at h
  refine r_iadd dX9_anew_101 ?_
  refine r_istore (fun x1 => [some (.ref 0), some (.int v1), some (.int v2), some (.int v3), some (.int v4), some (.int x1), some (.int v6), some (.int v7), some (.int v8), none]) dX9_anew_102 (by decide) rfl (fun _ => rfl) (fun x1 ex1 => ?_)
  have h := zK_bd h ex1
  refine r_iload dX9_anew_104 rfl ?_
  refine r_aload_n dX9_anew_106 rfl ?_
  refine r_getR (k := 0) (q := 72) dX9_anew_107 zf_X9_43 (zo_X9 (zs_X9 ht)) (zr_X9_6 (zs_X9 ht)).1 (zr_X9_6 (zs_X9 ht)).2.1 (zr_X9_6 (zs_X9 ht)).2.2 ?_
  refine r_iload dX9_anew_110 rfl ?_
  obtain ⟨g2, h⟩ := zK_gd h
  refine r_iald dX9_anew_112 (za_X9_6 (zs_X9 ht)) g2 ?_
  refine r_iload dX9_anew_113 rfl ?_
  refine kS_ir (as := [.int (M.1 72 (v8).toNatClampNeg), .int v7]) (st := [.int v6]) dX9_anew_115 zM_X9_readsOfAll zk_X9_310 ⟨Nat.le_of_ble_eq_true rfl, Nat.le_of_ble_eq_true rfl⟩ (Nat.le_of_ble_eq_true rfl) (zz_T0 rfl rfl) (fun Q' P' k h => c_X9_readsOfAll ((M.1 72 (v8).toNatClampNeg)) (v7) M h k) h (fun r3 h => ?_)
  refine r_iadd dX9_anew_118 ?_
  refine r_istore (fun x4 => [some (.ref 0), some (.int v1), some (.int v2), some (.int v3), some (.int v4), some (.int x1), some (.int x4), some (.int v7), some (.int v8), none]) dX9_anew_119 (by decide) rfl (fun _ => rfl) (fun x4 ex4 => ?_)
  have h := zK_bd h ex4
  refine r_iinc (nI 1) (fun x5 => [some (.ref 0), some (.int v1), some (.int v2), some (.int v3), some (.int v4), some (.int x1), some (.int x4), some (.int v7), some (.int x5), none]) dX9_anew_121 rfl (by decide) (by decide) rfl (fun _ => rfl) (fun x5 ex5 => ?_)
  have h := zK_bd h ex5
  refine r_goto 50 dX9_anew_124 (by decide) ?_
  exact k50 ((v3, v4, x1, x4, x5)) (zK_some h)
noncomputable def b_X9_anew_50 (v1 : Int32) (v2 : Int32) (v3 : Int32) (v4 : Int32) (v5 : Int32) (v6 : Int32) (v7 : Int32) (v8 : Int32) (M : zzMem) : Option ((Int32 × Int32 × Int32 × Int32 × Int32) ⊕ (Int32 × zzMem)) :=
  if v1 ≤ v8 then
  (if v2 = (nI 0) then
  (some ((.inr (v3, M))))
  else if v2 = (nI 1) then
  (some ((.inr (v4, M))))
  else if v2 = (nI 2) then
  (some ((.inr (v5, M))))
  else (some ((.inr (v6, M)))))
  else (zgd (vp_in v8 64) (
  (f_X9_pagesFor (M.1 72 (v8).toNatClampNeg) v7).bind (fun r6 =>
  zbd ((v3 + r6)) (fun x7 =>
  zbd ((zmx v4 r6)) (fun x8 =>
  if (M.1 72 (v8).toNatClampNeg) = 0 then
  (j_X9_anew_101 v1 v2 x7 x8 v6 v7 v8 v5 true M)
  else (j_X9_anew_101 v1 v2 x7 x8 v6 v7 v8 v5 false M))))))
set_option maxHeartbeats 4000000 in
set_option maxRecDepth 100000 in
theorem x_X9_anew_50 {G : zzG} {t : Nat} {Q : Option Value → zzMem → Prop} (v1 : Int32) (v2 : Int32) (v3 : Int32) (v4 : Int32) (v5 : Int32) (v6 : Int32) (v7 : Int32) (v8 : Int32) (M : zzMem) (ht : 180 ≤ t)  {P : ((Int32 × Int32 × Int32 × Int32 × Int32) ⊕ (Int32 × zzMem)) → Prop} (h : zK (b_X9_anew_50 v1 v2 v3 v4 v5 v6 v7 v8 M) P) (k50 : ∀ s : (Int32 × Int32 × Int32 × Int32 × Int32), P (.inl s) → zz_W G m_X9_anew t t t 50 [some (.ref 0), some (.int v1), some (.int v2), some (.int s.1), some (.int s.2.1), some (.int s.2.2.1), some (.int s.2.2.2.1), some (.int v7), some (.int s.2.2.2.2), none] [] M Q) (kR : ∀ r : (Int32 × zzMem), P (.inr r) → Q (some (.int r.1)) r.2) : zz_W G m_X9_anew t t t 50 [some (.ref 0), some (.int v1), some (.int v2), some (.int v3), some (.int v4), some (.int v5), some (.int v6), some (.int v7), some (.int v8), none] [] M Q := by
  unfold b_X9_anew_50 at h
  refine r_iload dX9_anew_50 rfl ?_
  refine r_iload_n dX9_anew_52 rfl ?_
  refine r_icmp_ge 127 dX9_anew_53 (by decide) (fun c1 => ?_) (fun c1 => ?_)
  · have h := zK_pos h c1
    refine r_iload_n dX9_anew_127 rfl ?_
    by_cases c2 : v2 = (nI 0)
    · have h := zK_pos h c2
      refine r_tabIn (off := 28) 156 dX9_anew_128 (by rw [c2]; first | done | decide) (by rw [c2]; first | done | decide) (by rw [c2]; first | done | decide) (by decide) ?_
      refine r_iload_n dX9_anew_156 rfl ?_
      exact r_iret dX9_anew_157 rfl rfl rfl (kR ((v3, M)) (zK_some h))
    · have h := zK_neg h c2
      by_cases c3 : v2 = (nI 1)
      · have h := zK_pos h c3
        refine r_tabIn (off := 30) 158 dX9_anew_128 (by rw [c3]; first | done | decide) (by rw [c3]; first | done | decide) (by rw [c3]; first | done | decide) (by decide) ?_
        refine r_iload dX9_anew_158 rfl ?_
        exact r_iret dX9_anew_160 rfl rfl rfl (kR ((v4, M)) (zK_some h))
      · have h := zK_neg h c3
        by_cases c4 : v2 = (nI 2)
        · have h := zK_pos h c4
          refine r_tabIn (off := 33) 161 dX9_anew_128 (by rw [c4]; first | done | decide) (by rw [c4]; first | done | decide) (by rw [c4]; first | done | decide) (by decide) ?_
          refine r_iload dX9_anew_161 rfl ?_
          exact r_iret dX9_anew_163 rfl rfl rfl (kR ((v5, M)) (zK_some h))
        · have h := zK_neg h c4
          have hD : zz_W G m_X9_anew t t t 164 [some (.ref 0), some (.int v1), some (.int v2), some (.int v3), some (.int v4), some (.int v5), some (.int v6), some (.int v7), some (.int v8), none] [] M Q := by
            refine r_iload dX9_anew_164 rfl ?_
            exact r_iret dX9_anew_166 rfl rfl rfl (kR ((v6, M)) (zK_some h))
          refine r_tabOut 164 dX9_anew_128 (zz_tab_out (n := 3) (fun i hi => ?_) (by decide)) (by decide) hD
          exact match i, hi with
          | 0, _ => fun e => c2 (e.trans (by decide))
          | 1, _ => fun e => c3 (e.trans (by decide))
          | 2, _ => fun e => c4 (e.trans (by decide))
          | k + 3, hk => absurd hk (by omega)
  · have h := zK_neg h c1
    refine r_aload_n dX9_anew_56 rfl ?_
    refine r_getR (k := 0) (q := 72) dX9_anew_57 zf_X9_43 (zo_X9 (zs_X9 ht)) (zr_X9_6 (zs_X9 ht)).1 (zr_X9_6 (zs_X9 ht)).2.1 (zr_X9_6 (zs_X9 ht)).2.2 ?_
    refine r_iload dX9_anew_60 rfl ?_
    obtain ⟨g5, h⟩ := zK_gd h
    refine r_iald dX9_anew_62 (za_X9_6 (zs_X9 ht)) g5 ?_
    refine r_iload dX9_anew_63 rfl ?_
    refine kS_ir (as := [.int (M.1 72 (v8).toNatClampNeg), .int v7]) (st := []) dX9_anew_65 zM_X9_pagesFor zk_X9_307 ⟨Nat.le_of_ble_eq_true rfl, Nat.le_of_ble_eq_true rfl⟩ (Nat.le_of_ble_eq_true rfl) (zz_T0 rfl rfl) (fun Q' P' k h => c_X9_pagesFor ((M.1 72 (v8).toNatClampNeg)) (v7) M h k) h (fun r6 h => ?_)
    refine s_istore ([some (.ref 0), some (.int v1), some (.int v2), some (.int v3), some (.int v4), some (.int v5), some (.int v6), some (.int v7), some (.int v8), some (.int r6)]) dX9_anew_68 (by decide) rfl rfl ?_
    refine r_iload_n dX9_anew_70 rfl ?_
    refine r_iload dX9_anew_71 rfl ?_
    refine r_iadd dX9_anew_73 ?_
    refine r_istore_n (fun x7 => [some (.ref 0), some (.int v1), some (.int v2), some (.int x7), some (.int v4), some (.int v5), some (.int v6), some (.int v7), some (.int v8), some (.int r6)]) dX9_anew_74 (by decide) rfl (fun _ => rfl) (fun x7 ex7 => ?_)
    have h := zK_bd h ex7
    refine r_iload dX9_anew_75 rfl ?_
    refine r_iload dX9_anew_77 rfl ?_
    refine r_mmax dX9_anew_79 zk_X9_287 (Nat.le_of_ble_eq_true rfl) (Nat.le_of_ble_eq_true rfl) ?_
    refine r_istore (fun x8 => [some (.ref 0), some (.int v1), some (.int v2), some (.int x7), some (.int x8), some (.int v5), some (.int v6), some (.int v7), some (.int v8), some (.int r6)]) dX9_anew_82 (by decide) rfl (fun _ => rfl) (fun x8 ex8 => ?_)
    have h := zK_bd h ex8
    refine r_iload dX9_anew_84 rfl ?_
    refine r_aload_n dX9_anew_86 rfl ?_
    refine r_getR (k := 0) (q := 72) dX9_anew_87 zf_X9_43 (zo_X9 (zs_X9 ht)) (zr_X9_6 (zs_X9 ht)).1 (zr_X9_6 (zs_X9 ht)).2.1 (zr_X9_6 (zs_X9 ht)).2.2 ?_
    refine r_iload dX9_anew_90 rfl ?_
    refine r_iald dX9_anew_92 (za_X9_6 (zs_X9 ht)) g5 ?_
    refine r_if_ne 100 dX9_anew_93 (by decide) (fun c9 => ?_) (fun c9 => ?_)
    · have h := zK_neg h c9
      refine r_iconst (v := (nI 0)) dX9_anew_100 (by decide) ?_
      refine zz_mask [5, 9] ?_
      exact w_X9_anew_101 (v1) (v2) (x7) (x8) (v6) (v7) (v8) (v5) (false) M ht h k50 kR
    · have h := zK_pos h c9
      refine r_iconst (v := (nI 1)) dX9_anew_96 (by decide) ?_
      refine r_goto 101 dX9_anew_97 (by decide) ?_
      refine zz_mask [5, 9] ?_
      exact w_X9_anew_101 (v1) (v2) (x7) (x8) (v6) (v7) (v8) (v5) (true) M ht h k50 kR
noncomputable def j_X9_anew_50 (v1 : Int32) (v2 : Int32) (v3 : Int32) (v4 : Int32) (v5 : Int32) (v6 : Int32) (v7 : Int32) (v8 : Int32) (M : zzMem) : Option (Int32 × zzMem) :=
  zlp (fun s : (Int32 × Int32 × Int32 × Int32 × Int32) => b_X9_anew_50 v1 v2 s.1 s.2.1 s.2.2.1 s.2.2.2.1 v7 s.2.2.2.2 M) (v3, v4, v5, v6, v8)
set_option maxHeartbeats 4000000 in
set_option maxRecDepth 100000 in
theorem w_X9_anew_50 {G : zzG} {t : Nat} {Q : Option Value → zzMem → Prop} (v1 : Int32) (v2 : Int32) (v3 : Int32) (v4 : Int32) (v5 : Int32) (v6 : Int32) (v7 : Int32) (v8 : Int32) (M : zzMem) (ht : 180 ≤ t)  {P : (Int32 × zzMem) → Prop} (h : zK (j_X9_anew_50 v1 v2 v3 v4 v5 v6 v7 v8 M) P) (kR : ∀ r : (Int32 × zzMem), P r → Q (some (.int r.1)) r.2) : zz_W G m_X9_anew t t t 50 [some (.ref 0), some (.int v1), some (.int v2), some (.int v3), some (.int v4), some (.int v5), some (.int v6), some (.int v7), some (.int v8), none] [] M Q := by
  unfold j_X9_anew_50 at h
  exact zK_lp h (fun s : (Int32 × Int32 × Int32 × Int32 × Int32) => zz_W G m_X9_anew t t t 50 [some (.ref 0), some (.int v1), some (.int v2), some (.int s.1), some (.int s.2.1), some (.int s.2.2.1), some (.int s.2.2.2.1), some (.int v7), some (.int s.2.2.2.2), none] [] M Q) (fun s h => x_X9_anew_50 v1 v2 s.1 s.2.1 s.2.2.1 s.2.2.2.1 v7 s.2.2.2.2 M ht h (fun s p => p) kR)
noncomputable def f_X9_anew (a1 : Int32) (a2 : Int32) (M : zzMem) : Option (Int32 × zzMem) :=
  if (f_X9_isAmount a1 M) = true then
  (if (f_X9_within a2 (nI 0) (nI 3)) = true then
  ((f_X9_countAmong a1 M).bind (fun M3 =>
  zbd ((M3.1 16 11)) (fun x4 =>
  j_X9_anew_50 a1 a2 (nI 0) (nI 0) (nI 0) (nI 0) x4 (nI 0) M3)))
  else (some (((-1 : Int32), M))))
  else (some (((-1 : Int32), M)))
set_option maxHeartbeats 4000000 in
set_option maxRecDepth 100000 in
theorem w_X9_anew_0 {G : zzG} {t : Nat} {Q : Option Value → zzMem → Prop} (a1 : Int32) (a2 : Int32) (M : zzMem) (ht : 180 ≤ t)  {P : (Int32 × zzMem) → Prop} (h : zK (f_X9_anew a1 a2 M) P) (kR : ∀ r : (Int32 × zzMem), P r → Q (some (.int r.1)) r.2) : zz_W G m_X9_anew t t t 0 [some (.ref 0), some (.int a1), some (.int a2), none, none, none, none, none, none, none] [] M Q := by
  unfold f_X9_anew at h
  refine r_aload_n dX9_anew_0 rfl ?_
  refine r_iload_n dX9_anew_1 rfl ?_
  refine tV_zr (v := f_X9_isAmount a1 M) (as := [.int a1]) (st := []) (k := 0) dX9_anew_2 zM_X9_isAmount zk_X9_225 (zo_X9 (zs_X9 ht)) (by decide) rfl ⟨Nat.le_of_ble_eq_true rfl, Nat.le_of_ble_eq_true rfl⟩ (Nat.le_of_ble_eq_true rfl) (zz_T0 rfl rfl) (fun Q' h => c_X9_isAmount (a1) M ht h) ?_
  refine r_ifZ_eq 17 dX9_anew_5 (by decide) (fun c1 => ?_) (fun c1 => ?_)
  · have h := zK_neg h c1
    refine r_iconst (v := (-1 : Int32)) dX9_anew_17 (by decide) ?_
    exact r_iret dX9_anew_18 rfl rfl rfl (kR (((-1 : Int32), M)) (zK_some h))
  · have h := zK_pos h c1
    refine r_iload_n dX9_anew_8 rfl ?_
    refine r_iconst (v := (nI 0)) dX9_anew_9 (by decide) ?_
    refine r_iconst (v := (nI 3)) dX9_anew_10 (by decide) ?_
    refine tS_zr (v := f_X9_within a2 (nI 0) (nI 3)) (as := [.int a2, .int (nI 0), .int (nI 3)]) (st := []) dX9_anew_11 zM_X9_within zk_X9_63 ⟨Nat.le_of_ble_eq_true rfl, Nat.le_of_ble_eq_true rfl⟩ (Nat.le_of_ble_eq_true rfl) (zz_T0 rfl rfl) (fun Q' h => c_X9_within (a2) ((nI 0)) ((nI 3)) M h) ?_
    refine r_ifZ_ne 19 dX9_anew_14 (by decide) (fun c2 => ?_) (fun c2 => ?_)
    · have h := zK_pos h c2
      refine r_aload_n dX9_anew_19 rfl ?_
      refine r_iload_n dX9_anew_20 rfl ?_
      refine kV_vw (as := [.int a1]) (st := []) (k := 0) dX9_anew_21 zM_X9_countAmong zk_X9_284 (zo_X9 (zs_X9 ht)) (by decide) rfl ⟨Nat.le_of_ble_eq_true rfl, Nat.le_of_ble_eq_true rfl⟩ (Nat.le_of_ble_eq_true rfl) (zz_T0 rfl rfl) (fun Q' P' k h => c_X9_countAmong (a1) M ht h k) h (fun M3 h => ?_)
      refine r_iconst (v := (nI 0)) dX9_anew_24 (by decide) ?_
      refine s_istore_n ([some (.ref 0), some (.int a1), some (.int a2), some (.int (nI 0)), none, none, none, none, none, none]) dX9_anew_25 (by decide) rfl rfl ?_
      refine r_iconst (v := (nI 0)) dX9_anew_26 (by decide) ?_
      refine s_istore ([some (.ref 0), some (.int a1), some (.int a2), some (.int (nI 0)), some (.int (nI 0)), none, none, none, none, none]) dX9_anew_27 (by decide) rfl rfl ?_
      refine r_iconst (v := (nI 0)) dX9_anew_29 (by decide) ?_
      refine s_istore ([some (.ref 0), some (.int a1), some (.int a2), some (.int (nI 0)), some (.int (nI 0)), some (.int (nI 0)), none, none, none, none]) dX9_anew_30 (by decide) rfl rfl ?_
      refine r_iconst (v := (nI 0)) dX9_anew_32 (by decide) ?_
      refine s_istore ([some (.ref 0), some (.int a1), some (.int a2), some (.int (nI 0)), some (.int (nI 0)), some (.int (nI 0)), some (.int (nI 0)), none, none, none]) dX9_anew_33 (by decide) rfl rfl ?_
      refine r_aload_n dX9_anew_35 rfl ?_
      refine r_getR (k := 0) (q := 12) dX9_anew_36 zf_X9_33 (zo_X9 (zs_X9 ht)) (zr_X9_3 (zs_X9 ht)).1 (zr_X9_3 (zs_X9 ht)).2.1 (zr_X9_3 (zs_X9 ht)).2.2 ?_
      refine r_getR (k := 12) (q := 16) dX9_anew_39 zf_X9_156 (zo_X2 (zc_X9_3 (zs_X9 ht))) (zr_X2_1 (zc_X9_3 (zs_X9 ht))).1 (zr_X2_1 (zc_X9_3 (zs_X9 ht))).2.1 (zr_X2_1 (zc_X9_3 (zs_X9 ht))).2.2 ?_
      refine r_getI (k := 16) dX9_anew_42 zf_X9_160 (zo_X0 (zc_X2_1 (zc_X9_3 (zs_X9 ht)))) (zi_X0_11 (zc_X2_1 (zc_X9_3 (zs_X9 ht)))) ?_
      refine r_istore (fun x4 => [some (.ref 0), some (.int a1), some (.int a2), some (.int (nI 0)), some (.int (nI 0)), some (.int (nI 0)), some (.int (nI 0)), some (.int x4), none, none]) dX9_anew_45 (by decide) rfl (fun _ => rfl) (fun x4 ex4 => ?_)
      have h := zK_bd h ex4
      refine r_iconst (v := (nI 0)) dX9_anew_47 (by decide) ?_
      refine s_istore ([some (.ref 0), some (.int a1), some (.int a2), some (.int (nI 0)), some (.int (nI 0)), some (.int (nI 0)), some (.int (nI 0)), some (.int x4), some (.int (nI 0)), none]) dX9_anew_48 (by decide) rfl rfl ?_
      exact w_X9_anew_50 (a1) (a2) ((nI 0)) ((nI 0)) ((nI 0)) ((nI 0)) (x4) ((nI 0)) M3 ht h kR
    · have h := zK_neg h c2
      refine r_iconst (v := (-1 : Int32)) dX9_anew_17 (by decide) ?_
      exact r_iret dX9_anew_18 rfl rfl rfl (kR (((-1 : Int32), M)) (zK_some h))
set_option maxHeartbeats 4000000 in
set_option maxRecDepth 100000 in
theorem c_X9_anew {G : zzG} {t : Nat} {Q : Option Value → zzMem → Prop} (a1 : Int32) (a2 : Int32) (M : zzMem) (ht : 180 ≤ t)  {P : (Int32 × zzMem) → Prop} (h : zK (f_X9_anew a1 a2 M) P) (kR : ∀ r : (Int32 × zzMem), P r → Q (some (.int r.1)) r.2) : zz_S G m_X9_anew t t [.ref 0, .int a1, .int a2] M Q :=
  zz_S_of (by decide) (by decide) (Nat.le_of_ble_eq_true rfl) (w_X9_anew_0 a1 a2 M ht h kR)
noncomputable def j_X9_isWritten_76 (v1 : Int32) (v3 : Int32) (s0 : Int32) (M : zzMem) : Option Bool :=
  zgd (vp_in v1 256) (
  if v3 ≤ (s0 + (M.1 58 (v1).toNatClampNeg)) then
  (some false)
  else (some true))
set_option maxHeartbeats 4000000 in
set_option maxRecDepth 100000 in
theorem w_X9_isWritten_76 {G : zzG} {t : Nat} {Q : Option Value → zzMem → Prop} (v1 : Int32) (v3 : Int32) (s0 : Int32) (M : zzMem) (ht : 180 ≤ t)  {P : Bool → Prop} (h : zK (j_X9_isWritten_76 v1 v3 s0 M) P) (kR : ∀ r : Bool, P r → Q (some (.int (zb r))) M) : zz_W G m_X9_isWritten t t t 76 [some (.ref 0), some (.int v1), none, some (.int v3), none, none, none] [.int s0] M Q := by
  unfold j_X9_isWritten_76 at h
  refine s_istore ([some (.ref 0), some (.int v1), none, some (.int v3), none, none, some (.int s0)]) dX9_isWritten_76 (by decide) rfl rfl ?_
  refine r_iload dX9_isWritten_78 rfl ?_
  refine r_aload_n dX9_isWritten_80 rfl ?_
  refine r_getR (k := 0) (q := 52) dX9_isWritten_81 zf_X9_40 (zo_X9 (zs_X9 ht)) (zr_X9_5 (zs_X9 ht)).1 (zr_X9_5 (zs_X9 ht)).2.1 (zr_X9_5 (zs_X9 ht)).2.2 ?_
  refine r_getR (k := 52) (q := 56) dX9_isWritten_84 zf_X9_156 (zo_X2 (zc_X9_5 (zs_X9 ht))) (zr_X2_1 (zc_X9_5 (zs_X9 ht))).1 (zr_X2_1 (zc_X9_5 (zs_X9 ht))).2.1 (zr_X2_1 (zc_X9_5 (zs_X9 ht))).2.2 ?_
  refine r_getR (k := 56) (q := 58) dX9_isWritten_87 zf_X9_259 (zo_X0 (zc_X2_1 (zc_X9_5 (zs_X9 ht)))) (zr_X0_1 (zc_X2_1 (zc_X9_5 (zs_X9 ht)))).1 (zr_X0_1 (zc_X2_1 (zc_X9_5 (zs_X9 ht)))).2.1 (zr_X0_1 (zc_X2_1 (zc_X9_5 (zs_X9 ht)))).2.2 ?_
  refine r_iload_n dX9_isWritten_90 rfl ?_
  obtain ⟨g1, h⟩ := zK_gd h
  refine r_iald dX9_isWritten_91 (za_X0_1 (zc_X2_1 (zc_X9_5 (zs_X9 ht)))) g1 ?_
  refine r_iadd dX9_isWritten_92 ?_
  refine r_iload_n dX9_isWritten_93 rfl ?_
  refine r_icmp_ge 101 dX9_isWritten_94 (by decide) (fun c2 => ?_) (fun c2 => ?_)
  · have h := zK_pos h c2
    refine r_iconst (v := (nI 0)) dX9_isWritten_101 (by decide) ?_
    exact r_zret (b := false) dX9_isWritten_102 rfl rfl rfl (kR (false) (zK_some h))
  · have h := zK_neg h c2
    refine r_iconst (v := (nI 1)) dX9_isWritten_97 (by decide) ?_
    refine r_goto 102 dX9_isWritten_98 (by decide) ?_
    exact r_zret (b := true) dX9_isWritten_102 rfl rfl rfl (kR (true) (zK_some h))
noncomputable def j_X9_isWritten_54 (v1 : Int32) (v2 : Int32) (v3 : Int32) (v5 : Int32) (M : zzMem) : Option Bool :=
  if v5 = v2 then
  (j_X9_isWritten_76 v1 v3 (nI 0) M)
  else (zgd (vp_in v2 64) (
  j_X9_isWritten_76 v1 v3 (M.1 65 (v2).toNatClampNeg) M))
set_option maxHeartbeats 4000000 in
set_option maxRecDepth 100000 in
theorem w_X9_isWritten_54 {G : zzG} {t : Nat} {Q : Option Value → zzMem → Prop} (v1 : Int32) (v2 : Int32) (v3 : Int32) (v5 : Int32) (M : zzMem) (ht : 180 ≤ t)  {P : Bool → Prop} (h : zK (j_X9_isWritten_54 v1 v2 v3 v5 M) P) (kR : ∀ r : Bool, P r → Q (some (.int (zb r))) M) : zz_W G m_X9_isWritten t t t 54 [some (.ref 0), some (.int v1), some (.int v2), some (.int v3), none, some (.int v5), none] [] M Q := by
  unfold j_X9_isWritten_54 at h
  refine r_iload dX9_isWritten_54 rfl ?_
  refine r_iload_n dX9_isWritten_56 rfl ?_
  refine r_icmp_ne 64 dX9_isWritten_57 (by decide) (fun c1 => ?_) (fun c1 => ?_)
  · have h := zK_neg h c1
    refine r_aload_n dX9_isWritten_64 rfl ?_
    refine r_getR (k := 0) (q := 52) dX9_isWritten_65 zf_X9_40 (zo_X9 (zs_X9 ht)) (zr_X9_5 (zs_X9 ht)).1 (zr_X9_5 (zs_X9 ht)).2.1 (zr_X9_5 (zs_X9 ht)).2.2 ?_
    refine r_getR (k := 52) (q := 56) dX9_isWritten_68 zf_X9_156 (zo_X2 (zc_X9_5 (zs_X9 ht))) (zr_X2_1 (zc_X9_5 (zs_X9 ht))).1 (zr_X2_1 (zc_X9_5 (zs_X9 ht))).2.1 (zr_X2_1 (zc_X9_5 (zs_X9 ht))).2.2 ?_
    refine r_getR (k := 56) (q := 65) dX9_isWritten_71 zf_X9_240 (zo_X0 (zc_X2_1 (zc_X9_5 (zs_X9 ht)))) (zr_X0_8 (zc_X2_1 (zc_X9_5 (zs_X9 ht)))).1 (zr_X0_8 (zc_X2_1 (zc_X9_5 (zs_X9 ht)))).2.1 (zr_X0_8 (zc_X2_1 (zc_X9_5 (zs_X9 ht)))).2.2 ?_
    refine r_iload_n dX9_isWritten_74 rfl ?_
    obtain ⟨g2, h⟩ := zK_gd h
    refine r_iald dX9_isWritten_75 (za_X0_8 (zc_X2_1 (zc_X9_5 (zs_X9 ht)))) g2 ?_
    refine zz_mask [2, 5] ?_
    exact w_X9_isWritten_76 (v1) (v3) ((M.1 65 (v2).toNatClampNeg)) M ht h kR
  · have h := zK_pos h c1
    refine r_iconst (v := (nI 0)) dX9_isWritten_60 (by decide) ?_
    refine r_goto 76 dX9_isWritten_61 (by decide) ?_
    refine zz_mask [2, 5] ?_
    exact w_X9_isWritten_76 (v1) (v3) ((nI 0)) M ht h kR
noncomputable def f_X9_isWritten (a1 : Int32) (a2 : Int32) (a3 : Int32) (M : zzMem) : Option Bool :=
  if a1 = (-1 : Int32) then
  (some false)
  else (zbd ((M.1 12 9)) (fun x2 =>
  zgd (vp_in a1 256) (
  zbd ((M.1 57 (a1).toNatClampNeg)) (fun x4 =>
  if x4 = x2 then
  (j_X9_isWritten_54 a1 a2 a3 x4 M)
  else (if x4 = ((f_X2_span 12 M) + x2) then
  (j_X9_isWritten_54 a1 a2 a3 x4 M)
  else (some false))))))
set_option maxHeartbeats 4000000 in
set_option maxRecDepth 100000 in
theorem w_X9_isWritten_0 {G : zzG} {t : Nat} {Q : Option Value → zzMem → Prop} (a1 : Int32) (a2 : Int32) (a3 : Int32) (M : zzMem) (ht : 180 ≤ t)  {P : Bool → Prop} (h : zK (f_X9_isWritten a1 a2 a3 M) P) (kR : ∀ r : Bool, P r → Q (some (.int (zb r))) M) : zz_W G m_X9_isWritten t t t 0 [some (.ref 0), some (.int a1), some (.int a2), some (.int a3), none, none, none] [] M Q := by
  unfold f_X9_isWritten at h
  refine r_iload_n dX9_isWritten_0 rfl ?_
  refine r_iconst (v := (-1 : Int32)) dX9_isWritten_1 (by decide) ?_
  refine r_icmp_ne 7 dX9_isWritten_2 (by decide) (fun c1 => ?_) (fun c1 => ?_)
  · have h := zK_neg h c1
    refine r_aload_n dX9_isWritten_7 rfl ?_
    refine r_getR (k := 0) (q := 12) dX9_isWritten_8 zf_X9_33 (zo_X9 (zs_X9 ht)) (zr_X9_3 (zs_X9 ht)).1 (zr_X9_3 (zs_X9 ht)).2.1 (zr_X9_3 (zs_X9 ht)).2.2 ?_
    refine r_getI (k := 12) dX9_isWritten_11 zf_X9_177 (zo_X2 (zc_X9_3 (zs_X9 ht))) (zi_X2_9 (zc_X9_3 (zs_X9 ht))) ?_
    refine r_istore (fun x2 => [some (.ref 0), some (.int a1), some (.int a2), some (.int a3), some (.int x2), none, none]) dX9_isWritten_14 (by decide) rfl (fun _ => rfl) (fun x2 ex2 => ?_)
    have h := zK_bd h ex2
    refine r_aload_n dX9_isWritten_16 rfl ?_
    refine r_getR (k := 0) (q := 52) dX9_isWritten_17 zf_X9_40 (zo_X9 (zs_X9 ht)) (zr_X9_5 (zs_X9 ht)).1 (zr_X9_5 (zs_X9 ht)).2.1 (zr_X9_5 (zs_X9 ht)).2.2 ?_
    refine r_getR (k := 52) (q := 56) dX9_isWritten_20 zf_X9_156 (zo_X2 (zc_X9_5 (zs_X9 ht))) (zr_X2_1 (zc_X9_5 (zs_X9 ht))).1 (zr_X2_1 (zc_X9_5 (zs_X9 ht))).2.1 (zr_X2_1 (zc_X9_5 (zs_X9 ht))).2.2 ?_
    refine r_getR (k := 56) (q := 57) dX9_isWritten_23 zf_X9_243 (zo_X0 (zc_X2_1 (zc_X9_5 (zs_X9 ht)))) (zr_X0_0 (zc_X2_1 (zc_X9_5 (zs_X9 ht)))).1 (zr_X0_0 (zc_X2_1 (zc_X9_5 (zs_X9 ht)))).2.1 (zr_X0_0 (zc_X2_1 (zc_X9_5 (zs_X9 ht)))).2.2 ?_
    refine r_iload_n dX9_isWritten_26 rfl ?_
    obtain ⟨g3, h⟩ := zK_gd h
    refine r_iald dX9_isWritten_27 (za_X0_0 (zc_X2_1 (zc_X9_5 (zs_X9 ht)))) g3 ?_
    refine r_istore (fun x4 => [some (.ref 0), some (.int a1), some (.int a2), some (.int a3), some (.int x2), some (.int x4), none]) dX9_isWritten_28 (by decide) rfl (fun _ => rfl) (fun x4 ex4 => ?_)
    have h := zK_bd h ex4
    refine r_iload dX9_isWritten_30 rfl ?_
    refine r_iload dX9_isWritten_32 rfl ?_
    refine r_icmp_eq 54 dX9_isWritten_34 (by decide) (fun c5 => ?_) (fun c5 => ?_)
    · have h := zK_pos h c5
      refine zz_mask [4] ?_
      exact w_X9_isWritten_54 (a1) (a2) (a3) (x4) M ht h kR
    · have h := zK_neg h c5
      refine r_iload dX9_isWritten_37 rfl ?_
      refine r_aload_n dX9_isWritten_39 rfl ?_
      refine r_getR (k := 0) (q := 12) dX9_isWritten_40 zf_X9_33 (zo_X9 (zs_X9 ht)) (zr_X9_3 (zs_X9 ht)).1 (zr_X9_3 (zs_X9 ht)).2.1 (zr_X9_3 (zs_X9 ht)).2.2 ?_
      refine tV_ir (v := f_X2_span 12 M) (as := []) (st := [.int x4]) (k := 12) dX9_isWritten_43 zM_X2_span zk_X9_317 (zo_X2 (zc_X9_3 (zs_X9 ht))) (by decide) rfl ⟨Nat.le_of_ble_eq_true rfl, Nat.le_of_ble_eq_true rfl⟩ (Nat.le_of_ble_eq_true rfl) (zz_T0 rfl rfl) (fun Q' h => c_X2_span (12) M (zc_X9_3 (zs_X9 ht)) h) ?_
      refine r_iload dX9_isWritten_46 rfl ?_
      refine r_iadd dX9_isWritten_48 ?_
      refine r_icmp_eq 54 dX9_isWritten_49 (by decide) (fun c6 => ?_) (fun c6 => ?_)
      · have h := zK_pos h c6
        refine zz_mask [4] ?_
        exact w_X9_isWritten_54 (a1) (a2) (a3) (x4) M ht h kR
      · have h := zK_neg h c6
        refine r_iconst (v := (nI 0)) dX9_isWritten_52 (by decide) ?_
        exact r_zret (b := false) dX9_isWritten_53 rfl rfl rfl (kR (false) (zK_some h))
  · have h := zK_pos h c1
    refine r_iconst (v := (nI 0)) dX9_isWritten_5 (by decide) ?_
    exact r_zret (b := false) dX9_isWritten_6 rfl rfl rfl (kR (false) (zK_some h))
set_option maxHeartbeats 4000000 in
set_option maxRecDepth 100000 in
theorem c_X9_isWritten {G : zzG} {t : Nat} {Q : Option Value → zzMem → Prop} (a1 : Int32) (a2 : Int32) (a3 : Int32) (M : zzMem) (ht : 180 ≤ t)  {P : Bool → Prop} (h : zK (f_X9_isWritten a1 a2 a3 M) P) (kR : ∀ r : Bool, P r → Q (some (.int (zb r))) M) : zz_S G m_X9_isWritten t t [.ref 0, .int a1, .int a2, .int a3] M Q :=
  zz_S_of (by decide) (by decide) (Nat.le_of_ble_eq_true rfl) (w_X9_isWritten_0 a1 a2 a3 M ht h kR)
noncomputable def j_X9_torn_295 (v2 : Int32) (v3 : Int32) (v4 : Int32) (v5 : Int32) (v6 : Int32) (v7 : Int32) (v8 : Int32) (v9 : Int32) (ws0 : Bool) (ws1 : Bool) (M : zzMem) : Option ((Int32 × Int32 × Int32) ⊕ (Int32 × zzMem)) :=
  if (zb ws0) = (zb ws1) then
  (zbd (v7 + (nI 1)) (fun x3 =>
  zbd (v9 + (nI 1)) (fun x4 =>
  some (.inl (x3, v8, x4)))))
  else (zbd (v9 + (nI 1)) (fun x2 =>
  some (.inl (v7, v8, x2))))
set_option maxHeartbeats 4000000 in
set_option maxRecDepth 100000 in
theorem w_X9_torn_295 {G : zzG} {t : Nat} {Q : Option Value → zzMem → Prop} (v2 : Int32) (v3 : Int32) (v4 : Int32) (v5 : Int32) (v6 : Int32) (v7 : Int32) (v8 : Int32) (v9 : Int32) (ws0 : Bool) (ws1 : Bool) (M : zzMem) (ht : 180 ≤ t)  {P : ((Int32 × Int32 × Int32) ⊕ (Int32 × zzMem)) → Prop} (h : zK (j_X9_torn_295 v2 v3 v4 v5 v6 v7 v8 v9 ws0 ws1 M) P) (k133 : ∀ s : (Int32 × Int32 × Int32), P (.inl s) → zz_W G m_X9_torn t t t 133 [some (.ref 0), none, some (.int v2), some (.int v3), some (.int v4), some (.int v5), some (.int v6), some (.int s.1), some (.int s.2.1), some (.int s.2.2), none, none, none, none] [] M Q) (kR : ∀ r : (Int32 × zzMem), P (.inr r) → Q (some (.int r.1)) r.2) : zz_W G m_X9_torn t t t 295 [some (.ref 0), none, some (.int v2), some (.int v3), some (.int v4), some (.int v5), some (.int v6), some (.int v7), some (.int v8), some (.int v9), none, none, none, none] [.int (zb ws1), .int (zb ws0)] M Q := by
  unfold j_X9_torn_295 at h
  refine r_icmp_ne 301 dX9_torn_295 (by decide) (fun c1 => ?_) (fun c1 => ?_)
  · have h := zK_neg h c1
    refine r_iinc (nI 1) (fun x2 => [some (.ref 0), none, some (.int v2), some (.int v3), some (.int v4), some (.int v5), some (.int v6), some (.int v7), some (.int v8), some (.int x2), none, none, none, none]) dX9_torn_301 rfl (by decide) (by decide) rfl (fun _ => rfl) (fun x2 ex2 => ?_)
    have h := zK_bd h ex2
    refine r_goto 133 dX9_torn_304 (by decide) ?_
    exact k133 ((v7, v8, x2)) (zK_some h)
  · have h := zK_pos h c1
    refine r_iinc (nI 1) (fun x3 => [some (.ref 0), none, some (.int v2), some (.int v3), some (.int v4), some (.int v5), some (.int v6), some (.int x3), some (.int v8), some (.int v9), none, none, none, none]) dX9_torn_298 rfl (by decide) (by decide) rfl (fun _ => rfl) (fun x3 ex3 => ?_)
    have h := zK_bd h ex3
    refine r_iinc (nI 1) (fun x4 => [some (.ref 0), none, some (.int v2), some (.int v3), some (.int v4), some (.int v5), some (.int v6), some (.int x3), some (.int v8), some (.int x4), none, none, none, none]) dX9_torn_301 rfl (by decide) (by decide) rfl (fun _ => rfl) (fun x4 ex4 => ?_)
    have h := zK_bd h ex4
    refine r_goto 133 dX9_torn_304 (by decide) ?_
    exact k133 ((x3, v8, x4)) (zK_some h)
noncomputable def j_X9_torn_263 (v2 : Int32) (v3 : Int32) (v4 : Int32) (v5 : Int32) (v6 : Int32) (v7 : Int32) (v8 : Int32) (v9 : Int32) (v11 : Int32) (ws0 : Bool) (M : zzMem) : Option ((Int32 × Int32 × Int32) ⊕ (Int32 × zzMem)) :=
  (f_X9_isWritten v11 v6 v2 M).bind (fun r1 =>
  if (zb ws0) = (zb r1) then
  (if v3 = (nI 1) then
  (j_X9_torn_295 v2 v3 v4 v5 v6 v7 v8 v9 r1 true M)
  else (j_X9_torn_295 v2 v3 v4 v5 v6 v7 v8 v9 r1 false M))
  else (zbd (v9 + (nI 1)) (fun x3 =>
  some (.inl (v7, v8, x3)))))
set_option maxHeartbeats 4000000 in
set_option maxRecDepth 100000 in
theorem w_X9_torn_263 {G : zzG} {t : Nat} {Q : Option Value → zzMem → Prop} (v2 : Int32) (v3 : Int32) (v4 : Int32) (v5 : Int32) (v6 : Int32) (v7 : Int32) (v8 : Int32) (v9 : Int32) (v11 : Int32) (ws0 : Bool) (M : zzMem) (ht : 180 ≤ t)  {P : ((Int32 × Int32 × Int32) ⊕ (Int32 × zzMem)) → Prop} (h : zK (j_X9_torn_263 v2 v3 v4 v5 v6 v7 v8 v9 v11 ws0 M) P) (k133 : ∀ s : (Int32 × Int32 × Int32), P (.inl s) → zz_W G m_X9_torn t t t 133 [some (.ref 0), none, some (.int v2), some (.int v3), some (.int v4), some (.int v5), some (.int v6), some (.int s.1), some (.int s.2.1), some (.int s.2.2), none, none, none, none] [] M Q) (kR : ∀ r : (Int32 × zzMem), P (.inr r) → Q (some (.int r.1)) r.2) : zz_W G m_X9_torn t t t 263 [some (.ref 0), none, some (.int v2), some (.int v3), some (.int v4), some (.int v5), some (.int v6), some (.int v7), some (.int v8), some (.int v9), none, some (.int v11), none, none] [.int (zb ws0)] M Q := by
  unfold j_X9_torn_263 at h
  refine s_istore ([some (.ref 0), none, some (.int v2), some (.int v3), some (.int v4), some (.int v5), some (.int v6), some (.int v7), some (.int v8), some (.int v9), none, some (.int v11), some (.int (zb ws0)), none]) dX9_torn_263 (by decide) rfl rfl ?_
  refine r_aload_n dX9_torn_265 rfl ?_
  refine r_iload dX9_torn_266 rfl ?_
  refine r_iload dX9_torn_268 rfl ?_
  refine r_iload_n dX9_torn_270 rfl ?_
  refine kV_zr (as := [.int v11, .int v6, .int v2]) (st := []) (k := 0) dX9_torn_271 zM_X9_isWritten zk_X9_323 (zo_X9 (zs_X9 ht)) (by decide) rfl ⟨Nat.le_of_ble_eq_true rfl, Nat.le_of_ble_eq_true rfl⟩ (Nat.le_of_ble_eq_true rfl) (zz_T0 rfl rfl) (fun Q' P' k h => c_X9_isWritten (v11) (v6) (v2) M ht h k) h (fun r1 h => ?_)
  refine s_istore ([some (.ref 0), none, some (.int v2), some (.int v3), some (.int v4), some (.int v5), some (.int v6), some (.int v7), some (.int v8), some (.int v9), none, some (.int v11), some (.int (zb ws0)), some (.int (zb r1))]) dX9_torn_274 (by decide) rfl rfl ?_
  refine r_iload dX9_torn_276 rfl ?_
  refine r_iload dX9_torn_278 rfl ?_
  refine r_icmp_ne 301 dX9_torn_280 (by decide) (fun c2 => ?_) (fun c2 => ?_)
  · have h := zK_neg h c2
    refine r_iinc (nI 1) (fun x3 => [some (.ref 0), none, some (.int v2), some (.int v3), some (.int v4), some (.int v5), some (.int v6), some (.int v7), some (.int v8), some (.int x3), none, some (.int v11), some (.int (zb ws0)), some (.int (zb r1))]) dX9_torn_301 rfl (by decide) (by decide) rfl (fun _ => rfl) (fun x3 ex3 => ?_)
    have h := zK_bd h ex3
    refine r_goto 133 dX9_torn_304 (by decide) ?_
    refine zz_mask [11, 12, 13] ?_
    exact k133 ((v7, v8, x3)) (zK_some h)
  · have h := zK_pos h c2
    refine r_iload dX9_torn_283 rfl ?_
    refine r_iload_n dX9_torn_285 rfl ?_
    refine r_iconst (v := (nI 1)) dX9_torn_286 (by decide) ?_
    refine r_icmp_ne 294 dX9_torn_287 (by decide) (fun c4 => ?_) (fun c4 => ?_)
    · have h := zK_neg h c4
      refine r_iconst (v := (nI 0)) dX9_torn_294 (by decide) ?_
      refine zz_mask [11, 12, 13] ?_
      exact w_X9_torn_295 (v2) (v3) (v4) (v5) (v6) (v7) (v8) (v9) (r1) (false) M ht h k133 kR
    · have h := zK_pos h c4
      refine r_iconst (v := (nI 1)) dX9_torn_290 (by decide) ?_
      refine r_goto 295 dX9_torn_291 (by decide) ?_
      refine zz_mask [11, 12, 13] ?_
      exact w_X9_torn_295 (v2) (v3) (v4) (v5) (v6) (v7) (v8) (v9) (r1) (true) M ht h k133 kR
noncomputable def j_X9_torn_231 (v2 : Int32) (v3 : Int32) (v4 : Int32) (v5 : Int32) (v6 : Int32) (v7 : Int32) (v9 : Int32) (v11 : Int32) (s0 : Int32) (ws1 : Bool) (M : zzMem) : Option ((Int32 × Int32 × Int32) ⊕ (Int32 × zzMem)) :=
  zbd ((s0 + (zb ws1))) (fun x1 =>
  (f_X0_pageOfKey 16 v4 v9 M).bind (fun r2 =>
  (f_X9_isWritten r2 v6 v2 M).bind (fun r3 =>
  if r3 = true then
  (j_X9_torn_263 v2 v3 v4 v5 v6 v7 x1 v9 v11 false M)
  else (j_X9_torn_263 v2 v3 v4 v5 v6 v7 x1 v9 v11 true M))))
set_option maxHeartbeats 4000000 in
set_option maxRecDepth 100000 in
theorem w_X9_torn_231 {G : zzG} {t : Nat} {Q : Option Value → zzMem → Prop} (v2 : Int32) (v3 : Int32) (v4 : Int32) (v5 : Int32) (v6 : Int32) (v7 : Int32) (v9 : Int32) (v11 : Int32) (s0 : Int32) (ws1 : Bool) (M : zzMem) (ht : 180 ≤ t)  {P : ((Int32 × Int32 × Int32) ⊕ (Int32 × zzMem)) → Prop} (h : zK (j_X9_torn_231 v2 v3 v4 v5 v6 v7 v9 v11 s0 ws1 M) P) (k133 : ∀ s : (Int32 × Int32 × Int32), P (.inl s) → zz_W G m_X9_torn t t t 133 [some (.ref 0), none, some (.int v2), some (.int v3), some (.int v4), some (.int v5), some (.int v6), some (.int s.1), some (.int s.2.1), some (.int s.2.2), none, none, none, none] [] M Q) (kR : ∀ r : (Int32 × zzMem), P (.inr r) → Q (some (.int r.1)) r.2) : zz_W G m_X9_torn t t t 231 [some (.ref 0), none, some (.int v2), some (.int v3), some (.int v4), some (.int v5), some (.int v6), some (.int v7), none, some (.int v9), none, some (.int v11), none, none] [.int (zb ws1), .int s0] M Q := by
  unfold j_X9_torn_231 at h
  refine r_iadd dX9_torn_231 ?_
  refine r_istore (fun x1 => [some (.ref 0), none, some (.int v2), some (.int v3), some (.int v4), some (.int v5), some (.int v6), some (.int v7), some (.int x1), some (.int v9), none, some (.int v11), none, none]) dX9_torn_232 (by decide) rfl (fun _ => rfl) (fun x1 ex1 => ?_)
  have h := zK_bd h ex1
  refine r_aload_n dX9_torn_234 rfl ?_
  refine r_aload_n dX9_torn_235 rfl ?_
  refine r_getR (k := 0) (q := 12) dX9_torn_236 zf_X9_33 (zo_X9 (zs_X9 ht)) (zr_X9_3 (zs_X9 ht)).1 (zr_X9_3 (zs_X9 ht)).2.1 (zr_X9_3 (zs_X9 ht)).2.2 ?_
  refine r_getR (k := 12) (q := 16) dX9_torn_239 zf_X9_156 (zo_X2 (zc_X9_3 (zs_X9 ht))) (zr_X2_1 (zc_X9_3 (zs_X9 ht))).1 (zr_X2_1 (zc_X9_3 (zs_X9 ht))).2.1 (zr_X2_1 (zc_X9_3 (zs_X9 ht))).2.2 ?_
  refine r_iload dX9_torn_242 rfl ?_
  refine r_iload dX9_torn_244 rfl ?_
  refine kV_ir (as := [.int v4, .int v9]) (st := [.ref 0]) (k := 16) dX9_torn_246 zM_X0_pageOfKey zk_X9_320 (zo_X0 (zc_X2_1 (zc_X9_3 (zs_X9 ht)))) (by decide) rfl ⟨Nat.le_of_ble_eq_true rfl, Nat.le_of_ble_eq_true rfl⟩ (Nat.le_of_ble_eq_true rfl) (zz_T0 rfl rfl) (fun Q' P' k h => c_X0_pageOfKey (16) (v4) (v9) M (zc_X2_1 (zc_X9_3 (zs_X9 ht))) h k) h (fun r2 h => ?_)
  refine r_iload dX9_torn_249 rfl ?_
  refine r_iload_n dX9_torn_251 rfl ?_
  refine kV_zr (as := [.int r2, .int v6, .int v2]) (st := []) (k := 0) dX9_torn_252 zM_X9_isWritten zk_X9_323 (zo_X9 (zs_X9 ht)) (by decide) rfl ⟨Nat.le_of_ble_eq_true rfl, Nat.le_of_ble_eq_true rfl⟩ (Nat.le_of_ble_eq_true rfl) (zz_T0 rfl rfl) (fun Q' P' k h => c_X9_isWritten (r2) (v6) (v2) M ht h k) h (fun r3 h => ?_)
  refine r_ifZ_ne 262 dX9_torn_255 (by decide) (fun c4 => ?_) (fun c4 => ?_)
  · have h := zK_pos h c4
    refine r_iconst (v := (nI 0)) dX9_torn_262 (by decide) ?_
    exact w_X9_torn_263 (v2) (v3) (v4) (v5) (v6) (v7) (x1) (v9) (v11) (false) M ht h k133 kR
  · have h := zK_neg h c4
    refine r_iconst (v := (nI 1)) dX9_torn_258 (by decide) ?_
    refine r_goto 263 dX9_torn_259 (by decide) ?_
    exact w_X9_torn_263 (v2) (v3) (v4) (v5) (v6) (v7) (x1) (v9) (v11) (true) M ht h k133 kR
noncomputable def j_X9_torn_217 (v2 : Int32) (v3 : Int32) (v4 : Int32) (v5 : Int32) (v6 : Int32) (v7 : Int32) (v8 : Int32) (v9 : Int32) (w10 : Bool) (s0 : Int32) (M : zzMem) : Option ((Int32 × Int32 × Int32) ⊕ (Int32 × zzMem)) :=
  if w10 = true then
  (j_X9_torn_231 v2 v3 v4 v5 v6 v7 v9 s0 v8 true M)
  else (j_X9_torn_231 v2 v3 v4 v5 v6 v7 v9 s0 v8 false M)
set_option maxHeartbeats 4000000 in
set_option maxRecDepth 100000 in
theorem w_X9_torn_217 {G : zzG} {t : Nat} {Q : Option Value → zzMem → Prop} (v2 : Int32) (v3 : Int32) (v4 : Int32) (v5 : Int32) (v6 : Int32) (v7 : Int32) (v8 : Int32) (v9 : Int32) (w10 : Bool) (s0 : Int32) (M : zzMem) (ht : 180 ≤ t)  {P : ((Int32 × Int32 × Int32) ⊕ (Int32 × zzMem)) → Prop} (h : zK (j_X9_torn_217 v2 v3 v4 v5 v6 v7 v8 v9 w10 s0 M) P) (k133 : ∀ s : (Int32 × Int32 × Int32), P (.inl s) → zz_W G m_X9_torn t t t 133 [some (.ref 0), none, some (.int v2), some (.int v3), some (.int v4), some (.int v5), some (.int v6), some (.int s.1), some (.int s.2.1), some (.int s.2.2), none, none, none, none] [] M Q) (kR : ∀ r : (Int32 × zzMem), P (.inr r) → Q (some (.int r.1)) r.2) : zz_W G m_X9_torn t t t 217 [some (.ref 0), none, some (.int v2), some (.int v3), some (.int v4), some (.int v5), some (.int v6), some (.int v7), some (.int v8), some (.int v9), some (.int (zb w10)), none, none, none] [.int s0] M Q := by
  unfold j_X9_torn_217 at h
  refine s_istore ([some (.ref 0), none, some (.int v2), some (.int v3), some (.int v4), some (.int v5), some (.int v6), some (.int v7), some (.int v8), some (.int v9), some (.int (zb w10)), some (.int s0), none, none]) dX9_torn_217 (by decide) rfl rfl ?_
  refine r_iload dX9_torn_219 rfl ?_
  refine r_iload dX9_torn_221 rfl ?_
  refine r_ifZ_eq 230 dX9_torn_223 (by decide) (fun c1 => ?_) (fun c1 => ?_)
  · have h := zK_neg h c1
    refine r_iconst (v := (nI 0)) dX9_torn_230 (by decide) ?_
    refine zz_mask [8, 10] ?_
    exact w_X9_torn_231 (v2) (v3) (v4) (v5) (v6) (v7) (v9) (s0) (v8) (false) M ht h k133 kR
  · have h := zK_pos h c1
    refine r_iconst (v := (nI 1)) dX9_torn_226 (by decide) ?_
    refine r_goto 231 dX9_torn_227 (by decide) ?_
    refine zz_mask [8, 10] ?_
    exact w_X9_torn_231 (v2) (v3) (v4) (v5) (v6) (v7) (v9) (s0) (v8) (true) M ht h k133 kR
noncomputable def j_X9_torn_176 (v2 : Int32) (v3 : Int32) (v4 : Int32) (v5 : Int32) (v6 : Int32) (v7 : Int32) (v8 : Int32) (v9 : Int32) (ws0 : Bool) (M : zzMem) : Option ((Int32 × Int32 × Int32) ⊕ (Int32 × zzMem)) :=
  if ws0 = true then
  ((f_X0_pageOfKey 56 v4 v8 M).bind (fun r3 =>
  j_X9_torn_217 v2 v3 v4 v5 v6 v7 v8 v9 ws0 r3 M))
  else ((f_X0_pageOfKey 56 v5 (v9 - v8) M).bind (fun r2 =>
  j_X9_torn_217 v2 v3 v4 v5 v6 v7 v8 v9 ws0 r2 M))
set_option maxHeartbeats 4000000 in
set_option maxRecDepth 100000 in
theorem w_X9_torn_176 {G : zzG} {t : Nat} {Q : Option Value → zzMem → Prop} (v2 : Int32) (v3 : Int32) (v4 : Int32) (v5 : Int32) (v6 : Int32) (v7 : Int32) (v8 : Int32) (v9 : Int32) (ws0 : Bool) (M : zzMem) (ht : 180 ≤ t)  {P : ((Int32 × Int32 × Int32) ⊕ (Int32 × zzMem)) → Prop} (h : zK (j_X9_torn_176 v2 v3 v4 v5 v6 v7 v8 v9 ws0 M) P) (k133 : ∀ s : (Int32 × Int32 × Int32), P (.inl s) → zz_W G m_X9_torn t t t 133 [some (.ref 0), none, some (.int v2), some (.int v3), some (.int v4), some (.int v5), some (.int v6), some (.int s.1), some (.int s.2.1), some (.int s.2.2), none, none, none, none] [] M Q) (kR : ∀ r : (Int32 × zzMem), P (.inr r) → Q (some (.int r.1)) r.2) : zz_W G m_X9_torn t t t 176 [some (.ref 0), none, some (.int v2), some (.int v3), some (.int v4), some (.int v5), some (.int v6), some (.int v7), some (.int v8), some (.int v9), none, none, none, none] [.int (zb ws0)] M Q := by
  unfold j_X9_torn_176 at h
  refine s_istore ([some (.ref 0), none, some (.int v2), some (.int v3), some (.int v4), some (.int v5), some (.int v6), some (.int v7), some (.int v8), some (.int v9), some (.int (zb ws0)), none, none, none]) dX9_torn_176 (by decide) rfl rfl ?_
  refine r_iload dX9_torn_178 rfl ?_
  refine r_ifZ_eq 200 dX9_torn_180 (by decide) (fun c1 => ?_) (fun c1 => ?_)
  · have h := zK_neg h c1
    refine r_aload_n dX9_torn_200 rfl ?_
    refine r_getR (k := 0) (q := 52) dX9_torn_201 zf_X9_40 (zo_X9 (zs_X9 ht)) (zr_X9_5 (zs_X9 ht)).1 (zr_X9_5 (zs_X9 ht)).2.1 (zr_X9_5 (zs_X9 ht)).2.2 ?_
    refine r_getR (k := 52) (q := 56) dX9_torn_204 zf_X9_156 (zo_X2 (zc_X9_5 (zs_X9 ht))) (zr_X2_1 (zc_X9_5 (zs_X9 ht))).1 (zr_X2_1 (zc_X9_5 (zs_X9 ht))).2.1 (zr_X2_1 (zc_X9_5 (zs_X9 ht))).2.2 ?_
    refine r_iload dX9_torn_207 rfl ?_
    refine r_iload dX9_torn_209 rfl ?_
    refine r_iload dX9_torn_211 rfl ?_
    refine r_isub dX9_torn_213 ?_
    refine kV_ir (as := [.int v5, .int (v9 - v8)]) (st := []) (k := 56) dX9_torn_214 zM_X0_pageOfKey zk_X9_320 (zo_X0 (zc_X2_1 (zc_X9_5 (zs_X9 ht)))) (by decide) rfl ⟨Nat.le_of_ble_eq_true rfl, Nat.le_of_ble_eq_true rfl⟩ (Nat.le_of_ble_eq_true rfl) (zz_T0 rfl rfl) (fun Q' P' k h => c_X0_pageOfKey (56) (v5) ((v9 - v8)) M (zc_X2_1 (zc_X9_5 (zs_X9 ht))) h k) h (fun r2 h => ?_)
    exact w_X9_torn_217 (v2) (v3) (v4) (v5) (v6) (v7) (v8) (v9) (ws0) (r2) M ht h k133 kR
  · have h := zK_pos h c1
    refine r_aload_n dX9_torn_183 rfl ?_
    refine r_getR (k := 0) (q := 52) dX9_torn_184 zf_X9_40 (zo_X9 (zs_X9 ht)) (zr_X9_5 (zs_X9 ht)).1 (zr_X9_5 (zs_X9 ht)).2.1 (zr_X9_5 (zs_X9 ht)).2.2 ?_
    refine r_getR (k := 52) (q := 56) dX9_torn_187 zf_X9_156 (zo_X2 (zc_X9_5 (zs_X9 ht))) (zr_X2_1 (zc_X9_5 (zs_X9 ht))).1 (zr_X2_1 (zc_X9_5 (zs_X9 ht))).2.1 (zr_X2_1 (zc_X9_5 (zs_X9 ht))).2.2 ?_
    refine r_iload dX9_torn_190 rfl ?_
    refine r_iload dX9_torn_192 rfl ?_
    refine kV_ir (as := [.int v4, .int v8]) (st := []) (k := 56) dX9_torn_194 zM_X0_pageOfKey zk_X9_320 (zo_X0 (zc_X2_1 (zc_X9_5 (zs_X9 ht)))) (by decide) rfl ⟨Nat.le_of_ble_eq_true rfl, Nat.le_of_ble_eq_true rfl⟩ (Nat.le_of_ble_eq_true rfl) (zz_T0 rfl rfl) (fun Q' P' k h => c_X0_pageOfKey (56) (v4) (v8) M (zc_X2_1 (zc_X9_5 (zs_X9 ht))) h k) h (fun r3 h => ?_)
    refine r_goto 217 dX9_torn_197 (by decide) ?_
    exact w_X9_torn_217 (v2) (v3) (v4) (v5) (v6) (v7) (v8) (v9) (ws0) (r3) M ht h k133 kR
noncomputable def b_X9_torn_133 (v2 : Int32) (v3 : Int32) (v4 : Int32) (v5 : Int32) (v6 : Int32) (v7 : Int32) (v8 : Int32) (v9 : Int32) (M : zzMem) : Option ((Int32 × Int32 × Int32) ⊕ (Int32 × zzMem)) :=
  if (M.1 56 10) ≤ v9 then
  (some ((.inr (v7, M))))
  else (zgd (vp_in v9 300) (
  (f_X2_goesAtNextSplit 12 (M.2 66 (v9).toNatClampNeg) M).bind (fun r3 =>
  if r3 = true then
  (j_X9_torn_176 v2 v3 v4 v5 v6 v7 v8 v9 false M)
  else (j_X9_torn_176 v2 v3 v4 v5 v6 v7 v8 v9 true M))))
set_option maxHeartbeats 4000000 in
set_option maxRecDepth 100000 in
theorem x_X9_torn_133 {G : zzG} {t : Nat} {Q : Option Value → zzMem → Prop} (v2 : Int32) (v3 : Int32) (v4 : Int32) (v5 : Int32) (v6 : Int32) (v7 : Int32) (v8 : Int32) (v9 : Int32) (M : zzMem) (ht : 180 ≤ t)  {P : ((Int32 × Int32 × Int32) ⊕ (Int32 × zzMem)) → Prop} (h : zK (b_X9_torn_133 v2 v3 v4 v5 v6 v7 v8 v9 M) P) (k133 : ∀ s : (Int32 × Int32 × Int32), P (.inl s) → zz_W G m_X9_torn t t t 133 [some (.ref 0), none, some (.int v2), some (.int v3), some (.int v4), some (.int v5), some (.int v6), some (.int s.1), some (.int s.2.1), some (.int s.2.2), none, none, none, none] [] M Q) (kR : ∀ r : (Int32 × zzMem), P (.inr r) → Q (some (.int r.1)) r.2) : zz_W G m_X9_torn t t t 133 [some (.ref 0), none, some (.int v2), some (.int v3), some (.int v4), some (.int v5), some (.int v6), some (.int v7), some (.int v8), some (.int v9), none, none, none, none] [] M Q := by
  unfold b_X9_torn_133 at h
  refine r_iload dX9_torn_133 rfl ?_
  refine r_aload_n dX9_torn_135 rfl ?_
  refine r_getR (k := 0) (q := 52) dX9_torn_136 zf_X9_40 (zo_X9 (zs_X9 ht)) (zr_X9_5 (zs_X9 ht)).1 (zr_X9_5 (zs_X9 ht)).2.1 (zr_X9_5 (zs_X9 ht)).2.2 ?_
  refine r_getR (k := 52) (q := 56) dX9_torn_139 zf_X9_156 (zo_X2 (zc_X9_5 (zs_X9 ht))) (zr_X2_1 (zc_X9_5 (zs_X9 ht))).1 (zr_X2_1 (zc_X9_5 (zs_X9 ht))).2.1 (zr_X2_1 (zc_X9_5 (zs_X9 ht))).2.2 ?_
  refine r_getI (k := 56) dX9_torn_142 zf_X9_271 (zo_X0 (zc_X2_1 (zc_X9_5 (zs_X9 ht)))) (zi_X0_10 (zc_X2_1 (zc_X9_5 (zs_X9 ht)))) ?_
  refine r_icmp_ge 307 dX9_torn_145 (by decide) (fun c1 => ?_) (fun c1 => ?_)
  · have h := zK_pos h c1
    refine r_iload dX9_torn_307 rfl ?_
    exact r_iret dX9_torn_309 rfl rfl rfl (kR ((v7, M)) (zK_some h))
  · have h := zK_neg h c1
    refine r_aload_n dX9_torn_148 rfl ?_
    refine r_getR (k := 0) (q := 12) dX9_torn_149 zf_X9_33 (zo_X9 (zs_X9 ht)) (zr_X9_3 (zs_X9 ht)).1 (zr_X9_3 (zs_X9 ht)).2.1 (zr_X9_3 (zs_X9 ht)).2.2 ?_
    refine r_aload_n dX9_torn_152 rfl ?_
    refine r_getR (k := 0) (q := 52) dX9_torn_153 zf_X9_40 (zo_X9 (zs_X9 ht)) (zr_X9_5 (zs_X9 ht)).1 (zr_X9_5 (zs_X9 ht)).2.1 (zr_X9_5 (zs_X9 ht)).2.2 ?_
    refine r_getR (k := 52) (q := 56) dX9_torn_156 zf_X9_156 (zo_X2 (zc_X9_5 (zs_X9 ht))) (zr_X2_1 (zc_X9_5 (zs_X9 ht))).1 (zr_X2_1 (zc_X9_5 (zs_X9 ht))).2.1 (zr_X2_1 (zc_X9_5 (zs_X9 ht))).2.2 ?_
    refine r_getR (k := 56) (q := 66) dX9_torn_159 zf_X9_274 (zo_X0 (zc_X2_1 (zc_X9_5 (zs_X9 ht)))) (zr_X0_9 (zc_X2_1 (zc_X9_5 (zs_X9 ht)))).1 (zr_X0_9 (zc_X2_1 (zc_X9_5 (zs_X9 ht)))).2.1 (zr_X0_9 (zc_X2_1 (zc_X9_5 (zs_X9 ht)))).2.2 ?_
    refine r_iload dX9_torn_162 rfl ?_
    obtain ⟨g2, h⟩ := zK_gd h
    refine r_lald dX9_torn_164 (za_X0_9 (zc_X2_1 (zc_X9_5 (zs_X9 ht)))) g2 ?_
    refine kV_zr (as := [.long (M.2 66 (v9).toNatClampNeg)]) (st := []) (k := 12) dX9_torn_165 zM_X2_goesAtNextSplit zk_X9_277 (zo_X2 (zc_X9_3 (zs_X9 ht))) (by decide) rfl ⟨Nat.le_of_ble_eq_true rfl, Nat.le_of_ble_eq_true rfl⟩ (Nat.le_of_ble_eq_true rfl) (zz_T0 rfl rfl) (fun Q' P' k h => c_X2_goesAtNextSplit (12) ((M.2 66 (v9).toNatClampNeg)) M (zc_X9_3 (zs_X9 ht)) h k) h (fun r3 h => ?_)
    refine r_ifZ_ne 175 dX9_torn_168 (by decide) (fun c4 => ?_) (fun c4 => ?_)
    · have h := zK_pos h c4
      refine r_iconst (v := (nI 0)) dX9_torn_175 (by decide) ?_
      exact w_X9_torn_176 (v2) (v3) (v4) (v5) (v6) (v7) (v8) (v9) (false) M ht h k133 kR
    · have h := zK_neg h c4
      refine r_iconst (v := (nI 1)) dX9_torn_171 (by decide) ?_
      refine r_goto 176 dX9_torn_172 (by decide) ?_
      exact w_X9_torn_176 (v2) (v3) (v4) (v5) (v6) (v7) (v8) (v9) (true) M ht h k133 kR
noncomputable def j_X9_torn_133 (v2 : Int32) (v3 : Int32) (v4 : Int32) (v5 : Int32) (v6 : Int32) (v7 : Int32) (v8 : Int32) (v9 : Int32) (M : zzMem) : Option (Int32 × zzMem) :=
  zlp (fun s : (Int32 × Int32 × Int32) => b_X9_torn_133 v2 v3 v4 v5 v6 s.1 s.2.1 s.2.2 M) (v7, v8, v9)
set_option maxHeartbeats 4000000 in
set_option maxRecDepth 100000 in
theorem w_X9_torn_133 {G : zzG} {t : Nat} {Q : Option Value → zzMem → Prop} (v2 : Int32) (v3 : Int32) (v4 : Int32) (v5 : Int32) (v6 : Int32) (v7 : Int32) (v8 : Int32) (v9 : Int32) (M : zzMem) (ht : 180 ≤ t)  {P : (Int32 × zzMem) → Prop} (h : zK (j_X9_torn_133 v2 v3 v4 v5 v6 v7 v8 v9 M) P) (kR : ∀ r : (Int32 × zzMem), P r → Q (some (.int r.1)) r.2) : zz_W G m_X9_torn t t t 133 [some (.ref 0), none, some (.int v2), some (.int v3), some (.int v4), some (.int v5), some (.int v6), some (.int v7), some (.int v8), some (.int v9), none, none, none, none] [] M Q := by
  unfold j_X9_torn_133 at h
  exact zK_lp h (fun s : (Int32 × Int32 × Int32) => zz_W G m_X9_torn t t t 133 [some (.ref 0), none, some (.int v2), some (.int v3), some (.int v4), some (.int v5), some (.int v6), some (.int s.1), some (.int s.2.1), some (.int s.2.2), none, none, none, none] [] M Q) (fun s h => x_X9_torn_133 v2 v3 v4 v5 v6 s.1 s.2.1 s.2.2 M ht h (fun s p => p) kR)
noncomputable def j_X9_torn_122 (v2 : Int32) (v3 : Int32) (v4 : Int32) (v5 : Int32) (s0 : Int32) (M : zzMem) : Option (Int32 × zzMem) :=
  j_X9_torn_133 v2 v3 v4 v5 s0 (nI 0) (nI 0) (nI 0) M
set_option maxHeartbeats 4000000 in
set_option maxRecDepth 100000 in
theorem w_X9_torn_122 {G : zzG} {t : Nat} {Q : Option Value → zzMem → Prop} (v2 : Int32) (v3 : Int32) (v4 : Int32) (v5 : Int32) (s0 : Int32) (M : zzMem) (ht : 180 ≤ t)  {P : (Int32 × zzMem) → Prop} (h : zK (j_X9_torn_122 v2 v3 v4 v5 s0 M) P) (kR : ∀ r : (Int32 × zzMem), P r → Q (some (.int r.1)) r.2) : zz_W G m_X9_torn t t t 122 [some (.ref 0), none, some (.int v2), some (.int v3), some (.int v4), some (.int v5), none, none, none, none, none, none, none, none] [.int s0] M Q := by
  unfold j_X9_torn_122 at h
  refine s_istore ([some (.ref 0), none, some (.int v2), some (.int v3), some (.int v4), some (.int v5), some (.int s0), none, none, none, none, none, none, none]) dX9_torn_122 (by decide) rfl rfl ?_
  refine r_iconst (v := (nI 0)) dX9_torn_124 (by decide) ?_
  refine s_istore ([some (.ref 0), none, some (.int v2), some (.int v3), some (.int v4), some (.int v5), some (.int s0), some (.int (nI 0)), none, none, none, none, none, none]) dX9_torn_125 (by decide) rfl rfl ?_
  refine r_iconst (v := (nI 0)) dX9_torn_127 (by decide) ?_
  refine s_istore ([some (.ref 0), none, some (.int v2), some (.int v3), some (.int v4), some (.int v5), some (.int s0), some (.int (nI 0)), some (.int (nI 0)), none, none, none, none, none]) dX9_torn_128 (by decide) rfl rfl ?_
  refine r_iconst (v := (nI 0)) dX9_torn_130 (by decide) ?_
  refine s_istore ([some (.ref 0), none, some (.int v2), some (.int v3), some (.int v4), some (.int v5), some (.int s0), some (.int (nI 0)), some (.int (nI 0)), some (.int (nI 0)), none, none, none, none]) dX9_torn_131 (by decide) rfl rfl ?_
  exact w_X9_torn_133 (v2) (v3) (v4) (v5) (s0) ((nI 0)) ((nI 0)) ((nI 0)) M ht h kR
noncomputable def f_X9_torn (a1 : Int32) (a2 : Int32) (a3 : Int32) (M : zzMem) : Option (Int32 × zzMem) :=
  if (f_X9_within a1 (nI 0) (nI 1)) = true then
  (if a2 < 0 then
  (some (((-1 : Int32), M)))
  else (if (f_X9_within a3 (nI 0) (nI 1)) = true then
  (if (f_X2_isFull 12 M) = true then
  (some (((-3 : Int32), M)))
  else ((f_X2_copyFrom 52 12 M).bind (fun M5 =>
  (f_X2_divide 52 M5).bind (fun q6 => zpr q6 (fun r7 M8 =>
  zbd ((M8.1 12 9)) (fun x9 =>
  zbd (((f_X2_span 12 M8) + x9)) (fun x10 =>
  zgd (vp_in x9 64) (
  zgd (vp_in x10 64) (
  if a2 ≤ ((M8.1 65 (x9).toNatClampNeg) + (M8.1 65 (x10).toNatClampNeg)) then
  (if a1 = 0 then
  (j_X9_torn_122 a2 a3 x9 x10 x9 M8)
  else (j_X9_torn_122 a2 a3 x9 x10 x10 M8))
  else (some (((-4 : Int32), M8))))))))))))
  else (some (((-1 : Int32), M)))))
  else (some (((-1 : Int32), M)))
set_option maxHeartbeats 4000000 in
set_option maxRecDepth 100000 in
theorem w_X9_torn_0 {G : zzG} {t : Nat} {Q : Option Value → zzMem → Prop} (a1 : Int32) (a2 : Int32) (a3 : Int32) (M : zzMem) (ht : 180 ≤ t)  {P : (Int32 × zzMem) → Prop} (h : zK (f_X9_torn a1 a2 a3 M) P) (kR : ∀ r : (Int32 × zzMem), P r → Q (some (.int r.1)) r.2) : zz_W G m_X9_torn t t t 0 [some (.ref 0), some (.int a1), some (.int a2), some (.int a3), none, none, none, none, none, none, none, none, none, none] [] M Q := by
  unfold f_X9_torn at h
  refine r_iload_n dX9_torn_0 rfl ?_
  refine r_iconst (v := (nI 0)) dX9_torn_1 (by decide) ?_
  refine r_iconst (v := (nI 1)) dX9_torn_2 (by decide) ?_
  refine tS_zr (v := f_X9_within a1 (nI 0) (nI 1)) (as := [.int a1, .int (nI 0), .int (nI 1)]) (st := []) dX9_torn_3 zM_X9_within zk_X9_63 ⟨Nat.le_of_ble_eq_true rfl, Nat.le_of_ble_eq_true rfl⟩ (Nat.le_of_ble_eq_true rfl) (zz_T0 rfl rfl) (fun Q' h => c_X9_within (a1) ((nI 0)) ((nI 1)) M h) ?_
  refine r_ifZ_eq 22 dX9_torn_6 (by decide) (fun c1 => ?_) (fun c1 => ?_)
  · have h := zK_neg h c1
    refine r_iconst (v := (-1 : Int32)) dX9_torn_22 (by decide) ?_
    exact r_iret dX9_torn_23 rfl rfl rfl (kR (((-1 : Int32), M)) (zK_some h))
  · have h := zK_pos h c1
    refine r_iload_n dX9_torn_9 rfl ?_
    refine r_if_lt 22 dX9_torn_10 (by decide) (fun c2 => ?_) (fun c2 => ?_)
    · have h := zK_pos h c2
      refine r_iconst (v := (-1 : Int32)) dX9_torn_22 (by decide) ?_
      exact r_iret dX9_torn_23 rfl rfl rfl (kR (((-1 : Int32), M)) (zK_some h))
    · have h := zK_neg h c2
      refine r_iload_n dX9_torn_13 rfl ?_
      refine r_iconst (v := (nI 0)) dX9_torn_14 (by decide) ?_
      refine r_iconst (v := (nI 1)) dX9_torn_15 (by decide) ?_
      refine tS_zr (v := f_X9_within a3 (nI 0) (nI 1)) (as := [.int a3, .int (nI 0), .int (nI 1)]) (st := []) dX9_torn_16 zM_X9_within zk_X9_63 ⟨Nat.le_of_ble_eq_true rfl, Nat.le_of_ble_eq_true rfl⟩ (Nat.le_of_ble_eq_true rfl) (zz_T0 rfl rfl) (fun Q' h => c_X9_within (a3) ((nI 0)) ((nI 1)) M h) ?_
      refine r_ifZ_ne 24 dX9_torn_19 (by decide) (fun c3 => ?_) (fun c3 => ?_)
      · have h := zK_pos h c3
        refine r_aload_n dX9_torn_24 rfl ?_
        refine r_getR (k := 0) (q := 12) dX9_torn_25 zf_X9_33 (zo_X9 (zs_X9 ht)) (zr_X9_3 (zs_X9 ht)).1 (zr_X9_3 (zs_X9 ht)).2.1 (zr_X9_3 (zs_X9 ht)).2.2 ?_
        refine tV_zr (v := f_X2_isFull 12 M) (as := []) (st := []) (k := 12) dX9_torn_28 zM_X2_isFull zk_X9_219 (zo_X2 (zc_X9_3 (zs_X9 ht))) (by decide) rfl ⟨Nat.le_of_ble_eq_true rfl, Nat.le_of_ble_eq_true rfl⟩ (Nat.le_of_ble_eq_true rfl) (zz_T0 rfl rfl) (fun Q' h => c_X2_isFull (12) M (zc_X9_3 (zs_X9 ht)) h) ?_
        refine r_ifZ_eq 37 dX9_torn_31 (by decide) (fun c4 => ?_) (fun c4 => ?_)
        · have h := zK_neg h c4
          refine r_aload_n dX9_torn_37 rfl ?_
          refine r_getR (k := 0) (q := 52) dX9_torn_38 zf_X9_40 (zo_X9 (zs_X9 ht)) (zr_X9_5 (zs_X9 ht)).1 (zr_X9_5 (zs_X9 ht)).2.1 (zr_X9_5 (zs_X9 ht)).2.2 ?_
          refine r_aload_n dX9_torn_41 rfl ?_
          refine r_getR (k := 0) (q := 12) dX9_torn_42 zf_X9_33 (zo_X9 (zs_X9 ht)) (zr_X9_3 (zs_X9 ht)).1 (zr_X9_3 (zs_X9 ht)).2.1 (zr_X9_3 (zs_X9 ht)).2.2 ?_
          refine kV_vw (as := [.ref 12]) (st := []) (k := 52) dX9_torn_45 zM_X2_copyFrom zk_X9_313 (zo_X2 (zc_X9_5 (zs_X9 ht))) (by decide) rfl ⟨Nat.le_of_ble_eq_true rfl, Nat.le_of_ble_eq_true rfl⟩ (Nat.le_of_ble_eq_true rfl) (zz_T0 rfl rfl) (fun Q' P' k h => c_X2_copyFrom (52) (12) M (zc_X9_5 (zs_X9 ht)) (zc_X9_3 (zs_X9 ht)) h k) h (fun M5 h => ?_)
          refine r_aload_n dX9_torn_48 rfl ?_
          refine r_getR (k := 0) (q := 52) dX9_torn_49 zf_X9_40 (zo_X9 (zs_X9 ht)) (zr_X9_5 (zs_X9 ht)).1 (zr_X9_5 (zs_X9 ht)).2.1 (zr_X9_5 (zs_X9 ht)).2.2 ?_
          refine kV_iw (as := []) (st := []) (k := 52) dX9_torn_52 zM_X2_divide zk_X9_131 (zo_X2 (zc_X9_5 (zs_X9 ht))) (by decide) rfl ⟨Nat.le_of_ble_eq_true rfl, Nat.le_of_ble_eq_true rfl⟩ (Nat.le_of_ble_eq_true rfl) (zz_T0 rfl rfl) (fun Q' P' k h => c_X2_divide (52) M5 (zc_X9_5 (zs_X9 ht)) h (fun r p => k r.1 r.2 p)) h (fun r7 M8 h => ?_)
          have h := zK_pr h
          refine r_pop dX9_torn_55 rfl ?_
          refine r_aload_n dX9_torn_56 rfl ?_
          refine r_getR (k := 0) (q := 12) dX9_torn_57 zf_X9_33 (zo_X9 (zs_X9 ht)) (zr_X9_3 (zs_X9 ht)).1 (zr_X9_3 (zs_X9 ht)).2.1 (zr_X9_3 (zs_X9 ht)).2.2 ?_
          refine r_getI (k := 12) dX9_torn_60 zf_X9_177 (zo_X2 (zc_X9_3 (zs_X9 ht))) (zi_X2_9 (zc_X9_3 (zs_X9 ht))) ?_
          refine r_istore (fun x9 => [some (.ref 0), some (.int a1), some (.int a2), some (.int a3), some (.int x9), none, none, none, none, none, none, none, none, none]) dX9_torn_63 (by decide) rfl (fun _ => rfl) (fun x9 ex9 => ?_)
          have h := zK_bd h ex9
          refine r_aload_n dX9_torn_65 rfl ?_
          refine r_getR (k := 0) (q := 12) dX9_torn_66 zf_X9_33 (zo_X9 (zs_X9 ht)) (zr_X9_3 (zs_X9 ht)).1 (zr_X9_3 (zs_X9 ht)).2.1 (zr_X9_3 (zs_X9 ht)).2.2 ?_
          refine tV_ir (v := f_X2_span 12 M8) (as := []) (st := []) (k := 12) dX9_torn_69 zM_X2_span zk_X9_317 (zo_X2 (zc_X9_3 (zs_X9 ht))) (by decide) rfl ⟨Nat.le_of_ble_eq_true rfl, Nat.le_of_ble_eq_true rfl⟩ (Nat.le_of_ble_eq_true rfl) (zz_T0 rfl rfl) (fun Q' h => c_X2_span (12) M8 (zc_X9_3 (zs_X9 ht)) h) ?_
          refine r_iload dX9_torn_72 rfl ?_
          refine r_iadd dX9_torn_74 ?_
          refine r_istore (fun x10 => [some (.ref 0), some (.int a1), some (.int a2), some (.int a3), some (.int x9), some (.int x10), none, none, none, none, none, none, none, none]) dX9_torn_75 (by decide) rfl (fun _ => rfl) (fun x10 ex10 => ?_)
          have h := zK_bd h ex10
          refine r_iload_n dX9_torn_77 rfl ?_
          refine r_aload_n dX9_torn_78 rfl ?_
          refine r_getR (k := 0) (q := 52) dX9_torn_79 zf_X9_40 (zo_X9 (zs_X9 ht)) (zr_X9_5 (zs_X9 ht)).1 (zr_X9_5 (zs_X9 ht)).2.1 (zr_X9_5 (zs_X9 ht)).2.2 ?_
          refine r_getR (k := 52) (q := 56) dX9_torn_82 zf_X9_156 (zo_X2 (zc_X9_5 (zs_X9 ht))) (zr_X2_1 (zc_X9_5 (zs_X9 ht))).1 (zr_X2_1 (zc_X9_5 (zs_X9 ht))).2.1 (zr_X2_1 (zc_X9_5 (zs_X9 ht))).2.2 ?_
          refine r_getR (k := 56) (q := 65) dX9_torn_85 zf_X9_240 (zo_X0 (zc_X2_1 (zc_X9_5 (zs_X9 ht)))) (zr_X0_8 (zc_X2_1 (zc_X9_5 (zs_X9 ht)))).1 (zr_X0_8 (zc_X2_1 (zc_X9_5 (zs_X9 ht)))).2.1 (zr_X0_8 (zc_X2_1 (zc_X9_5 (zs_X9 ht)))).2.2 ?_
          refine r_iload dX9_torn_88 rfl ?_
          obtain ⟨g11, h⟩ := zK_gd h
          refine r_iald dX9_torn_90 (za_X0_8 (zc_X2_1 (zc_X9_5 (zs_X9 ht)))) g11 ?_
          refine r_aload_n dX9_torn_91 rfl ?_
          refine r_getR (k := 0) (q := 52) dX9_torn_92 zf_X9_40 (zo_X9 (zs_X9 ht)) (zr_X9_5 (zs_X9 ht)).1 (zr_X9_5 (zs_X9 ht)).2.1 (zr_X9_5 (zs_X9 ht)).2.2 ?_
          refine r_getR (k := 52) (q := 56) dX9_torn_95 zf_X9_156 (zo_X2 (zc_X9_5 (zs_X9 ht))) (zr_X2_1 (zc_X9_5 (zs_X9 ht))).1 (zr_X2_1 (zc_X9_5 (zs_X9 ht))).2.1 (zr_X2_1 (zc_X9_5 (zs_X9 ht))).2.2 ?_
          refine r_getR (k := 56) (q := 65) dX9_torn_98 zf_X9_240 (zo_X0 (zc_X2_1 (zc_X9_5 (zs_X9 ht)))) (zr_X0_8 (zc_X2_1 (zc_X9_5 (zs_X9 ht)))).1 (zr_X0_8 (zc_X2_1 (zc_X9_5 (zs_X9 ht)))).2.1 (zr_X0_8 (zc_X2_1 (zc_X9_5 (zs_X9 ht)))).2.2 ?_
          refine r_iload dX9_torn_101 rfl ?_
          obtain ⟨g12, h⟩ := zK_gd h
          refine r_iald dX9_torn_103 (za_X0_8 (zc_X2_1 (zc_X9_5 (zs_X9 ht)))) g12 ?_
          refine r_iadd dX9_torn_104 ?_
          refine r_icmp_le 111 dX9_torn_105 (by decide) (fun c13 => ?_) (fun c13 => ?_)
          · have h := zK_pos h c13
            refine r_iload_n dX9_torn_111 rfl ?_
            refine r_if_ne 120 dX9_torn_112 (by decide) (fun c14 => ?_) (fun c14 => ?_)
            · have h := zK_neg h c14
              refine r_iload dX9_torn_120 rfl ?_
              refine zz_mask [1] ?_
              exact w_X9_torn_122 (a2) (a3) (x9) (x10) (x10) M8 ht h kR
            · have h := zK_pos h c14
              refine r_iload dX9_torn_115 rfl ?_
              refine r_goto 122 dX9_torn_117 (by decide) ?_
              refine zz_mask [1] ?_
              exact w_X9_torn_122 (a2) (a3) (x9) (x10) (x9) M8 ht h kR
          · have h := zK_neg h c13
            refine r_bipush (v := (-4 : Int32)) dX9_torn_108 (by decide) ?_
            exact r_iret dX9_torn_110 rfl rfl rfl (kR (((-4 : Int32), M8)) (zK_some h))
        · have h := zK_pos h c4
          refine r_bipush (v := (-3 : Int32)) dX9_torn_34 (by decide) ?_
          exact r_iret dX9_torn_36 rfl rfl rfl (kR (((-3 : Int32), M)) (zK_some h))
      · have h := zK_neg h c3
        refine r_iconst (v := (-1 : Int32)) dX9_torn_22 (by decide) ?_
        exact r_iret dX9_torn_23 rfl rfl rfl (kR (((-1 : Int32), M)) (zK_some h))
set_option maxHeartbeats 4000000 in
set_option maxRecDepth 100000 in
theorem c_X9_torn {G : zzG} {t : Nat} {Q : Option Value → zzMem → Prop} (a1 : Int32) (a2 : Int32) (a3 : Int32) (M : zzMem) (ht : 180 ≤ t)  {P : (Int32 × zzMem) → Prop} (h : zK (f_X9_torn a1 a2 a3 M) P) (kR : ∀ r : (Int32 × zzMem), P r → Q (some (.int r.1)) r.2) : zz_S G m_X9_torn t t [.ref 0, .int a1, .int a2, .int a3] M Q :=
  zz_S_of (by decide) (by decide) (Nat.le_of_ble_eq_true rfl) (w_X9_torn_0 a1 a2 a3 M ht h kR)
noncomputable def f_X9_grown (a1 : Int32) (a2 : Int32) (M : zzMem) : Option (Int32 × zzMem) :=
  if (f_X9_within a1 (nI 1) (nI 99)) = true then
  (if (f_X9_within a2 (nI 0) (nI 5)) = true then
  ((f_X2_copyFrom 52 12 M).bind (fun M3 =>
  (f_X2_storeDrawn 52 a1 M3).bind (fun M4 =>
  if a2 = (nI 0) then
  (some (((f_X2_buckets 52 M4), M4)))
  else if a2 = (nI 1) then
  ((f_X2_load 52 M4).bind (fun r7 =>
  some ((r7, M4))))
  else if a2 = (nI 2) then
  ((f_X0_usedPages 56 M4).bind (fun r9 =>
  some ((r9, M4))))
  else if a2 = (nI 3) then
  (some (((M4.1 67 1), M4)))
  else if a2 = (nI 4) then
  (some ((((M4.1 52 10) - (M4.1 12 10)), M4)))
  else (some ((((M4.1 52 11) - (M4.1 12 11)), M4))))))
  else (some (((-1 : Int32), M))))
  else (some (((-1 : Int32), M)))
set_option maxHeartbeats 4000000 in
set_option maxRecDepth 100000 in
theorem w_X9_grown_0 {G : zzG} {t : Nat} {Q : Option Value → zzMem → Prop} (a1 : Int32) (a2 : Int32) (M : zzMem) (ht : 180 ≤ t)  {P : (Int32 × zzMem) → Prop} (h : zK (f_X9_grown a1 a2 M) P) (kR : ∀ r : (Int32 × zzMem), P r → Q (some (.int r.1)) r.2) : zz_W G m_X9_grown t t t 0 [some (.ref 0), some (.int a1), some (.int a2)] [] M Q := by
  unfold f_X9_grown at h
  refine r_iload_n dX9_grown_0 rfl ?_
  refine r_iconst (v := (nI 1)) dX9_grown_1 (by decide) ?_
  refine r_bipush (v := (nI 99)) dX9_grown_2 (by decide) ?_
  refine tS_zr (v := f_X9_within a1 (nI 1) (nI 99)) (as := [.int a1, .int (nI 1), .int (nI 99)]) (st := []) dX9_grown_4 zM_X9_within zk_X9_63 ⟨Nat.le_of_ble_eq_true rfl, Nat.le_of_ble_eq_true rfl⟩ (Nat.le_of_ble_eq_true rfl) (zz_T0 rfl rfl) (fun Q' h => c_X9_within (a1) ((nI 1)) ((nI 99)) M h) ?_
  refine r_ifZ_eq 19 dX9_grown_7 (by decide) (fun c1 => ?_) (fun c1 => ?_)
  · have h := zK_neg h c1
    refine r_iconst (v := (-1 : Int32)) dX9_grown_19 (by decide) ?_
    exact r_iret dX9_grown_20 rfl rfl rfl (kR (((-1 : Int32), M)) (zK_some h))
  · have h := zK_pos h c1
    refine r_iload_n dX9_grown_10 rfl ?_
    refine r_iconst (v := (nI 0)) dX9_grown_11 (by decide) ?_
    refine r_iconst (v := (nI 5)) dX9_grown_12 (by decide) ?_
    refine tS_zr (v := f_X9_within a2 (nI 0) (nI 5)) (as := [.int a2, .int (nI 0), .int (nI 5)]) (st := []) dX9_grown_13 zM_X9_within zk_X9_63 ⟨Nat.le_of_ble_eq_true rfl, Nat.le_of_ble_eq_true rfl⟩ (Nat.le_of_ble_eq_true rfl) (zz_T0 rfl rfl) (fun Q' h => c_X9_within (a2) ((nI 0)) ((nI 5)) M h) ?_
    refine r_ifZ_ne 21 dX9_grown_16 (by decide) (fun c2 => ?_) (fun c2 => ?_)
    · have h := zK_pos h c2
      refine r_aload_n dX9_grown_21 rfl ?_
      refine r_getR (k := 0) (q := 52) dX9_grown_22 zf_X9_40 (zo_X9 (zs_X9 ht)) (zr_X9_5 (zs_X9 ht)).1 (zr_X9_5 (zs_X9 ht)).2.1 (zr_X9_5 (zs_X9 ht)).2.2 ?_
      refine r_aload_n dX9_grown_25 rfl ?_
      refine r_getR (k := 0) (q := 12) dX9_grown_26 zf_X9_33 (zo_X9 (zs_X9 ht)) (zr_X9_3 (zs_X9 ht)).1 (zr_X9_3 (zs_X9 ht)).2.1 (zr_X9_3 (zs_X9 ht)).2.2 ?_
      refine kV_vw (as := [.ref 12]) (st := []) (k := 52) dX9_grown_29 zM_X2_copyFrom zk_X9_313 (zo_X2 (zc_X9_5 (zs_X9 ht))) (by decide) rfl ⟨Nat.le_of_ble_eq_true rfl, Nat.le_of_ble_eq_true rfl⟩ (Nat.le_of_ble_eq_true rfl) (zz_T0 rfl rfl) (fun Q' P' k h => c_X2_copyFrom (52) (12) M (zc_X9_5 (zs_X9 ht)) (zc_X9_3 (zs_X9 ht)) h k) h (fun M3 h => ?_)
      refine r_aload_n dX9_grown_32 rfl ?_
      refine r_getR (k := 0) (q := 52) dX9_grown_33 zf_X9_40 (zo_X9 (zs_X9 ht)) (zr_X9_5 (zs_X9 ht)).1 (zr_X9_5 (zs_X9 ht)).2.1 (zr_X9_5 (zs_X9 ht)).2.2 ?_
      refine r_iload_n dX9_grown_36 rfl ?_
      refine kV_vw (as := [.int a1]) (st := []) (k := 52) dX9_grown_37 zM_X2_storeDrawn zk_X9_142 (zo_X2 (zc_X9_5 (zs_X9 ht))) (by decide) rfl ⟨Nat.le_of_ble_eq_true rfl, Nat.le_of_ble_eq_true rfl⟩ (Nat.le_of_ble_eq_true rfl) (zz_T0 rfl rfl) (fun Q' P' k h => c_X2_storeDrawn (52) (a1) M3 (zc_X9_5 (zs_X9 ht)) h k) h (fun M4 h => ?_)
      refine r_iload_n dX9_grown_40 rfl ?_
      by_cases c5 : a2 = (nI 0)
      · have h := zK_pos h c5
        refine r_tabIn (off := 35) 76 dX9_grown_41 (by rw [c5]; first | done | decide) (by rw [c5]; first | done | decide) (by rw [c5]; first | done | decide) (by decide) ?_
        refine r_aload_n dX9_grown_76 rfl ?_
        refine r_getR (k := 0) (q := 52) dX9_grown_77 zf_X9_40 (zo_X9 (zs_X9 ht)) (zr_X9_5 (zs_X9 ht)).1 (zr_X9_5 (zs_X9 ht)).2.1 (zr_X9_5 (zs_X9 ht)).2.2 ?_
        refine tV_ir (v := f_X2_buckets 52 M4) (as := []) (st := []) (k := 52) dX9_grown_80 zM_X2_buckets zk_X9_180 (zo_X2 (zc_X9_5 (zs_X9 ht))) (by decide) rfl ⟨Nat.le_of_ble_eq_true rfl, Nat.le_of_ble_eq_true rfl⟩ (Nat.le_of_ble_eq_true rfl) (zz_T0 rfl rfl) (fun Q' h => c_X2_buckets (52) M4 (zc_X9_5 (zs_X9 ht)) h) ?_
        exact r_iret dX9_grown_83 rfl rfl rfl (kR (((f_X2_buckets 52 M4), M4)) (zK_some h))
      · have h := zK_neg h c5
        by_cases c6 : a2 = (nI 1)
        · have h := zK_pos h c6
          refine r_tabIn (off := 43) 84 dX9_grown_41 (by rw [c6]; first | done | decide) (by rw [c6]; first | done | decide) (by rw [c6]; first | done | decide) (by decide) ?_
          refine r_aload_n dX9_grown_84 rfl ?_
          refine r_getR (k := 0) (q := 52) dX9_grown_85 zf_X9_40 (zo_X9 (zs_X9 ht)) (zr_X9_5 (zs_X9 ht)).1 (zr_X9_5 (zs_X9 ht)).2.1 (zr_X9_5 (zs_X9 ht)).2.2 ?_
          refine kV_ir (as := []) (st := []) (k := 52) dX9_grown_88 zM_X2_load zk_X9_186 (zo_X2 (zc_X9_5 (zs_X9 ht))) (by decide) rfl ⟨Nat.le_of_ble_eq_true rfl, Nat.le_of_ble_eq_true rfl⟩ (Nat.le_of_ble_eq_true rfl) (zz_T0 rfl rfl) (fun Q' P' k h => c_X2_load (52) M4 (zc_X9_5 (zs_X9 ht)) h k) h (fun r7 h => ?_)
          exact r_iret dX9_grown_91 rfl rfl rfl (kR ((r7, M4)) (zK_some h))
        · have h := zK_neg h c6
          by_cases c8 : a2 = (nI 2)
          · have h := zK_pos h c8
            refine r_tabIn (off := 51) 92 dX9_grown_41 (by rw [c8]; first | done | decide) (by rw [c8]; first | done | decide) (by rw [c8]; first | done | decide) (by decide) ?_
            refine r_aload_n dX9_grown_92 rfl ?_
            refine r_getR (k := 0) (q := 52) dX9_grown_93 zf_X9_40 (zo_X9 (zs_X9 ht)) (zr_X9_5 (zs_X9 ht)).1 (zr_X9_5 (zs_X9 ht)).2.1 (zr_X9_5 (zs_X9 ht)).2.2 ?_
            refine r_getR (k := 52) (q := 56) dX9_grown_96 zf_X9_156 (zo_X2 (zc_X9_5 (zs_X9 ht))) (zr_X2_1 (zc_X9_5 (zs_X9 ht))).1 (zr_X2_1 (zc_X9_5 (zs_X9 ht))).2.1 (zr_X2_1 (zc_X9_5 (zs_X9 ht))).2.2 ?_
            refine kV_ir (as := []) (st := []) (k := 56) dX9_grown_99 zM_X0_usedPages zk_X9_183 (zo_X0 (zc_X2_1 (zc_X9_5 (zs_X9 ht)))) (by decide) rfl ⟨Nat.le_of_ble_eq_true rfl, Nat.le_of_ble_eq_true rfl⟩ (Nat.le_of_ble_eq_true rfl) (zz_T0 rfl rfl) (fun Q' P' k h => c_X0_usedPages (56) M4 (zc_X2_1 (zc_X9_5 (zs_X9 ht))) h k) h (fun r9 h => ?_)
            exact r_iret dX9_grown_102 rfl rfl rfl (kR ((r9, M4)) (zK_some h))
          · have h := zK_neg h c8
            by_cases c10 : a2 = (nI 3)
            · have h := zK_pos h c10
              refine r_tabIn (off := 62) 103 dX9_grown_41 (by rw [c10]; first | done | decide) (by rw [c10]; first | done | decide) (by rw [c10]; first | done | decide) (by decide) ?_
              refine r_aload_n dX9_grown_103 rfl ?_
              refine r_getR (k := 0) (q := 52) dX9_grown_104 zf_X9_40 (zo_X9 (zs_X9 ht)) (zr_X9_5 (zs_X9 ht)).1 (zr_X9_5 (zs_X9 ht)).2.1 (zr_X9_5 (zs_X9 ht)).2.2 ?_
              refine r_getR (k := 52) (q := 67) dX9_grown_107 zf_X9_77 (zo_X2 (zc_X9_5 (zs_X9 ht))) (zr_X2_2 (zc_X9_5 (zs_X9 ht))).1 (zr_X2_2 (zc_X9_5 (zs_X9 ht))).2.1 (zr_X2_2 (zc_X9_5 (zs_X9 ht))).2.2 ?_
              refine r_getI (k := 67) dX9_grown_110 zf_X9_81 (zo_X5 (zc_X2_2 (zc_X9_5 (zs_X9 ht)))) (zi_X5_1 (zc_X2_2 (zc_X9_5 (zs_X9 ht)))) ?_
              exact r_iret dX9_grown_113 rfl rfl rfl (kR (((M4.1 67 1), M4)) (zK_some h))
            · have h := zK_neg h c10
              by_cases c11 : a2 = (nI 4)
              · have h := zK_pos h c11
                refine r_tabIn (off := 73) 114 dX9_grown_41 (by rw [c11]; first | done | decide) (by rw [c11]; first | done | decide) (by rw [c11]; first | done | decide) (by decide) ?_
                refine r_aload_n dX9_grown_114 rfl ?_
                refine r_getR (k := 0) (q := 52) dX9_grown_115 zf_X9_40 (zo_X9 (zs_X9 ht)) (zr_X9_5 (zs_X9 ht)).1 (zr_X9_5 (zs_X9 ht)).2.1 (zr_X9_5 (zs_X9 ht)).2.2 ?_
                refine r_getI (k := 52) dX9_grown_118 zf_X9_189 (zo_X2 (zc_X9_5 (zs_X9 ht))) (zi_X2_10 (zc_X9_5 (zs_X9 ht))) ?_
                refine r_aload_n dX9_grown_121 rfl ?_
                refine r_getR (k := 0) (q := 12) dX9_grown_122 zf_X9_33 (zo_X9 (zs_X9 ht)) (zr_X9_3 (zs_X9 ht)).1 (zr_X9_3 (zs_X9 ht)).2.1 (zr_X9_3 (zs_X9 ht)).2.2 ?_
                refine r_getI (k := 12) dX9_grown_125 zf_X9_189 (zo_X2 (zc_X9_3 (zs_X9 ht))) (zi_X2_10 (zc_X9_3 (zs_X9 ht))) ?_
                refine r_isub dX9_grown_128 ?_
                exact r_iret dX9_grown_129 rfl rfl rfl (kR ((((M4.1 52 10) - (M4.1 12 10)), M4)) (zK_some h))
              · have h := zK_neg h c11
                have hD : zz_W G m_X9_grown t t t 130 [some (.ref 0), some (.int a1), some (.int a2)] [] M4 Q := by
                  refine r_aload_n dX9_grown_130 rfl ?_
                  refine r_getR (k := 0) (q := 52) dX9_grown_131 zf_X9_40 (zo_X9 (zs_X9 ht)) (zr_X9_5 (zs_X9 ht)).1 (zr_X9_5 (zs_X9 ht)).2.1 (zr_X9_5 (zs_X9 ht)).2.2 ?_
                  refine r_getI (k := 52) dX9_grown_134 zf_X9_192 (zo_X2 (zc_X9_5 (zs_X9 ht))) (zi_X2_11 (zc_X9_5 (zs_X9 ht))) ?_
                  refine r_aload_n dX9_grown_137 rfl ?_
                  refine r_getR (k := 0) (q := 12) dX9_grown_138 zf_X9_33 (zo_X9 (zs_X9 ht)) (zr_X9_3 (zs_X9 ht)).1 (zr_X9_3 (zs_X9 ht)).2.1 (zr_X9_3 (zs_X9 ht)).2.2 ?_
                  refine r_getI (k := 12) dX9_grown_141 zf_X9_192 (zo_X2 (zc_X9_3 (zs_X9 ht))) (zi_X2_11 (zc_X9_3 (zs_X9 ht))) ?_
                  refine r_isub dX9_grown_144 ?_
                  exact r_iret dX9_grown_145 rfl rfl rfl (kR ((((M4.1 52 11) - (M4.1 12 11)), M4)) (zK_some h))
                refine r_tabOut 130 dX9_grown_41 (zz_tab_out (n := 5) (fun i hi => ?_) (by decide)) (by decide) hD
                exact match i, hi with
                | 0, _ => fun e => c5 (e.trans (by decide))
                | 1, _ => fun e => c6 (e.trans (by decide))
                | 2, _ => fun e => c8 (e.trans (by decide))
                | 3, _ => fun e => c10 (e.trans (by decide))
                | 4, _ => fun e => c11 (e.trans (by decide))
                | k + 5, hk => absurd hk (by omega)
    · have h := zK_neg h c2
      refine r_iconst (v := (-1 : Int32)) dX9_grown_19 (by decide) ?_
      exact r_iret dX9_grown_20 rfl rfl rfl (kR (((-1 : Int32), M)) (zK_some h))
set_option maxHeartbeats 4000000 in
set_option maxRecDepth 100000 in
theorem c_X9_grown {G : zzG} {t : Nat} {Q : Option Value → zzMem → Prop} (a1 : Int32) (a2 : Int32) (M : zzMem) (ht : 180 ≤ t)  {P : (Int32 × zzMem) → Prop} (h : zK (f_X9_grown a1 a2 M) P) (kR : ∀ r : (Int32 × zzMem), P r → Q (some (.int r.1)) r.2) : zz_S G m_X9_grown t t [.ref 0, .int a1, .int a2] M Q :=
  zz_S_of (by decide) (by decide) (Nat.le_of_ble_eq_true rfl) (w_X9_grown_0 a1 a2 M ht h kR)
noncomputable def j_X9_tuned_160 (v1 : Int32) (v4 : Int32) (v5 : Int32) (M : zzMem) : Option ((Int32 × Int32 × Int32 × zzMem) ⊕ (Int32 × zzMem)) :=
  zbd (v4 + (nI 1)) (fun x1 =>
  some (.inl (v4, v5, x1, M)))
set_option maxHeartbeats 4000000 in
set_option maxRecDepth 100000 in
theorem w_X9_tuned_160 {G : zzG} {t : Nat} {Q : Option Value → zzMem → Prop} (v1 : Int32) (v4 : Int32) (v5 : Int32) (M : zzMem) (ht : 180 ≤ t)  {P : ((Int32 × Int32 × Int32 × zzMem) ⊕ (Int32 × zzMem)) → Prop} (h : zK (j_X9_tuned_160 v1 v4 v5 M) P) (k29 : ∀ s : (Int32 × Int32 × Int32 × zzMem), P (.inl s) → zz_W G m_X9_tuned t t t 29 [some (.ref 0), some (.int v1), some (.int s.1), some (.int s.2.1), some (.int s.2.2.1), none] [] s.2.2.2 Q) (kR : ∀ r : (Int32 × zzMem), P (.inr r) → Q (some (.int r.1)) r.2) : zz_W G m_X9_tuned t t t 160 [some (.ref 0), some (.int v1), none, none, some (.int v4), some (.int v5)] [] M Q := by
  unfold j_X9_tuned_160 at h
  refine r_iload dX9_tuned_160 rfl ?_
  refine s_istore_n ([some (.ref 0), some (.int v1), some (.int v4), none, some (.int v4), some (.int v5)]) dX9_tuned_162 (by decide) rfl rfl ?_
  refine r_iload dX9_tuned_163 rfl ?_
  refine s_istore_n ([some (.ref 0), some (.int v1), some (.int v4), some (.int v5), some (.int v4), some (.int v5)]) dX9_tuned_165 (by decide) rfl rfl ?_
  refine r_iinc (nI 1) (fun x1 => [some (.ref 0), some (.int v1), some (.int v4), some (.int v5), some (.int x1), some (.int v5)]) dX9_tuned_166 rfl (by decide) (by decide) rfl (fun _ => rfl) (fun x1 ex1 => ?_)
  have h := zK_bd h ex1
  refine r_goto 29 dX9_tuned_169 (by decide) ?_
  refine zz_mask [5] ?_
  exact k29 ((v4, v5, x1, M)) (zK_some h)
noncomputable def j_X9_tuned_148 (v1 : Int32) (v2 : Int32) (v3 : Int32) (v4 : Int32) (s0 : Int32) (M : zzMem) : Option ((Int32 × Int32 × Int32 × zzMem) ⊕ (Int32 × zzMem)) :=
  if v2 = 0 then
  (j_X9_tuned_160 v1 v4 s0 M)
  else (if v3 ≤ s0 then
  (zbd (v4 + (nI 1)) (fun x3 =>
  some (.inl (v2, v3, x3, M))))
  else (j_X9_tuned_160 v1 v4 s0 M))
set_option maxHeartbeats 4000000 in
set_option maxRecDepth 100000 in
theorem w_X9_tuned_148 {G : zzG} {t : Nat} {Q : Option Value → zzMem → Prop} (v1 : Int32) (v2 : Int32) (v3 : Int32) (v4 : Int32) (s0 : Int32) (M : zzMem) (ht : 180 ≤ t)  {P : ((Int32 × Int32 × Int32 × zzMem) ⊕ (Int32 × zzMem)) → Prop} (h : zK (j_X9_tuned_148 v1 v2 v3 v4 s0 M) P) (k29 : ∀ s : (Int32 × Int32 × Int32 × zzMem), P (.inl s) → zz_W G m_X9_tuned t t t 29 [some (.ref 0), some (.int v1), some (.int s.1), some (.int s.2.1), some (.int s.2.2.1), none] [] s.2.2.2 Q) (kR : ∀ r : (Int32 × zzMem), P (.inr r) → Q (some (.int r.1)) r.2) : zz_W G m_X9_tuned t t t 148 [some (.ref 0), some (.int v1), some (.int v2), some (.int v3), some (.int v4), none] [.int s0] M Q := by
  unfold j_X9_tuned_148 at h
  refine s_istore ([some (.ref 0), some (.int v1), some (.int v2), some (.int v3), some (.int v4), some (.int s0)]) dX9_tuned_148 (by decide) rfl rfl ?_
  refine r_iload_n dX9_tuned_150 rfl ?_
  refine r_if_eq 160 dX9_tuned_151 (by decide) (fun c1 => ?_) (fun c1 => ?_)
  · have h := zK_pos h c1
    refine zz_mask [2, 3] ?_
    exact w_X9_tuned_160 (v1) (v4) (s0) M ht h k29 kR
  · have h := zK_neg h c1
    refine r_iload dX9_tuned_154 rfl ?_
    refine r_iload_n dX9_tuned_156 rfl ?_
    refine r_icmp_ge 166 dX9_tuned_157 (by decide) (fun c2 => ?_) (fun c2 => ?_)
    · have h := zK_pos h c2
      refine r_iinc (nI 1) (fun x3 => [some (.ref 0), some (.int v1), some (.int v2), some (.int v3), some (.int x3), some (.int s0)]) dX9_tuned_166 rfl (by decide) (by decide) rfl (fun _ => rfl) (fun x3 ex3 => ?_)
      have h := zK_bd h ex3
      refine r_goto 29 dX9_tuned_169 (by decide) ?_
      refine zz_mask [5] ?_
      exact k29 ((v2, v3, x3, M)) (zK_some h)
    · have h := zK_neg h c2
      refine zz_mask [2, 3] ?_
      exact w_X9_tuned_160 (v1) (v4) (s0) M ht h k29 kR
noncomputable def b_X9_tuned_76 (v1 : Int32) (v2 : Int32) (v3 : Int32) (v4 : Int32) (v5 : Int32) (M : zzMem) : Option ((Int32 × zzMem) ⊕ ((Int32 × Int32 × Int32 × zzMem) ⊕ (Int32 × zzMem))) :=
  if (M.1 27 1) ≤ v5 then
  (if v1 = 0 then
  ((f_X0_allReads 56 M).bind (fun r4 =>
  zup (j_X9_tuned_148 v1 v2 v3 v4 r4 M)))
  else ((f_X0_usedPages 56 M).bind (fun r3 =>
  zup (j_X9_tuned_148 v1 v2 v3 v4 (r3 * v4) M))))
  else ((f_X5_keyAt 27 v5 M).bind (fun r5 =>
  (f_X2_store 52 r5 (nI 0) M).bind (fun q6 => zpr q6 (fun r7 M8 =>
  zbd (v5 + (nI 1)) (fun x9 =>
  some (.inl (x9, M8)))))))
set_option maxHeartbeats 4000000 in
set_option maxRecDepth 100000 in
theorem x_X9_tuned_76 {G : zzG} {t : Nat} {Q : Option Value → zzMem → Prop} (v1 : Int32) (v2 : Int32) (v3 : Int32) (v4 : Int32) (v5 : Int32) (M : zzMem) (ht : 180 ≤ t)  {P : ((Int32 × zzMem) ⊕ ((Int32 × Int32 × Int32 × zzMem) ⊕ (Int32 × zzMem))) → Prop} (h : zK (b_X9_tuned_76 v1 v2 v3 v4 v5 M) P) (k76 : ∀ s : (Int32 × zzMem), P (.inl s) → zz_W G m_X9_tuned t t t 76 [some (.ref 0), some (.int v1), some (.int v2), some (.int v3), some (.int v4), some (.int s.1)] [] s.2 Q) (k29 : ∀ s : (Int32 × Int32 × Int32 × zzMem), P (.inr (.inl s)) → zz_W G m_X9_tuned t t t 29 [some (.ref 0), some (.int v1), some (.int s.1), some (.int s.2.1), some (.int s.2.2.1), none] [] s.2.2.2 Q) (kR : ∀ r : (Int32 × zzMem), P (.inr (.inr r)) → Q (some (.int r.1)) r.2) : zz_W G m_X9_tuned t t t 76 [some (.ref 0), some (.int v1), some (.int v2), some (.int v3), some (.int v4), some (.int v5)] [] M Q := by
  unfold b_X9_tuned_76 at h
  refine r_iload dX9_tuned_76 rfl ?_
  refine r_aload_n dX9_tuned_78 rfl ?_
  refine r_getR (k := 0) (q := 12) dX9_tuned_79 zf_X9_33 (zo_X9 (zs_X9 ht)) (zr_X9_3 (zs_X9 ht)).1 (zr_X9_3 (zs_X9 ht)).2.1 (zr_X9_3 (zs_X9 ht)).2.2 ?_
  refine r_getR (k := 12) (q := 27) dX9_tuned_82 zf_X9_77 (zo_X2 (zc_X9_3 (zs_X9 ht))) (zr_X2_2 (zc_X9_3 (zs_X9 ht))).1 (zr_X2_2 (zc_X9_3 (zs_X9 ht))).2.1 (zr_X2_2 (zc_X9_3 (zs_X9 ht))).2.2 ?_
  refine r_getI (k := 27) dX9_tuned_85 zf_X9_81 (zo_X5 (zc_X2_2 (zc_X9_3 (zs_X9 ht)))) (zi_X5_1 (zc_X2_2 (zc_X9_3 (zs_X9 ht)))) ?_
  refine r_icmp_ge 118 dX9_tuned_88 (by decide) (fun c1 => ?_) (fun c1 => ?_)
  · have h := zK_pos h c1
    refine r_iload_n dX9_tuned_118 rfl ?_
    refine r_if_ne 135 dX9_tuned_119 (by decide) (fun c2 => ?_) (fun c2 => ?_)
    · have h := zK_neg h c2
      refine r_aload_n dX9_tuned_135 rfl ?_
      refine r_getR (k := 0) (q := 52) dX9_tuned_136 zf_X9_40 (zo_X9 (zs_X9 ht)) (zr_X9_5 (zs_X9 ht)).1 (zr_X9_5 (zs_X9 ht)).2.1 (zr_X9_5 (zs_X9 ht)).2.2 ?_
      refine r_getR (k := 52) (q := 56) dX9_tuned_139 zf_X9_156 (zo_X2 (zc_X9_5 (zs_X9 ht))) (zr_X2_1 (zc_X9_5 (zs_X9 ht))).1 (zr_X2_1 (zc_X9_5 (zs_X9 ht))).2.1 (zr_X2_1 (zc_X9_5 (zs_X9 ht))).2.2 ?_
      refine kV_ir (as := []) (st := []) (k := 56) dX9_tuned_142 zM_X0_usedPages zk_X9_183 (zo_X0 (zc_X2_1 (zc_X9_5 (zs_X9 ht)))) (by decide) rfl ⟨Nat.le_of_ble_eq_true rfl, Nat.le_of_ble_eq_true rfl⟩ (Nat.le_of_ble_eq_true rfl) (zz_T0 rfl rfl) (fun Q' P' k h => c_X0_usedPages (56) M (zc_X2_1 (zc_X9_5 (zs_X9 ht))) h k) h (fun r3 h => ?_)
      refine r_iload dX9_tuned_145 rfl ?_
      refine r_imul dX9_tuned_147 ?_
      refine zz_mask [5] ?_
      exact w_X9_tuned_148 (v1) (v2) (v3) (v4) ((r3 * v4)) M ht (zK_up h) k29 kR
    · have h := zK_pos h c2
      refine r_aload_n dX9_tuned_122 rfl ?_
      refine r_getR (k := 0) (q := 52) dX9_tuned_123 zf_X9_40 (zo_X9 (zs_X9 ht)) (zr_X9_5 (zs_X9 ht)).1 (zr_X9_5 (zs_X9 ht)).2.1 (zr_X9_5 (zs_X9 ht)).2.2 ?_
      refine r_getR (k := 52) (q := 56) dX9_tuned_126 zf_X9_156 (zo_X2 (zc_X9_5 (zs_X9 ht))) (zr_X2_1 (zc_X9_5 (zs_X9 ht))).1 (zr_X2_1 (zc_X9_5 (zs_X9 ht))).2.1 (zr_X2_1 (zc_X9_5 (zs_X9 ht))).2.2 ?_
      refine kV_ir (as := []) (st := []) (k := 56) dX9_tuned_129 zM_X0_allReads zk_X9_262 (zo_X0 (zc_X2_1 (zc_X9_5 (zs_X9 ht)))) (by decide) rfl ⟨Nat.le_of_ble_eq_true rfl, Nat.le_of_ble_eq_true rfl⟩ (Nat.le_of_ble_eq_true rfl) (zz_T0 rfl rfl) (fun Q' P' k h => c_X0_allReads (56) M (zc_X2_1 (zc_X9_5 (zs_X9 ht))) h k) h (fun r4 h => ?_)
      refine r_goto 148 dX9_tuned_132 (by decide) ?_
      refine zz_mask [5] ?_
      exact w_X9_tuned_148 (v1) (v2) (v3) (v4) (r4) M ht (zK_up h) k29 kR
  · have h := zK_neg h c1
    refine r_aload_n dX9_tuned_91 rfl ?_
    refine r_getR (k := 0) (q := 52) dX9_tuned_92 zf_X9_40 (zo_X9 (zs_X9 ht)) (zr_X9_5 (zs_X9 ht)).1 (zr_X9_5 (zs_X9 ht)).2.1 (zr_X9_5 (zs_X9 ht)).2.2 ?_
    refine r_aload_n dX9_tuned_95 rfl ?_
    refine r_getR (k := 0) (q := 12) dX9_tuned_96 zf_X9_33 (zo_X9 (zs_X9 ht)) (zr_X9_3 (zs_X9 ht)).1 (zr_X9_3 (zs_X9 ht)).2.1 (zr_X9_3 (zs_X9 ht)).2.2 ?_
    refine r_getR (k := 12) (q := 27) dX9_tuned_99 zf_X9_77 (zo_X2 (zc_X9_3 (zs_X9 ht))) (zr_X2_2 (zc_X9_3 (zs_X9 ht))).1 (zr_X2_2 (zc_X9_3 (zs_X9 ht))).2.1 (zr_X2_2 (zc_X9_3 (zs_X9 ht))).2.2 ?_
    refine r_iload dX9_tuned_102 rfl ?_
    refine kV_ir (as := [.int v5]) (st := [.ref 52]) (k := 27) dX9_tuned_104 zM_X5_keyAt zk_X9_326 (zo_X5 (zc_X2_2 (zc_X9_3 (zs_X9 ht)))) (by decide) rfl ⟨Nat.le_of_ble_eq_true rfl, Nat.le_of_ble_eq_true rfl⟩ (Nat.le_of_ble_eq_true rfl) (zz_T0 rfl rfl) (fun Q' P' k h => c_X5_keyAt (27) (v5) M (zc_X2_2 (zc_X9_3 (zs_X9 ht))) h k) h (fun r5 h => ?_)
    refine r_iconst (v := (nI 0)) dX9_tuned_107 (by decide) ?_
    refine kV_iw (as := [.int r5, .int (nI 0)]) (st := []) (k := 52) dX9_tuned_108 zM_X2_store zk_X9_120 (zo_X2 (zc_X9_5 (zs_X9 ht))) (by decide) rfl ⟨Nat.le_of_ble_eq_true rfl, Nat.le_of_ble_eq_true rfl⟩ (Nat.le_of_ble_eq_true rfl) (zz_T0 rfl rfl) (fun Q' P' k h => c_X2_store (52) (r5) ((nI 0)) M (zc_X9_5 (zs_X9 ht)) h (fun r p => k r.1 r.2 p)) h (fun r7 M8 h => ?_)
    have h := zK_pr h
    refine r_pop dX9_tuned_111 rfl ?_
    refine r_iinc (nI 1) (fun x9 => [some (.ref 0), some (.int v1), some (.int v2), some (.int v3), some (.int v4), some (.int x9)]) dX9_tuned_112 rfl (by decide) (by decide) rfl (fun _ => rfl) (fun x9 ex9 => ?_)
    have h := zK_bd h ex9
    refine r_goto 76 dX9_tuned_115 (by decide) ?_
    exact k76 ((x9, M8)) (zK_some h)
noncomputable def j_X9_tuned_76 (v1 : Int32) (v2 : Int32) (v3 : Int32) (v4 : Int32) (v5 : Int32) (M : zzMem) : Option ((Int32 × Int32 × Int32 × zzMem) ⊕ (Int32 × zzMem)) :=
  zlp (fun s : (Int32 × zzMem) => b_X9_tuned_76 v1 v2 v3 v4 s.1 s.2) (v5, M)
set_option maxHeartbeats 4000000 in
set_option maxRecDepth 100000 in
theorem w_X9_tuned_76 {G : zzG} {t : Nat} {Q : Option Value → zzMem → Prop} (v1 : Int32) (v2 : Int32) (v3 : Int32) (v4 : Int32) (v5 : Int32) (M : zzMem) (ht : 180 ≤ t)  {P : ((Int32 × Int32 × Int32 × zzMem) ⊕ (Int32 × zzMem)) → Prop} (h : zK (j_X9_tuned_76 v1 v2 v3 v4 v5 M) P) (k29 : ∀ s : (Int32 × Int32 × Int32 × zzMem), P (.inl s) → zz_W G m_X9_tuned t t t 29 [some (.ref 0), some (.int v1), some (.int s.1), some (.int s.2.1), some (.int s.2.2.1), none] [] s.2.2.2 Q) (kR : ∀ r : (Int32 × zzMem), P (.inr r) → Q (some (.int r.1)) r.2) : zz_W G m_X9_tuned t t t 76 [some (.ref 0), some (.int v1), some (.int v2), some (.int v3), some (.int v4), some (.int v5)] [] M Q := by
  unfold j_X9_tuned_76 at h
  exact zK_lp h (fun s : (Int32 × zzMem) => zz_W G m_X9_tuned t t t 76 [some (.ref 0), some (.int v1), some (.int v2), some (.int v3), some (.int v4), some (.int s.1)] [] s.2 Q) (fun s h => x_X9_tuned_76 v1 v2 v3 v4 s.1 s.2 ht h (fun s p => p) k29 kR)
noncomputable def b_X9_tuned_29 (v1 : Int32) (v2 : Int32) (v3 : Int32) (v4 : Int32) (M : zzMem) : Option ((Int32 × Int32 × Int32 × zzMem) ⊕ (Int32 × zzMem)) :=
  if (nI 6) < v4 then
  (some ((.inr (v2, M))))
  else ((f_X2_reset 52 (M.1 12 4) v4 (M.1 12 5) (M.1 12 6) (M.1 12 7) M).bind (fun M2 =>
  j_X9_tuned_76 v1 v2 v3 v4 (nI 0) M2))
set_option maxHeartbeats 4000000 in
set_option maxRecDepth 100000 in
theorem x_X9_tuned_29 {G : zzG} {t : Nat} {Q : Option Value → zzMem → Prop} (v1 : Int32) (v2 : Int32) (v3 : Int32) (v4 : Int32) (M : zzMem) (ht : 180 ≤ t)  {P : ((Int32 × Int32 × Int32 × zzMem) ⊕ (Int32 × zzMem)) → Prop} (h : zK (b_X9_tuned_29 v1 v2 v3 v4 M) P) (k29 : ∀ s : (Int32 × Int32 × Int32 × zzMem), P (.inl s) → zz_W G m_X9_tuned t t t 29 [some (.ref 0), some (.int v1), some (.int s.1), some (.int s.2.1), some (.int s.2.2.1), none] [] s.2.2.2 Q) (kR : ∀ r : (Int32 × zzMem), P (.inr r) → Q (some (.int r.1)) r.2) : zz_W G m_X9_tuned t t t 29 [some (.ref 0), some (.int v1), some (.int v2), some (.int v3), some (.int v4), none] [] M Q := by
  unfold b_X9_tuned_29 at h
  refine r_iload dX9_tuned_29 rfl ?_
  refine r_bipush (v := (nI 6)) dX9_tuned_31 (by decide) ?_
  refine r_icmp_gt 172 dX9_tuned_33 (by decide) (fun c1 => ?_) (fun c1 => ?_)
  · have h := zK_pos h c1
    refine r_iload_n dX9_tuned_172 rfl ?_
    exact r_iret dX9_tuned_173 rfl rfl rfl (kR ((v2, M)) (zK_some h))
  · have h := zK_neg h c1
    refine r_aload_n dX9_tuned_36 rfl ?_
    refine r_getR (k := 0) (q := 52) dX9_tuned_37 zf_X9_40 (zo_X9 (zs_X9 ht)) (zr_X9_5 (zs_X9 ht)).1 (zr_X9_5 (zs_X9 ht)).2.1 (zr_X9_5 (zs_X9 ht)).2.2 ?_
    refine r_aload_n dX9_tuned_40 rfl ?_
    refine r_getR (k := 0) (q := 12) dX9_tuned_41 zf_X9_33 (zo_X9 (zs_X9 ht)) (zr_X9_3 (zs_X9 ht)).1 (zr_X9_3 (zs_X9 ht)).2.1 (zr_X9_3 (zs_X9 ht)).2.2 ?_
    refine r_getI (k := 12) dX9_tuned_44 zf_X9_153 (zo_X2 (zc_X9_3 (zs_X9 ht))) (zi_X2_4 (zc_X9_3 (zs_X9 ht))) ?_
    refine r_iload dX9_tuned_47 rfl ?_
    refine r_aload_n dX9_tuned_49 rfl ?_
    refine r_getR (k := 0) (q := 12) dX9_tuned_50 zf_X9_33 (zo_X9 (zs_X9 ht)) (zr_X9_3 (zs_X9 ht)).1 (zr_X9_3 (zs_X9 ht)).2.1 (zr_X9_3 (zs_X9 ht)).2.2 ?_
    refine r_getI (k := 12) dX9_tuned_53 zf_X9_165 (zo_X2 (zc_X9_3 (zs_X9 ht))) (zi_X2_5 (zc_X9_3 (zs_X9 ht))) ?_
    refine r_aload_n dX9_tuned_56 rfl ?_
    refine r_getR (k := 0) (q := 12) dX9_tuned_57 zf_X9_33 (zo_X9 (zs_X9 ht)) (zr_X9_3 (zs_X9 ht)).1 (zr_X9_3 (zs_X9 ht)).2.1 (zr_X9_3 (zs_X9 ht)).2.2 ?_
    refine r_getI (k := 12) dX9_tuned_60 zf_X9_168 (zo_X2 (zc_X9_3 (zs_X9 ht))) (zi_X2_6 (zc_X9_3 (zs_X9 ht))) ?_
    refine r_aload_n dX9_tuned_63 rfl ?_
    refine r_getR (k := 0) (q := 12) dX9_tuned_64 zf_X9_33 (zo_X9 (zs_X9 ht)) (zr_X9_3 (zs_X9 ht)).1 (zr_X9_3 (zs_X9 ht)).2.1 (zr_X9_3 (zs_X9 ht)).2.2 ?_
    refine r_getI (k := 12) dX9_tuned_67 zf_X9_171 (zo_X2 (zc_X9_3 (zs_X9 ht))) (zi_X2_7 (zc_X9_3 (zs_X9 ht))) ?_
    refine kV_vw (as := [.int (M.1 12 4), .int v4, .int (M.1 12 5), .int (M.1 12 6), .int (M.1 12 7)]) (st := []) (k := 52) dX9_tuned_70 zM_X2_reset zk_X9_67 (zo_X2 (zc_X9_5 (zs_X9 ht))) (by decide) rfl ⟨Nat.le_of_ble_eq_true rfl, Nat.le_of_ble_eq_true rfl⟩ (Nat.le_of_ble_eq_true rfl) (zz_T0 rfl rfl) (fun Q' P' k h => c_X2_reset (52) ((M.1 12 4)) (v4) ((M.1 12 5)) ((M.1 12 6)) ((M.1 12 7)) M (zc_X9_5 (zs_X9 ht)) h k) h (fun M2 h => ?_)
    refine r_iconst (v := (nI 0)) dX9_tuned_73 (by decide) ?_
    refine s_istore ([some (.ref 0), some (.int v1), some (.int v2), some (.int v3), some (.int v4), some (.int (nI 0))]) dX9_tuned_74 (by decide) rfl rfl ?_
    exact w_X9_tuned_76 (v1) (v2) (v3) (v4) ((nI 0)) M2 ht h k29 kR
noncomputable def j_X9_tuned_29 (v1 : Int32) (v2 : Int32) (v3 : Int32) (v4 : Int32) (M : zzMem) : Option (Int32 × zzMem) :=
  zlp (fun s : (Int32 × Int32 × Int32 × zzMem) => b_X9_tuned_29 v1 s.1 s.2.1 s.2.2.1 s.2.2.2) (v2, v3, v4, M)
set_option maxHeartbeats 4000000 in
set_option maxRecDepth 100000 in
theorem w_X9_tuned_29 {G : zzG} {t : Nat} {Q : Option Value → zzMem → Prop} (v1 : Int32) (v2 : Int32) (v3 : Int32) (v4 : Int32) (M : zzMem) (ht : 180 ≤ t)  {P : (Int32 × zzMem) → Prop} (h : zK (j_X9_tuned_29 v1 v2 v3 v4 M) P) (kR : ∀ r : (Int32 × zzMem), P r → Q (some (.int r.1)) r.2) : zz_W G m_X9_tuned t t t 29 [some (.ref 0), some (.int v1), some (.int v2), some (.int v3), some (.int v4), none] [] M Q := by
  unfold j_X9_tuned_29 at h
  exact zK_lp h (fun s : (Int32 × Int32 × Int32 × zzMem) => zz_W G m_X9_tuned t t t 29 [some (.ref 0), some (.int v1), some (.int s.1), some (.int s.2.1), some (.int s.2.2.1), none] [] s.2.2.2 Q) (fun s h => x_X9_tuned_29 v1 s.1 s.2.1 s.2.2.1 s.2.2.2 ht h (fun s p => p) kR)
noncomputable def f_X9_tuned (a1 : Int32) (M : zzMem) : Option (Int32 × zzMem) :=
  if (f_X9_within a1 (nI 0) (nI 1)) = true then
  ((f_X2_copyFrom 52 12 M).bind (fun M2 =>
  j_X9_tuned_29 a1 (nI 0) (nI 0) (nI 2) M2))
  else (some (((-1 : Int32), M)))
set_option maxHeartbeats 4000000 in
set_option maxRecDepth 100000 in
theorem w_X9_tuned_0 {G : zzG} {t : Nat} {Q : Option Value → zzMem → Prop} (a1 : Int32) (M : zzMem) (ht : 180 ≤ t)  {P : (Int32 × zzMem) → Prop} (h : zK (f_X9_tuned a1 M) P) (kR : ∀ r : (Int32 × zzMem), P r → Q (some (.int r.1)) r.2) : zz_W G m_X9_tuned t t t 0 [some (.ref 0), some (.int a1), none, none, none, none] [] M Q := by
  unfold f_X9_tuned at h
  refine r_iload_n dX9_tuned_0 rfl ?_
  refine r_iconst (v := (nI 0)) dX9_tuned_1 (by decide) ?_
  refine r_iconst (v := (nI 1)) dX9_tuned_2 (by decide) ?_
  refine tS_zr (v := f_X9_within a1 (nI 0) (nI 1)) (as := [.int a1, .int (nI 0), .int (nI 1)]) (st := []) dX9_tuned_3 zM_X9_within zk_X9_63 ⟨Nat.le_of_ble_eq_true rfl, Nat.le_of_ble_eq_true rfl⟩ (Nat.le_of_ble_eq_true rfl) (zz_T0 rfl rfl) (fun Q' h => c_X9_within (a1) ((nI 0)) ((nI 1)) M h) ?_
  refine r_ifZ_ne 11 dX9_tuned_6 (by decide) (fun c1 => ?_) (fun c1 => ?_)
  · have h := zK_pos h c1
    refine r_aload_n dX9_tuned_11 rfl ?_
    refine r_getR (k := 0) (q := 52) dX9_tuned_12 zf_X9_40 (zo_X9 (zs_X9 ht)) (zr_X9_5 (zs_X9 ht)).1 (zr_X9_5 (zs_X9 ht)).2.1 (zr_X9_5 (zs_X9 ht)).2.2 ?_
    refine r_aload_n dX9_tuned_15 rfl ?_
    refine r_getR (k := 0) (q := 12) dX9_tuned_16 zf_X9_33 (zo_X9 (zs_X9 ht)) (zr_X9_3 (zs_X9 ht)).1 (zr_X9_3 (zs_X9 ht)).2.1 (zr_X9_3 (zs_X9 ht)).2.2 ?_
    refine kV_vw (as := [.ref 12]) (st := []) (k := 52) dX9_tuned_19 zM_X2_copyFrom zk_X9_313 (zo_X2 (zc_X9_5 (zs_X9 ht))) (by decide) rfl ⟨Nat.le_of_ble_eq_true rfl, Nat.le_of_ble_eq_true rfl⟩ (Nat.le_of_ble_eq_true rfl) (zz_T0 rfl rfl) (fun Q' P' k h => c_X2_copyFrom (52) (12) M (zc_X9_5 (zs_X9 ht)) (zc_X9_3 (zs_X9 ht)) h k) h (fun M2 h => ?_)
    refine r_iconst (v := (nI 0)) dX9_tuned_22 (by decide) ?_
    refine s_istore_n ([some (.ref 0), some (.int a1), some (.int (nI 0)), none, none, none]) dX9_tuned_23 (by decide) rfl rfl ?_
    refine r_iconst (v := (nI 0)) dX9_tuned_24 (by decide) ?_
    refine s_istore_n ([some (.ref 0), some (.int a1), some (.int (nI 0)), some (.int (nI 0)), none, none]) dX9_tuned_25 (by decide) rfl rfl ?_
    refine r_iconst (v := (nI 2)) dX9_tuned_26 (by decide) ?_
    refine s_istore ([some (.ref 0), some (.int a1), some (.int (nI 0)), some (.int (nI 0)), some (.int (nI 2)), none]) dX9_tuned_27 (by decide) rfl rfl ?_
    exact w_X9_tuned_29 (a1) ((nI 0)) ((nI 0)) ((nI 2)) M2 ht h kR
  · have h := zK_neg h c1
    refine r_iconst (v := (-1 : Int32)) dX9_tuned_9 (by decide) ?_
    exact r_iret dX9_tuned_10 rfl rfl rfl (kR (((-1 : Int32), M)) (zK_some h))
set_option maxHeartbeats 4000000 in
set_option maxRecDepth 100000 in
theorem c_X9_tuned {G : zzG} {t : Nat} {Q : Option Value → zzMem → Prop} (a1 : Int32) (M : zzMem) (ht : 180 ≤ t)  {P : (Int32 × zzMem) → Prop} (h : zK (f_X9_tuned a1 M) P) (kR : ∀ r : (Int32 × zzMem), P r → Q (some (.int r.1)) r.2) : zz_S G m_X9_tuned t t [.ref 0, .int a1] M Q :=
  zz_S_of (by decide) (by decide) (Nat.le_of_ble_eq_true rfl) (w_X9_tuned_0 a1 M ht h kR)
noncomputable def f_X9_signOf (a0 : Int32) : Int32 :=
  (((nI 1) <<< ((a0 >>> ((nI 12) &&& 31)) &&& 31)) ||| ((nI 1) <<< ((a0 &&& (nI 15)) &&& 31)))
set_option maxHeartbeats 4000000 in
set_option maxRecDepth 100000 in
theorem w_X9_signOf_0 {G : zzG} {t : Nat} {Q : Option Value → zzMem → Prop} (a0 : Int32) (M : zzMem)  {P : Int32 → Prop} (h : P (f_X9_signOf a0)) (kR : ∀ r : Int32, P r → Q (some (.int r)) M) : zz_W G m_X9_signOf t t t 0 [some (.int a0)] [] M Q := by
  unfold f_X9_signOf at h
  refine r_iconst (v := (nI 1)) dX9_signOf_0 (by decide) ?_
  refine r_iload_n dX9_signOf_1 rfl ?_
  refine r_bipush (v := (nI 12)) dX9_signOf_2 (by decide) ?_
  refine r_ishr dX9_signOf_4 ?_
  refine r_ishl dX9_signOf_5 ?_
  refine r_iconst (v := (nI 1)) dX9_signOf_6 (by decide) ?_
  refine r_iload_n dX9_signOf_7 rfl ?_
  refine r_bipush (v := (nI 15)) dX9_signOf_8 (by decide) ?_
  refine r_iand dX9_signOf_10 ?_
  refine r_ishl dX9_signOf_11 ?_
  refine r_ior dX9_signOf_12 ?_
  exact r_iret dX9_signOf_13 rfl rfl rfl (kR ((((nI 1) <<< ((a0 >>> ((nI 12) &&& 31)) &&& 31)) ||| ((nI 1) <<< ((a0 &&& (nI 15)) &&& 31)))) h)
set_option maxHeartbeats 4000000 in
set_option maxRecDepth 100000 in
theorem c_X9_signOf {G : zzG} {t : Nat} {Q : Option Value → zzMem → Prop} (a0 : Int32) (M : zzMem)  (h : Q (some (.int (f_X9_signOf a0))) M) : zz_S G m_X9_signOf t t [.int a0] M Q :=
  zz_S_of (by decide) (by decide) (Nat.le_of_ble_eq_true rfl) (w_X9_signOf_0 a0 M  (P := fun r => Q (some (.int r)) M) h (fun r p => p))
