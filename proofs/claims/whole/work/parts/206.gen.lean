noncomputable def b_X9_gatherSigns_10 (v1 : Int32) (M : zzMem) : Option ((Int32 × zzMem) ⊕ zzMem) :=
  if (M.1 27 1) ≤ v1 then
  (some ((.inr M)))
  else ((f_X2_hashAt 12 v1 M).bind (fun r2 =>
  (f_X2_addressOf 12 r2 M).bind (fun r3 =>
  zgd (vp_in r3 64) (
  zbd (zz_si M 72 (r3).toNatClampNeg ((M.1 72 (r3).toNatClampNeg) ||| (f_X9_signOf r2))) (fun M5 =>
  zbd (v1 + (nI 1)) (fun x6 =>
  some (.inl (x6, M5))))))))
set_option maxHeartbeats 4000000 in
set_option maxRecDepth 100000 in
theorem x_X9_gatherSigns_10 {G : zzG} {t : Nat} {Q : Option Value → zzMem → Prop} (v1 : Int32) (M : zzMem) (ht : 180 ≤ t)  {P : ((Int32 × zzMem) ⊕ zzMem) → Prop} (h : zK (b_X9_gatherSigns_10 v1 M) P) (k10 : ∀ s : (Int32 × zzMem), P (.inl s) → zz_W G m_X9_gatherSigns t t t 10 [some (.ref 0), some (.int s.1), none] [] s.2 Q) (kR : ∀ r : zzMem, P (.inr r) → Q none r) : zz_W G m_X9_gatherSigns t t t 10 [some (.ref 0), some (.int v1), none] [] M Q := by
  unfold b_X9_gatherSigns_10 at h
  refine r_iload_n dX9_gatherSigns_10 rfl ?_
  refine r_aload_n dX9_gatherSigns_11 rfl ?_
  refine r_getR (k := 0) (q := 12) dX9_gatherSigns_12 zf_X9_33 (zo_X9 (zs_X9 ht)) (zr_X9_3 (zs_X9 ht)).1 (zr_X9_3 (zs_X9 ht)).2.1 (zr_X9_3 (zs_X9 ht)).2.2 ?_
  refine r_getR (k := 12) (q := 27) dX9_gatherSigns_15 zf_X9_77 (zo_X2 (zc_X9_3 (zs_X9 ht))) (zr_X2_2 (zc_X9_3 (zs_X9 ht))).1 (zr_X2_2 (zc_X9_3 (zs_X9 ht))).2.1 (zr_X2_2 (zc_X9_3 (zs_X9 ht))).2.2 ?_
  refine r_getI (k := 27) dX9_gatherSigns_18 zf_X9_81 (zo_X5 (zc_X2_2 (zc_X9_3 (zs_X9 ht)))) (zi_X5_1 (zc_X2_2 (zc_X9_3 (zs_X9 ht)))) ?_
  refine r_icmp_ge 59 dX9_gatherSigns_21 (by decide) (fun c1 => ?_) (fun c1 => ?_)
  · have h := zK_pos h c1
    exact r_vret dX9_gatherSigns_59 rfl rfl rfl (kR (M) (zK_some h))
  · have h := zK_neg h c1
    refine r_aload_n dX9_gatherSigns_24 rfl ?_
    refine r_getR (k := 0) (q := 12) dX9_gatherSigns_25 zf_X9_33 (zo_X9 (zs_X9 ht)) (zr_X9_3 (zs_X9 ht)).1 (zr_X9_3 (zs_X9 ht)).2.1 (zr_X9_3 (zs_X9 ht)).2.2 ?_
    refine r_iload_n dX9_gatherSigns_28 rfl ?_
    refine kV_ir (as := [.int v1]) (st := []) (k := 12) dX9_gatherSigns_29 zM_X2_hashAt zk_X9_300 (zo_X2 (zc_X9_3 (zs_X9 ht))) (by decide) rfl ⟨Nat.le_of_ble_eq_true rfl, Nat.le_of_ble_eq_true rfl⟩ (Nat.le_of_ble_eq_true rfl) (zz_T0 rfl rfl) (fun Q' P' k h => c_X2_hashAt (12) (v1) M (zc_X9_3 (zs_X9 ht)) h k) h (fun r2 h => ?_)
    refine s_istore_n ([some (.ref 0), some (.int v1), some (.int r2)]) dX9_gatherSigns_32 (by decide) rfl rfl ?_
    refine r_aload_n dX9_gatherSigns_33 rfl ?_
    refine r_getR (k := 0) (q := 72) dX9_gatherSigns_34 zf_X9_43 (zo_X9 (zs_X9 ht)) (zr_X9_6 (zs_X9 ht)).1 (zr_X9_6 (zs_X9 ht)).2.1 (zr_X9_6 (zs_X9 ht)).2.2 ?_
    refine r_aload_n dX9_gatherSigns_37 rfl ?_
    refine r_getR (k := 0) (q := 12) dX9_gatherSigns_38 zf_X9_33 (zo_X9 (zs_X9 ht)) (zr_X9_3 (zs_X9 ht)).1 (zr_X9_3 (zs_X9 ht)).2.1 (zr_X9_3 (zs_X9 ht)).2.2 ?_
    refine r_iload_n dX9_gatherSigns_41 rfl ?_
    refine kV_ir (as := [.int r2]) (st := [.ref 72]) (k := 12) dX9_gatherSigns_42 zM_X2_addressOf zk_X9_210 (zo_X2 (zc_X9_3 (zs_X9 ht))) (by decide) rfl ⟨Nat.le_of_ble_eq_true rfl, Nat.le_of_ble_eq_true rfl⟩ (Nat.le_of_ble_eq_true rfl) (zz_T0 rfl rfl) (fun Q' P' k h => c_X2_addressOf (12) (r2) M (zc_X9_3 (zs_X9 ht)) h k) h (fun r3 h => ?_)
    refine r_dup2 dX9_gatherSigns_45 rfl rfl ?_
    obtain ⟨g4, h⟩ := zK_gd h
    refine r_iald dX9_gatherSigns_46 (za_X9_6 (zs_X9 ht)) g4 ?_
    refine r_iload_n dX9_gatherSigns_47 rfl ?_
    refine tS_ir (v := f_X9_signOf r2) (as := [.int r2]) (st := [.int (M.1 72 (r3).toNatClampNeg), .int r3, .ref 72]) dX9_gatherSigns_48 zM_X9_signOf zk_X9_331 ⟨Nat.le_of_ble_eq_true rfl, Nat.le_of_ble_eq_true rfl⟩ (Nat.le_of_ble_eq_true rfl) (zz_T0 rfl rfl) (fun Q' h => c_X9_signOf (r2) M h) ?_
    refine r_ior dX9_gatherSigns_51 ?_
    refine r_iast dX9_gatherSigns_52 (za_X9_6 (zs_X9 ht)) g4 (fun M5 eM5 => ?_)
    have h := zK_bd h eM5
    refine r_iinc (nI 1) (fun x6 => [some (.ref 0), some (.int x6), some (.int r2)]) dX9_gatherSigns_53 rfl (by decide) (by decide) rfl (fun _ => rfl) (fun x6 ex6 => ?_)
    have h := zK_bd h ex6
    refine r_goto 10 dX9_gatherSigns_56 (by decide) ?_
    refine zz_mask [2] ?_
    exact k10 ((x6, M5)) (zK_some h)
noncomputable def j_X9_gatherSigns_10 (v1 : Int32) (M : zzMem) : Option zzMem :=
  zlp (fun s : (Int32 × zzMem) => b_X9_gatherSigns_10 s.1 s.2) (v1, M)
set_option maxHeartbeats 4000000 in
set_option maxRecDepth 100000 in
theorem w_X9_gatherSigns_10 {G : zzG} {t : Nat} {Q : Option Value → zzMem → Prop} (v1 : Int32) (M : zzMem) (ht : 180 ≤ t)  {P : zzMem → Prop} (h : zK (j_X9_gatherSigns_10 v1 M) P) (kR : ∀ r : zzMem, P r → Q none r) : zz_W G m_X9_gatherSigns t t t 10 [some (.ref 0), some (.int v1), none] [] M Q := by
  unfold j_X9_gatherSigns_10 at h
  exact zK_lp h (fun s : (Int32 × zzMem) => zz_W G m_X9_gatherSigns t t t 10 [some (.ref 0), some (.int s.1), none] [] s.2 Q) (fun s h => x_X9_gatherSigns_10 s.1 s.2 ht h (fun s p => p) kR)
noncomputable def f_X9_gatherSigns  (M : zzMem) : Option zzMem :=
  (f_J7_fill_53178 72 64 (nI 0) M).bind (fun M1 =>
  j_X9_gatherSigns_10 (nI 0) M1)
set_option maxHeartbeats 4000000 in
set_option maxRecDepth 100000 in
theorem w_X9_gatherSigns_0 {G : zzG} {t : Nat} {Q : Option Value → zzMem → Prop}  (M : zzMem) (ht : 180 ≤ t)  {P : zzMem → Prop} (h : zK (f_X9_gatherSigns  M) P) (kR : ∀ r : zzMem, P r → Q none r) : zz_W G m_X9_gatherSigns t t t 0 [some (.ref 0), none, none] [] M Q := by
  unfold f_X9_gatherSigns at h
  refine r_aload_n dX9_gatherSigns_0 rfl ?_
  refine r_getR (k := 0) (q := 72) dX9_gatherSigns_1 zf_X9_43 (zo_X9 (zs_X9 ht)) (zr_X9_6 (zs_X9 ht)).1 (zr_X9_6 (zs_X9 ht)).2.1 (zr_X9_6 (zs_X9 ht)).2.2 ?_
  refine r_iconst (v := (nI 0)) dX9_gatherSigns_4 (by decide) ?_
  refine kS_vw (as := [.ref 72, .int (nI 0)]) (st := []) dX9_gatherSigns_5 zM_J7_fill_53178 zk_X9_292 ⟨Nat.le_of_ble_eq_true rfl, Nat.le_of_ble_eq_true rfl⟩ (Nat.le_of_ble_eq_true rfl) (zz_T0 rfl rfl) (fun Q' P' k h => c_J7_fill_53178 (72) (64) ((nI 0)) M (za_X9_6 (zs_X9 ht)) h k) h (fun M1 h => ?_)
  refine r_iconst (v := (nI 0)) dX9_gatherSigns_8 (by decide) ?_
  refine s_istore_n ([some (.ref 0), some (.int (nI 0)), none]) dX9_gatherSigns_9 (by decide) rfl rfl ?_
  exact w_X9_gatherSigns_10 ((nI 0)) M1 ht h kR
set_option maxHeartbeats 4000000 in
set_option maxRecDepth 100000 in
theorem c_X9_gatherSigns {G : zzG} {t : Nat} {Q : Option Value → zzMem → Prop}  (M : zzMem) (ht : 180 ≤ t)  {P : zzMem → Prop} (h : zK (f_X9_gatherSigns  M) P) (kR : ∀ r : zzMem, P r → Q none r) : zz_S G m_X9_gatherSigns t t [.ref 0] M Q :=
  zz_S_of (by decide) (by decide) (Nat.le_of_ble_eq_true rfl) (w_X9_gatherSigns_0  M ht h kR)
noncomputable def f_X9_signs (a1 : Int32) (M : zzMem) : Option (Int32 × zzMem) :=
  if (f_X9_isBucket a1 M) = true then
  ((f_X9_gatherSigns M).bind (fun M2 =>
  zgd (vp_in a1 64) (
  some (((M2.1 72 (a1).toNatClampNeg), M2)))))
  else (some (((-1 : Int32), M)))
set_option maxHeartbeats 4000000 in
set_option maxRecDepth 100000 in
theorem w_X9_signs_0 {G : zzG} {t : Nat} {Q : Option Value → zzMem → Prop} (a1 : Int32) (M : zzMem) (ht : 180 ≤ t)  {P : (Int32 × zzMem) → Prop} (h : zK (f_X9_signs a1 M) P) (kR : ∀ r : (Int32 × zzMem), P r → Q (some (.int r.1)) r.2) : zz_W G m_X9_signs t t t 0 [some (.ref 0), some (.int a1)] [] M Q := by
  unfold f_X9_signs at h
  refine r_aload_n dX9_signs_0 rfl ?_
  refine r_iload_n dX9_signs_1 rfl ?_
  refine tV_zr (v := f_X9_isBucket a1 M) (as := [.int a1]) (st := []) (k := 0) dX9_signs_2 zM_X9_isBucket zk_X9_228 (zo_X9 (zs_X9 ht)) (by decide) rfl ⟨Nat.le_of_ble_eq_true rfl, Nat.le_of_ble_eq_true rfl⟩ (Nat.le_of_ble_eq_true rfl) (zz_T0 rfl rfl) (fun Q' h => c_X9_isBucket (a1) M ht h) ?_
  refine r_ifZ_ne 10 dX9_signs_5 (by decide) (fun c1 => ?_) (fun c1 => ?_)
  · have h := zK_pos h c1
    refine r_aload_n dX9_signs_10 rfl ?_
    refine kV_vw (as := []) (st := []) (k := 0) dX9_signs_11 zM_X9_gatherSigns zk_X9_328 (zo_X9 (zs_X9 ht)) (by decide) rfl ⟨Nat.le_of_ble_eq_true rfl, Nat.le_of_ble_eq_true rfl⟩ (Nat.le_of_ble_eq_true rfl) (zz_T0 rfl rfl) (fun Q' P' k h => c_X9_gatherSigns M ht h k) h (fun M2 h => ?_)
    refine r_aload_n dX9_signs_14 rfl ?_
    refine r_getR (k := 0) (q := 72) dX9_signs_15 zf_X9_43 (zo_X9 (zs_X9 ht)) (zr_X9_6 (zs_X9 ht)).1 (zr_X9_6 (zs_X9 ht)).2.1 (zr_X9_6 (zs_X9 ht)).2.2 ?_
    refine r_iload_n dX9_signs_18 rfl ?_
    obtain ⟨g3, h⟩ := zK_gd h
    refine r_iald dX9_signs_19 (za_X9_6 (zs_X9 ht)) g3 ?_
    exact r_iret dX9_signs_20 rfl rfl rfl (kR (((M2.1 72 (a1).toNatClampNeg), M2)) (zK_some h))
  · have h := zK_neg h c1
    refine r_iconst (v := (-1 : Int32)) dX9_signs_8 (by decide) ?_
    exact r_iret dX9_signs_9 rfl rfl rfl (kR (((-1 : Int32), M)) (zK_some h))
set_option maxHeartbeats 4000000 in
set_option maxRecDepth 100000 in
theorem c_X9_signs {G : zzG} {t : Nat} {Q : Option Value → zzMem → Prop} (a1 : Int32) (M : zzMem) (ht : 180 ≤ t)  {P : (Int32 × zzMem) → Prop} (h : zK (f_X9_signs a1 M) P) (kR : ∀ r : (Int32 × zzMem), P r → Q (some (.int r.1)) r.2) : zz_S G m_X9_signs t t [.ref 0, .int a1] M Q :=
  zz_S_of (by decide) (by decide) (Nat.le_of_ble_eq_true rfl) (w_X9_signs_0 a1 M ht h kR)
noncomputable def j_X9_passed_80 (v1 : Int32) (v2 : Int32) (v3 : Int32) (v4 : Int32) (v5 : Int32) (ws0 : Bool) (M : zzMem) : Option ((Int32 × Int32 × zzMem) ⊕ (Int32 × zzMem)) :=
  if ws0 = true then
  ((f_X2_holds 12 v4 v5 M).bind (fun r3 =>
  if r3 = true then
  (zbd (v3 + (nI 1)) (fun x5 =>
  some (.inl (v2, x5, M))))
  else (zbd (v2 + (nI 1)) (fun x6 =>
  zbd (v3 + (nI 1)) (fun x7 =>
  some (.inl (x6, x7, M)))))))
  else (zbd (v3 + (nI 1)) (fun x2 =>
  some (.inl (v2, x2, M))))
set_option maxHeartbeats 4000000 in
set_option maxRecDepth 100000 in
theorem w_X9_passed_80 {G : zzG} {t : Nat} {Q : Option Value → zzMem → Prop} (v1 : Int32) (v2 : Int32) (v3 : Int32) (v4 : Int32) (v5 : Int32) (ws0 : Bool) (M : zzMem) (ht : 180 ≤ t)  {P : ((Int32 × Int32 × zzMem) ⊕ (Int32 × zzMem)) → Prop} (h : zK (j_X9_passed_80 v1 v2 v3 v4 v5 ws0 M) P) (k17 : ∀ s : (Int32 × Int32 × zzMem), P (.inl s) → zz_W G m_X9_passed t t t 17 [some (.ref 0), some (.int v1), some (.int s.1), some (.int s.2.1), none, none, none, none] [] s.2.2 Q) (kR : ∀ r : (Int32 × zzMem), P (.inr r) → Q (some (.int r.1)) r.2) : zz_W G m_X9_passed t t t 80 [some (.ref 0), some (.int v1), some (.int v2), some (.int v3), some (.int v4), some (.int v5), none, none] [.int (zb ws0)] M Q := by
  unfold j_X9_passed_80 at h
  refine s_istore ([some (.ref 0), some (.int v1), some (.int v2), some (.int v3), some (.int v4), some (.int v5), none, some (.int (zb ws0))]) dX9_passed_80 (by decide) rfl rfl ?_
  refine r_iload dX9_passed_82 rfl ?_
  refine r_ifZ_eq 104 dX9_passed_84 (by decide) (fun c1 => ?_) (fun c1 => ?_)
  · have h := zK_neg h c1
    refine r_iinc (nI 1) (fun x2 => [some (.ref 0), some (.int v1), some (.int v2), some (.int x2), some (.int v4), some (.int v5), none, some (.int (zb ws0))]) dX9_passed_104 rfl (by decide) (by decide) rfl (fun _ => rfl) (fun x2 ex2 => ?_)
    have h := zK_bd h ex2
    refine r_goto 17 dX9_passed_107 (by decide) ?_
    refine zz_mask [4, 5, 7] ?_
    exact k17 ((v2, x2, M)) (zK_some h)
  · have h := zK_pos h c1
    refine r_aload_n dX9_passed_87 rfl ?_
    refine r_getR (k := 0) (q := 12) dX9_passed_88 zf_X9_33 (zo_X9 (zs_X9 ht)) (zr_X9_3 (zs_X9 ht)).1 (zr_X9_3 (zs_X9 ht)).2.1 (zr_X9_3 (zs_X9 ht)).2.2 ?_
    refine r_iload dX9_passed_91 rfl ?_
    refine r_iload dX9_passed_93 rfl ?_
    refine kV_zr (as := [.int v4, .int v5]) (st := []) (k := 12) dX9_passed_95 zM_X2_holds zk_X9_334 (zo_X2 (zc_X9_3 (zs_X9 ht))) (by decide) rfl ⟨Nat.le_of_ble_eq_true rfl, Nat.le_of_ble_eq_true rfl⟩ (Nat.le_of_ble_eq_true rfl) (zz_T0 rfl rfl) (fun Q' P' k h => c_X2_holds (12) (v4) (v5) M (zc_X9_3 (zs_X9 ht)) h k) h (fun r3 h => ?_)
    refine r_ifZ_ne 104 dX9_passed_98 (by decide) (fun c4 => ?_) (fun c4 => ?_)
    · have h := zK_pos h c4
      refine r_iinc (nI 1) (fun x5 => [some (.ref 0), some (.int v1), some (.int v2), some (.int x5), some (.int v4), some (.int v5), none, some (.int (zb ws0))]) dX9_passed_104 rfl (by decide) (by decide) rfl (fun _ => rfl) (fun x5 ex5 => ?_)
      have h := zK_bd h ex5
      refine r_goto 17 dX9_passed_107 (by decide) ?_
      refine zz_mask [4, 5, 7] ?_
      exact k17 ((v2, x5, M)) (zK_some h)
    · have h := zK_neg h c4
      refine r_iinc (nI 1) (fun x6 => [some (.ref 0), some (.int v1), some (.int x6), some (.int v3), some (.int v4), some (.int v5), none, some (.int (zb ws0))]) dX9_passed_101 rfl (by decide) (by decide) rfl (fun _ => rfl) (fun x6 ex6 => ?_)
      have h := zK_bd h ex6
      refine r_iinc (nI 1) (fun x7 => [some (.ref 0), some (.int v1), some (.int x6), some (.int x7), some (.int v4), some (.int v5), none, some (.int (zb ws0))]) dX9_passed_104 rfl (by decide) (by decide) rfl (fun _ => rfl) (fun x7 ex7 => ?_)
      have h := zK_bd h ex7
      refine r_goto 17 dX9_passed_107 (by decide) ?_
      refine zz_mask [4, 5, 7] ?_
      exact k17 ((x6, x7, M)) (zK_some h)
noncomputable def b_X9_passed_17 (v1 : Int32) (v2 : Int32) (v3 : Int32) (M : zzMem) : Option ((Int32 × Int32 × zzMem) ⊕ (Int32 × zzMem)) :=
  if (nI 256) ≤ v3 then
  (some ((.inr (v2, M))))
  else (zbd (((v1 + v3) &&& (nI 65535))) (fun x2 =>
  (f_X3_hashOf 13 x2 M).bind (fun q3 => zpr q3 (fun r4 M5 =>
  zbd ((f_X9_signOf r4)) (fun x6 =>
  (f_X2_addressOf 12 r4 M5).bind (fun r7 =>
  zgd (vp_in r7 64) (
  if ((M5.1 72 (r7).toNatClampNeg) &&& x6) = x6 then
  (j_X9_passed_80 v1 v2 v3 x2 r4 true M5)
  else (j_X9_passed_80 v1 v2 v3 x2 r4 false M5))))))))
set_option maxHeartbeats 4000000 in
set_option maxRecDepth 100000 in
theorem x_X9_passed_17 {G : zzG} {t : Nat} {Q : Option Value → zzMem → Prop} (v1 : Int32) (v2 : Int32) (v3 : Int32) (M : zzMem) (ht : 180 ≤ t)  {P : ((Int32 × Int32 × zzMem) ⊕ (Int32 × zzMem)) → Prop} (h : zK (b_X9_passed_17 v1 v2 v3 M) P) (k17 : ∀ s : (Int32 × Int32 × zzMem), P (.inl s) → zz_W G m_X9_passed t t t 17 [some (.ref 0), some (.int v1), some (.int s.1), some (.int s.2.1), none, none, none, none] [] s.2.2 Q) (kR : ∀ r : (Int32 × zzMem), P (.inr r) → Q (some (.int r.1)) r.2) : zz_W G m_X9_passed t t t 17 [some (.ref 0), some (.int v1), some (.int v2), some (.int v3), none, none, none, none] [] M Q := by
  unfold b_X9_passed_17 at h
  refine r_iload_n dX9_passed_17 rfl ?_
  refine r_sipush (v := (nI 256)) dX9_passed_18 (by decide) ?_
  refine r_icmp_ge 110 dX9_passed_21 (by decide) (fun c1 => ?_) (fun c1 => ?_)
  · have h := zK_pos h c1
    refine r_iload_n dX9_passed_110 rfl ?_
    exact r_iret dX9_passed_111 rfl rfl rfl (kR ((v2, M)) (zK_some h))
  · have h := zK_neg h c1
    refine r_iload_n dX9_passed_24 rfl ?_
    refine r_iload_n dX9_passed_25 rfl ?_
    refine r_iadd dX9_passed_26 ?_
    refine r_ldc (v := (nI 65535)) dX9_passed_27 zd_X9_148 ?_
    refine r_iand dX9_passed_29 ?_
    refine r_istore (fun x2 => [some (.ref 0), some (.int v1), some (.int v2), some (.int v3), some (.int x2), none, none, none]) dX9_passed_30 (by decide) rfl (fun _ => rfl) (fun x2 ex2 => ?_)
    have h := zK_bd h ex2
    refine r_aload_n dX9_passed_32 rfl ?_
    refine r_getR (k := 0) (q := 12) dX9_passed_33 zf_X9_33 (zo_X9 (zs_X9 ht)) (zr_X9_3 (zs_X9 ht)).1 (zr_X9_3 (zs_X9 ht)).2.1 (zr_X9_3 (zs_X9 ht)).2.2 ?_
    refine r_getR (k := 12) (q := 13) dX9_passed_36 zf_X9_88 (zo_X2 (zc_X9_3 (zs_X9 ht))) (zr_X2_0 (zc_X9_3 (zs_X9 ht))).1 (zr_X2_0 (zc_X9_3 (zs_X9 ht))).2.1 (zr_X2_0 (zc_X9_3 (zs_X9 ht))).2.2 ?_
    refine r_iload dX9_passed_39 rfl ?_
    refine kV_iw (as := [.int x2]) (st := []) (k := 13) dX9_passed_41 zM_X3_hashOf zk_X9_207 (zo_X3 (zc_X2_0 (zc_X9_3 (zs_X9 ht)))) (by decide) rfl ⟨Nat.le_of_ble_eq_true rfl, Nat.le_of_ble_eq_true rfl⟩ (Nat.le_of_ble_eq_true rfl) (zz_T0 rfl rfl) (fun Q' P' k h => c_X3_hashOf (13) (x2) M (zc_X2_0 (zc_X9_3 (zs_X9 ht))) h (fun r p => k r.1 r.2 p)) h (fun r4 M5 h => ?_)
    have h := zK_pr h
    refine s_istore ([some (.ref 0), some (.int v1), some (.int v2), some (.int v3), some (.int x2), some (.int r4), none, none]) dX9_passed_44 (by decide) rfl rfl ?_
    refine r_iload dX9_passed_46 rfl ?_
    refine tS_ir (v := f_X9_signOf r4) (as := [.int r4]) (st := []) dX9_passed_48 zM_X9_signOf zk_X9_331 ⟨Nat.le_of_ble_eq_true rfl, Nat.le_of_ble_eq_true rfl⟩ (Nat.le_of_ble_eq_true rfl) (zz_T0 rfl rfl) (fun Q' h => c_X9_signOf (r4) M5 h) ?_
    refine r_istore (fun x6 => [some (.ref 0), some (.int v1), some (.int v2), some (.int v3), some (.int x2), some (.int r4), some (.int x6), none]) dX9_passed_51 (by decide) rfl (fun _ => rfl) (fun x6 ex6 => ?_)
    have h := zK_bd h ex6
    refine r_aload_n dX9_passed_53 rfl ?_
    refine r_getR (k := 0) (q := 72) dX9_passed_54 zf_X9_43 (zo_X9 (zs_X9 ht)) (zr_X9_6 (zs_X9 ht)).1 (zr_X9_6 (zs_X9 ht)).2.1 (zr_X9_6 (zs_X9 ht)).2.2 ?_
    refine r_aload_n dX9_passed_57 rfl ?_
    refine r_getR (k := 0) (q := 12) dX9_passed_58 zf_X9_33 (zo_X9 (zs_X9 ht)) (zr_X9_3 (zs_X9 ht)).1 (zr_X9_3 (zs_X9 ht)).2.1 (zr_X9_3 (zs_X9 ht)).2.2 ?_
    refine r_iload dX9_passed_61 rfl ?_
    refine kV_ir (as := [.int r4]) (st := [.ref 72]) (k := 12) dX9_passed_63 zM_X2_addressOf zk_X9_210 (zo_X2 (zc_X9_3 (zs_X9 ht))) (by decide) rfl ⟨Nat.le_of_ble_eq_true rfl, Nat.le_of_ble_eq_true rfl⟩ (Nat.le_of_ble_eq_true rfl) (zz_T0 rfl rfl) (fun Q' P' k h => c_X2_addressOf (12) (r4) M5 (zc_X9_3 (zs_X9 ht)) h k) h (fun r7 h => ?_)
    obtain ⟨g8, h⟩ := zK_gd h
    refine r_iald dX9_passed_66 (za_X9_6 (zs_X9 ht)) g8 ?_
    refine r_iload dX9_passed_67 rfl ?_
    refine r_iand dX9_passed_69 ?_
    refine r_iload dX9_passed_70 rfl ?_
    refine r_icmp_ne 79 dX9_passed_72 (by decide) (fun c9 => ?_) (fun c9 => ?_)
    · have h := zK_neg h c9
      refine r_iconst (v := (nI 0)) dX9_passed_79 (by decide) ?_
      refine zz_mask [6] ?_
      exact w_X9_passed_80 (v1) (v2) (v3) (x2) (r4) (false) M5 ht h k17 kR
    · have h := zK_pos h c9
      refine r_iconst (v := (nI 1)) dX9_passed_75 (by decide) ?_
      refine r_goto 80 dX9_passed_76 (by decide) ?_
      refine zz_mask [6] ?_
      exact w_X9_passed_80 (v1) (v2) (v3) (x2) (r4) (true) M5 ht h k17 kR
noncomputable def j_X9_passed_17 (v1 : Int32) (v2 : Int32) (v3 : Int32) (M : zzMem) : Option (Int32 × zzMem) :=
  zlp (fun s : (Int32 × Int32 × zzMem) => b_X9_passed_17 v1 s.1 s.2.1 s.2.2) (v2, v3, M)
set_option maxHeartbeats 4000000 in
set_option maxRecDepth 100000 in
theorem w_X9_passed_17 {G : zzG} {t : Nat} {Q : Option Value → zzMem → Prop} (v1 : Int32) (v2 : Int32) (v3 : Int32) (M : zzMem) (ht : 180 ≤ t)  {P : (Int32 × zzMem) → Prop} (h : zK (j_X9_passed_17 v1 v2 v3 M) P) (kR : ∀ r : (Int32 × zzMem), P r → Q (some (.int r.1)) r.2) : zz_W G m_X9_passed t t t 17 [some (.ref 0), some (.int v1), some (.int v2), some (.int v3), none, none, none, none] [] M Q := by
  unfold j_X9_passed_17 at h
  exact zK_lp h (fun s : (Int32 × Int32 × zzMem) => zz_W G m_X9_passed t t t 17 [some (.ref 0), some (.int v1), some (.int s.1), some (.int s.2.1), none, none, none, none] [] s.2.2 Q) (fun s h => x_X9_passed_17 v1 s.1 s.2.1 s.2.2 ht h (fun s p => p) kR)
noncomputable def f_X9_passed (a1 : Int32) (M : zzMem) : Option (Int32 × zzMem) :=
  if (f_X9_isKey a1) = true then
  ((f_X9_gatherSigns M).bind (fun M2 =>
  j_X9_passed_17 a1 (nI 0) (nI 0) M2))
  else (some (((-1 : Int32), M)))
set_option maxHeartbeats 4000000 in
set_option maxRecDepth 100000 in
theorem w_X9_passed_0 {G : zzG} {t : Nat} {Q : Option Value → zzMem → Prop} (a1 : Int32) (M : zzMem) (ht : 180 ≤ t)  {P : (Int32 × zzMem) → Prop} (h : zK (f_X9_passed a1 M) P) (kR : ∀ r : (Int32 × zzMem), P r → Q (some (.int r.1)) r.2) : zz_W G m_X9_passed t t t 0 [some (.ref 0), some (.int a1), none, none, none, none, none, none] [] M Q := by
  unfold f_X9_passed at h
  refine r_iload_n dX9_passed_0 rfl ?_
  refine tS_zr (v := f_X9_isKey a1) (as := [.int a1]) (st := []) dX9_passed_1 zM_X9_isKey zk_X9_149 ⟨Nat.le_of_ble_eq_true rfl, Nat.le_of_ble_eq_true rfl⟩ (Nat.le_of_ble_eq_true rfl) (zz_T0 rfl rfl) (fun Q' h => c_X9_isKey (a1) M h) ?_
  refine r_ifZ_ne 9 dX9_passed_4 (by decide) (fun c1 => ?_) (fun c1 => ?_)
  · have h := zK_pos h c1
    refine r_aload_n dX9_passed_9 rfl ?_
    refine kV_vw (as := []) (st := []) (k := 0) dX9_passed_10 zM_X9_gatherSigns zk_X9_328 (zo_X9 (zs_X9 ht)) (by decide) rfl ⟨Nat.le_of_ble_eq_true rfl, Nat.le_of_ble_eq_true rfl⟩ (Nat.le_of_ble_eq_true rfl) (zz_T0 rfl rfl) (fun Q' P' k h => c_X9_gatherSigns M ht h k) h (fun M2 h => ?_)
    refine r_iconst (v := (nI 0)) dX9_passed_13 (by decide) ?_
    refine s_istore_n ([some (.ref 0), some (.int a1), some (.int (nI 0)), none, none, none, none, none]) dX9_passed_14 (by decide) rfl rfl ?_
    refine r_iconst (v := (nI 0)) dX9_passed_15 (by decide) ?_
    refine s_istore_n ([some (.ref 0), some (.int a1), some (.int (nI 0)), some (.int (nI 0)), none, none, none, none]) dX9_passed_16 (by decide) rfl rfl ?_
    exact w_X9_passed_17 (a1) ((nI 0)) ((nI 0)) M2 ht h kR
  · have h := zK_neg h c1
    refine r_iconst (v := (-1 : Int32)) dX9_passed_7 (by decide) ?_
    exact r_iret dX9_passed_8 rfl rfl rfl (kR (((-1 : Int32), M)) (zK_some h))
set_option maxHeartbeats 4000000 in
set_option maxRecDepth 100000 in
theorem c_X9_passed {G : zzG} {t : Nat} {Q : Option Value → zzMem → Prop} (a1 : Int32) (M : zzMem) (ht : 180 ≤ t)  {P : (Int32 × zzMem) → Prop} (h : zK (f_X9_passed a1 M) P) (kR : ∀ r : (Int32 × zzMem), P r → Q (some (.int r.1)) r.2) : zz_S G m_X9_passed t t [.ref 0, .int a1] M Q :=
  zz_S_of (by decide) (by decide) (Nat.le_of_ble_eq_true rfl) (w_X9_passed_0 a1 M ht h kR)
noncomputable def f_X9_costing (a1 : Int32) (M : zzMem) : Option Int32 :=
  if (f_X9_within a1 (nI 1) (nI 150)) = true then
  ((f_X0_keysCosting 16 a1 M).bind (fun r2 =>
  some r2))
  else (some ((-1 : Int32)))
set_option maxHeartbeats 4000000 in
set_option maxRecDepth 100000 in
theorem w_X9_costing_0 {G : zzG} {t : Nat} {Q : Option Value → zzMem → Prop} (a1 : Int32) (M : zzMem) (ht : 180 ≤ t)  {P : Int32 → Prop} (h : zK (f_X9_costing a1 M) P) (kR : ∀ r : Int32, P r → Q (some (.int r)) M) : zz_W G m_X9_costing t t t 0 [some (.ref 0), some (.int a1)] [] M Q := by
  unfold f_X9_costing at h
  refine r_iload_n dX9_costing_0 rfl ?_
  refine r_iconst (v := (nI 1)) dX9_costing_1 (by decide) ?_
  refine r_sipush (v := (nI 150)) dX9_costing_2 (by decide) ?_
  refine tS_zr (v := f_X9_within a1 (nI 1) (nI 150)) (as := [.int a1, .int (nI 1), .int (nI 150)]) (st := []) dX9_costing_5 zM_X9_within zk_X9_63 ⟨Nat.le_of_ble_eq_true rfl, Nat.le_of_ble_eq_true rfl⟩ (Nat.le_of_ble_eq_true rfl) (zz_T0 rfl rfl) (fun Q' h => c_X9_within (a1) ((nI 1)) ((nI 150)) M h) ?_
  refine r_ifZ_eq 25 dX9_costing_8 (by decide) (fun c1 => ?_) (fun c1 => ?_)
  · have h := zK_neg h c1
    refine r_iconst (v := (-1 : Int32)) dX9_costing_25 (by decide) ?_
    exact r_iret dX9_costing_26 rfl rfl rfl (kR ((-1 : Int32)) (zK_some h))
  · have h := zK_pos h c1
    refine r_aload_n dX9_costing_11 rfl ?_
    refine r_getR (k := 0) (q := 12) dX9_costing_12 zf_X9_33 (zo_X9 (zs_X9 ht)) (zr_X9_3 (zs_X9 ht)).1 (zr_X9_3 (zs_X9 ht)).2.1 (zr_X9_3 (zs_X9 ht)).2.2 ?_
    refine r_getR (k := 12) (q := 16) dX9_costing_15 zf_X9_156 (zo_X2 (zc_X9_3 (zs_X9 ht))) (zr_X2_1 (zc_X9_3 (zs_X9 ht))).1 (zr_X2_1 (zc_X9_3 (zs_X9 ht))).2.1 (zr_X2_1 (zc_X9_3 (zs_X9 ht))).2.2 ?_
    refine r_iload_n dX9_costing_18 rfl ?_
    refine kV_ir (as := [.int a1]) (st := []) (k := 16) dX9_costing_19 zM_X0_keysCosting zk_X9_338 (zo_X0 (zc_X2_1 (zc_X9_3 (zs_X9 ht)))) (by decide) rfl ⟨Nat.le_of_ble_eq_true rfl, Nat.le_of_ble_eq_true rfl⟩ (Nat.le_of_ble_eq_true rfl) (zz_T0 rfl rfl) (fun Q' P' k h => c_X0_keysCosting (16) (a1) M (zc_X2_1 (zc_X9_3 (zs_X9 ht))) h k) h (fun r2 h => ?_)
    refine r_goto 26 dX9_costing_22 (by decide) ?_
    exact r_iret dX9_costing_26 rfl rfl rfl (kR (r2) (zK_some h))
set_option maxHeartbeats 4000000 in
set_option maxRecDepth 100000 in
theorem c_X9_costing {G : zzG} {t : Nat} {Q : Option Value → zzMem → Prop} (a1 : Int32) (M : zzMem) (ht : 180 ≤ t)  {P : Int32 → Prop} (h : zK (f_X9_costing a1 M) P) (kR : ∀ r : Int32, P r → Q (some (.int r)) M) : zz_S G m_X9_costing t t [.ref 0, .int a1] M Q :=
  zz_S_of (by decide) (by decide) (Nat.le_of_ble_eq_true rfl) (w_X9_costing_0 a1 M ht h kR)
noncomputable def f_X9_differs (p0 : Nat) (p1 : Nat) (a2 : Int32) (a3 : Int32) (M : zzMem) : Option (Bool × zzMem) :=
  (f_X3_hashOf (p0 + 1) a2 M).bind (fun q1 => zpr q1 (fun r2 M3 =>
  (f_X3_hashOf (p1 + 1) a2 M3).bind (fun q4 => zpr q4 (fun r5 M6 =>
  (f_X2_holds p1 a2 r5 M6).bind (fun r7 =>
  if (nI 1) < a3 then
  (if r7 = true then
  (if a3 = (nI 2) then
  ((f_X2_valueOf p0 a2 M6).bind (fun q14 => zpr q14 (fun r15 M16 =>
  (f_X2_valueOf p1 a2 M16).bind (fun q17 => zpr q17 (fun r18 M19 =>
  if r15 = r18 then
  (some ((false, M19)))
  else (some ((true, M19))))))))
  else ((f_X2_addressOf p0 r2 M6).bind (fun r11 =>
  (f_X2_addressOf p1 r5 M6).bind (fun r12 =>
  if r11 = r12 then
  (some ((false, M6)))
  else (some ((true, M6)))))))
  else (some ((false, M6))))
  else (if r7 = true then
  (some ((false, M6)))
  else (some ((true, M6)))))))))
set_option maxHeartbeats 4000000 in
set_option maxRecDepth 100000 in
theorem w_X9_differs_0 {G : zzG} {t : Nat} {Q : Option Value → zzMem → Prop} (p0 : Nat) (p1 : Nat) (a2 : Int32) (a3 : Int32) (M : zzMem) (hp0 : zI_X2 t p0) (hp1 : zI_X2 t p1) {P : (Bool × zzMem) → Prop} (h : zK (f_X9_differs p0 p1 a2 a3 M) P) (kR : ∀ r : (Bool × zzMem), P r → Q (some (.int (zb r.1))) r.2) : zz_W G m_X9_differs t t t 0 [some (.ref p0), some (.ref p1), some (.int a2), some (.int a3), none, none, none] [] M Q := by
  unfold f_X9_differs at h
  refine r_aload_n dX9_differs_0 rfl ?_
  refine r_getR (k := p0) (q := (p0 + 1)) dX9_differs_1 zf_X9_88 (zo_X2 hp0) (zr_X2_0 hp0).1 (zr_X2_0 hp0).2.1 (zr_X2_0 hp0).2.2 ?_
  refine r_iload_n dX9_differs_4 rfl ?_
  refine kV_iw (as := [.int a2]) (st := []) (k := (p0 + 1)) dX9_differs_5 zM_X3_hashOf zk_X9_207 (zo_X3 (zc_X2_0 hp0)) (by decide) rfl ⟨Nat.le_of_ble_eq_true rfl, Nat.le_of_ble_eq_true rfl⟩ (Nat.le_of_ble_eq_true rfl) (zz_T0 rfl rfl) (fun Q' P' k h => c_X3_hashOf ((p0 + 1)) (a2) M (zc_X2_0 hp0) h (fun r p => k r.1 r.2 p)) h (fun r2 M3 h => ?_)
  have h := zK_pr h
  refine s_istore ([some (.ref p0), some (.ref p1), some (.int a2), some (.int a3), some (.int r2), none, none]) dX9_differs_8 (by decide) rfl rfl ?_
  refine r_aload_n dX9_differs_10 rfl ?_
  refine r_getR (k := p1) (q := (p1 + 1)) dX9_differs_11 zf_X9_88 (zo_X2 hp1) (zr_X2_0 hp1).1 (zr_X2_0 hp1).2.1 (zr_X2_0 hp1).2.2 ?_
  refine r_iload_n dX9_differs_14 rfl ?_
  refine kV_iw (as := [.int a2]) (st := []) (k := (p1 + 1)) dX9_differs_15 zM_X3_hashOf zk_X9_207 (zo_X3 (zc_X2_0 hp1)) (by decide) rfl ⟨Nat.le_of_ble_eq_true rfl, Nat.le_of_ble_eq_true rfl⟩ (Nat.le_of_ble_eq_true rfl) (zz_T0 rfl rfl) (fun Q' P' k h => c_X3_hashOf ((p1 + 1)) (a2) M3 (zc_X2_0 hp1) h (fun r p => k r.1 r.2 p)) h (fun r5 M6 h => ?_)
  have h := zK_pr h
  refine s_istore ([some (.ref p0), some (.ref p1), some (.int a2), some (.int a3), some (.int r2), some (.int r5), none]) dX9_differs_18 (by decide) rfl rfl ?_
  refine r_aload_n dX9_differs_20 rfl ?_
  refine r_iload_n dX9_differs_21 rfl ?_
  refine r_iload dX9_differs_22 rfl ?_
  refine kV_zr (as := [.int a2, .int r5]) (st := []) (k := p1) dX9_differs_24 zM_X2_holds zk_X9_334 (zo_X2 hp1) (by decide) rfl ⟨Nat.le_of_ble_eq_true rfl, Nat.le_of_ble_eq_true rfl⟩ (Nat.le_of_ble_eq_true rfl) (zz_T0 rfl rfl) (fun Q' P' k h => c_X2_holds (p1) (a2) (r5) M6 hp1 h k) h (fun r7 h => ?_)
  refine s_istore ([some (.ref p0), some (.ref p1), some (.int a2), some (.int a3), some (.int r2), some (.int r5), some (.int (zb r7))]) dX9_differs_27 (by decide) rfl rfl ?_
  refine r_iload_n dX9_differs_29 rfl ?_
  refine r_iconst (v := (nI 1)) dX9_differs_30 (by decide) ?_
  refine r_icmp_gt 45 dX9_differs_31 (by decide) (fun c8 => ?_) (fun c8 => ?_)
  · have h := zK_pos h c8
    refine r_iload dX9_differs_45 rfl ?_
    refine r_ifZ_ne 52 dX9_differs_47 (by decide) (fun c9 => ?_) (fun c9 => ?_)
    · have h := zK_pos h c9
      refine r_iload_n dX9_differs_52 rfl ?_
      refine r_iconst (v := (nI 2)) dX9_differs_53 (by decide) ?_
      refine r_icmp_ne 76 dX9_differs_54 (by decide) (fun c10 => ?_) (fun c10 => ?_)
      · have h := zK_neg h c10
        refine r_aload_n dX9_differs_76 rfl ?_
        refine r_iload dX9_differs_77 rfl ?_
        refine kV_ir (as := [.int r2]) (st := []) (k := p0) dX9_differs_79 zM_X2_addressOf zk_X9_210 (zo_X2 hp0) (by decide) rfl ⟨Nat.le_of_ble_eq_true rfl, Nat.le_of_ble_eq_true rfl⟩ (Nat.le_of_ble_eq_true rfl) (zz_T0 rfl rfl) (fun Q' P' k h => c_X2_addressOf (p0) (r2) M6 hp0 h k) h (fun r11 h => ?_)
        refine r_aload_n dX9_differs_82 rfl ?_
        refine r_iload dX9_differs_83 rfl ?_
        refine kV_ir (as := [.int r5]) (st := [.int r11]) (k := p1) dX9_differs_85 zM_X2_addressOf zk_X9_210 (zo_X2 hp1) (by decide) rfl ⟨Nat.le_of_ble_eq_true rfl, Nat.le_of_ble_eq_true rfl⟩ (Nat.le_of_ble_eq_true rfl) (zz_T0 rfl rfl) (fun Q' P' k h => c_X2_addressOf (p1) (r5) M6 hp1 h k) h (fun r12 h => ?_)
        refine r_icmp_eq 95 dX9_differs_88 (by decide) (fun c13 => ?_) (fun c13 => ?_)
        · have h := zK_pos h c13
          refine r_iconst (v := (nI 0)) dX9_differs_95 (by decide) ?_
          exact r_zret (b := false) dX9_differs_96 rfl rfl rfl (kR ((false, M6)) (zK_some h))
        · have h := zK_neg h c13
          refine r_iconst (v := (nI 1)) dX9_differs_91 (by decide) ?_
          refine r_goto 96 dX9_differs_92 (by decide) ?_
          exact r_zret (b := true) dX9_differs_96 rfl rfl rfl (kR ((true, M6)) (zK_some h))
      · have h := zK_pos h c10
        refine r_aload_n dX9_differs_57 rfl ?_
        refine r_iload_n dX9_differs_58 rfl ?_
        refine kV_iw (as := [.int a2]) (st := []) (k := p0) dX9_differs_59 zM_X2_valueOf zk_X9_345 (zo_X2 hp0) (by decide) rfl ⟨Nat.le_of_ble_eq_true rfl, Nat.le_of_ble_eq_true rfl⟩ (Nat.le_of_ble_eq_true rfl) (zz_T0 rfl rfl) (fun Q' P' k h => c_X2_valueOf (p0) (a2) M6 hp0 h (fun r p => k r.1 r.2 p)) h (fun r15 M16 h => ?_)
        have h := zK_pr h
        refine r_aload_n dX9_differs_62 rfl ?_
        refine r_iload_n dX9_differs_63 rfl ?_
        refine kV_iw (as := [.int a2]) (st := [.int r15]) (k := p1) dX9_differs_64 zM_X2_valueOf zk_X9_345 (zo_X2 hp1) (by decide) rfl ⟨Nat.le_of_ble_eq_true rfl, Nat.le_of_ble_eq_true rfl⟩ (Nat.le_of_ble_eq_true rfl) (zz_T0 rfl rfl) (fun Q' P' k h => c_X2_valueOf (p1) (a2) M16 hp1 h (fun r p => k r.1 r.2 p)) h (fun r18 M19 h => ?_)
        have h := zK_pr h
        refine r_icmp_eq 74 dX9_differs_67 (by decide) (fun c20 => ?_) (fun c20 => ?_)
        · have h := zK_pos h c20
          refine r_iconst (v := (nI 0)) dX9_differs_74 (by decide) ?_
          exact r_zret (b := false) dX9_differs_75 rfl rfl rfl (kR ((false, M19)) (zK_some h))
        · have h := zK_neg h c20
          refine r_iconst (v := (nI 1)) dX9_differs_70 (by decide) ?_
          refine r_goto 75 dX9_differs_71 (by decide) ?_
          exact r_zret (b := true) dX9_differs_75 rfl rfl rfl (kR ((true, M19)) (zK_some h))
    · have h := zK_neg h c9
      refine r_iconst (v := (nI 0)) dX9_differs_50 (by decide) ?_
      exact r_zret (b := false) dX9_differs_51 rfl rfl rfl (kR ((false, M6)) (zK_some h))
  · have h := zK_neg h c8
    refine r_iload dX9_differs_34 rfl ?_
    refine r_ifZ_ne 43 dX9_differs_36 (by decide) (fun c21 => ?_) (fun c21 => ?_)
    · have h := zK_pos h c21
      refine r_iconst (v := (nI 0)) dX9_differs_43 (by decide) ?_
      exact r_zret (b := false) dX9_differs_44 rfl rfl rfl (kR ((false, M6)) (zK_some h))
    · have h := zK_neg h c21
      refine r_iconst (v := (nI 1)) dX9_differs_39 (by decide) ?_
      refine r_goto 44 dX9_differs_40 (by decide) ?_
      exact r_zret (b := true) dX9_differs_44 rfl rfl rfl (kR ((true, M6)) (zK_some h))
set_option maxHeartbeats 4000000 in
set_option maxRecDepth 100000 in
theorem c_X9_differs {G : zzG} {t : Nat} {Q : Option Value → zzMem → Prop} (p0 : Nat) (p1 : Nat) (a2 : Int32) (a3 : Int32) (M : zzMem) (hp0 : zI_X2 t p0) (hp1 : zI_X2 t p1) {P : (Bool × zzMem) → Prop} (h : zK (f_X9_differs p0 p1 a2 a3 M) P) (kR : ∀ r : (Bool × zzMem), P r → Q (some (.int (zb r.1))) r.2) : zz_S G m_X9_differs t t [.ref p0, .ref p1, .int a2, .int a3] M Q :=
  zz_S_of (by decide) (by decide) (Nat.le_of_ble_eq_true rfl) (w_X9_differs_0 p0 p1 a2 a3 M hp0 hp1 h kR)
noncomputable def b_X9_since_61 (v1 : Int32) (q2 : Nat) (q3 : Nat) (v4 : Int32) (v5 : Int32) (M : zzMem) : Option ((Int32 × Int32 × zzMem) ⊕ (Int32 × zzMem)) :=
  if (M.1 (q2 + 15) 1) ≤ v5 then
  (some ((.inr (v4, M))))
  else ((f_X5_keyAt (q2 + 15) v5 M).bind (fun r2 =>
  (f_X9_differs q2 q3 r2 v1 M).bind (fun q3 => zpr q3 (fun r4 M5 =>
  if r4 = true then
  (zbd (v4 + (nI 1)) (fun x8 =>
  zbd (v5 + (nI 1)) (fun x9 =>
  some (.inl (x8, x9, M5)))))
  else (zbd (v5 + (nI 1)) (fun x7 =>
  some (.inl (v4, x7, M5))))))))
set_option maxHeartbeats 4000000 in
set_option maxRecDepth 100000 in
theorem x_X9_since_61 {G : zzG} {t : Nat} {Q : Option Value → zzMem → Prop} (v1 : Int32) (q2 : Nat) (q3 : Nat) (v4 : Int32) (v5 : Int32) (M : zzMem) (ht : 180 ≤ t) (hq2 : zI_X2 t q2) (hq3 : zI_X2 t q3) {P : ((Int32 × Int32 × zzMem) ⊕ (Int32 × zzMem)) → Prop} (h : zK (b_X9_since_61 v1 q2 q3 v4 v5 M) P) (k61 : ∀ s : (Int32 × Int32 × zzMem), P (.inl s) → zz_W G m_X9_since t t t 61 [none, some (.int v1), some (.ref q2), some (.ref q3), some (.int s.1), some (.int s.2.1)] [] s.2.2 Q) (kR : ∀ r : (Int32 × zzMem), P (.inr r) → Q (some (.int r.1)) r.2) : zz_W G m_X9_since t t t 61 [none, some (.int v1), some (.ref q2), some (.ref q3), some (.int v4), some (.int v5)] [] M Q := by
  unfold b_X9_since_61 at h
  refine r_iload dX9_since_61 rfl ?_
  refine r_aload_n dX9_since_63 rfl ?_
  refine r_getR (k := q2) (q := (q2 + 15)) dX9_since_64 zf_X9_77 (zo_X2 hq2) (zr_X2_2 hq2).1 (zr_X2_2 hq2).2.1 (zr_X2_2 hq2).2.2 ?_
  refine r_getI (k := (q2 + 15)) dX9_since_67 zf_X9_81 (zo_X5 (zc_X2_2 hq2)) (zi_X5_1 (zc_X2_2 hq2)) ?_
  refine r_icmp_ge 100 dX9_since_70 (by decide) (fun c1 => ?_) (fun c1 => ?_)
  · have h := zK_pos h c1
    refine r_iload dX9_since_100 rfl ?_
    exact r_iret dX9_since_102 rfl rfl rfl (kR ((v4, M)) (zK_some h))
  · have h := zK_neg h c1
    refine r_aload_n dX9_since_73 rfl ?_
    refine r_aload_n dX9_since_74 rfl ?_
    refine r_aload_n dX9_since_75 rfl ?_
    refine r_getR (k := q2) (q := (q2 + 15)) dX9_since_76 zf_X9_77 (zo_X2 hq2) (zr_X2_2 hq2).1 (zr_X2_2 hq2).2.1 (zr_X2_2 hq2).2.2 ?_
    refine r_iload dX9_since_79 rfl ?_
    refine kV_ir (as := [.int v5]) (st := [.ref q3, .ref q2]) (k := (q2 + 15)) dX9_since_81 zM_X5_keyAt zk_X9_326 (zo_X5 (zc_X2_2 hq2)) (by decide) rfl ⟨Nat.le_of_ble_eq_true rfl, Nat.le_of_ble_eq_true rfl⟩ (Nat.le_of_ble_eq_true rfl) (zz_T0 rfl rfl) (fun Q' P' k h => c_X5_keyAt ((q2 + 15)) (v5) M (zc_X2_2 hq2) h k) h (fun r2 h => ?_)
    refine r_iload_n dX9_since_84 rfl ?_
    refine kS_zw (as := [.ref q2, .ref q3, .int r2, .int v1]) (st := []) dX9_since_85 zM_X9_differs zk_X9_341 ⟨Nat.le_of_ble_eq_true rfl, Nat.le_of_ble_eq_true rfl⟩ (Nat.le_of_ble_eq_true rfl) (zz_T0 rfl rfl) (fun Q' P' k h => c_X9_differs (q2) (q3) (r2) (v1) M hq2 hq3 h (fun r p => k r.1 r.2 p)) h (fun r4 M5 h => ?_)
    have h := zK_pr h
    refine r_ifZ_eq 94 dX9_since_88 (by decide) (fun c6 => ?_) (fun c6 => ?_)
    · have h := zK_neg h c6
      refine r_iinc (nI 1) (fun x7 => [none, some (.int v1), some (.ref q2), some (.ref q3), some (.int v4), some (.int x7)]) dX9_since_94 rfl (by decide) (by decide) rfl (fun _ => rfl) (fun x7 ex7 => ?_)
      have h := zK_bd h ex7
      refine r_goto 61 dX9_since_97 (by decide) ?_
      exact k61 ((v4, x7, M5)) (zK_some h)
    · have h := zK_pos h c6
      refine r_iinc (nI 1) (fun x8 => [none, some (.int v1), some (.ref q2), some (.ref q3), some (.int x8), some (.int v5)]) dX9_since_91 rfl (by decide) (by decide) rfl (fun _ => rfl) (fun x8 ex8 => ?_)
      have h := zK_bd h ex8
      refine r_iinc (nI 1) (fun x9 => [none, some (.int v1), some (.ref q2), some (.ref q3), some (.int x8), some (.int x9)]) dX9_since_94 rfl (by decide) (by decide) rfl (fun _ => rfl) (fun x9 ex9 => ?_)
      have h := zK_bd h ex9
      refine r_goto 61 dX9_since_97 (by decide) ?_
      exact k61 ((x8, x9, M5)) (zK_some h)
noncomputable def j_X9_since_61 (v1 : Int32) (q2 : Nat) (q3 : Nat) (v4 : Int32) (v5 : Int32) (M : zzMem) : Option (Int32 × zzMem) :=
  zlp (fun s : (Int32 × Int32 × zzMem) => b_X9_since_61 v1 q2 q3 s.1 s.2.1 s.2.2) (v4, v5, M)
set_option maxHeartbeats 4000000 in
set_option maxRecDepth 100000 in
theorem w_X9_since_61 {G : zzG} {t : Nat} {Q : Option Value → zzMem → Prop} (v1 : Int32) (q2 : Nat) (q3 : Nat) (v4 : Int32) (v5 : Int32) (M : zzMem) (ht : 180 ≤ t) (hq2 : zI_X2 t q2) (hq3 : zI_X2 t q3) {P : (Int32 × zzMem) → Prop} (h : zK (j_X9_since_61 v1 q2 q3 v4 v5 M) P) (kR : ∀ r : (Int32 × zzMem), P r → Q (some (.int r.1)) r.2) : zz_W G m_X9_since t t t 61 [none, some (.int v1), some (.ref q2), some (.ref q3), some (.int v4), some (.int v5)] [] M Q := by
  unfold j_X9_since_61 at h
  exact zK_lp h (fun s : (Int32 × Int32 × zzMem) => zz_W G m_X9_since t t t 61 [none, some (.int v1), some (.ref q2), some (.ref q3), some (.int s.1), some (.int s.2.1)] [] s.2.2 Q) (fun s h => x_X9_since_61 v1 q2 q3 s.1 s.2.1 s.2.2 ht hq2 hq3 h (fun s p => p) kR)
noncomputable def j_X9_since_54 (v1 : Int32) (q2 : Nat) (qs0 : Nat) (M : zzMem) : Option (Int32 × zzMem) :=
  j_X9_since_61 v1 q2 qs0 (nI 0) (nI 0) M
set_option maxHeartbeats 4000000 in
set_option maxRecDepth 100000 in
theorem w_X9_since_54 {G : zzG} {t : Nat} {Q : Option Value → zzMem → Prop} (v1 : Int32) (q2 : Nat) (qs0 : Nat) (M : zzMem) (ht : 180 ≤ t) (hq2 : zI_X2 t q2) (hqs0 : zI_X2 t qs0) {P : (Int32 × zzMem) → Prop} (h : zK (j_X9_since_54 v1 q2 qs0 M) P) (kR : ∀ r : (Int32 × zzMem), P r → Q (some (.int r.1)) r.2) : zz_W G m_X9_since t t t 54 [none, some (.int v1), some (.ref q2), none, none, none] [.ref qs0] M Q := by
  unfold j_X9_since_54 at h
  refine s_astore_n ([none, some (.int v1), some (.ref q2), some (.ref qs0), none, none]) dX9_since_54 (by decide) rfl rfl ?_
  refine r_iconst (v := (nI 0)) dX9_since_55 (by decide) ?_
  refine s_istore ([none, some (.int v1), some (.ref q2), some (.ref qs0), some (.int (nI 0)), none]) dX9_since_56 (by decide) rfl rfl ?_
  refine r_iconst (v := (nI 0)) dX9_since_58 (by decide) ?_
  refine s_istore ([none, some (.int v1), some (.ref q2), some (.ref qs0), some (.int (nI 0)), some (.int (nI 0))]) dX9_since_59 (by decide) rfl rfl ?_
  exact w_X9_since_61 (v1) (q2) (qs0) ((nI 0)) ((nI 0)) M ht hq2 hqs0 h kR
noncomputable def j_X9_since_37 (v1 : Int32) (qs0 : Nat) (M : zzMem) : Option (Int32 × zzMem) :=
  if v1 = (nI 1) then
  (j_X9_since_54 v1 qs0 12 M)
  else (j_X9_since_54 v1 qs0 32 M)
set_option maxHeartbeats 4000000 in
set_option maxRecDepth 100000 in
theorem w_X9_since_37 {G : zzG} {t : Nat} {Q : Option Value → zzMem → Prop} (v1 : Int32) (qs0 : Nat) (M : zzMem) (ht : 180 ≤ t) (hqs0 : zI_X2 t qs0) {P : (Int32 × zzMem) → Prop} (h : zK (j_X9_since_37 v1 qs0 M) P) (kR : ∀ r : (Int32 × zzMem), P r → Q (some (.int r.1)) r.2) : zz_W G m_X9_since t t t 37 [some (.ref 0), some (.int v1), none, none, none, none] [.ref qs0] M Q := by
  unfold j_X9_since_37 at h
  refine s_astore_n ([some (.ref 0), some (.int v1), some (.ref qs0), none, none, none]) dX9_since_37 (by decide) rfl rfl ?_
  refine r_iload_n dX9_since_38 rfl ?_
  refine r_iconst (v := (nI 1)) dX9_since_39 (by decide) ?_
  refine r_icmp_ne 50 dX9_since_40 (by decide) (fun c1 => ?_) (fun c1 => ?_)
  · have h := zK_neg h c1
    refine r_aload_n dX9_since_50 rfl ?_
    refine r_getR (k := 0) (q := 32) dX9_since_51 zf_X9_37 (zo_X9 (zs_X9 ht)) (zr_X9_4 (zs_X9 ht)).1 (zr_X9_4 (zs_X9 ht)).2.1 (zr_X9_4 (zs_X9 ht)).2.2 ?_
    refine zz_mask [0] ?_
    exact w_X9_since_54 (v1) (qs0) (32) M ht hqs0 (zc_X9_4 (zs_X9 ht)) h kR
  · have h := zK_pos h c1
    refine r_aload_n dX9_since_43 rfl ?_
    refine r_getR (k := 0) (q := 12) dX9_since_44 zf_X9_33 (zo_X9 (zs_X9 ht)) (zr_X9_3 (zs_X9 ht)).1 (zr_X9_3 (zs_X9 ht)).2.1 (zr_X9_3 (zs_X9 ht)).2.2 ?_
    refine r_goto 54 dX9_since_47 (by decide) ?_
    refine zz_mask [0] ?_
    exact w_X9_since_54 (v1) (qs0) (12) M ht hqs0 (zc_X9_3 (zs_X9 ht)) h kR
noncomputable def f_X9_since (a1 : Int32) (M : zzMem) : Option (Int32 × zzMem) :=
  if (f_X9_within a1 (nI 0) (nI 3)) = true then
  (if (M.1 0 7) = 0 then
  (some (((-3 : Int32), M)))
  else (if a1 = (nI 1) then
  (j_X9_since_37 a1 32 M)
  else (j_X9_since_37 a1 12 M)))
  else (some (((-1 : Int32), M)))
set_option maxHeartbeats 4000000 in
set_option maxRecDepth 100000 in
theorem w_X9_since_0 {G : zzG} {t : Nat} {Q : Option Value → zzMem → Prop} (a1 : Int32) (M : zzMem) (ht : 180 ≤ t)  {P : (Int32 × zzMem) → Prop} (h : zK (f_X9_since a1 M) P) (kR : ∀ r : (Int32 × zzMem), P r → Q (some (.int r.1)) r.2) : zz_W G m_X9_since t t t 0 [some (.ref 0), some (.int a1), none, none, none, none] [] M Q := by
  unfold f_X9_since at h
  refine r_iload_n dX9_since_0 rfl ?_
  refine r_iconst (v := (nI 0)) dX9_since_1 (by decide) ?_
  refine r_iconst (v := (nI 3)) dX9_since_2 (by decide) ?_
  refine tS_zr (v := f_X9_within a1 (nI 0) (nI 3)) (as := [.int a1, .int (nI 0), .int (nI 3)]) (st := []) dX9_since_3 zM_X9_within zk_X9_63 ⟨Nat.le_of_ble_eq_true rfl, Nat.le_of_ble_eq_true rfl⟩ (Nat.le_of_ble_eq_true rfl) (zz_T0 rfl rfl) (fun Q' h => c_X9_within (a1) ((nI 0)) ((nI 3)) M h) ?_
  refine r_ifZ_ne 11 dX9_since_6 (by decide) (fun c1 => ?_) (fun c1 => ?_)
  · have h := zK_pos h c1
    refine r_aload_n dX9_since_11 rfl ?_
    refine r_getI (k := 0) dX9_since_12 zf_X9_47 (zo_X9 (zs_X9 ht)) (zi_X9_7 (zs_X9 ht)) ?_
    refine r_if_ne 21 dX9_since_15 (by decide) (fun c2 => ?_) (fun c2 => ?_)
    · have h := zK_neg h c2
      refine r_iload_n dX9_since_21 rfl ?_
      refine r_iconst (v := (nI 1)) dX9_since_22 (by decide) ?_
      refine r_icmp_ne 33 dX9_since_23 (by decide) (fun c3 => ?_) (fun c3 => ?_)
      · have h := zK_neg h c3
        refine r_aload_n dX9_since_33 rfl ?_
        refine r_getR (k := 0) (q := 12) dX9_since_34 zf_X9_33 (zo_X9 (zs_X9 ht)) (zr_X9_3 (zs_X9 ht)).1 (zr_X9_3 (zs_X9 ht)).2.1 (zr_X9_3 (zs_X9 ht)).2.2 ?_
        exact w_X9_since_37 (a1) (12) M ht (zc_X9_3 (zs_X9 ht)) h kR
      · have h := zK_pos h c3
        refine r_aload_n dX9_since_26 rfl ?_
        refine r_getR (k := 0) (q := 32) dX9_since_27 zf_X9_37 (zo_X9 (zs_X9 ht)) (zr_X9_4 (zs_X9 ht)).1 (zr_X9_4 (zs_X9 ht)).2.1 (zr_X9_4 (zs_X9 ht)).2.2 ?_
        refine r_goto 37 dX9_since_30 (by decide) ?_
        exact w_X9_since_37 (a1) (32) M ht (zc_X9_4 (zs_X9 ht)) h kR
    · have h := zK_pos h c2
      refine r_bipush (v := (-3 : Int32)) dX9_since_18 (by decide) ?_
      exact r_iret dX9_since_20 rfl rfl rfl (kR (((-3 : Int32), M)) (zK_some h))
  · have h := zK_neg h c1
    refine r_iconst (v := (-1 : Int32)) dX9_since_9 (by decide) ?_
    exact r_iret dX9_since_10 rfl rfl rfl (kR (((-1 : Int32), M)) (zK_some h))
set_option maxHeartbeats 4000000 in
set_option maxRecDepth 100000 in
theorem c_X9_since {G : zzG} {t : Nat} {Q : Option Value → zzMem → Prop} (a1 : Int32) (M : zzMem) (ht : 180 ≤ t)  {P : (Int32 × zzMem) → Prop} (h : zK (f_X9_since a1 M) P) (kR : ∀ r : (Int32 × zzMem), P r → Q (some (.int r.1)) r.2) : zz_S G m_X9_since t t [.ref 0, .int a1] M Q :=
  zz_S_of (by decide) (by decide) (Nat.le_of_ble_eq_true rfl) (w_X9_since_0 a1 M ht h kR)
noncomputable def j_X9_alike_114 (v1 : Int32) (v2 : Int32) (v5 : Int32) (v6 : Int32) (v7 : Int32) (v8 : Int32) (M : zzMem) : Option ((Int32 × Int32 × Int32 × Int32 × Int32 × Int32) ⊕ Int32) :=
  zbd (v7 + (nI 1)) (fun x1 =>
  some (.inl (v2, v6, v8, v5, v6, x1)))
set_option maxHeartbeats 4000000 in
set_option maxRecDepth 100000 in
theorem w_X9_alike_114 {G : zzG} {t : Nat} {Q : Option Value → zzMem → Prop} (v1 : Int32) (v2 : Int32) (v5 : Int32) (v6 : Int32) (v7 : Int32) (v8 : Int32) (M : zzMem) (ht : 180 ≤ t)  {P : ((Int32 × Int32 × Int32 × Int32 × Int32 × Int32) ⊕ Int32) → Prop} (h : zK (j_X9_alike_114 v1 v2 v5 v6 v7 v8 M) P) (k28 : ∀ s : (Int32 × Int32 × Int32 × Int32 × Int32 × Int32), P (.inl s) → zz_W G m_X9_alike t t t 28 [some (.ref 0), some (.int v1), some (.int s.1), some (.int s.2.1), some (.int s.2.2.1), some (.int s.2.2.2.1), some (.int s.2.2.2.2.1), some (.int s.2.2.2.2.2), none] [] M Q) (kR : ∀ r : Int32, P (.inr r) → Q (some (.int r)) M) : zz_W G m_X9_alike t t t 114 [some (.ref 0), some (.int v1), some (.int v2), none, none, some (.int v5), some (.int v6), some (.int v7), some (.int v8)] [] M Q := by
  unfold j_X9_alike_114 at h
  refine r_iload dX9_alike_114 rfl ?_
  refine s_istore_n ([some (.ref 0), some (.int v1), some (.int v2), some (.int v6), none, some (.int v5), some (.int v6), some (.int v7), some (.int v8)]) dX9_alike_116 (by decide) rfl rfl ?_
  refine r_iload dX9_alike_117 rfl ?_
  refine s_istore ([some (.ref 0), some (.int v1), some (.int v2), some (.int v6), some (.int v8), some (.int v5), some (.int v6), some (.int v7), some (.int v8)]) dX9_alike_119 (by decide) rfl rfl ?_
  refine r_iinc (nI 1) (fun x1 => [some (.ref 0), some (.int v1), some (.int v2), some (.int v6), some (.int v8), some (.int v5), some (.int v6), some (.int x1), some (.int v8)]) dX9_alike_121 rfl (by decide) (by decide) rfl (fun _ => rfl) (fun x1 ex1 => ?_)
  have h := zK_bd h ex1
  refine r_goto 28 dX9_alike_124 (by decide) ?_
  refine zz_mask [8] ?_
  exact k28 ((v2, v6, v8, v5, v6, x1)) (zK_some h)
noncomputable def j_X9_alike_95 (v1 : Int32) (v2 : Int32) (v3 : Int32) (v4 : Int32) (v5 : Int32) (v6 : Int32) (v7 : Int32) (v8 : Int32) (M : zzMem) : Option ((Int32 × Int32 × Int32 × Int32 × Int32 × Int32) ⊕ Int32) :=
  if v3 < v6 then
  (j_X9_alike_114 v1 v2 v5 v6 v7 v8 M)
  else (if v6 = v3 then
  (if v4 ≤ v8 then
  (zbd (v7 + (nI 1)) (fun x5 =>
  some (.inl (v2, v3, v4, v5, v6, x5))))
  else (j_X9_alike_114 v1 v2 v5 v6 v7 v8 M))
  else (zbd (v7 + (nI 1)) (fun x3 =>
  some (.inl (v2, v3, v4, v5, v6, x3)))))
set_option maxHeartbeats 4000000 in
set_option maxRecDepth 100000 in
theorem w_X9_alike_95 {G : zzG} {t : Nat} {Q : Option Value → zzMem → Prop} (v1 : Int32) (v2 : Int32) (v3 : Int32) (v4 : Int32) (v5 : Int32) (v6 : Int32) (v7 : Int32) (v8 : Int32) (M : zzMem) (ht : 180 ≤ t)  {P : ((Int32 × Int32 × Int32 × Int32 × Int32 × Int32) ⊕ Int32) → Prop} (h : zK (j_X9_alike_95 v1 v2 v3 v4 v5 v6 v7 v8 M) P) (k28 : ∀ s : (Int32 × Int32 × Int32 × Int32 × Int32 × Int32), P (.inl s) → zz_W G m_X9_alike t t t 28 [some (.ref 0), some (.int v1), some (.int s.1), some (.int s.2.1), some (.int s.2.2.1), some (.int s.2.2.2.1), some (.int s.2.2.2.2.1), some (.int s.2.2.2.2.2), none] [] M Q) (kR : ∀ r : Int32, P (.inr r) → Q (some (.int r)) M) : zz_W G m_X9_alike t t t 95 [some (.ref 0), some (.int v1), some (.int v2), some (.int v3), some (.int v4), some (.int v5), some (.int v6), some (.int v7), some (.int v8)] [] M Q := by
  unfold j_X9_alike_95 at h
  refine r_iload dX9_alike_95 rfl ?_
  refine r_iload_n dX9_alike_97 rfl ?_
  refine r_icmp_gt 114 dX9_alike_98 (by decide) (fun c1 => ?_) (fun c1 => ?_)
  · have h := zK_pos h c1
    refine zz_mask [3, 4] ?_
    exact w_X9_alike_114 (v1) (v2) (v5) (v6) (v7) (v8) M ht h k28 kR
  · have h := zK_neg h c1
    refine r_iload dX9_alike_101 rfl ?_
    refine r_iload_n dX9_alike_103 rfl ?_
    refine r_icmp_ne 121 dX9_alike_104 (by decide) (fun c2 => ?_) (fun c2 => ?_)
    · have h := zK_neg h c2
      refine r_iinc (nI 1) (fun x3 => [some (.ref 0), some (.int v1), some (.int v2), some (.int v3), some (.int v4), some (.int v5), some (.int v6), some (.int x3), some (.int v8)]) dX9_alike_121 rfl (by decide) (by decide) rfl (fun _ => rfl) (fun x3 ex3 => ?_)
      have h := zK_bd h ex3
      refine r_goto 28 dX9_alike_124 (by decide) ?_
      refine zz_mask [8] ?_
      exact k28 ((v2, v3, v4, v5, v6, x3)) (zK_some h)
    · have h := zK_pos h c2
      refine r_iload dX9_alike_107 rfl ?_
      refine r_iload dX9_alike_109 rfl ?_
      refine r_icmp_ge 121 dX9_alike_111 (by decide) (fun c4 => ?_) (fun c4 => ?_)
      · have h := zK_pos h c4
        refine r_iinc (nI 1) (fun x5 => [some (.ref 0), some (.int v1), some (.int v2), some (.int v3), some (.int v4), some (.int v5), some (.int v6), some (.int x5), some (.int v8)]) dX9_alike_121 rfl (by decide) (by decide) rfl (fun _ => rfl) (fun x5 ex5 => ?_)
        have h := zK_bd h ex5
        refine r_goto 28 dX9_alike_124 (by decide) ?_
        refine zz_mask [8] ?_
        exact k28 ((v2, v3, v4, v5, v6, x5)) (zK_some h)
      · have h := zK_neg h c4
        refine zz_mask [3, 4] ?_
        exact w_X9_alike_114 (v1) (v2) (v5) (v6) (v7) (v8) M ht h k28 kR
noncomputable def j_X9_alike_93 (v1 : Int32) (v3 : Int32) (v4 : Int32) (v5 : Int32) (v6 : Int32) (v7 : Int32) (v8 : Int32) (s0 : Int32) (s1 : Int32) (M : zzMem) : Option ((Int32 × Int32 × Int32 × Int32 × Int32 × Int32) ⊕ Int32) :=
  zbd ((s0 + s1)) (fun x1 =>
  j_X9_alike_95 v1 x1 v3 v4 v5 v6 v7 v8 M)
set_option maxHeartbeats 4000000 in
set_option maxRecDepth 100000 in
theorem w_X9_alike_93 {G : zzG} {t : Nat} {Q : Option Value → zzMem → Prop} (v1 : Int32) (v3 : Int32) (v4 : Int32) (v5 : Int32) (v6 : Int32) (v7 : Int32) (v8 : Int32) (s0 : Int32) (s1 : Int32) (M : zzMem) (ht : 180 ≤ t)  {P : ((Int32 × Int32 × Int32 × Int32 × Int32 × Int32) ⊕ Int32) → Prop} (h : zK (j_X9_alike_93 v1 v3 v4 v5 v6 v7 v8 s0 s1 M) P) (k28 : ∀ s : (Int32 × Int32 × Int32 × Int32 × Int32 × Int32), P (.inl s) → zz_W G m_X9_alike t t t 28 [some (.ref 0), some (.int v1), some (.int s.1), some (.int s.2.1), some (.int s.2.2.1), some (.int s.2.2.2.1), some (.int s.2.2.2.2.1), some (.int s.2.2.2.2.2), none] [] M Q) (kR : ∀ r : Int32, P (.inr r) → Q (some (.int r)) M) : zz_W G m_X9_alike t t t 93 [some (.ref 0), some (.int v1), none, some (.int v3), some (.int v4), some (.int v5), some (.int v6), some (.int v7), some (.int v8)] [.int s1, .int s0] M Q := by
  unfold j_X9_alike_93 at h
  refine r_iadd dX9_alike_93 ?_
  refine r_istore_n (fun x1 => [some (.ref 0), some (.int v1), some (.int x1), some (.int v3), some (.int v4), some (.int v5), some (.int v6), some (.int v7), some (.int v8)]) dX9_alike_94 (by decide) rfl (fun _ => rfl) (fun x1 ex1 => ?_)
  have h := zK_bd h ex1
  exact w_X9_alike_95 (v1) (x1) (v3) (v4) (v5) (v6) (v7) (v8) M ht h k28 kR
noncomputable def j_X9_alike_69 (v1 : Int32) (v2 : Int32) (v3 : Int32) (v4 : Int32) (v7 : Int32) (v8 : Int32) (s0 : Int32) (M : zzMem) : Option ((Int32 × Int32 × Int32 × Int32 × Int32 × Int32) ⊕ Int32) :=
  if s0 ≤ (nI 1) then
  (j_X9_alike_95 v1 v2 v3 v4 v8 s0 v7 v8 M)
  else (if s0 = (nI 2) then
  (j_X9_alike_93 v1 v3 v4 v8 s0 v7 v8 v2 (nI 2) M)
  else (j_X9_alike_93 v1 v3 v4 v8 s0 v7 v8 v2 (nI 1) M))
set_option maxHeartbeats 4000000 in
set_option maxRecDepth 100000 in
theorem w_X9_alike_69 {G : zzG} {t : Nat} {Q : Option Value → zzMem → Prop} (v1 : Int32) (v2 : Int32) (v3 : Int32) (v4 : Int32) (v7 : Int32) (v8 : Int32) (s0 : Int32) (M : zzMem) (ht : 180 ≤ t)  {P : ((Int32 × Int32 × Int32 × Int32 × Int32 × Int32) ⊕ Int32) → Prop} (h : zK (j_X9_alike_69 v1 v2 v3 v4 v7 v8 s0 M) P) (k28 : ∀ s : (Int32 × Int32 × Int32 × Int32 × Int32 × Int32), P (.inl s) → zz_W G m_X9_alike t t t 28 [some (.ref 0), some (.int v1), some (.int s.1), some (.int s.2.1), some (.int s.2.2.1), some (.int s.2.2.2.1), some (.int s.2.2.2.2.1), some (.int s.2.2.2.2.2), none] [] M Q) (kR : ∀ r : Int32, P (.inr r) → Q (some (.int r)) M) : zz_W G m_X9_alike t t t 69 [some (.ref 0), some (.int v1), some (.int v2), some (.int v3), some (.int v4), none, none, some (.int v7), some (.int v8)] [.int s0] M Q := by
  unfold j_X9_alike_69 at h
  refine s_istore ([some (.ref 0), some (.int v1), some (.int v2), some (.int v3), some (.int v4), none, some (.int s0), some (.int v7), some (.int v8)]) dX9_alike_69 (by decide) rfl rfl ?_
  refine r_iload dX9_alike_71 rfl ?_
  refine s_istore ([some (.ref 0), some (.int v1), some (.int v2), some (.int v3), some (.int v4), some (.int v8), some (.int s0), some (.int v7), some (.int v8)]) dX9_alike_73 (by decide) rfl rfl ?_
  refine r_iload dX9_alike_75 rfl ?_
  refine r_iconst (v := (nI 1)) dX9_alike_77 (by decide) ?_
  refine r_icmp_le 95 dX9_alike_78 (by decide) (fun c1 => ?_) (fun c1 => ?_)
  · have h := zK_pos h c1
    exact w_X9_alike_95 (v1) (v2) (v3) (v4) (v8) (s0) (v7) (v8) M ht h k28 kR
  · have h := zK_neg h c1
    refine r_iload_n dX9_alike_81 rfl ?_
    refine r_iload dX9_alike_82 rfl ?_
    refine r_iconst (v := (nI 2)) dX9_alike_84 (by decide) ?_
    refine r_icmp_ne 92 dX9_alike_85 (by decide) (fun c2 => ?_) (fun c2 => ?_)
    · have h := zK_neg h c2
      refine r_iconst (v := (nI 1)) dX9_alike_92 (by decide) ?_
      refine zz_mask [2] ?_
      exact w_X9_alike_93 (v1) (v3) (v4) (v8) (s0) (v7) (v8) (v2) ((nI 1)) M ht h k28 kR
    · have h := zK_pos h c2
      refine r_iconst (v := (nI 2)) dX9_alike_88 (by decide) ?_
      refine r_goto 93 dX9_alike_89 (by decide) ?_
      refine zz_mask [2] ?_
      exact w_X9_alike_93 (v1) (v3) (v4) (v8) (s0) (v7) (v8) (v2) ((nI 2)) M ht h k28 kR
noncomputable def b_X9_alike_28 (v1 : Int32) (v2 : Int32) (v3 : Int32) (v4 : Int32) (v5 : Int32) (v6 : Int32) (v7 : Int32) (M : zzMem) : Option ((Int32 × Int32 × Int32 × Int32 × Int32 × Int32) ⊕ Int32) :=
  if (M.1 27 1) ≤ v7 then
  (if v1 = 0 then
  (some ((.inr v2)))
  else (if v1 = (nI 1) then
  (some ((.inr v4)))
  else (some ((.inr v3)))))
  else ((f_X2_hashAt 12 v7 M).bind (fun r4 =>
  if r4 = v5 then
  (j_X9_alike_69 v1 v2 v3 v4 v7 r4 (v6 + (nI 1)) M)
  else (j_X9_alike_69 v1 v2 v3 v4 v7 r4 (nI 1) M)))
set_option maxHeartbeats 4000000 in
set_option maxRecDepth 100000 in
theorem x_X9_alike_28 {G : zzG} {t : Nat} {Q : Option Value → zzMem → Prop} (v1 : Int32) (v2 : Int32) (v3 : Int32) (v4 : Int32) (v5 : Int32) (v6 : Int32) (v7 : Int32) (M : zzMem) (ht : 180 ≤ t)  {P : ((Int32 × Int32 × Int32 × Int32 × Int32 × Int32) ⊕ Int32) → Prop} (h : zK (b_X9_alike_28 v1 v2 v3 v4 v5 v6 v7 M) P) (k28 : ∀ s : (Int32 × Int32 × Int32 × Int32 × Int32 × Int32), P (.inl s) → zz_W G m_X9_alike t t t 28 [some (.ref 0), some (.int v1), some (.int s.1), some (.int s.2.1), some (.int s.2.2.1), some (.int s.2.2.2.1), some (.int s.2.2.2.2.1), some (.int s.2.2.2.2.2), none] [] M Q) (kR : ∀ r : Int32, P (.inr r) → Q (some (.int r)) M) : zz_W G m_X9_alike t t t 28 [some (.ref 0), some (.int v1), some (.int v2), some (.int v3), some (.int v4), some (.int v5), some (.int v6), some (.int v7), none] [] M Q := by
  unfold b_X9_alike_28 at h
  refine r_iload dX9_alike_28 rfl ?_
  refine r_aload_n dX9_alike_30 rfl ?_
  refine r_getR (k := 0) (q := 12) dX9_alike_31 zf_X9_33 (zo_X9 (zs_X9 ht)) (zr_X9_3 (zs_X9 ht)).1 (zr_X9_3 (zs_X9 ht)).2.1 (zr_X9_3 (zs_X9 ht)).2.2 ?_
  refine r_getR (k := 12) (q := 27) dX9_alike_34 zf_X9_77 (zo_X2 (zc_X9_3 (zs_X9 ht))) (zr_X2_2 (zc_X9_3 (zs_X9 ht))).1 (zr_X2_2 (zc_X9_3 (zs_X9 ht))).2.1 (zr_X2_2 (zc_X9_3 (zs_X9 ht))).2.2 ?_
  refine r_getI (k := 27) dX9_alike_37 zf_X9_81 (zo_X5 (zc_X2_2 (zc_X9_3 (zs_X9 ht)))) (zi_X5_1 (zc_X2_2 (zc_X9_3 (zs_X9 ht)))) ?_
  refine r_icmp_ge 127 dX9_alike_40 (by decide) (fun c1 => ?_) (fun c1 => ?_)
  · have h := zK_pos h c1
    refine r_iload_n dX9_alike_127 rfl ?_
    refine r_if_ne 133 dX9_alike_128 (by decide) (fun c2 => ?_) (fun c2 => ?_)
    · have h := zK_neg h c2
      refine r_iload_n dX9_alike_133 rfl ?_
      refine r_iconst (v := (nI 1)) dX9_alike_134 (by decide) ?_
      refine r_icmp_ne 143 dX9_alike_135 (by decide) (fun c3 => ?_) (fun c3 => ?_)
      · have h := zK_neg h c3
        refine r_iload_n dX9_alike_143 rfl ?_
        exact r_iret dX9_alike_144 rfl rfl rfl (kR (v3) (zK_some h))
      · have h := zK_pos h c3
        refine r_iload dX9_alike_138 rfl ?_
        refine r_goto 144 dX9_alike_140 (by decide) ?_
        exact r_iret dX9_alike_144 rfl rfl rfl (kR (v4) (zK_some h))
    · have h := zK_pos h c2
      refine r_iload_n dX9_alike_131 rfl ?_
      exact r_iret dX9_alike_132 rfl rfl rfl (kR (v2) (zK_some h))
  · have h := zK_neg h c1
    refine r_aload_n dX9_alike_43 rfl ?_
    refine r_getR (k := 0) (q := 12) dX9_alike_44 zf_X9_33 (zo_X9 (zs_X9 ht)) (zr_X9_3 (zs_X9 ht)).1 (zr_X9_3 (zs_X9 ht)).2.1 (zr_X9_3 (zs_X9 ht)).2.2 ?_
    refine r_iload dX9_alike_47 rfl ?_
    refine kV_ir (as := [.int v7]) (st := []) (k := 12) dX9_alike_49 zM_X2_hashAt zk_X9_300 (zo_X2 (zc_X9_3 (zs_X9 ht))) (by decide) rfl ⟨Nat.le_of_ble_eq_true rfl, Nat.le_of_ble_eq_true rfl⟩ (Nat.le_of_ble_eq_true rfl) (zz_T0 rfl rfl) (fun Q' P' k h => c_X2_hashAt (12) (v7) M (zc_X9_3 (zs_X9 ht)) h k) h (fun r4 h => ?_)
    refine s_istore ([some (.ref 0), some (.int v1), some (.int v2), some (.int v3), some (.int v4), some (.int v5), some (.int v6), some (.int v7), some (.int r4)]) dX9_alike_52 (by decide) rfl rfl ?_
    refine r_iload dX9_alike_54 rfl ?_
    refine r_iload dX9_alike_56 rfl ?_
    refine r_icmp_ne 68 dX9_alike_58 (by decide) (fun c5 => ?_) (fun c5 => ?_)
    · have h := zK_neg h c5
      refine r_iconst (v := (nI 1)) dX9_alike_68 (by decide) ?_
      refine zz_mask [5, 6] ?_
      exact w_X9_alike_69 (v1) (v2) (v3) (v4) (v7) (r4) ((nI 1)) M ht h k28 kR
    · have h := zK_pos h c5
      refine r_iload dX9_alike_61 rfl ?_
      refine r_iconst (v := (nI 1)) dX9_alike_63 (by decide) ?_
      refine r_iadd dX9_alike_64 ?_
      refine r_goto 69 dX9_alike_65 (by decide) ?_
      refine zz_mask [5, 6] ?_
      exact w_X9_alike_69 (v1) (v2) (v3) (v4) (v7) (r4) ((v6 + (nI 1))) M ht h k28 kR
noncomputable def j_X9_alike_28 (v1 : Int32) (v2 : Int32) (v3 : Int32) (v4 : Int32) (v5 : Int32) (v6 : Int32) (v7 : Int32) (M : zzMem) : Option Int32 :=
  zlp (fun s : (Int32 × Int32 × Int32 × Int32 × Int32 × Int32) => b_X9_alike_28 v1 s.1 s.2.1 s.2.2.1 s.2.2.2.1 s.2.2.2.2.1 s.2.2.2.2.2 M) (v2, v3, v4, v5, v6, v7)
set_option maxHeartbeats 4000000 in
set_option maxRecDepth 100000 in
theorem w_X9_alike_28 {G : zzG} {t : Nat} {Q : Option Value → zzMem → Prop} (v1 : Int32) (v2 : Int32) (v3 : Int32) (v4 : Int32) (v5 : Int32) (v6 : Int32) (v7 : Int32) (M : zzMem) (ht : 180 ≤ t)  {P : Int32 → Prop} (h : zK (j_X9_alike_28 v1 v2 v3 v4 v5 v6 v7 M) P) (kR : ∀ r : Int32, P r → Q (some (.int r)) M) : zz_W G m_X9_alike t t t 28 [some (.ref 0), some (.int v1), some (.int v2), some (.int v3), some (.int v4), some (.int v5), some (.int v6), some (.int v7), none] [] M Q := by
  unfold j_X9_alike_28 at h
  exact zK_lp h (fun s : (Int32 × Int32 × Int32 × Int32 × Int32 × Int32) => zz_W G m_X9_alike t t t 28 [some (.ref 0), some (.int v1), some (.int s.1), some (.int s.2.1), some (.int s.2.2.1), some (.int s.2.2.2.1), some (.int s.2.2.2.2.1), some (.int s.2.2.2.2.2), none] [] M Q) (fun s h => x_X9_alike_28 v1 s.1 s.2.1 s.2.2.1 s.2.2.2.1 s.2.2.2.2.1 s.2.2.2.2.2 M ht h (fun s p => p) kR)
noncomputable def f_X9_alike (a1 : Int32) (M : zzMem) : Option Int32 :=
  if (f_X9_within a1 (nI 0) (nI 2)) = true then
  (j_X9_alike_28 a1 (nI 0) (nI 0) (-2 : Int32) (-1 : Int32) (nI 0) (nI 0) M)
  else (some ((-1 : Int32)))
set_option maxHeartbeats 4000000 in
set_option maxRecDepth 100000 in
theorem w_X9_alike_0 {G : zzG} {t : Nat} {Q : Option Value → zzMem → Prop} (a1 : Int32) (M : zzMem) (ht : 180 ≤ t)  {P : Int32 → Prop} (h : zK (f_X9_alike a1 M) P) (kR : ∀ r : Int32, P r → Q (some (.int r)) M) : zz_W G m_X9_alike t t t 0 [some (.ref 0), some (.int a1), none, none, none, none, none, none, none] [] M Q := by
  unfold f_X9_alike at h
  refine r_iload_n dX9_alike_0 rfl ?_
  refine r_iconst (v := (nI 0)) dX9_alike_1 (by decide) ?_
  refine r_iconst (v := (nI 2)) dX9_alike_2 (by decide) ?_
  refine tS_zr (v := f_X9_within a1 (nI 0) (nI 2)) (as := [.int a1, .int (nI 0), .int (nI 2)]) (st := []) dX9_alike_3 zM_X9_within zk_X9_63 ⟨Nat.le_of_ble_eq_true rfl, Nat.le_of_ble_eq_true rfl⟩ (Nat.le_of_ble_eq_true rfl) (zz_T0 rfl rfl) (fun Q' h => c_X9_within (a1) ((nI 0)) ((nI 2)) M h) ?_
  refine r_ifZ_ne 11 dX9_alike_6 (by decide) (fun c1 => ?_) (fun c1 => ?_)
  · have h := zK_pos h c1
    refine r_iconst (v := (nI 0)) dX9_alike_11 (by decide) ?_
    refine s_istore_n ([some (.ref 0), some (.int a1), some (.int (nI 0)), none, none, none, none, none, none]) dX9_alike_12 (by decide) rfl rfl ?_
    refine r_iconst (v := (nI 0)) dX9_alike_13 (by decide) ?_
    refine s_istore_n ([some (.ref 0), some (.int a1), some (.int (nI 0)), some (.int (nI 0)), none, none, none, none, none]) dX9_alike_14 (by decide) rfl rfl ?_
    refine r_bipush (v := (-2 : Int32)) dX9_alike_15 (by decide) ?_
    refine s_istore ([some (.ref 0), some (.int a1), some (.int (nI 0)), some (.int (nI 0)), some (.int (-2 : Int32)), none, none, none, none]) dX9_alike_17 (by decide) rfl rfl ?_
    refine r_iconst (v := (-1 : Int32)) dX9_alike_19 (by decide) ?_
    refine s_istore ([some (.ref 0), some (.int a1), some (.int (nI 0)), some (.int (nI 0)), some (.int (-2 : Int32)), some (.int (-1 : Int32)), none, none, none]) dX9_alike_20 (by decide) rfl rfl ?_
    refine r_iconst (v := (nI 0)) dX9_alike_22 (by decide) ?_
    refine s_istore ([some (.ref 0), some (.int a1), some (.int (nI 0)), some (.int (nI 0)), some (.int (-2 : Int32)), some (.int (-1 : Int32)), some (.int (nI 0)), none, none]) dX9_alike_23 (by decide) rfl rfl ?_
    refine r_iconst (v := (nI 0)) dX9_alike_25 (by decide) ?_
    refine s_istore ([some (.ref 0), some (.int a1), some (.int (nI 0)), some (.int (nI 0)), some (.int (-2 : Int32)), some (.int (-1 : Int32)), some (.int (nI 0)), some (.int (nI 0)), none]) dX9_alike_26 (by decide) rfl rfl ?_
    exact w_X9_alike_28 (a1) ((nI 0)) ((nI 0)) ((-2 : Int32)) ((-1 : Int32)) ((nI 0)) ((nI 0)) M ht h kR
  · have h := zK_neg h c1
    refine r_iconst (v := (-1 : Int32)) dX9_alike_9 (by decide) ?_
    exact r_iret dX9_alike_10 rfl rfl rfl (kR ((-1 : Int32)) (zK_some h))
set_option maxHeartbeats 4000000 in
set_option maxRecDepth 100000 in
theorem c_X9_alike {G : zzG} {t : Nat} {Q : Option Value → zzMem → Prop} (a1 : Int32) (M : zzMem) (ht : 180 ≤ t)  {P : Int32 → Prop} (h : zK (f_X9_alike a1 M) P) (kR : ∀ r : Int32, P r → Q (some (.int r)) M) : zz_S G m_X9_alike t t [.ref 0, .int a1] M Q :=
  zz_S_of (by decide) (by decide) (Nat.le_of_ble_eq_true rfl) (w_X9_alike_0 a1 M ht h kR)
noncomputable def f_X9_inOrder (a1 : Int32) (M : zzMem) : Option Int32 :=
  if 0 ≤ a1 then
  (if (M.1 27 1) ≤ a1 then
  (some ((-4 : Int32)))
  else ((f_X5_keyAt 27 a1 M).bind (fun r3 =>
  some r3)))
  else (some ((-1 : Int32)))
set_option maxHeartbeats 4000000 in
set_option maxRecDepth 100000 in
theorem w_X9_inOrder_0 {G : zzG} {t : Nat} {Q : Option Value → zzMem → Prop} (a1 : Int32) (M : zzMem) (ht : 180 ≤ t)  {P : Int32 → Prop} (h : zK (f_X9_inOrder a1 M) P) (kR : ∀ r : Int32, P r → Q (some (.int r)) M) : zz_W G m_X9_inOrder t t t 0 [some (.ref 0), some (.int a1)] [] M Q := by
  unfold f_X9_inOrder at h
  refine r_iload_n dX9_inOrder_0 rfl ?_
  refine r_if_ge 6 dX9_inOrder_1 (by decide) (fun c1 => ?_) (fun c1 => ?_)
  · have h := zK_pos h c1
    refine r_iload_n dX9_inOrder_6 rfl ?_
    refine r_aload_n dX9_inOrder_7 rfl ?_
    refine r_getR (k := 0) (q := 12) dX9_inOrder_8 zf_X9_33 (zo_X9 (zs_X9 ht)) (zr_X9_3 (zs_X9 ht)).1 (zr_X9_3 (zs_X9 ht)).2.1 (zr_X9_3 (zs_X9 ht)).2.2 ?_
    refine r_getR (k := 12) (q := 27) dX9_inOrder_11 zf_X9_77 (zo_X2 (zc_X9_3 (zs_X9 ht))) (zr_X2_2 (zc_X9_3 (zs_X9 ht))).1 (zr_X2_2 (zc_X9_3 (zs_X9 ht))).2.1 (zr_X2_2 (zc_X9_3 (zs_X9 ht))).2.2 ?_
    refine r_getI (k := 27) dX9_inOrder_14 zf_X9_81 (zo_X5 (zc_X2_2 (zc_X9_3 (zs_X9 ht)))) (zi_X5_1 (zc_X2_2 (zc_X9_3 (zs_X9 ht)))) ?_
    refine r_icmp_ge 34 dX9_inOrder_17 (by decide) (fun c2 => ?_) (fun c2 => ?_)
    · have h := zK_pos h c2
      refine r_bipush (v := (-4 : Int32)) dX9_inOrder_34 (by decide) ?_
      exact r_iret dX9_inOrder_36 rfl rfl rfl (kR ((-4 : Int32)) (zK_some h))
    · have h := zK_neg h c2
      refine r_aload_n dX9_inOrder_20 rfl ?_
      refine r_getR (k := 0) (q := 12) dX9_inOrder_21 zf_X9_33 (zo_X9 (zs_X9 ht)) (zr_X9_3 (zs_X9 ht)).1 (zr_X9_3 (zs_X9 ht)).2.1 (zr_X9_3 (zs_X9 ht)).2.2 ?_
      refine r_getR (k := 12) (q := 27) dX9_inOrder_24 zf_X9_77 (zo_X2 (zc_X9_3 (zs_X9 ht))) (zr_X2_2 (zc_X9_3 (zs_X9 ht))).1 (zr_X2_2 (zc_X9_3 (zs_X9 ht))).2.1 (zr_X2_2 (zc_X9_3 (zs_X9 ht))).2.2 ?_
      refine r_iload_n dX9_inOrder_27 rfl ?_
      refine kV_ir (as := [.int a1]) (st := []) (k := 27) dX9_inOrder_28 zM_X5_keyAt zk_X9_326 (zo_X5 (zc_X2_2 (zc_X9_3 (zs_X9 ht)))) (by decide) rfl ⟨Nat.le_of_ble_eq_true rfl, Nat.le_of_ble_eq_true rfl⟩ (Nat.le_of_ble_eq_true rfl) (zz_T0 rfl rfl) (fun Q' P' k h => c_X5_keyAt (27) (a1) M (zc_X2_2 (zc_X9_3 (zs_X9 ht))) h k) h (fun r3 h => ?_)
      refine r_goto 36 dX9_inOrder_31 (by decide) ?_
      exact r_iret dX9_inOrder_36 rfl rfl rfl (kR (r3) (zK_some h))
  · have h := zK_neg h c1
    refine r_iconst (v := (-1 : Int32)) dX9_inOrder_4 (by decide) ?_
    exact r_iret dX9_inOrder_5 rfl rfl rfl (kR ((-1 : Int32)) (zK_some h))
set_option maxHeartbeats 4000000 in
set_option maxRecDepth 100000 in
theorem c_X9_inOrder {G : zzG} {t : Nat} {Q : Option Value → zzMem → Prop} (a1 : Int32) (M : zzMem) (ht : 180 ≤ t)  {P : Int32 → Prop} (h : zK (f_X9_inOrder a1 M) P) (kR : ∀ r : Int32, P r → Q (some (.int r)) M) : zz_S G m_X9_inOrder t t [.ref 0, .int a1] M Q :=
  zz_S_of (by decide) (by decide) (Nat.le_of_ble_eq_true rfl) (w_X9_inOrder_0 a1 M ht h kR)
noncomputable def b_X9_between_26 (v1 : Int32) (v2 : Int32) (v3 : Int32) (v4 : Int32) (M : zzMem) : Option ((Int32 × Int32) ⊕ Int32) :=
  if (M.1 27 1) ≤ v4 then
  (some ((.inr v3)))
  else ((f_X5_keyAt 27 v4 M).bind (fun r2 =>
  if (f_X9_within r2 v1 v2) = true then
  (zbd (v3 + (nI 1)) (fun x5 =>
  zbd (v4 + (nI 1)) (fun x6 =>
  some (.inl (x5, x6)))))
  else (zbd (v4 + (nI 1)) (fun x4 =>
  some (.inl (v3, x4))))))
set_option maxHeartbeats 4000000 in
set_option maxRecDepth 100000 in
theorem x_X9_between_26 {G : zzG} {t : Nat} {Q : Option Value → zzMem → Prop} (v1 : Int32) (v2 : Int32) (v3 : Int32) (v4 : Int32) (M : zzMem) (ht : 180 ≤ t)  {P : ((Int32 × Int32) ⊕ Int32) → Prop} (h : zK (b_X9_between_26 v1 v2 v3 v4 M) P) (k26 : ∀ s : (Int32 × Int32), P (.inl s) → zz_W G m_X9_between t t t 26 [some (.ref 0), some (.int v1), some (.int v2), some (.int s.1), some (.int s.2)] [] M Q) (kR : ∀ r : Int32, P (.inr r) → Q (some (.int r)) M) : zz_W G m_X9_between t t t 26 [some (.ref 0), some (.int v1), some (.int v2), some (.int v3), some (.int v4)] [] M Q := by
  unfold b_X9_between_26 at h
  refine r_iload dX9_between_26 rfl ?_
  refine r_aload_n dX9_between_28 rfl ?_
  refine r_getR (k := 0) (q := 12) dX9_between_29 zf_X9_33 (zo_X9 (zs_X9 ht)) (zr_X9_3 (zs_X9 ht)).1 (zr_X9_3 (zs_X9 ht)).2.1 (zr_X9_3 (zs_X9 ht)).2.2 ?_
  refine r_getR (k := 12) (q := 27) dX9_between_32 zf_X9_77 (zo_X2 (zc_X9_3 (zs_X9 ht))) (zr_X2_2 (zc_X9_3 (zs_X9 ht))).1 (zr_X2_2 (zc_X9_3 (zs_X9 ht))).2.1 (zr_X2_2 (zc_X9_3 (zs_X9 ht))).2.2 ?_
  refine r_getI (k := 27) dX9_between_35 zf_X9_81 (zo_X5 (zc_X2_2 (zc_X9_3 (zs_X9 ht)))) (zi_X5_1 (zc_X2_2 (zc_X9_3 (zs_X9 ht)))) ?_
  refine r_icmp_ge 70 dX9_between_38 (by decide) (fun c1 => ?_) (fun c1 => ?_)
  · have h := zK_pos h c1
    refine r_iload_n dX9_between_70 rfl ?_
    exact r_iret dX9_between_71 rfl rfl rfl (kR (v3) (zK_some h))
  · have h := zK_neg h c1
    refine r_aload_n dX9_between_41 rfl ?_
    refine r_getR (k := 0) (q := 12) dX9_between_42 zf_X9_33 (zo_X9 (zs_X9 ht)) (zr_X9_3 (zs_X9 ht)).1 (zr_X9_3 (zs_X9 ht)).2.1 (zr_X9_3 (zs_X9 ht)).2.2 ?_
    refine r_getR (k := 12) (q := 27) dX9_between_45 zf_X9_77 (zo_X2 (zc_X9_3 (zs_X9 ht))) (zr_X2_2 (zc_X9_3 (zs_X9 ht))).1 (zr_X2_2 (zc_X9_3 (zs_X9 ht))).2.1 (zr_X2_2 (zc_X9_3 (zs_X9 ht))).2.2 ?_
    refine r_iload dX9_between_48 rfl ?_
    refine kV_ir (as := [.int v4]) (st := []) (k := 27) dX9_between_50 zM_X5_keyAt zk_X9_326 (zo_X5 (zc_X2_2 (zc_X9_3 (zs_X9 ht)))) (by decide) rfl ⟨Nat.le_of_ble_eq_true rfl, Nat.le_of_ble_eq_true rfl⟩ (Nat.le_of_ble_eq_true rfl) (zz_T0 rfl rfl) (fun Q' P' k h => c_X5_keyAt (27) (v4) M (zc_X2_2 (zc_X9_3 (zs_X9 ht))) h k) h (fun r2 h => ?_)
    refine r_iload_n dX9_between_53 rfl ?_
    refine r_iload_n dX9_between_54 rfl ?_
    refine tS_zr (v := f_X9_within r2 v1 v2) (as := [.int r2, .int v1, .int v2]) (st := []) dX9_between_55 zM_X9_within zk_X9_63 ⟨Nat.le_of_ble_eq_true rfl, Nat.le_of_ble_eq_true rfl⟩ (Nat.le_of_ble_eq_true rfl) (zz_T0 rfl rfl) (fun Q' h => c_X9_within (r2) (v1) (v2) M h) ?_
    refine r_ifZ_eq 64 dX9_between_58 (by decide) (fun c3 => ?_) (fun c3 => ?_)
    · have h := zK_neg h c3
      refine r_iinc (nI 1) (fun x4 => [some (.ref 0), some (.int v1), some (.int v2), some (.int v3), some (.int x4)]) dX9_between_64 rfl (by decide) (by decide) rfl (fun _ => rfl) (fun x4 ex4 => ?_)
      have h := zK_bd h ex4
      refine r_goto 26 dX9_between_67 (by decide) ?_
      exact k26 ((v3, x4)) (zK_some h)
    · have h := zK_pos h c3
      refine r_iinc (nI 1) (fun x5 => [some (.ref 0), some (.int v1), some (.int v2), some (.int x5), some (.int v4)]) dX9_between_61 rfl (by decide) (by decide) rfl (fun _ => rfl) (fun x5 ex5 => ?_)
      have h := zK_bd h ex5
      refine r_iinc (nI 1) (fun x6 => [some (.ref 0), some (.int v1), some (.int v2), some (.int x5), some (.int x6)]) dX9_between_64 rfl (by decide) (by decide) rfl (fun _ => rfl) (fun x6 ex6 => ?_)
      have h := zK_bd h ex6
      refine r_goto 26 dX9_between_67 (by decide) ?_
      exact k26 ((x5, x6)) (zK_some h)
noncomputable def j_X9_between_26 (v1 : Int32) (v2 : Int32) (v3 : Int32) (v4 : Int32) (M : zzMem) : Option Int32 :=
  zlp (fun s : (Int32 × Int32) => b_X9_between_26 v1 v2 s.1 s.2 M) (v3, v4)
set_option maxHeartbeats 4000000 in
set_option maxRecDepth 100000 in
theorem w_X9_between_26 {G : zzG} {t : Nat} {Q : Option Value → zzMem → Prop} (v1 : Int32) (v2 : Int32) (v3 : Int32) (v4 : Int32) (M : zzMem) (ht : 180 ≤ t)  {P : Int32 → Prop} (h : zK (j_X9_between_26 v1 v2 v3 v4 M) P) (kR : ∀ r : Int32, P r → Q (some (.int r)) M) : zz_W G m_X9_between t t t 26 [some (.ref 0), some (.int v1), some (.int v2), some (.int v3), some (.int v4)] [] M Q := by
  unfold j_X9_between_26 at h
  exact zK_lp h (fun s : (Int32 × Int32) => zz_W G m_X9_between t t t 26 [some (.ref 0), some (.int v1), some (.int v2), some (.int s.1), some (.int s.2)] [] M Q) (fun s h => x_X9_between_26 v1 v2 s.1 s.2 M ht h (fun s p => p) kR)
noncomputable def f_X9_between (a1 : Int32) (a2 : Int32) (M : zzMem) : Option Int32 :=
  if (f_X9_isKey a1) = true then
  (if (f_X9_isKey a2) = true then
  (if a1 ≤ a2 then
  (j_X9_between_26 a1 a2 (nI 0) (nI 0) M)
  else (some ((-1 : Int32))))
  else (some ((-1 : Int32))))
  else (some ((-1 : Int32)))
set_option maxHeartbeats 4000000 in
set_option maxRecDepth 100000 in
theorem w_X9_between_0 {G : zzG} {t : Nat} {Q : Option Value → zzMem → Prop} (a1 : Int32) (a2 : Int32) (M : zzMem) (ht : 180 ≤ t)  {P : Int32 → Prop} (h : zK (f_X9_between a1 a2 M) P) (kR : ∀ r : Int32, P r → Q (some (.int r)) M) : zz_W G m_X9_between t t t 0 [some (.ref 0), some (.int a1), some (.int a2), none, none] [] M Q := by
  unfold f_X9_between at h
  refine r_iload_n dX9_between_0 rfl ?_
  refine tS_zr (v := f_X9_isKey a1) (as := [.int a1]) (st := []) dX9_between_1 zM_X9_isKey zk_X9_149 ⟨Nat.le_of_ble_eq_true rfl, Nat.le_of_ble_eq_true rfl⟩ (Nat.le_of_ble_eq_true rfl) (zz_T0 rfl rfl) (fun Q' h => c_X9_isKey (a1) M h) ?_
  refine r_ifZ_eq 19 dX9_between_4 (by decide) (fun c1 => ?_) (fun c1 => ?_)
  · have h := zK_neg h c1
    refine r_iconst (v := (-1 : Int32)) dX9_between_19 (by decide) ?_
    exact r_iret dX9_between_20 rfl rfl rfl (kR ((-1 : Int32)) (zK_some h))
  · have h := zK_pos h c1
    refine r_iload_n dX9_between_7 rfl ?_
    refine tS_zr (v := f_X9_isKey a2) (as := [.int a2]) (st := []) dX9_between_8 zM_X9_isKey zk_X9_149 ⟨Nat.le_of_ble_eq_true rfl, Nat.le_of_ble_eq_true rfl⟩ (Nat.le_of_ble_eq_true rfl) (zz_T0 rfl rfl) (fun Q' h => c_X9_isKey (a2) M h) ?_
    refine r_ifZ_eq 19 dX9_between_11 (by decide) (fun c2 => ?_) (fun c2 => ?_)
    · have h := zK_neg h c2
      refine r_iconst (v := (-1 : Int32)) dX9_between_19 (by decide) ?_
      exact r_iret dX9_between_20 rfl rfl rfl (kR ((-1 : Int32)) (zK_some h))
    · have h := zK_pos h c2
      refine r_iload_n dX9_between_14 rfl ?_
      refine r_iload_n dX9_between_15 rfl ?_
      refine r_icmp_le 21 dX9_between_16 (by decide) (fun c3 => ?_) (fun c3 => ?_)
      · have h := zK_pos h c3
        refine r_iconst (v := (nI 0)) dX9_between_21 (by decide) ?_
        refine s_istore_n ([some (.ref 0), some (.int a1), some (.int a2), some (.int (nI 0)), none]) dX9_between_22 (by decide) rfl rfl ?_
        refine r_iconst (v := (nI 0)) dX9_between_23 (by decide) ?_
        refine s_istore ([some (.ref 0), some (.int a1), some (.int a2), some (.int (nI 0)), some (.int (nI 0))]) dX9_between_24 (by decide) rfl rfl ?_
        exact w_X9_between_26 (a1) (a2) ((nI 0)) ((nI 0)) M ht h kR
      · have h := zK_neg h c3
        refine r_iconst (v := (-1 : Int32)) dX9_between_19 (by decide) ?_
        exact r_iret dX9_between_20 rfl rfl rfl (kR ((-1 : Int32)) (zK_some h))
set_option maxHeartbeats 4000000 in
set_option maxRecDepth 100000 in
theorem c_X9_between {G : zzG} {t : Nat} {Q : Option Value → zzMem → Prop} (a1 : Int32) (a2 : Int32) (M : zzMem) (ht : 180 ≤ t)  {P : Int32 → Prop} (h : zK (f_X9_between a1 a2 M) P) (kR : ∀ r : Int32, P r → Q (some (.int r)) M) : zz_S G m_X9_between t t [.ref 0, .int a1, .int a2] M Q :=
  zz_S_of (by decide) (by decide) (Nat.le_of_ble_eq_true rfl) (w_X9_between_0 a1 a2 M ht h kR)
noncomputable def j_X9_bits_105 (v1 : Int32) (v2 : Int32) (v3 : Int32) (v4 : Int32) (v5 : Int32) (v6 : Int32) (v8 : Int32) (M : zzMem) : Option ((Int32 × Int32 × zzMem) ⊕ (Int32 × zzMem)) :=
  zbd ((v5 + ((v8 >>> (v2 &&& 31)) &&& (nI 1)))) (fun x1 =>
  zbd (v6 + (nI 1)) (fun x2 =>
  some (.inl (x1, x2, M))))
set_option maxHeartbeats 4000000 in
set_option maxRecDepth 100000 in
theorem w_X9_bits_105 {G : zzG} {t : Nat} {Q : Option Value → zzMem → Prop} (v1 : Int32) (v2 : Int32) (v3 : Int32) (v4 : Int32) (v5 : Int32) (v6 : Int32) (v8 : Int32) (M : zzMem) (ht : 180 ≤ t)  {P : ((Int32 × Int32 × zzMem) ⊕ (Int32 × zzMem)) → Prop} (h : zK (j_X9_bits_105 v1 v2 v3 v4 v5 v6 v8 M) P) (k50 : ∀ s : (Int32 × Int32 × zzMem), P (.inl s) → zz_W G m_X9_bits t t t 50 [some (.ref 0), some (.int v1), some (.int v2), some (.int v3), some (.int v4), some (.int s.1), some (.int s.2.1), none, none] [] s.2.2 Q) (kR : ∀ r : (Int32 × zzMem), P (.inr r) → Q (some (.int r.1)) r.2) : zz_W G m_X9_bits t t t 105 [some (.ref 0), some (.int v1), some (.int v2), some (.int v3), some (.int v4), some (.int v5), some (.int v6), none, some (.int v8)] [] M Q := by
  unfold j_X9_bits_105 at h
  refine r_iload dX9_bits_105 rfl ?_
  refine r_iload dX9_bits_107 rfl ?_
  refine r_iload_n dX9_bits_109 rfl ?_
  refine r_ishr dX9_bits_110 ?_
  refine r_iconst (v := (nI 1)) dX9_bits_111 (by decide) ?_
  refine r_iand dX9_bits_112 ?_
  refine r_iadd dX9_bits_113 ?_
  refine r_istore (fun x1 => [some (.ref 0), some (.int v1), some (.int v2), some (.int v3), some (.int v4), some (.int x1), some (.int v6), none, some (.int v8)]) dX9_bits_114 (by decide) rfl (fun _ => rfl) (fun x1 ex1 => ?_)
  have h := zK_bd h ex1
  refine r_iinc (nI 1) (fun x2 => [some (.ref 0), some (.int v1), some (.int v2), some (.int v3), some (.int v4), some (.int x1), some (.int x2), none, some (.int v8)]) dX9_bits_116 rfl (by decide) (by decide) rfl (fun _ => rfl) (fun x2 ex2 => ?_)
  have h := zK_bd h ex2
  refine r_goto 50 dX9_bits_119 (by decide) ?_
  refine zz_mask [8] ?_
  exact k50 ((x1, x2, M)) (zK_some h)
noncomputable def b_X9_bits_50 (v1 : Int32) (v2 : Int32) (v3 : Int32) (v4 : Int32) (v5 : Int32) (v6 : Int32) (M : zzMem) : Option ((Int32 × Int32 × zzMem) ⊕ (Int32 × zzMem)) :=
  if (nI 256) ≤ v6 then
  (some ((.inr (v5, M))))
  else (zbd (((v1 + v6) &&& (nI 65535))) (fun x2 =>
  (f_X3_hashOf 13 x2 M).bind (fun q3 => zpr q3 (fun r4 M5 =>
  if v3 ≤ 0 then
  (j_X9_bits_105 v1 v2 v3 v4 v5 v6 r4 M5)
  else ((f_X3_hashOf 13 (x2 ^^^ v4) M5).bind (fun q7 => zpr q7 (fun r8 M9 =>
  zbd ((r4 ^^^ r8)) (fun x10 =>
  j_X9_bits_105 v1 v2 v3 v4 v5 v6 x10 M9))))))))
set_option maxHeartbeats 4000000 in
set_option maxRecDepth 100000 in
theorem x_X9_bits_50 {G : zzG} {t : Nat} {Q : Option Value → zzMem → Prop} (v1 : Int32) (v2 : Int32) (v3 : Int32) (v4 : Int32) (v5 : Int32) (v6 : Int32) (M : zzMem) (ht : 180 ≤ t)  {P : ((Int32 × Int32 × zzMem) ⊕ (Int32 × zzMem)) → Prop} (h : zK (b_X9_bits_50 v1 v2 v3 v4 v5 v6 M) P) (k50 : ∀ s : (Int32 × Int32 × zzMem), P (.inl s) → zz_W G m_X9_bits t t t 50 [some (.ref 0), some (.int v1), some (.int v2), some (.int v3), some (.int v4), some (.int s.1), some (.int s.2.1), none, none] [] s.2.2 Q) (kR : ∀ r : (Int32 × zzMem), P (.inr r) → Q (some (.int r.1)) r.2) : zz_W G m_X9_bits t t t 50 [some (.ref 0), some (.int v1), some (.int v2), some (.int v3), some (.int v4), some (.int v5), some (.int v6), none, none] [] M Q := by
  unfold b_X9_bits_50 at h
  refine r_iload dX9_bits_50 rfl ?_
  refine r_sipush (v := (nI 256)) dX9_bits_52 (by decide) ?_
  refine r_icmp_ge 122 dX9_bits_55 (by decide) (fun c1 => ?_) (fun c1 => ?_)
  · have h := zK_pos h c1
    refine r_iload dX9_bits_122 rfl ?_
    exact r_iret dX9_bits_124 rfl rfl rfl (kR ((v5, M)) (zK_some h))
  · have h := zK_neg h c1
    refine r_iload_n dX9_bits_58 rfl ?_
    refine r_iload dX9_bits_59 rfl ?_
    refine r_iadd dX9_bits_61 ?_
    refine r_ldc (v := (nI 65535)) dX9_bits_62 zd_X9_148 ?_
    refine r_iand dX9_bits_64 ?_
    refine r_istore (fun x2 => [some (.ref 0), some (.int v1), some (.int v2), some (.int v3), some (.int v4), some (.int v5), some (.int v6), some (.int x2), none]) dX9_bits_65 (by decide) rfl (fun _ => rfl) (fun x2 ex2 => ?_)
    have h := zK_bd h ex2
    refine r_aload_n dX9_bits_67 rfl ?_
    refine r_getR (k := 0) (q := 12) dX9_bits_68 zf_X9_33 (zo_X9 (zs_X9 ht)) (zr_X9_3 (zs_X9 ht)).1 (zr_X9_3 (zs_X9 ht)).2.1 (zr_X9_3 (zs_X9 ht)).2.2 ?_
    refine r_getR (k := 12) (q := 13) dX9_bits_71 zf_X9_88 (zo_X2 (zc_X9_3 (zs_X9 ht))) (zr_X2_0 (zc_X9_3 (zs_X9 ht))).1 (zr_X2_0 (zc_X9_3 (zs_X9 ht))).2.1 (zr_X2_0 (zc_X9_3 (zs_X9 ht))).2.2 ?_
    refine r_iload dX9_bits_74 rfl ?_
    refine kV_iw (as := [.int x2]) (st := []) (k := 13) dX9_bits_76 zM_X3_hashOf zk_X9_207 (zo_X3 (zc_X2_0 (zc_X9_3 (zs_X9 ht)))) (by decide) rfl ⟨Nat.le_of_ble_eq_true rfl, Nat.le_of_ble_eq_true rfl⟩ (Nat.le_of_ble_eq_true rfl) (zz_T0 rfl rfl) (fun Q' P' k h => c_X3_hashOf (13) (x2) M (zc_X2_0 (zc_X9_3 (zs_X9 ht))) h (fun r p => k r.1 r.2 p)) h (fun r4 M5 h => ?_)
    have h := zK_pr h
    refine s_istore ([some (.ref 0), some (.int v1), some (.int v2), some (.int v3), some (.int v4), some (.int v5), some (.int v6), some (.int x2), some (.int r4)]) dX9_bits_79 (by decide) rfl rfl ?_
    refine r_iload_n dX9_bits_81 rfl ?_
    refine r_if_le 105 dX9_bits_82 (by decide) (fun c6 => ?_) (fun c6 => ?_)
    · have h := zK_pos h c6
      refine zz_mask [7] ?_
      exact w_X9_bits_105 (v1) (v2) (v3) (v4) (v5) (v6) (r4) M5 ht h k50 kR
    · have h := zK_neg h c6
      refine r_iload dX9_bits_85 rfl ?_
      refine r_aload_n dX9_bits_87 rfl ?_
      refine r_getR (k := 0) (q := 12) dX9_bits_88 zf_X9_33 (zo_X9 (zs_X9 ht)) (zr_X9_3 (zs_X9 ht)).1 (zr_X9_3 (zs_X9 ht)).2.1 (zr_X9_3 (zs_X9 ht)).2.2 ?_
      refine r_getR (k := 12) (q := 13) dX9_bits_91 zf_X9_88 (zo_X2 (zc_X9_3 (zs_X9 ht))) (zr_X2_0 (zc_X9_3 (zs_X9 ht))).1 (zr_X2_0 (zc_X9_3 (zs_X9 ht))).2.1 (zr_X2_0 (zc_X9_3 (zs_X9 ht))).2.2 ?_
      refine r_iload dX9_bits_94 rfl ?_
      refine r_iload dX9_bits_96 rfl ?_
      refine r_ixor dX9_bits_98 ?_
      refine kV_iw (as := [.int (x2 ^^^ v4)]) (st := [.int r4]) (k := 13) dX9_bits_99 zM_X3_hashOf zk_X9_207 (zo_X3 (zc_X2_0 (zc_X9_3 (zs_X9 ht)))) (by decide) rfl ⟨Nat.le_of_ble_eq_true rfl, Nat.le_of_ble_eq_true rfl⟩ (Nat.le_of_ble_eq_true rfl) (zz_T0 rfl rfl) (fun Q' P' k h => c_X3_hashOf (13) ((x2 ^^^ v4)) M5 (zc_X2_0 (zc_X9_3 (zs_X9 ht))) h (fun r p => k r.1 r.2 p)) h (fun r8 M9 h => ?_)
      have h := zK_pr h
      refine r_ixor dX9_bits_102 ?_
      refine r_istore (fun x10 => [some (.ref 0), some (.int v1), some (.int v2), some (.int v3), some (.int v4), some (.int v5), some (.int v6), some (.int x2), some (.int x10)]) dX9_bits_103 (by decide) rfl (fun _ => rfl) (fun x10 ex10 => ?_)
      have h := zK_bd h ex10
      refine zz_mask [7] ?_
      exact w_X9_bits_105 (v1) (v2) (v3) (v4) (v5) (v6) (x10) M9 ht h k50 kR
noncomputable def j_X9_bits_50 (v1 : Int32) (v2 : Int32) (v3 : Int32) (v4 : Int32) (v5 : Int32) (v6 : Int32) (M : zzMem) : Option (Int32 × zzMem) :=
  zlp (fun s : (Int32 × Int32 × zzMem) => b_X9_bits_50 v1 v2 v3 v4 s.1 s.2.1 s.2.2) (v5, v6, M)
set_option maxHeartbeats 4000000 in
set_option maxRecDepth 100000 in
theorem w_X9_bits_50 {G : zzG} {t : Nat} {Q : Option Value → zzMem → Prop} (v1 : Int32) (v2 : Int32) (v3 : Int32) (v4 : Int32) (v5 : Int32) (v6 : Int32) (M : zzMem) (ht : 180 ≤ t)  {P : (Int32 × zzMem) → Prop} (h : zK (j_X9_bits_50 v1 v2 v3 v4 v5 v6 M) P) (kR : ∀ r : (Int32 × zzMem), P r → Q (some (.int r.1)) r.2) : zz_W G m_X9_bits t t t 50 [some (.ref 0), some (.int v1), some (.int v2), some (.int v3), some (.int v4), some (.int v5), some (.int v6), none, none] [] M Q := by
  unfold j_X9_bits_50 at h
  exact zK_lp h (fun s : (Int32 × Int32 × zzMem) => zz_W G m_X9_bits t t t 50 [some (.ref 0), some (.int v1), some (.int v2), some (.int v3), some (.int v4), some (.int s.1), some (.int s.2.1), none, none] [] s.2.2 Q) (fun s h => x_X9_bits_50 v1 v2 v3 v4 s.1 s.2.1 s.2.2 ht h (fun s p => p) kR)
noncomputable def j_X9_bits_42 (v1 : Int32) (v2 : Int32) (v3 : Int32) (s0 : Int32) (M : zzMem) : Option (Int32 × zzMem) :=
  j_X9_bits_50 v1 v2 v3 s0 (nI 0) (nI 0) M
set_option maxHeartbeats 4000000 in
set_option maxRecDepth 100000 in
theorem w_X9_bits_42 {G : zzG} {t : Nat} {Q : Option Value → zzMem → Prop} (v1 : Int32) (v2 : Int32) (v3 : Int32) (s0 : Int32) (M : zzMem) (ht : 180 ≤ t)  {P : (Int32 × zzMem) → Prop} (h : zK (j_X9_bits_42 v1 v2 v3 s0 M) P) (kR : ∀ r : (Int32 × zzMem), P r → Q (some (.int r.1)) r.2) : zz_W G m_X9_bits t t t 42 [some (.ref 0), some (.int v1), some (.int v2), some (.int v3), none, none, none, none, none] [.int s0] M Q := by
  unfold j_X9_bits_42 at h
  refine s_istore ([some (.ref 0), some (.int v1), some (.int v2), some (.int v3), some (.int s0), none, none, none, none]) dX9_bits_42 (by decide) rfl rfl ?_
  refine r_iconst (v := (nI 0)) dX9_bits_44 (by decide) ?_
  refine s_istore ([some (.ref 0), some (.int v1), some (.int v2), some (.int v3), some (.int s0), some (.int (nI 0)), none, none, none]) dX9_bits_45 (by decide) rfl rfl ?_
  refine r_iconst (v := (nI 0)) dX9_bits_47 (by decide) ?_
  refine s_istore ([some (.ref 0), some (.int v1), some (.int v2), some (.int v3), some (.int s0), some (.int (nI 0)), some (.int (nI 0)), none, none]) dX9_bits_48 (by decide) rfl rfl ?_
  exact w_X9_bits_50 (v1) (v2) (v3) (s0) ((nI 0)) ((nI 0)) M ht h kR
noncomputable def f_X9_bits (a1 : Int32) (a2 : Int32) (a3 : Int32) (M : zzMem) : Option (Int32 × zzMem) :=
  if (f_X9_isKey a1) = true then
  (if (f_X9_within a2 (nI 0) (nI 15)) = true then
  (if (f_X9_within a3 (nI 0) (nI 16)) = true then
  (if a3 = 0 then
  (j_X9_bits_42 a1 a2 a3 (nI 0) M)
  else (j_X9_bits_42 a1 a2 a3 ((nI 1) <<< ((a3 - (nI 1)) &&& 31)) M))
  else (some (((-1 : Int32), M))))
  else (some (((-1 : Int32), M))))
  else (some (((-1 : Int32), M)))
set_option maxHeartbeats 4000000 in
set_option maxRecDepth 100000 in
theorem w_X9_bits_0 {G : zzG} {t : Nat} {Q : Option Value → zzMem → Prop} (a1 : Int32) (a2 : Int32) (a3 : Int32) (M : zzMem) (ht : 180 ≤ t)  {P : (Int32 × zzMem) → Prop} (h : zK (f_X9_bits a1 a2 a3 M) P) (kR : ∀ r : (Int32 × zzMem), P r → Q (some (.int r.1)) r.2) : zz_W G m_X9_bits t t t 0 [some (.ref 0), some (.int a1), some (.int a2), some (.int a3), none, none, none, none, none] [] M Q := by
  unfold f_X9_bits at h
  refine r_iload_n dX9_bits_0 rfl ?_
  refine tS_zr (v := f_X9_isKey a1) (as := [.int a1]) (st := []) dX9_bits_1 zM_X9_isKey zk_X9_149 ⟨Nat.le_of_ble_eq_true rfl, Nat.le_of_ble_eq_true rfl⟩ (Nat.le_of_ble_eq_true rfl) (zz_T0 rfl rfl) (fun Q' h => c_X9_isKey (a1) M h) ?_
  refine r_ifZ_eq 27 dX9_bits_4 (by decide) (fun c1 => ?_) (fun c1 => ?_)
  · have h := zK_neg h c1
    refine r_iconst (v := (-1 : Int32)) dX9_bits_27 (by decide) ?_
    exact r_iret dX9_bits_28 rfl rfl rfl (kR (((-1 : Int32), M)) (zK_some h))
  · have h := zK_pos h c1
    refine r_iload_n dX9_bits_7 rfl ?_
    refine r_iconst (v := (nI 0)) dX9_bits_8 (by decide) ?_
    refine r_bipush (v := (nI 15)) dX9_bits_9 (by decide) ?_
    refine tS_zr (v := f_X9_within a2 (nI 0) (nI 15)) (as := [.int a2, .int (nI 0), .int (nI 15)]) (st := []) dX9_bits_11 zM_X9_within zk_X9_63 ⟨Nat.le_of_ble_eq_true rfl, Nat.le_of_ble_eq_true rfl⟩ (Nat.le_of_ble_eq_true rfl) (zz_T0 rfl rfl) (fun Q' h => c_X9_within (a2) ((nI 0)) ((nI 15)) M h) ?_
    refine r_ifZ_eq 27 dX9_bits_14 (by decide) (fun c2 => ?_) (fun c2 => ?_)
    · have h := zK_neg h c2
      refine r_iconst (v := (-1 : Int32)) dX9_bits_27 (by decide) ?_
      exact r_iret dX9_bits_28 rfl rfl rfl (kR (((-1 : Int32), M)) (zK_some h))
    · have h := zK_pos h c2
      refine r_iload_n dX9_bits_17 rfl ?_
      refine r_iconst (v := (nI 0)) dX9_bits_18 (by decide) ?_
      refine r_bipush (v := (nI 16)) dX9_bits_19 (by decide) ?_
      refine tS_zr (v := f_X9_within a3 (nI 0) (nI 16)) (as := [.int a3, .int (nI 0), .int (nI 16)]) (st := []) dX9_bits_21 zM_X9_within zk_X9_63 ⟨Nat.le_of_ble_eq_true rfl, Nat.le_of_ble_eq_true rfl⟩ (Nat.le_of_ble_eq_true rfl) (zz_T0 rfl rfl) (fun Q' h => c_X9_within (a3) ((nI 0)) ((nI 16)) M h) ?_
      refine r_ifZ_ne 29 dX9_bits_24 (by decide) (fun c3 => ?_) (fun c3 => ?_)
      · have h := zK_pos h c3
        refine r_iload_n dX9_bits_29 rfl ?_
        refine r_if_ne 37 dX9_bits_30 (by decide) (fun c4 => ?_) (fun c4 => ?_)
        · have h := zK_neg h c4
          refine r_iconst (v := (nI 1)) dX9_bits_37 (by decide) ?_
          refine r_iload_n dX9_bits_38 rfl ?_
          refine r_iconst (v := (nI 1)) dX9_bits_39 (by decide) ?_
          refine r_isub dX9_bits_40 ?_
          refine r_ishl dX9_bits_41 ?_
          exact w_X9_bits_42 (a1) (a2) (a3) (((nI 1) <<< ((a3 - (nI 1)) &&& 31))) M ht h kR
        · have h := zK_pos h c4
          refine r_iconst (v := (nI 0)) dX9_bits_33 (by decide) ?_
          refine r_goto 42 dX9_bits_34 (by decide) ?_
          exact w_X9_bits_42 (a1) (a2) (a3) ((nI 0)) M ht h kR
      · have h := zK_neg h c3
        refine r_iconst (v := (-1 : Int32)) dX9_bits_27 (by decide) ?_
        exact r_iret dX9_bits_28 rfl rfl rfl (kR (((-1 : Int32), M)) (zK_some h))
set_option maxHeartbeats 4000000 in
set_option maxRecDepth 100000 in
theorem c_X9_bits {G : zzG} {t : Nat} {Q : Option Value → zzMem → Prop} (a1 : Int32) (a2 : Int32) (a3 : Int32) (M : zzMem) (ht : 180 ≤ t)  {P : (Int32 × zzMem) → Prop} (h : zK (f_X9_bits a1 a2 a3 M) P) (kR : ∀ r : (Int32 × zzMem), P r → Q (some (.int r.1)) r.2) : zz_S G m_X9_bits t t [.ref 0, .int a1, .int a2, .int a3] M Q :=
  zz_S_of (by decide) (by decide) (Nat.le_of_ble_eq_true rfl) (w_X9_bits_0 a1 a2 a3 M ht h kR)
noncomputable def f_X9_scan  (M : zzMem) : Option (Int32 × zzMem) :=
  (f_X6_lowestClosed 29 M).bind (fun r1 =>
  if r1 = (-1 : Int32) then
  (some (((-3 : Int32), M)))
  else ((f_X6_begin 29 r1 M).bind (fun M3 =>
  some ((r1, M3)))))
set_option maxHeartbeats 4000000 in
set_option maxRecDepth 100000 in
theorem w_X9_scan_0 {G : zzG} {t : Nat} {Q : Option Value → zzMem → Prop}  (M : zzMem) (ht : 180 ≤ t)  {P : (Int32 × zzMem) → Prop} (h : zK (f_X9_scan  M) P) (kR : ∀ r : (Int32 × zzMem), P r → Q (some (.int r.1)) r.2) : zz_W G m_X9_scan t t t 0 [some (.ref 0), none] [] M Q := by
  unfold f_X9_scan at h
  refine r_aload_n dX9_scan_0 rfl ?_
  refine r_getR (k := 0) (q := 12) dX9_scan_1 zf_X9_33 (zo_X9 (zs_X9 ht)) (zr_X9_3 (zs_X9 ht)).1 (zr_X9_3 (zs_X9 ht)).2.1 (zr_X9_3 (zs_X9 ht)).2.2 ?_
  refine r_getR (k := 12) (q := 29) dX9_scan_4 zf_X9_348 (zo_X2 (zc_X9_3 (zs_X9 ht))) (zr_X2_3 (zc_X9_3 (zs_X9 ht))).1 (zr_X2_3 (zc_X9_3 (zs_X9 ht))).2.1 (zr_X2_3 (zc_X9_3 (zs_X9 ht))).2.2 ?_
  refine kV_ir (as := []) (st := []) (k := 29) dX9_scan_7 zM_X6_lowestClosed zk_X9_352 (zo_X6 (zc_X2_3 (zc_X9_3 (zs_X9 ht)))) (by decide) rfl ⟨Nat.le_of_ble_eq_true rfl, Nat.le_of_ble_eq_true rfl⟩ (Nat.le_of_ble_eq_true rfl) (zz_T0 rfl rfl) (fun Q' P' k h => c_X6_lowestClosed (29) M (zc_X2_3 (zc_X9_3 (zs_X9 ht))) h k) h (fun r1 h => ?_)
  refine s_istore_n ([some (.ref 0), some (.int r1)]) dX9_scan_10 (by decide) rfl rfl ?_
  refine r_iload_n dX9_scan_11 rfl ?_
  refine r_iconst (v := (-1 : Int32)) dX9_scan_12 (by decide) ?_
  refine r_icmp_ne 19 dX9_scan_13 (by decide) (fun c2 => ?_) (fun c2 => ?_)
  · have h := zK_neg h c2
    refine r_aload_n dX9_scan_19 rfl ?_
    refine r_getR (k := 0) (q := 12) dX9_scan_20 zf_X9_33 (zo_X9 (zs_X9 ht)) (zr_X9_3 (zs_X9 ht)).1 (zr_X9_3 (zs_X9 ht)).2.1 (zr_X9_3 (zs_X9 ht)).2.2 ?_
    refine r_getR (k := 12) (q := 29) dX9_scan_23 zf_X9_348 (zo_X2 (zc_X9_3 (zs_X9 ht))) (zr_X2_3 (zc_X9_3 (zs_X9 ht))).1 (zr_X2_3 (zc_X9_3 (zs_X9 ht))).2.1 (zr_X2_3 (zc_X9_3 (zs_X9 ht))).2.2 ?_
    refine r_iload_n dX9_scan_26 rfl ?_
    refine kV_vw (as := [.int r1]) (st := []) (k := 29) dX9_scan_27 zM_X6_begin zk_X9_357 (zo_X6 (zc_X2_3 (zc_X9_3 (zs_X9 ht)))) (by decide) rfl ⟨Nat.le_of_ble_eq_true rfl, Nat.le_of_ble_eq_true rfl⟩ (Nat.le_of_ble_eq_true rfl) (zz_T0 rfl rfl) (fun Q' P' k h => c_X6_begin (29) (r1) M (zc_X2_3 (zc_X9_3 (zs_X9 ht))) h k) h (fun M3 h => ?_)
    refine r_iload_n dX9_scan_30 rfl ?_
    exact r_iret dX9_scan_31 rfl rfl rfl (kR ((r1, M3)) (zK_some h))
  · have h := zK_pos h c2
    refine r_bipush (v := (-3 : Int32)) dX9_scan_16 (by decide) ?_
    exact r_iret dX9_scan_18 rfl rfl rfl (kR (((-3 : Int32), M)) (zK_some h))
set_option maxHeartbeats 4000000 in
set_option maxRecDepth 100000 in
theorem c_X9_scan {G : zzG} {t : Nat} {Q : Option Value → zzMem → Prop}  (M : zzMem) (ht : 180 ≤ t)  {P : (Int32 × zzMem) → Prop} (h : zK (f_X9_scan  M) P) (kR : ∀ r : (Int32 × zzMem), P r → Q (some (.int r.1)) r.2) : zz_S G m_X9_scan t t [.ref 0] M Q :=
  zz_S_of (by decide) (by decide) (Nat.le_of_ble_eq_true rfl) (w_X9_scan_0  M ht h kR)
noncomputable def f_X9_tell (a1 : Int32) (M : zzMem) : Option (Int32 × zzMem) :=
  (f_X6_isOpen 29 a1 M).bind (fun r1 =>
  if r1 = true then
  (zgd (vp_in a1 4) (
  (f_X2_placeBehind 12 (M.1 31 (a1).toNatClampNeg) M).bind (fun q4 => zpr q4 (fun r5 M6 =>
  if r5 < (M6.1 27 1) then
  ((f_X5_keyAt 27 r5 M6).bind (fun r8 =>
  zbd (zz_si M6 31 (a1).toNatClampNeg r8) (fun M9 =>
  zbd (zz_si M9 30 (a1).toNatClampNeg ((M9.1 30 (a1).toNatClampNeg) + (nI 1))) (fun M10 =>
  some ((r8, M10))))))
  else (some (((-2 : Int32), M6)))))))
  else (some (((-1 : Int32), M))))
set_option maxHeartbeats 4000000 in
set_option maxRecDepth 100000 in
theorem w_X9_tell_0 {G : zzG} {t : Nat} {Q : Option Value → zzMem → Prop} (a1 : Int32) (M : zzMem) (ht : 180 ≤ t)  {P : (Int32 × zzMem) → Prop} (h : zK (f_X9_tell a1 M) P) (kR : ∀ r : (Int32 × zzMem), P r → Q (some (.int r.1)) r.2) : zz_W G m_X9_tell t t t 0 [some (.ref 0), some (.int a1), none, none] [] M Q := by
  unfold f_X9_tell at h
  refine r_aload_n dX9_tell_0 rfl ?_
  refine r_getR (k := 0) (q := 12) dX9_tell_1 zf_X9_33 (zo_X9 (zs_X9 ht)) (zr_X9_3 (zs_X9 ht)).1 (zr_X9_3 (zs_X9 ht)).2.1 (zr_X9_3 (zs_X9 ht)).2.2 ?_
  refine r_getR (k := 12) (q := 29) dX9_tell_4 zf_X9_348 (zo_X2 (zc_X9_3 (zs_X9 ht))) (zr_X2_3 (zc_X9_3 (zs_X9 ht))).1 (zr_X2_3 (zc_X9_3 (zs_X9 ht))).2.1 (zr_X2_3 (zc_X9_3 (zs_X9 ht))).2.2 ?_
  refine r_iload_n dX9_tell_7 rfl ?_
  refine kV_zr (as := [.int a1]) (st := []) (k := 29) dX9_tell_8 zM_X6_isOpen zk_X9_360 (zo_X6 (zc_X2_3 (zc_X9_3 (zs_X9 ht)))) (by decide) rfl ⟨Nat.le_of_ble_eq_true rfl, Nat.le_of_ble_eq_true rfl⟩ (Nat.le_of_ble_eq_true rfl) (zz_T0 rfl rfl) (fun Q' P' k h => c_X6_isOpen (29) (a1) M (zc_X2_3 (zc_X9_3 (zs_X9 ht))) h k) h (fun r1 h => ?_)
  refine r_ifZ_ne 16 dX9_tell_11 (by decide) (fun c2 => ?_) (fun c2 => ?_)
  · have h := zK_pos h c2
    refine r_aload_n dX9_tell_16 rfl ?_
    refine r_getR (k := 0) (q := 12) dX9_tell_17 zf_X9_33 (zo_X9 (zs_X9 ht)) (zr_X9_3 (zs_X9 ht)).1 (zr_X9_3 (zs_X9 ht)).2.1 (zr_X9_3 (zs_X9 ht)).2.2 ?_
    refine r_aload_n dX9_tell_20 rfl ?_
    refine r_getR (k := 0) (q := 12) dX9_tell_21 zf_X9_33 (zo_X9 (zs_X9 ht)) (zr_X9_3 (zs_X9 ht)).1 (zr_X9_3 (zs_X9 ht)).2.1 (zr_X9_3 (zs_X9 ht)).2.2 ?_
    refine r_getR (k := 12) (q := 29) dX9_tell_24 zf_X9_348 (zo_X2 (zc_X9_3 (zs_X9 ht))) (zr_X2_3 (zc_X9_3 (zs_X9 ht))).1 (zr_X2_3 (zc_X9_3 (zs_X9 ht))).2.1 (zr_X2_3 (zc_X9_3 (zs_X9 ht))).2.2 ?_
    refine r_getR (k := 29) (q := 31) dX9_tell_27 zf_X9_363 (zo_X6 (zc_X2_3 (zc_X9_3 (zs_X9 ht)))) (zr_X6_1 (zc_X2_3 (zc_X9_3 (zs_X9 ht)))).1 (zr_X6_1 (zc_X2_3 (zc_X9_3 (zs_X9 ht)))).2.1 (zr_X6_1 (zc_X2_3 (zc_X9_3 (zs_X9 ht)))).2.2 ?_
    refine r_iload_n dX9_tell_30 rfl ?_
    obtain ⟨g3, h⟩ := zK_gd h
    refine r_iald dX9_tell_31 (za_X6_1 (zc_X2_3 (zc_X9_3 (zs_X9 ht)))) g3 ?_
    refine kV_iw (as := [.int (M.1 31 (a1).toNatClampNeg)]) (st := []) (k := 12) dX9_tell_32 zM_X2_placeBehind zk_X9_366 (zo_X2 (zc_X9_3 (zs_X9 ht))) (by decide) rfl ⟨Nat.le_of_ble_eq_true rfl, Nat.le_of_ble_eq_true rfl⟩ (Nat.le_of_ble_eq_true rfl) (zz_T0 rfl rfl) (fun Q' P' k h => c_X2_placeBehind (12) ((M.1 31 (a1).toNatClampNeg)) M (zc_X9_3 (zs_X9 ht)) h (fun r p => k r.1 r.2 p)) h (fun r5 M6 h => ?_)
    have h := zK_pr h
    refine s_istore_n ([some (.ref 0), some (.int a1), some (.int r5), none]) dX9_tell_35 (by decide) rfl rfl ?_
    refine r_iload_n dX9_tell_36 rfl ?_
    refine r_aload_n dX9_tell_37 rfl ?_
    refine r_getR (k := 0) (q := 12) dX9_tell_38 zf_X9_33 (zo_X9 (zs_X9 ht)) (zr_X9_3 (zs_X9 ht)).1 (zr_X9_3 (zs_X9 ht)).2.1 (zr_X9_3 (zs_X9 ht)).2.2 ?_
    refine r_getR (k := 12) (q := 27) dX9_tell_41 zf_X9_77 (zo_X2 (zc_X9_3 (zs_X9 ht))) (zr_X2_2 (zc_X9_3 (zs_X9 ht))).1 (zr_X2_2 (zc_X9_3 (zs_X9 ht))).2.1 (zr_X2_2 (zc_X9_3 (zs_X9 ht))).2.2 ?_
    refine r_getI (k := 27) dX9_tell_44 zf_X9_81 (zo_X5 (zc_X2_2 (zc_X9_3 (zs_X9 ht)))) (zi_X5_1 (zc_X2_2 (zc_X9_3 (zs_X9 ht)))) ?_
    refine r_icmp_lt 53 dX9_tell_47 (by decide) (fun c7 => ?_) (fun c7 => ?_)
    · have h := zK_pos h c7
      refine r_aload_n dX9_tell_53 rfl ?_
      refine r_getR (k := 0) (q := 12) dX9_tell_54 zf_X9_33 (zo_X9 (zs_X9 ht)) (zr_X9_3 (zs_X9 ht)).1 (zr_X9_3 (zs_X9 ht)).2.1 (zr_X9_3 (zs_X9 ht)).2.2 ?_
      refine r_getR (k := 12) (q := 27) dX9_tell_57 zf_X9_77 (zo_X2 (zc_X9_3 (zs_X9 ht))) (zr_X2_2 (zc_X9_3 (zs_X9 ht))).1 (zr_X2_2 (zc_X9_3 (zs_X9 ht))).2.1 (zr_X2_2 (zc_X9_3 (zs_X9 ht))).2.2 ?_
      refine r_iload_n dX9_tell_60 rfl ?_
      refine kV_ir (as := [.int r5]) (st := []) (k := 27) dX9_tell_61 zM_X5_keyAt zk_X9_326 (zo_X5 (zc_X2_2 (zc_X9_3 (zs_X9 ht)))) (by decide) rfl ⟨Nat.le_of_ble_eq_true rfl, Nat.le_of_ble_eq_true rfl⟩ (Nat.le_of_ble_eq_true rfl) (zz_T0 rfl rfl) (fun Q' P' k h => c_X5_keyAt (27) (r5) M6 (zc_X2_2 (zc_X9_3 (zs_X9 ht))) h k) h (fun r8 h => ?_)
      refine s_istore_n ([some (.ref 0), some (.int a1), some (.int r5), some (.int r8)]) dX9_tell_64 (by decide) rfl rfl ?_
      refine r_aload_n dX9_tell_65 rfl ?_
      refine r_getR (k := 0) (q := 12) dX9_tell_66 zf_X9_33 (zo_X9 (zs_X9 ht)) (zr_X9_3 (zs_X9 ht)).1 (zr_X9_3 (zs_X9 ht)).2.1 (zr_X9_3 (zs_X9 ht)).2.2 ?_
      refine r_getR (k := 12) (q := 29) dX9_tell_69 zf_X9_348 (zo_X2 (zc_X9_3 (zs_X9 ht))) (zr_X2_3 (zc_X9_3 (zs_X9 ht))).1 (zr_X2_3 (zc_X9_3 (zs_X9 ht))).2.1 (zr_X2_3 (zc_X9_3 (zs_X9 ht))).2.2 ?_
      refine r_getR (k := 29) (q := 31) dX9_tell_72 zf_X9_363 (zo_X6 (zc_X2_3 (zc_X9_3 (zs_X9 ht)))) (zr_X6_1 (zc_X2_3 (zc_X9_3 (zs_X9 ht)))).1 (zr_X6_1 (zc_X2_3 (zc_X9_3 (zs_X9 ht)))).2.1 (zr_X6_1 (zc_X2_3 (zc_X9_3 (zs_X9 ht)))).2.2 ?_
      refine r_iload_n dX9_tell_75 rfl ?_
      refine r_iload_n dX9_tell_76 rfl ?_
      refine r_iast dX9_tell_77 (za_X6_1 (zc_X2_3 (zc_X9_3 (zs_X9 ht)))) g3 (fun M9 eM9 => ?_)
      have h := zK_bd h eM9
      refine r_aload_n dX9_tell_78 rfl ?_
      refine r_getR (k := 0) (q := 12) dX9_tell_79 zf_X9_33 (zo_X9 (zs_X9 ht)) (zr_X9_3 (zs_X9 ht)).1 (zr_X9_3 (zs_X9 ht)).2.1 (zr_X9_3 (zs_X9 ht)).2.2 ?_
      refine r_getR (k := 12) (q := 29) dX9_tell_82 zf_X9_348 (zo_X2 (zc_X9_3 (zs_X9 ht))) (zr_X2_3 (zc_X9_3 (zs_X9 ht))).1 (zr_X2_3 (zc_X9_3 (zs_X9 ht))).2.1 (zr_X2_3 (zc_X9_3 (zs_X9 ht))).2.2 ?_
      refine r_getR (k := 29) (q := 30) dX9_tell_85 zf_X9_369 (zo_X6 (zc_X2_3 (zc_X9_3 (zs_X9 ht)))) (zr_X6_0 (zc_X2_3 (zc_X9_3 (zs_X9 ht)))).1 (zr_X6_0 (zc_X2_3 (zc_X9_3 (zs_X9 ht)))).2.1 (zr_X6_0 (zc_X2_3 (zc_X9_3 (zs_X9 ht)))).2.2 ?_
      refine r_iload_n dX9_tell_88 rfl ?_
      refine r_dup2 dX9_tell_89 rfl rfl ?_
      refine r_iald dX9_tell_90 (za_X6_0 (zc_X2_3 (zc_X9_3 (zs_X9 ht)))) g3 ?_
      refine r_iconst (v := (nI 1)) dX9_tell_91 (by decide) ?_
      refine r_iadd dX9_tell_92 ?_
      refine r_iast dX9_tell_93 (za_X6_0 (zc_X2_3 (zc_X9_3 (zs_X9 ht)))) g3 (fun M10 eM10 => ?_)
      have h := zK_bd h eM10
      refine r_iload_n dX9_tell_94 rfl ?_
      exact r_iret dX9_tell_95 rfl rfl rfl (kR ((r8, M10)) (zK_some h))
    · have h := zK_neg h c7
      refine r_bipush (v := (-2 : Int32)) dX9_tell_50 (by decide) ?_
      exact r_iret dX9_tell_52 rfl rfl rfl (kR (((-2 : Int32), M6)) (zK_some h))
  · have h := zK_neg h c2
    refine r_iconst (v := (-1 : Int32)) dX9_tell_14 (by decide) ?_
    exact r_iret dX9_tell_15 rfl rfl rfl (kR (((-1 : Int32), M)) (zK_some h))
set_option maxHeartbeats 4000000 in
set_option maxRecDepth 100000 in
theorem c_X9_tell {G : zzG} {t : Nat} {Q : Option Value → zzMem → Prop} (a1 : Int32) (M : zzMem) (ht : 180 ≤ t)  {P : (Int32 × zzMem) → Prop} (h : zK (f_X9_tell a1 M) P) (kR : ∀ r : (Int32 × zzMem), P r → Q (some (.int r.1)) r.2) : zz_S G m_X9_tell t t [.ref 0, .int a1] M Q :=
  zz_S_of (by decide) (by decide) (Nat.le_of_ble_eq_true rfl) (w_X9_tell_0 a1 M ht h kR)
noncomputable def f_X9_scanIs (a1 : Int32) (a2 : Int32) (M : zzMem) : Option (Int32 × zzMem) :=
  (f_X6_isOpen 29 a1 M).bind (fun r1 =>
  if r1 = true then
  (zgd (vp_in a1 4) (
  zbd ((M.1 31 (a1).toNatClampNeg)) (fun x4 =>
  if a2 = (nI 0) then
  (some (((M.1 30 (a1).toNatClampNeg), M)))
  else if a2 = (nI 1) then
  ((f_X2_placeBehind 12 x4 M).bind (fun q7 => zpr q7 (fun r8 M9 =>
  some ((((M.1 27 1) - r8), M9)))))
  else if a2 = (nI 2) then
  (if x4 = (-1 : Int32) then
  (some (((-2 : Int32), M)))
  else (some ((x4, M))))
  else (some (((-1 : Int32), M))))))
  else (some (((-1 : Int32), M))))
set_option maxHeartbeats 4000000 in
set_option maxRecDepth 100000 in
theorem w_X9_scanIs_0 {G : zzG} {t : Nat} {Q : Option Value → zzMem → Prop} (a1 : Int32) (a2 : Int32) (M : zzMem) (ht : 180 ≤ t)  {P : (Int32 × zzMem) → Prop} (h : zK (f_X9_scanIs a1 a2 M) P) (kR : ∀ r : (Int32 × zzMem), P r → Q (some (.int r.1)) r.2) : zz_W G m_X9_scanIs t t t 0 [some (.ref 0), some (.int a1), some (.int a2), none] [] M Q := by
  unfold f_X9_scanIs at h
  refine r_aload_n dX9_scanIs_0 rfl ?_
  refine r_getR (k := 0) (q := 12) dX9_scanIs_1 zf_X9_33 (zo_X9 (zs_X9 ht)) (zr_X9_3 (zs_X9 ht)).1 (zr_X9_3 (zs_X9 ht)).2.1 (zr_X9_3 (zs_X9 ht)).2.2 ?_
  refine r_getR (k := 12) (q := 29) dX9_scanIs_4 zf_X9_348 (zo_X2 (zc_X9_3 (zs_X9 ht))) (zr_X2_3 (zc_X9_3 (zs_X9 ht))).1 (zr_X2_3 (zc_X9_3 (zs_X9 ht))).2.1 (zr_X2_3 (zc_X9_3 (zs_X9 ht))).2.2 ?_
  refine r_iload_n dX9_scanIs_7 rfl ?_
  refine kV_zr (as := [.int a1]) (st := []) (k := 29) dX9_scanIs_8 zM_X6_isOpen zk_X9_360 (zo_X6 (zc_X2_3 (zc_X9_3 (zs_X9 ht)))) (by decide) rfl ⟨Nat.le_of_ble_eq_true rfl, Nat.le_of_ble_eq_true rfl⟩ (Nat.le_of_ble_eq_true rfl) (zz_T0 rfl rfl) (fun Q' P' k h => c_X6_isOpen (29) (a1) M (zc_X2_3 (zc_X9_3 (zs_X9 ht))) h k) h (fun r1 h => ?_)
  refine r_ifZ_ne 16 dX9_scanIs_11 (by decide) (fun c2 => ?_) (fun c2 => ?_)
  · have h := zK_pos h c2
    refine r_aload_n dX9_scanIs_16 rfl ?_
    refine r_getR (k := 0) (q := 12) dX9_scanIs_17 zf_X9_33 (zo_X9 (zs_X9 ht)) (zr_X9_3 (zs_X9 ht)).1 (zr_X9_3 (zs_X9 ht)).2.1 (zr_X9_3 (zs_X9 ht)).2.2 ?_
    refine r_getR (k := 12) (q := 29) dX9_scanIs_20 zf_X9_348 (zo_X2 (zc_X9_3 (zs_X9 ht))) (zr_X2_3 (zc_X9_3 (zs_X9 ht))).1 (zr_X2_3 (zc_X9_3 (zs_X9 ht))).2.1 (zr_X2_3 (zc_X9_3 (zs_X9 ht))).2.2 ?_
    refine r_getR (k := 29) (q := 31) dX9_scanIs_23 zf_X9_363 (zo_X6 (zc_X2_3 (zc_X9_3 (zs_X9 ht)))) (zr_X6_1 (zc_X2_3 (zc_X9_3 (zs_X9 ht)))).1 (zr_X6_1 (zc_X2_3 (zc_X9_3 (zs_X9 ht)))).2.1 (zr_X6_1 (zc_X2_3 (zc_X9_3 (zs_X9 ht)))).2.2 ?_
    refine r_iload_n dX9_scanIs_26 rfl ?_
    obtain ⟨g3, h⟩ := zK_gd h
    refine r_iald dX9_scanIs_27 (za_X6_1 (zc_X2_3 (zc_X9_3 (zs_X9 ht)))) g3 ?_
    refine r_istore_n (fun x4 => [some (.ref 0), some (.int a1), some (.int a2), some (.int x4)]) dX9_scanIs_28 (by decide) rfl (fun _ => rfl) (fun x4 ex4 => ?_)
    have h := zK_bd h ex4
    refine r_iload_n dX9_scanIs_29 rfl ?_
    by_cases c5 : a2 = (nI 0)
    · have h := zK_pos h c5
      refine r_tabIn (off := 26) 56 dX9_scanIs_30 (by rw [c5]; first | done | decide) (by rw [c5]; first | done | decide) (by rw [c5]; first | done | decide) (by decide) ?_
      refine r_aload_n dX9_scanIs_56 rfl ?_
      refine r_getR (k := 0) (q := 12) dX9_scanIs_57 zf_X9_33 (zo_X9 (zs_X9 ht)) (zr_X9_3 (zs_X9 ht)).1 (zr_X9_3 (zs_X9 ht)).2.1 (zr_X9_3 (zs_X9 ht)).2.2 ?_
      refine r_getR (k := 12) (q := 29) dX9_scanIs_60 zf_X9_348 (zo_X2 (zc_X9_3 (zs_X9 ht))) (zr_X2_3 (zc_X9_3 (zs_X9 ht))).1 (zr_X2_3 (zc_X9_3 (zs_X9 ht))).2.1 (zr_X2_3 (zc_X9_3 (zs_X9 ht))).2.2 ?_
      refine r_getR (k := 29) (q := 30) dX9_scanIs_63 zf_X9_369 (zo_X6 (zc_X2_3 (zc_X9_3 (zs_X9 ht)))) (zr_X6_0 (zc_X2_3 (zc_X9_3 (zs_X9 ht)))).1 (zr_X6_0 (zc_X2_3 (zc_X9_3 (zs_X9 ht)))).2.1 (zr_X6_0 (zc_X2_3 (zc_X9_3 (zs_X9 ht)))).2.2 ?_
      refine r_iload_n dX9_scanIs_66 rfl ?_
      refine r_iald dX9_scanIs_67 (za_X6_0 (zc_X2_3 (zc_X9_3 (zs_X9 ht)))) g3 ?_
      exact r_iret dX9_scanIs_68 rfl rfl rfl (kR (((M.1 30 (a1).toNatClampNeg), M)) (zK_some h))
    · have h := zK_neg h c5
      by_cases c6 : a2 = (nI 1)
      · have h := zK_pos h c6
        refine r_tabIn (off := 39) 69 dX9_scanIs_30 (by rw [c6]; first | done | decide) (by rw [c6]; first | done | decide) (by rw [c6]; first | done | decide) (by decide) ?_
        refine r_aload_n dX9_scanIs_69 rfl ?_
        refine r_getR (k := 0) (q := 12) dX9_scanIs_70 zf_X9_33 (zo_X9 (zs_X9 ht)) (zr_X9_3 (zs_X9 ht)).1 (zr_X9_3 (zs_X9 ht)).2.1 (zr_X9_3 (zs_X9 ht)).2.2 ?_
        refine r_getR (k := 12) (q := 27) dX9_scanIs_73 zf_X9_77 (zo_X2 (zc_X9_3 (zs_X9 ht))) (zr_X2_2 (zc_X9_3 (zs_X9 ht))).1 (zr_X2_2 (zc_X9_3 (zs_X9 ht))).2.1 (zr_X2_2 (zc_X9_3 (zs_X9 ht))).2.2 ?_
        refine r_getI (k := 27) dX9_scanIs_76 zf_X9_81 (zo_X5 (zc_X2_2 (zc_X9_3 (zs_X9 ht)))) (zi_X5_1 (zc_X2_2 (zc_X9_3 (zs_X9 ht)))) ?_
        refine r_aload_n dX9_scanIs_79 rfl ?_
        refine r_getR (k := 0) (q := 12) dX9_scanIs_80 zf_X9_33 (zo_X9 (zs_X9 ht)) (zr_X9_3 (zs_X9 ht)).1 (zr_X9_3 (zs_X9 ht)).2.1 (zr_X9_3 (zs_X9 ht)).2.2 ?_
        refine r_iload_n dX9_scanIs_83 rfl ?_
        refine kV_iw (as := [.int x4]) (st := [.int (M.1 27 1)]) (k := 12) dX9_scanIs_84 zM_X2_placeBehind zk_X9_366 (zo_X2 (zc_X9_3 (zs_X9 ht))) (by decide) rfl ⟨Nat.le_of_ble_eq_true rfl, Nat.le_of_ble_eq_true rfl⟩ (Nat.le_of_ble_eq_true rfl) (zz_T0 rfl rfl) (fun Q' P' k h => c_X2_placeBehind (12) (x4) M (zc_X9_3 (zs_X9 ht)) h (fun r p => k r.1 r.2 p)) h (fun r8 M9 h => ?_)
        have h := zK_pr h
        refine r_isub dX9_scanIs_87 ?_
        exact r_iret dX9_scanIs_88 rfl rfl rfl (kR ((((M.1 27 1) - r8), M9)) (zK_some h))
      · have h := zK_neg h c6
        by_cases c10 : a2 = (nI 2)
        · have h := zK_pos h c10
          refine r_tabIn (off := 59) 89 dX9_scanIs_30 (by rw [c10]; first | done | decide) (by rw [c10]; first | done | decide) (by rw [c10]; first | done | decide) (by decide) ?_
          refine r_iload_n dX9_scanIs_89 rfl ?_
          refine r_iconst (v := (-1 : Int32)) dX9_scanIs_90 (by decide) ?_
          refine r_icmp_ne 99 dX9_scanIs_91 (by decide) (fun c11 => ?_) (fun c11 => ?_)
          · have h := zK_neg h c11
            refine r_iload_n dX9_scanIs_99 rfl ?_
            exact r_iret dX9_scanIs_100 rfl rfl rfl (kR ((x4, M)) (zK_some h))
          · have h := zK_pos h c11
            refine r_bipush (v := (-2 : Int32)) dX9_scanIs_94 (by decide) ?_
            refine r_goto 100 dX9_scanIs_96 (by decide) ?_
            exact r_iret dX9_scanIs_100 rfl rfl rfl (kR (((-2 : Int32), M)) (zK_some h))
        · have h := zK_neg h c10
          have hD : zz_W G m_X9_scanIs t t t 101 [some (.ref 0), some (.int a1), some (.int a2), some (.int x4)] [] M Q := by
            refine r_iconst (v := (-1 : Int32)) dX9_scanIs_101 (by decide) ?_
            exact r_iret dX9_scanIs_102 rfl rfl rfl (kR (((-1 : Int32), M)) (zK_some h))
          refine r_tabOut 101 dX9_scanIs_30 (zz_tab_out (n := 3) (fun i hi => ?_) (by decide)) (by decide) hD
          exact match i, hi with
          | 0, _ => fun e => c5 (e.trans (by decide))
          | 1, _ => fun e => c6 (e.trans (by decide))
          | 2, _ => fun e => c10 (e.trans (by decide))
          | k + 3, hk => absurd hk (by omega)
  · have h := zK_neg h c2
    refine r_iconst (v := (-1 : Int32)) dX9_scanIs_14 (by decide) ?_
    exact r_iret dX9_scanIs_15 rfl rfl rfl (kR (((-1 : Int32), M)) (zK_some h))
set_option maxHeartbeats 4000000 in
set_option maxRecDepth 100000 in
theorem c_X9_scanIs {G : zzG} {t : Nat} {Q : Option Value → zzMem → Prop} (a1 : Int32) (a2 : Int32) (M : zzMem) (ht : 180 ≤ t)  {P : (Int32 × zzMem) → Prop} (h : zK (f_X9_scanIs a1 a2 M) P) (kR : ∀ r : (Int32 × zzMem), P r → Q (some (.int r.1)) r.2) : zz_S G m_X9_scanIs t t [.ref 0, .int a1, .int a2] M Q :=
  zz_S_of (by decide) (by decide) (Nat.le_of_ble_eq_true rfl) (w_X9_scanIs_0 a1 a2 M ht h kR)
noncomputable def b_X9_reach_46 (v2 : Int32) (v3 : Int32) (M : zzMem) : Option ((Int32 × Int32 × zzMem) ⊕ (Int32 × zzMem)) :=
  if (M.1 27 1) ≤ v3 then
  (some ((.inr (v2, M))))
  else ((f_X2_hashAt 12 v3 M).bind (fun r2 =>
  (f_X2_addressOf 12 r2 M).bind (fun r3 =>
  zgd (vp_in r3 64) (
  if (M.1 72 (r3).toNatClampNeg) = 0 then
  (zbd (zz_si M 72 (r3).toNatClampNeg (nI 1)) (fun M7 =>
  zbd (v2 + (nI 1)) (fun x8 =>
  zbd (v3 + (nI 1)) (fun x9 =>
  some (.inl (x8, x9, M7))))))
  else (zbd (v3 + (nI 1)) (fun x6 =>
  some (.inl (v2, x6, M))))))))
set_option maxHeartbeats 4000000 in
set_option maxRecDepth 100000 in
theorem x_X9_reach_46 {G : zzG} {t : Nat} {Q : Option Value → zzMem → Prop} (v2 : Int32) (v3 : Int32) (M : zzMem) (ht : 180 ≤ t)  {P : ((Int32 × Int32 × zzMem) ⊕ (Int32 × zzMem)) → Prop} (h : zK (b_X9_reach_46 v2 v3 M) P) (k46 : ∀ s : (Int32 × Int32 × zzMem), P (.inl s) → zz_W G m_X9_reach t t t 46 [some (.ref 0), none, some (.int s.1), some (.int s.2.1), none] [] s.2.2 Q) (kR : ∀ r : (Int32 × zzMem), P (.inr r) → Q (some (.int r.1)) r.2) : zz_W G m_X9_reach t t t 46 [some (.ref 0), none, some (.int v2), some (.int v3), none] [] M Q := by
  unfold b_X9_reach_46 at h
  refine r_iload_n dX9_reach_46 rfl ?_
  refine r_aload_n dX9_reach_47 rfl ?_
  refine r_getR (k := 0) (q := 12) dX9_reach_48 zf_X9_33 (zo_X9 (zs_X9 ht)) (zr_X9_3 (zs_X9 ht)).1 (zr_X9_3 (zs_X9 ht)).2.1 (zr_X9_3 (zs_X9 ht)).2.2 ?_
  refine r_getR (k := 12) (q := 27) dX9_reach_51 zf_X9_77 (zo_X2 (zc_X9_3 (zs_X9 ht))) (zr_X2_2 (zc_X9_3 (zs_X9 ht))).1 (zr_X2_2 (zc_X9_3 (zs_X9 ht))).2.1 (zr_X2_2 (zc_X9_3 (zs_X9 ht))).2.2 ?_
  refine r_getI (k := 27) dX9_reach_54 zf_X9_81 (zo_X5 (zc_X2_2 (zc_X9_3 (zs_X9 ht)))) (zi_X5_1 (zc_X2_2 (zc_X9_3 (zs_X9 ht)))) ?_
  refine r_icmp_ge 104 dX9_reach_57 (by decide) (fun c1 => ?_) (fun c1 => ?_)
  · have h := zK_pos h c1
    refine r_iload_n dX9_reach_104 rfl ?_
    exact r_iret dX9_reach_105 rfl rfl rfl (kR ((v2, M)) (zK_some h))
  · have h := zK_neg h c1
    refine r_aload_n dX9_reach_60 rfl ?_
    refine r_getR (k := 0) (q := 12) dX9_reach_61 zf_X9_33 (zo_X9 (zs_X9 ht)) (zr_X9_3 (zs_X9 ht)).1 (zr_X9_3 (zs_X9 ht)).2.1 (zr_X9_3 (zs_X9 ht)).2.2 ?_
    refine r_aload_n dX9_reach_64 rfl ?_
    refine r_getR (k := 0) (q := 12) dX9_reach_65 zf_X9_33 (zo_X9 (zs_X9 ht)) (zr_X9_3 (zs_X9 ht)).1 (zr_X9_3 (zs_X9 ht)).2.1 (zr_X9_3 (zs_X9 ht)).2.2 ?_
    refine r_iload_n dX9_reach_68 rfl ?_
    refine kV_ir (as := [.int v3]) (st := [.ref 12]) (k := 12) dX9_reach_69 zM_X2_hashAt zk_X9_300 (zo_X2 (zc_X9_3 (zs_X9 ht))) (by decide) rfl ⟨Nat.le_of_ble_eq_true rfl, Nat.le_of_ble_eq_true rfl⟩ (Nat.le_of_ble_eq_true rfl) (zz_T0 rfl rfl) (fun Q' P' k h => c_X2_hashAt (12) (v3) M (zc_X9_3 (zs_X9 ht)) h k) h (fun r2 h => ?_)
    refine kV_ir (as := [.int r2]) (st := []) (k := 12) dX9_reach_72 zM_X2_addressOf zk_X9_210 (zo_X2 (zc_X9_3 (zs_X9 ht))) (by decide) rfl ⟨Nat.le_of_ble_eq_true rfl, Nat.le_of_ble_eq_true rfl⟩ (Nat.le_of_ble_eq_true rfl) (zz_T0 rfl rfl) (fun Q' P' k h => c_X2_addressOf (12) (r2) M (zc_X9_3 (zs_X9 ht)) h k) h (fun r3 h => ?_)
    refine s_istore ([some (.ref 0), none, some (.int v2), some (.int v3), some (.int r3)]) dX9_reach_75 (by decide) rfl rfl ?_
    refine r_aload_n dX9_reach_77 rfl ?_
    refine r_getR (k := 0) (q := 72) dX9_reach_78 zf_X9_43 (zo_X9 (zs_X9 ht)) (zr_X9_6 (zs_X9 ht)).1 (zr_X9_6 (zs_X9 ht)).2.1 (zr_X9_6 (zs_X9 ht)).2.2 ?_
    refine r_iload dX9_reach_81 rfl ?_
    obtain ⟨g4, h⟩ := zK_gd h
    refine r_iald dX9_reach_83 (za_X9_6 (zs_X9 ht)) g4 ?_
    refine r_if_ne 98 dX9_reach_84 (by decide) (fun c5 => ?_) (fun c5 => ?_)
    · have h := zK_neg h c5
      refine r_iinc (nI 1) (fun x6 => [some (.ref 0), none, some (.int v2), some (.int x6), some (.int r3)]) dX9_reach_98 rfl (by decide) (by decide) rfl (fun _ => rfl) (fun x6 ex6 => ?_)
      have h := zK_bd h ex6
      refine r_goto 46 dX9_reach_101 (by decide) ?_
      refine zz_mask [4] ?_
      exact k46 ((v2, x6, M)) (zK_some h)
    · have h := zK_pos h c5
      refine r_aload_n dX9_reach_87 rfl ?_
      refine r_getR (k := 0) (q := 72) dX9_reach_88 zf_X9_43 (zo_X9 (zs_X9 ht)) (zr_X9_6 (zs_X9 ht)).1 (zr_X9_6 (zs_X9 ht)).2.1 (zr_X9_6 (zs_X9 ht)).2.2 ?_
      refine r_iload dX9_reach_91 rfl ?_
      refine r_iconst (v := (nI 1)) dX9_reach_93 (by decide) ?_
      refine r_iast dX9_reach_94 (za_X9_6 (zs_X9 ht)) g4 (fun M7 eM7 => ?_)
      have h := zK_bd h eM7
      refine r_iinc (nI 1) (fun x8 => [some (.ref 0), none, some (.int x8), some (.int v3), some (.int r3)]) dX9_reach_95 rfl (by decide) (by decide) rfl (fun _ => rfl) (fun x8 ex8 => ?_)
      have h := zK_bd h ex8
      refine r_iinc (nI 1) (fun x9 => [some (.ref 0), none, some (.int x8), some (.int x9), some (.int r3)]) dX9_reach_98 rfl (by decide) (by decide) rfl (fun _ => rfl) (fun x9 ex9 => ?_)
      have h := zK_bd h ex9
      refine r_goto 46 dX9_reach_101 (by decide) ?_
      refine zz_mask [4] ?_
      exact k46 ((x8, x9, M7)) (zK_some h)
noncomputable def j_X9_reach_46 (v2 : Int32) (v3 : Int32) (M : zzMem) : Option (Int32 × zzMem) :=
  zlp (fun s : (Int32 × Int32 × zzMem) => b_X9_reach_46 s.1 s.2.1 s.2.2) (v2, v3, M)
set_option maxHeartbeats 4000000 in
set_option maxRecDepth 100000 in
theorem w_X9_reach_46 {G : zzG} {t : Nat} {Q : Option Value → zzMem → Prop} (v2 : Int32) (v3 : Int32) (M : zzMem) (ht : 180 ≤ t)  {P : (Int32 × zzMem) → Prop} (h : zK (j_X9_reach_46 v2 v3 M) P) (kR : ∀ r : (Int32 × zzMem), P r → Q (some (.int r.1)) r.2) : zz_W G m_X9_reach t t t 46 [some (.ref 0), none, some (.int v2), some (.int v3), none] [] M Q := by
  unfold j_X9_reach_46 at h
  exact zK_lp h (fun s : (Int32 × Int32 × zzMem) => zz_W G m_X9_reach t t t 46 [some (.ref 0), none, some (.int s.1), some (.int s.2.1), none] [] s.2.2 Q) (fun s h => x_X9_reach_46 s.1 s.2.1 s.2.2 ht h (fun s p => p) kR)
noncomputable def f_X9_reach (a1 : Int32) (M : zzMem) : Option (Int32 × zzMem) :=
  (f_X6_isOpen 29 a1 M).bind (fun r1 =>
  if r1 = true then
  ((f_J7_fill_53178 72 64 (nI 0) M).bind (fun M3 =>
  zgd (vp_in a1 4) (
  (f_X2_placeBehind 12 (M3.1 31 (a1).toNatClampNeg) M3).bind (fun q5 => zpr q5 (fun r6 M7 =>
  j_X9_reach_46 (nI 0) r6 M7)))))
  else (some (((-1 : Int32), M))))
set_option maxHeartbeats 4000000 in
set_option maxRecDepth 100000 in
theorem w_X9_reach_0 {G : zzG} {t : Nat} {Q : Option Value → zzMem → Prop} (a1 : Int32) (M : zzMem) (ht : 180 ≤ t)  {P : (Int32 × zzMem) → Prop} (h : zK (f_X9_reach a1 M) P) (kR : ∀ r : (Int32 × zzMem), P r → Q (some (.int r.1)) r.2) : zz_W G m_X9_reach t t t 0 [some (.ref 0), some (.int a1), none, none, none] [] M Q := by
  unfold f_X9_reach at h
  refine r_aload_n dX9_reach_0 rfl ?_
  refine r_getR (k := 0) (q := 12) dX9_reach_1 zf_X9_33 (zo_X9 (zs_X9 ht)) (zr_X9_3 (zs_X9 ht)).1 (zr_X9_3 (zs_X9 ht)).2.1 (zr_X9_3 (zs_X9 ht)).2.2 ?_
  refine r_getR (k := 12) (q := 29) dX9_reach_4 zf_X9_348 (zo_X2 (zc_X9_3 (zs_X9 ht))) (zr_X2_3 (zc_X9_3 (zs_X9 ht))).1 (zr_X2_3 (zc_X9_3 (zs_X9 ht))).2.1 (zr_X2_3 (zc_X9_3 (zs_X9 ht))).2.2 ?_
  refine r_iload_n dX9_reach_7 rfl ?_
  refine kV_zr (as := [.int a1]) (st := []) (k := 29) dX9_reach_8 zM_X6_isOpen zk_X9_360 (zo_X6 (zc_X2_3 (zc_X9_3 (zs_X9 ht)))) (by decide) rfl ⟨Nat.le_of_ble_eq_true rfl, Nat.le_of_ble_eq_true rfl⟩ (Nat.le_of_ble_eq_true rfl) (zz_T0 rfl rfl) (fun Q' P' k h => c_X6_isOpen (29) (a1) M (zc_X2_3 (zc_X9_3 (zs_X9 ht))) h k) h (fun r1 h => ?_)
  refine r_ifZ_ne 16 dX9_reach_11 (by decide) (fun c2 => ?_) (fun c2 => ?_)
  · have h := zK_pos h c2
    refine r_aload_n dX9_reach_16 rfl ?_
    refine r_getR (k := 0) (q := 72) dX9_reach_17 zf_X9_43 (zo_X9 (zs_X9 ht)) (zr_X9_6 (zs_X9 ht)).1 (zr_X9_6 (zs_X9 ht)).2.1 (zr_X9_6 (zs_X9 ht)).2.2 ?_
    refine r_iconst (v := (nI 0)) dX9_reach_20 (by decide) ?_
    refine kS_vw (as := [.ref 72, .int (nI 0)]) (st := []) dX9_reach_21 zM_J7_fill_53178 zk_X9_292 ⟨Nat.le_of_ble_eq_true rfl, Nat.le_of_ble_eq_true rfl⟩ (Nat.le_of_ble_eq_true rfl) (zz_T0 rfl rfl) (fun Q' P' k h => c_J7_fill_53178 (72) (64) ((nI 0)) M (za_X9_6 (zs_X9 ht)) h k) h (fun M3 h => ?_)
    refine r_iconst (v := (nI 0)) dX9_reach_24 (by decide) ?_
    refine s_istore_n ([some (.ref 0), some (.int a1), some (.int (nI 0)), none, none]) dX9_reach_25 (by decide) rfl rfl ?_
    refine r_aload_n dX9_reach_26 rfl ?_
    refine r_getR (k := 0) (q := 12) dX9_reach_27 zf_X9_33 (zo_X9 (zs_X9 ht)) (zr_X9_3 (zs_X9 ht)).1 (zr_X9_3 (zs_X9 ht)).2.1 (zr_X9_3 (zs_X9 ht)).2.2 ?_
    refine r_aload_n dX9_reach_30 rfl ?_
    refine r_getR (k := 0) (q := 12) dX9_reach_31 zf_X9_33 (zo_X9 (zs_X9 ht)) (zr_X9_3 (zs_X9 ht)).1 (zr_X9_3 (zs_X9 ht)).2.1 (zr_X9_3 (zs_X9 ht)).2.2 ?_
    refine r_getR (k := 12) (q := 29) dX9_reach_34 zf_X9_348 (zo_X2 (zc_X9_3 (zs_X9 ht))) (zr_X2_3 (zc_X9_3 (zs_X9 ht))).1 (zr_X2_3 (zc_X9_3 (zs_X9 ht))).2.1 (zr_X2_3 (zc_X9_3 (zs_X9 ht))).2.2 ?_
    refine r_getR (k := 29) (q := 31) dX9_reach_37 zf_X9_363 (zo_X6 (zc_X2_3 (zc_X9_3 (zs_X9 ht)))) (zr_X6_1 (zc_X2_3 (zc_X9_3 (zs_X9 ht)))).1 (zr_X6_1 (zc_X2_3 (zc_X9_3 (zs_X9 ht)))).2.1 (zr_X6_1 (zc_X2_3 (zc_X9_3 (zs_X9 ht)))).2.2 ?_
    refine r_iload_n dX9_reach_40 rfl ?_
    obtain ⟨g4, h⟩ := zK_gd h
    refine r_iald dX9_reach_41 (za_X6_1 (zc_X2_3 (zc_X9_3 (zs_X9 ht)))) g4 ?_
    refine kV_iw (as := [.int (M3.1 31 (a1).toNatClampNeg)]) (st := []) (k := 12) dX9_reach_42 zM_X2_placeBehind zk_X9_366 (zo_X2 (zc_X9_3 (zs_X9 ht))) (by decide) rfl ⟨Nat.le_of_ble_eq_true rfl, Nat.le_of_ble_eq_true rfl⟩ (Nat.le_of_ble_eq_true rfl) (zz_T0 rfl rfl) (fun Q' P' k h => c_X2_placeBehind (12) ((M3.1 31 (a1).toNatClampNeg)) M3 (zc_X9_3 (zs_X9 ht)) h (fun r p => k r.1 r.2 p)) h (fun r6 M7 h => ?_)
    have h := zK_pr h
    refine s_istore_n ([some (.ref 0), some (.int a1), some (.int (nI 0)), some (.int r6), none]) dX9_reach_45 (by decide) rfl rfl ?_
    refine zz_mask [1] ?_
    exact w_X9_reach_46 ((nI 0)) (r6) M7 ht h kR
  · have h := zK_neg h c2
    refine r_iconst (v := (-1 : Int32)) dX9_reach_14 (by decide) ?_
    exact r_iret dX9_reach_15 rfl rfl rfl (kR (((-1 : Int32), M)) (zK_some h))
set_option maxHeartbeats 4000000 in
set_option maxRecDepth 100000 in
theorem c_X9_reach {G : zzG} {t : Nat} {Q : Option Value → zzMem → Prop} (a1 : Int32) (M : zzMem) (ht : 180 ≤ t)  {P : (Int32 × zzMem) → Prop} (h : zK (f_X9_reach a1 M) P) (kR : ∀ r : (Int32 × zzMem), P r → Q (some (.int r.1)) r.2) : zz_S G m_X9_reach t t [.ref 0, .int a1] M Q :=
  zz_S_of (by decide) (by decide) (Nat.le_of_ble_eq_true rfl) (w_X9_reach_0 a1 M ht h kR)
noncomputable def f_X9_ends (a1 : Int32) (M : zzMem) : Option (Int32 × zzMem) :=
  (f_X6_isOpen 29 a1 M).bind (fun r1 =>
  if r1 = true then
  (zgd (vp_in a1 4) (
  zbd ((M.1 30 (a1).toNatClampNeg)) (fun x4 =>
  (f_X6_close 29 a1 M).bind (fun M5 =>
  some ((x4, M5))))))
  else (some (((-1 : Int32), M))))
set_option maxHeartbeats 4000000 in
set_option maxRecDepth 100000 in
theorem w_X9_ends_0 {G : zzG} {t : Nat} {Q : Option Value → zzMem → Prop} (a1 : Int32) (M : zzMem) (ht : 180 ≤ t)  {P : (Int32 × zzMem) → Prop} (h : zK (f_X9_ends a1 M) P) (kR : ∀ r : (Int32 × zzMem), P r → Q (some (.int r.1)) r.2) : zz_W G m_X9_ends t t t 0 [some (.ref 0), some (.int a1), none] [] M Q := by
  unfold f_X9_ends at h
  refine r_aload_n dX9_ends_0 rfl ?_
  refine r_getR (k := 0) (q := 12) dX9_ends_1 zf_X9_33 (zo_X9 (zs_X9 ht)) (zr_X9_3 (zs_X9 ht)).1 (zr_X9_3 (zs_X9 ht)).2.1 (zr_X9_3 (zs_X9 ht)).2.2 ?_
  refine r_getR (k := 12) (q := 29) dX9_ends_4 zf_X9_348 (zo_X2 (zc_X9_3 (zs_X9 ht))) (zr_X2_3 (zc_X9_3 (zs_X9 ht))).1 (zr_X2_3 (zc_X9_3 (zs_X9 ht))).2.1 (zr_X2_3 (zc_X9_3 (zs_X9 ht))).2.2 ?_
  refine r_iload_n dX9_ends_7 rfl ?_
  refine kV_zr (as := [.int a1]) (st := []) (k := 29) dX9_ends_8 zM_X6_isOpen zk_X9_360 (zo_X6 (zc_X2_3 (zc_X9_3 (zs_X9 ht)))) (by decide) rfl ⟨Nat.le_of_ble_eq_true rfl, Nat.le_of_ble_eq_true rfl⟩ (Nat.le_of_ble_eq_true rfl) (zz_T0 rfl rfl) (fun Q' P' k h => c_X6_isOpen (29) (a1) M (zc_X2_3 (zc_X9_3 (zs_X9 ht))) h k) h (fun r1 h => ?_)
  refine r_ifZ_ne 16 dX9_ends_11 (by decide) (fun c2 => ?_) (fun c2 => ?_)
  · have h := zK_pos h c2
    refine r_aload_n dX9_ends_16 rfl ?_
    refine r_getR (k := 0) (q := 12) dX9_ends_17 zf_X9_33 (zo_X9 (zs_X9 ht)) (zr_X9_3 (zs_X9 ht)).1 (zr_X9_3 (zs_X9 ht)).2.1 (zr_X9_3 (zs_X9 ht)).2.2 ?_
    refine r_getR (k := 12) (q := 29) dX9_ends_20 zf_X9_348 (zo_X2 (zc_X9_3 (zs_X9 ht))) (zr_X2_3 (zc_X9_3 (zs_X9 ht))).1 (zr_X2_3 (zc_X9_3 (zs_X9 ht))).2.1 (zr_X2_3 (zc_X9_3 (zs_X9 ht))).2.2 ?_
    refine r_getR (k := 29) (q := 30) dX9_ends_23 zf_X9_369 (zo_X6 (zc_X2_3 (zc_X9_3 (zs_X9 ht)))) (zr_X6_0 (zc_X2_3 (zc_X9_3 (zs_X9 ht)))).1 (zr_X6_0 (zc_X2_3 (zc_X9_3 (zs_X9 ht)))).2.1 (zr_X6_0 (zc_X2_3 (zc_X9_3 (zs_X9 ht)))).2.2 ?_
    refine r_iload_n dX9_ends_26 rfl ?_
    obtain ⟨g3, h⟩ := zK_gd h
    refine r_iald dX9_ends_27 (za_X6_0 (zc_X2_3 (zc_X9_3 (zs_X9 ht)))) g3 ?_
    refine r_istore_n (fun x4 => [some (.ref 0), some (.int a1), some (.int x4)]) dX9_ends_28 (by decide) rfl (fun _ => rfl) (fun x4 ex4 => ?_)
    have h := zK_bd h ex4
    refine r_aload_n dX9_ends_29 rfl ?_
    refine r_getR (k := 0) (q := 12) dX9_ends_30 zf_X9_33 (zo_X9 (zs_X9 ht)) (zr_X9_3 (zs_X9 ht)).1 (zr_X9_3 (zs_X9 ht)).2.1 (zr_X9_3 (zs_X9 ht)).2.2 ?_
    refine r_getR (k := 12) (q := 29) dX9_ends_33 zf_X9_348 (zo_X2 (zc_X9_3 (zs_X9 ht))) (zr_X2_3 (zc_X9_3 (zs_X9 ht))).1 (zr_X2_3 (zc_X9_3 (zs_X9 ht))).2.1 (zr_X2_3 (zc_X9_3 (zs_X9 ht))).2.2 ?_
    refine r_iload_n dX9_ends_36 rfl ?_
    refine kV_vw (as := [.int a1]) (st := []) (k := 29) dX9_ends_37 zM_X6_close zk_X9_372 (zo_X6 (zc_X2_3 (zc_X9_3 (zs_X9 ht)))) (by decide) rfl ⟨Nat.le_of_ble_eq_true rfl, Nat.le_of_ble_eq_true rfl⟩ (Nat.le_of_ble_eq_true rfl) (zz_T0 rfl rfl) (fun Q' P' k h => c_X6_close (29) (a1) M (zc_X2_3 (zc_X9_3 (zs_X9 ht))) h k) h (fun M5 h => ?_)
    refine r_iload_n dX9_ends_40 rfl ?_
    exact r_iret dX9_ends_41 rfl rfl rfl (kR ((x4, M5)) (zK_some h))
  · have h := zK_neg h c2
    refine r_iconst (v := (-1 : Int32)) dX9_ends_14 (by decide) ?_
    exact r_iret dX9_ends_15 rfl rfl rfl (kR (((-1 : Int32), M)) (zK_some h))
set_option maxHeartbeats 4000000 in
set_option maxRecDepth 100000 in
theorem c_X9_ends {G : zzG} {t : Nat} {Q : Option Value → zzMem → Prop} (a1 : Int32) (M : zzMem) (ht : 180 ≤ t)  {P : (Int32 × zzMem) → Prop} (h : zK (f_X9_ends a1 M) P) (kR : ∀ r : (Int32 × zzMem), P r → Q (some (.int r.1)) r.2) : zz_S G m_X9_ends t t [.ref 0, .int a1] M Q :=
  zz_S_of (by decide) (by decide) (Nat.le_of_ble_eq_true rfl) (w_X9_ends_0 a1 M ht h kR)
noncomputable def f_X9_seed (a1 : Int32) (M : zzMem) : Option (Bool × zzMem) :=
  if (f_X9_within a1 (nI 0) (nI 65535)) = true then
  (zbd (zz_si M 12 14 a1) (fun M2 =>
  some ((true, M2))))
  else (some ((false, M)))
set_option maxHeartbeats 4000000 in
set_option maxRecDepth 100000 in
theorem w_X9_seed_0 {G : zzG} {t : Nat} {Q : Option Value → zzMem → Prop} (a1 : Int32) (M : zzMem) (ht : 180 ≤ t)  {P : (Bool × zzMem) → Prop} (h : zK (f_X9_seed a1 M) P) (kR : ∀ r : (Bool × zzMem), P r → Q (some (.int (zb r.1))) r.2) : zz_W G m_X9_seed t t t 0 [some (.ref 0), some (.int a1)] [] M Q := by
  unfold f_X9_seed at h
  refine r_iload_n dX9_seed_0 rfl ?_
  refine r_iconst (v := (nI 0)) dX9_seed_1 (by decide) ?_
  refine r_ldc (v := (nI 65535)) dX9_seed_2 zd_X9_148 ?_
  refine tS_zr (v := f_X9_within a1 (nI 0) (nI 65535)) (as := [.int a1, .int (nI 0), .int (nI 65535)]) (st := []) dX9_seed_4 zM_X9_within zk_X9_63 ⟨Nat.le_of_ble_eq_true rfl, Nat.le_of_ble_eq_true rfl⟩ (Nat.le_of_ble_eq_true rfl) (zz_T0 rfl rfl) (fun Q' h => c_X9_within (a1) ((nI 0)) ((nI 65535)) M h) ?_
  refine r_ifZ_ne 12 dX9_seed_7 (by decide) (fun c1 => ?_) (fun c1 => ?_)
  · have h := zK_pos h c1
    refine r_aload_n dX9_seed_12 rfl ?_
    refine r_getR (k := 0) (q := 12) dX9_seed_13 zf_X9_33 (zo_X9 (zs_X9 ht)) (zr_X9_3 (zs_X9 ht)).1 (zr_X9_3 (zs_X9 ht)).2.1 (zr_X9_3 (zs_X9 ht)).2.2 ?_
    refine r_iload_n dX9_seed_16 rfl ?_
    refine r_putQ (k := 12) dX9_seed_17 zp_X9_375 (zo_X2 (zc_X9_3 (zs_X9 ht))) (zi_X2_14 (zc_X9_3 (zs_X9 ht))) rfl rfl (fun M2 eM2 => ?_)
    have h := zK_bd h eM2
    refine r_iconst (v := (nI 1)) dX9_seed_20 (by decide) ?_
    exact r_zret (b := true) dX9_seed_21 rfl rfl rfl (kR ((true, M2)) (zK_some h))
  · have h := zK_neg h c1
    refine r_iconst (v := (nI 0)) dX9_seed_10 (by decide) ?_
    exact r_zret (b := false) dX9_seed_11 rfl rfl rfl (kR ((false, M)) (zK_some h))
set_option maxHeartbeats 4000000 in
set_option maxRecDepth 100000 in
theorem c_X9_seed {G : zzG} {t : Nat} {Q : Option Value → zzMem → Prop} (a1 : Int32) (M : zzMem) (ht : 180 ≤ t)  {P : (Bool × zzMem) → Prop} (h : zK (f_X9_seed a1 M) P) (kR : ∀ r : (Bool × zzMem), P r → Q (some (.int (zb r.1))) r.2) : zz_S G m_X9_seed t t [.ref 0, .int a1] M Q :=
  zz_S_of (by decide) (by decide) (Nat.le_of_ble_eq_true rfl) (w_X9_seed_0 a1 M ht h kR)
noncomputable def f_X9_keep  (M : zzMem) : Option (Int32 × zzMem) :=
  (f_X2_copyFrom 32 12 M).bind (fun M1 =>
  zbd (zz_si M1 0 7 (nI 1)) (fun M2 =>
  some (((M2.1 27 1), M2))))
set_option maxHeartbeats 4000000 in
set_option maxRecDepth 100000 in
theorem w_X9_keep_0 {G : zzG} {t : Nat} {Q : Option Value → zzMem → Prop}  (M : zzMem) (ht : 180 ≤ t)  {P : (Int32 × zzMem) → Prop} (h : zK (f_X9_keep  M) P) (kR : ∀ r : (Int32 × zzMem), P r → Q (some (.int r.1)) r.2) : zz_W G m_X9_keep t t t 0 [some (.ref 0)] [] M Q := by
  unfold f_X9_keep at h
  refine r_aload_n dX9_keep_0 rfl ?_
  refine r_getR (k := 0) (q := 32) dX9_keep_1 zf_X9_37 (zo_X9 (zs_X9 ht)) (zr_X9_4 (zs_X9 ht)).1 (zr_X9_4 (zs_X9 ht)).2.1 (zr_X9_4 (zs_X9 ht)).2.2 ?_
  refine r_aload_n dX9_keep_4 rfl ?_
  refine r_getR (k := 0) (q := 12) dX9_keep_5 zf_X9_33 (zo_X9 (zs_X9 ht)) (zr_X9_3 (zs_X9 ht)).1 (zr_X9_3 (zs_X9 ht)).2.1 (zr_X9_3 (zs_X9 ht)).2.2 ?_
  refine kV_vw (as := [.ref 12]) (st := []) (k := 32) dX9_keep_8 zM_X2_copyFrom zk_X9_313 (zo_X2 (zc_X9_4 (zs_X9 ht))) (by decide) rfl ⟨Nat.le_of_ble_eq_true rfl, Nat.le_of_ble_eq_true rfl⟩ (Nat.le_of_ble_eq_true rfl) (zz_T0 rfl rfl) (fun Q' P' k h => c_X2_copyFrom (32) (12) M (zc_X9_4 (zs_X9 ht)) (zc_X9_3 (zs_X9 ht)) h k) h (fun M1 h => ?_)
  refine r_aload_n dX9_keep_11 rfl ?_
  refine r_iconst (v := (nI 1)) dX9_keep_12 (by decide) ?_
  refine r_putI (k := 0) dX9_keep_13 zp_X9_47 (zo_X9 (zs_X9 ht)) (zi_X9_7 (zs_X9 ht)) rfl rfl (fun M2 eM2 => ?_)
  have h := zK_bd h eM2
  refine r_aload_n dX9_keep_16 rfl ?_
  refine r_getR (k := 0) (q := 12) dX9_keep_17 zf_X9_33 (zo_X9 (zs_X9 ht)) (zr_X9_3 (zs_X9 ht)).1 (zr_X9_3 (zs_X9 ht)).2.1 (zr_X9_3 (zs_X9 ht)).2.2 ?_
  refine r_getR (k := 12) (q := 27) dX9_keep_20 zf_X9_77 (zo_X2 (zc_X9_3 (zs_X9 ht))) (zr_X2_2 (zc_X9_3 (zs_X9 ht))).1 (zr_X2_2 (zc_X9_3 (zs_X9 ht))).2.1 (zr_X2_2 (zc_X9_3 (zs_X9 ht))).2.2 ?_
  refine r_getI (k := 27) dX9_keep_23 zf_X9_81 (zo_X5 (zc_X2_2 (zc_X9_3 (zs_X9 ht)))) (zi_X5_1 (zc_X2_2 (zc_X9_3 (zs_X9 ht)))) ?_
  exact r_iret dX9_keep_26 rfl rfl rfl (kR (((M2.1 27 1), M2)) (zK_some h))
set_option maxHeartbeats 4000000 in
set_option maxRecDepth 100000 in
theorem c_X9_keep {G : zzG} {t : Nat} {Q : Option Value → zzMem → Prop}  (M : zzMem) (ht : 180 ≤ t)  {P : (Int32 × zzMem) → Prop} (h : zK (f_X9_keep  M) P) (kR : ∀ r : (Int32 × zzMem), P r → Q (some (.int r.1)) r.2) : zz_S G m_X9_keep t t [.ref 0] M Q :=
  zz_S_of (by decide) (by decide) (Nat.le_of_ble_eq_true rfl) (w_X9_keep_0  M ht h kR)
noncomputable def j_X9_undo_18  (M : zzMem) : Option (Bool × zzMem) :=
  zgd ((M.1 0 7) = 0 ∨ (M.1 0 7) = 1) (
  some (((decide ((M.1 0 7) = 1)), M)))
set_option maxHeartbeats 4000000 in
set_option maxRecDepth 100000 in
theorem w_X9_undo_18 {G : zzG} {t : Nat} {Q : Option Value → zzMem → Prop}  (M : zzMem) (ht : 180 ≤ t)  {P : (Bool × zzMem) → Prop} (h : zK (j_X9_undo_18  M) P) (kR : ∀ r : (Bool × zzMem), P r → Q (some (.int (zb r.1))) r.2) : zz_W G m_X9_undo t t t 18 [some (.ref 0)] [] M Q := by
  unfold j_X9_undo_18 at h
  refine r_aload_n dX9_undo_18 rfl ?_
  refine r_getI (k := 0) dX9_undo_19 zf_X9_47 (zo_X9 (zs_X9 ht)) (zi_X9_7 (zs_X9 ht)) ?_
  obtain ⟨g1, h⟩ := zK_gd h
  rw [show (M.1 0 7) = zb (decide ((M.1 0 7) = 1)) by rcases g1 with e | e <;> rw [e] <;> decide]
  exact r_zret (b := (decide ((M.1 0 7) = 1))) dX9_undo_22 rfl rfl rfl (kR (((decide ((M.1 0 7) = 1)), M)) (zK_some h))
noncomputable def f_X9_undo  (M : zzMem) : Option (Bool × zzMem) :=
  if (M.1 0 7) = 0 then
  (j_X9_undo_18  M)
  else ((f_X2_copyFrom 12 32 M).bind (fun M2 =>
  j_X9_undo_18  M2))
set_option maxHeartbeats 4000000 in
set_option maxRecDepth 100000 in
theorem w_X9_undo_0 {G : zzG} {t : Nat} {Q : Option Value → zzMem → Prop}  (M : zzMem) (ht : 180 ≤ t)  {P : (Bool × zzMem) → Prop} (h : zK (f_X9_undo  M) P) (kR : ∀ r : (Bool × zzMem), P r → Q (some (.int (zb r.1))) r.2) : zz_W G m_X9_undo t t t 0 [some (.ref 0)] [] M Q := by
  unfold f_X9_undo at h
  refine r_aload_n dX9_undo_0 rfl ?_
  refine r_getI (k := 0) dX9_undo_1 zf_X9_47 (zo_X9 (zs_X9 ht)) (zi_X9_7 (zs_X9 ht)) ?_
  refine r_if_eq 18 dX9_undo_4 (by decide) (fun c1 => ?_) (fun c1 => ?_)
  · have h := zK_pos h c1
    exact w_X9_undo_18  M ht h kR
  · have h := zK_neg h c1
    refine r_aload_n dX9_undo_7 rfl ?_
    refine r_getR (k := 0) (q := 12) dX9_undo_8 zf_X9_33 (zo_X9 (zs_X9 ht)) (zr_X9_3 (zs_X9 ht)).1 (zr_X9_3 (zs_X9 ht)).2.1 (zr_X9_3 (zs_X9 ht)).2.2 ?_
    refine r_aload_n dX9_undo_11 rfl ?_
    refine r_getR (k := 0) (q := 32) dX9_undo_12 zf_X9_37 (zo_X9 (zs_X9 ht)) (zr_X9_4 (zs_X9 ht)).1 (zr_X9_4 (zs_X9 ht)).2.1 (zr_X9_4 (zs_X9 ht)).2.2 ?_
    refine kV_vw (as := [.ref 32]) (st := []) (k := 12) dX9_undo_15 zM_X2_copyFrom zk_X9_313 (zo_X2 (zc_X9_3 (zs_X9 ht))) (by decide) rfl ⟨Nat.le_of_ble_eq_true rfl, Nat.le_of_ble_eq_true rfl⟩ (Nat.le_of_ble_eq_true rfl) (zz_T0 rfl rfl) (fun Q' P' k h => c_X2_copyFrom (12) (32) M (zc_X9_3 (zs_X9 ht)) (zc_X9_4 (zs_X9 ht)) h k) h (fun M2 h => ?_)
    exact w_X9_undo_18  M2 ht h kR
set_option maxHeartbeats 4000000 in
set_option maxRecDepth 100000 in
theorem c_X9_undo {G : zzG} {t : Nat} {Q : Option Value → zzMem → Prop}  (M : zzMem) (ht : 180 ≤ t)  {P : (Bool × zzMem) → Prop} (h : zK (f_X9_undo  M) P) (kR : ∀ r : (Bool × zzMem), P r → Q (some (.int (zb r.1))) r.2) : zz_S G m_X9_undo t t [.ref 0] M Q :=
  zz_S_of (by decide) (by decide) (Nat.le_of_ble_eq_true rfl) (w_X9_undo_0  M ht h kR)
noncomputable def b_X9_check_28 (v1 : Int32) (v2 : Int32) (M : zzMem) : Option ((Int32 × zzMem) ⊕ (Int32 × zzMem)) :=
  if v1 ≤ v2 then
  (some ((.inr ((-1 : Int32), M))))
  else (if (M.1 27 1) ≤ v2 then
  (some ((.inr (v2, M))))
  else ((f_X5_keyAt 27 v2 M).bind (fun r3 =>
  (f_X2_valueOf 12 r3 M).bind (fun q4 => zpr q4 (fun r5 M6 =>
  zgd (vp_in v2 320) (
  if r5 = (M6.1 2 (v2).toNatClampNeg) then
  (zbd (v2 + (nI 1)) (fun x9 =>
  some (.inl (x9, M6))))
  else (some ((.inr (v2, M6))))))))))
set_option maxHeartbeats 4000000 in
set_option maxRecDepth 100000 in
theorem x_X9_check_28 {G : zzG} {t : Nat} {Q : Option Value → zzMem → Prop} (v1 : Int32) (v2 : Int32) (M : zzMem) (ht : 180 ≤ t)  {P : ((Int32 × zzMem) ⊕ (Int32 × zzMem)) → Prop} (h : zK (b_X9_check_28 v1 v2 M) P) (k28 : ∀ s : (Int32 × zzMem), P (.inl s) → zz_W G m_X9_check t t t 28 [some (.ref 0), some (.int v1), some (.int s.1)] [] s.2 Q) (kR : ∀ r : (Int32 × zzMem), P (.inr r) → Q (some (.int r.1)) r.2) : zz_W G m_X9_check t t t 28 [some (.ref 0), some (.int v1), some (.int v2)] [] M Q := by
  unfold b_X9_check_28 at h
  refine r_iload_n dX9_check_28 rfl ?_
  refine r_iload_n dX9_check_29 rfl ?_
  refine r_icmp_ge 85 dX9_check_30 (by decide) (fun c1 => ?_) (fun c1 => ?_)
  · have h := zK_pos h c1
    refine r_iconst (v := (-1 : Int32)) dX9_check_85 (by decide) ?_
    exact r_iret dX9_check_86 rfl rfl rfl (kR (((-1 : Int32), M)) (zK_some h))
  · have h := zK_neg h c1
    refine r_iload_n dX9_check_33 rfl ?_
    refine r_aload_n dX9_check_34 rfl ?_
    refine r_getR (k := 0) (q := 12) dX9_check_35 zf_X9_33 (zo_X9 (zs_X9 ht)) (zr_X9_3 (zs_X9 ht)).1 (zr_X9_3 (zs_X9 ht)).2.1 (zr_X9_3 (zs_X9 ht)).2.2 ?_
    refine r_getR (k := 12) (q := 27) dX9_check_38 zf_X9_77 (zo_X2 (zc_X9_3 (zs_X9 ht))) (zr_X2_2 (zc_X9_3 (zs_X9 ht))).1 (zr_X2_2 (zc_X9_3 (zs_X9 ht))).2.1 (zr_X2_2 (zc_X9_3 (zs_X9 ht))).2.2 ?_
    refine r_getI (k := 27) dX9_check_41 zf_X9_81 (zo_X5 (zc_X2_2 (zc_X9_3 (zs_X9 ht)))) (zi_X5_1 (zc_X2_2 (zc_X9_3 (zs_X9 ht)))) ?_
    refine r_icmp_ge 77 dX9_check_44 (by decide) (fun c2 => ?_) (fun c2 => ?_)
    · have h := zK_pos h c2
      refine r_iload_n dX9_check_77 rfl ?_
      exact r_iret dX9_check_78 rfl rfl rfl (kR ((v2, M)) (zK_some h))
    · have h := zK_neg h c2
      refine r_aload_n dX9_check_47 rfl ?_
      refine r_getR (k := 0) (q := 12) dX9_check_48 zf_X9_33 (zo_X9 (zs_X9 ht)) (zr_X9_3 (zs_X9 ht)).1 (zr_X9_3 (zs_X9 ht)).2.1 (zr_X9_3 (zs_X9 ht)).2.2 ?_
      refine r_aload_n dX9_check_51 rfl ?_
      refine r_getR (k := 0) (q := 12) dX9_check_52 zf_X9_33 (zo_X9 (zs_X9 ht)) (zr_X9_3 (zs_X9 ht)).1 (zr_X9_3 (zs_X9 ht)).2.1 (zr_X9_3 (zs_X9 ht)).2.2 ?_
      refine r_getR (k := 12) (q := 27) dX9_check_55 zf_X9_77 (zo_X2 (zc_X9_3 (zs_X9 ht))) (zr_X2_2 (zc_X9_3 (zs_X9 ht))).1 (zr_X2_2 (zc_X9_3 (zs_X9 ht))).2.1 (zr_X2_2 (zc_X9_3 (zs_X9 ht))).2.2 ?_
      refine r_iload_n dX9_check_58 rfl ?_
      refine kV_ir (as := [.int v2]) (st := [.ref 12]) (k := 27) dX9_check_59 zM_X5_keyAt zk_X9_326 (zo_X5 (zc_X2_2 (zc_X9_3 (zs_X9 ht)))) (by decide) rfl ⟨Nat.le_of_ble_eq_true rfl, Nat.le_of_ble_eq_true rfl⟩ (Nat.le_of_ble_eq_true rfl) (zz_T0 rfl rfl) (fun Q' P' k h => c_X5_keyAt (27) (v2) M (zc_X2_2 (zc_X9_3 (zs_X9 ht))) h k) h (fun r3 h => ?_)
      refine kV_iw (as := [.int r3]) (st := []) (k := 12) dX9_check_62 zM_X2_valueOf zk_X9_345 (zo_X2 (zc_X9_3 (zs_X9 ht))) (by decide) rfl ⟨Nat.le_of_ble_eq_true rfl, Nat.le_of_ble_eq_true rfl⟩ (Nat.le_of_ble_eq_true rfl) (zz_T0 rfl rfl) (fun Q' P' k h => c_X2_valueOf (12) (r3) M (zc_X9_3 (zs_X9 ht)) h (fun r p => k r.1 r.2 p)) h (fun r5 M6 h => ?_)
      have h := zK_pr h
      refine r_aload_n dX9_check_65 rfl ?_
      refine r_getR (k := 0) (q := 1) dX9_check_66 zf_X9_10 (zo_X9 (zs_X9 ht)) (zr_X9_0 (zs_X9 ht)).1 (zr_X9_0 (zs_X9 ht)).2.1 (zr_X9_0 (zs_X9 ht)).2.2 ?_
      refine r_getR (k := 1) (q := 2) dX9_check_69 zf_X9_378 (zo_X8 (zs_X8 ht)) (zr_X8_0 (zs_X8 ht)).1 (zr_X8_0 (zs_X8 ht)).2.1 (zr_X8_0 (zs_X8 ht)).2.2 ?_
      refine r_iload_n dX9_check_72 rfl ?_
      obtain ⟨g7, h⟩ := zK_gd h
      refine r_iald dX9_check_73 (za_X8_0 (zs_X8 ht)) g7 ?_
      refine r_icmp_eq 79 dX9_check_74 (by decide) (fun c8 => ?_) (fun c8 => ?_)
      · have h := zK_pos h c8
        refine r_iinc (nI 1) (fun x9 => [some (.ref 0), some (.int v1), some (.int x9)]) dX9_check_79 rfl (by decide) (by decide) rfl (fun _ => rfl) (fun x9 ex9 => ?_)
        have h := zK_bd h ex9
        refine r_goto 28 dX9_check_82 (by decide) ?_
        exact k28 ((x9, M6)) (zK_some h)
      · have h := zK_neg h c8
        refine r_iload_n dX9_check_77 rfl ?_
        exact r_iret dX9_check_78 rfl rfl rfl (kR ((v2, M6)) (zK_some h))
noncomputable def j_X9_check_28 (v1 : Int32) (v2 : Int32) (M : zzMem) : Option (Int32 × zzMem) :=
  zlp (fun s : (Int32 × zzMem) => b_X9_check_28 v1 s.1 s.2) (v2, M)
set_option maxHeartbeats 4000000 in
set_option maxRecDepth 100000 in
theorem w_X9_check_28 {G : zzG} {t : Nat} {Q : Option Value → zzMem → Prop} (v1 : Int32) (v2 : Int32) (M : zzMem) (ht : 180 ≤ t)  {P : (Int32 × zzMem) → Prop} (h : zK (j_X9_check_28 v1 v2 M) P) (kR : ∀ r : (Int32 × zzMem), P r → Q (some (.int r.1)) r.2) : zz_W G m_X9_check t t t 28 [some (.ref 0), some (.int v1), some (.int v2)] [] M Q := by
  unfold j_X9_check_28 at h
  exact zK_lp h (fun s : (Int32 × zzMem) => zz_W G m_X9_check t t t 28 [some (.ref 0), some (.int v1), some (.int s.1)] [] s.2 Q) (fun s h => x_X9_check_28 v1 s.1 s.2 ht h (fun s p => p) kR)
noncomputable def f_X9_check (a1 : Int32) (M : zzMem) : Option (Int32 × zzMem) :=
  if (f_X8_has a1 (nI 0) (nI 300) M) = true then
  (zbd (f_X8_open a1 M) (fun M2 =>
  j_X9_check_28 a1 (nI 0) M2))
  else (some (((-2 : Int32), M)))
set_option maxHeartbeats 4000000 in
set_option maxRecDepth 100000 in
theorem w_X9_check_0 {G : zzG} {t : Nat} {Q : Option Value → zzMem → Prop} (a1 : Int32) (M : zzMem) (ht : 180 ≤ t)  {P : (Int32 × zzMem) → Prop} (h : zK (f_X9_check a1 M) P) (kR : ∀ r : (Int32 × zzMem), P r → Q (some (.int r.1)) r.2) : zz_W G m_X9_check t t t 0 [some (.ref 0), some (.int a1), none] [] M Q := by
  unfold f_X9_check at h
  refine r_aload_n dX9_check_0 rfl ?_
  refine r_getR (k := 0) (q := 1) dX9_check_1 zf_X9_10 (zo_X9 (zs_X9 ht)) (zr_X9_0 (zs_X9 ht)).1 (zr_X9_0 (zs_X9 ht)).2.1 (zr_X9_0 (zs_X9 ht)).2.2 ?_
  refine r_iload_n dX9_check_4 rfl ?_
  refine r_iconst (v := (nI 0)) dX9_check_5 (by decide) ?_
  refine r_sipush (v := (nI 300)) dX9_check_6 (by decide) ?_
  refine tV_zr (v := f_X8_has a1 (nI 0) (nI 300) M) (as := [.int a1, .int (nI 0), .int (nI 300)]) (st := []) (k := 1) dX9_check_9 zM_X8_has zk_X9_71 (zo_X8 (zs_X8 ht)) (by decide) rfl ⟨Nat.le_of_ble_eq_true rfl, Nat.le_of_ble_eq_true rfl⟩ (Nat.le_of_ble_eq_true rfl) (zz_T0 rfl rfl) (fun Q' h => c_X8_has (a1) ((nI 0)) ((nI 300)) M ht h) ?_
  refine r_ifZ_ne 18 dX9_check_12 (by decide) (fun c1 => ?_) (fun c1 => ?_)
  · have h := zK_pos h c1
    refine r_aload_n dX9_check_18 rfl ?_
    refine r_getR (k := 0) (q := 1) dX9_check_19 zf_X9_10 (zo_X9 (zs_X9 ht)) (zr_X9_0 (zs_X9 ht)).1 (zr_X9_0 (zs_X9 ht)).2.1 (zr_X9_0 (zs_X9 ht)).2.2 ?_
    refine r_iload_n dX9_check_22 rfl ?_
    refine tV_vw (as := [.int a1]) (st := []) (k := 1) dX9_check_23 zM_X8_open zk_X9_74 (zo_X8 (zs_X8 ht)) (by decide) rfl ⟨Nat.le_of_ble_eq_true rfl, Nat.le_of_ble_eq_true rfl⟩ (Nat.le_of_ble_eq_true rfl) (zz_T0 rfl rfl) (fun Q' h => c_X8_open (a1) M ht h) (fun M2 eM2 => ?_)
    have h := zK_bd h eM2
    refine r_iconst (v := (nI 0)) dX9_check_26 (by decide) ?_
    refine s_istore_n ([some (.ref 0), some (.int a1), some (.int (nI 0))]) dX9_check_27 (by decide) rfl rfl ?_
    exact w_X9_check_28 (a1) ((nI 0)) M2 ht h kR
  · have h := zK_neg h c1
    refine r_bipush (v := (-2 : Int32)) dX9_check_15 (by decide) ?_
    exact r_iret dX9_check_17 rfl rfl rfl (kR (((-2 : Int32), M)) (zK_some h))
set_option maxHeartbeats 4000000 in
set_option maxRecDepth 100000 in
theorem c_X9_check {G : zzG} {t : Nat} {Q : Option Value → zzMem → Prop} (a1 : Int32) (M : zzMem) (ht : 180 ≤ t)  {P : (Int32 × zzMem) → Prop} (h : zK (f_X9_check a1 M) P) (kR : ∀ r : (Int32 × zzMem), P r → Q (some (.int r.1)) r.2) : zz_S G m_X9_check t t [.ref 0, .int a1] M Q :=
  zz_S_of (by decide) (by decide) (Nat.le_of_ble_eq_true rfl) (w_X9_check_0 a1 M ht h kR)
