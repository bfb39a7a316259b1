noncomputable def j_X8_number_62 (v1 : Int32) (v2 : Int32) (v3 : Int32) (v4 : Int32) (M : zzMem) : Option (Int32 × zzMem) :=
  if (M.1 1 4) = v3 then
  (zbd (f_X8_failHere (nI 1) M) (fun M4 =>
  some ((v4, M4))))
  else (if (f_X9_within v4 v1 v2) = true then
  (some ((v4, M)))
  else (zbd (f_X8_fail (nI 3) v3 M) (fun M3 =>
  some ((v4, M3)))))
set_option maxHeartbeats 4000000 in
set_option maxRecDepth 100000 in
theorem w_X8_number_62 {G : zzG} {t : Nat} {Q : Option Value → zzMem → Prop} (v1 : Int32) (v2 : Int32) (v3 : Int32) (v4 : Int32) (M : zzMem) (ht : 180 ≤ t)  {P : (Int32 × zzMem) → Prop} (h : zK (j_X8_number_62 v1 v2 v3 v4 M) P) (kR : ∀ r : (Int32 × zzMem), P r → Q (some (.int r.1)) r.2) : zz_W G m_X8_number t t t 62 [some (.ref 1), some (.int v1), some (.int v2), some (.int v3), some (.int v4), none] [] M Q := by
  unfold j_X8_number_62 at h
  refine r_aload_n dX8_number_62 rfl ?_
  refine r_getI (k := 1) dX8_number_63 zf_X8_23 (zo_X8 (zs_X8 ht)) (zi_X8_4 (zs_X8 ht)) ?_
  refine r_iload_n dX8_number_66 rfl ?_
  refine r_icmp_ne 78 dX8_number_67 (by decide) (fun c1 => ?_) (fun c1 => ?_)
  · have h := zK_neg h c1
    refine r_iload dX8_number_78 rfl ?_
    refine r_iload_n dX8_number_80 rfl ?_
    refine r_iload_n dX8_number_81 rfl ?_
    refine tN_zr (v := f_X9_within v4 v1 v2) (as := [.int v4, .int v1, .int v2]) (st := []) dX8_number_82 zM_X9_within zk_X8_26 ⟨Nat.le_of_ble_eq_true rfl, Nat.le_of_ble_eq_true rfl⟩ (Nat.le_of_ble_eq_true rfl) (zz_T0 rfl rfl) (fun Q' h => c_X9_within (v4) (v1) (v2) M h) ?_
    refine r_ifZ_ne 94 dX8_number_85 (by decide) (fun c2 => ?_) (fun c2 => ?_)
    · have h := zK_pos h c2
      refine r_iload dX8_number_94 rfl ?_
      exact r_iret dX8_number_96 rfl rfl rfl (kR ((v4, M)) (zK_some h))
    · have h := zK_neg h c2
      refine r_aload_n dX8_number_88 rfl ?_
      refine r_iconst (v := (nI 3)) dX8_number_89 (by decide) ?_
      refine r_iload_n dX8_number_90 rfl ?_
      refine tV_vw (as := [.int (nI 3), .int v3]) (st := []) (k := 1) dX8_number_91 zM_X8_fail zk_X8_32 (zo_X8 (zs_X8 ht)) (by decide) rfl ⟨Nat.le_of_ble_eq_true rfl, Nat.le_of_ble_eq_true rfl⟩ (Nat.le_of_ble_eq_true rfl) (zz_T0 rfl rfl) (fun Q' h => c_X8_fail ((nI 3)) (v3) M ht h) (fun M3 eM3 => ?_)
      have h := zK_bd h eM3
      refine r_iload dX8_number_94 rfl ?_
      exact r_iret dX8_number_96 rfl rfl rfl (kR ((v4, M3)) (zK_some h))
  · have h := zK_pos h c1
    refine r_aload_n dX8_number_70 rfl ?_
    refine r_iconst (v := (nI 1)) dX8_number_71 (by decide) ?_
    refine tV_vw (as := [.int (nI 1)]) (st := []) (k := 1) dX8_number_72 zM_X8_failHere zk_X8_44 (zo_X8 (zs_X8 ht)) (by decide) rfl ⟨Nat.le_of_ble_eq_true rfl, Nat.le_of_ble_eq_true rfl⟩ (Nat.le_of_ble_eq_true rfl) (zz_T0 rfl rfl) (fun Q' h => c_X8_failHere ((nI 1)) M ht h) (fun M4 eM4 => ?_)
    have h := zK_bd h eM4
    refine r_goto 94 dX8_number_75 (by decide) ?_
    refine r_iload dX8_number_94 rfl ?_
    exact r_iret dX8_number_96 rfl rfl rfl (kR ((v4, M4)) (zK_some h))
noncomputable def b_X8_number_11 (v1 : Int32) (v2 : Int32) (v3 : Int32) (v4 : Int32) (v5 : Int32) (M : zzMem) : Option ((Int32 × Int32 × zzMem) ⊕ (Int32 × zzMem)) :=
  if (nI 5) < v5 then
  (zup (j_X8_number_62 v1 v2 v3 v4 M))
  else ((f_X8_isAtDigit M).bind (fun r2 =>
  if r2 = true then
  (if v5 = (nI 5) then
  (zbd (f_X8_failHere (nI 2) M) (fun M9 =>
  some ((.inr ((nI 0), M9)))))
  else ((f_X8_sign M).bind (fun r5 =>
  zbd ((((v4 * (nI 10)) + r5) - (nI 48))) (fun x6 =>
  zbd (f_X8_pass M) (fun M7 =>
  zbd (v5 + (nI 1)) (fun x8 =>
  some (.inl (x6, x8, M7))))))))
  else (zup (j_X8_number_62 v1 v2 v3 v4 M))))
set_option maxHeartbeats 4000000 in
set_option maxRecDepth 100000 in
theorem x_X8_number_11 {G : zzG} {t : Nat} {Q : Option Value → zzMem → Prop} (v1 : Int32) (v2 : Int32) (v3 : Int32) (v4 : Int32) (v5 : Int32) (M : zzMem) (ht : 180 ≤ t)  {P : ((Int32 × Int32 × zzMem) ⊕ (Int32 × zzMem)) → Prop} (h : zK (b_X8_number_11 v1 v2 v3 v4 v5 M) P) (k11 : ∀ s : (Int32 × Int32 × zzMem), P (.inl s) → zz_W G m_X8_number t t t 11 [some (.ref 1), some (.int v1), some (.int v2), some (.int v3), some (.int s.1), some (.int s.2.1)] [] s.2.2 Q) (kR : ∀ r : (Int32 × zzMem), P (.inr r) → Q (some (.int r.1)) r.2) : zz_W G m_X8_number t t t 11 [some (.ref 1), some (.int v1), some (.int v2), some (.int v3), some (.int v4), some (.int v5)] [] M Q := by
  unfold b_X8_number_11 at h
  refine r_iload dX8_number_11 rfl ?_
  refine r_iconst (v := (nI 5)) dX8_number_13 (by decide) ?_
  refine r_icmp_gt 62 dX8_number_14 (by decide) (fun c1 => ?_) (fun c1 => ?_)
  · have h := zK_pos h c1
    refine zz_mask [5] ?_
    exact w_X8_number_62 (v1) (v2) (v3) (v4) M ht (zK_up h) kR
  · have h := zK_neg h c1
    refine r_aload_n dX8_number_17 rfl ?_
    refine kV_zr (as := []) (st := []) (k := 1) dX8_number_18 zM_X8_isAtDigit zk_X8_40 (zo_X8 (zs_X8 ht)) (by decide) rfl ⟨Nat.le_of_ble_eq_true rfl, Nat.le_of_ble_eq_true rfl⟩ (Nat.le_of_ble_eq_true rfl) (zz_T0 rfl rfl) (fun Q' P' k h => c_X8_isAtDigit M ht h k) h (fun r2 h => ?_)
    refine r_ifZ_eq 62 dX8_number_21 (by decide) (fun c3 => ?_) (fun c3 => ?_)
    · have h := zK_neg h c3
      refine zz_mask [5] ?_
      exact w_X8_number_62 (v1) (v2) (v3) (v4) M ht (zK_up h) kR
    · have h := zK_pos h c3
      refine r_iload dX8_number_24 rfl ?_
      refine r_iconst (v := (nI 5)) dX8_number_26 (by decide) ?_
      refine r_icmp_ne 37 dX8_number_27 (by decide) (fun c4 => ?_) (fun c4 => ?_)
      · have h := zK_neg h c4
        refine r_iload dX8_number_37 rfl ?_
        refine r_bipush (v := (nI 10)) dX8_number_39 (by decide) ?_
        refine r_imul dX8_number_41 ?_
        refine r_aload_n dX8_number_42 rfl ?_
        refine kV_ir (as := []) (st := [.int (v4 * (nI 10))]) (k := 1) dX8_number_43 zM_X8_sign zk_X8_36 (zo_X8 (zs_X8 ht)) (by decide) rfl ⟨Nat.le_of_ble_eq_true rfl, Nat.le_of_ble_eq_true rfl⟩ (Nat.le_of_ble_eq_true rfl) (zz_T0 rfl rfl) (fun Q' P' k h => c_X8_sign M ht h k) h (fun r5 h => ?_)
        refine r_iadd dX8_number_46 ?_
        refine r_bipush (v := (nI 48)) dX8_number_47 (by decide) ?_
        refine r_isub dX8_number_49 ?_
        refine r_istore (fun x6 => [some (.ref 1), some (.int v1), some (.int v2), some (.int v3), some (.int x6), some (.int v5)]) dX8_number_50 (by decide) rfl (fun _ => rfl) (fun x6 ex6 => ?_)
        have h := zK_bd h ex6
        refine r_aload_n dX8_number_52 rfl ?_
        refine tV_vw (as := []) (st := []) (k := 1) dX8_number_53 zM_X8_pass zk_X8_48 (zo_X8 (zs_X8 ht)) (by decide) rfl ⟨Nat.le_of_ble_eq_true rfl, Nat.le_of_ble_eq_true rfl⟩ (Nat.le_of_ble_eq_true rfl) (zz_T0 rfl rfl) (fun Q' h => c_X8_pass M ht h) (fun M7 eM7 => ?_)
        have h := zK_bd h eM7
        refine r_iinc (nI 1) (fun x8 => [some (.ref 1), some (.int v1), some (.int v2), some (.int v3), some (.int x6), some (.int x8)]) dX8_number_56 rfl (by decide) (by decide) rfl (fun _ => rfl) (fun x8 ex8 => ?_)
        have h := zK_bd h ex8
        refine r_goto 11 dX8_number_59 (by decide) ?_
        exact k11 ((x6, x8, M7)) (zK_some h)
      · have h := zK_pos h c4
        refine r_aload_n dX8_number_30 rfl ?_
        refine r_iconst (v := (nI 2)) dX8_number_31 (by decide) ?_
        refine tV_vw (as := [.int (nI 2)]) (st := []) (k := 1) dX8_number_32 zM_X8_failHere zk_X8_44 (zo_X8 (zs_X8 ht)) (by decide) rfl ⟨Nat.le_of_ble_eq_true rfl, Nat.le_of_ble_eq_true rfl⟩ (Nat.le_of_ble_eq_true rfl) (zz_T0 rfl rfl) (fun Q' h => c_X8_failHere ((nI 2)) M ht h) (fun M9 eM9 => ?_)
        have h := zK_bd h eM9
        refine r_iconst (v := (nI 0)) dX8_number_35 (by decide) ?_
        exact r_iret dX8_number_36 rfl rfl rfl (kR (((nI 0), M9)) (zK_some h))
noncomputable def j_X8_number_11 (v1 : Int32) (v2 : Int32) (v3 : Int32) (v4 : Int32) (v5 : Int32) (M : zzMem) : Option (Int32 × zzMem) :=
  zlp (fun s : (Int32 × Int32 × zzMem) => b_X8_number_11 v1 v2 v3 s.1 s.2.1 s.2.2) (v4, v5, M)
set_option maxHeartbeats 4000000 in
set_option maxRecDepth 100000 in
theorem w_X8_number_11 {G : zzG} {t : Nat} {Q : Option Value → zzMem → Prop} (v1 : Int32) (v2 : Int32) (v3 : Int32) (v4 : Int32) (v5 : Int32) (M : zzMem) (ht : 180 ≤ t)  {P : (Int32 × zzMem) → Prop} (h : zK (j_X8_number_11 v1 v2 v3 v4 v5 M) P) (kR : ∀ r : (Int32 × zzMem), P r → Q (some (.int r.1)) r.2) : zz_W G m_X8_number t t t 11 [some (.ref 1), some (.int v1), some (.int v2), some (.int v3), some (.int v4), some (.int v5)] [] M Q := by
  unfold j_X8_number_11 at h
  exact zK_lp h (fun s : (Int32 × Int32 × zzMem) => zz_W G m_X8_number t t t 11 [some (.ref 1), some (.int v1), some (.int v2), some (.int v3), some (.int s.1), some (.int s.2.1)] [] s.2.2 Q) (fun s h => x_X8_number_11 v1 v2 v3 s.1 s.2.1 s.2.2 ht h (fun s p => p) kR)
noncomputable def f_X8_number (a1 : Int32) (a2 : Int32) (M : zzMem) : Option (Int32 × zzMem) :=
  zbd ((M.1 1 4)) (fun x1 =>
  j_X8_number_11 a1 a2 x1 (nI 0) (nI 0) M)
set_option maxHeartbeats 4000000 in
set_option maxRecDepth 100000 in
theorem w_X8_number_0 {G : zzG} {t : Nat} {Q : Option Value → zzMem → Prop} (a1 : Int32) (a2 : Int32) (M : zzMem) (ht : 180 ≤ t)  {P : (Int32 × zzMem) → Prop} (h : zK (f_X8_number a1 a2 M) P) (kR : ∀ r : (Int32 × zzMem), P r → Q (some (.int r.1)) r.2) : zz_W G m_X8_number t t t 0 [some (.ref 1), some (.int a1), some (.int a2), none, none, none] [] M Q := by
  unfold f_X8_number at h
  refine r_aload_n dX8_number_0 rfl ?_
  refine r_getI (k := 1) dX8_number_1 zf_X8_23 (zo_X8 (zs_X8 ht)) (zi_X8_4 (zs_X8 ht)) ?_
  refine r_istore_n (fun x1 => [some (.ref 1), some (.int a1), some (.int a2), some (.int x1), none, none]) dX8_number_4 (by decide) rfl (fun _ => rfl) (fun x1 ex1 => ?_)
  have h := zK_bd h ex1
  refine r_iconst (v := (nI 0)) dX8_number_5 (by decide) ?_
  refine s_istore ([some (.ref 1), some (.int a1), some (.int a2), some (.int x1), some (.int (nI 0)), none]) dX8_number_6 (by decide) rfl rfl ?_
  refine r_iconst (v := (nI 0)) dX8_number_8 (by decide) ?_
  refine s_istore ([some (.ref 1), some (.int a1), some (.int a2), some (.int x1), some (.int (nI 0)), some (.int (nI 0))]) dX8_number_9 (by decide) rfl rfl ?_
  exact w_X8_number_11 (a1) (a2) (x1) ((nI 0)) ((nI 0)) M ht h kR
set_option maxHeartbeats 4000000 in
set_option maxRecDepth 100000 in
theorem c_X8_number {G : zzG} {t : Nat} {Q : Option Value → zzMem → Prop} (a1 : Int32) (a2 : Int32) (M : zzMem) (ht : 180 ≤ t)  {P : (Int32 × zzMem) → Prop} (h : zK (f_X8_number a1 a2 M) P) (kR : ∀ r : (Int32 × zzMem), P r → Q (some (.int r.1)) r.2) : zz_S G m_X8_number t t [.ref 1, .int a1, .int a2] M Q :=
  zz_S_of (by decide) (by decide) (Nat.le_of_ble_eq_true rfl) (w_X8_number_0 a1 a2 M ht h kR)
noncomputable def f_X4_emit (a1 : Int32) (M : zzMem) : Option zzMem :=
  if (nI 60) ≤ (M.1 3 1) then
  (some M)
  else (zgd (vp_in (M.1 3 1) 60) (
  zbd (zz_si M 4 ((M.1 3 1)).toNatClampNeg a1) (fun M3 =>
  zbd (zz_si M3 3 1 ((M3.1 3 1) + (nI 1))) (fun M4 =>
  some M4))))
set_option maxHeartbeats 4000000 in
set_option maxRecDepth 100000 in
theorem w_X4_emit_0 {G : zzG} {t : Nat} {Q : Option Value → zzMem → Prop} (a1 : Int32) (M : zzMem) (ht : 180 ≤ t)  {P : zzMem → Prop} (h : zK (f_X4_emit a1 M) P) (kR : ∀ r : zzMem, P r → Q none r) : zz_W G m_X4_emit t t t 0 [some (.ref 3), some (.int a1)] [] M Q := by
  unfold f_X4_emit at h
  refine r_aload_n dX4_emit_0 rfl ?_
  refine r_getI (k := 3) dX4_emit_1 zf_X4_15 (zo_X4 (zs_X4 ht)) (zi_X4_1 (zs_X4 ht)) ?_
  refine r_bipush (v := (nI 60)) dX4_emit_4 (by decide) ?_
  refine r_icmp_ge 29 dX4_emit_6 (by decide) (fun c1 => ?_) (fun c1 => ?_)
  · have h := zK_pos h c1
    exact r_vret dX4_emit_29 rfl rfl rfl (kR (M) (zK_some h))
  · have h := zK_neg h c1
    refine r_aload_n dX4_emit_9 rfl ?_
    refine r_getR (k := 3) (q := 4) dX4_emit_10 zf_X4_11 (zo_X4 (zs_X4 ht)) (zr_X4_0 (zs_X4 ht)).1 (zr_X4_0 (zs_X4 ht)).2.1 (zr_X4_0 (zs_X4 ht)).2.2 ?_
    refine r_aload_n dX4_emit_13 rfl ?_
    refine r_getI (k := 3) dX4_emit_14 zf_X4_15 (zo_X4 (zs_X4 ht)) (zi_X4_1 (zs_X4 ht)) ?_
    refine r_iload_n dX4_emit_17 rfl ?_
    obtain ⟨g2, h⟩ := zK_gd h
    refine r_iast dX4_emit_18 (za_X4_0 (zs_X4 ht)) g2 (fun M3 eM3 => ?_)
    have h := zK_bd h eM3
    refine r_aload_n dX4_emit_19 rfl ?_
    refine r_dup dX4_emit_20 rfl ?_
    refine r_getI (k := 3) dX4_emit_21 zf_X4_15 (zo_X4 (zs_X4 ht)) (zi_X4_1 (zs_X4 ht)) ?_
    refine r_iconst (v := (nI 1)) dX4_emit_24 (by decide) ?_
    refine r_iadd dX4_emit_25 ?_
    refine r_putI (k := 3) dX4_emit_26 zp_X4_15 (zo_X4 (zs_X4 ht)) (zi_X4_1 (zs_X4 ht)) rfl rfl (fun M4 eM4 => ?_)
    have h := zK_bd h eM4
    exact r_vret dX4_emit_29 rfl rfl rfl (kR (M4) (zK_some h))
set_option maxHeartbeats 4000000 in
set_option maxRecDepth 100000 in
theorem c_X4_emit {G : zzG} {t : Nat} {Q : Option Value → zzMem → Prop} (a1 : Int32) (M : zzMem) (ht : 180 ≤ t)  {P : zzMem → Prop} (h : zK (f_X4_emit a1 M) P) (kR : ∀ r : zzMem, P r → Q none r) : zz_S G m_X4_emit t t [.ref 3, .int a1] M Q :=
  zz_S_of (by decide) (by decide) (Nat.le_of_ble_eq_true rfl) (w_X4_emit_0 a1 M ht h kR)
noncomputable def j_X4_endPart_85  (M : zzMem) : Option zzMem :=
  zbd (zz_si M 3 5 (nI 0)) (fun M1 =>
  some M1)
set_option maxHeartbeats 4000000 in
set_option maxRecDepth 100000 in
theorem w_X4_endPart_85 {G : zzG} {t : Nat} {Q : Option Value → zzMem → Prop}  (M : zzMem) (ht : 180 ≤ t)  {P : zzMem → Prop} (h : zK (j_X4_endPart_85  M) P) (kR : ∀ r : zzMem, P r → Q none r) : zz_W G m_X4_endPart t t t 85 [some (.ref 3)] [] M Q := by
  unfold j_X4_endPart_85 at h
  refine r_aload_n dX4_endPart_85 rfl ?_
  refine r_iconst (v := (nI 0)) dX4_endPart_86 (by decide) ?_
  refine r_putI (k := 3) dX4_endPart_87 zp_X4_28 (zo_X4 (zs_X4 ht)) (zi_X4_5 (zs_X4 ht)) rfl rfl (fun M1 eM1 => ?_)
  have h := zK_bd h eM1
  exact r_vret dX4_endPart_90 rfl rfl rfl (kR (M1) (zK_some h))
noncomputable def j_X4_endPart_49  (M : zzMem) : Option zzMem :=
  zgd (vp_in (M.1 3 4) 7) (
  if (M.1 6 ((M.1 3 4)).toNatClampNeg) = 0 then
  (j_X4_endPart_85  M)
  else ((f_X4_emit (-(M.1 6 ((M.1 3 4)).toNatClampNeg)) M).bind (fun M3 =>
  zgd (vp_in (M3.1 3 4) 7) (
  zbd (zz_si M3 6 ((M3.1 3 4)).toNatClampNeg (nI 0)) (fun M5 =>
  j_X4_endPart_85  M5)))))
set_option maxHeartbeats 4000000 in
set_option maxRecDepth 100000 in
theorem w_X4_endPart_49 {G : zzG} {t : Nat} {Q : Option Value → zzMem → Prop}  (M : zzMem) (ht : 180 ≤ t)  {P : zzMem → Prop} (h : zK (j_X4_endPart_49  M) P) (kR : ∀ r : zzMem, P r → Q none r) : zz_W G m_X4_endPart t t t 49 [some (.ref 3)] [] M Q := by
  unfold j_X4_endPart_49 at h
  refine r_aload_n dX4_endPart_49 rfl ?_
  refine r_getR (k := 3) (q := 6) dX4_endPart_50 zf_X4_22 (zo_X4 (zs_X4 ht)) (zr_X4_3 (zs_X4 ht)).1 (zr_X4_3 (zs_X4 ht)).2.1 (zr_X4_3 (zs_X4 ht)).2.2 ?_
  refine r_aload_n dX4_endPart_53 rfl ?_
  refine r_getI (k := 3) dX4_endPart_54 zf_X4_25 (zo_X4 (zs_X4 ht)) (zi_X4_4 (zs_X4 ht)) ?_
  obtain ⟨g1, h⟩ := zK_gd h
  refine r_iald dX4_endPart_57 (za_X4_3 (zs_X4 ht)) g1 ?_
  refine r_if_eq 85 dX4_endPart_58 (by decide) (fun c2 => ?_) (fun c2 => ?_)
  · have h := zK_pos h c2
    exact w_X4_endPart_85  M ht h kR
  · have h := zK_neg h c2
    refine r_aload_n dX4_endPart_61 rfl ?_
    refine r_aload_n dX4_endPart_62 rfl ?_
    refine r_getR (k := 3) (q := 6) dX4_endPart_63 zf_X4_22 (zo_X4 (zs_X4 ht)) (zr_X4_3 (zs_X4 ht)).1 (zr_X4_3 (zs_X4 ht)).2.1 (zr_X4_3 (zs_X4 ht)).2.2 ?_
    refine r_aload_n dX4_endPart_66 rfl ?_
    refine r_getI (k := 3) dX4_endPart_67 zf_X4_25 (zo_X4 (zs_X4 ht)) (zi_X4_4 (zs_X4 ht)) ?_
    refine r_iald dX4_endPart_70 (za_X4_3 (zs_X4 ht)) g1 ?_
    refine r_ineg dX4_endPart_71 ?_
    refine kV_vw (as := [.int (-(M.1 6 ((M.1 3 4)).toNatClampNeg))]) (st := []) (k := 3) dX4_endPart_72 zM_X4_emit zk_X4_61 (zo_X4 (zs_X4 ht)) (by decide) rfl ⟨Nat.le_of_ble_eq_true rfl, Nat.le_of_ble_eq_true rfl⟩ (Nat.le_of_ble_eq_true rfl) (zz_T0 rfl rfl) (fun Q' P' k h => c_X4_emit ((-(M.1 6 ((M.1 3 4)).toNatClampNeg))) M ht h k) h (fun M3 h => ?_)
    refine r_aload_n dX4_endPart_75 rfl ?_
    refine r_getR (k := 3) (q := 6) dX4_endPart_76 zf_X4_22 (zo_X4 (zs_X4 ht)) (zr_X4_3 (zs_X4 ht)).1 (zr_X4_3 (zs_X4 ht)).2.1 (zr_X4_3 (zs_X4 ht)).2.2 ?_
    refine r_aload_n dX4_endPart_79 rfl ?_
    refine r_getI (k := 3) dX4_endPart_80 zf_X4_25 (zo_X4 (zs_X4 ht)) (zi_X4_4 (zs_X4 ht)) ?_
    refine r_iconst (v := (nI 0)) dX4_endPart_83 (by decide) ?_
    obtain ⟨g4, h⟩ := zK_gd h
    refine r_iast dX4_endPart_84 (za_X4_3 (zs_X4 ht)) g4 (fun M5 eM5 => ?_)
    have h := zK_bd h eM5
    exact w_X4_endPart_85  M5 ht h kR
noncomputable def b_X4_endPart_0  (M : zzMem) : Option (zzMem ⊕ zzMem) :=
  if (M.1 3 4) ≤ 0 then
  (zup (j_X4_endPart_49  M))
  else (zgd (vp_in ((M.1 3 4) - (nI 1)) 6) (
  if (M.1 5 (((M.1 3 4) - (nI 1))).toNatClampNeg) = 0 then
  (zup (j_X4_endPart_49  M))
  else ((f_X4_emit (M.1 5 (((M.1 3 4) - (nI 1))).toNatClampNeg) M).bind (fun M4 =>
  zbd (zz_si M4 3 4 ((M4.1 3 4) - (nI 1))) (fun M5 =>
  some (.inl M5))))))
set_option maxHeartbeats 4000000 in
set_option maxRecDepth 100000 in
theorem x_X4_endPart_0 {G : zzG} {t : Nat} {Q : Option Value → zzMem → Prop}  (M : zzMem) (ht : 180 ≤ t)  {P : (zzMem ⊕ zzMem) → Prop} (h : zK (b_X4_endPart_0  M) P) (k0 : ∀ s : zzMem, P (.inl s) → zz_W G m_X4_endPart t t t 0 [some (.ref 3)] [] s Q) (kR : ∀ r : zzMem, P (.inr r) → Q none r) : zz_W G m_X4_endPart t t t 0 [some (.ref 3)] [] M Q := by
  unfold b_X4_endPart_0 at h
  refine r_aload_n dX4_endPart_0 rfl ?_
  refine r_getI (k := 3) dX4_endPart_1 zf_X4_25 (zo_X4 (zs_X4 ht)) (zi_X4_4 (zs_X4 ht)) ?_
  refine r_if_le 49 dX4_endPart_4 (by decide) (fun c1 => ?_) (fun c1 => ?_)
  · have h := zK_pos h c1
    exact w_X4_endPart_49  M ht (zK_up h) kR
  · have h := zK_neg h c1
    refine r_aload_n dX4_endPart_7 rfl ?_
    refine r_getR (k := 3) (q := 5) dX4_endPart_8 zf_X4_19 (zo_X4 (zs_X4 ht)) (zr_X4_2 (zs_X4 ht)).1 (zr_X4_2 (zs_X4 ht)).2.1 (zr_X4_2 (zs_X4 ht)).2.2 ?_
    refine r_aload_n dX4_endPart_11 rfl ?_
    refine r_getI (k := 3) dX4_endPart_12 zf_X4_25 (zo_X4 (zs_X4 ht)) (zi_X4_4 (zs_X4 ht)) ?_
    refine r_iconst (v := (nI 1)) dX4_endPart_15 (by decide) ?_
    refine r_isub dX4_endPart_16 ?_
    obtain ⟨g2, h⟩ := zK_gd h
    refine r_iald dX4_endPart_17 (za_X4_2 (zs_X4 ht)) g2 ?_
    refine r_if_eq 49 dX4_endPart_18 (by decide) (fun c3 => ?_) (fun c3 => ?_)
    · have h := zK_pos h c3
      exact w_X4_endPart_49  M ht (zK_up h) kR
    · have h := zK_neg h c3
      refine r_aload_n dX4_endPart_21 rfl ?_
      refine r_aload_n dX4_endPart_22 rfl ?_
      refine r_getR (k := 3) (q := 5) dX4_endPart_23 zf_X4_19 (zo_X4 (zs_X4 ht)) (zr_X4_2 (zs_X4 ht)).1 (zr_X4_2 (zs_X4 ht)).2.1 (zr_X4_2 (zs_X4 ht)).2.2 ?_
      refine r_aload_n dX4_endPart_26 rfl ?_
      refine r_getI (k := 3) dX4_endPart_27 zf_X4_25 (zo_X4 (zs_X4 ht)) (zi_X4_4 (zs_X4 ht)) ?_
      refine r_iconst (v := (nI 1)) dX4_endPart_30 (by decide) ?_
      refine r_isub dX4_endPart_31 ?_
      refine r_iald dX4_endPart_32 (za_X4_2 (zs_X4 ht)) g2 ?_
      refine kV_vw (as := [.int (M.1 5 (((M.1 3 4) - (nI 1))).toNatClampNeg)]) (st := []) (k := 3) dX4_endPart_33 zM_X4_emit zk_X4_61 (zo_X4 (zs_X4 ht)) (by decide) rfl ⟨Nat.le_of_ble_eq_true rfl, Nat.le_of_ble_eq_true rfl⟩ (Nat.le_of_ble_eq_true rfl) (zz_T0 rfl rfl) (fun Q' P' k h => c_X4_emit ((M.1 5 (((M.1 3 4) - (nI 1))).toNatClampNeg)) M ht h k) h (fun M4 h => ?_)
      refine r_aload_n dX4_endPart_36 rfl ?_
      refine r_dup dX4_endPart_37 rfl ?_
      refine r_getI (k := 3) dX4_endPart_38 zf_X4_25 (zo_X4 (zs_X4 ht)) (zi_X4_4 (zs_X4 ht)) ?_
      refine r_iconst (v := (nI 1)) dX4_endPart_41 (by decide) ?_
      refine r_isub dX4_endPart_42 ?_
      refine r_putI (k := 3) dX4_endPart_43 zp_X4_25 (zo_X4 (zs_X4 ht)) (zi_X4_4 (zs_X4 ht)) rfl rfl (fun M5 eM5 => ?_)
      have h := zK_bd h eM5
      refine r_goto 0 dX4_endPart_46 (by decide) ?_
      exact k0 (M5) (zK_some h)
noncomputable def f_X4_endPart  (M : zzMem) : Option zzMem :=
  zlp (fun s : zzMem => b_X4_endPart_0  s) M
set_option maxHeartbeats 4000000 in
set_option maxRecDepth 100000 in
theorem w_X4_endPart_0 {G : zzG} {t : Nat} {Q : Option Value → zzMem → Prop}  (M : zzMem) (ht : 180 ≤ t)  {P : zzMem → Prop} (h : zK (f_X4_endPart  M) P) (kR : ∀ r : zzMem, P r → Q none r) : zz_W G m_X4_endPart t t t 0 [some (.ref 3)] [] M Q := by
  unfold f_X4_endPart at h
  exact zK_lp h (fun s : zzMem => zz_W G m_X4_endPart t t t 0 [some (.ref 3)] [] s Q) (fun s h => x_X4_endPart_0  s ht h (fun s p => p) kR)
set_option maxHeartbeats 4000000 in
set_option maxRecDepth 100000 in
theorem c_X4_endPart {G : zzG} {t : Nat} {Q : Option Value → zzMem → Prop}  (M : zzMem) (ht : 180 ≤ t)  {P : zzMem → Prop} (h : zK (f_X4_endPart  M) P) (kR : ∀ r : zzMem, P r → Q none r) : zz_S G m_X4_endPart t t [.ref 3] M Q :=
  zz_S_of (by decide) (by decide) (Nat.le_of_ble_eq_true rfl) (w_X4_endPart_0  M ht h kR)
noncomputable def j_X4_readRound_32 (v1 : Int32) (M : zzMem) : Option (Int32 × zzMem) :=
  zbd (f_X8_pass M) (fun M1 =>
  some ((((-10 : Int32) - v1), M1)))
set_option maxHeartbeats 4000000 in
set_option maxRecDepth 100000 in
theorem w_X4_readRound_32 {G : zzG} {t : Nat} {Q : Option Value → zzMem → Prop} (v1 : Int32) (M : zzMem) (ht : 180 ≤ t)  {P : (Int32 × zzMem) → Prop} (h : zK (j_X4_readRound_32 v1 M) P) (kR : ∀ r : (Int32 × zzMem), P r → Q (some (.int r.1)) r.2) : zz_W G m_X4_readRound t t t 32 [some (.ref 1), some (.int v1)] [] M Q := by
  unfold j_X4_readRound_32 at h
  refine r_aload_n dX4_readRound_32 rfl ?_
  refine tV_vw (as := []) (st := []) (k := 1) dX4_readRound_33 zM_X8_pass zk_X4_68 (zo_X8 (zs_X8 ht)) (by decide) rfl ⟨Nat.le_of_ble_eq_true rfl, Nat.le_of_ble_eq_true rfl⟩ (Nat.le_of_ble_eq_true rfl) (zz_T0 rfl rfl) (fun Q' h => c_X8_pass M ht h) (fun M1 eM1 => ?_)
  have h := zK_bd h eM1
  refine r_bipush (v := (-10 : Int32)) dX4_readRound_36 (by decide) ?_
  refine r_iload_n dX4_readRound_38 rfl ?_
  refine r_isub dX4_readRound_39 ?_
  exact r_iret dX4_readRound_40 rfl rfl rfl (kR ((((-10 : Int32) - v1), M1)) (zK_some h))
noncomputable def f_X4_readRound  (M : zzMem) : Option (Int32 × zzMem) :=
  (f_X8_sign M).bind (fun r1 =>
  zbd ((r1 - (nI 48))) (fun x2 =>
  (f_X8_isAtDigit M).bind (fun r3 =>
  if r3 = true then
  (if x2 = 0 then
  (zbd (f_X8_failHere (nI 3) M) (fun M6 =>
  j_X4_readRound_32 x2 M6))
  else (j_X4_readRound_32 x2 M))
  else (zbd (f_X8_failHere (nI 1) M) (fun M7 =>
  j_X4_readRound_32 x2 M7)))))
set_option maxHeartbeats 4000000 in
set_option maxRecDepth 100000 in
theorem w_X4_readRound_0 {G : zzG} {t : Nat} {Q : Option Value → zzMem → Prop}  (M : zzMem) (ht : 180 ≤ t)  {P : (Int32 × zzMem) → Prop} (h : zK (f_X4_readRound  M) P) (kR : ∀ r : (Int32 × zzMem), P r → Q (some (.int r.1)) r.2) : zz_W G m_X4_readRound t t t 0 [some (.ref 1), none] [] M Q := by
  unfold f_X4_readRound at h
  refine r_aload_n dX4_readRound_0 rfl ?_
  refine kV_ir (as := []) (st := []) (k := 1) dX4_readRound_1 zM_X8_sign zk_X4_48 (zo_X8 (zs_X8 ht)) (by decide) rfl ⟨Nat.le_of_ble_eq_true rfl, Nat.le_of_ble_eq_true rfl⟩ (Nat.le_of_ble_eq_true rfl) (zz_T0 rfl rfl) (fun Q' P' k h => c_X8_sign M ht h k) h (fun r1 h => ?_)
  refine r_bipush (v := (nI 48)) dX4_readRound_4 (by decide) ?_
  refine r_isub dX4_readRound_6 ?_
  refine r_istore_n (fun x2 => [some (.ref 1), some (.int x2)]) dX4_readRound_7 (by decide) rfl (fun _ => rfl) (fun x2 ex2 => ?_)
  have h := zK_bd h ex2
  refine r_aload_n dX4_readRound_8 rfl ?_
  refine kV_zr (as := []) (st := []) (k := 1) dX4_readRound_9 zM_X8_isAtDigit zk_X4_52 (zo_X8 (zs_X8 ht)) (by decide) rfl ⟨Nat.le_of_ble_eq_true rfl, Nat.le_of_ble_eq_true rfl⟩ (Nat.le_of_ble_eq_true rfl) (zz_T0 rfl rfl) (fun Q' P' k h => c_X8_isAtDigit M ht h k) h (fun r3 h => ?_)
  refine r_ifZ_ne 23 dX4_readRound_12 (by decide) (fun c4 => ?_) (fun c4 => ?_)
  · have h := zK_pos h c4
    refine r_iload_n dX4_readRound_23 rfl ?_
    refine r_if_ne 32 dX4_readRound_24 (by decide) (fun c5 => ?_) (fun c5 => ?_)
    · have h := zK_neg h c5
      exact w_X4_readRound_32 (x2) M ht h kR
    · have h := zK_pos h c5
      refine r_aload_n dX4_readRound_27 rfl ?_
      refine r_iconst (v := (nI 3)) dX4_readRound_28 (by decide) ?_
      refine tV_vw (as := [.int (nI 3)]) (st := []) (k := 1) dX4_readRound_29 zM_X8_failHere zk_X4_77 (zo_X8 (zs_X8 ht)) (by decide) rfl ⟨Nat.le_of_ble_eq_true rfl, Nat.le_of_ble_eq_true rfl⟩ (Nat.le_of_ble_eq_true rfl) (zz_T0 rfl rfl) (fun Q' h => c_X8_failHere ((nI 3)) M ht h) (fun M6 eM6 => ?_)
      have h := zK_bd h eM6
      exact w_X4_readRound_32 (x2) M6 ht h kR
  · have h := zK_neg h c4
    refine r_aload_n dX4_readRound_15 rfl ?_
    refine r_iconst (v := (nI 1)) dX4_readRound_16 (by decide) ?_
    refine tV_vw (as := [.int (nI 1)]) (st := []) (k := 1) dX4_readRound_17 zM_X8_failHere zk_X4_77 (zo_X8 (zs_X8 ht)) (by decide) rfl ⟨Nat.le_of_ble_eq_true rfl, Nat.le_of_ble_eq_true rfl⟩ (Nat.le_of_ble_eq_true rfl) (zz_T0 rfl rfl) (fun Q' h => c_X8_failHere ((nI 1)) M ht h) (fun M7 eM7 => ?_)
    have h := zK_bd h eM7
    refine r_goto 32 dX4_readRound_20 (by decide) ?_
    exact w_X4_readRound_32 (x2) M7 ht h kR
set_option maxHeartbeats 4000000 in
set_option maxRecDepth 100000 in
theorem c_X4_readRound {G : zzG} {t : Nat} {Q : Option Value → zzMem → Prop}  (M : zzMem) (ht : 180 ≤ t)  {P : (Int32 × zzMem) → Prop} (h : zK (f_X4_readRound  M) P) (kR : ∀ r : (Int32 × zzMem), P r → Q (some (.int r.1)) r.2) : zz_S G m_X4_readRound t t [.ref 1] M Q :=
  zz_S_of (by decide) (by decide) (Nat.le_of_ble_eq_true rfl) (w_X4_readRound_0  M ht h kR)
noncomputable def j_X4_openOne_56 (v3 : Int32) (M : zzMem) : Option zzMem :=
  zgd (vp_in (M.1 3 4) 6) (
  zbd (zz_si M 5 ((M.1 3 4)).toNatClampNeg v3) (fun M2 =>
  zbd (zz_si M2 3 4 ((M2.1 3 4) + (nI 1))) (fun M3 =>
  zgd (vp_in (M3.1 3 4) 7) (
  zbd (zz_si M3 6 ((M3.1 3 4)).toNatClampNeg (nI 0)) (fun M5 =>
  some M5)))))
set_option maxHeartbeats 4000000 in
set_option maxRecDepth 100000 in
theorem w_X4_openOne_56 {G : zzG} {t : Nat} {Q : Option Value → zzMem → Prop} (v3 : Int32) (M : zzMem) (ht : 180 ≤ t)  {P : zzMem → Prop} (h : zK (j_X4_openOne_56 v3 M) P) (kR : ∀ r : zzMem, P r → Q none r) : zz_W G m_X4_openOne t t t 56 [some (.ref 3), none, none, some (.int v3)] [] M Q := by
  unfold j_X4_openOne_56 at h
  refine r_aload_n dX4_openOne_56 rfl ?_
  refine r_getR (k := 3) (q := 5) dX4_openOne_57 zf_X4_19 (zo_X4 (zs_X4 ht)) (zr_X4_2 (zs_X4 ht)).1 (zr_X4_2 (zs_X4 ht)).2.1 (zr_X4_2 (zs_X4 ht)).2.2 ?_
  refine r_aload_n dX4_openOne_60 rfl ?_
  refine r_getI (k := 3) dX4_openOne_61 zf_X4_25 (zo_X4 (zs_X4 ht)) (zi_X4_4 (zs_X4 ht)) ?_
  refine r_iload_n dX4_openOne_64 rfl ?_
  obtain ⟨g1, h⟩ := zK_gd h
  refine r_iast dX4_openOne_65 (za_X4_2 (zs_X4 ht)) g1 (fun M2 eM2 => ?_)
  have h := zK_bd h eM2
  refine r_aload_n dX4_openOne_66 rfl ?_
  refine r_dup dX4_openOne_67 rfl ?_
  refine r_getI (k := 3) dX4_openOne_68 zf_X4_25 (zo_X4 (zs_X4 ht)) (zi_X4_4 (zs_X4 ht)) ?_
  refine r_iconst (v := (nI 1)) dX4_openOne_71 (by decide) ?_
  refine r_iadd dX4_openOne_72 ?_
  refine r_putI (k := 3) dX4_openOne_73 zp_X4_25 (zo_X4 (zs_X4 ht)) (zi_X4_4 (zs_X4 ht)) rfl rfl (fun M3 eM3 => ?_)
  have h := zK_bd h eM3
  refine r_aload_n dX4_openOne_76 rfl ?_
  refine r_getR (k := 3) (q := 6) dX4_openOne_77 zf_X4_22 (zo_X4 (zs_X4 ht)) (zr_X4_3 (zs_X4 ht)).1 (zr_X4_3 (zs_X4 ht)).2.1 (zr_X4_3 (zs_X4 ht)).2.2 ?_
  refine r_aload_n dX4_openOne_80 rfl ?_
  refine r_getI (k := 3) dX4_openOne_81 zf_X4_25 (zo_X4 (zs_X4 ht)) (zi_X4_4 (zs_X4 ht)) ?_
  refine r_iconst (v := (nI 0)) dX4_openOne_84 (by decide) ?_
  obtain ⟨g4, h⟩ := zK_gd h
  refine r_iast dX4_openOne_85 (za_X4_3 (zs_X4 ht)) g4 (fun M5 eM5 => ?_)
  have h := zK_bd h eM5
  exact r_vret dX4_openOne_86 rfl rfl rfl (kR (M5) (zK_some h))
noncomputable def f_X4_openOne (a2 : Int32) (M : zzMem) : Option zzMem :=
  if (M.1 3 4) < (nI 6) then
  (zbd (f_X8_pass M) (fun M2 =>
  if a2 = (nI 126) then
  (j_X4_openOne_56 (-2 : Int32) M2)
  else (if a2 = (nI 114) then
  (j_X4_openOne_56 (-3 : Int32) M2)
  else (if a2 = (nI 60) then
  ((f_X4_readRound M2).bind (fun q6 => zpr q6 (fun r7 M8 =>
  j_X4_openOne_56 r7 M8)))
  else (j_X4_openOne_56 (nI 0) M2)))))
  else (zbd (f_X8_failHere (nI 5) M) (fun M9 =>
  some M9))
set_option maxHeartbeats 4000000 in
set_option maxRecDepth 100000 in
theorem w_X4_openOne_0 {G : zzG} {t : Nat} {Q : Option Value → zzMem → Prop} (a2 : Int32) (M : zzMem) (ht : 180 ≤ t)  {P : zzMem → Prop} (h : zK (f_X4_openOne a2 M) P) (kR : ∀ r : zzMem, P r → Q none r) : zz_W G m_X4_openOne t t t 0 [some (.ref 3), some (.ref 1), some (.int a2), none] [] M Q := by
  unfold f_X4_openOne at h
  refine r_aload_n dX4_openOne_0 rfl ?_
  refine r_getI (k := 3) dX4_openOne_1 zf_X4_25 (zo_X4 (zs_X4 ht)) (zi_X4_4 (zs_X4 ht)) ?_
  refine r_bipush (v := (nI 6)) dX4_openOne_4 (by decide) ?_
  refine r_icmp_lt 15 dX4_openOne_6 (by decide) (fun c1 => ?_) (fun c1 => ?_)
  · have h := zK_pos h c1
    refine r_aload_n dX4_openOne_15 rfl ?_
    refine tV_vw (as := []) (st := []) (k := 1) dX4_openOne_16 zM_X8_pass zk_X4_68 (zo_X8 (zs_X8 ht)) (by decide) rfl ⟨Nat.le_of_ble_eq_true rfl, Nat.le_of_ble_eq_true rfl⟩ (Nat.le_of_ble_eq_true rfl) (zz_T0 rfl rfl) (fun Q' h => c_X8_pass M ht h) (fun M2 eM2 => ?_)
    have h := zK_bd h eM2
    refine r_iconst (v := (nI 0)) dX4_openOne_19 (by decide) ?_
    refine s_istore_n ([some (.ref 3), some (.ref 1), some (.int a2), some (.int (nI 0))]) dX4_openOne_20 (by decide) rfl rfl ?_
    refine r_iload_n dX4_openOne_21 rfl ?_
    refine r_bipush (v := (nI 126)) dX4_openOne_22 (by decide) ?_
    refine r_icmp_ne 33 dX4_openOne_24 (by decide) (fun c3 => ?_) (fun c3 => ?_)
    · have h := zK_neg h c3
      refine r_iload_n dX4_openOne_33 rfl ?_
      refine r_bipush (v := (nI 114)) dX4_openOne_34 (by decide) ?_
      refine r_icmp_ne 45 dX4_openOne_36 (by decide) (fun c4 => ?_) (fun c4 => ?_)
      · have h := zK_neg h c4
        refine r_iload_n dX4_openOne_45 rfl ?_
        refine r_bipush (v := (nI 60)) dX4_openOne_46 (by decide) ?_
        refine r_icmp_ne 56 dX4_openOne_48 (by decide) (fun c5 => ?_) (fun c5 => ?_)
        · have h := zK_neg h c5
          refine zz_mask [1, 2] ?_
          exact w_X4_openOne_56 ((nI 0)) M2 ht h kR
        · have h := zK_pos h c5
          refine r_aload_n dX4_openOne_51 rfl ?_
          refine kS_iw (as := [.ref 1]) (st := []) dX4_openOne_52 zM_X4_readRound zk_X4_80 ⟨Nat.le_of_ble_eq_true rfl, Nat.le_of_ble_eq_true rfl⟩ (Nat.le_of_ble_eq_true rfl) (zz_T0 rfl rfl) (fun Q' P' k h => c_X4_readRound M2 ht h (fun r p => k r.1 r.2 p)) h (fun r7 M8 h => ?_)
          have h := zK_pr h
          refine s_istore_n ([some (.ref 3), some (.ref 1), some (.int a2), some (.int r7)]) dX4_openOne_55 (by decide) rfl rfl ?_
          refine zz_mask [1, 2] ?_
          exact w_X4_openOne_56 (r7) M8 ht h kR
      · have h := zK_pos h c4
        refine r_bipush (v := (-3 : Int32)) dX4_openOne_39 (by decide) ?_
        refine s_istore_n ([some (.ref 3), some (.ref 1), some (.int a2), some (.int (-3 : Int32))]) dX4_openOne_41 (by decide) rfl rfl ?_
        refine r_goto 56 dX4_openOne_42 (by decide) ?_
        refine zz_mask [1, 2] ?_
        exact w_X4_openOne_56 ((-3 : Int32)) M2 ht h kR
    · have h := zK_pos h c3
      refine r_bipush (v := (-2 : Int32)) dX4_openOne_27 (by decide) ?_
      refine s_istore_n ([some (.ref 3), some (.ref 1), some (.int a2), some (.int (-2 : Int32))]) dX4_openOne_29 (by decide) rfl rfl ?_
      refine r_goto 56 dX4_openOne_30 (by decide) ?_
      refine zz_mask [1, 2] ?_
      exact w_X4_openOne_56 ((-2 : Int32)) M2 ht h kR
  · have h := zK_neg h c1
    refine r_aload_n dX4_openOne_9 rfl ?_
    refine r_iconst (v := (nI 5)) dX4_openOne_10 (by decide) ?_
    refine tV_vw (as := [.int (nI 5)]) (st := []) (k := 1) dX4_openOne_11 zM_X8_failHere zk_X4_77 (zo_X8 (zs_X8 ht)) (by decide) rfl ⟨Nat.le_of_ble_eq_true rfl, Nat.le_of_ble_eq_true rfl⟩ (Nat.le_of_ble_eq_true rfl) (zz_T0 rfl rfl) (fun Q' h => c_X8_failHere ((nI 5)) M ht h) (fun M9 eM9 => ?_)
    have h := zK_bd h eM9
    exact r_vret dX4_openOne_14 rfl rfl rfl (kR (M9) (zK_some h))
set_option maxHeartbeats 4000000 in
set_option maxRecDepth 100000 in
theorem c_X4_openOne {G : zzG} {t : Nat} {Q : Option Value → zzMem → Prop} (a2 : Int32) (M : zzMem) (ht : 180 ≤ t)  {P : zzMem → Prop} (h : zK (f_X4_openOne a2 M) P) (kR : ∀ r : zzMem, P r → Q none r) : zz_S G m_X4_openOne t t [.ref 3, .ref 1, .int a2] M Q :=
  zz_S_of (by decide) (by decide) (Nat.le_of_ble_eq_true rfl) (w_X4_openOne_0 a2 M ht h kR)
noncomputable def j_X4_readPart_76 (v2 : Int32) (M : zzMem) : Option zzMem :=
  (f_X4_openOne v2 M).bind (fun M1 =>
  some M1)
set_option maxHeartbeats 4000000 in
set_option maxRecDepth 100000 in
theorem w_X4_readPart_76 {G : zzG} {t : Nat} {Q : Option Value → zzMem → Prop} (v2 : Int32) (M : zzMem) (ht : 180 ≤ t)  {P : zzMem → Prop} (h : zK (j_X4_readPart_76 v2 M) P) (kR : ∀ r : zzMem, P r → Q none r) : zz_W G m_X4_readPart t t t 76 [some (.ref 3), some (.ref 1), some (.int v2)] [] M Q := by
  unfold j_X4_readPart_76 at h
  refine r_aload_n dX4_readPart_76 rfl ?_
  refine r_aload_n dX4_readPart_77 rfl ?_
  refine r_iload_n dX4_readPart_78 rfl ?_
  refine kV_vw (as := [.ref 1, .int v2]) (st := []) (k := 3) dX4_readPart_79 zM_X4_openOne zk_X4_73 (zo_X4 (zs_X4 ht)) (by decide) rfl ⟨Nat.le_of_ble_eq_true rfl, Nat.le_of_ble_eq_true rfl⟩ (Nat.le_of_ble_eq_true rfl) (zz_T0 rfl rfl) (fun Q' P' k h => c_X4_openOne (v2) M ht h k) h (fun M1 h => ?_)
  refine r_goto 90 dX4_readPart_82 (by decide) ?_
  exact r_vret dX4_readPart_90 rfl rfl rfl (kR (M1) (zK_some h))
noncomputable def f_X4_readPart  (M : zzMem) : Option zzMem :=
  (f_X8_sign M).bind (fun r1 =>
  (f_X8_isAtDigit M).bind (fun r2 =>
  if r2 = true then
  ((f_X8_number (nI 0) (nI 65535) M).bind (fun q13 => zpr q13 (fun r14 M15 =>
  (f_X4_emit r14 M15).bind (fun M16 =>
  (f_X4_endPart M16).bind (fun M17 =>
  some M17)))))
  else (if r1 = (nI 107) then
  (zbd (f_X8_pass M) (fun M10 =>
  (f_X4_emit (-1 : Int32) M10).bind (fun M11 =>
  (f_X4_endPart M11).bind (fun M12 =>
  some M12))))
  else (if r1 = (nI 40) then
  (j_X4_readPart_76 r1 M)
  else (if r1 = (nI 126) then
  (j_X4_readPart_76 r1 M)
  else (if r1 = (nI 60) then
  (j_X4_readPart_76 r1 M)
  else (if r1 = (nI 114) then
  (j_X4_readPart_76 r1 M)
  else (zbd (f_X8_failHere (nI 1) M) (fun M9 =>
  some M9)))))))))
set_option maxHeartbeats 4000000 in
set_option maxRecDepth 100000 in
theorem w_X4_readPart_0 {G : zzG} {t : Nat} {Q : Option Value → zzMem → Prop}  (M : zzMem) (ht : 180 ≤ t)  {P : zzMem → Prop} (h : zK (f_X4_readPart  M) P) (kR : ∀ r : zzMem, P r → Q none r) : zz_W G m_X4_readPart t t t 0 [some (.ref 3), some (.ref 1), none] [] M Q := by
  unfold f_X4_readPart at h
  refine r_aload_n dX4_readPart_0 rfl ?_
  refine kV_ir (as := []) (st := []) (k := 1) dX4_readPart_1 zM_X8_sign zk_X4_48 (zo_X8 (zs_X8 ht)) (by decide) rfl ⟨Nat.le_of_ble_eq_true rfl, Nat.le_of_ble_eq_true rfl⟩ (Nat.le_of_ble_eq_true rfl) (zz_T0 rfl rfl) (fun Q' P' k h => c_X8_sign M ht h k) h (fun r1 h => ?_)
  refine s_istore_n ([some (.ref 3), some (.ref 1), some (.int r1)]) dX4_readPart_4 (by decide) rfl rfl ?_
  refine r_aload_n dX4_readPart_5 rfl ?_
  refine kV_zr (as := []) (st := []) (k := 1) dX4_readPart_6 zM_X8_isAtDigit zk_X4_52 (zo_X8 (zs_X8 ht)) (by decide) rfl ⟨Nat.le_of_ble_eq_true rfl, Nat.le_of_ble_eq_true rfl⟩ (Nat.le_of_ble_eq_true rfl) (zz_T0 rfl rfl) (fun Q' P' k h => c_X8_isAtDigit M ht h k) h (fun r2 h => ?_)
  refine r_ifZ_eq 30 dX4_readPart_9 (by decide) (fun c3 => ?_) (fun c3 => ?_)
  · have h := zK_neg h c3
    refine r_iload_n dX4_readPart_30 rfl ?_
    refine r_bipush (v := (nI 107)) dX4_readPart_31 (by decide) ?_
    refine r_icmp_ne 52 dX4_readPart_33 (by decide) (fun c4 => ?_) (fun c4 => ?_)
    · have h := zK_neg h c4
      refine r_iload_n dX4_readPart_52 rfl ?_
      refine r_bipush (v := (nI 40)) dX4_readPart_53 (by decide) ?_
      refine r_icmp_eq 76 dX4_readPart_55 (by decide) (fun c5 => ?_) (fun c5 => ?_)
      · have h := zK_pos h c5
        exact w_X4_readPart_76 (r1) M ht h kR
      · have h := zK_neg h c5
        refine r_iload_n dX4_readPart_58 rfl ?_
        refine r_bipush (v := (nI 126)) dX4_readPart_59 (by decide) ?_
        refine r_icmp_eq 76 dX4_readPart_61 (by decide) (fun c6 => ?_) (fun c6 => ?_)
        · have h := zK_pos h c6
          exact w_X4_readPart_76 (r1) M ht h kR
        · have h := zK_neg h c6
          refine r_iload_n dX4_readPart_64 rfl ?_
          refine r_bipush (v := (nI 60)) dX4_readPart_65 (by decide) ?_
          refine r_icmp_eq 76 dX4_readPart_67 (by decide) (fun c7 => ?_) (fun c7 => ?_)
          · have h := zK_pos h c7
            exact w_X4_readPart_76 (r1) M ht h kR
          · have h := zK_neg h c7
            refine r_iload_n dX4_readPart_70 rfl ?_
            refine r_bipush (v := (nI 114)) dX4_readPart_71 (by decide) ?_
            refine r_icmp_ne 85 dX4_readPart_73 (by decide) (fun c8 => ?_) (fun c8 => ?_)
            · have h := zK_neg h c8
              refine r_aload_n dX4_readPart_85 rfl ?_
              refine r_iconst (v := (nI 1)) dX4_readPart_86 (by decide) ?_
              refine tV_vw (as := [.int (nI 1)]) (st := []) (k := 1) dX4_readPart_87 zM_X8_failHere zk_X4_77 (zo_X8 (zs_X8 ht)) (by decide) rfl ⟨Nat.le_of_ble_eq_true rfl, Nat.le_of_ble_eq_true rfl⟩ (Nat.le_of_ble_eq_true rfl) (zz_T0 rfl rfl) (fun Q' h => c_X8_failHere ((nI 1)) M ht h) (fun M9 eM9 => ?_)
              have h := zK_bd h eM9
              exact r_vret dX4_readPart_90 rfl rfl rfl (kR (M9) (zK_some h))
            · have h := zK_pos h c8
              exact w_X4_readPart_76 (r1) M ht h kR
    · have h := zK_pos h c4
      refine r_aload_n dX4_readPart_36 rfl ?_
      refine tV_vw (as := []) (st := []) (k := 1) dX4_readPart_37 zM_X8_pass zk_X4_68 (zo_X8 (zs_X8 ht)) (by decide) rfl ⟨Nat.le_of_ble_eq_true rfl, Nat.le_of_ble_eq_true rfl⟩ (Nat.le_of_ble_eq_true rfl) (zz_T0 rfl rfl) (fun Q' h => c_X8_pass M ht h) (fun M10 eM10 => ?_)
      have h := zK_bd h eM10
      refine r_aload_n dX4_readPart_40 rfl ?_
      refine r_iconst (v := (-1 : Int32)) dX4_readPart_41 (by decide) ?_
      refine kV_vw (as := [.int (-1 : Int32)]) (st := []) (k := 3) dX4_readPart_42 zM_X4_emit zk_X4_61 (zo_X4 (zs_X4 ht)) (by decide) rfl ⟨Nat.le_of_ble_eq_true rfl, Nat.le_of_ble_eq_true rfl⟩ (Nat.le_of_ble_eq_true rfl) (zz_T0 rfl rfl) (fun Q' P' k h => c_X4_emit ((-1 : Int32)) M10 ht h k) h (fun M11 h => ?_)
      refine r_aload_n dX4_readPart_45 rfl ?_
      refine kV_vw (as := []) (st := []) (k := 3) dX4_readPart_46 zM_X4_endPart zk_X4_65 (zo_X4 (zs_X4 ht)) (by decide) rfl ⟨Nat.le_of_ble_eq_true rfl, Nat.le_of_ble_eq_true rfl⟩ (Nat.le_of_ble_eq_true rfl) (zz_T0 rfl rfl) (fun Q' P' k h => c_X4_endPart M11 ht h k) h (fun M12 h => ?_)
      refine r_goto 90 dX4_readPart_49 (by decide) ?_
      exact r_vret dX4_readPart_90 rfl rfl rfl (kR (M12) (zK_some h))
  · have h := zK_pos h c3
    refine r_aload_n dX4_readPart_12 rfl ?_
    refine r_aload_n dX4_readPart_13 rfl ?_
    refine r_iconst (v := (nI 0)) dX4_readPart_14 (by decide) ?_
    refine r_ldc (v := (nI 65535)) dX4_readPart_15 zd_X4_56 ?_
    refine kV_iw (as := [.int (nI 0), .int (nI 65535)]) (st := [.ref 3]) (k := 1) dX4_readPart_17 zM_X8_number zk_X4_57 (zo_X8 (zs_X8 ht)) (by decide) rfl ⟨Nat.le_of_ble_eq_true rfl, Nat.le_of_ble_eq_true rfl⟩ (Nat.le_of_ble_eq_true rfl) (zz_T0 rfl rfl) (fun Q' P' k h => c_X8_number ((nI 0)) ((nI 65535)) M ht h (fun r p => k r.1 r.2 p)) h (fun r14 M15 h => ?_)
    have h := zK_pr h
    refine kV_vw (as := [.int r14]) (st := []) (k := 3) dX4_readPart_20 zM_X4_emit zk_X4_61 (zo_X4 (zs_X4 ht)) (by decide) rfl ⟨Nat.le_of_ble_eq_true rfl, Nat.le_of_ble_eq_true rfl⟩ (Nat.le_of_ble_eq_true rfl) (zz_T0 rfl rfl) (fun Q' P' k h => c_X4_emit (r14) M15 ht h k) h (fun M16 h => ?_)
    refine r_aload_n dX4_readPart_23 rfl ?_
    refine kV_vw (as := []) (st := []) (k := 3) dX4_readPart_24 zM_X4_endPart zk_X4_65 (zo_X4 (zs_X4 ht)) (by decide) rfl ⟨Nat.le_of_ble_eq_true rfl, Nat.le_of_ble_eq_true rfl⟩ (Nat.le_of_ble_eq_true rfl) (zz_T0 rfl rfl) (fun Q' P' k h => c_X4_endPart M16 ht h k) h (fun M17 h => ?_)
    refine r_goto 90 dX4_readPart_27 (by decide) ?_
    exact r_vret dX4_readPart_90 rfl rfl rfl (kR (M17) (zK_some h))
set_option maxHeartbeats 4000000 in
set_option maxRecDepth 100000 in
theorem c_X4_readPart {G : zzG} {t : Nat} {Q : Option Value → zzMem → Prop}  (M : zzMem) (ht : 180 ≤ t)  {P : zzMem → Prop} (h : zK (f_X4_readPart  M) P) (kR : ∀ r : zzMem, P r → Q none r) : zz_S G m_X4_readPart t t [.ref 3, .ref 1] M Q :=
  zz_S_of (by decide) (by decide) (Nat.le_of_ble_eq_true rfl) (w_X4_readPart_0  M ht h kR)
noncomputable def f_X4_isJoiningSign (a0 : Int32) : Bool :=
  if a0 = (nI 37) then
  true
  else if a0 = (nI 38) then
  true
  else if a0 = (nI 42) then
  true
  else if a0 = (nI 43) then
  true
  else if a0 = (nI 45) then
  true
  else if a0 = (nI 47) then
  true
  else if a0 = (nI 94) then
  true
  else if a0 = (nI 124) then
  true
  else false
set_option maxHeartbeats 4000000 in
set_option maxRecDepth 100000 in
theorem w_X4_isJoiningSign_0 {G : zzG} {t : Nat} {Q : Option Value → zzMem → Prop} (a0 : Int32) (M : zzMem)  {P : Bool → Prop} (h : P (f_X4_isJoiningSign a0)) (kR : ∀ r : Bool, P r → Q (some (.int (zb r))) M) : zz_W G m_X4_isJoiningSign t t t 0 [some (.int a0)] [] M Q := by
  unfold f_X4_isJoiningSign at h
  refine r_iload_n dX4_isJoiningSign_0 rfl ?_
  by_cases c1 : a0 = (nI 37)
  · have h := zP_pos h c1
    refine r_lookup (off := 75) 76 dX4_isJoiningSign_1 (by decide) (by rw [c1]; first | done | decide) (by decide) ?_
    refine r_iconst (v := (nI 1)) dX4_isJoiningSign_76 (by decide) ?_
    exact r_zret (b := true) dX4_isJoiningSign_77 rfl rfl rfl (kR (true) h)
  · have h := zP_neg h c1
    by_cases c2 : a0 = (nI 38)
    · have h := zP_pos h c2
      refine r_lookup (off := 75) 76 dX4_isJoiningSign_1 (by decide) (by rw [c2]; first | done | decide) (by decide) ?_
      refine r_iconst (v := (nI 1)) dX4_isJoiningSign_76 (by decide) ?_
      exact r_zret (b := true) dX4_isJoiningSign_77 rfl rfl rfl (kR (true) h)
    · have h := zP_neg h c2
      by_cases c3 : a0 = (nI 42)
      · have h := zP_pos h c3
        refine r_lookup (off := 75) 76 dX4_isJoiningSign_1 (by decide) (by rw [c3]; first | done | decide) (by decide) ?_
        refine r_iconst (v := (nI 1)) dX4_isJoiningSign_76 (by decide) ?_
        exact r_zret (b := true) dX4_isJoiningSign_77 rfl rfl rfl (kR (true) h)
      · have h := zP_neg h c3
        by_cases c4 : a0 = (nI 43)
        · have h := zP_pos h c4
          refine r_lookup (off := 75) 76 dX4_isJoiningSign_1 (by decide) (by rw [c4]; first | done | decide) (by decide) ?_
          refine r_iconst (v := (nI 1)) dX4_isJoiningSign_76 (by decide) ?_
          exact r_zret (b := true) dX4_isJoiningSign_77 rfl rfl rfl (kR (true) h)
        · have h := zP_neg h c4
          by_cases c5 : a0 = (nI 45)
          · have h := zP_pos h c5
            refine r_lookup (off := 75) 76 dX4_isJoiningSign_1 (by decide) (by rw [c5]; first | done | decide) (by decide) ?_
            refine r_iconst (v := (nI 1)) dX4_isJoiningSign_76 (by decide) ?_
            exact r_zret (b := true) dX4_isJoiningSign_77 rfl rfl rfl (kR (true) h)
          · have h := zP_neg h c5
            by_cases c6 : a0 = (nI 47)
            · have h := zP_pos h c6
              refine r_lookup (off := 75) 76 dX4_isJoiningSign_1 (by decide) (by rw [c6]; first | done | decide) (by decide) ?_
              refine r_iconst (v := (nI 1)) dX4_isJoiningSign_76 (by decide) ?_
              exact r_zret (b := true) dX4_isJoiningSign_77 rfl rfl rfl (kR (true) h)
            · have h := zP_neg h c6
              by_cases c7 : a0 = (nI 94)
              · have h := zP_pos h c7
                refine r_lookup (off := 75) 76 dX4_isJoiningSign_1 (by decide) (by rw [c7]; first | done | decide) (by decide) ?_
                refine r_iconst (v := (nI 1)) dX4_isJoiningSign_76 (by decide) ?_
                exact r_zret (b := true) dX4_isJoiningSign_77 rfl rfl rfl (kR (true) h)
              · have h := zP_neg h c7
                by_cases c8 : a0 = (nI 124)
                · have h := zP_pos h c8
                  refine r_lookup (off := 75) 76 dX4_isJoiningSign_1 (by decide) (by rw [c8]; first | done | decide) (by decide) ?_
                  refine r_iconst (v := (nI 1)) dX4_isJoiningSign_76 (by decide) ?_
                  exact r_zret (b := true) dX4_isJoiningSign_77 rfl rfl rfl (kR (true) h)
                · have h := zP_neg h c8
                  have hD : zz_W G m_X4_isJoiningSign t t t 78 [some (.int a0)] [] M Q := by
                    refine r_iconst (v := (nI 0)) dX4_isJoiningSign_78 (by decide) ?_
                    exact r_zret (b := false) dX4_isJoiningSign_79 rfl rfl rfl (kR (false) h)
                  exact r_lookup 78 dX4_isJoiningSign_1 (by decide) (zz_lk_out (List.forall_mem_cons.mpr ⟨fun e => c1 (Int32.toInt_inj.mp (e.trans (by decide))), (List.forall_mem_cons.mpr ⟨fun e => c2 (Int32.toInt_inj.mp (e.trans (by decide))), (List.forall_mem_cons.mpr ⟨fun e => c3 (Int32.toInt_inj.mp (e.trans (by decide))), (List.forall_mem_cons.mpr ⟨fun e => c4 (Int32.toInt_inj.mp (e.trans (by decide))), (List.forall_mem_cons.mpr ⟨fun e => c5 (Int32.toInt_inj.mp (e.trans (by decide))), (List.forall_mem_cons.mpr ⟨fun e => c6 (Int32.toInt_inj.mp (e.trans (by decide))), (List.forall_mem_cons.mpr ⟨fun e => c7 (Int32.toInt_inj.mp (e.trans (by decide))), (List.forall_mem_cons.mpr ⟨fun e => c8 (Int32.toInt_inj.mp (e.trans (by decide))), (fun _ hq => absurd hq List.not_mem_nil)⟩)⟩)⟩)⟩)⟩)⟩)⟩)⟩)) (by decide) hD
set_option maxHeartbeats 4000000 in
set_option maxRecDepth 100000 in
theorem c_X4_isJoiningSign {G : zzG} {t : Nat} {Q : Option Value → zzMem → Prop} (a0 : Int32) (M : zzMem)  (h : Q (some (.int (zb (f_X4_isJoiningSign a0)))) M) : zz_S G m_X4_isJoiningSign t t [.int a0] M Q :=
  zz_S_of (by decide) (by decide) (Nat.le_of_ble_eq_true rfl) (w_X4_isJoiningSign_0 a0 M  (P := fun r => Q (some (.int (zb r))) M) h (fun r p => p))
noncomputable def j_X4_readBehindPart_68  (M : zzMem) : Option zzMem :=
  zbd (f_X8_failHere (nI 1) M) (fun M1 =>
  some M1)
set_option maxHeartbeats 4000000 in
set_option maxRecDepth 100000 in
theorem w_X4_readBehindPart_68 {G : zzG} {t : Nat} {Q : Option Value → zzMem → Prop}  (M : zzMem) (ht : 180 ≤ t)  {P : zzMem → Prop} (h : zK (j_X4_readBehindPart_68  M) P) (kR : ∀ r : zzMem, P r → Q none r) : zz_W G m_X4_readBehindPart t t t 68 [none, some (.ref 1), none] [] M Q := by
  unfold j_X4_readBehindPart_68 at h
  refine r_aload_n dX4_readBehindPart_68 rfl ?_
  refine r_iconst (v := (nI 1)) dX4_readBehindPart_69 (by decide) ?_
  refine tV_vw (as := [.int (nI 1)]) (st := []) (k := 1) dX4_readBehindPart_70 zM_X8_failHere zk_X4_77 (zo_X8 (zs_X8 ht)) (by decide) rfl ⟨Nat.le_of_ble_eq_true rfl, Nat.le_of_ble_eq_true rfl⟩ (Nat.le_of_ble_eq_true rfl) (zz_T0 rfl rfl) (fun Q' h => c_X8_failHere ((nI 1)) M ht h) (fun M1 eM1 => ?_)
  have h := zK_bd h eM1
  exact r_vret dX4_readBehindPart_73 rfl rfl rfl (kR (M1) (zK_some h))
noncomputable def f_X4_readBehindPart  (M : zzMem) : Option zzMem :=
  (f_X8_sign M).bind (fun r1 =>
  if (f_X4_isJoiningSign r1) = true then
  (zbd (f_X8_pass M) (fun M8 =>
  zgd (vp_in (M8.1 3 4) 7) (
  zbd (zz_si M8 6 ((M8.1 3 4)).toNatClampNeg r1) (fun M10 =>
  zbd (zz_si M10 3 5 (nI 1)) (fun M11 =>
  some M11)))))
  else (if r1 = (nI 41) then
  (if (M.1 3 4) ≤ 0 then
  (j_X4_readBehindPart_68  M)
  else (zbd (f_X8_pass M) (fun M5 =>
  zbd (zz_si M5 3 4 ((M5.1 3 4) - (nI 1))) (fun M6 =>
  (f_X4_endPart M6).bind (fun M7 =>
  some M7)))))
  else (j_X4_readBehindPart_68  M)))
set_option maxHeartbeats 4000000 in
set_option maxRecDepth 100000 in
theorem w_X4_readBehindPart_0 {G : zzG} {t : Nat} {Q : Option Value → zzMem → Prop}  (M : zzMem) (ht : 180 ≤ t)  {P : zzMem → Prop} (h : zK (f_X4_readBehindPart  M) P) (kR : ∀ r : zzMem, P r → Q none r) : zz_W G m_X4_readBehindPart t t t 0 [some (.ref 3), some (.ref 1), none] [] M Q := by
  unfold f_X4_readBehindPart at h
  refine r_aload_n dX4_readBehindPart_0 rfl ?_
  refine kV_ir (as := []) (st := []) (k := 1) dX4_readBehindPart_1 zM_X8_sign zk_X4_48 (zo_X8 (zs_X8 ht)) (by decide) rfl ⟨Nat.le_of_ble_eq_true rfl, Nat.le_of_ble_eq_true rfl⟩ (Nat.le_of_ble_eq_true rfl) (zz_T0 rfl rfl) (fun Q' P' k h => c_X8_sign M ht h k) h (fun r1 h => ?_)
  refine s_istore_n ([some (.ref 3), some (.ref 1), some (.int r1)]) dX4_readBehindPart_4 (by decide) rfl rfl ?_
  refine r_iload_n dX4_readBehindPart_5 rfl ?_
  refine tS_zr (v := f_X4_isJoiningSign r1) (as := [.int r1]) (st := []) dX4_readBehindPart_6 zM_X4_isJoiningSign zk_X4_84 ⟨Nat.le_of_ble_eq_true rfl, Nat.le_of_ble_eq_true rfl⟩ (Nat.le_of_ble_eq_true rfl) (zz_T0 rfl rfl) (fun Q' h => c_X4_isJoiningSign (r1) M h) ?_
  refine r_ifZ_eq 34 dX4_readBehindPart_9 (by decide) (fun c2 => ?_) (fun c2 => ?_)
  · have h := zK_neg h c2
    refine r_iload_n dX4_readBehindPart_34 rfl ?_
    refine r_bipush (v := (nI 41)) dX4_readBehindPart_35 (by decide) ?_
    refine r_icmp_ne 68 dX4_readBehindPart_37 (by decide) (fun c3 => ?_) (fun c3 => ?_)
    · have h := zK_neg h c3
      refine zz_mask [0, 2] ?_
      exact w_X4_readBehindPart_68  M ht h kR
    · have h := zK_pos h c3
      refine r_aload_n dX4_readBehindPart_40 rfl ?_
      refine r_getI (k := 3) dX4_readBehindPart_41 zf_X4_25 (zo_X4 (zs_X4 ht)) (zi_X4_4 (zs_X4 ht)) ?_
      refine r_if_le 68 dX4_readBehindPart_44 (by decide) (fun c4 => ?_) (fun c4 => ?_)
      · have h := zK_pos h c4
        refine zz_mask [0, 2] ?_
        exact w_X4_readBehindPart_68  M ht h kR
      · have h := zK_neg h c4
        refine r_aload_n dX4_readBehindPart_47 rfl ?_
        refine tV_vw (as := []) (st := []) (k := 1) dX4_readBehindPart_48 zM_X8_pass zk_X4_68 (zo_X8 (zs_X8 ht)) (by decide) rfl ⟨Nat.le_of_ble_eq_true rfl, Nat.le_of_ble_eq_true rfl⟩ (Nat.le_of_ble_eq_true rfl) (zz_T0 rfl rfl) (fun Q' h => c_X8_pass M ht h) (fun M5 eM5 => ?_)
        have h := zK_bd h eM5
        refine r_aload_n dX4_readBehindPart_51 rfl ?_
        refine r_dup dX4_readBehindPart_52 rfl ?_
        refine r_getI (k := 3) dX4_readBehindPart_53 zf_X4_25 (zo_X4 (zs_X4 ht)) (zi_X4_4 (zs_X4 ht)) ?_
        refine r_iconst (v := (nI 1)) dX4_readBehindPart_56 (by decide) ?_
        refine r_isub dX4_readBehindPart_57 ?_
        refine r_putI (k := 3) dX4_readBehindPart_58 zp_X4_25 (zo_X4 (zs_X4 ht)) (zi_X4_4 (zs_X4 ht)) rfl rfl (fun M6 eM6 => ?_)
        have h := zK_bd h eM6
        refine r_aload_n dX4_readBehindPart_61 rfl ?_
        refine kV_vw (as := []) (st := []) (k := 3) dX4_readBehindPart_62 zM_X4_endPart zk_X4_65 (zo_X4 (zs_X4 ht)) (by decide) rfl ⟨Nat.le_of_ble_eq_true rfl, Nat.le_of_ble_eq_true rfl⟩ (Nat.le_of_ble_eq_true rfl) (zz_T0 rfl rfl) (fun Q' P' k h => c_X4_endPart M6 ht h k) h (fun M7 h => ?_)
        refine r_goto 73 dX4_readBehindPart_65 (by decide) ?_
        exact r_vret dX4_readBehindPart_73 rfl rfl rfl (kR (M7) (zK_some h))
  · have h := zK_pos h c2
    refine r_aload_n dX4_readBehindPart_12 rfl ?_
    refine tV_vw (as := []) (st := []) (k := 1) dX4_readBehindPart_13 zM_X8_pass zk_X4_68 (zo_X8 (zs_X8 ht)) (by decide) rfl ⟨Nat.le_of_ble_eq_true rfl, Nat.le_of_ble_eq_true rfl⟩ (Nat.le_of_ble_eq_true rfl) (zz_T0 rfl rfl) (fun Q' h => c_X8_pass M ht h) (fun M8 eM8 => ?_)
    have h := zK_bd h eM8
    refine r_aload_n dX4_readBehindPart_16 rfl ?_
    refine r_getR (k := 3) (q := 6) dX4_readBehindPart_17 zf_X4_22 (zo_X4 (zs_X4 ht)) (zr_X4_3 (zs_X4 ht)).1 (zr_X4_3 (zs_X4 ht)).2.1 (zr_X4_3 (zs_X4 ht)).2.2 ?_
    refine r_aload_n dX4_readBehindPart_20 rfl ?_
    refine r_getI (k := 3) dX4_readBehindPart_21 zf_X4_25 (zo_X4 (zs_X4 ht)) (zi_X4_4 (zs_X4 ht)) ?_
    refine r_iload_n dX4_readBehindPart_24 rfl ?_
    obtain ⟨g9, h⟩ := zK_gd h
    refine r_iast dX4_readBehindPart_25 (za_X4_3 (zs_X4 ht)) g9 (fun M10 eM10 => ?_)
    have h := zK_bd h eM10
    refine r_aload_n dX4_readBehindPart_26 rfl ?_
    refine r_iconst (v := (nI 1)) dX4_readBehindPart_27 (by decide) ?_
    refine r_putI (k := 3) dX4_readBehindPart_28 zp_X4_28 (zo_X4 (zs_X4 ht)) (zi_X4_5 (zs_X4 ht)) rfl rfl (fun M11 eM11 => ?_)
    have h := zK_bd h eM11
    refine r_goto 73 dX4_readBehindPart_31 (by decide) ?_
    exact r_vret dX4_readBehindPart_73 rfl rfl rfl (kR (M11) (zK_some h))
set_option maxHeartbeats 4000000 in
set_option maxRecDepth 100000 in
theorem c_X4_readBehindPart {G : zzG} {t : Nat} {Q : Option Value → zzMem → Prop}  (M : zzMem) (ht : 180 ≤ t)  {P : zzMem → Prop} (h : zK (f_X4_readBehindPart  M) P) (kR : ∀ r : zzMem, P r → Q none r) : zz_S G m_X4_readBehindPart t t [.ref 3, .ref 1] M Q :=
  zz_S_of (by decide) (by decide) (Nat.le_of_ble_eq_true rfl) (w_X4_readBehindPart_0  M ht h kR)
noncomputable def j_X4_read_71  (M : zzMem) : Option (Int32 × zzMem) :=
  some (((M.1 1 2), M))
set_option maxHeartbeats 4000000 in
set_option maxRecDepth 100000 in
theorem w_X4_read_71 {G : zzG} {t : Nat} {Q : Option Value → zzMem → Prop}  (M : zzMem) (ht : 180 ≤ t)  {P : (Int32 × zzMem) → Prop} (h : zK (j_X4_read_71  M) P) (kR : ∀ r : (Int32 × zzMem), P r → Q (some (.int r.1)) r.2) : zz_W G m_X4_read t t t 71 [none, some (.ref 1), none] [] M Q := by
  unfold j_X4_read_71 at h
  refine r_aload_n dX4_read_71 rfl ?_
  refine r_getI (k := 1) dX4_read_72 zf_X4_32 (zo_X8 (zs_X8 ht)) (zi_X8_2 (zs_X8 ht)) ?_
  exact r_iret dX4_read_75 rfl rfl rfl (kR (((M.1 1 2), M)) (zK_some h))
noncomputable def b_X4_read_24 (v2 : Int32) (M : zzMem) : Option ((Int32 × zzMem) ⊕ (Int32 × zzMem)) :=
  if (nI 60) < v2 then
  (zup (j_X4_read_71  M))
  else (if (M.1 1 2) = 0 then
  ((f_X4_isWhole M).bind (fun r3 =>
  if r3 = true then
  (zup (j_X4_read_71  M))
  else (if (M.1 3 5) = 0 then
  ((f_X4_readBehindPart M).bind (fun M6 =>
  zbd (v2 + (nI 1)) (fun x7 =>
  some (.inl (x7, M6)))))
  else ((f_X4_readPart M).bind (fun M8 =>
  zbd (v2 + (nI 1)) (fun x9 =>
  some (.inl (x9, M8))))))))
  else (zup (j_X4_read_71  M)))
set_option maxHeartbeats 4000000 in
set_option maxRecDepth 100000 in
theorem x_X4_read_24 {G : zzG} {t : Nat} {Q : Option Value → zzMem → Prop} (v2 : Int32) (M : zzMem) (ht : 180 ≤ t)  {P : ((Int32 × zzMem) ⊕ (Int32 × zzMem)) → Prop} (h : zK (b_X4_read_24 v2 M) P) (k24 : ∀ s : (Int32 × zzMem), P (.inl s) → zz_W G m_X4_read t t t 24 [some (.ref 3), some (.ref 1), some (.int s.1)] [] s.2 Q) (kR : ∀ r : (Int32 × zzMem), P (.inr r) → Q (some (.int r.1)) r.2) : zz_W G m_X4_read t t t 24 [some (.ref 3), some (.ref 1), some (.int v2)] [] M Q := by
  unfold b_X4_read_24 at h
  refine r_iload_n dX4_read_24 rfl ?_
  refine r_bipush (v := (nI 60)) dX4_read_25 (by decide) ?_
  refine r_icmp_gt 71 dX4_read_27 (by decide) (fun c1 => ?_) (fun c1 => ?_)
  · have h := zK_pos h c1
    refine zz_mask [0, 2] ?_
    exact w_X4_read_71  M ht (zK_up h) kR
  · have h := zK_neg h c1
    refine r_aload_n dX4_read_30 rfl ?_
    refine r_getI (k := 1) dX4_read_31 zf_X4_32 (zo_X8 (zs_X8 ht)) (zi_X8_2 (zs_X8 ht)) ?_
    refine r_if_ne 71 dX4_read_34 (by decide) (fun c2 => ?_) (fun c2 => ?_)
    · have h := zK_neg h c2
      refine zz_mask [0, 2] ?_
      exact w_X4_read_71  M ht (zK_up h) kR
    · have h := zK_pos h c2
      refine r_aload_n dX4_read_37 rfl ?_
      refine r_aload_n dX4_read_38 rfl ?_
      refine kV_zr (as := [.ref 1]) (st := []) (k := 3) dX4_read_39 zM_X4_isWhole zk_X4_37 (zo_X4 (zs_X4 ht)) (by decide) rfl ⟨Nat.le_of_ble_eq_true rfl, Nat.le_of_ble_eq_true rfl⟩ (Nat.le_of_ble_eq_true rfl) (zz_T0 rfl rfl) (fun Q' P' k h => c_X4_isWhole M ht h k) h (fun r3 h => ?_)
      refine r_ifZ_ne 71 dX4_read_42 (by decide) (fun c4 => ?_) (fun c4 => ?_)
      · have h := zK_pos h c4
        refine zz_mask [0, 2] ?_
        exact w_X4_read_71  M ht (zK_up h) kR
      · have h := zK_neg h c4
        refine r_aload_n dX4_read_45 rfl ?_
        refine r_getI (k := 3) dX4_read_46 zf_X4_28 (zo_X4 (zs_X4 ht)) (zi_X4_5 (zs_X4 ht)) ?_
        refine r_if_eq 60 dX4_read_49 (by decide) (fun c5 => ?_) (fun c5 => ?_)
        · have h := zK_pos h c5
          refine r_aload_n dX4_read_60 rfl ?_
          refine r_aload_n dX4_read_61 rfl ?_
          refine kV_vw (as := [.ref 1]) (st := []) (k := 3) dX4_read_62 zM_X4_readBehindPart zk_X4_45 (zo_X4 (zs_X4 ht)) (by decide) rfl ⟨Nat.le_of_ble_eq_true rfl, Nat.le_of_ble_eq_true rfl⟩ (Nat.le_of_ble_eq_true rfl) (zz_T0 rfl rfl) (fun Q' P' k h => c_X4_readBehindPart M ht h k) h (fun M6 h => ?_)
          refine r_iinc (nI 1) (fun x7 => [some (.ref 3), some (.ref 1), some (.int x7)]) dX4_read_65 rfl (by decide) (by decide) rfl (fun _ => rfl) (fun x7 ex7 => ?_)
          have h := zK_bd h ex7
          refine r_goto 24 dX4_read_68 (by decide) ?_
          exact k24 ((x7, M6)) (zK_some h)
        · have h := zK_neg h c5
          refine r_aload_n dX4_read_52 rfl ?_
          refine r_aload_n dX4_read_53 rfl ?_
          refine kV_vw (as := [.ref 1]) (st := []) (k := 3) dX4_read_54 zM_X4_readPart zk_X4_41 (zo_X4 (zs_X4 ht)) (by decide) rfl ⟨Nat.le_of_ble_eq_true rfl, Nat.le_of_ble_eq_true rfl⟩ (Nat.le_of_ble_eq_true rfl) (zz_T0 rfl rfl) (fun Q' P' k h => c_X4_readPart M ht h k) h (fun M8 h => ?_)
          refine r_goto 65 dX4_read_57 (by decide) ?_
          refine r_iinc (nI 1) (fun x9 => [some (.ref 3), some (.ref 1), some (.int x9)]) dX4_read_65 rfl (by decide) (by decide) rfl (fun _ => rfl) (fun x9 ex9 => ?_)
          have h := zK_bd h ex9
          refine r_goto 24 dX4_read_68 (by decide) ?_
          exact k24 ((x9, M8)) (zK_some h)
noncomputable def j_X4_read_24 (v2 : Int32) (M : zzMem) : Option (Int32 × zzMem) :=
  zlp (fun s : (Int32 × zzMem) => b_X4_read_24 s.1 s.2) (v2, M)
set_option maxHeartbeats 4000000 in
set_option maxRecDepth 100000 in
theorem w_X4_read_24 {G : zzG} {t : Nat} {Q : Option Value → zzMem → Prop} (v2 : Int32) (M : zzMem) (ht : 180 ≤ t)  {P : (Int32 × zzMem) → Prop} (h : zK (j_X4_read_24 v2 M) P) (kR : ∀ r : (Int32 × zzMem), P r → Q (some (.int r.1)) r.2) : zz_W G m_X4_read t t t 24 [some (.ref 3), some (.ref 1), some (.int v2)] [] M Q := by
  unfold j_X4_read_24 at h
  exact zK_lp h (fun s : (Int32 × zzMem) => zz_W G m_X4_read t t t 24 [some (.ref 3), some (.ref 1), some (.int s.1)] [] s.2 Q) (fun s h => x_X4_read_24 s.1 s.2 ht h (fun s p => p) kR)
noncomputable def f_X4_read  (M : zzMem) : Option (Int32 × zzMem) :=
  zbd (zz_si M 3 1 (nI 0)) (fun M1 =>
  zbd (zz_si M1 3 4 (nI 0)) (fun M2 =>
  zbd (zz_si M2 6 0 (nI 0)) (fun M3 =>
  zbd (zz_si M3 3 5 (nI 1)) (fun M4 =>
  j_X4_read_24 (nI 0) M4))))
set_option maxHeartbeats 4000000 in
set_option maxRecDepth 100000 in
theorem w_X4_read_0 {G : zzG} {t : Nat} {Q : Option Value → zzMem → Prop}  (M : zzMem) (ht : 180 ≤ t)  {P : (Int32 × zzMem) → Prop} (h : zK (f_X4_read  M) P) (kR : ∀ r : (Int32 × zzMem), P r → Q (some (.int r.1)) r.2) : zz_W G m_X4_read t t t 0 [some (.ref 3), some (.ref 1), none] [] M Q := by
  unfold f_X4_read at h
  refine r_aload_n dX4_read_0 rfl ?_
  refine r_iconst (v := (nI 0)) dX4_read_1 (by decide) ?_
  refine r_putI (k := 3) dX4_read_2 zp_X4_15 (zo_X4 (zs_X4 ht)) (zi_X4_1 (zs_X4 ht)) rfl rfl (fun M1 eM1 => ?_)
  have h := zK_bd h eM1
  refine r_aload_n dX4_read_5 rfl ?_
  refine r_iconst (v := (nI 0)) dX4_read_6 (by decide) ?_
  refine r_putI (k := 3) dX4_read_7 zp_X4_25 (zo_X4 (zs_X4 ht)) (zi_X4_4 (zs_X4 ht)) rfl rfl (fun M2 eM2 => ?_)
  have h := zK_bd h eM2
  refine r_aload_n dX4_read_10 rfl ?_
  refine r_getR (k := 3) (q := 6) dX4_read_11 zf_X4_22 (zo_X4 (zs_X4 ht)) (zr_X4_3 (zs_X4 ht)).1 (zr_X4_3 (zs_X4 ht)).2.1 (zr_X4_3 (zs_X4 ht)).2.2 ?_
  refine r_iconst (v := (nI 0)) dX4_read_14 (by decide) ?_
  refine r_iconst (v := (nI 0)) dX4_read_15 (by decide) ?_
  refine r_iastc (j := 0) dX4_read_16 (za_X4_3 (zs_X4 ht)) rfl rfl (fun M3 eM3 => ?_)
  have h := zK_bd h eM3
  refine r_aload_n dX4_read_17 rfl ?_
  refine r_iconst (v := (nI 1)) dX4_read_18 (by decide) ?_
  refine r_putI (k := 3) dX4_read_19 zp_X4_28 (zo_X4 (zs_X4 ht)) (zi_X4_5 (zs_X4 ht)) rfl rfl (fun M4 eM4 => ?_)
  have h := zK_bd h eM4
  refine r_iconst (v := (nI 0)) dX4_read_22 (by decide) ?_
  refine s_istore_n ([some (.ref 3), some (.ref 1), some (.int (nI 0))]) dX4_read_23 (by decide) rfl rfl ?_
  exact w_X4_read_24 ((nI 0)) M4 ht h kR
set_option maxHeartbeats 4000000 in
set_option maxRecDepth 100000 in
theorem c_X4_read {G : zzG} {t : Nat} {Q : Option Value → zzMem → Prop}  (M : zzMem) (ht : 180 ≤ t)  {P : (Int32 × zzMem) → Prop} (h : zK (f_X4_read  M) P) (kR : ∀ r : (Int32 × zzMem), P r → Q (some (.int r.1)) r.2) : zz_S G m_X4_read t t [.ref 3, .ref 1] M Q :=
  zz_S_of (by decide) (by decide) (Nat.le_of_ble_eq_true rfl) (w_X4_read_0  M ht h kR)
noncomputable def f_X6_close (o : Nat) (a1 : Int32) (M : zzMem) : Option zzMem :=
  zgd (vp_in a1 4) (
  zbd (zz_si M (o + 1) (a1).toNatClampNeg (-1 : Int32)) (fun M2 =>
  some M2))
set_option maxHeartbeats 4000000 in
set_option maxRecDepth 100000 in
theorem w_X6_close_0 {G : zzG} {t : Nat} {Q : Option Value → zzMem → Prop} (o : Nat) (a1 : Int32) (M : zzMem) (ho : zI_X6 t o) {P : zzMem → Prop} (h : zK (f_X6_close o a1 M) P) (kR : ∀ r : zzMem, P r → Q none r) : zz_W G m_X6_close t t t 0 [some (.ref o), some (.int a1)] [] M Q := by
  unfold f_X6_close at h
  refine r_aload_n dX6_close_0 rfl ?_
  refine r_getR (k := o) (q := (o + 1)) dX6_close_1 zf_X6_9 (zo_X6 ho) (zr_X6_0 ho).1 (zr_X6_0 ho).2.1 (zr_X6_0 ho).2.2 ?_
  refine r_iload_n dX6_close_4 rfl ?_
  refine r_iconst (v := (-1 : Int32)) dX6_close_5 (by decide) ?_
  obtain ⟨g1, h⟩ := zK_gd h
  refine r_iast dX6_close_6 (za_X6_0 ho) g1 (fun M2 eM2 => ?_)
  have h := zK_bd h eM2
  exact r_vret dX6_close_7 rfl rfl rfl (kR (M2) (zK_some h))
set_option maxHeartbeats 4000000 in
set_option maxRecDepth 100000 in
theorem c_X6_close {G : zzG} {t : Nat} {Q : Option Value → zzMem → Prop} (o : Nat) (a1 : Int32) (M : zzMem) (ho : zI_X6 t o) {P : zzMem → Prop} (h : zK (f_X6_close o a1 M) P) (kR : ∀ r : zzMem, P r → Q none r) : zz_S G m_X6_close t t [.ref o, .int a1] M Q :=
  zz_S_of (by decide) (by decide) (Nat.le_of_ble_eq_true rfl) (w_X6_close_0 o a1 M ho h kR)
noncomputable def f_X6_isOpen (o : Nat) (a1 : Int32) (M : zzMem) : Option Bool :=
  if (f_X9_within a1 (nI 0) (nI 3)) = true then
  (zgd (vp_in a1 4) (
  if (M.1 (o + 1) (a1).toNatClampNeg) = (-1 : Int32) then
  (some false)
  else (some true)))
  else (some false)
set_option maxHeartbeats 4000000 in
set_option maxRecDepth 100000 in
theorem w_X6_isOpen_0 {G : zzG} {t : Nat} {Q : Option Value → zzMem → Prop} (o : Nat) (a1 : Int32) (M : zzMem) (ho : zI_X6 t o) {P : Bool → Prop} (h : zK (f_X6_isOpen o a1 M) P) (kR : ∀ r : Bool, P r → Q (some (.int (zb r))) M) : zz_W G m_X6_isOpen t t t 0 [some (.ref o), some (.int a1)] [] M Q := by
  unfold f_X6_isOpen at h
  refine r_iload_n dX6_isOpen_0 rfl ?_
  refine r_iconst (v := (nI 0)) dX6_isOpen_1 (by decide) ?_
  refine r_iconst (v := (nI 3)) dX6_isOpen_2 (by decide) ?_
  refine tN_zr (v := f_X9_within a1 (nI 0) (nI 3)) (as := [.int a1, .int (nI 0), .int (nI 3)]) (st := []) dX6_isOpen_3 zM_X9_within zk_X6_30 ⟨Nat.le_of_ble_eq_true rfl, Nat.le_of_ble_eq_true rfl⟩ (Nat.le_of_ble_eq_true rfl) (zz_T0 rfl rfl) (fun Q' h => c_X9_within (a1) ((nI 0)) ((nI 3)) M h) ?_
  refine r_ifZ_eq 23 dX6_isOpen_6 (by decide) (fun c1 => ?_) (fun c1 => ?_)
  · have h := zK_neg h c1
    refine r_iconst (v := (nI 0)) dX6_isOpen_23 (by decide) ?_
    exact r_zret (b := false) dX6_isOpen_24 rfl rfl rfl (kR (false) (zK_some h))
  · have h := zK_pos h c1
    refine r_aload_n dX6_isOpen_9 rfl ?_
    refine r_getR (k := o) (q := (o + 1)) dX6_isOpen_10 zf_X6_9 (zo_X6 ho) (zr_X6_0 ho).1 (zr_X6_0 ho).2.1 (zr_X6_0 ho).2.2 ?_
    refine r_iload_n dX6_isOpen_13 rfl ?_
    obtain ⟨g2, h⟩ := zK_gd h
    refine r_iald dX6_isOpen_14 (za_X6_0 ho) g2 ?_
    refine r_iconst (v := (-1 : Int32)) dX6_isOpen_15 (by decide) ?_
    refine r_icmp_eq 23 dX6_isOpen_16 (by decide) (fun c3 => ?_) (fun c3 => ?_)
    · have h := zK_pos h c3
      refine r_iconst (v := (nI 0)) dX6_isOpen_23 (by decide) ?_
      exact r_zret (b := false) dX6_isOpen_24 rfl rfl rfl (kR (false) (zK_some h))
    · have h := zK_neg h c3
      refine r_iconst (v := (nI 1)) dX6_isOpen_19 (by decide) ?_
      refine r_goto 24 dX6_isOpen_20 (by decide) ?_
      exact r_zret (b := true) dX6_isOpen_24 rfl rfl rfl (kR (true) (zK_some h))
set_option maxHeartbeats 4000000 in
set_option maxRecDepth 100000 in
theorem c_X6_isOpen {G : zzG} {t : Nat} {Q : Option Value → zzMem → Prop} (o : Nat) (a1 : Int32) (M : zzMem) (ho : zI_X6 t o) {P : Bool → Prop} (h : zK (f_X6_isOpen o a1 M) P) (kR : ∀ r : Bool, P r → Q (some (.int (zb r))) M) : zz_S G m_X6_isOpen t t [.ref o, .int a1] M Q :=
  zz_S_of (by decide) (by decide) (Nat.le_of_ble_eq_true rfl) (w_X6_isOpen_0 o a1 M ho h kR)
noncomputable def b_X6_lowestClosed_2 (o : Nat) (v1 : Int32) (M : zzMem) : Option (Int32 ⊕ Int32) :=
  if (nI 4) ≤ v1 then
  (some ((.inr (-1 : Int32))))
  else (zgd (vp_in v1 4) (
  if (M.1 (o + 1) (v1).toNatClampNeg) = (-1 : Int32) then
  (some ((.inr v1)))
  else (zbd (v1 + (nI 1)) (fun x4 =>
  some (.inl x4)))))
set_option maxHeartbeats 4000000 in
set_option maxRecDepth 100000 in
theorem x_X6_lowestClosed_2 {G : zzG} {t : Nat} {Q : Option Value → zzMem → Prop} (o : Nat) (v1 : Int32) (M : zzMem) (ho : zI_X6 t o) {P : (Int32 ⊕ Int32) → Prop} (h : zK (b_X6_lowestClosed_2 o v1 M) P) (k2 : ∀ s : Int32, P (.inl s) → zz_W G m_X6_lowestClosed t t t 2 [some (.ref o), some (.int s)] [] M Q) (kR : ∀ r : Int32, P (.inr r) → Q (some (.int r)) M) : zz_W G m_X6_lowestClosed t t t 2 [some (.ref o), some (.int v1)] [] M Q := by
  unfold b_X6_lowestClosed_2 at h
  refine r_iload_n dX6_lowestClosed_2 rfl ?_
  refine r_iconst (v := (nI 4)) dX6_lowestClosed_3 (by decide) ?_
  refine r_icmp_ge 25 dX6_lowestClosed_4 (by decide) (fun c1 => ?_) (fun c1 => ?_)
  · have h := zK_pos h c1
    refine r_iconst (v := (-1 : Int32)) dX6_lowestClosed_25 (by decide) ?_
    exact r_iret dX6_lowestClosed_26 rfl rfl rfl (kR ((-1 : Int32)) (zK_some h))
  · have h := zK_neg h c1
    refine r_aload_n dX6_lowestClosed_7 rfl ?_
    refine r_getR (k := o) (q := (o + 1)) dX6_lowestClosed_8 zf_X6_9 (zo_X6 ho) (zr_X6_0 ho).1 (zr_X6_0 ho).2.1 (zr_X6_0 ho).2.2 ?_
    refine r_iload_n dX6_lowestClosed_11 rfl ?_
    obtain ⟨g2, h⟩ := zK_gd h
    refine r_iald dX6_lowestClosed_12 (za_X6_0 ho) g2 ?_
    refine r_iconst (v := (-1 : Int32)) dX6_lowestClosed_13 (by decide) ?_
    refine r_icmp_ne 19 dX6_lowestClosed_14 (by decide) (fun c3 => ?_) (fun c3 => ?_)
    · have h := zK_neg h c3
      refine r_iinc (nI 1) (fun x4 => [some (.ref o), some (.int x4)]) dX6_lowestClosed_19 rfl (by decide) (by decide) rfl (fun _ => rfl) (fun x4 ex4 => ?_)
      have h := zK_bd h ex4
      refine r_goto 2 dX6_lowestClosed_22 (by decide) ?_
      exact k2 (x4) (zK_some h)
    · have h := zK_pos h c3
      refine r_iload_n dX6_lowestClosed_17 rfl ?_
      exact r_iret dX6_lowestClosed_18 rfl rfl rfl (kR (v1) (zK_some h))
noncomputable def j_X6_lowestClosed_2 (o : Nat) (v1 : Int32) (M : zzMem) : Option Int32 :=
  zlp (fun s : Int32 => b_X6_lowestClosed_2 o s M) v1
set_option maxHeartbeats 4000000 in
set_option maxRecDepth 100000 in
theorem w_X6_lowestClosed_2 {G : zzG} {t : Nat} {Q : Option Value → zzMem → Prop} (o : Nat) (v1 : Int32) (M : zzMem) (ho : zI_X6 t o) {P : Int32 → Prop} (h : zK (j_X6_lowestClosed_2 o v1 M) P) (kR : ∀ r : Int32, P r → Q (some (.int r)) M) : zz_W G m_X6_lowestClosed t t t 2 [some (.ref o), some (.int v1)] [] M Q := by
  unfold j_X6_lowestClosed_2 at h
  exact zK_lp h (fun s : Int32 => zz_W G m_X6_lowestClosed t t t 2 [some (.ref o), some (.int s)] [] M Q) (fun s h => x_X6_lowestClosed_2 o s M ho h (fun s p => p) kR)
noncomputable def f_X6_lowestClosed (o : Nat) (M : zzMem) : Option Int32 :=
  j_X6_lowestClosed_2 o (nI 0) M
set_option maxHeartbeats 4000000 in
set_option maxRecDepth 100000 in
theorem w_X6_lowestClosed_0 {G : zzG} {t : Nat} {Q : Option Value → zzMem → Prop} (o : Nat) (M : zzMem) (ho : zI_X6 t o) {P : Int32 → Prop} (h : zK (f_X6_lowestClosed o M) P) (kR : ∀ r : Int32, P r → Q (some (.int r)) M) : zz_W G m_X6_lowestClosed t t t 0 [some (.ref o), none] [] M Q := by
  unfold f_X6_lowestClosed at h
  refine r_iconst (v := (nI 0)) dX6_lowestClosed_0 (by decide) ?_
  refine s_istore_n ([some (.ref o), some (.int (nI 0))]) dX6_lowestClosed_1 (by decide) rfl rfl ?_
  exact w_X6_lowestClosed_2 (o) ((nI 0)) M ho h kR
set_option maxHeartbeats 4000000 in
set_option maxRecDepth 100000 in
theorem c_X6_lowestClosed {G : zzG} {t : Nat} {Q : Option Value → zzMem → Prop} (o : Nat) (M : zzMem) (ho : zI_X6 t o) {P : Int32 → Prop} (h : zK (f_X6_lowestClosed o M) P) (kR : ∀ r : Int32, P r → Q (some (.int r)) M) : zz_S G m_X6_lowestClosed t t [.ref o] M Q :=
  zz_S_of (by decide) (by decide) (Nat.le_of_ble_eq_true rfl) (w_X6_lowestClosed_0 o M ho h kR)
noncomputable def f_X6_begin (o : Nat) (a1 : Int32) (M : zzMem) : Option zzMem :=
  zgd (vp_in a1 4) (
  zbd (zz_si M (o + 1) (a1).toNatClampNeg (nI 0)) (fun M2 =>
  zbd (zz_si M2 (o + 2) (a1).toNatClampNeg (-1 : Int32)) (fun M3 =>
  some M3)))
set_option maxHeartbeats 4000000 in
set_option maxRecDepth 100000 in
theorem w_X6_begin_0 {G : zzG} {t : Nat} {Q : Option Value → zzMem → Prop} (o : Nat) (a1 : Int32) (M : zzMem) (ho : zI_X6 t o) {P : zzMem → Prop} (h : zK (f_X6_begin o a1 M) P) (kR : ∀ r : zzMem, P r → Q none r) : zz_W G m_X6_begin t t t 0 [some (.ref o), some (.int a1)] [] M Q := by
  unfold f_X6_begin at h
  refine r_aload_n dX6_begin_0 rfl ?_
  refine r_getR (k := o) (q := (o + 1)) dX6_begin_1 zf_X6_9 (zo_X6 ho) (zr_X6_0 ho).1 (zr_X6_0 ho).2.1 (zr_X6_0 ho).2.2 ?_
  refine r_iload_n dX6_begin_4 rfl ?_
  refine r_iconst (v := (nI 0)) dX6_begin_5 (by decide) ?_
  obtain ⟨g1, h⟩ := zK_gd h
  refine r_iast dX6_begin_6 (za_X6_0 ho) g1 (fun M2 eM2 => ?_)
  have h := zK_bd h eM2
  refine r_aload_n dX6_begin_7 rfl ?_
  refine r_getR (k := o) (q := (o + 2)) dX6_begin_8 zf_X6_15 (zo_X6 ho) (zr_X6_1 ho).1 (zr_X6_1 ho).2.1 (zr_X6_1 ho).2.2 ?_
  refine r_iload_n dX6_begin_11 rfl ?_
  refine r_iconst (v := (-1 : Int32)) dX6_begin_12 (by decide) ?_
  refine r_iast dX6_begin_13 (za_X6_1 ho) g1 (fun M3 eM3 => ?_)
  have h := zK_bd h eM3
  exact r_vret dX6_begin_14 rfl rfl rfl (kR (M3) (zK_some h))
set_option maxHeartbeats 4000000 in
set_option maxRecDepth 100000 in
theorem c_X6_begin {G : zzG} {t : Nat} {Q : Option Value → zzMem → Prop} (o : Nat) (a1 : Int32) (M : zzMem) (ho : zI_X6 t o) {P : zzMem → Prop} (h : zK (f_X6_begin o a1 M) P) (kR : ∀ r : zzMem, P r → Q none r) : zz_S G m_X6_begin t t [.ref o, .int a1] M Q :=
  zz_S_of (by decide) (by decide) (Nat.le_of_ble_eq_true rfl) (w_X6_begin_0 o a1 M ho h kR)
noncomputable def j_X6_openOnes_25 (o : Nat) (v2 : Int32) (s0 : Int32) (ws1 : Bool) (M : zzMem) : Option ((Int32 × Int32) ⊕ Int32) :=
  zbd ((s0 + (zb ws1))) (fun x1 =>
  zbd (v2 + (nI 1)) (fun x2 =>
  some (.inl (x1, x2))))
set_option maxHeartbeats 4000000 in
set_option maxRecDepth 100000 in
theorem w_X6_openOnes_25 {G : zzG} {t : Nat} {Q : Option Value → zzMem → Prop} (o : Nat) (v2 : Int32) (s0 : Int32) (ws1 : Bool) (M : zzMem) (ho : zI_X6 t o) {P : ((Int32 × Int32) ⊕ Int32) → Prop} (h : zK (j_X6_openOnes_25 o v2 s0 ws1 M) P) (k4 : ∀ s : (Int32 × Int32), P (.inl s) → zz_W G m_X6_openOnes t t t 4 [some (.ref o), some (.int s.1), some (.int s.2)] [] M Q) (kR : ∀ r : Int32, P (.inr r) → Q (some (.int r)) M) : zz_W G m_X6_openOnes t t t 25 [some (.ref o), none, some (.int v2)] [.int (zb ws1), .int s0] M Q := by
  unfold j_X6_openOnes_25 at h
  refine r_iadd dX6_openOnes_25 ?_
  refine r_istore_n (fun x1 => [some (.ref o), some (.int x1), some (.int v2)]) dX6_openOnes_26 (by decide) rfl (fun _ => rfl) (fun x1 ex1 => ?_)
  have h := zK_bd h ex1
  refine r_iinc (nI 1) (fun x2 => [some (.ref o), some (.int x1), some (.int x2)]) dX6_openOnes_27 rfl (by decide) (by decide) rfl (fun _ => rfl) (fun x2 ex2 => ?_)
  have h := zK_bd h ex2
  refine r_goto 4 dX6_openOnes_30 (by decide) ?_
  exact k4 ((x1, x2)) (zK_some h)
noncomputable def b_X6_openOnes_4 (o : Nat) (v1 : Int32) (v2 : Int32) (M : zzMem) : Option ((Int32 × Int32) ⊕ Int32) :=
  if (nI 4) ≤ v2 then
  (some ((.inr v1)))
  else (zgd (vp_in v2 4) (
  if (M.1 (o + 1) (v2).toNatClampNeg) = (-1 : Int32) then
  (j_X6_openOnes_25 o v2 v1 false M)
  else (j_X6_openOnes_25 o v2 v1 true M)))
set_option maxHeartbeats 4000000 in
set_option maxRecDepth 100000 in
theorem x_X6_openOnes_4 {G : zzG} {t : Nat} {Q : Option Value → zzMem → Prop} (o : Nat) (v1 : Int32) (v2 : Int32) (M : zzMem) (ho : zI_X6 t o) {P : ((Int32 × Int32) ⊕ Int32) → Prop} (h : zK (b_X6_openOnes_4 o v1 v2 M) P) (k4 : ∀ s : (Int32 × Int32), P (.inl s) → zz_W G m_X6_openOnes t t t 4 [some (.ref o), some (.int s.1), some (.int s.2)] [] M Q) (kR : ∀ r : Int32, P (.inr r) → Q (some (.int r)) M) : zz_W G m_X6_openOnes t t t 4 [some (.ref o), some (.int v1), some (.int v2)] [] M Q := by
  unfold b_X6_openOnes_4 at h
  refine r_iload_n dX6_openOnes_4 rfl ?_
  refine r_iconst (v := (nI 4)) dX6_openOnes_5 (by decide) ?_
  refine r_icmp_ge 33 dX6_openOnes_6 (by decide) (fun c1 => ?_) (fun c1 => ?_)
  · have h := zK_pos h c1
    refine r_iload_n dX6_openOnes_33 rfl ?_
    exact r_iret dX6_openOnes_34 rfl rfl rfl (kR (v1) (zK_some h))
  · have h := zK_neg h c1
    refine r_iload_n dX6_openOnes_9 rfl ?_
    refine r_aload_n dX6_openOnes_10 rfl ?_
    refine r_getR (k := o) (q := (o + 1)) dX6_openOnes_11 zf_X6_9 (zo_X6 ho) (zr_X6_0 ho).1 (zr_X6_0 ho).2.1 (zr_X6_0 ho).2.2 ?_
    refine r_iload_n dX6_openOnes_14 rfl ?_
    obtain ⟨g2, h⟩ := zK_gd h
    refine r_iald dX6_openOnes_15 (za_X6_0 ho) g2 ?_
    refine r_iconst (v := (-1 : Int32)) dX6_openOnes_16 (by decide) ?_
    refine r_icmp_ne 24 dX6_openOnes_17 (by decide) (fun c3 => ?_) (fun c3 => ?_)
    · have h := zK_neg h c3
      refine r_iconst (v := (nI 1)) dX6_openOnes_24 (by decide) ?_
      refine zz_mask [1] ?_
      exact w_X6_openOnes_25 (o) (v2) (v1) (true) M ho h k4 kR
    · have h := zK_pos h c3
      refine r_iconst (v := (nI 0)) dX6_openOnes_20 (by decide) ?_
      refine r_goto 25 dX6_openOnes_21 (by decide) ?_
      refine zz_mask [1] ?_
      exact w_X6_openOnes_25 (o) (v2) (v1) (false) M ho h k4 kR
noncomputable def j_X6_openOnes_4 (o : Nat) (v1 : Int32) (v2 : Int32) (M : zzMem) : Option Int32 :=
  zlp (fun s : (Int32 × Int32) => b_X6_openOnes_4 o s.1 s.2 M) (v1, v2)
set_option maxHeartbeats 4000000 in
set_option maxRecDepth 100000 in
theorem w_X6_openOnes_4 {G : zzG} {t : Nat} {Q : Option Value → zzMem → Prop} (o : Nat) (v1 : Int32) (v2 : Int32) (M : zzMem) (ho : zI_X6 t o) {P : Int32 → Prop} (h : zK (j_X6_openOnes_4 o v1 v2 M) P) (kR : ∀ r : Int32, P r → Q (some (.int r)) M) : zz_W G m_X6_openOnes t t t 4 [some (.ref o), some (.int v1), some (.int v2)] [] M Q := by
  unfold j_X6_openOnes_4 at h
  exact zK_lp h (fun s : (Int32 × Int32) => zz_W G m_X6_openOnes t t t 4 [some (.ref o), some (.int s.1), some (.int s.2)] [] M Q) (fun s h => x_X6_openOnes_4 o s.1 s.2 M ho h (fun s p => p) kR)
noncomputable def f_X6_openOnes (o : Nat) (M : zzMem) : Option Int32 :=
  j_X6_openOnes_4 o (nI 0) (nI 0) M
set_option maxHeartbeats 4000000 in
set_option maxRecDepth 100000 in
theorem w_X6_openOnes_0 {G : zzG} {t : Nat} {Q : Option Value → zzMem → Prop} (o : Nat) (M : zzMem) (ho : zI_X6 t o) {P : Int32 → Prop} (h : zK (f_X6_openOnes o M) P) (kR : ∀ r : Int32, P r → Q (some (.int r)) M) : zz_W G m_X6_openOnes t t t 0 [some (.ref o), none, none] [] M Q := by
  unfold f_X6_openOnes at h
  refine r_iconst (v := (nI 0)) dX6_openOnes_0 (by decide) ?_
  refine s_istore_n ([some (.ref o), some (.int (nI 0)), none]) dX6_openOnes_1 (by decide) rfl rfl ?_
  refine r_iconst (v := (nI 0)) dX6_openOnes_2 (by decide) ?_
  refine s_istore_n ([some (.ref o), some (.int (nI 0)), some (.int (nI 0))]) dX6_openOnes_3 (by decide) rfl rfl ?_
  exact w_X6_openOnes_4 (o) ((nI 0)) ((nI 0)) M ho h kR
set_option maxHeartbeats 4000000 in
set_option maxRecDepth 100000 in
theorem c_X6_openOnes {G : zzG} {t : Nat} {Q : Option Value → zzMem → Prop} (o : Nat) (M : zzMem) (ho : zI_X6 t o) {P : Int32 → Prop} (h : zK (f_X6_openOnes o M) P) (kR : ∀ r : Int32, P r → Q (some (.int r)) M) : zz_S G m_X6_openOnes t t [.ref o] M Q :=
  zz_S_of (by decide) (by decide) (Nat.le_of_ble_eq_true rfl) (w_X6_openOnes_0 o M ho h kR)
noncomputable def f_X7_isLetter (a0 : Int32) : Bool :=
  if a0 = (nI 100) then
  true
  else if a0 = (nI 103) then
  true
  else if a0 = (nI 106) then
  true
  else if a0 = (nI 110) then
  true
  else if a0 = (nI 112) then
  true
  else if a0 = (nI 115) then
  true
  else if a0 = (nI 120) then
  true
  else if a0 = (nI 121) then
  true
  else false
set_option maxHeartbeats 4000000 in
set_option maxRecDepth 100000 in
theorem w_X7_isLetter_0 {G : zzG} {t : Nat} {Q : Option Value → zzMem → Prop} (a0 : Int32) (M : zzMem)  {P : Bool → Prop} (h : P (f_X7_isLetter a0)) (kR : ∀ r : Bool, P r → Q (some (.int (zb r))) M) : zz_W G m_X7_isLetter t t t 0 [some (.int a0)] [] M Q := by
  unfold f_X7_isLetter at h
  refine r_iload_n dX7_isLetter_0 rfl ?_
  by_cases c1 : a0 = (nI 100)
  · have h := zP_pos h c1
    refine r_tabIn (off := 103) 104 dX7_isLetter_1 (by rw [c1]; first | done | decide) (by rw [c1]; first | done | decide) (by rw [c1]; first | done | decide) (by decide) ?_
    refine r_iconst (v := (nI 1)) dX7_isLetter_104 (by decide) ?_
    exact r_zret (b := true) dX7_isLetter_105 rfl rfl rfl (kR (true) h)
  · have h := zP_neg h c1
    by_cases c4 : a0 = (nI 103)
    · have h := zP_pos h c4
      refine r_tabIn (off := 103) 104 dX7_isLetter_1 (by rw [c4]; first | done | decide) (by rw [c4]; first | done | decide) (by rw [c4]; first | done | decide) (by decide) ?_
      refine r_iconst (v := (nI 1)) dX7_isLetter_104 (by decide) ?_
      exact r_zret (b := true) dX7_isLetter_105 rfl rfl rfl (kR (true) h)
    · have h := zP_neg h c4
      by_cases c7 : a0 = (nI 106)
      · have h := zP_pos h c7
        refine r_tabIn (off := 103) 104 dX7_isLetter_1 (by rw [c7]; first | done | decide) (by rw [c7]; first | done | decide) (by rw [c7]; first | done | decide) (by decide) ?_
        refine r_iconst (v := (nI 1)) dX7_isLetter_104 (by decide) ?_
        exact r_zret (b := true) dX7_isLetter_105 rfl rfl rfl (kR (true) h)
      · have h := zP_neg h c7
        by_cases c11 : a0 = (nI 110)
        · have h := zP_pos h c11
          refine r_tabIn (off := 103) 104 dX7_isLetter_1 (by rw [c11]; first | done | decide) (by rw [c11]; first | done | decide) (by rw [c11]; first | done | decide) (by decide) ?_
          refine r_iconst (v := (nI 1)) dX7_isLetter_104 (by decide) ?_
          exact r_zret (b := true) dX7_isLetter_105 rfl rfl rfl (kR (true) h)
        · have h := zP_neg h c11
          by_cases c13 : a0 = (nI 112)
          · have h := zP_pos h c13
            refine r_tabIn (off := 103) 104 dX7_isLetter_1 (by rw [c13]; first | done | decide) (by rw [c13]; first | done | decide) (by rw [c13]; first | done | decide) (by decide) ?_
            refine r_iconst (v := (nI 1)) dX7_isLetter_104 (by decide) ?_
            exact r_zret (b := true) dX7_isLetter_105 rfl rfl rfl (kR (true) h)
          · have h := zP_neg h c13
            by_cases c16 : a0 = (nI 115)
            · have h := zP_pos h c16
              refine r_tabIn (off := 103) 104 dX7_isLetter_1 (by rw [c16]; first | done | decide) (by rw [c16]; first | done | decide) (by rw [c16]; first | done | decide) (by decide) ?_
              refine r_iconst (v := (nI 1)) dX7_isLetter_104 (by decide) ?_
              exact r_zret (b := true) dX7_isLetter_105 rfl rfl rfl (kR (true) h)
            · have h := zP_neg h c16
              by_cases c21 : a0 = (nI 120)
              · have h := zP_pos h c21
                refine r_tabIn (off := 103) 104 dX7_isLetter_1 (by rw [c21]; first | done | decide) (by rw [c21]; first | done | decide) (by rw [c21]; first | done | decide) (by decide) ?_
                refine r_iconst (v := (nI 1)) dX7_isLetter_104 (by decide) ?_
                exact r_zret (b := true) dX7_isLetter_105 rfl rfl rfl (kR (true) h)
              · have h := zP_neg h c21
                by_cases c22 : a0 = (nI 121)
                · have h := zP_pos h c22
                  refine r_tabIn (off := 103) 104 dX7_isLetter_1 (by rw [c22]; first | done | decide) (by rw [c22]; first | done | decide) (by rw [c22]; first | done | decide) (by decide) ?_
                  refine r_iconst (v := (nI 1)) dX7_isLetter_104 (by decide) ?_
                  exact r_zret (b := true) dX7_isLetter_105 rfl rfl rfl (kR (true) h)
                · have h := zP_neg h c22
                  have hD : zz_W G m_X7_isLetter t t t 106 [some (.int a0)] [] M Q := by
                    refine r_iconst (v := (nI 0)) dX7_isLetter_106 (by decide) ?_
                    exact r_zret (b := false) dX7_isLetter_107 rfl rfl rfl (kR (false) h)
                  by_cases c2 : a0 = (nI 101)
                  · exact r_tabIn (off := 105) 106 dX7_isLetter_1 (by rw [c2]; first | done | decide) (by rw [c2]; first | done | decide) (by rw [c2]; first | done | decide) (by decide) hD
                  by_cases c3 : a0 = (nI 102)
                  · exact r_tabIn (off := 105) 106 dX7_isLetter_1 (by rw [c3]; first | done | decide) (by rw [c3]; first | done | decide) (by rw [c3]; first | done | decide) (by decide) hD
                  by_cases c5 : a0 = (nI 104)
                  · exact r_tabIn (off := 105) 106 dX7_isLetter_1 (by rw [c5]; first | done | decide) (by rw [c5]; first | done | decide) (by rw [c5]; first | done | decide) (by decide) hD
                  by_cases c6 : a0 = (nI 105)
                  · exact r_tabIn (off := 105) 106 dX7_isLetter_1 (by rw [c6]; first | done | decide) (by rw [c6]; first | done | decide) (by rw [c6]; first | done | decide) (by decide) hD
                  by_cases c8 : a0 = (nI 107)
                  · exact r_tabIn (off := 105) 106 dX7_isLetter_1 (by rw [c8]; first | done | decide) (by rw [c8]; first | done | decide) (by rw [c8]; first | done | decide) (by decide) hD
                  by_cases c9 : a0 = (nI 108)
                  · exact r_tabIn (off := 105) 106 dX7_isLetter_1 (by rw [c9]; first | done | decide) (by rw [c9]; first | done | decide) (by rw [c9]; first | done | decide) (by decide) hD
                  by_cases c10 : a0 = (nI 109)
                  · exact r_tabIn (off := 105) 106 dX7_isLetter_1 (by rw [c10]; first | done | decide) (by rw [c10]; first | done | decide) (by rw [c10]; first | done | decide) (by decide) hD
                  by_cases c12 : a0 = (nI 111)
                  · exact r_tabIn (off := 105) 106 dX7_isLetter_1 (by rw [c12]; first | done | decide) (by rw [c12]; first | done | decide) (by rw [c12]; first | done | decide) (by decide) hD
                  by_cases c14 : a0 = (nI 113)
                  · exact r_tabIn (off := 105) 106 dX7_isLetter_1 (by rw [c14]; first | done | decide) (by rw [c14]; first | done | decide) (by rw [c14]; first | done | decide) (by decide) hD
                  by_cases c15 : a0 = (nI 114)
                  · exact r_tabIn (off := 105) 106 dX7_isLetter_1 (by rw [c15]; first | done | decide) (by rw [c15]; first | done | decide) (by rw [c15]; first | done | decide) (by decide) hD
                  by_cases c17 : a0 = (nI 116)
                  · exact r_tabIn (off := 105) 106 dX7_isLetter_1 (by rw [c17]; first | done | decide) (by rw [c17]; first | done | decide) (by rw [c17]; first | done | decide) (by decide) hD
                  by_cases c18 : a0 = (nI 117)
                  · exact r_tabIn (off := 105) 106 dX7_isLetter_1 (by rw [c18]; first | done | decide) (by rw [c18]; first | done | decide) (by rw [c18]; first | done | decide) (by decide) hD
                  by_cases c19 : a0 = (nI 118)
                  · exact r_tabIn (off := 105) 106 dX7_isLetter_1 (by rw [c19]; first | done | decide) (by rw [c19]; first | done | decide) (by rw [c19]; first | done | decide) (by decide) hD
                  by_cases c20 : a0 = (nI 119)
                  · exact r_tabIn (off := 105) 106 dX7_isLetter_1 (by rw [c20]; first | done | decide) (by rw [c20]; first | done | decide) (by rw [c20]; first | done | decide) (by decide) hD
                  refine r_tabOut 106 dX7_isLetter_1 (zz_tab_out (n := 22) (fun i hi => ?_) (by decide)) (by decide) hD
                  exact match i, hi with
                  | 0, _ => fun e => c1 (e.trans (by decide))
                  | 1, _ => fun e => c2 (e.trans (by decide))
                  | 2, _ => fun e => c3 (e.trans (by decide))
                  | 3, _ => fun e => c4 (e.trans (by decide))
                  | 4, _ => fun e => c5 (e.trans (by decide))
                  | 5, _ => fun e => c6 (e.trans (by decide))
                  | 6, _ => fun e => c7 (e.trans (by decide))
                  | 7, _ => fun e => c8 (e.trans (by decide))
                  | 8, _ => fun e => c9 (e.trans (by decide))
                  | 9, _ => fun e => c10 (e.trans (by decide))
                  | 10, _ => fun e => c11 (e.trans (by decide))
                  | 11, _ => fun e => c12 (e.trans (by decide))
                  | 12, _ => fun e => c13 (e.trans (by decide))
                  | 13, _ => fun e => c14 (e.trans (by decide))
                  | 14, _ => fun e => c15 (e.trans (by decide))
                  | 15, _ => fun e => c16 (e.trans (by decide))
                  | 16, _ => fun e => c17 (e.trans (by decide))
                  | 17, _ => fun e => c18 (e.trans (by decide))
                  | 18, _ => fun e => c19 (e.trans (by decide))
                  | 19, _ => fun e => c20 (e.trans (by decide))
                  | 20, _ => fun e => c21 (e.trans (by decide))
                  | 21, _ => fun e => c22 (e.trans (by decide))
                  | k + 22, hk => absurd hk (by omega)
set_option maxHeartbeats 4000000 in
set_option maxRecDepth 100000 in
theorem c_X7_isLetter {G : zzG} {t : Nat} {Q : Option Value → zzMem → Prop} (a0 : Int32) (M : zzMem)  (h : Q (some (.int (zb (f_X7_isLetter a0)))) M) : zz_S G m_X7_isLetter t t [.int a0] M Q :=
  zz_S_of (by decide) (by decide) (Nat.le_of_ble_eq_true rfl) (w_X7_isLetter_0 a0 M  (P := fun r => Q (some (.int (zb r))) M) h (fun r p => p))
noncomputable def f_X8_expect (a1 : Int32) (M : zzMem) : Option zzMem :=
  (f_X8_sign M).bind (fun r1 =>
  if r1 = a1 then
  (zbd (f_X8_pass M) (fun M4 =>
  some M4))
  else (zbd (f_X8_failHere (nI 1) M) (fun M3 =>
  some M3)))
set_option maxHeartbeats 4000000 in
set_option maxRecDepth 100000 in
theorem w_X8_expect_0 {G : zzG} {t : Nat} {Q : Option Value → zzMem → Prop} (a1 : Int32) (M : zzMem) (ht : 180 ≤ t)  {P : zzMem → Prop} (h : zK (f_X8_expect a1 M) P) (kR : ∀ r : zzMem, P r → Q none r) : zz_W G m_X8_expect t t t 0 [some (.ref 1), some (.int a1)] [] M Q := by
  unfold f_X8_expect at h
  refine r_aload_n dX8_expect_0 rfl ?_
  refine kV_ir (as := []) (st := []) (k := 1) dX8_expect_1 zM_X8_sign zk_X8_36 (zo_X8 (zs_X8 ht)) (by decide) rfl ⟨Nat.le_of_ble_eq_true rfl, Nat.le_of_ble_eq_true rfl⟩ (Nat.le_of_ble_eq_true rfl) (zz_T0 rfl rfl) (fun Q' P' k h => c_X8_sign M ht h k) h (fun r1 h => ?_)
  refine r_iload_n dX8_expect_4 rfl ?_
  refine r_icmp_ne 15 dX8_expect_5 (by decide) (fun c2 => ?_) (fun c2 => ?_)
  · have h := zK_neg h c2
    refine r_aload_n dX8_expect_15 rfl ?_
    refine r_iconst (v := (nI 1)) dX8_expect_16 (by decide) ?_
    refine tV_vw (as := [.int (nI 1)]) (st := []) (k := 1) dX8_expect_17 zM_X8_failHere zk_X8_44 (zo_X8 (zs_X8 ht)) (by decide) rfl ⟨Nat.le_of_ble_eq_true rfl, Nat.le_of_ble_eq_true rfl⟩ (Nat.le_of_ble_eq_true rfl) (zz_T0 rfl rfl) (fun Q' h => c_X8_failHere ((nI 1)) M ht h) (fun M3 eM3 => ?_)
    have h := zK_bd h eM3
    exact r_vret dX8_expect_20 rfl rfl rfl (kR (M3) (zK_some h))
  · have h := zK_pos h c2
    refine r_aload_n dX8_expect_8 rfl ?_
    refine tV_vw (as := []) (st := []) (k := 1) dX8_expect_9 zM_X8_pass zk_X8_48 (zo_X8 (zs_X8 ht)) (by decide) rfl ⟨Nat.le_of_ble_eq_true rfl, Nat.le_of_ble_eq_true rfl⟩ (Nat.le_of_ble_eq_true rfl) (zz_T0 rfl rfl) (fun Q' h => c_X8_pass M ht h) (fun M4 eM4 => ?_)
    have h := zK_bd h eM4
    refine r_goto 20 dX8_expect_12 (by decide) ?_
    exact r_vret dX8_expect_20 rfl rfl rfl (kR (M4) (zK_some h))
set_option maxHeartbeats 4000000 in
set_option maxRecDepth 100000 in
theorem c_X8_expect {G : zzG} {t : Nat} {Q : Option Value → zzMem → Prop} (a1 : Int32) (M : zzMem) (ht : 180 ≤ t)  {P : zzMem → Prop} (h : zK (f_X8_expect a1 M) P) (kR : ∀ r : zzMem, P r → Q none r) : zz_S G m_X8_expect t t [.ref 1, .int a1] M Q :=
  zz_S_of (by decide) (by decide) (Nat.le_of_ble_eq_true rfl) (w_X8_expect_0 a1 M ht h kR)
noncomputable def f_X7_readStep (a2 : Int32) (M : zzMem) : Option zzMem :=
  (f_X8_sign M).bind (fun r1 =>
  zgd (vp_in a2 20) (
  zbd (zz_si M 8 (a2).toNatClampNeg r1) (fun M3 =>
  if (f_X7_isLetter (M3.1 8 (a2).toNatClampNeg)) = true then
  (zbd (f_X8_pass M3) (fun M5 =>
  if (M5.1 8 (a2).toNatClampNeg) = (nI 100) then
  ((f_X8_number (nI 0) (nI 65535) M5).bind (fun q7 => zpr q7 (fun r8 M9 =>
  zbd (zz_si M9 9 (a2).toNatClampNeg r8) (fun M10 =>
  some M10))))
  else if (M5.1 8 (a2).toNatClampNeg) = (nI 103) then
  ((f_X8_number (nI 0) (nI 65535) M5).bind (fun q12 => zpr q12 (fun r13 M14 =>
  zbd (zz_si M14 9 (a2).toNatClampNeg r13) (fun M15 =>
  some M15))))
  else if (M5.1 8 (a2).toNatClampNeg) = (nI 110) then
  ((f_X8_number (nI 0) (nI 65535) M5).bind (fun q17 => zpr q17 (fun r18 M19 =>
  zbd (zz_si M19 9 (a2).toNatClampNeg r18) (fun M20 =>
  (f_X8_expect (nI 44) M20).bind (fun M21 =>
  (f_X8_number (nI 1) (nI 60) M21).bind (fun q22 => zpr q22 (fun r23 M24 =>
  zbd (zz_si M24 10 (a2).toNatClampNeg r23) (fun M25 =>
  (f_X8_expect (nI 44) M25).bind (fun M26 =>
  (f_X8_number (nI 0) (nI 9999) M26).bind (fun q27 => zpr q27 (fun r28 M29 =>
  zbd (zz_si M29 11 (a2).toNatClampNeg r28) (fun M30 =>
  some M30))))))))))))
  else if (M5.1 8 (a2).toNatClampNeg) = (nI 112) then
  ((f_X8_number (nI 0) (nI 65535) M5).bind (fun q32 => zpr q32 (fun r33 M34 =>
  zbd (zz_si M34 9 (a2).toNatClampNeg r33) (fun M35 =>
  (f_X8_expect (nI 44) M35).bind (fun M36 =>
  (f_X8_number (nI 0) (nI 255) M36).bind (fun q37 => zpr q37 (fun r38 M39 =>
  zbd (zz_si M39 10 (a2).toNatClampNeg r38) (fun M40 =>
  some M40))))))))
  else if (M5.1 8 (a2).toNatClampNeg) = (nI 120) then
  ((f_X8_number (nI 1) (nI 60) M5).bind (fun q42 => zpr q42 (fun r43 M44 =>
  zbd (zz_si M44 9 (a2).toNatClampNeg r43) (fun M45 =>
  some M45))))
  else if (M5.1 8 (a2).toNatClampNeg) = (nI 121) then
  ((f_X8_number (nI 1) (nI 60) M5).bind (fun q47 => zpr q47 (fun r48 M49 =>
  zbd (zz_si M49 9 (a2).toNatClampNeg r48) (fun M50 =>
  some M50))))
  else (some M5)))
  else (zbd (f_X8_failHere (nI 1) M3) (fun M51 =>
  some M51)))))
set_option maxHeartbeats 4000000 in
set_option maxRecDepth 100000 in
theorem w_X7_readStep_0 {G : zzG} {t : Nat} {Q : Option Value → zzMem → Prop} (a2 : Int32) (M : zzMem) (ht : 180 ≤ t)  {P : zzMem → Prop} (h : zK (f_X7_readStep a2 M) P) (kR : ∀ r : zzMem, P r → Q none r) : zz_W G m_X7_readStep t t t 0 [some (.ref 7), some (.ref 1), some (.int a2)] [] M Q := by
  unfold f_X7_readStep at h
  refine r_aload_n dX7_readStep_0 rfl ?_
  refine r_getR (k := 7) (q := 8) dX7_readStep_1 zf_X7_11 (zo_X7 (zs_X7 ht)) (zr_X7_0 (zs_X7 ht)).1 (zr_X7_0 (zs_X7 ht)).2.1 (zr_X7_0 (zs_X7 ht)).2.2 ?_
  refine r_iload_n dX7_readStep_4 rfl ?_
  refine r_aload_n dX7_readStep_5 rfl ?_
  refine kV_ir (as := []) (st := [.int a2, .ref 8]) (k := 1) dX7_readStep_6 zM_X8_sign zk_X7_41 (zo_X8 (zs_X8 ht)) (by decide) rfl ⟨Nat.le_of_ble_eq_true rfl, Nat.le_of_ble_eq_true rfl⟩ (Nat.le_of_ble_eq_true rfl) (zz_T0 rfl rfl) (fun Q' P' k h => c_X8_sign M ht h k) h (fun r1 h => ?_)
  obtain ⟨g2, h⟩ := zK_gd h
  refine r_iast dX7_readStep_9 (za_X7_0 (zs_X7 ht)) g2 (fun M3 eM3 => ?_)
  have h := zK_bd h eM3
  refine r_aload_n dX7_readStep_10 rfl ?_
  refine r_getR (k := 7) (q := 8) dX7_readStep_11 zf_X7_11 (zo_X7 (zs_X7 ht)) (zr_X7_0 (zs_X7 ht)).1 (zr_X7_0 (zs_X7 ht)).2.1 (zr_X7_0 (zs_X7 ht)).2.2 ?_
  refine r_iload_n dX7_readStep_14 rfl ?_
  refine r_iald dX7_readStep_15 (za_X7_0 (zs_X7 ht)) g2 ?_
  refine tS_zr (v := f_X7_isLetter (M3.1 8 (a2).toNatClampNeg)) (as := [.int (M3.1 8 (a2).toNatClampNeg)]) (st := []) dX7_readStep_16 zM_X7_isLetter zk_X7_48 ⟨Nat.le_of_ble_eq_true rfl, Nat.le_of_ble_eq_true rfl⟩ (Nat.le_of_ble_eq_true rfl) (zz_T0 rfl rfl) (fun Q' h => c_X7_isLetter ((M3.1 8 (a2).toNatClampNeg)) M3 h) ?_
  refine r_ifZ_ne 28 dX7_readStep_19 (by decide) (fun c4 => ?_) (fun c4 => ?_)
  · have h := zK_pos h c4
    refine r_aload_n dX7_readStep_28 rfl ?_
    refine tV_vw (as := []) (st := []) (k := 1) dX7_readStep_29 zM_X8_pass zk_X7_52 (zo_X8 (zs_X8 ht)) (by decide) rfl ⟨Nat.le_of_ble_eq_true rfl, Nat.le_of_ble_eq_true rfl⟩ (Nat.le_of_ble_eq_true rfl) (zz_T0 rfl rfl) (fun Q' h => c_X8_pass M3 ht h) (fun M5 eM5 => ?_)
    have h := zK_bd h eM5
    refine r_aload_n dX7_readStep_32 rfl ?_
    refine r_getR (k := 7) (q := 8) dX7_readStep_33 zf_X7_11 (zo_X7 (zs_X7 ht)) (zr_X7_0 (zs_X7 ht)).1 (zr_X7_0 (zs_X7 ht)).2.1 (zr_X7_0 (zs_X7 ht)).2.2 ?_
    refine r_iload_n dX7_readStep_36 rfl ?_
    refine r_iald dX7_readStep_37 (za_X7_0 (zs_X7 ht)) g2 ?_
    by_cases c6 : (M5.1 8 (a2).toNatClampNeg) = (nI 100)
    · have h := zK_pos h c6
      refine r_lookup (off := 58) 96 dX7_readStep_38 (by decide) (by rw [c6]; first | done | decide) (by decide) ?_
      refine r_aload_n dX7_readStep_96 rfl ?_
      refine r_getR (k := 7) (q := 9) dX7_readStep_97 zf_X7_15 (zo_X7 (zs_X7 ht)) (zr_X7_1 (zs_X7 ht)).1 (zr_X7_1 (zs_X7 ht)).2.1 (zr_X7_1 (zs_X7 ht)).2.2 ?_
      refine r_iload_n dX7_readStep_100 rfl ?_
      refine r_aload_n dX7_readStep_101 rfl ?_
      refine r_iconst (v := (nI 0)) dX7_readStep_102 (by decide) ?_
      refine r_ldc (v := (nI 65535)) dX7_readStep_103 zd_X7_55 ?_
      refine kV_iw (as := [.int (nI 0), .int (nI 65535)]) (st := [.int a2, .ref 9]) (k := 1) dX7_readStep_105 zM_X8_number zk_X7_56 (zo_X8 (zs_X8 ht)) (by decide) rfl ⟨Nat.le_of_ble_eq_true rfl, Nat.le_of_ble_eq_true rfl⟩ (Nat.le_of_ble_eq_true rfl) (zz_T0 rfl rfl) (fun Q' P' k h => c_X8_number ((nI 0)) ((nI 65535)) M5 ht h (fun r p => k r.1 r.2 p)) h (fun r8 M9 h => ?_)
      have h := zK_pr h
      refine r_iast dX7_readStep_108 (za_X7_1 (zs_X7 ht)) g2 (fun M10 eM10 => ?_)
      have h := zK_bd h eM10
      refine r_goto 219 dX7_readStep_109 (by decide) ?_
      exact r_vret dX7_readStep_219 rfl rfl rfl (kR (M10) (zK_some h))
    · have h := zK_neg h c6
      by_cases c11 : (M5.1 8 (a2).toNatClampNeg) = (nI 103)
      · have h := zK_pos h c11
        refine r_lookup (off := 58) 96 dX7_readStep_38 (by decide) (by rw [c11]; first | done | decide) (by decide) ?_
        refine r_aload_n dX7_readStep_96 rfl ?_
        refine r_getR (k := 7) (q := 9) dX7_readStep_97 zf_X7_15 (zo_X7 (zs_X7 ht)) (zr_X7_1 (zs_X7 ht)).1 (zr_X7_1 (zs_X7 ht)).2.1 (zr_X7_1 (zs_X7 ht)).2.2 ?_
        refine r_iload_n dX7_readStep_100 rfl ?_
        refine r_aload_n dX7_readStep_101 rfl ?_
        refine r_iconst (v := (nI 0)) dX7_readStep_102 (by decide) ?_
        refine r_ldc (v := (nI 65535)) dX7_readStep_103 zd_X7_55 ?_
        refine kV_iw (as := [.int (nI 0), .int (nI 65535)]) (st := [.int a2, .ref 9]) (k := 1) dX7_readStep_105 zM_X8_number zk_X7_56 (zo_X8 (zs_X8 ht)) (by decide) rfl ⟨Nat.le_of_ble_eq_true rfl, Nat.le_of_ble_eq_true rfl⟩ (Nat.le_of_ble_eq_true rfl) (zz_T0 rfl rfl) (fun Q' P' k h => c_X8_number ((nI 0)) ((nI 65535)) M5 ht h (fun r p => k r.1 r.2 p)) h (fun r13 M14 h => ?_)
        have h := zK_pr h
        refine r_iast dX7_readStep_108 (za_X7_1 (zs_X7 ht)) g2 (fun M15 eM15 => ?_)
        have h := zK_bd h eM15
        refine r_goto 219 dX7_readStep_109 (by decide) ?_
        exact r_vret dX7_readStep_219 rfl rfl rfl (kR (M15) (zK_some h))
      · have h := zK_neg h c11
        by_cases c16 : (M5.1 8 (a2).toNatClampNeg) = (nI 110)
        · have h := zK_pos h c16
          refine r_lookup (off := 126) 164 dX7_readStep_38 (by decide) (by rw [c16]; first | done | decide) (by decide) ?_
          refine r_aload_n dX7_readStep_164 rfl ?_
          refine r_getR (k := 7) (q := 9) dX7_readStep_165 zf_X7_15 (zo_X7 (zs_X7 ht)) (zr_X7_1 (zs_X7 ht)).1 (zr_X7_1 (zs_X7 ht)).2.1 (zr_X7_1 (zs_X7 ht)).2.2 ?_
          refine r_iload_n dX7_readStep_168 rfl ?_
          refine r_aload_n dX7_readStep_169 rfl ?_
          refine r_iconst (v := (nI 0)) dX7_readStep_170 (by decide) ?_
          refine r_ldc (v := (nI 65535)) dX7_readStep_171 zd_X7_55 ?_
          refine kV_iw (as := [.int (nI 0), .int (nI 65535)]) (st := [.int a2, .ref 9]) (k := 1) dX7_readStep_173 zM_X8_number zk_X7_56 (zo_X8 (zs_X8 ht)) (by decide) rfl ⟨Nat.le_of_ble_eq_true rfl, Nat.le_of_ble_eq_true rfl⟩ (Nat.le_of_ble_eq_true rfl) (zz_T0 rfl rfl) (fun Q' P' k h => c_X8_number ((nI 0)) ((nI 65535)) M5 ht h (fun r p => k r.1 r.2 p)) h (fun r18 M19 h => ?_)
          have h := zK_pr h
          refine r_iast dX7_readStep_176 (za_X7_1 (zs_X7 ht)) g2 (fun M20 eM20 => ?_)
          have h := zK_bd h eM20
          refine r_aload_n dX7_readStep_177 rfl ?_
          refine r_bipush (v := (nI 44)) dX7_readStep_178 (by decide) ?_
          refine kV_vw (as := [.int (nI 44)]) (st := []) (k := 1) dX7_readStep_180 zM_X8_expect zk_X7_45 (zo_X8 (zs_X8 ht)) (by decide) rfl ⟨Nat.le_of_ble_eq_true rfl, Nat.le_of_ble_eq_true rfl⟩ (Nat.le_of_ble_eq_true rfl) (zz_T0 rfl rfl) (fun Q' P' k h => c_X8_expect ((nI 44)) M20 ht h k) h (fun M21 h => ?_)
          refine r_aload_n dX7_readStep_183 rfl ?_
          refine r_getR (k := 7) (q := 10) dX7_readStep_184 zf_X7_18 (zo_X7 (zs_X7 ht)) (zr_X7_2 (zs_X7 ht)).1 (zr_X7_2 (zs_X7 ht)).2.1 (zr_X7_2 (zs_X7 ht)).2.2 ?_
          refine r_iload_n dX7_readStep_187 rfl ?_
          refine r_aload_n dX7_readStep_188 rfl ?_
          refine r_iconst (v := (nI 1)) dX7_readStep_189 (by decide) ?_
          refine r_bipush (v := (nI 60)) dX7_readStep_190 (by decide) ?_
          refine kV_iw (as := [.int (nI 1), .int (nI 60)]) (st := [.int a2, .ref 10]) (k := 1) dX7_readStep_192 zM_X8_number zk_X7_56 (zo_X8 (zs_X8 ht)) (by decide) rfl ⟨Nat.le_of_ble_eq_true rfl, Nat.le_of_ble_eq_true rfl⟩ (Nat.le_of_ble_eq_true rfl) (zz_T0 rfl rfl) (fun Q' P' k h => c_X8_number ((nI 1)) ((nI 60)) M21 ht h (fun r p => k r.1 r.2 p)) h (fun r23 M24 h => ?_)
          have h := zK_pr h
          refine r_iast dX7_readStep_195 (za_X7_2 (zs_X7 ht)) g2 (fun M25 eM25 => ?_)
          have h := zK_bd h eM25
          refine r_aload_n dX7_readStep_196 rfl ?_
          refine r_bipush (v := (nI 44)) dX7_readStep_197 (by decide) ?_
          refine kV_vw (as := [.int (nI 44)]) (st := []) (k := 1) dX7_readStep_199 zM_X8_expect zk_X7_45 (zo_X8 (zs_X8 ht)) (by decide) rfl ⟨Nat.le_of_ble_eq_true rfl, Nat.le_of_ble_eq_true rfl⟩ (Nat.le_of_ble_eq_true rfl) (zz_T0 rfl rfl) (fun Q' P' k h => c_X8_expect ((nI 44)) M25 ht h k) h (fun M26 h => ?_)
          refine r_aload_n dX7_readStep_202 rfl ?_
          refine r_getR (k := 7) (q := 11) dX7_readStep_203 zf_X7_21 (zo_X7 (zs_X7 ht)) (zr_X7_3 (zs_X7 ht)).1 (zr_X7_3 (zs_X7 ht)).2.1 (zr_X7_3 (zs_X7 ht)).2.2 ?_
          refine r_iload_n dX7_readStep_206 rfl ?_
          refine r_aload_n dX7_readStep_207 rfl ?_
          refine r_iconst (v := (nI 0)) dX7_readStep_208 (by decide) ?_
          refine r_sipush (v := (nI 9999)) dX7_readStep_209 (by decide) ?_
          refine kV_iw (as := [.int (nI 0), .int (nI 9999)]) (st := [.int a2, .ref 11]) (k := 1) dX7_readStep_212 zM_X8_number zk_X7_56 (zo_X8 (zs_X8 ht)) (by decide) rfl ⟨Nat.le_of_ble_eq_true rfl, Nat.le_of_ble_eq_true rfl⟩ (Nat.le_of_ble_eq_true rfl) (zz_T0 rfl rfl) (fun Q' P' k h => c_X8_number ((nI 0)) ((nI 9999)) M26 ht h (fun r p => k r.1 r.2 p)) h (fun r28 M29 h => ?_)
          have h := zK_pr h
          refine r_iast dX7_readStep_215 (za_X7_3 (zs_X7 ht)) g2 (fun M30 eM30 => ?_)
          have h := zK_bd h eM30
          refine r_goto 219 dX7_readStep_216 (by decide) ?_
          exact r_vret dX7_readStep_219 rfl rfl rfl (kR (M30) (zK_some h))
        · have h := zK_neg h c16
          by_cases c31 : (M5.1 8 (a2).toNatClampNeg) = (nI 112)
          · have h := zK_pos h c31
            refine r_lookup (off := 90) 128 dX7_readStep_38 (by decide) (by rw [c31]; first | done | decide) (by decide) ?_
            refine r_aload_n dX7_readStep_128 rfl ?_
            refine r_getR (k := 7) (q := 9) dX7_readStep_129 zf_X7_15 (zo_X7 (zs_X7 ht)) (zr_X7_1 (zs_X7 ht)).1 (zr_X7_1 (zs_X7 ht)).2.1 (zr_X7_1 (zs_X7 ht)).2.2 ?_
            refine r_iload_n dX7_readStep_132 rfl ?_
            refine r_aload_n dX7_readStep_133 rfl ?_
            refine r_iconst (v := (nI 0)) dX7_readStep_134 (by decide) ?_
            refine r_ldc (v := (nI 65535)) dX7_readStep_135 zd_X7_55 ?_
            refine kV_iw (as := [.int (nI 0), .int (nI 65535)]) (st := [.int a2, .ref 9]) (k := 1) dX7_readStep_137 zM_X8_number zk_X7_56 (zo_X8 (zs_X8 ht)) (by decide) rfl ⟨Nat.le_of_ble_eq_true rfl, Nat.le_of_ble_eq_true rfl⟩ (Nat.le_of_ble_eq_true rfl) (zz_T0 rfl rfl) (fun Q' P' k h => c_X8_number ((nI 0)) ((nI 65535)) M5 ht h (fun r p => k r.1 r.2 p)) h (fun r33 M34 h => ?_)
            have h := zK_pr h
            refine r_iast dX7_readStep_140 (za_X7_1 (zs_X7 ht)) g2 (fun M35 eM35 => ?_)
            have h := zK_bd h eM35
            refine r_aload_n dX7_readStep_141 rfl ?_
            refine r_bipush (v := (nI 44)) dX7_readStep_142 (by decide) ?_
            refine kV_vw (as := [.int (nI 44)]) (st := []) (k := 1) dX7_readStep_144 zM_X8_expect zk_X7_45 (zo_X8 (zs_X8 ht)) (by decide) rfl ⟨Nat.le_of_ble_eq_true rfl, Nat.le_of_ble_eq_true rfl⟩ (Nat.le_of_ble_eq_true rfl) (zz_T0 rfl rfl) (fun Q' P' k h => c_X8_expect ((nI 44)) M35 ht h k) h (fun M36 h => ?_)
            refine r_aload_n dX7_readStep_147 rfl ?_
            refine r_getR (k := 7) (q := 10) dX7_readStep_148 zf_X7_18 (zo_X7 (zs_X7 ht)) (zr_X7_2 (zs_X7 ht)).1 (zr_X7_2 (zs_X7 ht)).2.1 (zr_X7_2 (zs_X7 ht)).2.2 ?_
            refine r_iload_n dX7_readStep_151 rfl ?_
            refine r_aload_n dX7_readStep_152 rfl ?_
            refine r_iconst (v := (nI 0)) dX7_readStep_153 (by decide) ?_
            refine r_sipush (v := (nI 255)) dX7_readStep_154 (by decide) ?_
            refine kV_iw (as := [.int (nI 0), .int (nI 255)]) (st := [.int a2, .ref 10]) (k := 1) dX7_readStep_157 zM_X8_number zk_X7_56 (zo_X8 (zs_X8 ht)) (by decide) rfl ⟨Nat.le_of_ble_eq_true rfl, Nat.le_of_ble_eq_true rfl⟩ (Nat.le_of_ble_eq_true rfl) (zz_T0 rfl rfl) (fun Q' P' k h => c_X8_number ((nI 0)) ((nI 255)) M36 ht h (fun r p => k r.1 r.2 p)) h (fun r38 M39 h => ?_)
            have h := zK_pr h
            refine r_iast dX7_readStep_160 (za_X7_2 (zs_X7 ht)) g2 (fun M40 eM40 => ?_)
            have h := zK_bd h eM40
            refine r_goto 219 dX7_readStep_161 (by decide) ?_
            exact r_vret dX7_readStep_219 rfl rfl rfl (kR (M40) (zK_some h))
          · have h := zK_neg h c31
            by_cases c41 : (M5.1 8 (a2).toNatClampNeg) = (nI 120)
            · have h := zK_pos h c41
              refine r_lookup (off := 74) 112 dX7_readStep_38 (by decide) (by rw [c41]; first | done | decide) (by decide) ?_
              refine r_aload_n dX7_readStep_112 rfl ?_
              refine r_getR (k := 7) (q := 9) dX7_readStep_113 zf_X7_15 (zo_X7 (zs_X7 ht)) (zr_X7_1 (zs_X7 ht)).1 (zr_X7_1 (zs_X7 ht)).2.1 (zr_X7_1 (zs_X7 ht)).2.2 ?_
              refine r_iload_n dX7_readStep_116 rfl ?_
              refine r_aload_n dX7_readStep_117 rfl ?_
              refine r_iconst (v := (nI 1)) dX7_readStep_118 (by decide) ?_
              refine r_bipush (v := (nI 60)) dX7_readStep_119 (by decide) ?_
              refine kV_iw (as := [.int (nI 1), .int (nI 60)]) (st := [.int a2, .ref 9]) (k := 1) dX7_readStep_121 zM_X8_number zk_X7_56 (zo_X8 (zs_X8 ht)) (by decide) rfl ⟨Nat.le_of_ble_eq_true rfl, Nat.le_of_ble_eq_true rfl⟩ (Nat.le_of_ble_eq_true rfl) (zz_T0 rfl rfl) (fun Q' P' k h => c_X8_number ((nI 1)) ((nI 60)) M5 ht h (fun r p => k r.1 r.2 p)) h (fun r43 M44 h => ?_)
              have h := zK_pr h
              refine r_iast dX7_readStep_124 (za_X7_1 (zs_X7 ht)) g2 (fun M45 eM45 => ?_)
              have h := zK_bd h eM45
              refine r_goto 219 dX7_readStep_125 (by decide) ?_
              exact r_vret dX7_readStep_219 rfl rfl rfl (kR (M45) (zK_some h))
            · have h := zK_neg h c41
              by_cases c46 : (M5.1 8 (a2).toNatClampNeg) = (nI 121)
              · have h := zK_pos h c46
                refine r_lookup (off := 74) 112 dX7_readStep_38 (by decide) (by rw [c46]; first | done | decide) (by decide) ?_
                refine r_aload_n dX7_readStep_112 rfl ?_
                refine r_getR (k := 7) (q := 9) dX7_readStep_113 zf_X7_15 (zo_X7 (zs_X7 ht)) (zr_X7_1 (zs_X7 ht)).1 (zr_X7_1 (zs_X7 ht)).2.1 (zr_X7_1 (zs_X7 ht)).2.2 ?_
                refine r_iload_n dX7_readStep_116 rfl ?_
                refine r_aload_n dX7_readStep_117 rfl ?_
                refine r_iconst (v := (nI 1)) dX7_readStep_118 (by decide) ?_
                refine r_bipush (v := (nI 60)) dX7_readStep_119 (by decide) ?_
                refine kV_iw (as := [.int (nI 1), .int (nI 60)]) (st := [.int a2, .ref 9]) (k := 1) dX7_readStep_121 zM_X8_number zk_X7_56 (zo_X8 (zs_X8 ht)) (by decide) rfl ⟨Nat.le_of_ble_eq_true rfl, Nat.le_of_ble_eq_true rfl⟩ (Nat.le_of_ble_eq_true rfl) (zz_T0 rfl rfl) (fun Q' P' k h => c_X8_number ((nI 1)) ((nI 60)) M5 ht h (fun r p => k r.1 r.2 p)) h (fun r48 M49 h => ?_)
                have h := zK_pr h
                refine r_iast dX7_readStep_124 (za_X7_1 (zs_X7 ht)) g2 (fun M50 eM50 => ?_)
                have h := zK_bd h eM50
                refine r_goto 219 dX7_readStep_125 (by decide) ?_
                exact r_vret dX7_readStep_219 rfl rfl rfl (kR (M50) (zK_some h))
              · have h := zK_neg h c46
                have hD : zz_W G m_X7_readStep t t t 219 [some (.ref 7), some (.ref 1), some (.int a2)] [] M5 Q := by
                  exact r_vret dX7_readStep_219 rfl rfl rfl (kR (M5) (zK_some h))
                exact r_lookup 219 dX7_readStep_38 (by decide) (zz_lk_out (List.forall_mem_cons.mpr ⟨fun e => c6 (Int32.toInt_inj.mp (e.trans (by decide))), (List.forall_mem_cons.mpr ⟨fun e => c11 (Int32.toInt_inj.mp (e.trans (by decide))), (List.forall_mem_cons.mpr ⟨fun e => c16 (Int32.toInt_inj.mp (e.trans (by decide))), (List.forall_mem_cons.mpr ⟨fun e => c31 (Int32.toInt_inj.mp (e.trans (by decide))), (List.forall_mem_cons.mpr ⟨fun e => c41 (Int32.toInt_inj.mp (e.trans (by decide))), (List.forall_mem_cons.mpr ⟨fun e => c46 (Int32.toInt_inj.mp (e.trans (by decide))), (fun _ hq => absurd hq List.not_mem_nil)⟩)⟩)⟩)⟩)⟩)⟩)) (by decide) hD
  · have h := zK_neg h c4
    refine r_aload_n dX7_readStep_22 rfl ?_
    refine r_iconst (v := (nI 1)) dX7_readStep_23 (by decide) ?_
    refine tV_vw (as := [.int (nI 1)]) (st := []) (k := 1) dX7_readStep_24 zM_X8_failHere zk_X7_28 (zo_X8 (zs_X8 ht)) (by decide) rfl ⟨Nat.le_of_ble_eq_true rfl, Nat.le_of_ble_eq_true rfl⟩ (Nat.le_of_ble_eq_true rfl) (zz_T0 rfl rfl) (fun Q' h => c_X8_failHere ((nI 1)) M3 ht h) (fun M51 eM51 => ?_)
    have h := zK_bd h eM51
    exact r_vret dX7_readStep_27 rfl rfl rfl (kR (M51) (zK_some h))
set_option maxHeartbeats 4000000 in
set_option maxRecDepth 100000 in
theorem c_X7_readStep {G : zzG} {t : Nat} {Q : Option Value → zzMem → Prop} (a2 : Int32) (M : zzMem) (ht : 180 ≤ t)  {P : zzMem → Prop} (h : zK (f_X7_readStep a2 M) P) (kR : ∀ r : zzMem, P r → Q none r) : zz_S G m_X7_readStep t t [.ref 7, .ref 1, .int a2] M Q :=
  zz_S_of (by decide) (by decide) (Nat.le_of_ble_eq_true rfl) (w_X7_readStep_0 a2 M ht h kR)
noncomputable def j_X7_read_101  (M : zzMem) : Option (Int32 × zzMem) :=
  some (((M.1 1 2), M))
set_option maxHeartbeats 4000000 in
set_option maxRecDepth 100000 in
theorem w_X7_read_101 {G : zzG} {t : Nat} {Q : Option Value → zzMem → Prop}  (M : zzMem) (ht : 180 ≤ t)  {P : (Int32 × zzMem) → Prop} (h : zK (j_X7_read_101  M) P) (kR : ∀ r : (Int32 × zzMem), P r → Q (some (.int r.1)) r.2) : zz_W G m_X7_read t t t 101 [none, some (.ref 1), none, none] [] M Q := by
  unfold j_X7_read_101 at h
  refine r_aload_n dX7_read_101 rfl ?_
  refine r_getI (k := 1) dX7_read_102 zf_X7_34 (zo_X8 (zs_X8 ht)) (zi_X8_2 (zs_X8 ht)) ?_
  exact r_iret dX7_read_105 rfl rfl rfl (kR (((M.1 1 2), M)) (zK_some h))
noncomputable def j_X7_read_94 (v3 : Int32) (ws0 : Bool) (M : zzMem) : Option ((Bool × Int32 × zzMem) ⊕ (Int32 × zzMem)) :=
  zbd (v3 + (nI 1)) (fun x1 =>
  some (.inl (ws0, x1, M)))
set_option maxHeartbeats 4000000 in
set_option maxRecDepth 100000 in
theorem w_X7_read_94 {G : zzG} {t : Nat} {Q : Option Value → zzMem → Prop} (v3 : Int32) (ws0 : Bool) (M : zzMem) (ht : 180 ≤ t)  {P : ((Bool × Int32 × zzMem) ⊕ (Int32 × zzMem)) → Prop} (h : zK (j_X7_read_94 v3 ws0 M) P) (k9 : ∀ s : (Bool × Int32 × zzMem), P (.inl s) → zz_W G m_X7_read t t t 9 [some (.ref 7), some (.ref 1), some (.int (zb s.1)), some (.int s.2.1)] [] s.2.2 Q) (kR : ∀ r : (Int32 × zzMem), P (.inr r) → Q (some (.int r.1)) r.2) : zz_W G m_X7_read t t t 94 [some (.ref 7), some (.ref 1), none, some (.int v3)] [.int (zb ws0)] M Q := by
  unfold j_X7_read_94 at h
  refine s_istore_n ([some (.ref 7), some (.ref 1), some (.int (zb ws0)), some (.int v3)]) dX7_read_94 (by decide) rfl rfl ?_
  refine r_iinc (nI 1) (fun x1 => [some (.ref 7), some (.ref 1), some (.int (zb ws0)), some (.int x1)]) dX7_read_95 rfl (by decide) (by decide) rfl (fun _ => rfl) (fun x1 ex1 => ?_)
  have h := zK_bd h ex1
  refine r_goto 9 dX7_read_98 (by decide) ?_
  exact k9 ((ws0, x1, M)) (zK_some h)
noncomputable def j_X7_read_71 (v3 : Int32) (ws0 : Bool) (M : zzMem) : Option ((Bool × Int32 × zzMem) ⊕ (Int32 × zzMem)) :=
  if ws0 = true then
  ((f_X8_expect (nI 59) M).bind (fun M3 =>
  if (M3.1 1 2) = 0 then
  (j_X7_read_94 v3 true M3)
  else (j_X7_read_94 v3 false M3)))
  else (zbd (v3 + (nI 1)) (fun x2 =>
  some (.inl (ws0, x2, M))))
set_option maxHeartbeats 4000000 in
set_option maxRecDepth 100000 in
theorem w_X7_read_71 {G : zzG} {t : Nat} {Q : Option Value → zzMem → Prop} (v3 : Int32) (ws0 : Bool) (M : zzMem) (ht : 180 ≤ t)  {P : ((Bool × Int32 × zzMem) ⊕ (Int32 × zzMem)) → Prop} (h : zK (j_X7_read_71 v3 ws0 M) P) (k9 : ∀ s : (Bool × Int32 × zzMem), P (.inl s) → zz_W G m_X7_read t t t 9 [some (.ref 7), some (.ref 1), some (.int (zb s.1)), some (.int s.2.1)] [] s.2.2 Q) (kR : ∀ r : (Int32 × zzMem), P (.inr r) → Q (some (.int r.1)) r.2) : zz_W G m_X7_read t t t 71 [some (.ref 7), some (.ref 1), none, some (.int v3)] [.int (zb ws0)] M Q := by
  unfold j_X7_read_71 at h
  refine s_istore_n ([some (.ref 7), some (.ref 1), some (.int (zb ws0)), some (.int v3)]) dX7_read_71 (by decide) rfl rfl ?_
  refine r_iload_n dX7_read_72 rfl ?_
  refine r_ifZ_eq 95 dX7_read_73 (by decide) (fun c1 => ?_) (fun c1 => ?_)
  · have h := zK_neg h c1
    refine r_iinc (nI 1) (fun x2 => [some (.ref 7), some (.ref 1), some (.int (zb ws0)), some (.int x2)]) dX7_read_95 rfl (by decide) (by decide) rfl (fun _ => rfl) (fun x2 ex2 => ?_)
    have h := zK_bd h ex2
    refine r_goto 9 dX7_read_98 (by decide) ?_
    exact k9 ((ws0, x2, M)) (zK_some h)
  · have h := zK_pos h c1
    refine r_aload_n dX7_read_76 rfl ?_
    refine r_bipush (v := (nI 59)) dX7_read_77 (by decide) ?_
    refine kV_vw (as := [.int (nI 59)]) (st := []) (k := 1) dX7_read_79 zM_X8_expect zk_X7_45 (zo_X8 (zs_X8 ht)) (by decide) rfl ⟨Nat.le_of_ble_eq_true rfl, Nat.le_of_ble_eq_true rfl⟩ (Nat.le_of_ble_eq_true rfl) (zz_T0 rfl rfl) (fun Q' P' k h => c_X8_expect ((nI 59)) M ht h k) h (fun M3 h => ?_)
    refine r_aload_n dX7_read_82 rfl ?_
    refine r_getI (k := 1) dX7_read_83 zf_X7_34 (zo_X8 (zs_X8 ht)) (zi_X8_2 (zs_X8 ht)) ?_
    refine r_if_ne 93 dX7_read_86 (by decide) (fun c4 => ?_) (fun c4 => ?_)
    · have h := zK_neg h c4
      refine r_iconst (v := (nI 0)) dX7_read_93 (by decide) ?_
      refine zz_mask [2] ?_
      exact w_X7_read_94 (v3) (false) M3 ht h k9 kR
    · have h := zK_pos h c4
      refine r_iconst (v := (nI 1)) dX7_read_89 (by decide) ?_
      refine r_goto 94 dX7_read_90 (by decide) ?_
      refine zz_mask [2] ?_
      exact w_X7_read_94 (v3) (true) M3 ht h k9 kR
noncomputable def j_X7_read_70 (v3 : Int32) (M : zzMem) : Option ((Bool × Int32 × zzMem) ⊕ (Int32 × zzMem)) :=
  j_X7_read_71 v3 false M
set_option maxHeartbeats 4000000 in
set_option maxRecDepth 100000 in
theorem w_X7_read_70 {G : zzG} {t : Nat} {Q : Option Value → zzMem → Prop} (v3 : Int32) (M : zzMem) (ht : 180 ≤ t)  {P : ((Bool × Int32 × zzMem) ⊕ (Int32 × zzMem)) → Prop} (h : zK (j_X7_read_70 v3 M) P) (k9 : ∀ s : (Bool × Int32 × zzMem), P (.inl s) → zz_W G m_X7_read t t t 9 [some (.ref 7), some (.ref 1), some (.int (zb s.1)), some (.int s.2.1)] [] s.2.2 Q) (kR : ∀ r : (Int32 × zzMem), P (.inr r) → Q (some (.int r.1)) r.2) : zz_W G m_X7_read t t t 70 [some (.ref 7), some (.ref 1), none, some (.int v3)] [] M Q := by
  unfold j_X7_read_70 at h
  refine r_iconst (v := (nI 0)) dX7_read_70 (by decide) ?_
  exact w_X7_read_71 (v3) (false) M ht h k9 kR
noncomputable def b_X7_read_9 (w2 : Bool) (v3 : Int32) (M : zzMem) : Option ((Bool × Int32 × zzMem) ⊕ (Int32 × zzMem)) :=
  if (nI 20) < v3 then
  (zup (j_X7_read_101  M))
  else (if w2 = true then
  (if v3 = (nI 20) then
  (zbd (f_X8_failHere (nI 4) M) (fun M9 =>
  some ((.inr ((M9.1 1 2), M9)))))
  else ((f_X7_readStep v3 M).bind (fun M4 =>
  zbd (zz_si M4 7 4 ((M4.1 7 4) + (nI 1))) (fun M5 =>
  if (M5.1 1 2) = 0 then
  ((f_X8_sign M5).bind (fun r7 =>
  if r7 = (-1 : Int32) then
  (j_X7_read_70 v3 M5)
  else (j_X7_read_71 v3 true M5)))
  else (j_X7_read_70 v3 M5)))))
  else (zup (j_X7_read_101  M)))
set_option maxHeartbeats 4000000 in
set_option maxRecDepth 100000 in
theorem x_X7_read_9 {G : zzG} {t : Nat} {Q : Option Value → zzMem → Prop} (w2 : Bool) (v3 : Int32) (M : zzMem) (ht : 180 ≤ t)  {P : ((Bool × Int32 × zzMem) ⊕ (Int32 × zzMem)) → Prop} (h : zK (b_X7_read_9 w2 v3 M) P) (k9 : ∀ s : (Bool × Int32 × zzMem), P (.inl s) → zz_W G m_X7_read t t t 9 [some (.ref 7), some (.ref 1), some (.int (zb s.1)), some (.int s.2.1)] [] s.2.2 Q) (kR : ∀ r : (Int32 × zzMem), P (.inr r) → Q (some (.int r.1)) r.2) : zz_W G m_X7_read t t t 9 [some (.ref 7), some (.ref 1), some (.int (zb w2)), some (.int v3)] [] M Q := by
  unfold b_X7_read_9 at h
  refine r_iload_n dX7_read_9 rfl ?_
  refine r_bipush (v := (nI 20)) dX7_read_10 (by decide) ?_
  refine r_icmp_gt 101 dX7_read_12 (by decide) (fun c1 => ?_) (fun c1 => ?_)
  · have h := zK_pos h c1
    refine zz_mask [0, 2, 3] ?_
    exact w_X7_read_101  M ht (zK_up h) kR
  · have h := zK_neg h c1
    refine r_iload_n dX7_read_15 rfl ?_
    refine r_ifZ_eq 101 dX7_read_16 (by decide) (fun c2 => ?_) (fun c2 => ?_)
    · have h := zK_neg h c2
      refine zz_mask [0, 2, 3] ?_
      exact w_X7_read_101  M ht (zK_up h) kR
    · have h := zK_pos h c2
      refine r_iload_n dX7_read_19 rfl ?_
      refine r_bipush (v := (nI 20)) dX7_read_20 (by decide) ?_
      refine r_icmp_ne 35 dX7_read_22 (by decide) (fun c3 => ?_) (fun c3 => ?_)
      · have h := zK_neg h c3
        refine r_aload_n dX7_read_35 rfl ?_
        refine r_aload_n dX7_read_36 rfl ?_
        refine r_iload_n dX7_read_37 rfl ?_
        refine kV_vw (as := [.ref 1, .int v3]) (st := []) (k := 7) dX7_read_38 zM_X7_readStep zk_X7_37 (zo_X7 (zs_X7 ht)) (by decide) rfl ⟨Nat.le_of_ble_eq_true rfl, Nat.le_of_ble_eq_true rfl⟩ (Nat.le_of_ble_eq_true rfl) (zz_T0 rfl rfl) (fun Q' P' k h => c_X7_readStep (v3) M ht h k) h (fun M4 h => ?_)
        refine r_aload_n dX7_read_41 rfl ?_
        refine r_dup dX7_read_42 rfl ?_
        refine r_getI (k := 7) dX7_read_43 zf_X7_24 (zo_X7 (zs_X7 ht)) (zi_X7_4 (zs_X7 ht)) ?_
        refine r_iconst (v := (nI 1)) dX7_read_46 (by decide) ?_
        refine r_iadd dX7_read_47 ?_
        refine r_putI (k := 7) dX7_read_48 zp_X7_24 (zo_X7 (zs_X7 ht)) (zi_X7_4 (zs_X7 ht)) rfl rfl (fun M5 eM5 => ?_)
        have h := zK_bd h eM5
        refine r_aload_n dX7_read_51 rfl ?_
        refine r_getI (k := 1) dX7_read_52 zf_X7_34 (zo_X8 (zs_X8 ht)) (zi_X8_2 (zs_X8 ht)) ?_
        refine r_if_ne 70 dX7_read_55 (by decide) (fun c6 => ?_) (fun c6 => ?_)
        · have h := zK_neg h c6
          refine zz_mask [2] ?_
          exact w_X7_read_70 (v3) M5 ht h k9 kR
        · have h := zK_pos h c6
          refine r_aload_n dX7_read_58 rfl ?_
          refine kV_ir (as := []) (st := []) (k := 1) dX7_read_59 zM_X8_sign zk_X7_41 (zo_X8 (zs_X8 ht)) (by decide) rfl ⟨Nat.le_of_ble_eq_true rfl, Nat.le_of_ble_eq_true rfl⟩ (Nat.le_of_ble_eq_true rfl) (zz_T0 rfl rfl) (fun Q' P' k h => c_X8_sign M5 ht h k) h (fun r7 h => ?_)
          refine r_iconst (v := (-1 : Int32)) dX7_read_62 (by decide) ?_
          refine r_icmp_eq 70 dX7_read_63 (by decide) (fun c8 => ?_) (fun c8 => ?_)
          · have h := zK_pos h c8
            refine zz_mask [2] ?_
            exact w_X7_read_70 (v3) M5 ht h k9 kR
          · have h := zK_neg h c8
            refine r_iconst (v := (nI 1)) dX7_read_66 (by decide) ?_
            refine r_goto 71 dX7_read_67 (by decide) ?_
            refine zz_mask [2] ?_
            exact w_X7_read_71 (v3) (true) M5 ht h k9 kR
      · have h := zK_pos h c3
        refine r_aload_n dX7_read_25 rfl ?_
        refine r_iconst (v := (nI 4)) dX7_read_26 (by decide) ?_
        refine tV_vw (as := [.int (nI 4)]) (st := []) (k := 1) dX7_read_27 zM_X8_failHere zk_X7_28 (zo_X8 (zs_X8 ht)) (by decide) rfl ⟨Nat.le_of_ble_eq_true rfl, Nat.le_of_ble_eq_true rfl⟩ (Nat.le_of_ble_eq_true rfl) (zz_T0 rfl rfl) (fun Q' h => c_X8_failHere ((nI 4)) M ht h) (fun M9 eM9 => ?_)
        have h := zK_bd h eM9
        refine r_aload_n dX7_read_30 rfl ?_
        refine r_getI (k := 1) dX7_read_31 zf_X7_34 (zo_X8 (zs_X8 ht)) (zi_X8_2 (zs_X8 ht)) ?_
        exact r_iret dX7_read_34 rfl rfl rfl (kR (((M9.1 1 2), M9)) (zK_some h))
noncomputable def j_X7_read_9 (w2 : Bool) (v3 : Int32) (M : zzMem) : Option (Int32 × zzMem) :=
  zlp (fun s : (Bool × Int32 × zzMem) => b_X7_read_9 s.1 s.2.1 s.2.2) (w2, v3, M)
set_option maxHeartbeats 4000000 in
set_option maxRecDepth 100000 in
theorem w_X7_read_9 {G : zzG} {t : Nat} {Q : Option Value → zzMem → Prop} (w2 : Bool) (v3 : Int32) (M : zzMem) (ht : 180 ≤ t)  {P : (Int32 × zzMem) → Prop} (h : zK (j_X7_read_9 w2 v3 M) P) (kR : ∀ r : (Int32 × zzMem), P r → Q (some (.int r.1)) r.2) : zz_W G m_X7_read t t t 9 [some (.ref 7), some (.ref 1), some (.int (zb w2)), some (.int v3)] [] M Q := by
  unfold j_X7_read_9 at h
  exact zK_lp h (fun s : (Bool × Int32 × zzMem) => zz_W G m_X7_read t t t 9 [some (.ref 7), some (.ref 1), some (.int (zb s.1)), some (.int s.2.1)] [] s.2.2 Q) (fun s h => x_X7_read_9 s.1 s.2.1 s.2.2 ht h (fun s p => p) kR)
noncomputable def f_X7_read  (M : zzMem) : Option (Int32 × zzMem) :=
  zbd (zz_si M 7 4 (nI 0)) (fun M1 =>
  j_X7_read_9 true (nI 0) M1)
set_option maxHeartbeats 4000000 in
set_option maxRecDepth 100000 in
theorem w_X7_read_0 {G : zzG} {t : Nat} {Q : Option Value → zzMem → Prop}  (M : zzMem) (ht : 180 ≤ t)  {P : (Int32 × zzMem) → Prop} (h : zK (f_X7_read  M) P) (kR : ∀ r : (Int32 × zzMem), P r → Q (some (.int r.1)) r.2) : zz_W G m_X7_read t t t 0 [some (.ref 7), some (.ref 1), none, none] [] M Q := by
  unfold f_X7_read at h
  refine r_aload_n dX7_read_0 rfl ?_
  refine r_iconst (v := (nI 0)) dX7_read_1 (by decide) ?_
  refine r_putI (k := 7) dX7_read_2 zp_X7_24 (zo_X7 (zs_X7 ht)) (zi_X7_4 (zs_X7 ht)) rfl rfl (fun M1 eM1 => ?_)
  have h := zK_bd h eM1
  refine r_iconst (v := (nI 1)) dX7_read_5 (by decide) ?_
  refine s_istore_n ([some (.ref 7), some (.ref 1), some (.int (nI 1)), none]) dX7_read_6 (by decide) rfl rfl ?_
  refine r_iconst (v := (nI 0)) dX7_read_7 (by decide) ?_
  refine s_istore_n ([some (.ref 7), some (.ref 1), some (.int (nI 1)), some (.int (nI 0))]) dX7_read_8 (by decide) rfl rfl ?_
  exact w_X7_read_9 (true) ((nI 0)) M1 ht h kR
set_option maxHeartbeats 4000000 in
set_option maxRecDepth 100000 in
theorem c_X7_read {G : zzG} {t : Nat} {Q : Option Value → zzMem → Prop}  (M : zzMem) (ht : 180 ≤ t)  {P : (Int32 × zzMem) → Prop} (h : zK (f_X7_read  M) P) (kR : ∀ r : (Int32 × zzMem), P r → Q (some (.int r.1)) r.2) : zz_S G m_X7_read t t [.ref 7, .ref 1] M Q :=
  zz_S_of (by decide) (by decide) (Nat.le_of_ble_eq_true rfl) (w_X7_read_0  M ht h kR)
