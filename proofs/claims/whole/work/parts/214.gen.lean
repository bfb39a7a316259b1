noncomputable def j_X10_check_75 (v3 : Int32) (M : zzMem) : Option ((Int32 × Int32) ⊕ (Int32 × zzMem)) :=
  zbd (v3 + (-1 : Int32)) (fun x1 =>
  some (.inl (v3, x1)))
set_option maxHeartbeats 4000000 in
set_option maxRecDepth 100000 in
theorem w_X10_check_75 {G : zzG} {t : Nat} {Q : Option Value → zzMem → Prop} (v3 : Int32) (M : zzMem) (ht : 180 ≤ t)  {P : ((Int32 × Int32) ⊕ (Int32 × zzMem)) → Prop} (h : zK (j_X10_check_75 v3 M) P) (k32 : ∀ s : (Int32 × Int32), P (.inl s) → zz_W G m_X10_check t t t 32 [some (.ref 73), none, some (.int s.1), some (.int s.2)] [] M Q) (kR : ∀ r : (Int32 × zzMem), P (.inr r) → Q (some (.int r.1)) r.2) : zz_W G m_X10_check t t t 75 [some (.ref 73), none, none, some (.int v3)] [] M Q := by
  unfold j_X10_check_75 at h
  refine r_iload_n dX10_check_75 rfl ?_
  refine s_istore_n ([some (.ref 73), none, some (.int v3), some (.int v3)]) dX10_check_76 (by decide) rfl rfl ?_
  refine r_iinc (-1 : Int32) (fun x1 => [some (.ref 73), none, some (.int v3), some (.int x1)]) dX10_check_77 rfl (by decide) (by decide) rfl (fun _ => rfl) (fun x1 ex1 => ?_)
  have h := zK_bd h ex1
  refine r_goto 32 dX10_check_80 (by decide) ?_
  exact k32 ((v3, x1)) (zK_some h)
noncomputable def b_X10_check_32 (v2 : Int32) (v3 : Int32) (M : zzMem) : Option ((Int32 × Int32) ⊕ (Int32 × zzMem)) :=
  if v3 < 0 then
  (zbd (zz_si M 73 6 (nI 0)) (fun M2 =>
  some ((.inr (v2, M2)))))
  else (if (M.1 74 7) ≤ v3 then
  (j_X10_check_75 v3 M)
  else (zgd (vp_in v3 320) (
  zgd (vp_in v3 300) (
  zgd (vp_in ((nI 340) + (M.1 84 (v3).toNatClampNeg)) 5676) (
  if ((M.1 75 (v3).toNatClampNeg) &&& (nI 255)) = (M.1 74 (((nI 340) + (M.1 84 (v3).toNatClampNeg))).toNatClampNeg) then
  (zbd (v3 + (-1 : Int32)) (fun x8 =>
  some (.inl (v2, x8))))
  else (j_X10_check_75 v3 M))))))
set_option maxHeartbeats 4000000 in
set_option maxRecDepth 100000 in
theorem x_X10_check_32 {G : zzG} {t : Nat} {Q : Option Value → zzMem → Prop} (v2 : Int32) (v3 : Int32) (M : zzMem) (ht : 180 ≤ t)  {P : ((Int32 × Int32) ⊕ (Int32 × zzMem)) → Prop} (h : zK (b_X10_check_32 v2 v3 M) P) (k32 : ∀ s : (Int32 × Int32), P (.inl s) → zz_W G m_X10_check t t t 32 [some (.ref 73), none, some (.int s.1), some (.int s.2)] [] M Q) (kR : ∀ r : (Int32 × zzMem), P (.inr r) → Q (some (.int r.1)) r.2) : zz_W G m_X10_check t t t 32 [some (.ref 73), none, some (.int v2), some (.int v3)] [] M Q := by
  unfold b_X10_check_32 at h
  refine r_iload_n dX10_check_32 rfl ?_
  refine r_if_lt 83 dX10_check_33 (by decide) (fun c1 => ?_) (fun c1 => ?_)
  · have h := zK_pos h c1
    refine r_aload_n dX10_check_83 rfl ?_
    refine r_iconst (v := (nI 0)) dX10_check_84 (by decide) ?_
    refine r_putI (k := 73) dX10_check_85 zp_X10_71 (zo_X10 (zs_X10 ht)) (zi_X10_6 (zs_X10 ht)) rfl rfl (fun M2 eM2 => ?_)
    have h := zK_bd h eM2
    refine r_iload_n dX10_check_88 rfl ?_
    exact r_iret dX10_check_89 rfl rfl rfl (kR ((v2, M2)) (zK_some h))
  · have h := zK_neg h c1
    refine r_iload_n dX10_check_36 rfl ?_
    refine r_aload_n dX10_check_37 rfl ?_
    refine r_getR (k := 73) (q := 74) dX10_check_38 zf_X10_7 (zo_X10 (zs_X10 ht)) (zr_X10_0 (zs_X10 ht)).1 (zr_X10_0 (zs_X10 ht)).2.1 (zr_X10_0 (zs_X10 ht)).2.2 ?_
    refine r_bipush (v := (nI 7)) dX10_check_41 (by decide) ?_
    refine r_ialdc (j := 7) dX10_check_43 (za_X10_0 (zs_X10 ht)) rfl rfl ?_
    refine r_icmp_ge 75 dX10_check_44 (by decide) (fun c3 => ?_) (fun c3 => ?_)
    · have h := zK_pos h c3
      refine zz_mask [2] ?_
      exact w_X10_check_75 (v3) M ht h k32 kR
    · have h := zK_neg h c3
      refine r_aload_n dX10_check_47 rfl ?_
      refine r_getR (k := 73) (q := 75) dX10_check_48 zf_X10_13 (zo_X10 (zs_X10 ht)) (zr_X10_2 (zs_X10 ht)).1 (zr_X10_2 (zs_X10 ht)).2.1 (zr_X10_2 (zs_X10 ht)).2.2 ?_
      refine r_iload_n dX10_check_51 rfl ?_
      obtain ⟨g4, h⟩ := zK_gd h
      refine r_bald dX10_check_52 (za_X10_2 (zs_X10 ht)) g4 ?_
      refine r_sipush (v := (nI 255)) dX10_check_53 (by decide) ?_
      refine r_iand dX10_check_56 ?_
      refine r_aload_n dX10_check_57 rfl ?_
      refine r_getR (k := 73) (q := 74) dX10_check_58 zf_X10_7 (zo_X10 (zs_X10 ht)) (zr_X10_0 (zs_X10 ht)).1 (zr_X10_0 (zs_X10 ht)).2.1 (zr_X10_0 (zs_X10 ht)).2.2 ?_
      refine r_sipush (v := (nI 340)) dX10_check_61 (by decide) ?_
      refine r_aload_n dX10_check_64 rfl ?_
      refine r_getR (k := 73) (q := 84) dX10_check_65 zf_X10_41 (zo_X10 (zs_X10 ht)) (zr_X10_21 (zs_X10 ht)).1 (zr_X10_21 (zs_X10 ht)).2.1 (zr_X10_21 (zs_X10 ht)).2.2 ?_
      refine r_iload_n dX10_check_68 rfl ?_
      obtain ⟨g5, h⟩ := zK_gd h
      refine r_iald dX10_check_69 (za_X10_21 (zs_X10 ht)) g5 ?_
      refine r_iadd dX10_check_70 ?_
      obtain ⟨g6, h⟩ := zK_gd h
      refine r_iald dX10_check_71 (za_X10_0 (zs_X10 ht)) g6 ?_
      refine r_icmp_eq 77 dX10_check_72 (by decide) (fun c7 => ?_) (fun c7 => ?_)
      · have h := zK_pos h c7
        refine r_iinc (-1 : Int32) (fun x8 => [some (.ref 73), none, some (.int v2), some (.int x8)]) dX10_check_77 rfl (by decide) (by decide) rfl (fun _ => rfl) (fun x8 ex8 => ?_)
        have h := zK_bd h ex8
        refine r_goto 32 dX10_check_80 (by decide) ?_
        exact k32 ((v2, x8)) (zK_some h)
      · have h := zK_neg h c7
        refine zz_mask [2] ?_
        exact w_X10_check_75 (v3) M ht h k32 kR
noncomputable def j_X10_check_32 (v2 : Int32) (v3 : Int32) (M : zzMem) : Option (Int32 × zzMem) :=
  zlp (fun s : (Int32 × Int32) => b_X10_check_32 s.1 s.2 M) (v2, v3)
set_option maxHeartbeats 4000000 in
set_option maxRecDepth 100000 in
theorem w_X10_check_32 {G : zzG} {t : Nat} {Q : Option Value → zzMem → Prop} (v2 : Int32) (v3 : Int32) (M : zzMem) (ht : 180 ≤ t)  {P : (Int32 × zzMem) → Prop} (h : zK (j_X10_check_32 v2 v3 M) P) (kR : ∀ r : (Int32 × zzMem), P r → Q (some (.int r.1)) r.2) : zz_W G m_X10_check t t t 32 [some (.ref 73), none, some (.int v2), some (.int v3)] [] M Q := by
  unfold j_X10_check_32 at h
  exact zK_lp h (fun s : (Int32 × Int32) => zz_W G m_X10_check t t t 32 [some (.ref 73), none, some (.int s.1), some (.int s.2)] [] M Q) (fun s h => x_X10_check_32 s.1 s.2 M ht h (fun s p => p) kR)
noncomputable def f_X10_check (a1 : Int32) (M : zzMem) : Option (Int32 × zzMem) :=
  if (f_X10_in a1 (nI 0) (nI 300)) = true then
  (if a1 ≤ (M.1 73 6) then
  ((f_X10_orders M).bind (fun M3 =>
  zbd ((a1 - (nI 1))) (fun x4 =>
  j_X10_check_32 (-1 : Int32) x4 M3)))
  else (some (((-2 : Int32), M))))
  else (some (((-2 : Int32), M)))
set_option maxHeartbeats 4000000 in
set_option maxRecDepth 100000 in
theorem w_X10_check_0 {G : zzG} {t : Nat} {Q : Option Value → zzMem → Prop} (a1 : Int32) (M : zzMem) (ht : 180 ≤ t)  {P : (Int32 × zzMem) → Prop} (h : zK (f_X10_check a1 M) P) (kR : ∀ r : (Int32 × zzMem), P r → Q (some (.int r.1)) r.2) : zz_W G m_X10_check t t t 0 [some (.ref 73), some (.int a1), none, none] [] M Q := by
  unfold f_X10_check at h
  refine r_iload_n dX10_check_0 rfl ?_
  refine r_iconst (v := (nI 0)) dX10_check_1 (by decide) ?_
  refine r_sipush (v := (nI 300)) dX10_check_2 (by decide) ?_
  refine tS_zr (v := f_X10_in a1 (nI 0) (nI 300)) (as := [.int a1, .int (nI 0), .int (nI 300)]) (st := []) dX10_check_5 zM_X10_in zk_X10_67 ⟨Nat.le_of_ble_eq_true rfl, Nat.le_of_ble_eq_true rfl⟩ (Nat.le_of_ble_eq_true rfl) (zz_T0 rfl rfl) (fun Q' h => c_X10_in (a1) ((nI 0)) ((nI 300)) M h) ?_
  refine r_ifZ_eq 19 dX10_check_8 (by decide) (fun c1 => ?_) (fun c1 => ?_)
  · have h := zK_neg h c1
    refine r_bipush (v := (-2 : Int32)) dX10_check_19 (by decide) ?_
    exact r_iret dX10_check_21 rfl rfl rfl (kR (((-2 : Int32), M)) (zK_some h))
  · have h := zK_pos h c1
    refine r_iload_n dX10_check_11 rfl ?_
    refine r_aload_n dX10_check_12 rfl ?_
    refine r_getI (k := 73) dX10_check_13 zf_X10_71 (zo_X10 (zs_X10 ht)) (zi_X10_6 (zs_X10 ht)) ?_
    refine r_icmp_le 22 dX10_check_16 (by decide) (fun c2 => ?_) (fun c2 => ?_)
    · have h := zK_pos h c2
      refine r_aload_n dX10_check_22 rfl ?_
      refine kV_vw (as := []) (st := []) (k := 73) dX10_check_23 zM_X10_orders zk_X10_256 (zo_X10 (zs_X10 ht)) (by decide) rfl ⟨Nat.le_of_ble_eq_true rfl, Nat.le_of_ble_eq_true rfl⟩ (Nat.le_of_ble_eq_true rfl) (zz_T0 rfl rfl) (fun Q' P' k h => c_X10_orders M ht h k) h (fun M3 h => ?_)
      refine r_iconst (v := (-1 : Int32)) dX10_check_26 (by decide) ?_
      refine s_istore_n ([some (.ref 73), some (.int a1), some (.int (-1 : Int32)), none]) dX10_check_27 (by decide) rfl rfl ?_
      refine r_iload_n dX10_check_28 rfl ?_
      refine r_iconst (v := (nI 1)) dX10_check_29 (by decide) ?_
      refine r_isub dX10_check_30 ?_
      refine r_istore_n (fun x4 => [some (.ref 73), some (.int a1), some (.int (-1 : Int32)), some (.int x4)]) dX10_check_31 (by decide) rfl (fun _ => rfl) (fun x4 ex4 => ?_)
      have h := zK_bd h ex4
      refine zz_mask [1] ?_
      exact w_X10_check_32 ((-1 : Int32)) (x4) M3 ht h kR
    · have h := zK_neg h c2
      refine r_bipush (v := (-2 : Int32)) dX10_check_19 (by decide) ?_
      exact r_iret dX10_check_21 rfl rfl rfl (kR (((-2 : Int32), M)) (zK_some h))
set_option maxHeartbeats 4000000 in
set_option maxRecDepth 100000 in
theorem c_X10_check {G : zzG} {t : Nat} {Q : Option Value → zzMem → Prop} (a1 : Int32) (M : zzMem) (ht : 180 ≤ t)  {P : (Int32 × zzMem) → Prop} (h : zK (f_X10_check a1 M) P) (kR : ∀ r : (Int32 × zzMem), P r → Q (some (.int r.1)) r.2) : zz_S G m_X10_check t t [.ref 73, .int a1] M Q :=
  zz_S_of (by decide) (by decide) (Nat.le_of_ble_eq_true rfl) (w_X10_check_0 a1 M ht h kR)
noncomputable def f_X10_count (a1 : Int32) (M : zzMem) : Option Int32 :=
  if a1 = 0 then
  (some ((M.1 74 7)))
  else (if a1 = (nI 1) then
  ((f_X10_buckets M).bind (fun r7 =>
  some r7))
  else (if a1 = (nI 2) then
  (some ((M.1 73 6)))
  else (if a1 = (nI 3) then
  (some ((M.1 74 12)))
  else (if a1 = (nI 4) then
  ((f_X10_sizeOf (M.1 74 14)).bind (fun r6 =>
  some r6))
  else (some ((-1 : Int32)))))))
set_option maxHeartbeats 4000000 in
set_option maxRecDepth 100000 in
theorem w_X10_count_0 {G : zzG} {t : Nat} {Q : Option Value → zzMem → Prop} (a1 : Int32) (M : zzMem) (ht : 180 ≤ t)  {P : Int32 → Prop} (h : zK (f_X10_count a1 M) P) (kR : ∀ r : Int32, P r → Q (some (.int r)) M) : zz_W G m_X10_count t t t 0 [some (.ref 73), some (.int a1)] [] M Q := by
  unfold f_X10_count at h
  refine r_iload_n dX10_count_0 rfl ?_
  refine r_if_ne 14 dX10_count_1 (by decide) (fun c1 => ?_) (fun c1 => ?_)
  · have h := zK_neg h c1
    refine r_iload_n dX10_count_14 rfl ?_
    refine r_iconst (v := (nI 1)) dX10_count_15 (by decide) ?_
    refine r_icmp_ne 26 dX10_count_16 (by decide) (fun c2 => ?_) (fun c2 => ?_)
    · have h := zK_neg h c2
      refine r_iload_n dX10_count_26 rfl ?_
      refine r_iconst (v := (nI 2)) dX10_count_27 (by decide) ?_
      refine r_icmp_ne 38 dX10_count_28 (by decide) (fun c3 => ?_) (fun c3 => ?_)
      · have h := zK_neg h c3
        refine r_iload_n dX10_count_38 rfl ?_
        refine r_iconst (v := (nI 3)) dX10_count_39 (by decide) ?_
        refine r_icmp_ne 53 dX10_count_40 (by decide) (fun c4 => ?_) (fun c4 => ?_)
        · have h := zK_neg h c4
          refine r_iload_n dX10_count_53 rfl ?_
          refine r_iconst (v := (nI 4)) dX10_count_54 (by decide) ?_
          refine r_icmp_ne 71 dX10_count_55 (by decide) (fun c5 => ?_) (fun c5 => ?_)
          · have h := zK_neg h c5
            refine r_iconst (v := (-1 : Int32)) dX10_count_71 (by decide) ?_
            exact r_iret dX10_count_72 rfl rfl rfl (kR ((-1 : Int32)) (zK_some h))
          · have h := zK_pos h c5
            refine r_aload_n dX10_count_58 rfl ?_
            refine r_getR (k := 73) (q := 74) dX10_count_59 zf_X10_7 (zo_X10 (zs_X10 ht)) (zr_X10_0 (zs_X10 ht)).1 (zr_X10_0 (zs_X10 ht)).2.1 (zr_X10_0 (zs_X10 ht)).2.2 ?_
            refine r_bipush (v := (nI 14)) dX10_count_62 (by decide) ?_
            refine r_ialdc (j := 14) dX10_count_64 (za_X10_0 (zs_X10 ht)) rfl rfl ?_
            refine kS_ir (as := [.int (M.1 74 14)]) (st := []) dX10_count_65 zM_X10_sizeOf zk_X10_363 ⟨Nat.le_of_ble_eq_true rfl, Nat.le_of_ble_eq_true rfl⟩ (Nat.le_of_ble_eq_true rfl) (zz_T0 rfl rfl) (fun Q' P' k h => c_X10_sizeOf ((M.1 74 14)) M h k) h (fun r6 h => ?_)
            refine r_goto 72 dX10_count_68 (by decide) ?_
            exact r_iret dX10_count_72 rfl rfl rfl (kR (r6) (zK_some h))
        · have h := zK_pos h c4
          refine r_aload_n dX10_count_43 rfl ?_
          refine r_getR (k := 73) (q := 74) dX10_count_44 zf_X10_7 (zo_X10 (zs_X10 ht)) (zr_X10_0 (zs_X10 ht)).1 (zr_X10_0 (zs_X10 ht)).2.1 (zr_X10_0 (zs_X10 ht)).2.2 ?_
          refine r_bipush (v := (nI 12)) dX10_count_47 (by decide) ?_
          refine r_ialdc (j := 12) dX10_count_49 (za_X10_0 (zs_X10 ht)) rfl rfl ?_
          refine r_goto 72 dX10_count_50 (by decide) ?_
          exact r_iret dX10_count_72 rfl rfl rfl (kR ((M.1 74 12)) (zK_some h))
      · have h := zK_pos h c3
        refine r_aload_n dX10_count_31 rfl ?_
        refine r_getI (k := 73) dX10_count_32 zf_X10_71 (zo_X10 (zs_X10 ht)) (zi_X10_6 (zs_X10 ht)) ?_
        refine r_goto 72 dX10_count_35 (by decide) ?_
        exact r_iret dX10_count_72 rfl rfl rfl (kR ((M.1 73 6)) (zK_some h))
    · have h := zK_pos h c2
      refine r_aload_n dX10_count_19 rfl ?_
      refine kV_ir (as := []) (st := []) (k := 73) dX10_count_20 zM_X10_buckets zk_X10_178 (zo_X10 (zs_X10 ht)) (by decide) rfl ⟨Nat.le_of_ble_eq_true rfl, Nat.le_of_ble_eq_true rfl⟩ (Nat.le_of_ble_eq_true rfl) (zz_T0 rfl rfl) (fun Q' P' k h => c_X10_buckets M ht h k) h (fun r7 h => ?_)
      refine r_goto 72 dX10_count_23 (by decide) ?_
      exact r_iret dX10_count_72 rfl rfl rfl (kR (r7) (zK_some h))
  · have h := zK_pos h c1
    refine r_aload_n dX10_count_4 rfl ?_
    refine r_getR (k := 73) (q := 74) dX10_count_5 zf_X10_7 (zo_X10 (zs_X10 ht)) (zr_X10_0 (zs_X10 ht)).1 (zr_X10_0 (zs_X10 ht)).2.1 (zr_X10_0 (zs_X10 ht)).2.2 ?_
    refine r_bipush (v := (nI 7)) dX10_count_8 (by decide) ?_
    refine r_ialdc (j := 7) dX10_count_10 (za_X10_0 (zs_X10 ht)) rfl rfl ?_
    refine r_goto 72 dX10_count_11 (by decide) ?_
    exact r_iret dX10_count_72 rfl rfl rfl (kR ((M.1 74 7)) (zK_some h))
set_option maxHeartbeats 4000000 in
set_option maxRecDepth 100000 in
theorem c_X10_count {G : zzG} {t : Nat} {Q : Option Value → zzMem → Prop} (a1 : Int32) (M : zzMem) (ht : 180 ≤ t)  {P : Int32 → Prop} (h : zK (f_X10_count a1 M) P) (kR : ∀ r : Int32, P r → Q (some (.int r)) M) : zz_S G m_X10_count t t [.ref 73, .int a1] M Q :=
  zz_S_of (by decide) (by decide) (Nat.le_of_ble_eq_true rfl) (w_X10_count_0 a1 M ht h kR)
