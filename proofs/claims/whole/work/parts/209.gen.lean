noncomputable def j_X10_lists_95 (v1 : Int32) (v2 : Int32) (v3 : Int32) (M : zzMem) : Option ((Int32 × zzMem) ⊕ zzMem) :=
  zgd (vp_in v3 300) (
  zbd (zz_si M 79 (v3).toNatClampNeg v2) (fun M2 =>
  zbd (zz_si M2 73 15 ((M2.1 73 15) + (nI 1))) (fun M3 =>
  zbd (v2 + (nI 1)) (fun x4 =>
  some (.inl (x4, M3))))))
set_option maxHeartbeats 4000000 in
set_option maxRecDepth 100000 in
theorem w_X10_lists_95 {G : zzG} {t : Nat} {Q : Option Value → zzMem → Prop} (v1 : Int32) (v2 : Int32) (v3 : Int32) (M : zzMem) (ht : 180 ≤ t)  {P : ((Int32 × zzMem) ⊕ zzMem) → Prop} (h : zK (j_X10_lists_95 v1 v2 v3 M) P) (k7 : ∀ s : (Int32 × zzMem), P (.inl s) → zz_W G m_X10_lists t t t 7 [some (.ref 73), some (.int v1), some (.int s.1), none] [] s.2 Q) (kR : ∀ r : zzMem, P (.inr r) → Q none r) : zz_W G m_X10_lists t t t 95 [some (.ref 73), some (.int v1), some (.int v2), some (.int v3)] [] M Q := by
  unfold j_X10_lists_95 at h
  refine r_aload_n dX10_lists_95 rfl ?_
  refine r_getR (k := 73) (q := 79) dX10_lists_96 zf_X10_26 (zo_X10 (zs_X10 ht)) (zr_X10_14 (zs_X10 ht)).1 (zr_X10_14 (zs_X10 ht)).2.1 (zr_X10_14 (zs_X10 ht)).2.2 ?_
  refine r_iload_n dX10_lists_99 rfl ?_
  refine r_iload_n dX10_lists_100 rfl ?_
  obtain ⟨g1, h⟩ := zK_gd h
  refine r_iast dX10_lists_101 (za_X10_14 (zs_X10 ht)) g1 (fun M2 eM2 => ?_)
  have h := zK_bd h eM2
  refine r_aload_n dX10_lists_102 rfl ?_
  refine r_aload_n dX10_lists_103 rfl ?_
  refine r_getI (k := 73) dX10_lists_104 zf_X10_181 (zo_X10 (zs_X10 ht)) (zi_X10_15 (zs_X10 ht)) ?_
  refine r_iconst (v := (nI 1)) dX10_lists_107 (by decide) ?_
  refine r_iadd dX10_lists_108 ?_
  refine r_putI (k := 73) dX10_lists_109 zp_X10_181 (zo_X10 (zs_X10 ht)) (zi_X10_15 (zs_X10 ht)) rfl rfl (fun M3 eM3 => ?_)
  have h := zK_bd h eM3
  refine r_iinc (nI 1) (fun x4 => [some (.ref 73), some (.int v1), some (.int x4), some (.int v3)]) dX10_lists_112 rfl (by decide) (by decide) rfl (fun _ => rfl) (fun x4 ex4 => ?_)
  have h := zK_bd h ex4
  refine r_goto 7 dX10_lists_115 (by decide) ?_
  refine zz_mask [3] ?_
  exact k7 ((x4, M3)) (zK_some h)
noncomputable def b_X10_lists_40 (v1 : Int32) (v2 : Int32) (v3 : Int32) (M : zzMem) : Option ((Int32 × zzMem) ⊕ ((Int32 × zzMem) ⊕ zzMem)) :=
  if v3 ≤ 0 then
  (zup (j_X10_lists_95 v1 v2 v3 M))
  else (zgd (vp_in (v3 - (nI 1)) 300) (
  zgd (vp_in ((nI 940) + (M.1 79 ((v3 - (nI 1))).toNatClampNeg)) 5676) (
  zgd (vp_in ((nI 940) + v2) 5676) (
  if (M.1 74 (((nI 940) + (M.1 79 ((v3 - (nI 1))).toNatClampNeg))).toNatClampNeg) ≤ (M.1 74 (((nI 940) + v2)).toNatClampNeg) then
  (zup (j_X10_lists_95 v1 v2 v3 M))
  else (zgd (vp_in v3 300) (
  zbd (zz_si M 79 (v3).toNatClampNeg (M.1 79 ((v3 - (nI 1))).toNatClampNeg)) (fun M7 =>
  zbd ((v3 - (nI 1))) (fun x8 =>
  some (.inl (x8, M7))))))))))
set_option maxHeartbeats 4000000 in
set_option maxRecDepth 100000 in
theorem x_X10_lists_40 {G : zzG} {t : Nat} {Q : Option Value → zzMem → Prop} (v1 : Int32) (v2 : Int32) (v3 : Int32) (M : zzMem) (ht : 180 ≤ t)  {P : ((Int32 × zzMem) ⊕ ((Int32 × zzMem) ⊕ zzMem)) → Prop} (h : zK (b_X10_lists_40 v1 v2 v3 M) P) (k40 : ∀ s : (Int32 × zzMem), P (.inl s) → zz_W G m_X10_lists t t t 40 [some (.ref 73), some (.int v1), some (.int v2), some (.int s.1)] [] s.2 Q) (k7 : ∀ s : (Int32 × zzMem), P (.inr (.inl s)) → zz_W G m_X10_lists t t t 7 [some (.ref 73), some (.int v1), some (.int s.1), none] [] s.2 Q) (kR : ∀ r : zzMem, P (.inr (.inr r)) → Q none r) : zz_W G m_X10_lists t t t 40 [some (.ref 73), some (.int v1), some (.int v2), some (.int v3)] [] M Q := by
  unfold b_X10_lists_40 at h
  refine r_iload_n dX10_lists_40 rfl ?_
  refine r_if_le 95 dX10_lists_41 (by decide) (fun c1 => ?_) (fun c1 => ?_)
  · have h := zK_pos h c1
    exact w_X10_lists_95 (v1) (v2) (v3) M ht (zK_up h) k7 kR
  · have h := zK_neg h c1
    refine r_aload_n dX10_lists_44 rfl ?_
    refine r_getR (k := 73) (q := 74) dX10_lists_45 zf_X10_7 (zo_X10 (zs_X10 ht)) (zr_X10_0 (zs_X10 ht)).1 (zr_X10_0 (zs_X10 ht)).2.1 (zr_X10_0 (zs_X10 ht)).2.2 ?_
    refine r_sipush (v := (nI 940)) dX10_lists_48 (by decide) ?_
    refine r_aload_n dX10_lists_51 rfl ?_
    refine r_getR (k := 73) (q := 79) dX10_lists_52 zf_X10_26 (zo_X10 (zs_X10 ht)) (zr_X10_14 (zs_X10 ht)).1 (zr_X10_14 (zs_X10 ht)).2.1 (zr_X10_14 (zs_X10 ht)).2.2 ?_
    refine r_iload_n dX10_lists_55 rfl ?_
    refine r_iconst (v := (nI 1)) dX10_lists_56 (by decide) ?_
    refine r_isub dX10_lists_57 ?_
    obtain ⟨g2, h⟩ := zK_gd h
    refine r_iald dX10_lists_58 (za_X10_14 (zs_X10 ht)) g2 ?_
    refine r_iadd dX10_lists_59 ?_
    obtain ⟨g3, h⟩ := zK_gd h
    refine r_iald dX10_lists_60 (za_X10_0 (zs_X10 ht)) g3 ?_
    refine r_aload_n dX10_lists_61 rfl ?_
    refine r_getR (k := 73) (q := 74) dX10_lists_62 zf_X10_7 (zo_X10 (zs_X10 ht)) (zr_X10_0 (zs_X10 ht)).1 (zr_X10_0 (zs_X10 ht)).2.1 (zr_X10_0 (zs_X10 ht)).2.2 ?_
    refine r_sipush (v := (nI 940)) dX10_lists_65 (by decide) ?_
    refine r_iload_n dX10_lists_68 rfl ?_
    refine r_iadd dX10_lists_69 ?_
    obtain ⟨g4, h⟩ := zK_gd h
    refine r_iald dX10_lists_70 (za_X10_0 (zs_X10 ht)) g4 ?_
    refine r_icmp_le 95 dX10_lists_71 (by decide) (fun c5 => ?_) (fun c5 => ?_)
    · have h := zK_pos h c5
      exact w_X10_lists_95 (v1) (v2) (v3) M ht (zK_up h) k7 kR
    · have h := zK_neg h c5
      refine r_aload_n dX10_lists_74 rfl ?_
      refine r_getR (k := 73) (q := 79) dX10_lists_75 zf_X10_26 (zo_X10 (zs_X10 ht)) (zr_X10_14 (zs_X10 ht)).1 (zr_X10_14 (zs_X10 ht)).2.1 (zr_X10_14 (zs_X10 ht)).2.2 ?_
      refine r_iload_n dX10_lists_78 rfl ?_
      refine r_aload_n dX10_lists_79 rfl ?_
      refine r_getR (k := 73) (q := 79) dX10_lists_80 zf_X10_26 (zo_X10 (zs_X10 ht)) (zr_X10_14 (zs_X10 ht)).1 (zr_X10_14 (zs_X10 ht)).2.1 (zr_X10_14 (zs_X10 ht)).2.2 ?_
      refine r_iload_n dX10_lists_83 rfl ?_
      refine r_iconst (v := (nI 1)) dX10_lists_84 (by decide) ?_
      refine r_isub dX10_lists_85 ?_
      refine r_iald dX10_lists_86 (za_X10_14 (zs_X10 ht)) g2 ?_
      obtain ⟨g6, h⟩ := zK_gd h
      refine r_iast dX10_lists_87 (za_X10_14 (zs_X10 ht)) g6 (fun M7 eM7 => ?_)
      have h := zK_bd h eM7
      refine r_iload_n dX10_lists_88 rfl ?_
      refine r_iconst (v := (nI 1)) dX10_lists_89 (by decide) ?_
      refine r_isub dX10_lists_90 ?_
      refine r_istore_n (fun x8 => [some (.ref 73), some (.int v1), some (.int v2), some (.int x8)]) dX10_lists_91 (by decide) rfl (fun _ => rfl) (fun x8 ex8 => ?_)
      have h := zK_bd h ex8
      refine r_goto 40 dX10_lists_92 (by decide) ?_
      exact k40 ((x8, M7)) (zK_some h)
noncomputable def j_X10_lists_40 (v1 : Int32) (v2 : Int32) (v3 : Int32) (M : zzMem) : Option ((Int32 × zzMem) ⊕ zzMem) :=
  zlp (fun s : (Int32 × zzMem) => b_X10_lists_40 v1 v2 s.1 s.2) (v3, M)
set_option maxHeartbeats 4000000 in
set_option maxRecDepth 100000 in
theorem w_X10_lists_40 {G : zzG} {t : Nat} {Q : Option Value → zzMem → Prop} (v1 : Int32) (v2 : Int32) (v3 : Int32) (M : zzMem) (ht : 180 ≤ t)  {P : ((Int32 × zzMem) ⊕ zzMem) → Prop} (h : zK (j_X10_lists_40 v1 v2 v3 M) P) (k7 : ∀ s : (Int32 × zzMem), P (.inl s) → zz_W G m_X10_lists t t t 7 [some (.ref 73), some (.int v1), some (.int s.1), none] [] s.2 Q) (kR : ∀ r : zzMem, P (.inr r) → Q none r) : zz_W G m_X10_lists t t t 40 [some (.ref 73), some (.int v1), some (.int v2), some (.int v3)] [] M Q := by
  unfold j_X10_lists_40 at h
  exact zK_lp h (fun s : (Int32 × zzMem) => zz_W G m_X10_lists t t t 40 [some (.ref 73), some (.int v1), some (.int v2), some (.int s.1)] [] s.2 Q) (fun s h => x_X10_lists_40 v1 v2 s.1 s.2 ht h (fun s p => p) k7 kR)
noncomputable def b_X10_lists_7 (v1 : Int32) (v2 : Int32) (M : zzMem) : Option ((Int32 × zzMem) ⊕ zzMem) :=
  if (M.1 74 7) ≤ v2 then
  (some ((.inr M)))
  else (zgd (vp_in ((nI 640) + v2) 5676) (
  if (M.1 74 (((nI 640) + v2)).toNatClampNeg) = v1 then
  (zbd ((M.1 73 15)) (fun x4 =>
  j_X10_lists_40 v1 v2 x4 M))
  else (zbd (v2 + (nI 1)) (fun x5 =>
  some (.inl (x5, M))))))
set_option maxHeartbeats 4000000 in
set_option maxRecDepth 100000 in
theorem x_X10_lists_7 {G : zzG} {t : Nat} {Q : Option Value → zzMem → Prop} (v1 : Int32) (v2 : Int32) (M : zzMem) (ht : 180 ≤ t)  {P : ((Int32 × zzMem) ⊕ zzMem) → Prop} (h : zK (b_X10_lists_7 v1 v2 M) P) (k7 : ∀ s : (Int32 × zzMem), P (.inl s) → zz_W G m_X10_lists t t t 7 [some (.ref 73), some (.int v1), some (.int s.1), none] [] s.2 Q) (kR : ∀ r : zzMem, P (.inr r) → Q none r) : zz_W G m_X10_lists t t t 7 [some (.ref 73), some (.int v1), some (.int v2), none] [] M Q := by
  unfold b_X10_lists_7 at h
  refine r_iload_n dX10_lists_7 rfl ?_
  refine r_aload_n dX10_lists_8 rfl ?_
  refine r_getR (k := 73) (q := 74) dX10_lists_9 zf_X10_7 (zo_X10 (zs_X10 ht)) (zr_X10_0 (zs_X10 ht)).1 (zr_X10_0 (zs_X10 ht)).2.1 (zr_X10_0 (zs_X10 ht)).2.2 ?_
  refine r_bipush (v := (nI 7)) dX10_lists_12 (by decide) ?_
  refine r_ialdc (j := 7) dX10_lists_14 (za_X10_0 (zs_X10 ht)) rfl rfl ?_
  refine r_icmp_ge 118 dX10_lists_15 (by decide) (fun c1 => ?_) (fun c1 => ?_)
  · have h := zK_pos h c1
    exact r_vret dX10_lists_118 rfl rfl rfl (kR (M) (zK_some h))
  · have h := zK_neg h c1
    refine r_aload_n dX10_lists_18 rfl ?_
    refine r_getR (k := 73) (q := 74) dX10_lists_19 zf_X10_7 (zo_X10 (zs_X10 ht)) (zr_X10_0 (zs_X10 ht)).1 (zr_X10_0 (zs_X10 ht)).2.1 (zr_X10_0 (zs_X10 ht)).2.2 ?_
    refine r_sipush (v := (nI 640)) dX10_lists_22 (by decide) ?_
    refine r_iload_n dX10_lists_25 rfl ?_
    refine r_iadd dX10_lists_26 ?_
    obtain ⟨g2, h⟩ := zK_gd h
    refine r_iald dX10_lists_27 (za_X10_0 (zs_X10 ht)) g2 ?_
    refine r_iload_n dX10_lists_28 rfl ?_
    refine r_icmp_eq 35 dX10_lists_29 (by decide) (fun c3 => ?_) (fun c3 => ?_)
    · have h := zK_pos h c3
      refine r_aload_n dX10_lists_35 rfl ?_
      refine r_getI (k := 73) dX10_lists_36 zf_X10_181 (zo_X10 (zs_X10 ht)) (zi_X10_15 (zs_X10 ht)) ?_
      refine r_istore_n (fun x4 => [some (.ref 73), some (.int v1), some (.int v2), some (.int x4)]) dX10_lists_39 (by decide) rfl (fun _ => rfl) (fun x4 ex4 => ?_)
      have h := zK_bd h ex4
      exact w_X10_lists_40 (v1) (v2) (x4) M ht h k7 kR
    · have h := zK_neg h c3
      refine r_goto 112 dX10_lists_32 (by decide) ?_
      refine r_iinc (nI 1) (fun x5 => [some (.ref 73), some (.int v1), some (.int x5), none]) dX10_lists_112 rfl (by decide) (by decide) rfl (fun _ => rfl) (fun x5 ex5 => ?_)
      have h := zK_bd h ex5
      refine r_goto 7 dX10_lists_115 (by decide) ?_
      exact k7 ((x5, M)) (zK_some h)
noncomputable def j_X10_lists_7 (v1 : Int32) (v2 : Int32) (M : zzMem) : Option zzMem :=
  zlp (fun s : (Int32 × zzMem) => b_X10_lists_7 v1 s.1 s.2) (v2, M)
set_option maxHeartbeats 4000000 in
set_option maxRecDepth 100000 in
theorem w_X10_lists_7 {G : zzG} {t : Nat} {Q : Option Value → zzMem → Prop} (v1 : Int32) (v2 : Int32) (M : zzMem) (ht : 180 ≤ t)  {P : zzMem → Prop} (h : zK (j_X10_lists_7 v1 v2 M) P) (kR : ∀ r : zzMem, P r → Q none r) : zz_W G m_X10_lists t t t 7 [some (.ref 73), some (.int v1), some (.int v2), none] [] M Q := by
  unfold j_X10_lists_7 at h
  exact zK_lp h (fun s : (Int32 × zzMem) => zz_W G m_X10_lists t t t 7 [some (.ref 73), some (.int v1), some (.int s.1), none] [] s.2 Q) (fun s h => x_X10_lists_7 v1 s.1 s.2 ht h (fun s p => p) kR)
noncomputable def f_X10_lists (a1 : Int32) (M : zzMem) : Option zzMem :=
  zbd (zz_si M 73 15 (nI 0)) (fun M1 =>
  j_X10_lists_7 a1 (nI 0) M1)
set_option maxHeartbeats 4000000 in
set_option maxRecDepth 100000 in
theorem w_X10_lists_0 {G : zzG} {t : Nat} {Q : Option Value → zzMem → Prop} (a1 : Int32) (M : zzMem) (ht : 180 ≤ t)  {P : zzMem → Prop} (h : zK (f_X10_lists a1 M) P) (kR : ∀ r : zzMem, P r → Q none r) : zz_W G m_X10_lists t t t 0 [some (.ref 73), some (.int a1), none, none] [] M Q := by
  unfold f_X10_lists at h
  refine r_aload_n dX10_lists_0 rfl ?_
  refine r_iconst (v := (nI 0)) dX10_lists_1 (by decide) ?_
  refine r_putI (k := 73) dX10_lists_2 zp_X10_181 (zo_X10 (zs_X10 ht)) (zi_X10_15 (zs_X10 ht)) rfl rfl (fun M1 eM1 => ?_)
  have h := zK_bd h eM1
  refine r_iconst (v := (nI 0)) dX10_lists_5 (by decide) ?_
  refine s_istore_n ([some (.ref 73), some (.int a1), some (.int (nI 0)), none]) dX10_lists_6 (by decide) rfl rfl ?_
  exact w_X10_lists_7 (a1) ((nI 0)) M1 ht h kR
set_option maxHeartbeats 4000000 in
set_option maxRecDepth 100000 in
theorem c_X10_lists {G : zzG} {t : Nat} {Q : Option Value → zzMem → Prop} (a1 : Int32) (M : zzMem) (ht : 180 ≤ t)  {P : zzMem → Prop} (h : zK (f_X10_lists a1 M) P) (kR : ∀ r : zzMem, P r → Q none r) : zz_S G m_X10_lists t t [.ref 73, .int a1] M Q :=
  zz_S_of (by decide) (by decide) (Nat.le_of_ble_eq_true rfl) (w_X10_lists_0 a1 M ht h kR)
noncomputable def f_X10_goesOver (a1 : Int32) (M : zzMem) : Option (Bool × zzMem) :=
  zgd (vp_in ((nI 40) + a1) 5676) (
  (f_X10_hashOf (M.1 74 (((nI 40) + a1)).toNatClampNeg) M).bind (fun q2 => zpr q2 (fun r3 M4 =>
  (f_X10_first (nI 0) M4).bind (fun r5 =>
  zgd (¬ ((nI 2) * r5) = 0) (
  if (zrm r3 ((nI 2) * r5)) = (M4.1 74 6) then
  (some ((false, M4)))
  else (some ((true, M4))))))))
set_option maxHeartbeats 4000000 in
set_option maxRecDepth 100000 in
theorem w_X10_goesOver_0 {G : zzG} {t : Nat} {Q : Option Value → zzMem → Prop} (a1 : Int32) (M : zzMem) (ht : 180 ≤ t)  {P : (Bool × zzMem) → Prop} (h : zK (f_X10_goesOver a1 M) P) (kR : ∀ r : (Bool × zzMem), P r → Q (some (.int (zb r.1))) r.2) : zz_W G m_X10_goesOver t t t 0 [some (.ref 73), some (.int a1)] [] M Q := by
  unfold f_X10_goesOver at h
  refine r_aload_n dX10_goesOver_0 rfl ?_
  refine r_aload_n dX10_goesOver_1 rfl ?_
  refine r_getR (k := 73) (q := 74) dX10_goesOver_2 zf_X10_7 (zo_X10 (zs_X10 ht)) (zr_X10_0 (zs_X10 ht)).1 (zr_X10_0 (zs_X10 ht)).2.1 (zr_X10_0 (zs_X10 ht)).2.2 ?_
  refine r_bipush (v := (nI 40)) dX10_goesOver_5 (by decide) ?_
  refine r_iload_n dX10_goesOver_7 rfl ?_
  refine r_iadd dX10_goesOver_8 ?_
  obtain ⟨g1, h⟩ := zK_gd h
  refine r_iald dX10_goesOver_9 (za_X10_0 (zs_X10 ht)) g1 ?_
  refine kV_iw (as := [.int (M.1 74 (((nI 40) + a1)).toNatClampNeg)]) (st := []) (k := 73) dX10_goesOver_10 zM_X10_hashOf zk_X10_184 (zo_X10 (zs_X10 ht)) (by decide) rfl ⟨Nat.le_of_ble_eq_true rfl, Nat.le_of_ble_eq_true rfl⟩ (Nat.le_of_ble_eq_true rfl) (zz_T0 rfl rfl) (fun Q' P' k h => c_X10_hashOf ((M.1 74 (((nI 40) + a1)).toNatClampNeg)) M ht h (fun r p => k r.1 r.2 p)) h (fun r3 M4 h => ?_)
  have h := zK_pr h
  refine r_iconst (v := (nI 2)) dX10_goesOver_13 (by decide) ?_
  refine r_aload_n dX10_goesOver_14 rfl ?_
  refine r_iconst (v := (nI 0)) dX10_goesOver_15 (by decide) ?_
  refine kV_ir (as := [.int (nI 0)]) (st := [.int (nI 2), .int r3]) (k := 73) dX10_goesOver_16 zM_X10_first zk_X10_163 (zo_X10 (zs_X10 ht)) (by decide) rfl ⟨Nat.le_of_ble_eq_true rfl, Nat.le_of_ble_eq_true rfl⟩ (Nat.le_of_ble_eq_true rfl) (zz_T0 rfl rfl) (fun Q' P' k h => c_X10_first ((nI 0)) M4 ht h k) h (fun r5 h => ?_)
  refine r_imul dX10_goesOver_19 ?_
  obtain ⟨g6, h⟩ := zK_gd h
  refine r_irem dX10_goesOver_20 g6 ?_
  refine r_aload_n dX10_goesOver_21 rfl ?_
  refine r_getR (k := 73) (q := 74) dX10_goesOver_22 zf_X10_7 (zo_X10 (zs_X10 ht)) (zr_X10_0 (zs_X10 ht)).1 (zr_X10_0 (zs_X10 ht)).2.1 (zr_X10_0 (zs_X10 ht)).2.2 ?_
  refine r_bipush (v := (nI 6)) dX10_goesOver_25 (by decide) ?_
  refine r_ialdc (j := 6) dX10_goesOver_27 (za_X10_0 (zs_X10 ht)) rfl rfl ?_
  refine r_icmp_eq 35 dX10_goesOver_28 (by decide) (fun c7 => ?_) (fun c7 => ?_)
  · have h := zK_pos h c7
    refine r_iconst (v := (nI 0)) dX10_goesOver_35 (by decide) ?_
    exact r_zret (b := false) dX10_goesOver_36 rfl rfl rfl (kR ((false, M4)) (zK_some h))
  · have h := zK_neg h c7
    refine r_iconst (v := (nI 1)) dX10_goesOver_31 (by decide) ?_
    refine r_goto 36 dX10_goesOver_32 (by decide) ?_
    exact r_zret (b := true) dX10_goesOver_36 rfl rfl rfl (kR ((true, M4)) (zK_some h))
set_option maxHeartbeats 4000000 in
set_option maxRecDepth 100000 in
theorem c_X10_goesOver {G : zzG} {t : Nat} {Q : Option Value → zzMem → Prop} (a1 : Int32) (M : zzMem) (ht : 180 ≤ t)  {P : (Bool × zzMem) → Prop} (h : zK (f_X10_goesOver a1 M) P) (kR : ∀ r : (Bool × zzMem), P r → Q (some (.int (zb r.1))) r.2) : zz_S G m_X10_goesOver t t [.ref 73, .int a1] M Q :=
  zz_S_of (by decide) (by decide) (Nat.le_of_ble_eq_true rfl) (w_X10_goesOver_0 a1 M ht h kR)
noncomputable def j_X10_splits_226 (v3 : Int32) (M : zzMem) : Option (Int32 × zzMem) :=
  zbd (zz_si M 74 10 ((M.1 74 10) + (nI 1))) (fun M1 =>
  some ((v3, M1)))
set_option maxHeartbeats 4000000 in
set_option maxRecDepth 100000 in
theorem w_X10_splits_226 {G : zzG} {t : Nat} {Q : Option Value → zzMem → Prop} (v3 : Int32) (M : zzMem) (ht : 180 ≤ t)  {P : (Int32 × zzMem) → Prop} (h : zK (j_X10_splits_226 v3 M) P) (kR : ∀ r : (Int32 × zzMem), P r → Q (some (.int r.1)) r.2) : zz_W G m_X10_splits t t t 226 [some (.ref 73), none, none, some (.int v3), none] [] M Q := by
  unfold j_X10_splits_226 at h
  refine r_aload_n dX10_splits_226 rfl ?_
  refine r_getR (k := 73) (q := 74) dX10_splits_227 zf_X10_7 (zo_X10 (zs_X10 ht)) (zr_X10_0 (zs_X10 ht)).1 (zr_X10_0 (zs_X10 ht)).2.1 (zr_X10_0 (zs_X10 ht)).2.2 ?_
  refine r_bipush (v := (nI 10)) dX10_splits_230 (by decide) ?_
  refine r_aload_n dX10_splits_232 rfl ?_
  refine r_getR (k := 73) (q := 74) dX10_splits_233 zf_X10_7 (zo_X10 (zs_X10 ht)) (zr_X10_0 (zs_X10 ht)).1 (zr_X10_0 (zs_X10 ht)).2.1 (zr_X10_0 (zs_X10 ht)).2.2 ?_
  refine r_bipush (v := (nI 10)) dX10_splits_236 (by decide) ?_
  refine r_ialdc (j := 10) dX10_splits_238 (za_X10_0 (zs_X10 ht)) rfl rfl ?_
  refine r_iconst (v := (nI 1)) dX10_splits_239 (by decide) ?_
  refine r_iadd dX10_splits_240 ?_
  refine r_iastc (j := 10) dX10_splits_241 (za_X10_0 (zs_X10 ht)) rfl rfl (fun M1 eM1 => ?_)
  have h := zK_bd h eM1
  refine r_iload_n dX10_splits_242 rfl ?_
  exact r_iret dX10_splits_243 rfl rfl rfl (kR ((v3, M1)) (zK_some h))
noncomputable def j_X10_splits_144 (v1 : Int32) (v2 : Int32) (v3 : Int32) (v4 : Int32) (s1 : Int32) (s2 : Int32) (M : zzMem) : Option ((Int32 × zzMem) ⊕ (Int32 × zzMem)) :=
  (f_X10_comesBehind s1 s2 M).bind (fun M1 =>
  zbd (v4 + (nI 1)) (fun x2 =>
  some (.inl (x2, M1))))
set_option maxHeartbeats 4000000 in
set_option maxRecDepth 100000 in
theorem w_X10_splits_144 {G : zzG} {t : Nat} {Q : Option Value → zzMem → Prop} (v1 : Int32) (v2 : Int32) (v3 : Int32) (v4 : Int32) (s1 : Int32) (s2 : Int32) (M : zzMem) (ht : 180 ≤ t)  {P : ((Int32 × zzMem) ⊕ (Int32 × zzMem)) → Prop} (h : zK (j_X10_splits_144 v1 v2 v3 v4 s1 s2 M) P) (k108 : ∀ s : (Int32 × zzMem), P (.inl s) → zz_W G m_X10_splits t t t 108 [some (.ref 73), some (.int v1), some (.int v2), some (.int v3), some (.int s.1)] [] s.2 Q) (kR : ∀ r : (Int32 × zzMem), P (.inr r) → Q (some (.int r.1)) r.2) : zz_W G m_X10_splits t t t 144 [some (.ref 73), some (.int v1), some (.int v2), some (.int v3), some (.int v4)] [.int s2, .int s1, .ref 73] M Q := by
  unfold j_X10_splits_144 at h
  refine kV_vw (as := [.int s1, .int s2]) (st := []) (k := 73) dX10_splits_144 zM_X10_comesBehind zk_X10_199 (zo_X10 (zs_X10 ht)) (by decide) rfl ⟨Nat.le_of_ble_eq_true rfl, Nat.le_of_ble_eq_true rfl⟩ (Nat.le_of_ble_eq_true rfl) (zz_T0 rfl rfl) (fun Q' P' k h => c_X10_comesBehind (s1) (s2) M ht h k) h (fun M1 h => ?_)
  refine r_iinc (nI 1) (fun x2 => [some (.ref 73), some (.int v1), some (.int v2), some (.int v3), some (.int x2)]) dX10_splits_147 rfl (by decide) (by decide) rfl (fun _ => rfl) (fun x2 ex2 => ?_)
  have h := zK_bd h ex2
  refine r_goto 108 dX10_splits_150 (by decide) ?_
  exact k108 ((x2, M1)) (zK_some h)
noncomputable def b_X10_splits_108 (v1 : Int32) (v2 : Int32) (v3 : Int32) (v4 : Int32) (M : zzMem) : Option ((Int32 × zzMem) ⊕ (Int32 × zzMem)) :=
  if (M.1 73 15) ≤ v4 then
  ((f_X10_chainOf v1 M).bind (fun r2 =>
  (f_X10_chainOf v2 M).bind (fun r3 =>
  zbd (zz_si M 74 9 (((M.1 74 9) + r2) + r3)) (fun M4 =>
  zbd (zz_si M4 74 6 (v1 + (nI 1))) (fun M5 =>
  (f_X10_first (nI 0) M5).bind (fun r6 =>
  if (M5.1 74 6) = r6 then
  (zbd (zz_si M5 74 5 ((M5.1 74 5) + (nI 1))) (fun M8 =>
  zbd (zz_si M8 74 6 (nI 0)) (fun M9 =>
  zup (j_X10_splits_226 v3 M9))))
  else (zup (j_X10_splits_226 v3 M5))))))))
  else (zgd (vp_in v4 300) (
  (f_X10_goesOver (M.1 79 (v4).toNatClampNeg) M).bind (fun q11 => zpr q11 (fun r12 M13 =>
  if r12 = true then
  (j_X10_splits_144 v1 v2 v3 v4 (M.1 79 (v4).toNatClampNeg) v2 M13)
  else (j_X10_splits_144 v1 v2 v3 v4 (M.1 79 (v4).toNatClampNeg) v1 M13)))))
set_option maxHeartbeats 4000000 in
set_option maxRecDepth 100000 in
theorem x_X10_splits_108 {G : zzG} {t : Nat} {Q : Option Value → zzMem → Prop} (v1 : Int32) (v2 : Int32) (v3 : Int32) (v4 : Int32) (M : zzMem) (ht : 180 ≤ t)  {P : ((Int32 × zzMem) ⊕ (Int32 × zzMem)) → Prop} (h : zK (b_X10_splits_108 v1 v2 v3 v4 M) P) (k108 : ∀ s : (Int32 × zzMem), P (.inl s) → zz_W G m_X10_splits t t t 108 [some (.ref 73), some (.int v1), some (.int v2), some (.int v3), some (.int s.1)] [] s.2 Q) (kR : ∀ r : (Int32 × zzMem), P (.inr r) → Q (some (.int r.1)) r.2) : zz_W G m_X10_splits t t t 108 [some (.ref 73), some (.int v1), some (.int v2), some (.int v3), some (.int v4)] [] M Q := by
  unfold b_X10_splits_108 at h
  refine r_iload dX10_splits_108 rfl ?_
  refine r_aload_n dX10_splits_110 rfl ?_
  refine r_getI (k := 73) dX10_splits_111 zf_X10_181 (zo_X10 (zs_X10 ht)) (zi_X10_15 (zs_X10 ht)) ?_
  refine r_icmp_ge 153 dX10_splits_114 (by decide) (fun c1 => ?_) (fun c1 => ?_)
  · have h := zK_pos h c1
    refine r_aload_n dX10_splits_153 rfl ?_
    refine r_getR (k := 73) (q := 74) dX10_splits_154 zf_X10_7 (zo_X10 (zs_X10 ht)) (zr_X10_0 (zs_X10 ht)).1 (zr_X10_0 (zs_X10 ht)).2.1 (zr_X10_0 (zs_X10 ht)).2.2 ?_
    refine r_bipush (v := (nI 9)) dX10_splits_157 (by decide) ?_
    refine r_aload_n dX10_splits_159 rfl ?_
    refine r_getR (k := 73) (q := 74) dX10_splits_160 zf_X10_7 (zo_X10 (zs_X10 ht)) (zr_X10_0 (zs_X10 ht)).1 (zr_X10_0 (zs_X10 ht)).2.1 (zr_X10_0 (zs_X10 ht)).2.2 ?_
    refine r_bipush (v := (nI 9)) dX10_splits_163 (by decide) ?_
    refine r_ialdc (j := 9) dX10_splits_165 (za_X10_0 (zs_X10 ht)) rfl rfl ?_
    refine r_aload_n dX10_splits_166 rfl ?_
    refine r_iload_n dX10_splits_167 rfl ?_
    refine kV_ir (as := [.int v1]) (st := [.int (M.1 74 9), .int (nI 9), .ref 74]) (k := 73) dX10_splits_168 zM_X10_chainOf zk_X10_172 (zo_X10 (zs_X10 ht)) (by decide) rfl ⟨Nat.le_of_ble_eq_true rfl, Nat.le_of_ble_eq_true rfl⟩ (Nat.le_of_ble_eq_true rfl) (zz_T0 rfl rfl) (fun Q' P' k h => c_X10_chainOf (v1) M ht h k) h (fun r2 h => ?_)
    refine r_iadd dX10_splits_171 ?_
    refine r_aload_n dX10_splits_172 rfl ?_
    refine r_iload_n dX10_splits_173 rfl ?_
    refine kV_ir (as := [.int v2]) (st := [.int ((M.1 74 9) + r2), .int (nI 9), .ref 74]) (k := 73) dX10_splits_174 zM_X10_chainOf zk_X10_172 (zo_X10 (zs_X10 ht)) (by decide) rfl ⟨Nat.le_of_ble_eq_true rfl, Nat.le_of_ble_eq_true rfl⟩ (Nat.le_of_ble_eq_true rfl) (zz_T0 rfl rfl) (fun Q' P' k h => c_X10_chainOf (v2) M ht h k) h (fun r3 h => ?_)
    refine r_iadd dX10_splits_177 ?_
    refine r_iastc (j := 9) dX10_splits_178 (za_X10_0 (zs_X10 ht)) rfl rfl (fun M4 eM4 => ?_)
    have h := zK_bd h eM4
    refine r_aload_n dX10_splits_179 rfl ?_
    refine r_getR (k := 73) (q := 74) dX10_splits_180 zf_X10_7 (zo_X10 (zs_X10 ht)) (zr_X10_0 (zs_X10 ht)).1 (zr_X10_0 (zs_X10 ht)).2.1 (zr_X10_0 (zs_X10 ht)).2.2 ?_
    refine r_bipush (v := (nI 6)) dX10_splits_183 (by decide) ?_
    refine r_iload_n dX10_splits_185 rfl ?_
    refine r_iconst (v := (nI 1)) dX10_splits_186 (by decide) ?_
    refine r_iadd dX10_splits_187 ?_
    refine r_iastc (j := 6) dX10_splits_188 (za_X10_0 (zs_X10 ht)) rfl rfl (fun M5 eM5 => ?_)
    have h := zK_bd h eM5
    refine r_aload_n dX10_splits_189 rfl ?_
    refine r_getR (k := 73) (q := 74) dX10_splits_190 zf_X10_7 (zo_X10 (zs_X10 ht)) (zr_X10_0 (zs_X10 ht)).1 (zr_X10_0 (zs_X10 ht)).2.1 (zr_X10_0 (zs_X10 ht)).2.2 ?_
    refine r_bipush (v := (nI 6)) dX10_splits_193 (by decide) ?_
    refine r_ialdc (j := 6) dX10_splits_195 (za_X10_0 (zs_X10 ht)) rfl rfl ?_
    refine r_aload_n dX10_splits_196 rfl ?_
    refine r_iconst (v := (nI 0)) dX10_splits_197 (by decide) ?_
    refine kV_ir (as := [.int (nI 0)]) (st := [.int (M5.1 74 6)]) (k := 73) dX10_splits_198 zM_X10_first zk_X10_163 (zo_X10 (zs_X10 ht)) (by decide) rfl ⟨Nat.le_of_ble_eq_true rfl, Nat.le_of_ble_eq_true rfl⟩ (Nat.le_of_ble_eq_true rfl) (zz_T0 rfl rfl) (fun Q' P' k h => c_X10_first ((nI 0)) M5 ht h k) h (fun r6 h => ?_)
    refine r_icmp_ne 226 dX10_splits_201 (by decide) (fun c7 => ?_) (fun c7 => ?_)
    · have h := zK_neg h c7
      refine zz_mask [1, 2, 4] ?_
      exact w_X10_splits_226 (v3) M5 ht (zK_up h) kR
    · have h := zK_pos h c7
      refine r_aload_n dX10_splits_204 rfl ?_
      refine r_getR (k := 73) (q := 74) dX10_splits_205 zf_X10_7 (zo_X10 (zs_X10 ht)) (zr_X10_0 (zs_X10 ht)).1 (zr_X10_0 (zs_X10 ht)).2.1 (zr_X10_0 (zs_X10 ht)).2.2 ?_
      refine r_iconst (v := (nI 5)) dX10_splits_208 (by decide) ?_
      refine r_aload_n dX10_splits_209 rfl ?_
      refine r_getR (k := 73) (q := 74) dX10_splits_210 zf_X10_7 (zo_X10 (zs_X10 ht)) (zr_X10_0 (zs_X10 ht)).1 (zr_X10_0 (zs_X10 ht)).2.1 (zr_X10_0 (zs_X10 ht)).2.2 ?_
      refine r_iconst (v := (nI 5)) dX10_splits_213 (by decide) ?_
      refine r_ialdc (j := 5) dX10_splits_214 (za_X10_0 (zs_X10 ht)) rfl rfl ?_
      refine r_iconst (v := (nI 1)) dX10_splits_215 (by decide) ?_
      refine r_iadd dX10_splits_216 ?_
      refine r_iastc (j := 5) dX10_splits_217 (za_X10_0 (zs_X10 ht)) rfl rfl (fun M8 eM8 => ?_)
      have h := zK_bd h eM8
      refine r_aload_n dX10_splits_218 rfl ?_
      refine r_getR (k := 73) (q := 74) dX10_splits_219 zf_X10_7 (zo_X10 (zs_X10 ht)) (zr_X10_0 (zs_X10 ht)).1 (zr_X10_0 (zs_X10 ht)).2.1 (zr_X10_0 (zs_X10 ht)).2.2 ?_
      refine r_bipush (v := (nI 6)) dX10_splits_222 (by decide) ?_
      refine r_iconst (v := (nI 0)) dX10_splits_224 (by decide) ?_
      refine r_iastc (j := 6) dX10_splits_225 (za_X10_0 (zs_X10 ht)) rfl rfl (fun M9 eM9 => ?_)
      have h := zK_bd h eM9
      refine zz_mask [1, 2, 4] ?_
      exact w_X10_splits_226 (v3) M9 ht (zK_up h) kR
  · have h := zK_neg h c1
    refine r_aload_n dX10_splits_117 rfl ?_
    refine r_aload_n dX10_splits_118 rfl ?_
    refine r_getR (k := 73) (q := 79) dX10_splits_119 zf_X10_26 (zo_X10 (zs_X10 ht)) (zr_X10_14 (zs_X10 ht)).1 (zr_X10_14 (zs_X10 ht)).2.1 (zr_X10_14 (zs_X10 ht)).2.2 ?_
    refine r_iload dX10_splits_122 rfl ?_
    obtain ⟨g10, h⟩ := zK_gd h
    refine r_iald dX10_splits_124 (za_X10_14 (zs_X10 ht)) g10 ?_
    refine r_aload_n dX10_splits_125 rfl ?_
    refine r_aload_n dX10_splits_126 rfl ?_
    refine r_getR (k := 73) (q := 79) dX10_splits_127 zf_X10_26 (zo_X10 (zs_X10 ht)) (zr_X10_14 (zs_X10 ht)).1 (zr_X10_14 (zs_X10 ht)).2.1 (zr_X10_14 (zs_X10 ht)).2.2 ?_
    refine r_iload dX10_splits_130 rfl ?_
    refine r_iald dX10_splits_132 (za_X10_14 (zs_X10 ht)) g10 ?_
    refine kV_zw (as := [.int (M.1 79 (v4).toNatClampNeg)]) (st := [.int (M.1 79 (v4).toNatClampNeg), .ref 73]) (k := 73) dX10_splits_133 zM_X10_goesOver zk_X10_193 (zo_X10 (zs_X10 ht)) (by decide) rfl ⟨Nat.le_of_ble_eq_true rfl, Nat.le_of_ble_eq_true rfl⟩ (Nat.le_of_ble_eq_true rfl) (zz_T0 rfl rfl) (fun Q' P' k h => c_X10_goesOver ((M.1 79 (v4).toNatClampNeg)) M ht h (fun r p => k r.1 r.2 p)) h (fun r12 M13 h => ?_)
    have h := zK_pr h
    refine r_ifZ_eq 143 dX10_splits_136 (by decide) (fun c14 => ?_) (fun c14 => ?_)
    · have h := zK_neg h c14
      refine r_iload_n dX10_splits_143 rfl ?_
      exact w_X10_splits_144 (v1) (v2) (v3) (v4) ((M.1 79 (v4).toNatClampNeg)) (v1) M13 ht h k108 kR
    · have h := zK_pos h c14
      refine r_iload_n dX10_splits_139 rfl ?_
      refine r_goto 144 dX10_splits_140 (by decide) ?_
      exact w_X10_splits_144 (v1) (v2) (v3) (v4) ((M.1 79 (v4).toNatClampNeg)) (v2) M13 ht h k108 kR
noncomputable def j_X10_splits_108 (v1 : Int32) (v2 : Int32) (v3 : Int32) (v4 : Int32) (M : zzMem) : Option (Int32 × zzMem) :=
  zlp (fun s : (Int32 × zzMem) => b_X10_splits_108 v1 v2 v3 s.1 s.2) (v4, M)
set_option maxHeartbeats 4000000 in
set_option maxRecDepth 100000 in
theorem w_X10_splits_108 {G : zzG} {t : Nat} {Q : Option Value → zzMem → Prop} (v1 : Int32) (v2 : Int32) (v3 : Int32) (v4 : Int32) (M : zzMem) (ht : 180 ≤ t)  {P : (Int32 × zzMem) → Prop} (h : zK (j_X10_splits_108 v1 v2 v3 v4 M) P) (kR : ∀ r : (Int32 × zzMem), P r → Q (some (.int r.1)) r.2) : zz_W G m_X10_splits t t t 108 [some (.ref 73), some (.int v1), some (.int v2), some (.int v3), some (.int v4)] [] M Q := by
  unfold j_X10_splits_108 at h
  exact zK_lp h (fun s : (Int32 × zzMem) => zz_W G m_X10_splits t t t 108 [some (.ref 73), some (.int v1), some (.int v2), some (.int v3), some (.int s.1)] [] s.2 Q) (fun s h => x_X10_splits_108 v1 v2 v3 s.1 s.2 ht h (fun s p => p) kR)
noncomputable def b_X10_splits_55 (v1 : Int32) (v2 : Int32) (v3 : Int32) (v4 : Int32) (M : zzMem) : Option ((Int32 × Int32 × zzMem) ⊕ (Int32 × zzMem)) :=
  if (M.1 73 15) ≤ v4 then
  ((f_X10_needsPages v1 ((M.1 73 15) - v3) M).bind (fun M2 =>
  (f_X10_needsPages v2 v3 M2).bind (fun M3 =>
  zup (j_X10_splits_108 v1 v2 v3 (nI 0) M3))))
  else (zgd (vp_in v4 300) (
  (f_X10_goesOver (M.1 79 (v4).toNatClampNeg) M).bind (fun q5 => zpr q5 (fun r6 M7 =>
  if r6 = true then
  (zbd ((v3 + (nI 1))) (fun x10 =>
  zbd (v4 + (nI 1)) (fun x11 =>
  some (.inl (x10, x11, M7)))))
  else (zbd (v4 + (nI 1)) (fun x9 =>
  some (.inl (v3, x9, M7))))))))
set_option maxHeartbeats 4000000 in
set_option maxRecDepth 100000 in
theorem x_X10_splits_55 {G : zzG} {t : Nat} {Q : Option Value → zzMem → Prop} (v1 : Int32) (v2 : Int32) (v3 : Int32) (v4 : Int32) (M : zzMem) (ht : 180 ≤ t)  {P : ((Int32 × Int32 × zzMem) ⊕ (Int32 × zzMem)) → Prop} (h : zK (b_X10_splits_55 v1 v2 v3 v4 M) P) (k55 : ∀ s : (Int32 × Int32 × zzMem), P (.inl s) → zz_W G m_X10_splits t t t 55 [some (.ref 73), some (.int v1), some (.int v2), some (.int s.1), some (.int s.2.1)] [] s.2.2 Q) (kR : ∀ r : (Int32 × zzMem), P (.inr r) → Q (some (.int r.1)) r.2) : zz_W G m_X10_splits t t t 55 [some (.ref 73), some (.int v1), some (.int v2), some (.int v3), some (.int v4)] [] M Q := by
  unfold b_X10_splits_55 at h
  refine r_iload dX10_splits_55 rfl ?_
  refine r_aload_n dX10_splits_57 rfl ?_
  refine r_getI (k := 73) dX10_splits_58 zf_X10_181 (zo_X10 (zs_X10 ht)) (zi_X10_15 (zs_X10 ht)) ?_
  refine r_icmp_ge 88 dX10_splits_61 (by decide) (fun c1 => ?_) (fun c1 => ?_)
  · have h := zK_pos h c1
    refine r_aload_n dX10_splits_88 rfl ?_
    refine r_iload_n dX10_splits_89 rfl ?_
    refine r_aload_n dX10_splits_90 rfl ?_
    refine r_getI (k := 73) dX10_splits_91 zf_X10_181 (zo_X10 (zs_X10 ht)) (zi_X10_15 (zs_X10 ht)) ?_
    refine r_iload_n dX10_splits_94 rfl ?_
    refine r_isub dX10_splits_95 ?_
    refine kV_vw (as := [.int v1, .int ((M.1 73 15) - v3)]) (st := []) (k := 73) dX10_splits_96 zM_X10_needsPages zk_X10_196 (zo_X10 (zs_X10 ht)) (by decide) rfl ⟨Nat.le_of_ble_eq_true rfl, Nat.le_of_ble_eq_true rfl⟩ (Nat.le_of_ble_eq_true rfl) (zz_T0 rfl rfl) (fun Q' P' k h => c_X10_needsPages (v1) (((M.1 73 15) - v3)) M ht h k) h (fun M2 h => ?_)
    refine r_aload_n dX10_splits_99 rfl ?_
    refine r_iload_n dX10_splits_100 rfl ?_
    refine r_iload_n dX10_splits_101 rfl ?_
    refine kV_vw (as := [.int v2, .int v3]) (st := []) (k := 73) dX10_splits_102 zM_X10_needsPages zk_X10_196 (zo_X10 (zs_X10 ht)) (by decide) rfl ⟨Nat.le_of_ble_eq_true rfl, Nat.le_of_ble_eq_true rfl⟩ (Nat.le_of_ble_eq_true rfl) (zz_T0 rfl rfl) (fun Q' P' k h => c_X10_needsPages (v2) (v3) M2 ht h k) h (fun M3 h => ?_)
    refine r_iconst (v := (nI 0)) dX10_splits_105 (by decide) ?_
    refine s_istore ([some (.ref 73), some (.int v1), some (.int v2), some (.int v3), some (.int (nI 0))]) dX10_splits_106 (by decide) rfl rfl ?_
    exact w_X10_splits_108 (v1) (v2) (v3) ((nI 0)) M3 ht (zK_up h) kR
  · have h := zK_neg h c1
    refine r_aload_n dX10_splits_64 rfl ?_
    refine r_aload_n dX10_splits_65 rfl ?_
    refine r_getR (k := 73) (q := 79) dX10_splits_66 zf_X10_26 (zo_X10 (zs_X10 ht)) (zr_X10_14 (zs_X10 ht)).1 (zr_X10_14 (zs_X10 ht)).2.1 (zr_X10_14 (zs_X10 ht)).2.2 ?_
    refine r_iload dX10_splits_69 rfl ?_
    obtain ⟨g4, h⟩ := zK_gd h
    refine r_iald dX10_splits_71 (za_X10_14 (zs_X10 ht)) g4 ?_
    refine kV_zw (as := [.int (M.1 79 (v4).toNatClampNeg)]) (st := []) (k := 73) dX10_splits_72 zM_X10_goesOver zk_X10_193 (zo_X10 (zs_X10 ht)) (by decide) rfl ⟨Nat.le_of_ble_eq_true rfl, Nat.le_of_ble_eq_true rfl⟩ (Nat.le_of_ble_eq_true rfl) (zz_T0 rfl rfl) (fun Q' P' k h => c_X10_goesOver ((M.1 79 (v4).toNatClampNeg)) M ht h (fun r p => k r.1 r.2 p)) h (fun r6 M7 h => ?_)
    have h := zK_pr h
    refine r_ifZ_eq 82 dX10_splits_75 (by decide) (fun c8 => ?_) (fun c8 => ?_)
    · have h := zK_neg h c8
      refine r_iinc (nI 1) (fun x9 => [some (.ref 73), some (.int v1), some (.int v2), some (.int v3), some (.int x9)]) dX10_splits_82 rfl (by decide) (by decide) rfl (fun _ => rfl) (fun x9 ex9 => ?_)
      have h := zK_bd h ex9
      refine r_goto 55 dX10_splits_85 (by decide) ?_
      exact k55 ((v3, x9, M7)) (zK_some h)
    · have h := zK_pos h c8
      refine r_iload_n dX10_splits_78 rfl ?_
      refine r_iconst (v := (nI 1)) dX10_splits_79 (by decide) ?_
      refine r_iadd dX10_splits_80 ?_
      refine r_istore_n (fun x10 => [some (.ref 73), some (.int v1), some (.int v2), some (.int x10), some (.int v4)]) dX10_splits_81 (by decide) rfl (fun _ => rfl) (fun x10 ex10 => ?_)
      have h := zK_bd h ex10
      refine r_iinc (nI 1) (fun x11 => [some (.ref 73), some (.int v1), some (.int v2), some (.int x10), some (.int x11)]) dX10_splits_82 rfl (by decide) (by decide) rfl (fun _ => rfl) (fun x11 ex11 => ?_)
      have h := zK_bd h ex11
      refine r_goto 55 dX10_splits_85 (by decide) ?_
      exact k55 ((x10, x11, M7)) (zK_some h)
noncomputable def j_X10_splits_55 (v1 : Int32) (v2 : Int32) (v3 : Int32) (v4 : Int32) (M : zzMem) : Option (Int32 × zzMem) :=
  zlp (fun s : (Int32 × Int32 × zzMem) => b_X10_splits_55 v1 v2 s.1 s.2.1 s.2.2) (v3, v4, M)
set_option maxHeartbeats 4000000 in
set_option maxRecDepth 100000 in
theorem w_X10_splits_55 {G : zzG} {t : Nat} {Q : Option Value → zzMem → Prop} (v1 : Int32) (v2 : Int32) (v3 : Int32) (v4 : Int32) (M : zzMem) (ht : 180 ≤ t)  {P : (Int32 × zzMem) → Prop} (h : zK (j_X10_splits_55 v1 v2 v3 v4 M) P) (kR : ∀ r : (Int32 × zzMem), P r → Q (some (.int r.1)) r.2) : zz_W G m_X10_splits t t t 55 [some (.ref 73), some (.int v1), some (.int v2), some (.int v3), some (.int v4)] [] M Q := by
  unfold j_X10_splits_55 at h
  exact zK_lp h (fun s : (Int32 × Int32 × zzMem) => zz_W G m_X10_splits t t t 55 [some (.ref 73), some (.int v1), some (.int v2), some (.int s.1), some (.int s.2.1)] [] s.2.2 Q) (fun s h => x_X10_splits_55 v1 v2 s.1 s.2.1 s.2.2 ht h (fun s p => p) kR)
noncomputable def f_X10_splits  (M : zzMem) : Option (Int32 × zzMem) :=
  zbd ((M.1 74 6)) (fun x1 =>
  (f_X10_buckets M).bind (fun r2 =>
  (f_X10_chainOf x1 M).bind (fun r3 =>
  zbd (zz_si M 74 8 ((M.1 74 8) + r3)) (fun M4 =>
  (f_X10_lists x1 M4).bind (fun M5 =>
  (f_X10_freesPages x1 (nI 1) M5).bind (fun M6 =>
  (f_X10_takesPage r2 (nI 0) M6).bind (fun M7 =>
  j_X10_splits_55 x1 r2 (nI 0) (nI 0) M7)))))))
set_option maxHeartbeats 4000000 in
set_option maxRecDepth 100000 in
theorem w_X10_splits_0 {G : zzG} {t : Nat} {Q : Option Value → zzMem → Prop}  (M : zzMem) (ht : 180 ≤ t)  {P : (Int32 × zzMem) → Prop} (h : zK (f_X10_splits  M) P) (kR : ∀ r : (Int32 × zzMem), P r → Q (some (.int r.1)) r.2) : zz_W G m_X10_splits t t t 0 [some (.ref 73), none, none, none, none] [] M Q := by
  unfold f_X10_splits at h
  refine r_aload_n dX10_splits_0 rfl ?_
  refine r_getR (k := 73) (q := 74) dX10_splits_1 zf_X10_7 (zo_X10 (zs_X10 ht)) (zr_X10_0 (zs_X10 ht)).1 (zr_X10_0 (zs_X10 ht)).2.1 (zr_X10_0 (zs_X10 ht)).2.2 ?_
  refine r_bipush (v := (nI 6)) dX10_splits_4 (by decide) ?_
  refine r_ialdc (j := 6) dX10_splits_6 (za_X10_0 (zs_X10 ht)) rfl rfl ?_
  refine r_istore_n (fun x1 => [some (.ref 73), some (.int x1), none, none, none]) dX10_splits_7 (by decide) rfl (fun _ => rfl) (fun x1 ex1 => ?_)
  have h := zK_bd h ex1
  refine r_aload_n dX10_splits_8 rfl ?_
  refine kV_ir (as := []) (st := []) (k := 73) dX10_splits_9 zM_X10_buckets zk_X10_178 (zo_X10 (zs_X10 ht)) (by decide) rfl ⟨Nat.le_of_ble_eq_true rfl, Nat.le_of_ble_eq_true rfl⟩ (Nat.le_of_ble_eq_true rfl) (zz_T0 rfl rfl) (fun Q' P' k h => c_X10_buckets M ht h k) h (fun r2 h => ?_)
  refine s_istore_n ([some (.ref 73), some (.int x1), some (.int r2), none, none]) dX10_splits_12 (by decide) rfl rfl ?_
  refine r_iconst (v := (nI 0)) dX10_splits_13 (by decide) ?_
  refine s_istore_n ([some (.ref 73), some (.int x1), some (.int r2), some (.int (nI 0)), none]) dX10_splits_14 (by decide) rfl rfl ?_
  refine r_aload_n dX10_splits_15 rfl ?_
  refine r_getR (k := 73) (q := 74) dX10_splits_16 zf_X10_7 (zo_X10 (zs_X10 ht)) (zr_X10_0 (zs_X10 ht)).1 (zr_X10_0 (zs_X10 ht)).2.1 (zr_X10_0 (zs_X10 ht)).2.2 ?_
  refine r_bipush (v := (nI 8)) dX10_splits_19 (by decide) ?_
  refine r_aload_n dX10_splits_21 rfl ?_
  refine r_getR (k := 73) (q := 74) dX10_splits_22 zf_X10_7 (zo_X10 (zs_X10 ht)) (zr_X10_0 (zs_X10 ht)).1 (zr_X10_0 (zs_X10 ht)).2.1 (zr_X10_0 (zs_X10 ht)).2.2 ?_
  refine r_bipush (v := (nI 8)) dX10_splits_25 (by decide) ?_
  refine r_ialdc (j := 8) dX10_splits_27 (za_X10_0 (zs_X10 ht)) rfl rfl ?_
  refine r_aload_n dX10_splits_28 rfl ?_
  refine r_iload_n dX10_splits_29 rfl ?_
  refine kV_ir (as := [.int x1]) (st := [.int (M.1 74 8), .int (nI 8), .ref 74]) (k := 73) dX10_splits_30 zM_X10_chainOf zk_X10_172 (zo_X10 (zs_X10 ht)) (by decide) rfl ⟨Nat.le_of_ble_eq_true rfl, Nat.le_of_ble_eq_true rfl⟩ (Nat.le_of_ble_eq_true rfl) (zz_T0 rfl rfl) (fun Q' P' k h => c_X10_chainOf (x1) M ht h k) h (fun r3 h => ?_)
  refine r_iadd dX10_splits_33 ?_
  refine r_iastc (j := 8) dX10_splits_34 (za_X10_0 (zs_X10 ht)) rfl rfl (fun M4 eM4 => ?_)
  have h := zK_bd h eM4
  refine r_aload_n dX10_splits_35 rfl ?_
  refine r_iload_n dX10_splits_36 rfl ?_
  refine kV_vw (as := [.int x1]) (st := []) (k := 73) dX10_splits_37 zM_X10_lists zk_X10_187 (zo_X10 (zs_X10 ht)) (by decide) rfl ⟨Nat.le_of_ble_eq_true rfl, Nat.le_of_ble_eq_true rfl⟩ (Nat.le_of_ble_eq_true rfl) (zz_T0 rfl rfl) (fun Q' P' k h => c_X10_lists (x1) M4 ht h k) h (fun M5 h => ?_)
  refine r_aload_n dX10_splits_40 rfl ?_
  refine r_iload_n dX10_splits_41 rfl ?_
  refine r_iconst (v := (nI 1)) dX10_splits_42 (by decide) ?_
  refine kV_vw (as := [.int x1, .int (nI 1)]) (st := []) (k := 73) dX10_splits_43 zM_X10_freesPages zk_X10_190 (zo_X10 (zs_X10 ht)) (by decide) rfl ⟨Nat.le_of_ble_eq_true rfl, Nat.le_of_ble_eq_true rfl⟩ (Nat.le_of_ble_eq_true rfl) (zz_T0 rfl rfl) (fun Q' P' k h => c_X10_freesPages (x1) ((nI 1)) M5 ht h k) h (fun M6 h => ?_)
  refine r_aload_n dX10_splits_46 rfl ?_
  refine r_iload_n dX10_splits_47 rfl ?_
  refine r_iconst (v := (nI 0)) dX10_splits_48 (by decide) ?_
  refine kV_vw (as := [.int r2, .int (nI 0)]) (st := []) (k := 73) dX10_splits_49 zM_X10_takesPage zk_X10_175 (zo_X10 (zs_X10 ht)) (by decide) rfl ⟨Nat.le_of_ble_eq_true rfl, Nat.le_of_ble_eq_true rfl⟩ (Nat.le_of_ble_eq_true rfl) (zz_T0 rfl rfl) (fun Q' P' k h => c_X10_takesPage (r2) ((nI 0)) M6 ht h k) h (fun M7 h => ?_)
  refine r_iconst (v := (nI 0)) dX10_splits_52 (by decide) ?_
  refine s_istore ([some (.ref 73), some (.int x1), some (.int r2), some (.int (nI 0)), some (.int (nI 0))]) dX10_splits_53 (by decide) rfl rfl ?_
  exact w_X10_splits_55 (x1) (r2) ((nI 0)) ((nI 0)) M7 ht h kR
set_option maxHeartbeats 4000000 in
set_option maxRecDepth 100000 in
theorem c_X10_splits {G : zzG} {t : Nat} {Q : Option Value → zzMem → Prop}  (M : zzMem) (ht : 180 ≤ t)  {P : (Int32 × zzMem) → Prop} (h : zK (f_X10_splits  M) P) (kR : ∀ r : (Int32 × zzMem), P r → Q (some (.int r.1)) r.2) : zz_S G m_X10_splits t t [.ref 73] M Q :=
  zz_S_of (by decide) (by decide) (Nat.le_of_ble_eq_true rfl) (w_X10_splits_0  M ht h kR)
noncomputable def b_X10_comesTogether_121 (v2 : Int32) (v3 : Int32) (M : zzMem) : Option ((Int32 × zzMem) ⊕ (Int32 × zzMem)) :=
  if (M.1 73 15) ≤ v3 then
  ((f_X10_chainOf v2 M).bind (fun r2 =>
  zbd (zz_si M 74 9 ((M.1 74 9) + r2)) (fun M3 =>
  zbd (zz_si M3 74 11 ((M3.1 74 11) + (nI 1))) (fun M4 =>
  some ((.inr ((M4.1 73 15), M4)))))))
  else (zgd (vp_in v3 300) (
  (f_X10_comesBehind (M.1 79 (v3).toNatClampNeg) v2 M).bind (fun M6 =>
  zbd (v3 + (nI 1)) (fun x7 =>
  some (.inl (x7, M6))))))
set_option maxHeartbeats 4000000 in
set_option maxRecDepth 100000 in
theorem x_X10_comesTogether_121 {G : zzG} {t : Nat} {Q : Option Value → zzMem → Prop} (v2 : Int32) (v3 : Int32) (M : zzMem) (ht : 180 ≤ t)  {P : ((Int32 × zzMem) ⊕ (Int32 × zzMem)) → Prop} (h : zK (b_X10_comesTogether_121 v2 v3 M) P) (k121 : ∀ s : (Int32 × zzMem), P (.inl s) → zz_W G m_X10_comesTogether t t t 121 [some (.ref 73), none, some (.int v2), some (.int s.1)] [] s.2 Q) (kR : ∀ r : (Int32 × zzMem), P (.inr r) → Q (some (.int r.1)) r.2) : zz_W G m_X10_comesTogether t t t 121 [some (.ref 73), none, some (.int v2), some (.int v3)] [] M Q := by
  unfold b_X10_comesTogether_121 at h
  refine r_iload_n dX10_comesTogether_121 rfl ?_
  refine r_aload_n dX10_comesTogether_122 rfl ?_
  refine r_getI (k := 73) dX10_comesTogether_123 zf_X10_181 (zo_X10 (zs_X10 ht)) (zi_X10_15 (zs_X10 ht)) ?_
  refine r_icmp_ge 146 dX10_comesTogether_126 (by decide) (fun c1 => ?_) (fun c1 => ?_)
  · have h := zK_pos h c1
    refine r_aload_n dX10_comesTogether_146 rfl ?_
    refine r_getR (k := 73) (q := 74) dX10_comesTogether_147 zf_X10_7 (zo_X10 (zs_X10 ht)) (zr_X10_0 (zs_X10 ht)).1 (zr_X10_0 (zs_X10 ht)).2.1 (zr_X10_0 (zs_X10 ht)).2.2 ?_
    refine r_bipush (v := (nI 9)) dX10_comesTogether_150 (by decide) ?_
    refine r_aload_n dX10_comesTogether_152 rfl ?_
    refine r_getR (k := 73) (q := 74) dX10_comesTogether_153 zf_X10_7 (zo_X10 (zs_X10 ht)) (zr_X10_0 (zs_X10 ht)).1 (zr_X10_0 (zs_X10 ht)).2.1 (zr_X10_0 (zs_X10 ht)).2.2 ?_
    refine r_bipush (v := (nI 9)) dX10_comesTogether_156 (by decide) ?_
    refine r_ialdc (j := 9) dX10_comesTogether_158 (za_X10_0 (zs_X10 ht)) rfl rfl ?_
    refine r_aload_n dX10_comesTogether_159 rfl ?_
    refine r_iload_n dX10_comesTogether_160 rfl ?_
    refine kV_ir (as := [.int v2]) (st := [.int (M.1 74 9), .int (nI 9), .ref 74]) (k := 73) dX10_comesTogether_161 zM_X10_chainOf zk_X10_172 (zo_X10 (zs_X10 ht)) (by decide) rfl ⟨Nat.le_of_ble_eq_true rfl, Nat.le_of_ble_eq_true rfl⟩ (Nat.le_of_ble_eq_true rfl) (zz_T0 rfl rfl) (fun Q' P' k h => c_X10_chainOf (v2) M ht h k) h (fun r2 h => ?_)
    refine r_iadd dX10_comesTogether_164 ?_
    refine r_iastc (j := 9) dX10_comesTogether_165 (za_X10_0 (zs_X10 ht)) rfl rfl (fun M3 eM3 => ?_)
    have h := zK_bd h eM3
    refine r_aload_n dX10_comesTogether_166 rfl ?_
    refine r_getR (k := 73) (q := 74) dX10_comesTogether_167 zf_X10_7 (zo_X10 (zs_X10 ht)) (zr_X10_0 (zs_X10 ht)).1 (zr_X10_0 (zs_X10 ht)).2.1 (zr_X10_0 (zs_X10 ht)).2.2 ?_
    refine r_bipush (v := (nI 11)) dX10_comesTogether_170 (by decide) ?_
    refine r_aload_n dX10_comesTogether_172 rfl ?_
    refine r_getR (k := 73) (q := 74) dX10_comesTogether_173 zf_X10_7 (zo_X10 (zs_X10 ht)) (zr_X10_0 (zs_X10 ht)).1 (zr_X10_0 (zs_X10 ht)).2.1 (zr_X10_0 (zs_X10 ht)).2.2 ?_
    refine r_bipush (v := (nI 11)) dX10_comesTogether_176 (by decide) ?_
    refine r_ialdc (j := 11) dX10_comesTogether_178 (za_X10_0 (zs_X10 ht)) rfl rfl ?_
    refine r_iconst (v := (nI 1)) dX10_comesTogether_179 (by decide) ?_
    refine r_iadd dX10_comesTogether_180 ?_
    refine r_iastc (j := 11) dX10_comesTogether_181 (za_X10_0 (zs_X10 ht)) rfl rfl (fun M4 eM4 => ?_)
    have h := zK_bd h eM4
    refine r_aload_n dX10_comesTogether_182 rfl ?_
    refine r_getI (k := 73) dX10_comesTogether_183 zf_X10_181 (zo_X10 (zs_X10 ht)) (zi_X10_15 (zs_X10 ht)) ?_
    exact r_iret dX10_comesTogether_186 rfl rfl rfl (kR (((M4.1 73 15), M4)) (zK_some h))
  · have h := zK_neg h c1
    refine r_aload_n dX10_comesTogether_129 rfl ?_
    refine r_aload_n dX10_comesTogether_130 rfl ?_
    refine r_getR (k := 73) (q := 79) dX10_comesTogether_131 zf_X10_26 (zo_X10 (zs_X10 ht)) (zr_X10_14 (zs_X10 ht)).1 (zr_X10_14 (zs_X10 ht)).2.1 (zr_X10_14 (zs_X10 ht)).2.2 ?_
    refine r_iload_n dX10_comesTogether_134 rfl ?_
    obtain ⟨g5, h⟩ := zK_gd h
    refine r_iald dX10_comesTogether_135 (za_X10_14 (zs_X10 ht)) g5 ?_
    refine r_iload_n dX10_comesTogether_136 rfl ?_
    refine kV_vw (as := [.int (M.1 79 (v3).toNatClampNeg), .int v2]) (st := []) (k := 73) dX10_comesTogether_137 zM_X10_comesBehind zk_X10_199 (zo_X10 (zs_X10 ht)) (by decide) rfl ⟨Nat.le_of_ble_eq_true rfl, Nat.le_of_ble_eq_true rfl⟩ (Nat.le_of_ble_eq_true rfl) (zz_T0 rfl rfl) (fun Q' P' k h => c_X10_comesBehind ((M.1 79 (v3).toNatClampNeg)) (v2) M ht h k) h (fun M6 h => ?_)
    refine r_iinc (nI 1) (fun x7 => [some (.ref 73), none, some (.int v2), some (.int x7)]) dX10_comesTogether_140 rfl (by decide) (by decide) rfl (fun _ => rfl) (fun x7 ex7 => ?_)
    have h := zK_bd h ex7
    refine r_goto 121 dX10_comesTogether_143 (by decide) ?_
    exact k121 ((x7, M6)) (zK_some h)
noncomputable def j_X10_comesTogether_121 (v2 : Int32) (v3 : Int32) (M : zzMem) : Option (Int32 × zzMem) :=
  zlp (fun s : (Int32 × zzMem) => b_X10_comesTogether_121 v2 s.1 s.2) (v3, M)
set_option maxHeartbeats 4000000 in
set_option maxRecDepth 100000 in
theorem w_X10_comesTogether_121 {G : zzG} {t : Nat} {Q : Option Value → zzMem → Prop} (v2 : Int32) (v3 : Int32) (M : zzMem) (ht : 180 ≤ t)  {P : (Int32 × zzMem) → Prop} (h : zK (j_X10_comesTogether_121 v2 v3 M) P) (kR : ∀ r : (Int32 × zzMem), P r → Q (some (.int r.1)) r.2) : zz_W G m_X10_comesTogether t t t 121 [some (.ref 73), none, some (.int v2), some (.int v3)] [] M Q := by
  unfold j_X10_comesTogether_121 at h
  exact zK_lp h (fun s : (Int32 × zzMem) => zz_W G m_X10_comesTogether t t t 121 [some (.ref 73), none, some (.int v2), some (.int s.1)] [] s.2 Q) (fun s h => x_X10_comesTogether_121 v2 s.1 s.2 ht h (fun s p => p) kR)
noncomputable def j_X10_comesTogether_43 (v1 : Int32) (M : zzMem) : Option (Int32 × zzMem) :=
  zbd (zz_si M 74 6 ((M.1 74 6) - (nI 1))) (fun M1 =>
  zbd ((M1.1 74 6)) (fun x2 =>
  (f_X10_chainOf x2 M1).bind (fun r3 =>
  (f_X10_chainOf v1 M1).bind (fun r4 =>
  zbd (zz_si M1 74 8 (((M1.1 74 8) + r3) + r4)) (fun M5 =>
  (f_X10_lists v1 M5).bind (fun M6 =>
  (f_X10_freesPages v1 (nI 0) M6).bind (fun M7 =>
  (f_X10_keysIn x2 M7).bind (fun r8 =>
  (f_X10_needsPages x2 (r8 + (M7.1 73 15)) M7).bind (fun M9 =>
  j_X10_comesTogether_121 x2 (nI 0) M9)))))))))
set_option maxHeartbeats 4000000 in
set_option maxRecDepth 100000 in
theorem w_X10_comesTogether_43 {G : zzG} {t : Nat} {Q : Option Value → zzMem → Prop} (v1 : Int32) (M : zzMem) (ht : 180 ≤ t)  {P : (Int32 × zzMem) → Prop} (h : zK (j_X10_comesTogether_43 v1 M) P) (kR : ∀ r : (Int32 × zzMem), P r → Q (some (.int r.1)) r.2) : zz_W G m_X10_comesTogether t t t 43 [some (.ref 73), some (.int v1), none, none] [] M Q := by
  unfold j_X10_comesTogether_43 at h
  refine r_aload_n dX10_comesTogether_43 rfl ?_
  refine r_getR (k := 73) (q := 74) dX10_comesTogether_44 zf_X10_7 (zo_X10 (zs_X10 ht)) (zr_X10_0 (zs_X10 ht)).1 (zr_X10_0 (zs_X10 ht)).2.1 (zr_X10_0 (zs_X10 ht)).2.2 ?_
  refine r_bipush (v := (nI 6)) dX10_comesTogether_47 (by decide) ?_
  refine r_aload_n dX10_comesTogether_49 rfl ?_
  refine r_getR (k := 73) (q := 74) dX10_comesTogether_50 zf_X10_7 (zo_X10 (zs_X10 ht)) (zr_X10_0 (zs_X10 ht)).1 (zr_X10_0 (zs_X10 ht)).2.1 (zr_X10_0 (zs_X10 ht)).2.2 ?_
  refine r_bipush (v := (nI 6)) dX10_comesTogether_53 (by decide) ?_
  refine r_ialdc (j := 6) dX10_comesTogether_55 (za_X10_0 (zs_X10 ht)) rfl rfl ?_
  refine r_iconst (v := (nI 1)) dX10_comesTogether_56 (by decide) ?_
  refine r_isub dX10_comesTogether_57 ?_
  refine r_iastc (j := 6) dX10_comesTogether_58 (za_X10_0 (zs_X10 ht)) rfl rfl (fun M1 eM1 => ?_)
  have h := zK_bd h eM1
  refine r_aload_n dX10_comesTogether_59 rfl ?_
  refine r_getR (k := 73) (q := 74) dX10_comesTogether_60 zf_X10_7 (zo_X10 (zs_X10 ht)) (zr_X10_0 (zs_X10 ht)).1 (zr_X10_0 (zs_X10 ht)).2.1 (zr_X10_0 (zs_X10 ht)).2.2 ?_
  refine r_bipush (v := (nI 6)) dX10_comesTogether_63 (by decide) ?_
  refine r_ialdc (j := 6) dX10_comesTogether_65 (za_X10_0 (zs_X10 ht)) rfl rfl ?_
  refine r_istore_n (fun x2 => [some (.ref 73), some (.int v1), some (.int x2), none]) dX10_comesTogether_66 (by decide) rfl (fun _ => rfl) (fun x2 ex2 => ?_)
  have h := zK_bd h ex2
  refine r_aload_n dX10_comesTogether_67 rfl ?_
  refine r_getR (k := 73) (q := 74) dX10_comesTogether_68 zf_X10_7 (zo_X10 (zs_X10 ht)) (zr_X10_0 (zs_X10 ht)).1 (zr_X10_0 (zs_X10 ht)).2.1 (zr_X10_0 (zs_X10 ht)).2.2 ?_
  refine r_bipush (v := (nI 8)) dX10_comesTogether_71 (by decide) ?_
  refine r_aload_n dX10_comesTogether_73 rfl ?_
  refine r_getR (k := 73) (q := 74) dX10_comesTogether_74 zf_X10_7 (zo_X10 (zs_X10 ht)) (zr_X10_0 (zs_X10 ht)).1 (zr_X10_0 (zs_X10 ht)).2.1 (zr_X10_0 (zs_X10 ht)).2.2 ?_
  refine r_bipush (v := (nI 8)) dX10_comesTogether_77 (by decide) ?_
  refine r_ialdc (j := 8) dX10_comesTogether_79 (za_X10_0 (zs_X10 ht)) rfl rfl ?_
  refine r_aload_n dX10_comesTogether_80 rfl ?_
  refine r_iload_n dX10_comesTogether_81 rfl ?_
  refine kV_ir (as := [.int x2]) (st := [.int (M1.1 74 8), .int (nI 8), .ref 74]) (k := 73) dX10_comesTogether_82 zM_X10_chainOf zk_X10_172 (zo_X10 (zs_X10 ht)) (by decide) rfl ⟨Nat.le_of_ble_eq_true rfl, Nat.le_of_ble_eq_true rfl⟩ (Nat.le_of_ble_eq_true rfl) (zz_T0 rfl rfl) (fun Q' P' k h => c_X10_chainOf (x2) M1 ht h k) h (fun r3 h => ?_)
  refine r_iadd dX10_comesTogether_85 ?_
  refine r_aload_n dX10_comesTogether_86 rfl ?_
  refine r_iload_n dX10_comesTogether_87 rfl ?_
  refine kV_ir (as := [.int v1]) (st := [.int ((M1.1 74 8) + r3), .int (nI 8), .ref 74]) (k := 73) dX10_comesTogether_88 zM_X10_chainOf zk_X10_172 (zo_X10 (zs_X10 ht)) (by decide) rfl ⟨Nat.le_of_ble_eq_true rfl, Nat.le_of_ble_eq_true rfl⟩ (Nat.le_of_ble_eq_true rfl) (zz_T0 rfl rfl) (fun Q' P' k h => c_X10_chainOf (v1) M1 ht h k) h (fun r4 h => ?_)
  refine r_iadd dX10_comesTogether_91 ?_
  refine r_iastc (j := 8) dX10_comesTogether_92 (za_X10_0 (zs_X10 ht)) rfl rfl (fun M5 eM5 => ?_)
  have h := zK_bd h eM5
  refine r_aload_n dX10_comesTogether_93 rfl ?_
  refine r_iload_n dX10_comesTogether_94 rfl ?_
  refine kV_vw (as := [.int v1]) (st := []) (k := 73) dX10_comesTogether_95 zM_X10_lists zk_X10_187 (zo_X10 (zs_X10 ht)) (by decide) rfl ⟨Nat.le_of_ble_eq_true rfl, Nat.le_of_ble_eq_true rfl⟩ (Nat.le_of_ble_eq_true rfl) (zz_T0 rfl rfl) (fun Q' P' k h => c_X10_lists (v1) M5 ht h k) h (fun M6 h => ?_)
  refine r_aload_n dX10_comesTogether_98 rfl ?_
  refine r_iload_n dX10_comesTogether_99 rfl ?_
  refine r_iconst (v := (nI 0)) dX10_comesTogether_100 (by decide) ?_
  refine kV_vw (as := [.int v1, .int (nI 0)]) (st := []) (k := 73) dX10_comesTogether_101 zM_X10_freesPages zk_X10_190 (zo_X10 (zs_X10 ht)) (by decide) rfl ⟨Nat.le_of_ble_eq_true rfl, Nat.le_of_ble_eq_true rfl⟩ (Nat.le_of_ble_eq_true rfl) (zz_T0 rfl rfl) (fun Q' P' k h => c_X10_freesPages (v1) ((nI 0)) M6 ht h k) h (fun M7 h => ?_)
  refine r_aload_n dX10_comesTogether_104 rfl ?_
  refine r_iload_n dX10_comesTogether_105 rfl ?_
  refine r_aload_n dX10_comesTogether_106 rfl ?_
  refine r_iload_n dX10_comesTogether_107 rfl ?_
  refine kV_ir (as := [.int x2]) (st := [.int x2, .ref 73]) (k := 73) dX10_comesTogether_108 zM_X10_keysIn zk_X10_202 (zo_X10 (zs_X10 ht)) (by decide) rfl ⟨Nat.le_of_ble_eq_true rfl, Nat.le_of_ble_eq_true rfl⟩ (Nat.le_of_ble_eq_true rfl) (zz_T0 rfl rfl) (fun Q' P' k h => c_X10_keysIn (x2) M7 ht h k) h (fun r8 h => ?_)
  refine r_aload_n dX10_comesTogether_111 rfl ?_
  refine r_getI (k := 73) dX10_comesTogether_112 zf_X10_181 (zo_X10 (zs_X10 ht)) (zi_X10_15 (zs_X10 ht)) ?_
  refine r_iadd dX10_comesTogether_115 ?_
  refine kV_vw (as := [.int x2, .int (r8 + (M7.1 73 15))]) (st := []) (k := 73) dX10_comesTogether_116 zM_X10_needsPages zk_X10_196 (zo_X10 (zs_X10 ht)) (by decide) rfl ⟨Nat.le_of_ble_eq_true rfl, Nat.le_of_ble_eq_true rfl⟩ (Nat.le_of_ble_eq_true rfl) (zz_T0 rfl rfl) (fun Q' P' k h => c_X10_needsPages (x2) ((r8 + (M7.1 73 15))) M7 ht h k) h (fun M9 h => ?_)
  refine r_iconst (v := (nI 0)) dX10_comesTogether_119 (by decide) ?_
  refine s_istore_n ([some (.ref 73), some (.int v1), some (.int x2), some (.int (nI 0))]) dX10_comesTogether_120 (by decide) rfl rfl ?_
  refine zz_mask [1] ?_
  exact w_X10_comesTogether_121 (x2) ((nI 0)) M9 ht h kR
noncomputable def f_X10_comesTogether  (M : zzMem) : Option (Int32 × zzMem) :=
  (f_X10_buckets M).bind (fun r1 =>
  zbd ((r1 - (nI 1))) (fun x2 =>
  if (M.1 74 6) = 0 then
  (zbd (zz_si M 74 5 ((M.1 74 5) - (nI 1))) (fun M4 =>
  (f_X10_first (nI 0) M4).bind (fun r5 =>
  zbd (zz_si M4 74 6 r5) (fun M6 =>
  j_X10_comesTogether_43 x2 M6))))
  else (j_X10_comesTogether_43 x2 M)))
set_option maxHeartbeats 4000000 in
set_option maxRecDepth 100000 in
theorem w_X10_comesTogether_0 {G : zzG} {t : Nat} {Q : Option Value → zzMem → Prop}  (M : zzMem) (ht : 180 ≤ t)  {P : (Int32 × zzMem) → Prop} (h : zK (f_X10_comesTogether  M) P) (kR : ∀ r : (Int32 × zzMem), P r → Q (some (.int r.1)) r.2) : zz_W G m_X10_comesTogether t t t 0 [some (.ref 73), none, none, none] [] M Q := by
  unfold f_X10_comesTogether at h
  refine r_aload_n dX10_comesTogether_0 rfl ?_
  refine kV_ir (as := []) (st := []) (k := 73) dX10_comesTogether_1 zM_X10_buckets zk_X10_178 (zo_X10 (zs_X10 ht)) (by decide) rfl ⟨Nat.le_of_ble_eq_true rfl, Nat.le_of_ble_eq_true rfl⟩ (Nat.le_of_ble_eq_true rfl) (zz_T0 rfl rfl) (fun Q' P' k h => c_X10_buckets M ht h k) h (fun r1 h => ?_)
  refine r_iconst (v := (nI 1)) dX10_comesTogether_4 (by decide) ?_
  refine r_isub dX10_comesTogether_5 ?_
  refine r_istore_n (fun x2 => [some (.ref 73), some (.int x2), none, none]) dX10_comesTogether_6 (by decide) rfl (fun _ => rfl) (fun x2 ex2 => ?_)
  have h := zK_bd h ex2
  refine r_aload_n dX10_comesTogether_7 rfl ?_
  refine r_getR (k := 73) (q := 74) dX10_comesTogether_8 zf_X10_7 (zo_X10 (zs_X10 ht)) (zr_X10_0 (zs_X10 ht)).1 (zr_X10_0 (zs_X10 ht)).2.1 (zr_X10_0 (zs_X10 ht)).2.2 ?_
  refine r_bipush (v := (nI 6)) dX10_comesTogether_11 (by decide) ?_
  refine r_ialdc (j := 6) dX10_comesTogether_13 (za_X10_0 (zs_X10 ht)) rfl rfl ?_
  refine r_if_ne 43 dX10_comesTogether_14 (by decide) (fun c3 => ?_) (fun c3 => ?_)
  · have h := zK_neg h c3
    exact w_X10_comesTogether_43 (x2) M ht h kR
  · have h := zK_pos h c3
    refine r_aload_n dX10_comesTogether_17 rfl ?_
    refine r_getR (k := 73) (q := 74) dX10_comesTogether_18 zf_X10_7 (zo_X10 (zs_X10 ht)) (zr_X10_0 (zs_X10 ht)).1 (zr_X10_0 (zs_X10 ht)).2.1 (zr_X10_0 (zs_X10 ht)).2.2 ?_
    refine r_iconst (v := (nI 5)) dX10_comesTogether_21 (by decide) ?_
    refine r_aload_n dX10_comesTogether_22 rfl ?_
    refine r_getR (k := 73) (q := 74) dX10_comesTogether_23 zf_X10_7 (zo_X10 (zs_X10 ht)) (zr_X10_0 (zs_X10 ht)).1 (zr_X10_0 (zs_X10 ht)).2.1 (zr_X10_0 (zs_X10 ht)).2.2 ?_
    refine r_iconst (v := (nI 5)) dX10_comesTogether_26 (by decide) ?_
    refine r_ialdc (j := 5) dX10_comesTogether_27 (za_X10_0 (zs_X10 ht)) rfl rfl ?_
    refine r_iconst (v := (nI 1)) dX10_comesTogether_28 (by decide) ?_
    refine r_isub dX10_comesTogether_29 ?_
    refine r_iastc (j := 5) dX10_comesTogether_30 (za_X10_0 (zs_X10 ht)) rfl rfl (fun M4 eM4 => ?_)
    have h := zK_bd h eM4
    refine r_aload_n dX10_comesTogether_31 rfl ?_
    refine r_getR (k := 73) (q := 74) dX10_comesTogether_32 zf_X10_7 (zo_X10 (zs_X10 ht)) (zr_X10_0 (zs_X10 ht)).1 (zr_X10_0 (zs_X10 ht)).2.1 (zr_X10_0 (zs_X10 ht)).2.2 ?_
    refine r_bipush (v := (nI 6)) dX10_comesTogether_35 (by decide) ?_
    refine r_aload_n dX10_comesTogether_37 rfl ?_
    refine r_iconst (v := (nI 0)) dX10_comesTogether_38 (by decide) ?_
    refine kV_ir (as := [.int (nI 0)]) (st := [.int (nI 6), .ref 74]) (k := 73) dX10_comesTogether_39 zM_X10_first zk_X10_163 (zo_X10 (zs_X10 ht)) (by decide) rfl ⟨Nat.le_of_ble_eq_true rfl, Nat.le_of_ble_eq_true rfl⟩ (Nat.le_of_ble_eq_true rfl) (zz_T0 rfl rfl) (fun Q' P' k h => c_X10_first ((nI 0)) M4 ht h k) h (fun r5 h => ?_)
    refine r_iastc (j := 6) dX10_comesTogether_42 (za_X10_0 (zs_X10 ht)) rfl rfl (fun M6 eM6 => ?_)
    have h := zK_bd h eM6
    exact w_X10_comesTogether_43 (x2) M6 ht h kR
set_option maxHeartbeats 4000000 in
set_option maxRecDepth 100000 in
theorem c_X10_comesTogether {G : zzG} {t : Nat} {Q : Option Value → zzMem → Prop}  (M : zzMem) (ht : 180 ≤ t)  {P : (Int32 × zzMem) → Prop} (h : zK (f_X10_comesTogether  M) P) (kR : ∀ r : (Int32 × zzMem), P r → Q (some (.int r.1)) r.2) : zz_S G m_X10_comesTogether t t [.ref 73] M Q :=
  zz_S_of (by decide) (by decide) (Nat.le_of_ble_eq_true rfl) (w_X10_comesTogether_0  M ht h kR)
noncomputable def f_X10_split  (M : zzMem) : Option (Int32 × zzMem) :=
  (f_X10_buckets M).bind (fun r1 =>
  if r1 = (nI 64) then
  (some (((-3 : Int32), M)))
  else ((f_X10_splits M).bind (fun q3 => zpr q3 (fun r4 M5 =>
  some ((r4, M5))))))
set_option maxHeartbeats 4000000 in
set_option maxRecDepth 100000 in
theorem w_X10_split_0 {G : zzG} {t : Nat} {Q : Option Value → zzMem → Prop}  (M : zzMem) (ht : 180 ≤ t)  {P : (Int32 × zzMem) → Prop} (h : zK (f_X10_split  M) P) (kR : ∀ r : (Int32 × zzMem), P r → Q (some (.int r.1)) r.2) : zz_W G m_X10_split t t t 0 [some (.ref 73)] [] M Q := by
  unfold f_X10_split at h
  refine r_aload_n dX10_split_0 rfl ?_
  refine kV_ir (as := []) (st := []) (k := 73) dX10_split_1 zM_X10_buckets zk_X10_178 (zo_X10 (zs_X10 ht)) (by decide) rfl ⟨Nat.le_of_ble_eq_true rfl, Nat.le_of_ble_eq_true rfl⟩ (Nat.le_of_ble_eq_true rfl) (zz_T0 rfl rfl) (fun Q' P' k h => c_X10_buckets M ht h k) h (fun r1 h => ?_)
  refine r_bipush (v := (nI 64)) dX10_split_4 (by decide) ?_
  refine r_icmp_ne 14 dX10_split_6 (by decide) (fun c2 => ?_) (fun c2 => ?_)
  · have h := zK_neg h c2
    refine r_aload_n dX10_split_14 rfl ?_
    refine kV_iw (as := []) (st := []) (k := 73) dX10_split_15 zM_X10_splits zk_X10_205 (zo_X10 (zs_X10 ht)) (by decide) rfl ⟨Nat.le_of_ble_eq_true rfl, Nat.le_of_ble_eq_true rfl⟩ (Nat.le_of_ble_eq_true rfl) (zz_T0 rfl rfl) (fun Q' P' k h => c_X10_splits M ht h (fun r p => k r.1 r.2 p)) h (fun r4 M5 h => ?_)
    have h := zK_pr h
    exact r_iret dX10_split_18 rfl rfl rfl (kR ((r4, M5)) (zK_some h))
  · have h := zK_pos h c2
    refine r_bipush (v := (-3 : Int32)) dX10_split_9 (by decide) ?_
    refine r_goto 18 dX10_split_11 (by decide) ?_
    exact r_iret dX10_split_18 rfl rfl rfl (kR (((-3 : Int32), M)) (zK_some h))
set_option maxHeartbeats 4000000 in
set_option maxRecDepth 100000 in
theorem c_X10_split {G : zzG} {t : Nat} {Q : Option Value → zzMem → Prop}  (M : zzMem) (ht : 180 ≤ t)  {P : (Int32 × zzMem) → Prop} (h : zK (f_X10_split  M) P) (kR : ∀ r : (Int32 × zzMem), P r → Q (some (.int r.1)) r.2) : zz_S G m_X10_split t t [.ref 73] M Q :=
  zz_S_of (by decide) (by decide) (Nat.le_of_ble_eq_true rfl) (w_X10_split_0  M ht h kR)
noncomputable def f_X10_join  (M : zzMem) : Option (Int32 × zzMem) :=
  (f_X10_buckets M).bind (fun r1 =>
  if r1 = (M.1 74 0) then
  (some (((-3 : Int32), M)))
  else ((f_X10_comesTogether M).bind (fun q3 => zpr q3 (fun r4 M5 =>
  some ((r4, M5))))))
set_option maxHeartbeats 4000000 in
set_option maxRecDepth 100000 in
theorem w_X10_join_0 {G : zzG} {t : Nat} {Q : Option Value → zzMem → Prop}  (M : zzMem) (ht : 180 ≤ t)  {P : (Int32 × zzMem) → Prop} (h : zK (f_X10_join  M) P) (kR : ∀ r : (Int32 × zzMem), P r → Q (some (.int r.1)) r.2) : zz_W G m_X10_join t t t 0 [some (.ref 73)] [] M Q := by
  unfold f_X10_join at h
  refine r_aload_n dX10_join_0 rfl ?_
  refine kV_ir (as := []) (st := []) (k := 73) dX10_join_1 zM_X10_buckets zk_X10_178 (zo_X10 (zs_X10 ht)) (by decide) rfl ⟨Nat.le_of_ble_eq_true rfl, Nat.le_of_ble_eq_true rfl⟩ (Nat.le_of_ble_eq_true rfl) (zz_T0 rfl rfl) (fun Q' P' k h => c_X10_buckets M ht h k) h (fun r1 h => ?_)
  refine r_aload_n dX10_join_4 rfl ?_
  refine r_getR (k := 73) (q := 74) dX10_join_5 zf_X10_7 (zo_X10 (zs_X10 ht)) (zr_X10_0 (zs_X10 ht)).1 (zr_X10_0 (zs_X10 ht)).2.1 (zr_X10_0 (zs_X10 ht)).2.2 ?_
  refine r_iconst (v := (nI 0)) dX10_join_8 (by decide) ?_
  refine r_ialdc (j := 0) dX10_join_9 (za_X10_0 (zs_X10 ht)) rfl rfl ?_
  refine r_icmp_ne 18 dX10_join_10 (by decide) (fun c2 => ?_) (fun c2 => ?_)
  · have h := zK_neg h c2
    refine r_aload_n dX10_join_18 rfl ?_
    refine kV_iw (as := []) (st := []) (k := 73) dX10_join_19 zM_X10_comesTogether zk_X10_208 (zo_X10 (zs_X10 ht)) (by decide) rfl ⟨Nat.le_of_ble_eq_true rfl, Nat.le_of_ble_eq_true rfl⟩ (Nat.le_of_ble_eq_true rfl) (zz_T0 rfl rfl) (fun Q' P' k h => c_X10_comesTogether M ht h (fun r p => k r.1 r.2 p)) h (fun r4 M5 h => ?_)
    have h := zK_pr h
    exact r_iret dX10_join_22 rfl rfl rfl (kR ((r4, M5)) (zK_some h))
  · have h := zK_pos h c2
    refine r_bipush (v := (-3 : Int32)) dX10_join_13 (by decide) ?_
    refine r_goto 22 dX10_join_15 (by decide) ?_
    exact r_iret dX10_join_22 rfl rfl rfl (kR (((-3 : Int32), M)) (zK_some h))
set_option maxHeartbeats 4000000 in
set_option maxRecDepth 100000 in
theorem c_X10_join {G : zzG} {t : Nat} {Q : Option Value → zzMem → Prop}  (M : zzMem) (ht : 180 ≤ t)  {P : (Int32 × zzMem) → Prop} (h : zK (f_X10_join  M) P) (kR : ∀ r : (Int32 × zzMem), P r → Q (some (.int r.1)) r.2) : zz_S G m_X10_join t t [.ref 73] M Q :=
  zz_S_of (by decide) (by decide) (Nat.le_of_ble_eq_true rfl) (w_X10_join_0  M ht h kR)
noncomputable def f_X10_isKey (a0 : Int32) : Bool :=
  (f_X10_in a0 (nI 0) (nI 65535))
set_option maxHeartbeats 4000000 in
set_option maxRecDepth 100000 in
theorem w_X10_isKey_0 {G : zzG} {t : Nat} {Q : Option Value → zzMem → Prop} (a0 : Int32) (M : zzMem)  {P : Bool → Prop} (h : P (f_X10_isKey a0)) (kR : ∀ r : Bool, P r → Q (some (.int (zb r))) M) : zz_W G m_X10_isKey t t t 0 [some (.int a0)] [] M Q := by
  unfold f_X10_isKey at h
  refine r_iload_n dX10_isKey_0 rfl ?_
  refine r_iconst (v := (nI 0)) dX10_isKey_1 (by decide) ?_
  refine r_ldc (v := (nI 65535)) dX10_isKey_2 zd_X10_129 ?_
  refine tS_zr (v := f_X10_in a0 (nI 0) (nI 65535)) (as := [.int a0, .int (nI 0), .int (nI 65535)]) (st := []) dX10_isKey_4 zM_X10_in zk_X10_67 ⟨Nat.le_of_ble_eq_true rfl, Nat.le_of_ble_eq_true rfl⟩ (Nat.le_of_ble_eq_true rfl) (zz_T0 rfl rfl) (fun Q' h => c_X10_in (a0) ((nI 0)) ((nI 65535)) M h) ?_
  exact r_zret (b := (f_X10_in a0 (nI 0) (nI 65535))) dX10_isKey_7 rfl rfl rfl (kR ((f_X10_in a0 (nI 0) (nI 65535))) h)
set_option maxHeartbeats 4000000 in
set_option maxRecDepth 100000 in
theorem c_X10_isKey {G : zzG} {t : Nat} {Q : Option Value → zzMem → Prop} (a0 : Int32) (M : zzMem)  (h : Q (some (.int (zb (f_X10_isKey a0)))) M) : zz_S G m_X10_isKey t t [.int a0] M Q :=
  zz_S_of (by decide) (by decide) (Nat.le_of_ble_eq_true rfl) (w_X10_isKey_0 a0 M  (P := fun r => Q (some (.int (zb r))) M) h (fun r p => p))
noncomputable def f_X10_readsOf (a1 : Int32) (M : zzMem) : Option Int32 :=
  (f_X10_placeOf a1 M).bind (fun r1 =>
  zgd (¬ (M.1 74 1) = 0) (
  some (((r1 / (M.1 74 1)) + (nI 1)))))
set_option maxHeartbeats 4000000 in
set_option maxRecDepth 100000 in
theorem w_X10_readsOf_0 {G : zzG} {t : Nat} {Q : Option Value → zzMem → Prop} (a1 : Int32) (M : zzMem) (ht : 180 ≤ t)  {P : Int32 → Prop} (h : zK (f_X10_readsOf a1 M) P) (kR : ∀ r : Int32, P r → Q (some (.int r)) M) : zz_W G m_X10_readsOf t t t 0 [some (.ref 73), some (.int a1)] [] M Q := by
  unfold f_X10_readsOf at h
  refine r_aload_n dX10_readsOf_0 rfl ?_
  refine r_iload_n dX10_readsOf_1 rfl ?_
  refine kV_ir (as := [.int a1]) (st := []) (k := 73) dX10_readsOf_2 zM_X10_placeOf zk_X10_169 (zo_X10 (zs_X10 ht)) (by decide) rfl ⟨Nat.le_of_ble_eq_true rfl, Nat.le_of_ble_eq_true rfl⟩ (Nat.le_of_ble_eq_true rfl) (zz_T0 rfl rfl) (fun Q' P' k h => c_X10_placeOf (a1) M ht h k) h (fun r1 h => ?_)
  refine r_aload_n dX10_readsOf_5 rfl ?_
  refine r_getR (k := 73) (q := 74) dX10_readsOf_6 zf_X10_7 (zo_X10 (zs_X10 ht)) (zr_X10_0 (zs_X10 ht)).1 (zr_X10_0 (zs_X10 ht)).2.1 (zr_X10_0 (zs_X10 ht)).2.2 ?_
  refine r_iconst (v := (nI 1)) dX10_readsOf_9 (by decide) ?_
  refine r_ialdc (j := 1) dX10_readsOf_10 (za_X10_0 (zs_X10 ht)) rfl rfl ?_
  obtain ⟨g2, h⟩ := zK_gd h
  refine r_idiv dX10_readsOf_11 g2 ?_
  refine r_iconst (v := (nI 1)) dX10_readsOf_12 (by decide) ?_
  refine r_iadd dX10_readsOf_13 ?_
  exact r_iret dX10_readsOf_14 rfl rfl rfl (kR (((r1 / (M.1 74 1)) + (nI 1))) (zK_some h))
set_option maxHeartbeats 4000000 in
set_option maxRecDepth 100000 in
theorem c_X10_readsOf {G : zzG} {t : Nat} {Q : Option Value → zzMem → Prop} (a1 : Int32) (M : zzMem) (ht : 180 ≤ t)  {P : Int32 → Prop} (h : zK (f_X10_readsOf a1 M) P) (kR : ∀ r : Int32, P r → Q (some (.int r)) M) : zz_S G m_X10_readsOf t t [.ref 73, .int a1] M Q :=
  zz_S_of (by decide) (by decide) (Nat.le_of_ble_eq_true rfl) (w_X10_readsOf_0 a1 M ht h kR)
noncomputable def f_X10_findReads (a1 : Int32) (M : zzMem) : Option (Int32 × zzMem) :=
  (f_X10_entryOf (nI 0) a1 M).bind (fun r1 =>
  if r1 = (-1 : Int32) then
  ((f_X10_addressOf a1 M).bind (fun q4 => zpr q4 (fun r5 M6 =>
  (f_X10_chainOf r5 M6).bind (fun r7 =>
  some ((r7, M6))))))
  else ((f_X10_readsOf r1 M).bind (fun r3 =>
  some ((r3, M)))))
set_option maxHeartbeats 4000000 in
set_option maxRecDepth 100000 in
theorem w_X10_findReads_0 {G : zzG} {t : Nat} {Q : Option Value → zzMem → Prop} (a1 : Int32) (M : zzMem) (ht : 180 ≤ t)  {P : (Int32 × zzMem) → Prop} (h : zK (f_X10_findReads a1 M) P) (kR : ∀ r : (Int32 × zzMem), P r → Q (some (.int r.1)) r.2) : zz_W G m_X10_findReads t t t 0 [some (.ref 73), some (.int a1), none] [] M Q := by
  unfold f_X10_findReads at h
  refine r_aload_n dX10_findReads_0 rfl ?_
  refine r_iconst (v := (nI 0)) dX10_findReads_1 (by decide) ?_
  refine r_iload_n dX10_findReads_2 rfl ?_
  refine kV_ir (as := [.int (nI 0), .int a1]) (st := []) (k := 73) dX10_findReads_3 zM_X10_entryOf zk_X10_211 (zo_X10 (zs_X10 ht)) (by decide) rfl ⟨Nat.le_of_ble_eq_true rfl, Nat.le_of_ble_eq_true rfl⟩ (Nat.le_of_ble_eq_true rfl) (zz_T0 rfl rfl) (fun Q' P' k h => c_X10_entryOf ((nI 0)) (a1) M ht h k) h (fun r1 h => ?_)
  refine s_istore_n ([some (.ref 73), some (.int a1), some (.int r1)]) dX10_findReads_6 (by decide) rfl rfl ?_
  refine r_iload_n dX10_findReads_7 rfl ?_
  refine r_iconst (v := (-1 : Int32)) dX10_findReads_8 (by decide) ?_
  refine r_icmp_ne 24 dX10_findReads_9 (by decide) (fun c2 => ?_) (fun c2 => ?_)
  · have h := zK_neg h c2
    refine r_aload_n dX10_findReads_24 rfl ?_
    refine r_iload_n dX10_findReads_25 rfl ?_
    refine kV_ir (as := [.int r1]) (st := []) (k := 73) dX10_findReads_26 zM_X10_readsOf zk_X10_217 (zo_X10 (zs_X10 ht)) (by decide) rfl ⟨Nat.le_of_ble_eq_true rfl, Nat.le_of_ble_eq_true rfl⟩ (Nat.le_of_ble_eq_true rfl) (zz_T0 rfl rfl) (fun Q' P' k h => c_X10_readsOf (r1) M ht h k) h (fun r3 h => ?_)
    exact r_iret dX10_findReads_29 rfl rfl rfl (kR ((r3, M)) (zK_some h))
  · have h := zK_pos h c2
    refine r_aload_n dX10_findReads_12 rfl ?_
    refine r_aload_n dX10_findReads_13 rfl ?_
    refine r_iload_n dX10_findReads_14 rfl ?_
    refine kV_iw (as := [.int a1]) (st := [.ref 73]) (k := 73) dX10_findReads_15 zM_X10_addressOf zk_X10_214 (zo_X10 (zs_X10 ht)) (by decide) rfl ⟨Nat.le_of_ble_eq_true rfl, Nat.le_of_ble_eq_true rfl⟩ (Nat.le_of_ble_eq_true rfl) (zz_T0 rfl rfl) (fun Q' P' k h => c_X10_addressOf (a1) M ht h (fun r p => k r.1 r.2 p)) h (fun r5 M6 h => ?_)
    have h := zK_pr h
    refine kV_ir (as := [.int r5]) (st := []) (k := 73) dX10_findReads_18 zM_X10_chainOf zk_X10_172 (zo_X10 (zs_X10 ht)) (by decide) rfl ⟨Nat.le_of_ble_eq_true rfl, Nat.le_of_ble_eq_true rfl⟩ (Nat.le_of_ble_eq_true rfl) (zz_T0 rfl rfl) (fun Q' P' k h => c_X10_chainOf (r5) M6 ht h k) h (fun r7 h => ?_)
    refine r_goto 29 dX10_findReads_21 (by decide) ?_
    exact r_iret dX10_findReads_29 rfl rfl rfl (kR ((r7, M6)) (zK_some h))
set_option maxHeartbeats 4000000 in
set_option maxRecDepth 100000 in
theorem c_X10_findReads {G : zzG} {t : Nat} {Q : Option Value → zzMem → Prop} (a1 : Int32) (M : zzMem) (ht : 180 ≤ t)  {P : (Int32 × zzMem) → Prop} (h : zK (f_X10_findReads a1 M) P) (kR : ∀ r : (Int32 × zzMem), P r → Q (some (.int r.1)) r.2) : zz_S G m_X10_findReads t t [.ref 73, .int a1] M Q :=
  zz_S_of (by decide) (by decide) (Nat.le_of_ble_eq_true rfl) (w_X10_findReads_0 a1 M ht h kR)
noncomputable def j_X10_puts_257 (ws0 : Bool) (M : zzMem) : Option (Int32 × zzMem) :=
  if ws0 = true then
  ((f_X10_buckets M).bind (fun r2 =>
  if (nI 64) ≤ r2 then
  (some (((nI 0), M)))
  else ((f_X10_splits M).bind (fun q4 => zpr q4 (fun r5 M6 =>
  some (((nI 0), M6)))))))
  else (some (((nI 0), M)))
set_option maxHeartbeats 4000000 in
set_option maxRecDepth 100000 in
theorem w_X10_puts_257 {G : zzG} {t : Nat} {Q : Option Value → zzMem → Prop} (ws0 : Bool) (M : zzMem) (ht : 180 ≤ t)  {P : (Int32 × zzMem) → Prop} (h : zK (j_X10_puts_257 ws0 M) P) (kR : ∀ r : (Int32 × zzMem), P r → Q (some (.int r.1)) r.2) : zz_W G m_X10_puts t t t 257 [some (.ref 73), none, none, none, none, none, none] [.int (zb ws0)] M Q := by
  unfold j_X10_puts_257 at h
  refine s_istore ([some (.ref 73), none, none, none, none, none, some (.int (zb ws0))]) dX10_puts_257 (by decide) rfl rfl ?_
  refine r_iload dX10_puts_259 rfl ?_
  refine r_ifZ_eq 278 dX10_puts_261 (by decide) (fun c1 => ?_) (fun c1 => ?_)
  · have h := zK_neg h c1
    refine r_iconst (v := (nI 0)) dX10_puts_278 (by decide) ?_
    exact r_iret dX10_puts_279 rfl rfl rfl (kR (((nI 0), M)) (zK_some h))
  · have h := zK_pos h c1
    refine r_aload_n dX10_puts_264 rfl ?_
    refine kV_ir (as := []) (st := []) (k := 73) dX10_puts_265 zM_X10_buckets zk_X10_178 (zo_X10 (zs_X10 ht)) (by decide) rfl ⟨Nat.le_of_ble_eq_true rfl, Nat.le_of_ble_eq_true rfl⟩ (Nat.le_of_ble_eq_true rfl) (zz_T0 rfl rfl) (fun Q' P' k h => c_X10_buckets M ht h k) h (fun r2 h => ?_)
    refine r_bipush (v := (nI 64)) dX10_puts_268 (by decide) ?_
    refine r_icmp_ge 278 dX10_puts_270 (by decide) (fun c3 => ?_) (fun c3 => ?_)
    · have h := zK_pos h c3
      refine r_iconst (v := (nI 0)) dX10_puts_278 (by decide) ?_
      exact r_iret dX10_puts_279 rfl rfl rfl (kR (((nI 0), M)) (zK_some h))
    · have h := zK_neg h c3
      refine r_aload_n dX10_puts_273 rfl ?_
      refine kV_iw (as := []) (st := []) (k := 73) dX10_puts_274 zM_X10_splits zk_X10_205 (zo_X10 (zs_X10 ht)) (by decide) rfl ⟨Nat.le_of_ble_eq_true rfl, Nat.le_of_ble_eq_true rfl⟩ (Nat.le_of_ble_eq_true rfl) (zz_T0 rfl rfl) (fun Q' P' k h => c_X10_splits M ht h (fun r p => k r.1 r.2 p)) h (fun r5 M6 h => ?_)
      have h := zK_pr h
      refine r_pop dX10_puts_277 rfl ?_
      refine r_iconst (v := (nI 0)) dX10_puts_278 (by decide) ?_
      exact r_iret dX10_puts_279 rfl rfl rfl (kR (((nI 0), M6)) (zK_some h))
noncomputable def j_X10_puts_256  (M : zzMem) : Option (Int32 × zzMem) :=
  j_X10_puts_257 false M
set_option maxHeartbeats 4000000 in
set_option maxRecDepth 100000 in
theorem w_X10_puts_256 {G : zzG} {t : Nat} {Q : Option Value → zzMem → Prop}  (M : zzMem) (ht : 180 ≤ t)  {P : (Int32 × zzMem) → Prop} (h : zK (j_X10_puts_256  M) P) (kR : ∀ r : (Int32 × zzMem), P r → Q (some (.int r.1)) r.2) : zz_W G m_X10_puts t t t 256 [some (.ref 73), none, none, none, none, none, none] [] M Q := by
  unfold j_X10_puts_256 at h
  refine r_iconst (v := (nI 0)) dX10_puts_256 (by decide) ?_
  exact w_X10_puts_257 (false) M ht h kR
noncomputable def j_X10_puts_204 (w5 : Bool) (s1 : Int32) (s2 : Int32) (s3 : Int32) (M : zzMem) : Option (Int32 × zzMem) :=
  zgd (vp_in s1 5676) (
  zbd (zz_si M 74 (s1).toNatClampNeg (s2 + s3)) (fun M2 =>
  if (M2.1 74 4) = (nI 1) then
  ((f_X10_load M2).bind (fun r6 =>
  if r6 ≤ (M2.1 74 2) then
  (j_X10_puts_257 false M2)
  else (j_X10_puts_257 true M2)))
  else (if (M2.1 74 4) = (nI 2) then
  (if w5 = true then
  (j_X10_puts_257 true M2)
  else (j_X10_puts_256  M2))
  else (j_X10_puts_256  M2))))
set_option maxHeartbeats 4000000 in
set_option maxRecDepth 100000 in
theorem w_X10_puts_204 {G : zzG} {t : Nat} {Q : Option Value → zzMem → Prop} (w5 : Bool) (s1 : Int32) (s2 : Int32) (s3 : Int32) (M : zzMem) (ht : 180 ≤ t)  {P : (Int32 × zzMem) → Prop} (h : zK (j_X10_puts_204 w5 s1 s2 s3 M) P) (kR : ∀ r : (Int32 × zzMem), P r → Q (some (.int r.1)) r.2) : zz_W G m_X10_puts t t t 204 [some (.ref 73), none, none, none, none, some (.int (zb w5)), none] [.int s3, .int s2, .int s1, .ref 74] M Q := by
  unfold j_X10_puts_204 at h
  refine r_iadd dX10_puts_204 ?_
  obtain ⟨g1, h⟩ := zK_gd h
  refine r_iast dX10_puts_205 (za_X10_0 (zs_X10 ht)) g1 (fun M2 eM2 => ?_)
  have h := zK_bd h eM2
  refine r_aload_n dX10_puts_206 rfl ?_
  refine r_getR (k := 73) (q := 74) dX10_puts_207 zf_X10_7 (zo_X10 (zs_X10 ht)) (zr_X10_0 (zs_X10 ht)).1 (zr_X10_0 (zs_X10 ht)).2.1 (zr_X10_0 (zs_X10 ht)).2.2 ?_
  refine r_iconst (v := (nI 4)) dX10_puts_210 (by decide) ?_
  refine r_ialdc (j := 4) dX10_puts_211 (za_X10_0 (zs_X10 ht)) rfl rfl ?_
  refine r_iconst (v := (nI 1)) dX10_puts_212 (by decide) ?_
  refine r_icmp_ne 237 dX10_puts_213 (by decide) (fun c3 => ?_) (fun c3 => ?_)
  · have h := zK_neg h c3
    refine r_aload_n dX10_puts_237 rfl ?_
    refine r_getR (k := 73) (q := 74) dX10_puts_238 zf_X10_7 (zo_X10 (zs_X10 ht)) (zr_X10_0 (zs_X10 ht)).1 (zr_X10_0 (zs_X10 ht)).2.1 (zr_X10_0 (zs_X10 ht)).2.2 ?_
    refine r_iconst (v := (nI 4)) dX10_puts_241 (by decide) ?_
    refine r_ialdc (j := 4) dX10_puts_242 (za_X10_0 (zs_X10 ht)) rfl rfl ?_
    refine r_iconst (v := (nI 2)) dX10_puts_243 (by decide) ?_
    refine r_icmp_ne 256 dX10_puts_244 (by decide) (fun c4 => ?_) (fun c4 => ?_)
    · have h := zK_neg h c4
      refine zz_mask [5] ?_
      exact w_X10_puts_256  M2 ht h kR
    · have h := zK_pos h c4
      refine r_iload dX10_puts_247 rfl ?_
      refine r_ifZ_eq 256 dX10_puts_249 (by decide) (fun c5 => ?_) (fun c5 => ?_)
      · have h := zK_neg h c5
        refine zz_mask [5] ?_
        exact w_X10_puts_256  M2 ht h kR
      · have h := zK_pos h c5
        refine r_iconst (v := (nI 1)) dX10_puts_252 (by decide) ?_
        refine r_goto 257 dX10_puts_253 (by decide) ?_
        refine zz_mask [5] ?_
        exact w_X10_puts_257 (true) M2 ht h kR
  · have h := zK_pos h c3
    refine r_aload_n dX10_puts_216 rfl ?_
    refine kV_ir (as := []) (st := []) (k := 73) dX10_puts_217 zM_X10_load zk_X10_223 (zo_X10 (zs_X10 ht)) (by decide) rfl ⟨Nat.le_of_ble_eq_true rfl, Nat.le_of_ble_eq_true rfl⟩ (Nat.le_of_ble_eq_true rfl) (zz_T0 rfl rfl) (fun Q' P' k h => c_X10_load M2 ht h k) h (fun r6 h => ?_)
    refine r_aload_n dX10_puts_220 rfl ?_
    refine r_getR (k := 73) (q := 74) dX10_puts_221 zf_X10_7 (zo_X10 (zs_X10 ht)) (zr_X10_0 (zs_X10 ht)).1 (zr_X10_0 (zs_X10 ht)).2.1 (zr_X10_0 (zs_X10 ht)).2.2 ?_
    refine r_iconst (v := (nI 2)) dX10_puts_224 (by decide) ?_
    refine r_ialdc (j := 2) dX10_puts_225 (za_X10_0 (zs_X10 ht)) rfl rfl ?_
    refine r_icmp_le 233 dX10_puts_226 (by decide) (fun c7 => ?_) (fun c7 => ?_)
    · have h := zK_pos h c7
      refine r_iconst (v := (nI 0)) dX10_puts_233 (by decide) ?_
      refine r_goto 257 dX10_puts_234 (by decide) ?_
      refine zz_mask [5] ?_
      exact w_X10_puts_257 (false) M2 ht h kR
    · have h := zK_neg h c7
      refine r_iconst (v := (nI 1)) dX10_puts_229 (by decide) ?_
      refine r_goto 257 dX10_puts_230 (by decide) ?_
      refine zz_mask [5] ?_
      exact w_X10_puts_257 (true) M2 ht h kR
noncomputable def j_X10_puts_135 (v1 : Int32) (v2 : Int32) (v4 : Int32) (w5 : Bool) (M : zzMem) : Option (Int32 × zzMem) :=
  zbd ((M.1 74 7)) (fun x1 =>
  zgd (vp_in ((nI 40) + x1) 5676) (
  zbd (zz_si M 74 (((nI 40) + x1)).toNatClampNeg v1) (fun M3 =>
  zgd (vp_in ((nI 340) + x1) 5676) (
  zbd (zz_si M3 74 (((nI 340) + x1)).toNatClampNeg v2) (fun M5 =>
  (f_X10_comesBehind x1 v4 M5).bind (fun M6 =>
  zbd (zz_si M6 74 7 (x1 + (nI 1))) (fun M7 =>
  if w5 = true then
  (j_X10_puts_204 w5 (nI 9) (M7.1 74 9) (nI 2) M7)
  else (j_X10_puts_204 w5 (nI 9) (M7.1 74 9) (nI 1) M7))))))))
set_option maxHeartbeats 4000000 in
set_option maxRecDepth 100000 in
theorem w_X10_puts_135 {G : zzG} {t : Nat} {Q : Option Value → zzMem → Prop} (v1 : Int32) (v2 : Int32) (v4 : Int32) (w5 : Bool) (M : zzMem) (ht : 180 ≤ t)  {P : (Int32 × zzMem) → Prop} (h : zK (j_X10_puts_135 v1 v2 v4 w5 M) P) (kR : ∀ r : (Int32 × zzMem), P r → Q (some (.int r.1)) r.2) : zz_W G m_X10_puts t t t 135 [some (.ref 73), some (.int v1), some (.int v2), none, some (.int v4), some (.int (zb w5)), none] [] M Q := by
  unfold j_X10_puts_135 at h
  refine r_aload_n dX10_puts_135 rfl ?_
  refine r_getR (k := 73) (q := 74) dX10_puts_136 zf_X10_7 (zo_X10 (zs_X10 ht)) (zr_X10_0 (zs_X10 ht)).1 (zr_X10_0 (zs_X10 ht)).2.1 (zr_X10_0 (zs_X10 ht)).2.2 ?_
  refine r_bipush (v := (nI 7)) dX10_puts_139 (by decide) ?_
  refine r_ialdc (j := 7) dX10_puts_141 (za_X10_0 (zs_X10 ht)) rfl rfl ?_
  refine r_istore_n (fun x1 => [some (.ref 73), some (.int v1), some (.int v2), some (.int x1), some (.int v4), some (.int (zb w5)), none]) dX10_puts_142 (by decide) rfl (fun _ => rfl) (fun x1 ex1 => ?_)
  have h := zK_bd h ex1
  refine r_aload_n dX10_puts_143 rfl ?_
  refine r_getR (k := 73) (q := 74) dX10_puts_144 zf_X10_7 (zo_X10 (zs_X10 ht)) (zr_X10_0 (zs_X10 ht)).1 (zr_X10_0 (zs_X10 ht)).2.1 (zr_X10_0 (zs_X10 ht)).2.2 ?_
  refine r_bipush (v := (nI 40)) dX10_puts_147 (by decide) ?_
  refine r_iload_n dX10_puts_149 rfl ?_
  refine r_iadd dX10_puts_150 ?_
  refine r_iload_n dX10_puts_151 rfl ?_
  obtain ⟨g2, h⟩ := zK_gd h
  refine r_iast dX10_puts_152 (za_X10_0 (zs_X10 ht)) g2 (fun M3 eM3 => ?_)
  have h := zK_bd h eM3
  refine r_aload_n dX10_puts_153 rfl ?_
  refine r_getR (k := 73) (q := 74) dX10_puts_154 zf_X10_7 (zo_X10 (zs_X10 ht)) (zr_X10_0 (zs_X10 ht)).1 (zr_X10_0 (zs_X10 ht)).2.1 (zr_X10_0 (zs_X10 ht)).2.2 ?_
  refine r_sipush (v := (nI 340)) dX10_puts_157 (by decide) ?_
  refine r_iload_n dX10_puts_160 rfl ?_
  refine r_iadd dX10_puts_161 ?_
  refine r_iload_n dX10_puts_162 rfl ?_
  obtain ⟨g4, h⟩ := zK_gd h
  refine r_iast dX10_puts_163 (za_X10_0 (zs_X10 ht)) g4 (fun M5 eM5 => ?_)
  have h := zK_bd h eM5
  refine r_aload_n dX10_puts_164 rfl ?_
  refine r_iload_n dX10_puts_165 rfl ?_
  refine r_iload dX10_puts_166 rfl ?_
  refine kV_vw (as := [.int x1, .int v4]) (st := []) (k := 73) dX10_puts_168 zM_X10_comesBehind zk_X10_199 (zo_X10 (zs_X10 ht)) (by decide) rfl ⟨Nat.le_of_ble_eq_true rfl, Nat.le_of_ble_eq_true rfl⟩ (Nat.le_of_ble_eq_true rfl) (zz_T0 rfl rfl) (fun Q' P' k h => c_X10_comesBehind (x1) (v4) M5 ht h k) h (fun M6 h => ?_)
  refine r_aload_n dX10_puts_171 rfl ?_
  refine r_getR (k := 73) (q := 74) dX10_puts_172 zf_X10_7 (zo_X10 (zs_X10 ht)) (zr_X10_0 (zs_X10 ht)).1 (zr_X10_0 (zs_X10 ht)).2.1 (zr_X10_0 (zs_X10 ht)).2.2 ?_
  refine r_bipush (v := (nI 7)) dX10_puts_175 (by decide) ?_
  refine r_iload_n dX10_puts_177 rfl ?_
  refine r_iconst (v := (nI 1)) dX10_puts_178 (by decide) ?_
  refine r_iadd dX10_puts_179 ?_
  refine r_iastc (j := 7) dX10_puts_180 (za_X10_0 (zs_X10 ht)) rfl rfl (fun M7 eM7 => ?_)
  have h := zK_bd h eM7
  refine r_aload_n dX10_puts_181 rfl ?_
  refine r_getR (k := 73) (q := 74) dX10_puts_182 zf_X10_7 (zo_X10 (zs_X10 ht)) (zr_X10_0 (zs_X10 ht)).1 (zr_X10_0 (zs_X10 ht)).2.1 (zr_X10_0 (zs_X10 ht)).2.2 ?_
  refine r_bipush (v := (nI 9)) dX10_puts_185 (by decide) ?_
  refine r_aload_n dX10_puts_187 rfl ?_
  refine r_getR (k := 73) (q := 74) dX10_puts_188 zf_X10_7 (zo_X10 (zs_X10 ht)) (zr_X10_0 (zs_X10 ht)).1 (zr_X10_0 (zs_X10 ht)).2.1 (zr_X10_0 (zs_X10 ht)).2.2 ?_
  refine r_bipush (v := (nI 9)) dX10_puts_191 (by decide) ?_
  refine r_ialdc (j := 9) dX10_puts_193 (za_X10_0 (zs_X10 ht)) rfl rfl ?_
  refine r_iload dX10_puts_194 rfl ?_
  refine r_ifZ_eq 203 dX10_puts_196 (by decide) (fun c8 => ?_) (fun c8 => ?_)
  · have h := zK_neg h c8
    refine r_iconst (v := (nI 1)) dX10_puts_203 (by decide) ?_
    refine zz_mask [1, 2, 3, 4] ?_
    exact w_X10_puts_204 (w5) ((nI 9)) ((M7.1 74 9)) ((nI 1)) M7 ht h kR
  · have h := zK_pos h c8
    refine r_iconst (v := (nI 2)) dX10_puts_199 (by decide) ?_
    refine r_goto 204 dX10_puts_200 (by decide) ?_
    refine zz_mask [1, 2, 3, 4] ?_
    exact w_X10_puts_204 (w5) ((nI 9)) ((M7.1 74 9)) ((nI 2)) M7 ht h kR
noncomputable def j_X10_puts_116 (v1 : Int32) (v2 : Int32) (v4 : Int32) (ws0 : Bool) (M : zzMem) : Option (Int32 × zzMem) :=
  if ws0 = true then
  ((f_X10_chainOf v4 M).bind (fun r2 =>
  (f_X10_takesPage v4 r2 M).bind (fun M3 =>
  j_X10_puts_135 v1 v2 v4 ws0 M3)))
  else (j_X10_puts_135 v1 v2 v4 ws0 M)
set_option maxHeartbeats 4000000 in
set_option maxRecDepth 100000 in
theorem w_X10_puts_116 {G : zzG} {t : Nat} {Q : Option Value → zzMem → Prop} (v1 : Int32) (v2 : Int32) (v4 : Int32) (ws0 : Bool) (M : zzMem) (ht : 180 ≤ t)  {P : (Int32 × zzMem) → Prop} (h : zK (j_X10_puts_116 v1 v2 v4 ws0 M) P) (kR : ∀ r : (Int32 × zzMem), P r → Q (some (.int r.1)) r.2) : zz_W G m_X10_puts t t t 116 [some (.ref 73), some (.int v1), some (.int v2), none, some (.int v4), none, none] [.int (zb ws0)] M Q := by
  unfold j_X10_puts_116 at h
  refine s_istore ([some (.ref 73), some (.int v1), some (.int v2), none, some (.int v4), some (.int (zb ws0)), none]) dX10_puts_116 (by decide) rfl rfl ?_
  refine r_iload dX10_puts_118 rfl ?_
  refine r_ifZ_eq 135 dX10_puts_120 (by decide) (fun c1 => ?_) (fun c1 => ?_)
  · have h := zK_neg h c1
    exact w_X10_puts_135 (v1) (v2) (v4) (ws0) M ht h kR
  · have h := zK_pos h c1
    refine r_aload_n dX10_puts_123 rfl ?_
    refine r_iload dX10_puts_124 rfl ?_
    refine r_aload_n dX10_puts_126 rfl ?_
    refine r_iload dX10_puts_127 rfl ?_
    refine kV_ir (as := [.int v4]) (st := [.int v4, .ref 73]) (k := 73) dX10_puts_129 zM_X10_chainOf zk_X10_172 (zo_X10 (zs_X10 ht)) (by decide) rfl ⟨Nat.le_of_ble_eq_true rfl, Nat.le_of_ble_eq_true rfl⟩ (Nat.le_of_ble_eq_true rfl) (zz_T0 rfl rfl) (fun Q' P' k h => c_X10_chainOf (v4) M ht h k) h (fun r2 h => ?_)
    refine kV_vw (as := [.int v4, .int r2]) (st := []) (k := 73) dX10_puts_132 zM_X10_takesPage zk_X10_175 (zo_X10 (zs_X10 ht)) (by decide) rfl ⟨Nat.le_of_ble_eq_true rfl, Nat.le_of_ble_eq_true rfl⟩ (Nat.le_of_ble_eq_true rfl) (zz_T0 rfl rfl) (fun Q' P' k h => c_X10_takesPage (v4) (r2) M ht h k) h (fun M3 h => ?_)
    exact w_X10_puts_135 (v1) (v2) (v4) (ws0) M3 ht h kR
noncomputable def j_X10_puts_28 (v1 : Int32) (v2 : Int32) (v3 : Int32) (M : zzMem) : Option (Int32 × zzMem) :=
  (f_X10_findReads v1 M).bind (fun q1 => zpr q1 (fun r2 M3 =>
  zbd (zz_si M3 74 8 ((M.1 74 8) + r2)) (fun M4 =>
  if v3 = (-1 : Int32) then
  ((f_X10_addressOf v1 M4).bind (fun q6 => zpr q6 (fun r7 M8 =>
  (f_X10_keysIn r7 M8).bind (fun r9 =>
  (f_X10_chainOf r7 M8).bind (fun r10 =>
  if r9 = (r10 * (M8.1 74 1)) then
  (j_X10_puts_116 v1 v2 r7 true M8)
  else (j_X10_puts_116 v1 v2 r7 false M8))))))
  else (zgd (vp_in ((nI 340) + v3) 5676) (
  zbd (zz_si M4 74 (((nI 340) + v3)).toNatClampNeg v2) (fun M13 =>
  zbd (zz_si M13 74 9 ((M13.1 74 9) + (nI 1))) (fun M14 =>
  some (((nI 1), M14)))))))))
set_option maxHeartbeats 4000000 in
set_option maxRecDepth 100000 in
theorem w_X10_puts_28 {G : zzG} {t : Nat} {Q : Option Value → zzMem → Prop} (v1 : Int32) (v2 : Int32) (v3 : Int32) (M : zzMem) (ht : 180 ≤ t)  {P : (Int32 × zzMem) → Prop} (h : zK (j_X10_puts_28 v1 v2 v3 M) P) (kR : ∀ r : (Int32 × zzMem), P r → Q (some (.int r.1)) r.2) : zz_W G m_X10_puts t t t 28 [some (.ref 73), some (.int v1), some (.int v2), some (.int v3), none, none, none] [] M Q := by
  unfold j_X10_puts_28 at h
  refine r_aload_n dX10_puts_28 rfl ?_
  refine r_getR (k := 73) (q := 74) dX10_puts_29 zf_X10_7 (zo_X10 (zs_X10 ht)) (zr_X10_0 (zs_X10 ht)).1 (zr_X10_0 (zs_X10 ht)).2.1 (zr_X10_0 (zs_X10 ht)).2.2 ?_
  refine r_bipush (v := (nI 8)) dX10_puts_32 (by decide) ?_
  refine r_aload_n dX10_puts_34 rfl ?_
  refine r_getR (k := 73) (q := 74) dX10_puts_35 zf_X10_7 (zo_X10 (zs_X10 ht)) (zr_X10_0 (zs_X10 ht)).1 (zr_X10_0 (zs_X10 ht)).2.1 (zr_X10_0 (zs_X10 ht)).2.2 ?_
  refine r_bipush (v := (nI 8)) dX10_puts_38 (by decide) ?_
  refine r_ialdc (j := 8) dX10_puts_40 (za_X10_0 (zs_X10 ht)) rfl rfl ?_
  refine r_aload_n dX10_puts_41 rfl ?_
  refine r_iload_n dX10_puts_42 rfl ?_
  refine kV_iw (as := [.int v1]) (st := [.int (M.1 74 8), .int (nI 8), .ref 74]) (k := 73) dX10_puts_43 zM_X10_findReads zk_X10_220 (zo_X10 (zs_X10 ht)) (by decide) rfl ⟨Nat.le_of_ble_eq_true rfl, Nat.le_of_ble_eq_true rfl⟩ (Nat.le_of_ble_eq_true rfl) (zz_T0 rfl rfl) (fun Q' P' k h => c_X10_findReads (v1) M ht h (fun r p => k r.1 r.2 p)) h (fun r2 M3 h => ?_)
  have h := zK_pr h
  refine r_iadd dX10_puts_46 ?_
  refine r_iastc (j := 8) dX10_puts_47 (za_X10_0 (zs_X10 ht)) rfl rfl (fun M4 eM4 => ?_)
  have h := zK_bd h eM4
  refine r_iload_n dX10_puts_48 rfl ?_
  refine r_iconst (v := (-1 : Int32)) dX10_puts_49 (by decide) ?_
  refine r_icmp_eq 82 dX10_puts_50 (by decide) (fun c5 => ?_) (fun c5 => ?_)
  · have h := zK_pos h c5
    refine r_aload_n dX10_puts_82 rfl ?_
    refine r_iload_n dX10_puts_83 rfl ?_
    refine kV_iw (as := [.int v1]) (st := []) (k := 73) dX10_puts_84 zM_X10_addressOf zk_X10_214 (zo_X10 (zs_X10 ht)) (by decide) rfl ⟨Nat.le_of_ble_eq_true rfl, Nat.le_of_ble_eq_true rfl⟩ (Nat.le_of_ble_eq_true rfl) (zz_T0 rfl rfl) (fun Q' P' k h => c_X10_addressOf (v1) M4 ht h (fun r p => k r.1 r.2 p)) h (fun r7 M8 h => ?_)
    have h := zK_pr h
    refine s_istore ([some (.ref 73), some (.int v1), some (.int v2), some (.int v3), some (.int r7), none, none]) dX10_puts_87 (by decide) rfl rfl ?_
    refine r_aload_n dX10_puts_89 rfl ?_
    refine r_iload dX10_puts_90 rfl ?_
    refine kV_ir (as := [.int r7]) (st := []) (k := 73) dX10_puts_92 zM_X10_keysIn zk_X10_202 (zo_X10 (zs_X10 ht)) (by decide) rfl ⟨Nat.le_of_ble_eq_true rfl, Nat.le_of_ble_eq_true rfl⟩ (Nat.le_of_ble_eq_true rfl) (zz_T0 rfl rfl) (fun Q' P' k h => c_X10_keysIn (r7) M8 ht h k) h (fun r9 h => ?_)
    refine r_aload_n dX10_puts_95 rfl ?_
    refine r_iload dX10_puts_96 rfl ?_
    refine kV_ir (as := [.int r7]) (st := [.int r9]) (k := 73) dX10_puts_98 zM_X10_chainOf zk_X10_172 (zo_X10 (zs_X10 ht)) (by decide) rfl ⟨Nat.le_of_ble_eq_true rfl, Nat.le_of_ble_eq_true rfl⟩ (Nat.le_of_ble_eq_true rfl) (zz_T0 rfl rfl) (fun Q' P' k h => c_X10_chainOf (r7) M8 ht h k) h (fun r10 h => ?_)
    refine r_aload_n dX10_puts_101 rfl ?_
    refine r_getR (k := 73) (q := 74) dX10_puts_102 zf_X10_7 (zo_X10 (zs_X10 ht)) (zr_X10_0 (zs_X10 ht)).1 (zr_X10_0 (zs_X10 ht)).2.1 (zr_X10_0 (zs_X10 ht)).2.2 ?_
    refine r_iconst (v := (nI 1)) dX10_puts_105 (by decide) ?_
    refine r_ialdc (j := 1) dX10_puts_106 (za_X10_0 (zs_X10 ht)) rfl rfl ?_
    refine r_imul dX10_puts_107 ?_
    refine r_icmp_ne 115 dX10_puts_108 (by decide) (fun c11 => ?_) (fun c11 => ?_)
    · have h := zK_neg h c11
      refine r_iconst (v := (nI 0)) dX10_puts_115 (by decide) ?_
      refine zz_mask [3] ?_
      exact w_X10_puts_116 (v1) (v2) (r7) (false) M8 ht h kR
    · have h := zK_pos h c11
      refine r_iconst (v := (nI 1)) dX10_puts_111 (by decide) ?_
      refine r_goto 116 dX10_puts_112 (by decide) ?_
      refine zz_mask [3] ?_
      exact w_X10_puts_116 (v1) (v2) (r7) (true) M8 ht h kR
  · have h := zK_neg h c5
    refine r_aload_n dX10_puts_53 rfl ?_
    refine r_getR (k := 73) (q := 74) dX10_puts_54 zf_X10_7 (zo_X10 (zs_X10 ht)) (zr_X10_0 (zs_X10 ht)).1 (zr_X10_0 (zs_X10 ht)).2.1 (zr_X10_0 (zs_X10 ht)).2.2 ?_
    refine r_sipush (v := (nI 340)) dX10_puts_57 (by decide) ?_
    refine r_iload_n dX10_puts_60 rfl ?_
    refine r_iadd dX10_puts_61 ?_
    refine r_iload_n dX10_puts_62 rfl ?_
    obtain ⟨g12, h⟩ := zK_gd h
    refine r_iast dX10_puts_63 (za_X10_0 (zs_X10 ht)) g12 (fun M13 eM13 => ?_)
    have h := zK_bd h eM13
    refine r_aload_n dX10_puts_64 rfl ?_
    refine r_getR (k := 73) (q := 74) dX10_puts_65 zf_X10_7 (zo_X10 (zs_X10 ht)) (zr_X10_0 (zs_X10 ht)).1 (zr_X10_0 (zs_X10 ht)).2.1 (zr_X10_0 (zs_X10 ht)).2.2 ?_
    refine r_bipush (v := (nI 9)) dX10_puts_68 (by decide) ?_
    refine r_aload_n dX10_puts_70 rfl ?_
    refine r_getR (k := 73) (q := 74) dX10_puts_71 zf_X10_7 (zo_X10 (zs_X10 ht)) (zr_X10_0 (zs_X10 ht)).1 (zr_X10_0 (zs_X10 ht)).2.1 (zr_X10_0 (zs_X10 ht)).2.2 ?_
    refine r_bipush (v := (nI 9)) dX10_puts_74 (by decide) ?_
    refine r_ialdc (j := 9) dX10_puts_76 (za_X10_0 (zs_X10 ht)) rfl rfl ?_
    refine r_iconst (v := (nI 1)) dX10_puts_77 (by decide) ?_
    refine r_iadd dX10_puts_78 ?_
    refine r_iastc (j := 9) dX10_puts_79 (za_X10_0 (zs_X10 ht)) rfl rfl (fun M14 eM14 => ?_)
    have h := zK_bd h eM14
    refine r_iconst (v := (nI 1)) dX10_puts_80 (by decide) ?_
    exact r_iret dX10_puts_81 rfl rfl rfl (kR (((nI 1), M14)) (zK_some h))
noncomputable def f_X10_puts (a1 : Int32) (a2 : Int32) (M : zzMem) : Option (Int32 × zzMem) :=
  (f_X10_entryOf (nI 0) a1 M).bind (fun r1 =>
  if r1 = (-1 : Int32) then
  (if (M.1 74 7) = (nI 300) then
  (some (((-3 : Int32), M)))
  else (j_X10_puts_28 a1 a2 r1 M))
  else (j_X10_puts_28 a1 a2 r1 M))
set_option maxHeartbeats 4000000 in
set_option maxRecDepth 100000 in
theorem w_X10_puts_0 {G : zzG} {t : Nat} {Q : Option Value → zzMem → Prop} (a1 : Int32) (a2 : Int32) (M : zzMem) (ht : 180 ≤ t)  {P : (Int32 × zzMem) → Prop} (h : zK (f_X10_puts a1 a2 M) P) (kR : ∀ r : (Int32 × zzMem), P r → Q (some (.int r.1)) r.2) : zz_W G m_X10_puts t t t 0 [some (.ref 73), some (.int a1), some (.int a2), none, none, none, none] [] M Q := by
  unfold f_X10_puts at h
  refine r_aload_n dX10_puts_0 rfl ?_
  refine r_iconst (v := (nI 0)) dX10_puts_1 (by decide) ?_
  refine r_iload_n dX10_puts_2 rfl ?_
  refine kV_ir (as := [.int (nI 0), .int a1]) (st := []) (k := 73) dX10_puts_3 zM_X10_entryOf zk_X10_211 (zo_X10 (zs_X10 ht)) (by decide) rfl ⟨Nat.le_of_ble_eq_true rfl, Nat.le_of_ble_eq_true rfl⟩ (Nat.le_of_ble_eq_true rfl) (zz_T0 rfl rfl) (fun Q' P' k h => c_X10_entryOf ((nI 0)) (a1) M ht h k) h (fun r1 h => ?_)
  refine s_istore_n ([some (.ref 73), some (.int a1), some (.int a2), some (.int r1), none, none, none]) dX10_puts_6 (by decide) rfl rfl ?_
  refine r_iload_n dX10_puts_7 rfl ?_
  refine r_iconst (v := (-1 : Int32)) dX10_puts_8 (by decide) ?_
  refine r_icmp_ne 28 dX10_puts_9 (by decide) (fun c2 => ?_) (fun c2 => ?_)
  · have h := zK_neg h c2
    exact w_X10_puts_28 (a1) (a2) (r1) M ht h kR
  · have h := zK_pos h c2
    refine r_aload_n dX10_puts_12 rfl ?_
    refine r_getR (k := 73) (q := 74) dX10_puts_13 zf_X10_7 (zo_X10 (zs_X10 ht)) (zr_X10_0 (zs_X10 ht)).1 (zr_X10_0 (zs_X10 ht)).2.1 (zr_X10_0 (zs_X10 ht)).2.2 ?_
    refine r_bipush (v := (nI 7)) dX10_puts_16 (by decide) ?_
    refine r_ialdc (j := 7) dX10_puts_18 (za_X10_0 (zs_X10 ht)) rfl rfl ?_
    refine r_sipush (v := (nI 300)) dX10_puts_19 (by decide) ?_
    refine r_icmp_ne 28 dX10_puts_22 (by decide) (fun c3 => ?_) (fun c3 => ?_)
    · have h := zK_neg h c3
      exact w_X10_puts_28 (a1) (a2) (r1) M ht h kR
    · have h := zK_pos h c3
      refine r_bipush (v := (-3 : Int32)) dX10_puts_25 (by decide) ?_
      exact r_iret dX10_puts_27 rfl rfl rfl (kR (((-3 : Int32), M)) (zK_some h))
set_option maxHeartbeats 4000000 in
set_option maxRecDepth 100000 in
theorem c_X10_puts {G : zzG} {t : Nat} {Q : Option Value → zzMem → Prop} (a1 : Int32) (a2 : Int32) (M : zzMem) (ht : 180 ≤ t)  {P : (Int32 × zzMem) → Prop} (h : zK (f_X10_puts a1 a2 M) P) (kR : ∀ r : (Int32 × zzMem), P r → Q (some (.int r.1)) r.2) : zz_S G m_X10_puts t t [.ref 73, .int a1, .int a2] M Q :=
  zz_S_of (by decide) (by decide) (Nat.le_of_ble_eq_true rfl) (w_X10_puts_0 a1 a2 M ht h kR)
noncomputable def f_X10_put (a1 : Int32) (a2 : Int32) (M : zzMem) : Option (Int32 × zzMem) :=
  if (f_X10_isKey a1) = true then
  (if (f_X10_in a2 (nI 0) (nI 255)) = true then
  ((f_X10_puts a1 a2 M).bind (fun q3 => zpr q3 (fun r4 M5 =>
  some ((r4, M5)))))
  else (some (((-1 : Int32), M))))
  else (some (((-1 : Int32), M)))
set_option maxHeartbeats 4000000 in
set_option maxRecDepth 100000 in
theorem w_X10_put_0 {G : zzG} {t : Nat} {Q : Option Value → zzMem → Prop} (a1 : Int32) (a2 : Int32) (M : zzMem) (ht : 180 ≤ t)  {P : (Int32 × zzMem) → Prop} (h : zK (f_X10_put a1 a2 M) P) (kR : ∀ r : (Int32 × zzMem), P r → Q (some (.int r.1)) r.2) : zz_W G m_X10_put t t t 0 [some (.ref 73), some (.int a1), some (.int a2)] [] M Q := by
  unfold f_X10_put at h
  refine r_iload_n dX10_put_0 rfl ?_
  refine tS_zr (v := f_X10_isKey a1) (as := [.int a1]) (st := []) dX10_put_1 zM_X10_isKey zk_X10_226 ⟨Nat.le_of_ble_eq_true rfl, Nat.le_of_ble_eq_true rfl⟩ (Nat.le_of_ble_eq_true rfl) (zz_T0 rfl rfl) (fun Q' h => c_X10_isKey (a1) M h) ?_
  refine r_ifZ_eq 27 dX10_put_4 (by decide) (fun c1 => ?_) (fun c1 => ?_)
  · have h := zK_neg h c1
    refine r_iconst (v := (-1 : Int32)) dX10_put_27 (by decide) ?_
    exact r_iret dX10_put_28 rfl rfl rfl (kR (((-1 : Int32), M)) (zK_some h))
  · have h := zK_pos h c1
    refine r_iload_n dX10_put_7 rfl ?_
    refine r_iconst (v := (nI 0)) dX10_put_8 (by decide) ?_
    refine r_sipush (v := (nI 255)) dX10_put_9 (by decide) ?_
    refine tS_zr (v := f_X10_in a2 (nI 0) (nI 255)) (as := [.int a2, .int (nI 0), .int (nI 255)]) (st := []) dX10_put_12 zM_X10_in zk_X10_67 ⟨Nat.le_of_ble_eq_true rfl, Nat.le_of_ble_eq_true rfl⟩ (Nat.le_of_ble_eq_true rfl) (zz_T0 rfl rfl) (fun Q' h => c_X10_in (a2) ((nI 0)) ((nI 255)) M h) ?_
    refine r_ifZ_eq 27 dX10_put_15 (by decide) (fun c2 => ?_) (fun c2 => ?_)
    · have h := zK_neg h c2
      refine r_iconst (v := (-1 : Int32)) dX10_put_27 (by decide) ?_
      exact r_iret dX10_put_28 rfl rfl rfl (kR (((-1 : Int32), M)) (zK_some h))
    · have h := zK_pos h c2
      refine r_aload_n dX10_put_18 rfl ?_
      refine r_iload_n dX10_put_19 rfl ?_
      refine r_iload_n dX10_put_20 rfl ?_
      refine kV_iw (as := [.int a1, .int a2]) (st := []) (k := 73) dX10_put_21 zM_X10_puts zk_X10_229 (zo_X10 (zs_X10 ht)) (by decide) rfl ⟨Nat.le_of_ble_eq_true rfl, Nat.le_of_ble_eq_true rfl⟩ (Nat.le_of_ble_eq_true rfl) (zz_T0 rfl rfl) (fun Q' P' k h => c_X10_puts (a1) (a2) M ht h (fun r p => k r.1 r.2 p)) h (fun r4 M5 h => ?_)
      have h := zK_pr h
      refine r_goto 28 dX10_put_24 (by decide) ?_
      exact r_iret dX10_put_28 rfl rfl rfl (kR ((r4, M5)) (zK_some h))
set_option maxHeartbeats 4000000 in
set_option maxRecDepth 100000 in
theorem c_X10_put {G : zzG} {t : Nat} {Q : Option Value → zzMem → Prop} (a1 : Int32) (a2 : Int32) (M : zzMem) (ht : 180 ≤ t)  {P : (Int32 × zzMem) → Prop} (h : zK (f_X10_put a1 a2 M) P) (kR : ∀ r : (Int32 × zzMem), P r → Q (some (.int r.1)) r.2) : zz_S G m_X10_put t t [.ref 73, .int a1, .int a2] M Q :=
  zz_S_of (by decide) (by decide) (Nat.le_of_ble_eq_true rfl) (w_X10_put_0 a1 a2 M ht h kR)
noncomputable def f_X10_finds0 (a1 : Int32) (M : zzMem) : Option (Int32 × zzMem) :=
  (f_X10_entryOf (nI 0) a1 M).bind (fun r1 =>
  (f_X10_findReads a1 M).bind (fun q2 => zpr q2 (fun r3 M4 =>
  zbd (zz_si M4 74 8 ((M.1 74 8) + r3)) (fun M5 =>
  if r1 = (-1 : Int32) then
  (some (((-2 : Int32), M5)))
  else (zgd (vp_in ((nI 340) + r1) 5676) (
  some (((M5.1 74 (((nI 340) + r1)).toNatClampNeg), M5))))))))
set_option maxHeartbeats 4000000 in
set_option maxRecDepth 100000 in
theorem w_X10_finds0_0 {G : zzG} {t : Nat} {Q : Option Value → zzMem → Prop} (a1 : Int32) (M : zzMem) (ht : 180 ≤ t)  {P : (Int32 × zzMem) → Prop} (h : zK (f_X10_finds0 a1 M) P) (kR : ∀ r : (Int32 × zzMem), P r → Q (some (.int r.1)) r.2) : zz_W G m_X10_finds0 t t t 0 [some (.ref 73), some (.int a1), none] [] M Q := by
  unfold f_X10_finds0 at h
  refine r_aload_n dX10_finds0_0 rfl ?_
  refine r_iconst (v := (nI 0)) dX10_finds0_1 (by decide) ?_
  refine r_iload_n dX10_finds0_2 rfl ?_
  refine kV_ir (as := [.int (nI 0), .int a1]) (st := []) (k := 73) dX10_finds0_3 zM_X10_entryOf zk_X10_211 (zo_X10 (zs_X10 ht)) (by decide) rfl ⟨Nat.le_of_ble_eq_true rfl, Nat.le_of_ble_eq_true rfl⟩ (Nat.le_of_ble_eq_true rfl) (zz_T0 rfl rfl) (fun Q' P' k h => c_X10_entryOf ((nI 0)) (a1) M ht h k) h (fun r1 h => ?_)
  refine s_istore_n ([some (.ref 73), some (.int a1), some (.int r1)]) dX10_finds0_6 (by decide) rfl rfl ?_
  refine r_aload_n dX10_finds0_7 rfl ?_
  refine r_getR (k := 73) (q := 74) dX10_finds0_8 zf_X10_7 (zo_X10 (zs_X10 ht)) (zr_X10_0 (zs_X10 ht)).1 (zr_X10_0 (zs_X10 ht)).2.1 (zr_X10_0 (zs_X10 ht)).2.2 ?_
  refine r_bipush (v := (nI 8)) dX10_finds0_11 (by decide) ?_
  refine r_aload_n dX10_finds0_13 rfl ?_
  refine r_getR (k := 73) (q := 74) dX10_finds0_14 zf_X10_7 (zo_X10 (zs_X10 ht)) (zr_X10_0 (zs_X10 ht)).1 (zr_X10_0 (zs_X10 ht)).2.1 (zr_X10_0 (zs_X10 ht)).2.2 ?_
  refine r_bipush (v := (nI 8)) dX10_finds0_17 (by decide) ?_
  refine r_ialdc (j := 8) dX10_finds0_19 (za_X10_0 (zs_X10 ht)) rfl rfl ?_
  refine r_aload_n dX10_finds0_20 rfl ?_
  refine r_iload_n dX10_finds0_21 rfl ?_
  refine kV_iw (as := [.int a1]) (st := [.int (M.1 74 8), .int (nI 8), .ref 74]) (k := 73) dX10_finds0_22 zM_X10_findReads zk_X10_220 (zo_X10 (zs_X10 ht)) (by decide) rfl ⟨Nat.le_of_ble_eq_true rfl, Nat.le_of_ble_eq_true rfl⟩ (Nat.le_of_ble_eq_true rfl) (zz_T0 rfl rfl) (fun Q' P' k h => c_X10_findReads (a1) M ht h (fun r p => k r.1 r.2 p)) h (fun r3 M4 h => ?_)
  have h := zK_pr h
  refine r_iadd dX10_finds0_25 ?_
  refine r_iastc (j := 8) dX10_finds0_26 (za_X10_0 (zs_X10 ht)) rfl rfl (fun M5 eM5 => ?_)
  have h := zK_bd h eM5
  refine r_iload_n dX10_finds0_27 rfl ?_
  refine r_iconst (v := (-1 : Int32)) dX10_finds0_28 (by decide) ?_
  refine r_icmp_ne 37 dX10_finds0_29 (by decide) (fun c6 => ?_) (fun c6 => ?_)
  · have h := zK_neg h c6
    refine r_aload_n dX10_finds0_37 rfl ?_
    refine r_getR (k := 73) (q := 74) dX10_finds0_38 zf_X10_7 (zo_X10 (zs_X10 ht)) (zr_X10_0 (zs_X10 ht)).1 (zr_X10_0 (zs_X10 ht)).2.1 (zr_X10_0 (zs_X10 ht)).2.2 ?_
    refine r_sipush (v := (nI 340)) dX10_finds0_41 (by decide) ?_
    refine r_iload_n dX10_finds0_44 rfl ?_
    refine r_iadd dX10_finds0_45 ?_
    obtain ⟨g7, h⟩ := zK_gd h
    refine r_iald dX10_finds0_46 (za_X10_0 (zs_X10 ht)) g7 ?_
    exact r_iret dX10_finds0_47 rfl rfl rfl (kR (((M5.1 74 (((nI 340) + r1)).toNatClampNeg), M5)) (zK_some h))
  · have h := zK_pos h c6
    refine r_bipush (v := (-2 : Int32)) dX10_finds0_32 (by decide) ?_
    refine r_goto 47 dX10_finds0_34 (by decide) ?_
    exact r_iret dX10_finds0_47 rfl rfl rfl (kR (((-2 : Int32), M5)) (zK_some h))
set_option maxHeartbeats 4000000 in
set_option maxRecDepth 100000 in
theorem c_X10_finds0 {G : zzG} {t : Nat} {Q : Option Value → zzMem → Prop} (a1 : Int32) (M : zzMem) (ht : 180 ≤ t)  {P : (Int32 × zzMem) → Prop} (h : zK (f_X10_finds0 a1 M) P) (kR : ∀ r : (Int32 × zzMem), P r → Q (some (.int r.1)) r.2) : zz_S G m_X10_finds0 t t [.ref 73, .int a1] M Q :=
  zz_S_of (by decide) (by decide) (Nat.le_of_ble_eq_true rfl) (w_X10_finds0_0 a1 M ht h kR)
noncomputable def f_X10_find (a1 : Int32) (M : zzMem) : Option (Int32 × zzMem) :=
  if (f_X10_isKey a1) = true then
  ((f_X10_finds0 a1 M).bind (fun q2 => zpr q2 (fun r3 M4 =>
  some ((r3, M4)))))
  else (some (((-1 : Int32), M)))
set_option maxHeartbeats 4000000 in
set_option maxRecDepth 100000 in
theorem w_X10_find_0 {G : zzG} {t : Nat} {Q : Option Value → zzMem → Prop} (a1 : Int32) (M : zzMem) (ht : 180 ≤ t)  {P : (Int32 × zzMem) → Prop} (h : zK (f_X10_find a1 M) P) (kR : ∀ r : (Int32 × zzMem), P r → Q (some (.int r.1)) r.2) : zz_W G m_X10_find t t t 0 [some (.ref 73), some (.int a1)] [] M Q := by
  unfold f_X10_find at h
  refine r_iload_n dX10_find_0 rfl ?_
  refine tS_zr (v := f_X10_isKey a1) (as := [.int a1]) (st := []) dX10_find_1 zM_X10_isKey zk_X10_226 ⟨Nat.le_of_ble_eq_true rfl, Nat.le_of_ble_eq_true rfl⟩ (Nat.le_of_ble_eq_true rfl) (zz_T0 rfl rfl) (fun Q' h => c_X10_isKey (a1) M h) ?_
  refine r_ifZ_eq 15 dX10_find_4 (by decide) (fun c1 => ?_) (fun c1 => ?_)
  · have h := zK_neg h c1
    refine r_iconst (v := (-1 : Int32)) dX10_find_15 (by decide) ?_
    exact r_iret dX10_find_16 rfl rfl rfl (kR (((-1 : Int32), M)) (zK_some h))
  · have h := zK_pos h c1
    refine r_aload_n dX10_find_7 rfl ?_
    refine r_iload_n dX10_find_8 rfl ?_
    refine kV_iw (as := [.int a1]) (st := []) (k := 73) dX10_find_9 zM_X10_finds0 zk_X10_232 (zo_X10 (zs_X10 ht)) (by decide) rfl ⟨Nat.le_of_ble_eq_true rfl, Nat.le_of_ble_eq_true rfl⟩ (Nat.le_of_ble_eq_true rfl) (zz_T0 rfl rfl) (fun Q' P' k h => c_X10_finds0 (a1) M ht h (fun r p => k r.1 r.2 p)) h (fun r3 M4 h => ?_)
    have h := zK_pr h
    refine r_goto 16 dX10_find_12 (by decide) ?_
    exact r_iret dX10_find_16 rfl rfl rfl (kR ((r3, M4)) (zK_some h))
set_option maxHeartbeats 4000000 in
set_option maxRecDepth 100000 in
theorem c_X10_find {G : zzG} {t : Nat} {Q : Option Value → zzMem → Prop} (a1 : Int32) (M : zzMem) (ht : 180 ≤ t)  {P : (Int32 × zzMem) → Prop} (h : zK (f_X10_find a1 M) P) (kR : ∀ r : (Int32 × zzMem), P r → Q (some (.int r.1)) r.2) : zz_S G m_X10_find t t [.ref 73, .int a1] M Q :=
  zz_S_of (by decide) (by decide) (Nat.le_of_ble_eq_true rfl) (w_X10_find_0 a1 M ht h kR)
noncomputable def f_X10_leaves (a1 : Int32) (M : zzMem) : Option zzMem :=
  zbd (((M.1 74 7) - (nI 1))) (fun x1 =>
  zgd (vp_in ((nI 40) + x1) 5676) (
  zgd (vp_in ((nI 40) + a1) 5676) (
  zbd (zz_si M 74 (((nI 40) + a1)).toNatClampNeg (M.1 74 (((nI 40) + x1)).toNatClampNeg)) (fun M4 =>
  zgd (vp_in ((nI 340) + x1) 5676) (
  zgd (vp_in ((nI 340) + a1) 5676) (
  zbd (zz_si M4 74 (((nI 340) + a1)).toNatClampNeg (M4.1 74 (((nI 340) + x1)).toNatClampNeg)) (fun M7 =>
  zgd (vp_in ((nI 640) + x1) 5676) (
  zgd (vp_in ((nI 640) + a1) 5676) (
  zbd (zz_si M7 74 (((nI 640) + a1)).toNatClampNeg (M7.1 74 (((nI 640) + x1)).toNatClampNeg)) (fun M10 =>
  zgd (vp_in ((nI 940) + x1) 5676) (
  zgd (vp_in ((nI 940) + a1) 5676) (
  zbd (zz_si M10 74 (((nI 940) + a1)).toNatClampNeg (M10.1 74 (((nI 940) + x1)).toNatClampNeg)) (fun M13 =>
  zbd (zz_si M13 74 7 x1) (fun M14 =>
  some M14))))))))))))))
set_option maxHeartbeats 4000000 in
set_option maxRecDepth 100000 in
theorem w_X10_leaves_0 {G : zzG} {t : Nat} {Q : Option Value → zzMem → Prop} (a1 : Int32) (M : zzMem) (ht : 180 ≤ t)  {P : zzMem → Prop} (h : zK (f_X10_leaves a1 M) P) (kR : ∀ r : zzMem, P r → Q none r) : zz_W G m_X10_leaves t t t 0 [some (.ref 73), some (.int a1), none] [] M Q := by
  unfold f_X10_leaves at h
  refine r_aload_n dX10_leaves_0 rfl ?_
  refine r_getR (k := 73) (q := 74) dX10_leaves_1 zf_X10_7 (zo_X10 (zs_X10 ht)) (zr_X10_0 (zs_X10 ht)).1 (zr_X10_0 (zs_X10 ht)).2.1 (zr_X10_0 (zs_X10 ht)).2.2 ?_
  refine r_bipush (v := (nI 7)) dX10_leaves_4 (by decide) ?_
  refine r_ialdc (j := 7) dX10_leaves_6 (za_X10_0 (zs_X10 ht)) rfl rfl ?_
  refine r_iconst (v := (nI 1)) dX10_leaves_7 (by decide) ?_
  refine r_isub dX10_leaves_8 ?_
  refine r_istore_n (fun x1 => [some (.ref 73), some (.int a1), some (.int x1)]) dX10_leaves_9 (by decide) rfl (fun _ => rfl) (fun x1 ex1 => ?_)
  have h := zK_bd h ex1
  refine r_aload_n dX10_leaves_10 rfl ?_
  refine r_getR (k := 73) (q := 74) dX10_leaves_11 zf_X10_7 (zo_X10 (zs_X10 ht)) (zr_X10_0 (zs_X10 ht)).1 (zr_X10_0 (zs_X10 ht)).2.1 (zr_X10_0 (zs_X10 ht)).2.2 ?_
  refine r_bipush (v := (nI 40)) dX10_leaves_14 (by decide) ?_
  refine r_iload_n dX10_leaves_16 rfl ?_
  refine r_iadd dX10_leaves_17 ?_
  refine r_aload_n dX10_leaves_18 rfl ?_
  refine r_getR (k := 73) (q := 74) dX10_leaves_19 zf_X10_7 (zo_X10 (zs_X10 ht)) (zr_X10_0 (zs_X10 ht)).1 (zr_X10_0 (zs_X10 ht)).2.1 (zr_X10_0 (zs_X10 ht)).2.2 ?_
  refine r_bipush (v := (nI 40)) dX10_leaves_22 (by decide) ?_
  refine r_iload_n dX10_leaves_24 rfl ?_
  refine r_iadd dX10_leaves_25 ?_
  obtain ⟨g2, h⟩ := zK_gd h
  refine r_iald dX10_leaves_26 (za_X10_0 (zs_X10 ht)) g2 ?_
  obtain ⟨g3, h⟩ := zK_gd h
  refine r_iast dX10_leaves_27 (za_X10_0 (zs_X10 ht)) g3 (fun M4 eM4 => ?_)
  have h := zK_bd h eM4
  refine r_aload_n dX10_leaves_28 rfl ?_
  refine r_getR (k := 73) (q := 74) dX10_leaves_29 zf_X10_7 (zo_X10 (zs_X10 ht)) (zr_X10_0 (zs_X10 ht)).1 (zr_X10_0 (zs_X10 ht)).2.1 (zr_X10_0 (zs_X10 ht)).2.2 ?_
  refine r_sipush (v := (nI 340)) dX10_leaves_32 (by decide) ?_
  refine r_iload_n dX10_leaves_35 rfl ?_
  refine r_iadd dX10_leaves_36 ?_
  refine r_aload_n dX10_leaves_37 rfl ?_
  refine r_getR (k := 73) (q := 74) dX10_leaves_38 zf_X10_7 (zo_X10 (zs_X10 ht)) (zr_X10_0 (zs_X10 ht)).1 (zr_X10_0 (zs_X10 ht)).2.1 (zr_X10_0 (zs_X10 ht)).2.2 ?_
  refine r_sipush (v := (nI 340)) dX10_leaves_41 (by decide) ?_
  refine r_iload_n dX10_leaves_44 rfl ?_
  refine r_iadd dX10_leaves_45 ?_
  obtain ⟨g5, h⟩ := zK_gd h
  refine r_iald dX10_leaves_46 (za_X10_0 (zs_X10 ht)) g5 ?_
  obtain ⟨g6, h⟩ := zK_gd h
  refine r_iast dX10_leaves_47 (za_X10_0 (zs_X10 ht)) g6 (fun M7 eM7 => ?_)
  have h := zK_bd h eM7
  refine r_aload_n dX10_leaves_48 rfl ?_
  refine r_getR (k := 73) (q := 74) dX10_leaves_49 zf_X10_7 (zo_X10 (zs_X10 ht)) (zr_X10_0 (zs_X10 ht)).1 (zr_X10_0 (zs_X10 ht)).2.1 (zr_X10_0 (zs_X10 ht)).2.2 ?_
  refine r_sipush (v := (nI 640)) dX10_leaves_52 (by decide) ?_
  refine r_iload_n dX10_leaves_55 rfl ?_
  refine r_iadd dX10_leaves_56 ?_
  refine r_aload_n dX10_leaves_57 rfl ?_
  refine r_getR (k := 73) (q := 74) dX10_leaves_58 zf_X10_7 (zo_X10 (zs_X10 ht)) (zr_X10_0 (zs_X10 ht)).1 (zr_X10_0 (zs_X10 ht)).2.1 (zr_X10_0 (zs_X10 ht)).2.2 ?_
  refine r_sipush (v := (nI 640)) dX10_leaves_61 (by decide) ?_
  refine r_iload_n dX10_leaves_64 rfl ?_
  refine r_iadd dX10_leaves_65 ?_
  obtain ⟨g8, h⟩ := zK_gd h
  refine r_iald dX10_leaves_66 (za_X10_0 (zs_X10 ht)) g8 ?_
  obtain ⟨g9, h⟩ := zK_gd h
  refine r_iast dX10_leaves_67 (za_X10_0 (zs_X10 ht)) g9 (fun M10 eM10 => ?_)
  have h := zK_bd h eM10
  refine r_aload_n dX10_leaves_68 rfl ?_
  refine r_getR (k := 73) (q := 74) dX10_leaves_69 zf_X10_7 (zo_X10 (zs_X10 ht)) (zr_X10_0 (zs_X10 ht)).1 (zr_X10_0 (zs_X10 ht)).2.1 (zr_X10_0 (zs_X10 ht)).2.2 ?_
  refine r_sipush (v := (nI 940)) dX10_leaves_72 (by decide) ?_
  refine r_iload_n dX10_leaves_75 rfl ?_
  refine r_iadd dX10_leaves_76 ?_
  refine r_aload_n dX10_leaves_77 rfl ?_
  refine r_getR (k := 73) (q := 74) dX10_leaves_78 zf_X10_7 (zo_X10 (zs_X10 ht)) (zr_X10_0 (zs_X10 ht)).1 (zr_X10_0 (zs_X10 ht)).2.1 (zr_X10_0 (zs_X10 ht)).2.2 ?_
  refine r_sipush (v := (nI 940)) dX10_leaves_81 (by decide) ?_
  refine r_iload_n dX10_leaves_84 rfl ?_
  refine r_iadd dX10_leaves_85 ?_
  obtain ⟨g11, h⟩ := zK_gd h
  refine r_iald dX10_leaves_86 (za_X10_0 (zs_X10 ht)) g11 ?_
  obtain ⟨g12, h⟩ := zK_gd h
  refine r_iast dX10_leaves_87 (za_X10_0 (zs_X10 ht)) g12 (fun M13 eM13 => ?_)
  have h := zK_bd h eM13
  refine r_aload_n dX10_leaves_88 rfl ?_
  refine r_getR (k := 73) (q := 74) dX10_leaves_89 zf_X10_7 (zo_X10 (zs_X10 ht)) (zr_X10_0 (zs_X10 ht)).1 (zr_X10_0 (zs_X10 ht)).2.1 (zr_X10_0 (zs_X10 ht)).2.2 ?_
  refine r_bipush (v := (nI 7)) dX10_leaves_92 (by decide) ?_
  refine r_iload_n dX10_leaves_94 rfl ?_
  refine r_iastc (j := 7) dX10_leaves_95 (za_X10_0 (zs_X10 ht)) rfl rfl (fun M14 eM14 => ?_)
  have h := zK_bd h eM14
  exact r_vret dX10_leaves_96 rfl rfl rfl (kR (M14) (zK_some h))
set_option maxHeartbeats 4000000 in
set_option maxRecDepth 100000 in
theorem c_X10_leaves {G : zzG} {t : Nat} {Q : Option Value → zzMem → Prop} (a1 : Int32) (M : zzMem) (ht : 180 ≤ t)  {P : zzMem → Prop} (h : zK (f_X10_leaves a1 M) P) (kR : ∀ r : zzMem, P r → Q none r) : zz_S G m_X10_leaves t t [.ref 73, .int a1] M Q :=
  zz_S_of (by decide) (by decide) (Nat.le_of_ble_eq_true rfl) (w_X10_leaves_0 a1 M ht h kR)
noncomputable def j_X10_drops_191 (v6 : Int32) (M : zzMem) : Option (Int32 × zzMem) :=
  if (M.1 74 4) ≤ 0 then
  (some ((v6, M)))
  else ((f_X10_load M).bind (fun r2 =>
  if (M.1 74 3) ≤ r2 then
  (some ((v6, M)))
  else ((f_X10_buckets M).bind (fun r4 =>
  if r4 ≤ (M.1 74 0) then
  (some ((v6, M)))
  else ((f_X10_comesTogether M).bind (fun q6 => zpr q6 (fun r7 M8 =>
  some ((v6, M8)))))))))
set_option maxHeartbeats 4000000 in
set_option maxRecDepth 100000 in
theorem w_X10_drops_191 {G : zzG} {t : Nat} {Q : Option Value → zzMem → Prop} (v6 : Int32) (M : zzMem) (ht : 180 ≤ t)  {P : (Int32 × zzMem) → Prop} (h : zK (j_X10_drops_191 v6 M) P) (kR : ∀ r : (Int32 × zzMem), P r → Q (some (.int r.1)) r.2) : zz_W G m_X10_drops t t t 191 [some (.ref 73), none, none, none, none, none, some (.int v6)] [] M Q := by
  unfold j_X10_drops_191 at h
  refine r_aload_n dX10_drops_191 rfl ?_
  refine r_getR (k := 73) (q := 74) dX10_drops_192 zf_X10_7 (zo_X10 (zs_X10 ht)) (zr_X10_0 (zs_X10 ht)).1 (zr_X10_0 (zs_X10 ht)).2.1 (zr_X10_0 (zs_X10 ht)).2.2 ?_
  refine r_iconst (v := (nI 4)) dX10_drops_195 (by decide) ?_
  refine r_ialdc (j := 4) dX10_drops_196 (za_X10_0 (zs_X10 ht)) rfl rfl ?_
  refine r_if_le 231 dX10_drops_197 (by decide) (fun c1 => ?_) (fun c1 => ?_)
  · have h := zK_pos h c1
    refine r_iload dX10_drops_231 rfl ?_
    exact r_iret dX10_drops_233 rfl rfl rfl (kR ((v6, M)) (zK_some h))
  · have h := zK_neg h c1
    refine r_aload_n dX10_drops_200 rfl ?_
    refine kV_ir (as := []) (st := []) (k := 73) dX10_drops_201 zM_X10_load zk_X10_223 (zo_X10 (zs_X10 ht)) (by decide) rfl ⟨Nat.le_of_ble_eq_true rfl, Nat.le_of_ble_eq_true rfl⟩ (Nat.le_of_ble_eq_true rfl) (zz_T0 rfl rfl) (fun Q' P' k h => c_X10_load M ht h k) h (fun r2 h => ?_)
    refine r_aload_n dX10_drops_204 rfl ?_
    refine r_getR (k := 73) (q := 74) dX10_drops_205 zf_X10_7 (zo_X10 (zs_X10 ht)) (zr_X10_0 (zs_X10 ht)).1 (zr_X10_0 (zs_X10 ht)).2.1 (zr_X10_0 (zs_X10 ht)).2.2 ?_
    refine r_iconst (v := (nI 3)) dX10_drops_208 (by decide) ?_
    refine r_ialdc (j := 3) dX10_drops_209 (za_X10_0 (zs_X10 ht)) rfl rfl ?_
    refine r_icmp_ge 231 dX10_drops_210 (by decide) (fun c3 => ?_) (fun c3 => ?_)
    · have h := zK_pos h c3
      refine r_iload dX10_drops_231 rfl ?_
      exact r_iret dX10_drops_233 rfl rfl rfl (kR ((v6, M)) (zK_some h))
    · have h := zK_neg h c3
      refine r_aload_n dX10_drops_213 rfl ?_
      refine kV_ir (as := []) (st := []) (k := 73) dX10_drops_214 zM_X10_buckets zk_X10_178 (zo_X10 (zs_X10 ht)) (by decide) rfl ⟨Nat.le_of_ble_eq_true rfl, Nat.le_of_ble_eq_true rfl⟩ (Nat.le_of_ble_eq_true rfl) (zz_T0 rfl rfl) (fun Q' P' k h => c_X10_buckets M ht h k) h (fun r4 h => ?_)
      refine r_aload_n dX10_drops_217 rfl ?_
      refine r_getR (k := 73) (q := 74) dX10_drops_218 zf_X10_7 (zo_X10 (zs_X10 ht)) (zr_X10_0 (zs_X10 ht)).1 (zr_X10_0 (zs_X10 ht)).2.1 (zr_X10_0 (zs_X10 ht)).2.2 ?_
      refine r_iconst (v := (nI 0)) dX10_drops_221 (by decide) ?_
      refine r_ialdc (j := 0) dX10_drops_222 (za_X10_0 (zs_X10 ht)) rfl rfl ?_
      refine r_icmp_le 231 dX10_drops_223 (by decide) (fun c5 => ?_) (fun c5 => ?_)
      · have h := zK_pos h c5
        refine r_iload dX10_drops_231 rfl ?_
        exact r_iret dX10_drops_233 rfl rfl rfl (kR ((v6, M)) (zK_some h))
      · have h := zK_neg h c5
        refine r_aload_n dX10_drops_226 rfl ?_
        refine kV_iw (as := []) (st := []) (k := 73) dX10_drops_227 zM_X10_comesTogether zk_X10_208 (zo_X10 (zs_X10 ht)) (by decide) rfl ⟨Nat.le_of_ble_eq_true rfl, Nat.le_of_ble_eq_true rfl⟩ (Nat.le_of_ble_eq_true rfl) (zz_T0 rfl rfl) (fun Q' P' k h => c_X10_comesTogether M ht h (fun r p => k r.1 r.2 p)) h (fun r7 M8 h => ?_)
        have h := zK_pr h
        refine r_pop dX10_drops_230 rfl ?_
        refine r_iload dX10_drops_231 rfl ?_
        exact r_iret dX10_drops_233 rfl rfl rfl (kR ((v6, M8)) (zK_some h))
noncomputable def j_X10_drops_128 (v2 : Int32) (v3 : Int32) (v4 : Int32) (v5 : Int32) (v6 : Int32) (s1 : Int32) (s2 : Int32) (s3 : Int32) (M : zzMem) : Option (Int32 × zzMem) :=
  zgd (vp_in s1 5676) (
  zbd (zz_si M 74 (s1).toNatClampNeg (s2 + s3)) (fun M2 =>
  zgd (vp_in ((nI 940) + v2) 5676) (
  zgd (vp_in ((nI 940) + v5) 5676) (
  zbd (zz_si M2 74 (((nI 940) + v5)).toNatClampNeg (M2.1 74 (((nI 940) + v2)).toNatClampNeg)) (fun M5 =>
  (f_X10_leaves v2 M5).bind (fun M6 =>
  (f_X10_chainOf v3 M6).bind (fun r7 =>
  if r7 ≤ (nI 1) then
  (j_X10_drops_191 v6 M6)
  else (zgd (¬ (M6.1 74 1) = 0) (
  if (zrm (v4 - (nI 1)) (M6.1 74 1)) = 0 then
  ((f_X10_chainOf v3 M6).bind (fun r11 =>
  (f_X10_freesPages v3 (r11 - (nI 1)) M6).bind (fun M12 =>
  j_X10_drops_191 v6 M12)))
  else (j_X10_drops_191 v6 M6))))))))))
set_option maxHeartbeats 4000000 in
set_option maxRecDepth 100000 in
theorem w_X10_drops_128 {G : zzG} {t : Nat} {Q : Option Value → zzMem → Prop} (v2 : Int32) (v3 : Int32) (v4 : Int32) (v5 : Int32) (v6 : Int32) (s1 : Int32) (s2 : Int32) (s3 : Int32) (M : zzMem) (ht : 180 ≤ t)  {P : (Int32 × zzMem) → Prop} (h : zK (j_X10_drops_128 v2 v3 v4 v5 v6 s1 s2 s3 M) P) (kR : ∀ r : (Int32 × zzMem), P r → Q (some (.int r.1)) r.2) : zz_W G m_X10_drops t t t 128 [some (.ref 73), none, some (.int v2), some (.int v3), some (.int v4), some (.int v5), some (.int v6)] [.int s3, .int s2, .int s1, .ref 74] M Q := by
  unfold j_X10_drops_128 at h
  refine r_iadd dX10_drops_128 ?_
  obtain ⟨g1, h⟩ := zK_gd h
  refine r_iast dX10_drops_129 (za_X10_0 (zs_X10 ht)) g1 (fun M2 eM2 => ?_)
  have h := zK_bd h eM2
  refine r_aload_n dX10_drops_130 rfl ?_
  refine r_getR (k := 73) (q := 74) dX10_drops_131 zf_X10_7 (zo_X10 (zs_X10 ht)) (zr_X10_0 (zs_X10 ht)).1 (zr_X10_0 (zs_X10 ht)).2.1 (zr_X10_0 (zs_X10 ht)).2.2 ?_
  refine r_sipush (v := (nI 940)) dX10_drops_134 (by decide) ?_
  refine r_iload dX10_drops_137 rfl ?_
  refine r_iadd dX10_drops_139 ?_
  refine r_aload_n dX10_drops_140 rfl ?_
  refine r_getR (k := 73) (q := 74) dX10_drops_141 zf_X10_7 (zo_X10 (zs_X10 ht)) (zr_X10_0 (zs_X10 ht)).1 (zr_X10_0 (zs_X10 ht)).2.1 (zr_X10_0 (zs_X10 ht)).2.2 ?_
  refine r_sipush (v := (nI 940)) dX10_drops_144 (by decide) ?_
  refine r_iload_n dX10_drops_147 rfl ?_
  refine r_iadd dX10_drops_148 ?_
  obtain ⟨g3, h⟩ := zK_gd h
  refine r_iald dX10_drops_149 (za_X10_0 (zs_X10 ht)) g3 ?_
  obtain ⟨g4, h⟩ := zK_gd h
  refine r_iast dX10_drops_150 (za_X10_0 (zs_X10 ht)) g4 (fun M5 eM5 => ?_)
  have h := zK_bd h eM5
  refine r_aload_n dX10_drops_151 rfl ?_
  refine r_iload_n dX10_drops_152 rfl ?_
  refine kV_vw (as := [.int v2]) (st := []) (k := 73) dX10_drops_153 zM_X10_leaves zk_X10_238 (zo_X10 (zs_X10 ht)) (by decide) rfl ⟨Nat.le_of_ble_eq_true rfl, Nat.le_of_ble_eq_true rfl⟩ (Nat.le_of_ble_eq_true rfl) (zz_T0 rfl rfl) (fun Q' P' k h => c_X10_leaves (v2) M5 ht h k) h (fun M6 h => ?_)
  refine r_aload_n dX10_drops_156 rfl ?_
  refine r_iload_n dX10_drops_157 rfl ?_
  refine kV_ir (as := [.int v3]) (st := []) (k := 73) dX10_drops_158 zM_X10_chainOf zk_X10_172 (zo_X10 (zs_X10 ht)) (by decide) rfl ⟨Nat.le_of_ble_eq_true rfl, Nat.le_of_ble_eq_true rfl⟩ (Nat.le_of_ble_eq_true rfl) (zz_T0 rfl rfl) (fun Q' P' k h => c_X10_chainOf (v3) M6 ht h k) h (fun r7 h => ?_)
  refine r_iconst (v := (nI 1)) dX10_drops_161 (by decide) ?_
  refine r_icmp_le 191 dX10_drops_162 (by decide) (fun c8 => ?_) (fun c8 => ?_)
  · have h := zK_pos h c8
    refine zz_mask [2, 3, 4, 5] ?_
    exact w_X10_drops_191 (v6) M6 ht h kR
  · have h := zK_neg h c8
    refine r_iload dX10_drops_165 rfl ?_
    refine r_iconst (v := (nI 1)) dX10_drops_167 (by decide) ?_
    refine r_isub dX10_drops_168 ?_
    refine r_aload_n dX10_drops_169 rfl ?_
    refine r_getR (k := 73) (q := 74) dX10_drops_170 zf_X10_7 (zo_X10 (zs_X10 ht)) (zr_X10_0 (zs_X10 ht)).1 (zr_X10_0 (zs_X10 ht)).2.1 (zr_X10_0 (zs_X10 ht)).2.2 ?_
    refine r_iconst (v := (nI 1)) dX10_drops_173 (by decide) ?_
    refine r_ialdc (j := 1) dX10_drops_174 (za_X10_0 (zs_X10 ht)) rfl rfl ?_
    obtain ⟨g9, h⟩ := zK_gd h
    refine r_irem dX10_drops_175 g9 ?_
    refine r_if_ne 191 dX10_drops_176 (by decide) (fun c10 => ?_) (fun c10 => ?_)
    · have h := zK_neg h c10
      refine zz_mask [2, 3, 4, 5] ?_
      exact w_X10_drops_191 (v6) M6 ht h kR
    · have h := zK_pos h c10
      refine r_aload_n dX10_drops_179 rfl ?_
      refine r_iload_n dX10_drops_180 rfl ?_
      refine r_aload_n dX10_drops_181 rfl ?_
      refine r_iload_n dX10_drops_182 rfl ?_
      refine kV_ir (as := [.int v3]) (st := [.int v3, .ref 73]) (k := 73) dX10_drops_183 zM_X10_chainOf zk_X10_172 (zo_X10 (zs_X10 ht)) (by decide) rfl ⟨Nat.le_of_ble_eq_true rfl, Nat.le_of_ble_eq_true rfl⟩ (Nat.le_of_ble_eq_true rfl) (zz_T0 rfl rfl) (fun Q' P' k h => c_X10_chainOf (v3) M6 ht h k) h (fun r11 h => ?_)
      refine r_iconst (v := (nI 1)) dX10_drops_186 (by decide) ?_
      refine r_isub dX10_drops_187 ?_
      refine kV_vw (as := [.int v3, .int (r11 - (nI 1))]) (st := []) (k := 73) dX10_drops_188 zM_X10_freesPages zk_X10_190 (zo_X10 (zs_X10 ht)) (by decide) rfl ⟨Nat.le_of_ble_eq_true rfl, Nat.le_of_ble_eq_true rfl⟩ (Nat.le_of_ble_eq_true rfl) (zz_T0 rfl rfl) (fun Q' P' k h => c_X10_freesPages (v3) ((r11 - (nI 1))) M6 ht h k) h (fun M12 h => ?_)
      refine zz_mask [2, 3, 4, 5] ?_
      exact w_X10_drops_191 (v6) M12 ht h kR
noncomputable def f_X10_drops (a1 : Int32) (M : zzMem) : Option (Int32 × zzMem) :=
  (f_X10_entryOf (nI 0) a1 M).bind (fun r1 =>
  if r1 = (-1 : Int32) then
  ((f_X10_findReads a1 M).bind (fun q14 => zpr q14 (fun r15 M16 =>
  zbd (zz_si M16 74 8 ((M.1 74 8) + r15)) (fun M17 =>
  some (((-2 : Int32), M17))))))
  else (zgd (vp_in ((nI 640) + r1) 5676) (
  zbd ((M.1 74 (((nI 640) + r1)).toNatClampNeg)) (fun x4 =>
  (f_X10_keysIn x4 M).bind (fun r5 =>
  (f_X10_entryAt x4 (r5 - (nI 1)) M).bind (fun r6 =>
  zgd (vp_in ((nI 340) + r1) 5676) (
  zbd ((M.1 74 (((nI 340) + r1)).toNatClampNeg)) (fun x8 =>
  (f_X10_chainOf x4 M).bind (fun r9 =>
  zbd (zz_si M 74 8 ((M.1 74 8) + r9)) (fun M10 =>
  (f_X10_readsOf r6 M10).bind (fun r11 =>
  (f_X10_readsOf r1 M10).bind (fun r12 =>
  if r11 = r12 then
  (j_X10_drops_128 r1 x4 r5 r6 x8 (nI 9) (M10.1 74 9) (nI 1) M10)
  else (j_X10_drops_128 r1 x4 r5 r6 x8 (nI 9) (M10.1 74 9) (nI 2) M10)))))))))))))
set_option maxHeartbeats 4000000 in
set_option maxRecDepth 100000 in
theorem w_X10_drops_0 {G : zzG} {t : Nat} {Q : Option Value → zzMem → Prop} (a1 : Int32) (M : zzMem) (ht : 180 ≤ t)  {P : (Int32 × zzMem) → Prop} (h : zK (f_X10_drops a1 M) P) (kR : ∀ r : (Int32 × zzMem), P r → Q (some (.int r.1)) r.2) : zz_W G m_X10_drops t t t 0 [some (.ref 73), some (.int a1), none, none, none, none, none] [] M Q := by
  unfold f_X10_drops at h
  refine r_aload_n dX10_drops_0 rfl ?_
  refine r_iconst (v := (nI 0)) dX10_drops_1 (by decide) ?_
  refine r_iload_n dX10_drops_2 rfl ?_
  refine kV_ir (as := [.int (nI 0), .int a1]) (st := []) (k := 73) dX10_drops_3 zM_X10_entryOf zk_X10_211 (zo_X10 (zs_X10 ht)) (by decide) rfl ⟨Nat.le_of_ble_eq_true rfl, Nat.le_of_ble_eq_true rfl⟩ (Nat.le_of_ble_eq_true rfl) (zz_T0 rfl rfl) (fun Q' P' k h => c_X10_entryOf ((nI 0)) (a1) M ht h k) h (fun r1 h => ?_)
  refine s_istore_n ([some (.ref 73), some (.int a1), some (.int r1), none, none, none, none]) dX10_drops_6 (by decide) rfl rfl ?_
  refine r_iload_n dX10_drops_7 rfl ?_
  refine r_iconst (v := (-1 : Int32)) dX10_drops_8 (by decide) ?_
  refine r_icmp_ne 35 dX10_drops_9 (by decide) (fun c2 => ?_) (fun c2 => ?_)
  · have h := zK_neg h c2
    refine r_aload_n dX10_drops_35 rfl ?_
    refine r_getR (k := 73) (q := 74) dX10_drops_36 zf_X10_7 (zo_X10 (zs_X10 ht)) (zr_X10_0 (zs_X10 ht)).1 (zr_X10_0 (zs_X10 ht)).2.1 (zr_X10_0 (zs_X10 ht)).2.2 ?_
    refine r_sipush (v := (nI 640)) dX10_drops_39 (by decide) ?_
    refine r_iload_n dX10_drops_42 rfl ?_
    refine r_iadd dX10_drops_43 ?_
    obtain ⟨g3, h⟩ := zK_gd h
    refine r_iald dX10_drops_44 (za_X10_0 (zs_X10 ht)) g3 ?_
    refine r_istore_n (fun x4 => [some (.ref 73), some (.int a1), some (.int r1), some (.int x4), none, none, none]) dX10_drops_45 (by decide) rfl (fun _ => rfl) (fun x4 ex4 => ?_)
    have h := zK_bd h ex4
    refine r_aload_n dX10_drops_46 rfl ?_
    refine r_iload_n dX10_drops_47 rfl ?_
    refine kV_ir (as := [.int x4]) (st := []) (k := 73) dX10_drops_48 zM_X10_keysIn zk_X10_202 (zo_X10 (zs_X10 ht)) (by decide) rfl ⟨Nat.le_of_ble_eq_true rfl, Nat.le_of_ble_eq_true rfl⟩ (Nat.le_of_ble_eq_true rfl) (zz_T0 rfl rfl) (fun Q' P' k h => c_X10_keysIn (x4) M ht h k) h (fun r5 h => ?_)
    refine s_istore ([some (.ref 73), some (.int a1), some (.int r1), some (.int x4), some (.int r5), none, none]) dX10_drops_51 (by decide) rfl rfl ?_
    refine r_aload_n dX10_drops_53 rfl ?_
    refine r_iload_n dX10_drops_54 rfl ?_
    refine r_iload dX10_drops_55 rfl ?_
    refine r_iconst (v := (nI 1)) dX10_drops_57 (by decide) ?_
    refine r_isub dX10_drops_58 ?_
    refine kV_ir (as := [.int x4, .int (r5 - (nI 1))]) (st := []) (k := 73) dX10_drops_59 zM_X10_entryAt zk_X10_235 (zo_X10 (zs_X10 ht)) (by decide) rfl ⟨Nat.le_of_ble_eq_true rfl, Nat.le_of_ble_eq_true rfl⟩ (Nat.le_of_ble_eq_true rfl) (zz_T0 rfl rfl) (fun Q' P' k h => c_X10_entryAt (x4) ((r5 - (nI 1))) M ht h k) h (fun r6 h => ?_)
    refine s_istore ([some (.ref 73), some (.int a1), some (.int r1), some (.int x4), some (.int r5), some (.int r6), none]) dX10_drops_62 (by decide) rfl rfl ?_
    refine r_aload_n dX10_drops_64 rfl ?_
    refine r_getR (k := 73) (q := 74) dX10_drops_65 zf_X10_7 (zo_X10 (zs_X10 ht)) (zr_X10_0 (zs_X10 ht)).1 (zr_X10_0 (zs_X10 ht)).2.1 (zr_X10_0 (zs_X10 ht)).2.2 ?_
    refine r_sipush (v := (nI 340)) dX10_drops_68 (by decide) ?_
    refine r_iload_n dX10_drops_71 rfl ?_
    refine r_iadd dX10_drops_72 ?_
    obtain ⟨g7, h⟩ := zK_gd h
    refine r_iald dX10_drops_73 (za_X10_0 (zs_X10 ht)) g7 ?_
    refine r_istore (fun x8 => [some (.ref 73), some (.int a1), some (.int r1), some (.int x4), some (.int r5), some (.int r6), some (.int x8)]) dX10_drops_74 (by decide) rfl (fun _ => rfl) (fun x8 ex8 => ?_)
    have h := zK_bd h ex8
    refine r_aload_n dX10_drops_76 rfl ?_
    refine r_getR (k := 73) (q := 74) dX10_drops_77 zf_X10_7 (zo_X10 (zs_X10 ht)) (zr_X10_0 (zs_X10 ht)).1 (zr_X10_0 (zs_X10 ht)).2.1 (zr_X10_0 (zs_X10 ht)).2.2 ?_
    refine r_bipush (v := (nI 8)) dX10_drops_80 (by decide) ?_
    refine r_aload_n dX10_drops_82 rfl ?_
    refine r_getR (k := 73) (q := 74) dX10_drops_83 zf_X10_7 (zo_X10 (zs_X10 ht)) (zr_X10_0 (zs_X10 ht)).1 (zr_X10_0 (zs_X10 ht)).2.1 (zr_X10_0 (zs_X10 ht)).2.2 ?_
    refine r_bipush (v := (nI 8)) dX10_drops_86 (by decide) ?_
    refine r_ialdc (j := 8) dX10_drops_88 (za_X10_0 (zs_X10 ht)) rfl rfl ?_
    refine r_aload_n dX10_drops_89 rfl ?_
    refine r_iload_n dX10_drops_90 rfl ?_
    refine kV_ir (as := [.int x4]) (st := [.int (M.1 74 8), .int (nI 8), .ref 74]) (k := 73) dX10_drops_91 zM_X10_chainOf zk_X10_172 (zo_X10 (zs_X10 ht)) (by decide) rfl ⟨Nat.le_of_ble_eq_true rfl, Nat.le_of_ble_eq_true rfl⟩ (Nat.le_of_ble_eq_true rfl) (zz_T0 rfl rfl) (fun Q' P' k h => c_X10_chainOf (x4) M ht h k) h (fun r9 h => ?_)
    refine r_iadd dX10_drops_94 ?_
    refine r_iastc (j := 8) dX10_drops_95 (za_X10_0 (zs_X10 ht)) rfl rfl (fun M10 eM10 => ?_)
    have h := zK_bd h eM10
    refine r_aload_n dX10_drops_96 rfl ?_
    refine r_getR (k := 73) (q := 74) dX10_drops_97 zf_X10_7 (zo_X10 (zs_X10 ht)) (zr_X10_0 (zs_X10 ht)).1 (zr_X10_0 (zs_X10 ht)).2.1 (zr_X10_0 (zs_X10 ht)).2.2 ?_
    refine r_bipush (v := (nI 9)) dX10_drops_100 (by decide) ?_
    refine r_aload_n dX10_drops_102 rfl ?_
    refine r_getR (k := 73) (q := 74) dX10_drops_103 zf_X10_7 (zo_X10 (zs_X10 ht)) (zr_X10_0 (zs_X10 ht)).1 (zr_X10_0 (zs_X10 ht)).2.1 (zr_X10_0 (zs_X10 ht)).2.2 ?_
    refine r_bipush (v := (nI 9)) dX10_drops_106 (by decide) ?_
    refine r_ialdc (j := 9) dX10_drops_108 (za_X10_0 (zs_X10 ht)) rfl rfl ?_
    refine r_aload_n dX10_drops_109 rfl ?_
    refine r_iload dX10_drops_110 rfl ?_
    refine kV_ir (as := [.int r6]) (st := [.int (M10.1 74 9), .int (nI 9), .ref 74]) (k := 73) dX10_drops_112 zM_X10_readsOf zk_X10_217 (zo_X10 (zs_X10 ht)) (by decide) rfl ⟨Nat.le_of_ble_eq_true rfl, Nat.le_of_ble_eq_true rfl⟩ (Nat.le_of_ble_eq_true rfl) (zz_T0 rfl rfl) (fun Q' P' k h => c_X10_readsOf (r6) M10 ht h k) h (fun r11 h => ?_)
    refine r_aload_n dX10_drops_115 rfl ?_
    refine r_iload_n dX10_drops_116 rfl ?_
    refine kV_ir (as := [.int r1]) (st := [.int r11, .int (M10.1 74 9), .int (nI 9), .ref 74]) (k := 73) dX10_drops_117 zM_X10_readsOf zk_X10_217 (zo_X10 (zs_X10 ht)) (by decide) rfl ⟨Nat.le_of_ble_eq_true rfl, Nat.le_of_ble_eq_true rfl⟩ (Nat.le_of_ble_eq_true rfl) (zz_T0 rfl rfl) (fun Q' P' k h => c_X10_readsOf (r1) M10 ht h k) h (fun r12 h => ?_)
    refine r_icmp_ne 127 dX10_drops_120 (by decide) (fun c13 => ?_) (fun c13 => ?_)
    · have h := zK_neg h c13
      refine r_iconst (v := (nI 2)) dX10_drops_127 (by decide) ?_
      refine zz_mask [1] ?_
      exact w_X10_drops_128 (r1) (x4) (r5) (r6) (x8) ((nI 9)) ((M10.1 74 9)) ((nI 2)) M10 ht h kR
    · have h := zK_pos h c13
      refine r_iconst (v := (nI 1)) dX10_drops_123 (by decide) ?_
      refine r_goto 128 dX10_drops_124 (by decide) ?_
      refine zz_mask [1] ?_
      exact w_X10_drops_128 (r1) (x4) (r5) (r6) (x8) ((nI 9)) ((M10.1 74 9)) ((nI 1)) M10 ht h kR
  · have h := zK_pos h c2
    refine r_aload_n dX10_drops_12 rfl ?_
    refine r_getR (k := 73) (q := 74) dX10_drops_13 zf_X10_7 (zo_X10 (zs_X10 ht)) (zr_X10_0 (zs_X10 ht)).1 (zr_X10_0 (zs_X10 ht)).2.1 (zr_X10_0 (zs_X10 ht)).2.2 ?_
    refine r_bipush (v := (nI 8)) dX10_drops_16 (by decide) ?_
    refine r_aload_n dX10_drops_18 rfl ?_
    refine r_getR (k := 73) (q := 74) dX10_drops_19 zf_X10_7 (zo_X10 (zs_X10 ht)) (zr_X10_0 (zs_X10 ht)).1 (zr_X10_0 (zs_X10 ht)).2.1 (zr_X10_0 (zs_X10 ht)).2.2 ?_
    refine r_bipush (v := (nI 8)) dX10_drops_22 (by decide) ?_
    refine r_ialdc (j := 8) dX10_drops_24 (za_X10_0 (zs_X10 ht)) rfl rfl ?_
    refine r_aload_n dX10_drops_25 rfl ?_
    refine r_iload_n dX10_drops_26 rfl ?_
    refine kV_iw (as := [.int a1]) (st := [.int (M.1 74 8), .int (nI 8), .ref 74]) (k := 73) dX10_drops_27 zM_X10_findReads zk_X10_220 (zo_X10 (zs_X10 ht)) (by decide) rfl ⟨Nat.le_of_ble_eq_true rfl, Nat.le_of_ble_eq_true rfl⟩ (Nat.le_of_ble_eq_true rfl) (zz_T0 rfl rfl) (fun Q' P' k h => c_X10_findReads (a1) M ht h (fun r p => k r.1 r.2 p)) h (fun r15 M16 h => ?_)
    have h := zK_pr h
    refine r_iadd dX10_drops_30 ?_
    refine r_iastc (j := 8) dX10_drops_31 (za_X10_0 (zs_X10 ht)) rfl rfl (fun M17 eM17 => ?_)
    have h := zK_bd h eM17
    refine r_bipush (v := (-2 : Int32)) dX10_drops_32 (by decide) ?_
    exact r_iret dX10_drops_34 rfl rfl rfl (kR (((-2 : Int32), M17)) (zK_some h))
set_option maxHeartbeats 4000000 in
set_option maxRecDepth 100000 in
theorem c_X10_drops {G : zzG} {t : Nat} {Q : Option Value → zzMem → Prop} (a1 : Int32) (M : zzMem) (ht : 180 ≤ t)  {P : (Int32 × zzMem) → Prop} (h : zK (f_X10_drops a1 M) P) (kR : ∀ r : (Int32 × zzMem), P r → Q (some (.int r.1)) r.2) : zz_S G m_X10_drops t t [.ref 73, .int a1] M Q :=
  zz_S_of (by decide) (by decide) (Nat.le_of_ble_eq_true rfl) (w_X10_drops_0 a1 M ht h kR)
