noncomputable def j_X10_tell_90 (v1 : Int32) (v3 : Int32) (M : zzMem) : Option ((Int32 × Int32 × zzMem) ⊕ (Int32 × zzMem)) :=
  zbd (v3 + (nI 1)) (fun x1 =>
  some (.inl (v3, x1, M)))
set_option maxHeartbeats 4000000 in
set_option maxRecDepth 100000 in
theorem w_X10_tell_90 {G : zzG} {t : Nat} {Q : Option Value → zzMem → Prop} (v1 : Int32) (v3 : Int32) (M : zzMem) (ht : 180 ≤ t)  {P : ((Int32 × Int32 × zzMem) ⊕ (Int32 × zzMem)) → Prop} (h : zK (j_X10_tell_90 v1 v3 M) P) (k14 : ∀ s : (Int32 × Int32 × zzMem), P (.inl s) → zz_W G m_X10_tell t t t 14 [some (.ref 73), some (.int v1), some (.int s.1), some (.int s.2.1)] [] s.2.2 Q) (kR : ∀ r : (Int32 × zzMem), P (.inr r) → Q (some (.int r.1)) r.2) : zz_W G m_X10_tell t t t 90 [some (.ref 73), some (.int v1), none, some (.int v3)] [] M Q := by
  unfold j_X10_tell_90 at h
  refine r_iload_n dX10_tell_90 rfl ?_
  refine s_istore_n ([some (.ref 73), some (.int v1), some (.int v3), some (.int v3)]) dX10_tell_91 (by decide) rfl rfl ?_
  refine r_iinc (nI 1) (fun x1 => [some (.ref 73), some (.int v1), some (.int v3), some (.int x1)]) dX10_tell_92 rfl (by decide) (by decide) rfl (fun _ => rfl) (fun x1 ex1 => ?_)
  have h := zK_bd h ex1
  refine r_goto 14 dX10_tell_95 (by decide) ?_
  exact k14 ((v3, x1, M)) (zK_some h)
noncomputable def b_X10_tell_14 (v1 : Int32) (v2 : Int32) (v3 : Int32) (M : zzMem) : Option ((Int32 × Int32 × zzMem) ⊕ (Int32 × zzMem)) :=
  if (M.1 74 7) ≤ v3 then
  (if v2 = (-1 : Int32) then
  (some ((.inr ((-2 : Int32), M))))
  else (zgd (vp_in ((nI 40) + v2) 5676) (
  zgd (vp_in ((nI 15) + v1) 5676) (
  zbd (zz_si M 74 (((nI 15) + v1)).toNatClampNeg (M.1 74 (((nI 40) + v2)).toNatClampNeg)) (fun M5 =>
  zgd (vp_in ((nI 19) + v1) 5676) (
  zbd (zz_si M5 74 (((nI 19) + v1)).toNatClampNeg ((M5.1 74 (((nI 19) + v1)).toNatClampNeg) + (nI 1))) (fun M7 =>
  some ((.inr ((M7.1 74 (((nI 40) + v2)).toNatClampNeg), M7))))))))))
  else ((f_X10_isToCome v1 v3 M).bind (fun q8 => zpr q8 (fun r9 M10 =>
  if r9 = true then
  (if v2 = (-1 : Int32) then
  (j_X10_tell_90 v1 v3 M10)
  else (zgd (vp_in ((nI 40) + v2) 5676) (
  (f_X10_rankOf (M10.1 74 (((nI 40) + v2)).toNatClampNeg) M10).bind (fun q15 => zpr q15 (fun r16 M17 =>
  zgd (vp_in ((nI 40) + v3) 5676) (
  (f_X10_rankOf (M17.1 74 (((nI 40) + v3)).toNatClampNeg) M17).bind (fun q19 => zpr q19 (fun r20 M21 =>
  if (f_X10_isBehind r16 (M17.1 74 (((nI 40) + v2)).toNatClampNeg) r20 (M21.1 74 (((nI 40) + v3)).toNatClampNeg)) = true then
  (j_X10_tell_90 v1 v3 M21)
  else (zbd (v3 + (nI 1)) (fun x23 =>
  some (.inl (v2, x23, M21))))))))))))
  else (zbd (v3 + (nI 1)) (fun x12 =>
  some (.inl (v2, x12, M10)))))))
set_option maxHeartbeats 4000000 in
set_option maxRecDepth 100000 in
theorem x_X10_tell_14 {G : zzG} {t : Nat} {Q : Option Value → zzMem → Prop} (v1 : Int32) (v2 : Int32) (v3 : Int32) (M : zzMem) (ht : 180 ≤ t)  {P : ((Int32 × Int32 × zzMem) ⊕ (Int32 × zzMem)) → Prop} (h : zK (b_X10_tell_14 v1 v2 v3 M) P) (k14 : ∀ s : (Int32 × Int32 × zzMem), P (.inl s) → zz_W G m_X10_tell t t t 14 [some (.ref 73), some (.int v1), some (.int s.1), some (.int s.2.1)] [] s.2.2 Q) (kR : ∀ r : (Int32 × zzMem), P (.inr r) → Q (some (.int r.1)) r.2) : zz_W G m_X10_tell t t t 14 [some (.ref 73), some (.int v1), some (.int v2), some (.int v3)] [] M Q := by
  unfold b_X10_tell_14 at h
  refine r_iload_n dX10_tell_14 rfl ?_
  refine r_aload_n dX10_tell_15 rfl ?_
  refine r_getR (k := 73) (q := 74) dX10_tell_16 zf_X10_7 (zo_X10 (zs_X10 ht)) (zr_X10_0 (zs_X10 ht)).1 (zr_X10_0 (zs_X10 ht)).2.1 (zr_X10_0 (zs_X10 ht)).2.2 ?_
  refine r_bipush (v := (nI 7)) dX10_tell_19 (by decide) ?_
  refine r_ialdc (j := 7) dX10_tell_21 (za_X10_0 (zs_X10 ht)) rfl rfl ?_
  refine r_icmp_ge 98 dX10_tell_22 (by decide) (fun c1 => ?_) (fun c1 => ?_)
  · have h := zK_pos h c1
    refine r_iload_n dX10_tell_98 rfl ?_
    refine r_iconst (v := (-1 : Int32)) dX10_tell_99 (by decide) ?_
    refine r_icmp_ne 106 dX10_tell_100 (by decide) (fun c2 => ?_) (fun c2 => ?_)
    · have h := zK_neg h c2
      refine r_aload_n dX10_tell_106 rfl ?_
      refine r_getR (k := 73) (q := 74) dX10_tell_107 zf_X10_7 (zo_X10 (zs_X10 ht)) (zr_X10_0 (zs_X10 ht)).1 (zr_X10_0 (zs_X10 ht)).2.1 (zr_X10_0 (zs_X10 ht)).2.2 ?_
      refine r_bipush (v := (nI 15)) dX10_tell_110 (by decide) ?_
      refine r_iload_n dX10_tell_112 rfl ?_
      refine r_iadd dX10_tell_113 ?_
      refine r_aload_n dX10_tell_114 rfl ?_
      refine r_getR (k := 73) (q := 74) dX10_tell_115 zf_X10_7 (zo_X10 (zs_X10 ht)) (zr_X10_0 (zs_X10 ht)).1 (zr_X10_0 (zs_X10 ht)).2.1 (zr_X10_0 (zs_X10 ht)).2.2 ?_
      refine r_bipush (v := (nI 40)) dX10_tell_118 (by decide) ?_
      refine r_iload_n dX10_tell_120 rfl ?_
      refine r_iadd dX10_tell_121 ?_
      obtain ⟨g3, h⟩ := zK_gd h
      refine r_iald dX10_tell_122 (za_X10_0 (zs_X10 ht)) g3 ?_
      obtain ⟨g4, h⟩ := zK_gd h
      refine r_iast dX10_tell_123 (za_X10_0 (zs_X10 ht)) g4 (fun M5 eM5 => ?_)
      have h := zK_bd h eM5
      refine r_aload_n dX10_tell_124 rfl ?_
      refine r_getR (k := 73) (q := 74) dX10_tell_125 zf_X10_7 (zo_X10 (zs_X10 ht)) (zr_X10_0 (zs_X10 ht)).1 (zr_X10_0 (zs_X10 ht)).2.1 (zr_X10_0 (zs_X10 ht)).2.2 ?_
      refine r_bipush (v := (nI 19)) dX10_tell_128 (by decide) ?_
      refine r_iload_n dX10_tell_130 rfl ?_
      refine r_iadd dX10_tell_131 ?_
      refine r_aload_n dX10_tell_132 rfl ?_
      refine r_getR (k := 73) (q := 74) dX10_tell_133 zf_X10_7 (zo_X10 (zs_X10 ht)) (zr_X10_0 (zs_X10 ht)).1 (zr_X10_0 (zs_X10 ht)).2.1 (zr_X10_0 (zs_X10 ht)).2.2 ?_
      refine r_bipush (v := (nI 19)) dX10_tell_136 (by decide) ?_
      refine r_iload_n dX10_tell_138 rfl ?_
      refine r_iadd dX10_tell_139 ?_
      obtain ⟨g6, h⟩ := zK_gd h
      refine r_iald dX10_tell_140 (za_X10_0 (zs_X10 ht)) g6 ?_
      refine r_iconst (v := (nI 1)) dX10_tell_141 (by decide) ?_
      refine r_iadd dX10_tell_142 ?_
      refine r_iast dX10_tell_143 (za_X10_0 (zs_X10 ht)) g6 (fun M7 eM7 => ?_)
      have h := zK_bd h eM7
      refine r_aload_n dX10_tell_144 rfl ?_
      refine r_getR (k := 73) (q := 74) dX10_tell_145 zf_X10_7 (zo_X10 (zs_X10 ht)) (zr_X10_0 (zs_X10 ht)).1 (zr_X10_0 (zs_X10 ht)).2.1 (zr_X10_0 (zs_X10 ht)).2.2 ?_
      refine r_bipush (v := (nI 40)) dX10_tell_148 (by decide) ?_
      refine r_iload_n dX10_tell_150 rfl ?_
      refine r_iadd dX10_tell_151 ?_
      refine r_iald dX10_tell_152 (za_X10_0 (zs_X10 ht)) g3 ?_
      exact r_iret dX10_tell_153 rfl rfl rfl (kR (((M7.1 74 (((nI 40) + v2)).toNatClampNeg), M7)) (zK_some h))
    · have h := zK_pos h c2
      refine r_bipush (v := (-2 : Int32)) dX10_tell_103 (by decide) ?_
      exact r_iret dX10_tell_105 rfl rfl rfl (kR (((-2 : Int32), M)) (zK_some h))
  · have h := zK_neg h c1
    refine r_aload_n dX10_tell_25 rfl ?_
    refine r_iload_n dX10_tell_26 rfl ?_
    refine r_iload_n dX10_tell_27 rfl ?_
    refine kV_zw (as := [.int v1, .int v3]) (st := []) (k := 73) dX10_tell_28 zM_X10_isToCome zk_X10_290 (zo_X10 (zs_X10 ht)) (by decide) rfl ⟨Nat.le_of_ble_eq_true rfl, Nat.le_of_ble_eq_true rfl⟩ (Nat.le_of_ble_eq_true rfl) (zz_T0 rfl rfl) (fun Q' P' k h => c_X10_isToCome (v1) (v3) M ht h (fun r p => k r.1 r.2 p)) h (fun r9 M10 h => ?_)
    have h := zK_pr h
    refine r_ifZ_eq 92 dX10_tell_31 (by decide) (fun c11 => ?_) (fun c11 => ?_)
    · have h := zK_neg h c11
      refine r_iinc (nI 1) (fun x12 => [some (.ref 73), some (.int v1), some (.int v2), some (.int x12)]) dX10_tell_92 rfl (by decide) (by decide) rfl (fun _ => rfl) (fun x12 ex12 => ?_)
      have h := zK_bd h ex12
      refine r_goto 14 dX10_tell_95 (by decide) ?_
      exact k14 ((v2, x12, M10)) (zK_some h)
    · have h := zK_pos h c11
      refine r_iload_n dX10_tell_34 rfl ?_
      refine r_iconst (v := (-1 : Int32)) dX10_tell_35 (by decide) ?_
      refine r_icmp_eq 90 dX10_tell_36 (by decide) (fun c13 => ?_) (fun c13 => ?_)
      · have h := zK_pos h c13
        refine zz_mask [2] ?_
        exact w_X10_tell_90 (v1) (v3) M10 ht h k14 kR
      · have h := zK_neg h c13
        refine r_aload_n dX10_tell_39 rfl ?_
        refine r_aload_n dX10_tell_40 rfl ?_
        refine r_aload_n dX10_tell_41 rfl ?_
        refine r_getR (k := 73) (q := 74) dX10_tell_42 zf_X10_7 (zo_X10 (zs_X10 ht)) (zr_X10_0 (zs_X10 ht)).1 (zr_X10_0 (zs_X10 ht)).2.1 (zr_X10_0 (zs_X10 ht)).2.2 ?_
        refine r_bipush (v := (nI 40)) dX10_tell_45 (by decide) ?_
        refine r_iload_n dX10_tell_47 rfl ?_
        refine r_iadd dX10_tell_48 ?_
        obtain ⟨g14, h⟩ := zK_gd h
        refine r_iald dX10_tell_49 (za_X10_0 (zs_X10 ht)) g14 ?_
        refine kV_iw (as := [.int (M10.1 74 (((nI 40) + v2)).toNatClampNeg)]) (st := [.ref 73]) (k := 73) dX10_tell_50 zM_X10_rankOf zk_X10_277 (zo_X10 (zs_X10 ht)) (by decide) rfl ⟨Nat.le_of_ble_eq_true rfl, Nat.le_of_ble_eq_true rfl⟩ (Nat.le_of_ble_eq_true rfl) (zz_T0 rfl rfl) (fun Q' P' k h => c_X10_rankOf ((M10.1 74 (((nI 40) + v2)).toNatClampNeg)) M10 ht h (fun r p => k r.1 r.2 p)) h (fun r16 M17 h => ?_)
        have h := zK_pr h
        refine r_aload_n dX10_tell_53 rfl ?_
        refine r_getR (k := 73) (q := 74) dX10_tell_54 zf_X10_7 (zo_X10 (zs_X10 ht)) (zr_X10_0 (zs_X10 ht)).1 (zr_X10_0 (zs_X10 ht)).2.1 (zr_X10_0 (zs_X10 ht)).2.2 ?_
        refine r_bipush (v := (nI 40)) dX10_tell_57 (by decide) ?_
        refine r_iload_n dX10_tell_59 rfl ?_
        refine r_iadd dX10_tell_60 ?_
        refine r_iald dX10_tell_61 (za_X10_0 (zs_X10 ht)) g14 ?_
        refine r_aload_n dX10_tell_62 rfl ?_
        refine r_aload_n dX10_tell_63 rfl ?_
        refine r_getR (k := 73) (q := 74) dX10_tell_64 zf_X10_7 (zo_X10 (zs_X10 ht)) (zr_X10_0 (zs_X10 ht)).1 (zr_X10_0 (zs_X10 ht)).2.1 (zr_X10_0 (zs_X10 ht)).2.2 ?_
        refine r_bipush (v := (nI 40)) dX10_tell_67 (by decide) ?_
        refine r_iload_n dX10_tell_69 rfl ?_
        refine r_iadd dX10_tell_70 ?_
        obtain ⟨g18, h⟩ := zK_gd h
        refine r_iald dX10_tell_71 (za_X10_0 (zs_X10 ht)) g18 ?_
        refine kV_iw (as := [.int (M17.1 74 (((nI 40) + v3)).toNatClampNeg)]) (st := [.int (M17.1 74 (((nI 40) + v2)).toNatClampNeg), .int r16, .ref 73]) (k := 73) dX10_tell_72 zM_X10_rankOf zk_X10_277 (zo_X10 (zs_X10 ht)) (by decide) rfl ⟨Nat.le_of_ble_eq_true rfl, Nat.le_of_ble_eq_true rfl⟩ (Nat.le_of_ble_eq_true rfl) (zz_T0 rfl rfl) (fun Q' P' k h => c_X10_rankOf ((M17.1 74 (((nI 40) + v3)).toNatClampNeg)) M17 ht h (fun r p => k r.1 r.2 p)) h (fun r20 M21 h => ?_)
        have h := zK_pr h
        refine r_aload_n dX10_tell_75 rfl ?_
        refine r_getR (k := 73) (q := 74) dX10_tell_76 zf_X10_7 (zo_X10 (zs_X10 ht)) (zr_X10_0 (zs_X10 ht)).1 (zr_X10_0 (zs_X10 ht)).2.1 (zr_X10_0 (zs_X10 ht)).2.2 ?_
        refine r_bipush (v := (nI 40)) dX10_tell_79 (by decide) ?_
        refine r_iload_n dX10_tell_81 rfl ?_
        refine r_iadd dX10_tell_82 ?_
        refine r_iald dX10_tell_83 (za_X10_0 (zs_X10 ht)) g18 ?_
        refine tV_zr (v := f_X10_isBehind r16 (M17.1 74 (((nI 40) + v2)).toNatClampNeg) r20 (M21.1 74 (((nI 40) + v3)).toNatClampNeg)) (as := [.int r16, .int (M17.1 74 (((nI 40) + v2)).toNatClampNeg), .int r20, .int (M21.1 74 (((nI 40) + v3)).toNatClampNeg)]) (st := []) (k := 73) dX10_tell_84 zM_X10_isBehind zk_X10_280 (zo_X10 (zs_X10 ht)) (by decide) rfl ⟨Nat.le_of_ble_eq_true rfl, Nat.le_of_ble_eq_true rfl⟩ (Nat.le_of_ble_eq_true rfl) (zz_T0 rfl rfl) (fun Q' h => c_X10_isBehind (r16) ((M17.1 74 (((nI 40) + v2)).toNatClampNeg)) (r20) ((M21.1 74 (((nI 40) + v3)).toNatClampNeg)) M21 ht h) ?_
        refine r_ifZ_eq 92 dX10_tell_87 (by decide) (fun c22 => ?_) (fun c22 => ?_)
        · have h := zK_neg h c22
          refine r_iinc (nI 1) (fun x23 => [some (.ref 73), some (.int v1), some (.int v2), some (.int x23)]) dX10_tell_92 rfl (by decide) (by decide) rfl (fun _ => rfl) (fun x23 ex23 => ?_)
          have h := zK_bd h ex23
          refine r_goto 14 dX10_tell_95 (by decide) ?_
          exact k14 ((v2, x23, M21)) (zK_some h)
        · have h := zK_pos h c22
          refine zz_mask [2] ?_
          exact w_X10_tell_90 (v1) (v3) M21 ht h k14 kR
noncomputable def j_X10_tell_14 (v1 : Int32) (v2 : Int32) (v3 : Int32) (M : zzMem) : Option (Int32 × zzMem) :=
  zlp (fun s : (Int32 × Int32 × zzMem) => b_X10_tell_14 v1 s.1 s.2.1 s.2.2) (v2, v3, M)
set_option maxHeartbeats 4000000 in
set_option maxRecDepth 100000 in
theorem w_X10_tell_14 {G : zzG} {t : Nat} {Q : Option Value → zzMem → Prop} (v1 : Int32) (v2 : Int32) (v3 : Int32) (M : zzMem) (ht : 180 ≤ t)  {P : (Int32 × zzMem) → Prop} (h : zK (j_X10_tell_14 v1 v2 v3 M) P) (kR : ∀ r : (Int32 × zzMem), P r → Q (some (.int r.1)) r.2) : zz_W G m_X10_tell t t t 14 [some (.ref 73), some (.int v1), some (.int v2), some (.int v3)] [] M Q := by
  unfold j_X10_tell_14 at h
  exact zK_lp h (fun s : (Int32 × Int32 × zzMem) => zz_W G m_X10_tell t t t 14 [some (.ref 73), some (.int v1), some (.int s.1), some (.int s.2.1)] [] s.2.2 Q) (fun s h => x_X10_tell_14 v1 s.1 s.2.1 s.2.2 ht h (fun s p => p) kR)
noncomputable def f_X10_tell (a1 : Int32) (M : zzMem) : Option (Int32 × zzMem) :=
  (f_X10_isOpen a1 M).bind (fun r1 =>
  if r1 = true then
  (j_X10_tell_14 a1 (-1 : Int32) (nI 0) M)
  else (some (((-1 : Int32), M))))
set_option maxHeartbeats 4000000 in
set_option maxRecDepth 100000 in
theorem w_X10_tell_0 {G : zzG} {t : Nat} {Q : Option Value → zzMem → Prop} (a1 : Int32) (M : zzMem) (ht : 180 ≤ t)  {P : (Int32 × zzMem) → Prop} (h : zK (f_X10_tell a1 M) P) (kR : ∀ r : (Int32 × zzMem), P r → Q (some (.int r.1)) r.2) : zz_W G m_X10_tell t t t 0 [some (.ref 73), some (.int a1), none, none] [] M Q := by
  unfold f_X10_tell at h
  refine r_aload_n dX10_tell_0 rfl ?_
  refine r_iload_n dX10_tell_1 rfl ?_
  refine kV_zr (as := [.int a1]) (st := []) (k := 73) dX10_tell_2 zM_X10_isOpen zk_X10_287 (zo_X10 (zs_X10 ht)) (by decide) rfl ⟨Nat.le_of_ble_eq_true rfl, Nat.le_of_ble_eq_true rfl⟩ (Nat.le_of_ble_eq_true rfl) (zz_T0 rfl rfl) (fun Q' P' k h => c_X10_isOpen (a1) M ht h k) h (fun r1 h => ?_)
  refine r_ifZ_ne 10 dX10_tell_5 (by decide) (fun c2 => ?_) (fun c2 => ?_)
  · have h := zK_pos h c2
    refine r_iconst (v := (-1 : Int32)) dX10_tell_10 (by decide) ?_
    refine s_istore_n ([some (.ref 73), some (.int a1), some (.int (-1 : Int32)), none]) dX10_tell_11 (by decide) rfl rfl ?_
    refine r_iconst (v := (nI 0)) dX10_tell_12 (by decide) ?_
    refine s_istore_n ([some (.ref 73), some (.int a1), some (.int (-1 : Int32)), some (.int (nI 0))]) dX10_tell_13 (by decide) rfl rfl ?_
    exact w_X10_tell_14 (a1) ((-1 : Int32)) ((nI 0)) M ht h kR
  · have h := zK_neg h c2
    refine r_iconst (v := (-1 : Int32)) dX10_tell_8 (by decide) ?_
    exact r_iret dX10_tell_9 rfl rfl rfl (kR (((-1 : Int32), M)) (zK_some h))
set_option maxHeartbeats 4000000 in
set_option maxRecDepth 100000 in
theorem c_X10_tell {G : zzG} {t : Nat} {Q : Option Value → zzMem → Prop} (a1 : Int32) (M : zzMem) (ht : 180 ≤ t)  {P : (Int32 × zzMem) → Prop} (h : zK (f_X10_tell a1 M) P) (kR : ∀ r : (Int32 × zzMem), P r → Q (some (.int r.1)) r.2) : zz_S G m_X10_tell t t [.ref 73, .int a1] M Q :=
  zz_S_of (by decide) (by decide) (Nat.le_of_ble_eq_true rfl) (w_X10_tell_0 a1 M ht h kR)
noncomputable def b_X10_scanIs_71 (v1 : Int32) (v3 : Int32) (v4 : Int32) (M : zzMem) : Option ((Int32 × Int32 × zzMem) ⊕ (Int32 × zzMem)) :=
  if (M.1 74 7) ≤ v4 then
  (some ((.inr (v3, M))))
  else ((f_X10_isToCome v1 v4 M).bind (fun q2 => zpr q2 (fun r3 M4 =>
  if r3 = true then
  (zbd ((v3 + (nI 1))) (fun x7 =>
  zbd (v4 + (nI 1)) (fun x8 =>
  some (.inl (x7, x8, M4)))))
  else (zbd (v4 + (nI 1)) (fun x6 =>
  some (.inl (v3, x6, M4)))))))
set_option maxHeartbeats 4000000 in
set_option maxRecDepth 100000 in
theorem x_X10_scanIs_71 {G : zzG} {t : Nat} {Q : Option Value → zzMem → Prop} (v1 : Int32) (v3 : Int32) (v4 : Int32) (M : zzMem) (ht : 180 ≤ t)  {P : ((Int32 × Int32 × zzMem) ⊕ (Int32 × zzMem)) → Prop} (h : zK (b_X10_scanIs_71 v1 v3 v4 M) P) (k71 : ∀ s : (Int32 × Int32 × zzMem), P (.inl s) → zz_W G m_X10_scanIs t t t 71 [some (.ref 73), some (.int v1), none, some (.int s.1), some (.int s.2.1)] [] s.2.2 Q) (kR : ∀ r : (Int32 × zzMem), P (.inr r) → Q (some (.int r.1)) r.2) : zz_W G m_X10_scanIs t t t 71 [some (.ref 73), some (.int v1), none, some (.int v3), some (.int v4)] [] M Q := by
  unfold b_X10_scanIs_71 at h
  refine r_iload dX10_scanIs_71 rfl ?_
  refine r_aload_n dX10_scanIs_73 rfl ?_
  refine r_getR (k := 73) (q := 74) dX10_scanIs_74 zf_X10_7 (zo_X10 (zs_X10 ht)) (zr_X10_0 (zs_X10 ht)).1 (zr_X10_0 (zs_X10 ht)).2.1 (zr_X10_0 (zs_X10 ht)).2.2 ?_
  refine r_bipush (v := (nI 7)) dX10_scanIs_77 (by decide) ?_
  refine r_ialdc (j := 7) dX10_scanIs_79 (za_X10_0 (zs_X10 ht)) rfl rfl ?_
  refine r_icmp_ge 103 dX10_scanIs_80 (by decide) (fun c1 => ?_) (fun c1 => ?_)
  · have h := zK_pos h c1
    refine r_iload_n dX10_scanIs_103 rfl ?_
    exact r_iret dX10_scanIs_104 rfl rfl rfl (kR ((v3, M)) (zK_some h))
  · have h := zK_neg h c1
    refine r_aload_n dX10_scanIs_83 rfl ?_
    refine r_iload_n dX10_scanIs_84 rfl ?_
    refine r_iload dX10_scanIs_85 rfl ?_
    refine kV_zw (as := [.int v1, .int v4]) (st := []) (k := 73) dX10_scanIs_87 zM_X10_isToCome zk_X10_290 (zo_X10 (zs_X10 ht)) (by decide) rfl ⟨Nat.le_of_ble_eq_true rfl, Nat.le_of_ble_eq_true rfl⟩ (Nat.le_of_ble_eq_true rfl) (zz_T0 rfl rfl) (fun Q' P' k h => c_X10_isToCome (v1) (v4) M ht h (fun r p => k r.1 r.2 p)) h (fun r3 M4 h => ?_)
    have h := zK_pr h
    refine r_ifZ_eq 97 dX10_scanIs_90 (by decide) (fun c5 => ?_) (fun c5 => ?_)
    · have h := zK_neg h c5
      refine r_iinc (nI 1) (fun x6 => [some (.ref 73), some (.int v1), none, some (.int v3), some (.int x6)]) dX10_scanIs_97 rfl (by decide) (by decide) rfl (fun _ => rfl) (fun x6 ex6 => ?_)
      have h := zK_bd h ex6
      refine r_goto 71 dX10_scanIs_100 (by decide) ?_
      exact k71 ((v3, x6, M4)) (zK_some h)
    · have h := zK_pos h c5
      refine r_iload_n dX10_scanIs_93 rfl ?_
      refine r_iconst (v := (nI 1)) dX10_scanIs_94 (by decide) ?_
      refine r_iadd dX10_scanIs_95 ?_
      refine r_istore_n (fun x7 => [some (.ref 73), some (.int v1), none, some (.int x7), some (.int v4)]) dX10_scanIs_96 (by decide) rfl (fun _ => rfl) (fun x7 ex7 => ?_)
      have h := zK_bd h ex7
      refine r_iinc (nI 1) (fun x8 => [some (.ref 73), some (.int v1), none, some (.int x7), some (.int x8)]) dX10_scanIs_97 rfl (by decide) (by decide) rfl (fun _ => rfl) (fun x8 ex8 => ?_)
      have h := zK_bd h ex8
      refine r_goto 71 dX10_scanIs_100 (by decide) ?_
      exact k71 ((x7, x8, M4)) (zK_some h)
noncomputable def j_X10_scanIs_71 (v1 : Int32) (v3 : Int32) (v4 : Int32) (M : zzMem) : Option (Int32 × zzMem) :=
  zlp (fun s : (Int32 × Int32 × zzMem) => b_X10_scanIs_71 v1 s.1 s.2.1 s.2.2) (v3, v4, M)
set_option maxHeartbeats 4000000 in
set_option maxRecDepth 100000 in
theorem w_X10_scanIs_71 {G : zzG} {t : Nat} {Q : Option Value → zzMem → Prop} (v1 : Int32) (v3 : Int32) (v4 : Int32) (M : zzMem) (ht : 180 ≤ t)  {P : (Int32 × zzMem) → Prop} (h : zK (j_X10_scanIs_71 v1 v3 v4 M) P) (kR : ∀ r : (Int32 × zzMem), P r → Q (some (.int r.1)) r.2) : zz_W G m_X10_scanIs t t t 71 [some (.ref 73), some (.int v1), none, some (.int v3), some (.int v4)] [] M Q := by
  unfold j_X10_scanIs_71 at h
  exact zK_lp h (fun s : (Int32 × Int32 × zzMem) => zz_W G m_X10_scanIs t t t 71 [some (.ref 73), some (.int v1), none, some (.int s.1), some (.int s.2.1)] [] s.2.2 Q) (fun s h => x_X10_scanIs_71 v1 s.1 s.2.1 s.2.2 ht h (fun s p => p) kR)
noncomputable def f_X10_scanIs (a1 : Int32) (a2 : Int32) (M : zzMem) : Option (Int32 × zzMem) :=
  (f_X10_isOpen a1 M).bind (fun r1 =>
  if r1 = true then
  (if (f_X10_in a2 (nI 0) (nI 2)) = true then
  (if a2 = 0 then
  (zgd (vp_in ((nI 19) + a1) 5676) (
  some (((M.1 74 (((nI 19) + a1)).toNatClampNeg), M))))
  else (if a2 = (nI 2) then
  (zgd (vp_in ((nI 15) + a1) 5676) (
  if (M.1 74 (((nI 15) + a1)).toNatClampNeg) = (-1 : Int32) then
  (some (((-2 : Int32), M)))
  else (some (((M.1 74 (((nI 15) + a1)).toNatClampNeg), M)))))
  else (j_X10_scanIs_71 a1 (nI 0) (nI 0) M)))
  else (some (((-1 : Int32), M))))
  else (some (((-1 : Int32), M))))
set_option maxHeartbeats 4000000 in
set_option maxRecDepth 100000 in
theorem w_X10_scanIs_0 {G : zzG} {t : Nat} {Q : Option Value → zzMem → Prop} (a1 : Int32) (a2 : Int32) (M : zzMem) (ht : 180 ≤ t)  {P : (Int32 × zzMem) → Prop} (h : zK (f_X10_scanIs a1 a2 M) P) (kR : ∀ r : (Int32 × zzMem), P r → Q (some (.int r.1)) r.2) : zz_W G m_X10_scanIs t t t 0 [some (.ref 73), some (.int a1), some (.int a2), none, none] [] M Q := by
  unfold f_X10_scanIs at h
  refine r_aload_n dX10_scanIs_0 rfl ?_
  refine r_iload_n dX10_scanIs_1 rfl ?_
  refine kV_zr (as := [.int a1]) (st := []) (k := 73) dX10_scanIs_2 zM_X10_isOpen zk_X10_287 (zo_X10 (zs_X10 ht)) (by decide) rfl ⟨Nat.le_of_ble_eq_true rfl, Nat.le_of_ble_eq_true rfl⟩ (Nat.le_of_ble_eq_true rfl) (zz_T0 rfl rfl) (fun Q' P' k h => c_X10_isOpen (a1) M ht h k) h (fun r1 h => ?_)
  refine r_ifZ_eq 17 dX10_scanIs_5 (by decide) (fun c2 => ?_) (fun c2 => ?_)
  · have h := zK_neg h c2
    refine r_iconst (v := (-1 : Int32)) dX10_scanIs_17 (by decide) ?_
    exact r_iret dX10_scanIs_18 rfl rfl rfl (kR (((-1 : Int32), M)) (zK_some h))
  · have h := zK_pos h c2
    refine r_iload_n dX10_scanIs_8 rfl ?_
    refine r_iconst (v := (nI 0)) dX10_scanIs_9 (by decide) ?_
    refine r_iconst (v := (nI 2)) dX10_scanIs_10 (by decide) ?_
    refine tS_zr (v := f_X10_in a2 (nI 0) (nI 2)) (as := [.int a2, .int (nI 0), .int (nI 2)]) (st := []) dX10_scanIs_11 zM_X10_in zk_X10_67 ⟨Nat.le_of_ble_eq_true rfl, Nat.le_of_ble_eq_true rfl⟩ (Nat.le_of_ble_eq_true rfl) (zz_T0 rfl rfl) (fun Q' h => c_X10_in (a2) ((nI 0)) ((nI 2)) M h) ?_
    refine r_ifZ_ne 19 dX10_scanIs_14 (by decide) (fun c3 => ?_) (fun c3 => ?_)
    · have h := zK_pos h c3
      refine r_iload_n dX10_scanIs_19 rfl ?_
      refine r_if_ne 33 dX10_scanIs_20 (by decide) (fun c4 => ?_) (fun c4 => ?_)
      · have h := zK_neg h c4
        refine r_iload_n dX10_scanIs_33 rfl ?_
        refine r_iconst (v := (nI 2)) dX10_scanIs_34 (by decide) ?_
        refine r_icmp_ne 66 dX10_scanIs_35 (by decide) (fun c5 => ?_) (fun c5 => ?_)
        · have h := zK_neg h c5
          refine r_iconst (v := (nI 0)) dX10_scanIs_66 (by decide) ?_
          refine s_istore_n ([some (.ref 73), some (.int a1), some (.int a2), some (.int (nI 0)), none]) dX10_scanIs_67 (by decide) rfl rfl ?_
          refine r_iconst (v := (nI 0)) dX10_scanIs_68 (by decide) ?_
          refine s_istore ([some (.ref 73), some (.int a1), some (.int a2), some (.int (nI 0)), some (.int (nI 0))]) dX10_scanIs_69 (by decide) rfl rfl ?_
          refine zz_mask [2] ?_
          exact w_X10_scanIs_71 (a1) ((nI 0)) ((nI 0)) M ht h kR
        · have h := zK_pos h c5
          refine r_aload_n dX10_scanIs_38 rfl ?_
          refine r_getR (k := 73) (q := 74) dX10_scanIs_39 zf_X10_7 (zo_X10 (zs_X10 ht)) (zr_X10_0 (zs_X10 ht)).1 (zr_X10_0 (zs_X10 ht)).2.1 (zr_X10_0 (zs_X10 ht)).2.2 ?_
          refine r_bipush (v := (nI 15)) dX10_scanIs_42 (by decide) ?_
          refine r_iload_n dX10_scanIs_44 rfl ?_
          refine r_iadd dX10_scanIs_45 ?_
          obtain ⟨g6, h⟩ := zK_gd h
          refine r_iald dX10_scanIs_46 (za_X10_0 (zs_X10 ht)) g6 ?_
          refine r_iconst (v := (-1 : Int32)) dX10_scanIs_47 (by decide) ?_
          refine r_icmp_ne 56 dX10_scanIs_48 (by decide) (fun c7 => ?_) (fun c7 => ?_)
          · have h := zK_neg h c7
            refine r_aload_n dX10_scanIs_56 rfl ?_
            refine r_getR (k := 73) (q := 74) dX10_scanIs_57 zf_X10_7 (zo_X10 (zs_X10 ht)) (zr_X10_0 (zs_X10 ht)).1 (zr_X10_0 (zs_X10 ht)).2.1 (zr_X10_0 (zs_X10 ht)).2.2 ?_
            refine r_bipush (v := (nI 15)) dX10_scanIs_60 (by decide) ?_
            refine r_iload_n dX10_scanIs_62 rfl ?_
            refine r_iadd dX10_scanIs_63 ?_
            refine r_iald dX10_scanIs_64 (za_X10_0 (zs_X10 ht)) g6 ?_
            exact r_iret dX10_scanIs_65 rfl rfl rfl (kR (((M.1 74 (((nI 15) + a1)).toNatClampNeg), M)) (zK_some h))
          · have h := zK_pos h c7
            refine r_bipush (v := (-2 : Int32)) dX10_scanIs_51 (by decide) ?_
            refine r_goto 65 dX10_scanIs_53 (by decide) ?_
            exact r_iret dX10_scanIs_65 rfl rfl rfl (kR (((-2 : Int32), M)) (zK_some h))
      · have h := zK_pos h c4
        refine r_aload_n dX10_scanIs_23 rfl ?_
        refine r_getR (k := 73) (q := 74) dX10_scanIs_24 zf_X10_7 (zo_X10 (zs_X10 ht)) (zr_X10_0 (zs_X10 ht)).1 (zr_X10_0 (zs_X10 ht)).2.1 (zr_X10_0 (zs_X10 ht)).2.2 ?_
        refine r_bipush (v := (nI 19)) dX10_scanIs_27 (by decide) ?_
        refine r_iload_n dX10_scanIs_29 rfl ?_
        refine r_iadd dX10_scanIs_30 ?_
        obtain ⟨g8, h⟩ := zK_gd h
        refine r_iald dX10_scanIs_31 (za_X10_0 (zs_X10 ht)) g8 ?_
        exact r_iret dX10_scanIs_32 rfl rfl rfl (kR (((M.1 74 (((nI 19) + a1)).toNatClampNeg), M)) (zK_some h))
    · have h := zK_neg h c3
      refine r_iconst (v := (-1 : Int32)) dX10_scanIs_17 (by decide) ?_
      exact r_iret dX10_scanIs_18 rfl rfl rfl (kR (((-1 : Int32), M)) (zK_some h))
set_option maxHeartbeats 4000000 in
set_option maxRecDepth 100000 in
theorem c_X10_scanIs {G : zzG} {t : Nat} {Q : Option Value → zzMem → Prop} (a1 : Int32) (a2 : Int32) (M : zzMem) (ht : 180 ≤ t)  {P : (Int32 × zzMem) → Prop} (h : zK (f_X10_scanIs a1 a2 M) P) (kR : ∀ r : (Int32 × zzMem), P r → Q (some (.int r.1)) r.2) : zz_S G m_X10_scanIs t t [.ref 73, .int a1, .int a2] M Q :=
  zz_S_of (by decide) (by decide) (Nat.le_of_ble_eq_true rfl) (w_X10_scanIs_0 a1 a2 M ht h kR)
noncomputable def b_X10_reach_65 (v2 : Int64) (v4 : Int32) (v5 : Int32) (M : zzMem) : Option ((Int32 × Int32) ⊕ (Int32 × zzMem)) :=
  if (nI 64) ≤ v5 then
  (some ((.inr (v4, M))))
  else (if (lg_cmp ((v2 >>> ((v5).toInt64 &&& 63)) &&& (1 : Int64)) (1 : Int64)) = 0 then
  (zbd ((v4 + (nI 1))) (fun x4 =>
  zbd (v5 + (nI 1)) (fun x5 =>
  some (.inl (x4, x5)))))
  else (zbd (v5 + (nI 1)) (fun x3 =>
  some (.inl (v4, x3)))))
set_option maxHeartbeats 4000000 in
set_option maxRecDepth 100000 in
theorem x_X10_reach_65 {G : zzG} {t : Nat} {Q : Option Value → zzMem → Prop} (v2 : Int64) (v4 : Int32) (v5 : Int32) (M : zzMem) (ht : 180 ≤ t)  {P : ((Int32 × Int32) ⊕ (Int32 × zzMem)) → Prop} (h : zK (b_X10_reach_65 v2 v4 v5 M) P) (k65 : ∀ s : (Int32 × Int32), P (.inl s) → zz_W G m_X10_reach t t t 65 [none, none, some (.long v2), none, some (.int s.1), some (.int s.2)] [] M Q) (kR : ∀ r : (Int32 × zzMem), P (.inr r) → Q (some (.int r.1)) r.2) : zz_W G m_X10_reach t t t 65 [none, none, some (.long v2), none, some (.int v4), some (.int v5)] [] M Q := by
  unfold b_X10_reach_65 at h
  refine r_iload dX10_reach_65 rfl ?_
  refine r_bipush (v := (nI 64)) dX10_reach_67 (by decide) ?_
  refine r_icmp_ge 95 dX10_reach_69 (by decide) (fun c1 => ?_) (fun c1 => ?_)
  · have h := zK_pos h c1
    refine r_iload dX10_reach_95 rfl ?_
    exact r_iret dX10_reach_97 rfl rfl rfl (kR ((v4, M)) (zK_some h))
  · have h := zK_neg h c1
    refine r_lload_n dX10_reach_72 rfl ?_
    refine r_iload dX10_reach_73 rfl ?_
    refine r_lshr dX10_reach_75 ?_
    refine r_lconst (v := (1 : Int64)) dX10_reach_76 (by decide) ?_
    refine r_land dX10_reach_77 ?_
    refine r_lconst (v := (1 : Int64)) dX10_reach_78 (by decide) ?_
    refine r_lcmp dX10_reach_79 ?_
    refine r_if_ne 89 dX10_reach_80 (by decide) (fun c2 => ?_) (fun c2 => ?_)
    · have h := zK_neg h c2
      refine r_iinc (nI 1) (fun x3 => [none, none, some (.long v2), none, some (.int v4), some (.int x3)]) dX10_reach_89 rfl (by decide) (by decide) rfl (fun _ => rfl) (fun x3 ex3 => ?_)
      have h := zK_bd h ex3
      refine r_goto 65 dX10_reach_92 (by decide) ?_
      exact k65 ((v4, x3)) (zK_some h)
    · have h := zK_pos h c2
      refine r_iload dX10_reach_83 rfl ?_
      refine r_iconst (v := (nI 1)) dX10_reach_85 (by decide) ?_
      refine r_iadd dX10_reach_86 ?_
      refine r_istore (fun x4 => [none, none, some (.long v2), none, some (.int x4), some (.int v5)]) dX10_reach_87 (by decide) rfl (fun _ => rfl) (fun x4 ex4 => ?_)
      have h := zK_bd h ex4
      refine r_iinc (nI 1) (fun x5 => [none, none, some (.long v2), none, some (.int x4), some (.int x5)]) dX10_reach_89 rfl (by decide) (by decide) rfl (fun _ => rfl) (fun x5 ex5 => ?_)
      have h := zK_bd h ex5
      refine r_goto 65 dX10_reach_92 (by decide) ?_
      exact k65 ((x4, x5)) (zK_some h)
noncomputable def j_X10_reach_65 (v2 : Int64) (v4 : Int32) (v5 : Int32) (M : zzMem) : Option (Int32 × zzMem) :=
  zlp (fun s : (Int32 × Int32) => b_X10_reach_65 v2 s.1 s.2 M) (v4, v5)
set_option maxHeartbeats 4000000 in
set_option maxRecDepth 100000 in
theorem w_X10_reach_65 {G : zzG} {t : Nat} {Q : Option Value → zzMem → Prop} (v2 : Int64) (v4 : Int32) (v5 : Int32) (M : zzMem) (ht : 180 ≤ t)  {P : (Int32 × zzMem) → Prop} (h : zK (j_X10_reach_65 v2 v4 v5 M) P) (kR : ∀ r : (Int32 × zzMem), P r → Q (some (.int r.1)) r.2) : zz_W G m_X10_reach t t t 65 [none, none, some (.long v2), none, some (.int v4), some (.int v5)] [] M Q := by
  unfold j_X10_reach_65 at h
  exact zK_lp h (fun s : (Int32 × Int32) => zz_W G m_X10_reach t t t 65 [none, none, some (.long v2), none, some (.int s.1), some (.int s.2)] [] M Q) (fun s h => x_X10_reach_65 v2 s.1 s.2 M ht h (fun s p => p) kR)
noncomputable def b_X10_reach_15 (v1 : Int32) (v2 : Int64) (v4 : Int32) (M : zzMem) : Option ((Int64 × Int32 × zzMem) ⊕ (Int32 × zzMem)) :=
  if (M.1 74 7) ≤ v4 then
  (zup (j_X10_reach_65 v2 (nI 0) (nI 0) M))
  else ((f_X10_isToCome v1 v4 M).bind (fun q2 => zpr q2 (fun r3 M4 =>
  if r3 = true then
  (zgd (vp_in ((nI 640) + v4) 5676) (
  zbd ((v2 ||| ((1 : Int64) <<< (((M4.1 74 (((nI 640) + v4)).toNatClampNeg)).toInt64 &&& 63)))) (fun x8 =>
  zbd (v4 + (nI 1)) (fun x9 =>
  some (.inl (x8, x9, M4))))))
  else (zbd (v4 + (nI 1)) (fun x6 =>
  some (.inl (v2, x6, M4)))))))
set_option maxHeartbeats 4000000 in
set_option maxRecDepth 100000 in
theorem x_X10_reach_15 {G : zzG} {t : Nat} {Q : Option Value → zzMem → Prop} (v1 : Int32) (v2 : Int64) (v4 : Int32) (M : zzMem) (ht : 180 ≤ t)  {P : ((Int64 × Int32 × zzMem) ⊕ (Int32 × zzMem)) → Prop} (h : zK (b_X10_reach_15 v1 v2 v4 M) P) (k15 : ∀ s : (Int64 × Int32 × zzMem), P (.inl s) → zz_W G m_X10_reach t t t 15 [some (.ref 73), some (.int v1), some (.long s.1), none, some (.int s.2.1), none] [] s.2.2 Q) (kR : ∀ r : (Int32 × zzMem), P (.inr r) → Q (some (.int r.1)) r.2) : zz_W G m_X10_reach t t t 15 [some (.ref 73), some (.int v1), some (.long v2), none, some (.int v4), none] [] M Q := by
  unfold b_X10_reach_15 at h
  refine r_iload dX10_reach_15 rfl ?_
  refine r_aload_n dX10_reach_17 rfl ?_
  refine r_getR (k := 73) (q := 74) dX10_reach_18 zf_X10_7 (zo_X10 (zs_X10 ht)) (zr_X10_0 (zs_X10 ht)).1 (zr_X10_0 (zs_X10 ht)).2.1 (zr_X10_0 (zs_X10 ht)).2.2 ?_
  refine r_bipush (v := (nI 7)) dX10_reach_21 (by decide) ?_
  refine r_ialdc (j := 7) dX10_reach_23 (za_X10_0 (zs_X10 ht)) rfl rfl ?_
  refine r_icmp_ge 59 dX10_reach_24 (by decide) (fun c1 => ?_) (fun c1 => ?_)
  · have h := zK_pos h c1
    refine r_iconst (v := (nI 0)) dX10_reach_59 (by decide) ?_
    refine s_istore ([some (.ref 73), some (.int v1), some (.long v2), none, some (.int (nI 0)), none]) dX10_reach_60 (by decide) rfl rfl ?_
    refine r_iconst (v := (nI 0)) dX10_reach_62 (by decide) ?_
    refine s_istore ([some (.ref 73), some (.int v1), some (.long v2), none, some (.int (nI 0)), some (.int (nI 0))]) dX10_reach_63 (by decide) rfl rfl ?_
    refine zz_mask [0, 1] ?_
    exact w_X10_reach_65 (v2) ((nI 0)) ((nI 0)) M ht (zK_up h) kR
  · have h := zK_neg h c1
    refine r_aload_n dX10_reach_27 rfl ?_
    refine r_iload_n dX10_reach_28 rfl ?_
    refine r_iload dX10_reach_29 rfl ?_
    refine kV_zw (as := [.int v1, .int v4]) (st := []) (k := 73) dX10_reach_31 zM_X10_isToCome zk_X10_290 (zo_X10 (zs_X10 ht)) (by decide) rfl ⟨Nat.le_of_ble_eq_true rfl, Nat.le_of_ble_eq_true rfl⟩ (Nat.le_of_ble_eq_true rfl) (zz_T0 rfl rfl) (fun Q' P' k h => c_X10_isToCome (v1) (v4) M ht h (fun r p => k r.1 r.2 p)) h (fun r3 M4 h => ?_)
    have h := zK_pr h
    refine r_ifZ_eq 53 dX10_reach_34 (by decide) (fun c5 => ?_) (fun c5 => ?_)
    · have h := zK_neg h c5
      refine r_iinc (nI 1) (fun x6 => [some (.ref 73), some (.int v1), some (.long v2), none, some (.int x6), none]) dX10_reach_53 rfl (by decide) (by decide) rfl (fun _ => rfl) (fun x6 ex6 => ?_)
      have h := zK_bd h ex6
      refine r_goto 15 dX10_reach_56 (by decide) ?_
      exact k15 ((v2, x6, M4)) (zK_some h)
    · have h := zK_pos h c5
      refine r_lload_n dX10_reach_37 rfl ?_
      refine r_lconst (v := (1 : Int64)) dX10_reach_38 (by decide) ?_
      refine r_aload_n dX10_reach_39 rfl ?_
      refine r_getR (k := 73) (q := 74) dX10_reach_40 zf_X10_7 (zo_X10 (zs_X10 ht)) (zr_X10_0 (zs_X10 ht)).1 (zr_X10_0 (zs_X10 ht)).2.1 (zr_X10_0 (zs_X10 ht)).2.2 ?_
      refine r_sipush (v := (nI 640)) dX10_reach_43 (by decide) ?_
      refine r_iload dX10_reach_46 rfl ?_
      refine r_iadd dX10_reach_48 ?_
      obtain ⟨g7, h⟩ := zK_gd h
      refine r_iald dX10_reach_49 (za_X10_0 (zs_X10 ht)) g7 ?_
      refine r_lshl dX10_reach_50 ?_
      refine r_lor dX10_reach_51 ?_
      refine r_lstore_n (fun x8 => [some (.ref 73), some (.int v1), some (.long x8), none, some (.int v4), none]) dX10_reach_52 (by decide) rfl (fun _ => rfl) (fun x8 ex8 => ?_)
      have h := zK_bd h ex8
      refine r_iinc (nI 1) (fun x9 => [some (.ref 73), some (.int v1), some (.long x8), none, some (.int x9), none]) dX10_reach_53 rfl (by decide) (by decide) rfl (fun _ => rfl) (fun x9 ex9 => ?_)
      have h := zK_bd h ex9
      refine r_goto 15 dX10_reach_56 (by decide) ?_
      exact k15 ((x8, x9, M4)) (zK_some h)
noncomputable def j_X10_reach_15 (v1 : Int32) (v2 : Int64) (v4 : Int32) (M : zzMem) : Option (Int32 × zzMem) :=
  zlp (fun s : (Int64 × Int32 × zzMem) => b_X10_reach_15 v1 s.1 s.2.1 s.2.2) (v2, v4, M)
set_option maxHeartbeats 4000000 in
set_option maxRecDepth 100000 in
theorem w_X10_reach_15 {G : zzG} {t : Nat} {Q : Option Value → zzMem → Prop} (v1 : Int32) (v2 : Int64) (v4 : Int32) (M : zzMem) (ht : 180 ≤ t)  {P : (Int32 × zzMem) → Prop} (h : zK (j_X10_reach_15 v1 v2 v4 M) P) (kR : ∀ r : (Int32 × zzMem), P r → Q (some (.int r.1)) r.2) : zz_W G m_X10_reach t t t 15 [some (.ref 73), some (.int v1), some (.long v2), none, some (.int v4), none] [] M Q := by
  unfold j_X10_reach_15 at h
  exact zK_lp h (fun s : (Int64 × Int32 × zzMem) => zz_W G m_X10_reach t t t 15 [some (.ref 73), some (.int v1), some (.long s.1), none, some (.int s.2.1), none] [] s.2.2 Q) (fun s h => x_X10_reach_15 v1 s.1 s.2.1 s.2.2 ht h (fun s p => p) kR)
noncomputable def f_X10_reach (a1 : Int32) (M : zzMem) : Option (Int32 × zzMem) :=
  (f_X10_isOpen a1 M).bind (fun r1 =>
  if r1 = true then
  (zbd ((0 : Int64)) (fun x3 =>
  j_X10_reach_15 a1 x3 (nI 0) M))
  else (some (((-1 : Int32), M))))
set_option maxHeartbeats 4000000 in
set_option maxRecDepth 100000 in
theorem w_X10_reach_0 {G : zzG} {t : Nat} {Q : Option Value → zzMem → Prop} (a1 : Int32) (M : zzMem) (ht : 180 ≤ t)  {P : (Int32 × zzMem) → Prop} (h : zK (f_X10_reach a1 M) P) (kR : ∀ r : (Int32 × zzMem), P r → Q (some (.int r.1)) r.2) : zz_W G m_X10_reach t t t 0 [some (.ref 73), some (.int a1), none, none, none, none] [] M Q := by
  unfold f_X10_reach at h
  refine r_aload_n dX10_reach_0 rfl ?_
  refine r_iload_n dX10_reach_1 rfl ?_
  refine kV_zr (as := [.int a1]) (st := []) (k := 73) dX10_reach_2 zM_X10_isOpen zk_X10_287 (zo_X10 (zs_X10 ht)) (by decide) rfl ⟨Nat.le_of_ble_eq_true rfl, Nat.le_of_ble_eq_true rfl⟩ (Nat.le_of_ble_eq_true rfl) (zz_T0 rfl rfl) (fun Q' P' k h => c_X10_isOpen (a1) M ht h k) h (fun r1 h => ?_)
  refine r_ifZ_ne 10 dX10_reach_5 (by decide) (fun c2 => ?_) (fun c2 => ?_)
  · have h := zK_pos h c2
    refine r_lconst (v := (0 : Int64)) dX10_reach_10 (by decide) ?_
    refine r_lstore_n (fun x3 => [some (.ref 73), some (.int a1), some (.long x3), none, none, none]) dX10_reach_11 (by decide) rfl (fun _ => rfl) (fun x3 ex3 => ?_)
    have h := zK_bd h ex3
    refine r_iconst (v := (nI 0)) dX10_reach_12 (by decide) ?_
    refine s_istore ([some (.ref 73), some (.int a1), some (.long x3), none, some (.int (nI 0)), none]) dX10_reach_13 (by decide) rfl rfl ?_
    exact w_X10_reach_15 (a1) (x3) ((nI 0)) M ht h kR
  · have h := zK_neg h c2
    refine r_iconst (v := (-1 : Int32)) dX10_reach_8 (by decide) ?_
    exact r_iret dX10_reach_9 rfl rfl rfl (kR (((-1 : Int32), M)) (zK_some h))
set_option maxHeartbeats 4000000 in
set_option maxRecDepth 100000 in
theorem c_X10_reach {G : zzG} {t : Nat} {Q : Option Value → zzMem → Prop} (a1 : Int32) (M : zzMem) (ht : 180 ≤ t)  {P : (Int32 × zzMem) → Prop} (h : zK (f_X10_reach a1 M) P) (kR : ∀ r : (Int32 × zzMem), P r → Q (some (.int r.1)) r.2) : zz_S G m_X10_reach t t [.ref 73, .int a1] M Q :=
  zz_S_of (by decide) (by decide) (Nat.le_of_ble_eq_true rfl) (w_X10_reach_0 a1 M ht h kR)
noncomputable def f_X10_ends (a1 : Int32) (M : zzMem) : Option (Int32 × zzMem) :=
  (f_X10_isOpen a1 M).bind (fun r1 =>
  if r1 = true then
  (zbd (zz_si M 74 14 ((M.1 74 14) &&& (((nI 1) <<< (a1 &&& 31)) ^^^ (-1 : Int32)))) (fun M3 =>
  zgd (vp_in ((nI 19) + a1) 5676) (
  some (((M3.1 74 (((nI 19) + a1)).toNatClampNeg), M3)))))
  else (some (((-1 : Int32), M))))
set_option maxHeartbeats 4000000 in
set_option maxRecDepth 100000 in
theorem w_X10_ends_0 {G : zzG} {t : Nat} {Q : Option Value → zzMem → Prop} (a1 : Int32) (M : zzMem) (ht : 180 ≤ t)  {P : (Int32 × zzMem) → Prop} (h : zK (f_X10_ends a1 M) P) (kR : ∀ r : (Int32 × zzMem), P r → Q (some (.int r.1)) r.2) : zz_W G m_X10_ends t t t 0 [some (.ref 73), some (.int a1)] [] M Q := by
  unfold f_X10_ends at h
  refine r_aload_n dX10_ends_0 rfl ?_
  refine r_iload_n dX10_ends_1 rfl ?_
  refine kV_zr (as := [.int a1]) (st := []) (k := 73) dX10_ends_2 zM_X10_isOpen zk_X10_287 (zo_X10 (zs_X10 ht)) (by decide) rfl ⟨Nat.le_of_ble_eq_true rfl, Nat.le_of_ble_eq_true rfl⟩ (Nat.le_of_ble_eq_true rfl) (zz_T0 rfl rfl) (fun Q' P' k h => c_X10_isOpen (a1) M ht h k) h (fun r1 h => ?_)
  refine r_ifZ_ne 10 dX10_ends_5 (by decide) (fun c2 => ?_) (fun c2 => ?_)
  · have h := zK_pos h c2
    refine r_aload_n dX10_ends_10 rfl ?_
    refine r_getR (k := 73) (q := 74) dX10_ends_11 zf_X10_7 (zo_X10 (zs_X10 ht)) (zr_X10_0 (zs_X10 ht)).1 (zr_X10_0 (zs_X10 ht)).2.1 (zr_X10_0 (zs_X10 ht)).2.2 ?_
    refine r_bipush (v := (nI 14)) dX10_ends_14 (by decide) ?_
    refine r_aload_n dX10_ends_16 rfl ?_
    refine r_getR (k := 73) (q := 74) dX10_ends_17 zf_X10_7 (zo_X10 (zs_X10 ht)) (zr_X10_0 (zs_X10 ht)).1 (zr_X10_0 (zs_X10 ht)).2.1 (zr_X10_0 (zs_X10 ht)).2.2 ?_
    refine r_bipush (v := (nI 14)) dX10_ends_20 (by decide) ?_
    refine r_ialdc (j := 14) dX10_ends_22 (za_X10_0 (zs_X10 ht)) rfl rfl ?_
    refine r_iconst (v := (nI 1)) dX10_ends_23 (by decide) ?_
    refine r_iload_n dX10_ends_24 rfl ?_
    refine r_ishl dX10_ends_25 ?_
    refine r_iconst (v := (-1 : Int32)) dX10_ends_26 (by decide) ?_
    refine r_ixor dX10_ends_27 ?_
    refine r_iand dX10_ends_28 ?_
    refine r_iastc (j := 14) dX10_ends_29 (za_X10_0 (zs_X10 ht)) rfl rfl (fun M3 eM3 => ?_)
    have h := zK_bd h eM3
    refine r_aload_n dX10_ends_30 rfl ?_
    refine r_getR (k := 73) (q := 74) dX10_ends_31 zf_X10_7 (zo_X10 (zs_X10 ht)) (zr_X10_0 (zs_X10 ht)).1 (zr_X10_0 (zs_X10 ht)).2.1 (zr_X10_0 (zs_X10 ht)).2.2 ?_
    refine r_bipush (v := (nI 19)) dX10_ends_34 (by decide) ?_
    refine r_iload_n dX10_ends_36 rfl ?_
    refine r_iadd dX10_ends_37 ?_
    obtain ⟨g4, h⟩ := zK_gd h
    refine r_iald dX10_ends_38 (za_X10_0 (zs_X10 ht)) g4 ?_
    exact r_iret dX10_ends_39 rfl rfl rfl (kR (((M3.1 74 (((nI 19) + a1)).toNatClampNeg), M3)) (zK_some h))
  · have h := zK_neg h c2
    refine r_iconst (v := (-1 : Int32)) dX10_ends_8 (by decide) ?_
    exact r_iret dX10_ends_9 rfl rfl rfl (kR (((-1 : Int32), M)) (zK_some h))
set_option maxHeartbeats 4000000 in
set_option maxRecDepth 100000 in
theorem c_X10_ends {G : zzG} {t : Nat} {Q : Option Value → zzMem → Prop} (a1 : Int32) (M : zzMem) (ht : 180 ≤ t)  {P : (Int32 × zzMem) → Prop} (h : zK (f_X10_ends a1 M) P) (kR : ∀ r : (Int32 × zzMem), P r → Q (some (.int r.1)) r.2) : zz_S G m_X10_ends t t [.ref 73, .int a1] M Q :=
  zz_S_of (by decide) (by decide) (Nat.le_of_ble_eq_true rfl) (w_X10_ends_0 a1 M ht h kR)
noncomputable def b_X10_pagesTaken_4 (v1 : Int32) (v2 : Int32) (M : zzMem) : Option ((Int32 × Int32) ⊕ Int32) :=
  if (nI 256) ≤ v2 then
  (some ((.inr v1)))
  else (zgd (vp_in ((nI 1240) + v2) 5676) (
  if (M.1 74 (((nI 1240) + v2)).toNatClampNeg) = (-1 : Int32) then
  (zbd (v2 + (nI 1)) (fun x4 =>
  some (.inl (v1, x4))))
  else (zbd ((v1 + (nI 1))) (fun x5 =>
  zbd (v2 + (nI 1)) (fun x6 =>
  some (.inl (x5, x6)))))))
set_option maxHeartbeats 4000000 in
set_option maxRecDepth 100000 in
theorem x_X10_pagesTaken_4 {G : zzG} {t : Nat} {Q : Option Value → zzMem → Prop} (v1 : Int32) (v2 : Int32) (M : zzMem) (ht : 180 ≤ t)  {P : ((Int32 × Int32) ⊕ Int32) → Prop} (h : zK (b_X10_pagesTaken_4 v1 v2 M) P) (k4 : ∀ s : (Int32 × Int32), P (.inl s) → zz_W G m_X10_pagesTaken t t t 4 [some (.ref 73), some (.int s.1), some (.int s.2)] [] M Q) (kR : ∀ r : Int32, P (.inr r) → Q (some (.int r)) M) : zz_W G m_X10_pagesTaken t t t 4 [some (.ref 73), some (.int v1), some (.int v2)] [] M Q := by
  unfold b_X10_pagesTaken_4 at h
  refine r_iload_n dX10_pagesTaken_4 rfl ?_
  refine r_sipush (v := (nI 256)) dX10_pagesTaken_5 (by decide) ?_
  refine r_icmp_ge 35 dX10_pagesTaken_8 (by decide) (fun c1 => ?_) (fun c1 => ?_)
  · have h := zK_pos h c1
    refine r_iload_n dX10_pagesTaken_35 rfl ?_
    exact r_iret dX10_pagesTaken_36 rfl rfl rfl (kR (v1) (zK_some h))
  · have h := zK_neg h c1
    refine r_aload_n dX10_pagesTaken_11 rfl ?_
    refine r_getR (k := 73) (q := 74) dX10_pagesTaken_12 zf_X10_7 (zo_X10 (zs_X10 ht)) (zr_X10_0 (zs_X10 ht)).1 (zr_X10_0 (zs_X10 ht)).2.1 (zr_X10_0 (zs_X10 ht)).2.2 ?_
    refine r_sipush (v := (nI 1240)) dX10_pagesTaken_15 (by decide) ?_
    refine r_iload_n dX10_pagesTaken_18 rfl ?_
    refine r_iadd dX10_pagesTaken_19 ?_
    obtain ⟨g2, h⟩ := zK_gd h
    refine r_iald dX10_pagesTaken_20 (za_X10_0 (zs_X10 ht)) g2 ?_
    refine r_iconst (v := (-1 : Int32)) dX10_pagesTaken_21 (by decide) ?_
    refine r_icmp_eq 29 dX10_pagesTaken_22 (by decide) (fun c3 => ?_) (fun c3 => ?_)
    · have h := zK_pos h c3
      refine r_iinc (nI 1) (fun x4 => [some (.ref 73), some (.int v1), some (.int x4)]) dX10_pagesTaken_29 rfl (by decide) (by decide) rfl (fun _ => rfl) (fun x4 ex4 => ?_)
      have h := zK_bd h ex4
      refine r_goto 4 dX10_pagesTaken_32 (by decide) ?_
      exact k4 ((v1, x4)) (zK_some h)
    · have h := zK_neg h c3
      refine r_iload_n dX10_pagesTaken_25 rfl ?_
      refine r_iconst (v := (nI 1)) dX10_pagesTaken_26 (by decide) ?_
      refine r_iadd dX10_pagesTaken_27 ?_
      refine r_istore_n (fun x5 => [some (.ref 73), some (.int x5), some (.int v2)]) dX10_pagesTaken_28 (by decide) rfl (fun _ => rfl) (fun x5 ex5 => ?_)
      have h := zK_bd h ex5
      refine r_iinc (nI 1) (fun x6 => [some (.ref 73), some (.int x5), some (.int x6)]) dX10_pagesTaken_29 rfl (by decide) (by decide) rfl (fun _ => rfl) (fun x6 ex6 => ?_)
      have h := zK_bd h ex6
      refine r_goto 4 dX10_pagesTaken_32 (by decide) ?_
      exact k4 ((x5, x6)) (zK_some h)
noncomputable def j_X10_pagesTaken_4 (v1 : Int32) (v2 : Int32) (M : zzMem) : Option Int32 :=
  zlp (fun s : (Int32 × Int32) => b_X10_pagesTaken_4 s.1 s.2 M) (v1, v2)
set_option maxHeartbeats 4000000 in
set_option maxRecDepth 100000 in
theorem w_X10_pagesTaken_4 {G : zzG} {t : Nat} {Q : Option Value → zzMem → Prop} (v1 : Int32) (v2 : Int32) (M : zzMem) (ht : 180 ≤ t)  {P : Int32 → Prop} (h : zK (j_X10_pagesTaken_4 v1 v2 M) P) (kR : ∀ r : Int32, P r → Q (some (.int r)) M) : zz_W G m_X10_pagesTaken t t t 4 [some (.ref 73), some (.int v1), some (.int v2)] [] M Q := by
  unfold j_X10_pagesTaken_4 at h
  exact zK_lp h (fun s : (Int32 × Int32) => zz_W G m_X10_pagesTaken t t t 4 [some (.ref 73), some (.int s.1), some (.int s.2)] [] M Q) (fun s h => x_X10_pagesTaken_4 s.1 s.2 M ht h (fun s p => p) kR)
noncomputable def f_X10_pagesTaken  (M : zzMem) : Option Int32 :=
  j_X10_pagesTaken_4 (nI 0) (nI 0) M
set_option maxHeartbeats 4000000 in
set_option maxRecDepth 100000 in
theorem w_X10_pagesTaken_0 {G : zzG} {t : Nat} {Q : Option Value → zzMem → Prop}  (M : zzMem) (ht : 180 ≤ t)  {P : Int32 → Prop} (h : zK (f_X10_pagesTaken  M) P) (kR : ∀ r : Int32, P r → Q (some (.int r)) M) : zz_W G m_X10_pagesTaken t t t 0 [some (.ref 73), none, none] [] M Q := by
  unfold f_X10_pagesTaken at h
  refine r_iconst (v := (nI 0)) dX10_pagesTaken_0 (by decide) ?_
  refine s_istore_n ([some (.ref 73), some (.int (nI 0)), none]) dX10_pagesTaken_1 (by decide) rfl rfl ?_
  refine r_iconst (v := (nI 0)) dX10_pagesTaken_2 (by decide) ?_
  refine s_istore_n ([some (.ref 73), some (.int (nI 0)), some (.int (nI 0))]) dX10_pagesTaken_3 (by decide) rfl rfl ?_
  exact w_X10_pagesTaken_4 ((nI 0)) ((nI 0)) M ht h kR
set_option maxHeartbeats 4000000 in
set_option maxRecDepth 100000 in
theorem c_X10_pagesTaken {G : zzG} {t : Nat} {Q : Option Value → zzMem → Prop}  (M : zzMem) (ht : 180 ≤ t)  {P : Int32 → Prop} (h : zK (f_X10_pagesTaken  M) P) (kR : ∀ r : Int32, P r → Q (some (.int r)) M) : zz_S G m_X10_pagesTaken t t [.ref 73] M Q :=
  zz_S_of (by decide) (by decide) (Nat.le_of_ble_eq_true rfl) (w_X10_pagesTaken_0  M ht h kR)
noncomputable def b_X10_longest_4 (v1 : Int32) (v2 : Int32) (M : zzMem) : Option ((Int32 × Int32) ⊕ Int32) :=
  (f_X10_buckets M).bind (fun r1 =>
  if r1 ≤ v2 then
  (some ((.inr v1)))
  else ((f_X10_chainOf v2 M).bind (fun r3 =>
  zbd ((f_X10_max v1 r3)) (fun x4 =>
  zbd (v2 + (nI 1)) (fun x5 =>
  some (.inl (x4, x5)))))))
set_option maxHeartbeats 4000000 in
set_option maxRecDepth 100000 in
theorem x_X10_longest_4 {G : zzG} {t : Nat} {Q : Option Value → zzMem → Prop} (v1 : Int32) (v2 : Int32) (M : zzMem) (ht : 180 ≤ t)  {P : ((Int32 × Int32) ⊕ Int32) → Prop} (h : zK (b_X10_longest_4 v1 v2 M) P) (k4 : ∀ s : (Int32 × Int32), P (.inl s) → zz_W G m_X10_longest t t t 4 [some (.ref 73), some (.int s.1), some (.int s.2)] [] M Q) (kR : ∀ r : Int32, P (.inr r) → Q (some (.int r)) M) : zz_W G m_X10_longest t t t 4 [some (.ref 73), some (.int v1), some (.int v2)] [] M Q := by
  unfold b_X10_longest_4 at h
  refine r_iload_n dX10_longest_4 rfl ?_
  refine r_aload_n dX10_longest_5 rfl ?_
  refine kV_ir (as := []) (st := [.int v2]) (k := 73) dX10_longest_6 zM_X10_buckets zk_X10_178 (zo_X10 (zs_X10 ht)) (by decide) rfl ⟨Nat.le_of_ble_eq_true rfl, Nat.le_of_ble_eq_true rfl⟩ (Nat.le_of_ble_eq_true rfl) (zz_T0 rfl rfl) (fun Q' P' k h => c_X10_buckets M ht h k) h (fun r1 h => ?_)
  refine r_icmp_ge 28 dX10_longest_9 (by decide) (fun c2 => ?_) (fun c2 => ?_)
  · have h := zK_pos h c2
    refine r_iload_n dX10_longest_28 rfl ?_
    exact r_iret dX10_longest_29 rfl rfl rfl (kR (v1) (zK_some h))
  · have h := zK_neg h c2
    refine r_iload_n dX10_longest_12 rfl ?_
    refine r_aload_n dX10_longest_13 rfl ?_
    refine r_iload_n dX10_longest_14 rfl ?_
    refine kV_ir (as := [.int v2]) (st := [.int v1]) (k := 73) dX10_longest_15 zM_X10_chainOf zk_X10_172 (zo_X10 (zs_X10 ht)) (by decide) rfl ⟨Nat.le_of_ble_eq_true rfl, Nat.le_of_ble_eq_true rfl⟩ (Nat.le_of_ble_eq_true rfl) (zz_T0 rfl rfl) (fun Q' P' k h => c_X10_chainOf (v2) M ht h k) h (fun r3 h => ?_)
    refine tS_ir (v := f_X10_max v1 r3) (as := [.int v1, .int r3]) (st := []) dX10_longest_18 zM_X10_max zk_X10_293 ⟨Nat.le_of_ble_eq_true rfl, Nat.le_of_ble_eq_true rfl⟩ (Nat.le_of_ble_eq_true rfl) (zz_T0 rfl rfl) (fun Q' h => c_X10_max (v1) (r3) M h) ?_
    refine r_istore_n (fun x4 => [some (.ref 73), some (.int x4), some (.int v2)]) dX10_longest_21 (by decide) rfl (fun _ => rfl) (fun x4 ex4 => ?_)
    have h := zK_bd h ex4
    refine r_iinc (nI 1) (fun x5 => [some (.ref 73), some (.int x4), some (.int x5)]) dX10_longest_22 rfl (by decide) (by decide) rfl (fun _ => rfl) (fun x5 ex5 => ?_)
    have h := zK_bd h ex5
    refine r_goto 4 dX10_longest_25 (by decide) ?_
    exact k4 ((x4, x5)) (zK_some h)
noncomputable def j_X10_longest_4 (v1 : Int32) (v2 : Int32) (M : zzMem) : Option Int32 :=
  zlp (fun s : (Int32 × Int32) => b_X10_longest_4 s.1 s.2 M) (v1, v2)
set_option maxHeartbeats 4000000 in
set_option maxRecDepth 100000 in
theorem w_X10_longest_4 {G : zzG} {t : Nat} {Q : Option Value → zzMem → Prop} (v1 : Int32) (v2 : Int32) (M : zzMem) (ht : 180 ≤ t)  {P : Int32 → Prop} (h : zK (j_X10_longest_4 v1 v2 M) P) (kR : ∀ r : Int32, P r → Q (some (.int r)) M) : zz_W G m_X10_longest t t t 4 [some (.ref 73), some (.int v1), some (.int v2)] [] M Q := by
  unfold j_X10_longest_4 at h
  exact zK_lp h (fun s : (Int32 × Int32) => zz_W G m_X10_longest t t t 4 [some (.ref 73), some (.int s.1), some (.int s.2)] [] M Q) (fun s h => x_X10_longest_4 s.1 s.2 M ht h (fun s p => p) kR)
noncomputable def f_X10_longest  (M : zzMem) : Option Int32 :=
  j_X10_longest_4 (nI 0) (nI 0) M
set_option maxHeartbeats 4000000 in
set_option maxRecDepth 100000 in
theorem w_X10_longest_0 {G : zzG} {t : Nat} {Q : Option Value → zzMem → Prop}  (M : zzMem) (ht : 180 ≤ t)  {P : Int32 → Prop} (h : zK (f_X10_longest  M) P) (kR : ∀ r : Int32, P r → Q (some (.int r)) M) : zz_W G m_X10_longest t t t 0 [some (.ref 73), none, none] [] M Q := by
  unfold f_X10_longest at h
  refine r_iconst (v := (nI 0)) dX10_longest_0 (by decide) ?_
  refine s_istore_n ([some (.ref 73), some (.int (nI 0)), none]) dX10_longest_1 (by decide) rfl rfl ?_
  refine r_iconst (v := (nI 0)) dX10_longest_2 (by decide) ?_
  refine s_istore_n ([some (.ref 73), some (.int (nI 0)), some (.int (nI 0))]) dX10_longest_3 (by decide) rfl rfl ?_
  exact w_X10_longest_4 ((nI 0)) ((nI 0)) M ht h kR
set_option maxHeartbeats 4000000 in
set_option maxRecDepth 100000 in
theorem c_X10_longest {G : zzG} {t : Nat} {Q : Option Value → zzMem → Prop}  (M : zzMem) (ht : 180 ≤ t)  {P : Int32 → Prop} (h : zK (f_X10_longest  M) P) (kR : ∀ r : Int32, P r → Q (some (.int r)) M) : zz_S G m_X10_longest t t [.ref 73] M Q :=
  zz_S_of (by decide) (by decide) (Nat.le_of_ble_eq_true rfl) (w_X10_longest_0  M ht h kR)
noncomputable def b_X10_emptyOnes_4 (v1 : Int32) (v2 : Int32) (M : zzMem) : Option ((Int32 × Int32) ⊕ Int32) :=
  (f_X10_buckets M).bind (fun r1 =>
  if r1 ≤ v2 then
  (some ((.inr v1)))
  else ((f_X10_keysIn v2 M).bind (fun r3 =>
  if r3 = 0 then
  (zbd ((v1 + (nI 1))) (fun x6 =>
  zbd (v2 + (nI 1)) (fun x7 =>
  some (.inl (x6, x7)))))
  else (zbd (v2 + (nI 1)) (fun x5 =>
  some (.inl (v1, x5)))))))
set_option maxHeartbeats 4000000 in
set_option maxRecDepth 100000 in
theorem x_X10_emptyOnes_4 {G : zzG} {t : Nat} {Q : Option Value → zzMem → Prop} (v1 : Int32) (v2 : Int32) (M : zzMem) (ht : 180 ≤ t)  {P : ((Int32 × Int32) ⊕ Int32) → Prop} (h : zK (b_X10_emptyOnes_4 v1 v2 M) P) (k4 : ∀ s : (Int32 × Int32), P (.inl s) → zz_W G m_X10_emptyOnes t t t 4 [some (.ref 73), some (.int s.1), some (.int s.2)] [] M Q) (kR : ∀ r : Int32, P (.inr r) → Q (some (.int r)) M) : zz_W G m_X10_emptyOnes t t t 4 [some (.ref 73), some (.int v1), some (.int v2)] [] M Q := by
  unfold b_X10_emptyOnes_4 at h
  refine r_iload_n dX10_emptyOnes_4 rfl ?_
  refine r_aload_n dX10_emptyOnes_5 rfl ?_
  refine kV_ir (as := []) (st := [.int v2]) (k := 73) dX10_emptyOnes_6 zM_X10_buckets zk_X10_178 (zo_X10 (zs_X10 ht)) (by decide) rfl ⟨Nat.le_of_ble_eq_true rfl, Nat.le_of_ble_eq_true rfl⟩ (Nat.le_of_ble_eq_true rfl) (zz_T0 rfl rfl) (fun Q' P' k h => c_X10_buckets M ht h k) h (fun r1 h => ?_)
  refine r_icmp_ge 30 dX10_emptyOnes_9 (by decide) (fun c2 => ?_) (fun c2 => ?_)
  · have h := zK_pos h c2
    refine r_iload_n dX10_emptyOnes_30 rfl ?_
    exact r_iret dX10_emptyOnes_31 rfl rfl rfl (kR (v1) (zK_some h))
  · have h := zK_neg h c2
    refine r_aload_n dX10_emptyOnes_12 rfl ?_
    refine r_iload_n dX10_emptyOnes_13 rfl ?_
    refine kV_ir (as := [.int v2]) (st := []) (k := 73) dX10_emptyOnes_14 zM_X10_keysIn zk_X10_202 (zo_X10 (zs_X10 ht)) (by decide) rfl ⟨Nat.le_of_ble_eq_true rfl, Nat.le_of_ble_eq_true rfl⟩ (Nat.le_of_ble_eq_true rfl) (zz_T0 rfl rfl) (fun Q' P' k h => c_X10_keysIn (v2) M ht h k) h (fun r3 h => ?_)
    refine r_if_ne 24 dX10_emptyOnes_17 (by decide) (fun c4 => ?_) (fun c4 => ?_)
    · have h := zK_neg h c4
      refine r_iinc (nI 1) (fun x5 => [some (.ref 73), some (.int v1), some (.int x5)]) dX10_emptyOnes_24 rfl (by decide) (by decide) rfl (fun _ => rfl) (fun x5 ex5 => ?_)
      have h := zK_bd h ex5
      refine r_goto 4 dX10_emptyOnes_27 (by decide) ?_
      exact k4 ((v1, x5)) (zK_some h)
    · have h := zK_pos h c4
      refine r_iload_n dX10_emptyOnes_20 rfl ?_
      refine r_iconst (v := (nI 1)) dX10_emptyOnes_21 (by decide) ?_
      refine r_iadd dX10_emptyOnes_22 ?_
      refine r_istore_n (fun x6 => [some (.ref 73), some (.int x6), some (.int v2)]) dX10_emptyOnes_23 (by decide) rfl (fun _ => rfl) (fun x6 ex6 => ?_)
      have h := zK_bd h ex6
      refine r_iinc (nI 1) (fun x7 => [some (.ref 73), some (.int x6), some (.int x7)]) dX10_emptyOnes_24 rfl (by decide) (by decide) rfl (fun _ => rfl) (fun x7 ex7 => ?_)
      have h := zK_bd h ex7
      refine r_goto 4 dX10_emptyOnes_27 (by decide) ?_
      exact k4 ((x6, x7)) (zK_some h)
noncomputable def j_X10_emptyOnes_4 (v1 : Int32) (v2 : Int32) (M : zzMem) : Option Int32 :=
  zlp (fun s : (Int32 × Int32) => b_X10_emptyOnes_4 s.1 s.2 M) (v1, v2)
set_option maxHeartbeats 4000000 in
set_option maxRecDepth 100000 in
theorem w_X10_emptyOnes_4 {G : zzG} {t : Nat} {Q : Option Value → zzMem → Prop} (v1 : Int32) (v2 : Int32) (M : zzMem) (ht : 180 ≤ t)  {P : Int32 → Prop} (h : zK (j_X10_emptyOnes_4 v1 v2 M) P) (kR : ∀ r : Int32, P r → Q (some (.int r)) M) : zz_W G m_X10_emptyOnes t t t 4 [some (.ref 73), some (.int v1), some (.int v2)] [] M Q := by
  unfold j_X10_emptyOnes_4 at h
  exact zK_lp h (fun s : (Int32 × Int32) => zz_W G m_X10_emptyOnes t t t 4 [some (.ref 73), some (.int s.1), some (.int s.2)] [] M Q) (fun s h => x_X10_emptyOnes_4 s.1 s.2 M ht h (fun s p => p) kR)
noncomputable def f_X10_emptyOnes  (M : zzMem) : Option Int32 :=
  j_X10_emptyOnes_4 (nI 0) (nI 0) M
set_option maxHeartbeats 4000000 in
set_option maxRecDepth 100000 in
theorem w_X10_emptyOnes_0 {G : zzG} {t : Nat} {Q : Option Value → zzMem → Prop}  (M : zzMem) (ht : 180 ≤ t)  {P : Int32 → Prop} (h : zK (f_X10_emptyOnes  M) P) (kR : ∀ r : Int32, P r → Q (some (.int r)) M) : zz_W G m_X10_emptyOnes t t t 0 [some (.ref 73), none, none] [] M Q := by
  unfold f_X10_emptyOnes at h
  refine r_iconst (v := (nI 0)) dX10_emptyOnes_0 (by decide) ?_
  refine s_istore_n ([some (.ref 73), some (.int (nI 0)), none]) dX10_emptyOnes_1 (by decide) rfl rfl ?_
  refine r_iconst (v := (nI 0)) dX10_emptyOnes_2 (by decide) ?_
  refine s_istore_n ([some (.ref 73), some (.int (nI 0)), some (.int (nI 0))]) dX10_emptyOnes_3 (by decide) rfl rfl ?_
  exact w_X10_emptyOnes_4 ((nI 0)) ((nI 0)) M ht h kR
set_option maxHeartbeats 4000000 in
set_option maxRecDepth 100000 in
theorem c_X10_emptyOnes {G : zzG} {t : Nat} {Q : Option Value → zzMem → Prop}  (M : zzMem) (ht : 180 ≤ t)  {P : Int32 → Prop} (h : zK (f_X10_emptyOnes  M) P) (kR : ∀ r : Int32, P r → Q (some (.int r)) M) : zz_S G m_X10_emptyOnes t t [.ref 73] M Q :=
  zz_S_of (by decide) (by decide) (Nat.le_of_ble_eq_true rfl) (w_X10_emptyOnes_0  M ht h kR)
noncomputable def f_X10_fileIs (a1 : Int32) (M : zzMem) : Option Int32 :=
  if a1 = (nI 0) then
  (zgd (vp_in a1 5676) (
  some ((M.1 74 (a1).toNatClampNeg))))
  else if a1 = (nI 1) then
  (zgd (vp_in a1 5676) (
  some ((M.1 74 (a1).toNatClampNeg))))
  else if a1 = (nI 2) then
  (zgd (vp_in a1 5676) (
  some ((M.1 74 (a1).toNatClampNeg))))
  else if a1 = (nI 3) then
  (zgd (vp_in a1 5676) (
  some ((M.1 74 (a1).toNatClampNeg))))
  else if a1 = (nI 4) then
  (zgd (vp_in a1 5676) (
  some ((M.1 74 (a1).toNatClampNeg))))
  else if a1 = (nI 5) then
  (zgd (vp_in a1 5676) (
  some ((M.1 74 (a1).toNatClampNeg))))
  else if a1 = (nI 6) then
  (zgd (vp_in a1 5676) (
  some ((M.1 74 (a1).toNatClampNeg))))
  else if a1 = (nI 7) then
  ((f_X10_buckets M).bind (fun r16 =>
  some r16))
  else if a1 = (nI 8) then
  (some ((M.1 74 7)))
  else if a1 = (nI 9) then
  ((f_X10_pagesTaken M).bind (fun r19 =>
  some r19))
  else if a1 = (nI 10) then
  ((f_X10_load M).bind (fun r21 =>
  some r21))
  else if a1 = (nI 11) then
  (some ((M.1 74 8)))
  else if a1 = (nI 12) then
  (some ((M.1 74 9)))
  else if a1 = (nI 13) then
  ((f_X10_longest M).bind (fun r25 =>
  some r25))
  else if a1 = (nI 14) then
  ((f_X10_emptyOnes M).bind (fun r27 =>
  some r27))
  else if a1 = (nI 15) then
  (some ((M.1 74 10)))
  else if a1 = (nI 16) then
  (some ((M.1 74 11)))
  else (some ((-1 : Int32)))
set_option maxHeartbeats 4000000 in
set_option maxRecDepth 100000 in
theorem w_X10_fileIs_0 {G : zzG} {t : Nat} {Q : Option Value → zzMem → Prop} (a1 : Int32) (M : zzMem) (ht : 180 ≤ t)  {P : Int32 → Prop} (h : zK (f_X10_fileIs a1 M) P) (kR : ∀ r : Int32, P r → Q (some (.int r)) M) : zz_W G m_X10_fileIs t t t 0 [some (.ref 73), some (.int a1)] [] M Q := by
  unfold f_X10_fileIs at h
  refine r_iload_n dX10_fileIs_0 rfl ?_
  by_cases c1 : a1 = (nI 0)
  · have h := zK_pos h c1
    refine r_tabIn (off := 83) 84 dX10_fileIs_1 (by rw [c1]; first | done | decide) (by rw [c1]; first | done | decide) (by rw [c1]; first | done | decide) (by decide) ?_
    refine r_aload_n dX10_fileIs_84 rfl ?_
    refine r_getR (k := 73) (q := 74) dX10_fileIs_85 zf_X10_7 (zo_X10 (zs_X10 ht)) (zr_X10_0 (zs_X10 ht)).1 (zr_X10_0 (zs_X10 ht)).2.1 (zr_X10_0 (zs_X10 ht)).2.2 ?_
    refine r_iload_n dX10_fileIs_88 rfl ?_
    obtain ⟨g2, h⟩ := zK_gd h
    refine r_iald dX10_fileIs_89 (za_X10_0 (zs_X10 ht)) g2 ?_
    exact r_iret dX10_fileIs_90 rfl rfl rfl (kR ((M.1 74 (a1).toNatClampNeg)) (zK_some h))
  · have h := zK_neg h c1
    by_cases c3 : a1 = (nI 1)
    · have h := zK_pos h c3
      refine r_tabIn (off := 83) 84 dX10_fileIs_1 (by rw [c3]; first | done | decide) (by rw [c3]; first | done | decide) (by rw [c3]; first | done | decide) (by decide) ?_
      refine r_aload_n dX10_fileIs_84 rfl ?_
      refine r_getR (k := 73) (q := 74) dX10_fileIs_85 zf_X10_7 (zo_X10 (zs_X10 ht)) (zr_X10_0 (zs_X10 ht)).1 (zr_X10_0 (zs_X10 ht)).2.1 (zr_X10_0 (zs_X10 ht)).2.2 ?_
      refine r_iload_n dX10_fileIs_88 rfl ?_
      obtain ⟨g4, h⟩ := zK_gd h
      refine r_iald dX10_fileIs_89 (za_X10_0 (zs_X10 ht)) g4 ?_
      exact r_iret dX10_fileIs_90 rfl rfl rfl (kR ((M.1 74 (a1).toNatClampNeg)) (zK_some h))
    · have h := zK_neg h c3
      by_cases c5 : a1 = (nI 2)
      · have h := zK_pos h c5
        refine r_tabIn (off := 83) 84 dX10_fileIs_1 (by rw [c5]; first | done | decide) (by rw [c5]; first | done | decide) (by rw [c5]; first | done | decide) (by decide) ?_
        refine r_aload_n dX10_fileIs_84 rfl ?_
        refine r_getR (k := 73) (q := 74) dX10_fileIs_85 zf_X10_7 (zo_X10 (zs_X10 ht)) (zr_X10_0 (zs_X10 ht)).1 (zr_X10_0 (zs_X10 ht)).2.1 (zr_X10_0 (zs_X10 ht)).2.2 ?_
        refine r_iload_n dX10_fileIs_88 rfl ?_
        obtain ⟨g6, h⟩ := zK_gd h
        refine r_iald dX10_fileIs_89 (za_X10_0 (zs_X10 ht)) g6 ?_
        exact r_iret dX10_fileIs_90 rfl rfl rfl (kR ((M.1 74 (a1).toNatClampNeg)) (zK_some h))
      · have h := zK_neg h c5
        by_cases c7 : a1 = (nI 3)
        · have h := zK_pos h c7
          refine r_tabIn (off := 83) 84 dX10_fileIs_1 (by rw [c7]; first | done | decide) (by rw [c7]; first | done | decide) (by rw [c7]; first | done | decide) (by decide) ?_
          refine r_aload_n dX10_fileIs_84 rfl ?_
          refine r_getR (k := 73) (q := 74) dX10_fileIs_85 zf_X10_7 (zo_X10 (zs_X10 ht)) (zr_X10_0 (zs_X10 ht)).1 (zr_X10_0 (zs_X10 ht)).2.1 (zr_X10_0 (zs_X10 ht)).2.2 ?_
          refine r_iload_n dX10_fileIs_88 rfl ?_
          obtain ⟨g8, h⟩ := zK_gd h
          refine r_iald dX10_fileIs_89 (za_X10_0 (zs_X10 ht)) g8 ?_
          exact r_iret dX10_fileIs_90 rfl rfl rfl (kR ((M.1 74 (a1).toNatClampNeg)) (zK_some h))
        · have h := zK_neg h c7
          by_cases c9 : a1 = (nI 4)
          · have h := zK_pos h c9
            refine r_tabIn (off := 83) 84 dX10_fileIs_1 (by rw [c9]; first | done | decide) (by rw [c9]; first | done | decide) (by rw [c9]; first | done | decide) (by decide) ?_
            refine r_aload_n dX10_fileIs_84 rfl ?_
            refine r_getR (k := 73) (q := 74) dX10_fileIs_85 zf_X10_7 (zo_X10 (zs_X10 ht)) (zr_X10_0 (zs_X10 ht)).1 (zr_X10_0 (zs_X10 ht)).2.1 (zr_X10_0 (zs_X10 ht)).2.2 ?_
            refine r_iload_n dX10_fileIs_88 rfl ?_
            obtain ⟨g10, h⟩ := zK_gd h
            refine r_iald dX10_fileIs_89 (za_X10_0 (zs_X10 ht)) g10 ?_
            exact r_iret dX10_fileIs_90 rfl rfl rfl (kR ((M.1 74 (a1).toNatClampNeg)) (zK_some h))
          · have h := zK_neg h c9
            by_cases c11 : a1 = (nI 5)
            · have h := zK_pos h c11
              refine r_tabIn (off := 83) 84 dX10_fileIs_1 (by rw [c11]; first | done | decide) (by rw [c11]; first | done | decide) (by rw [c11]; first | done | decide) (by decide) ?_
              refine r_aload_n dX10_fileIs_84 rfl ?_
              refine r_getR (k := 73) (q := 74) dX10_fileIs_85 zf_X10_7 (zo_X10 (zs_X10 ht)) (zr_X10_0 (zs_X10 ht)).1 (zr_X10_0 (zs_X10 ht)).2.1 (zr_X10_0 (zs_X10 ht)).2.2 ?_
              refine r_iload_n dX10_fileIs_88 rfl ?_
              obtain ⟨g12, h⟩ := zK_gd h
              refine r_iald dX10_fileIs_89 (za_X10_0 (zs_X10 ht)) g12 ?_
              exact r_iret dX10_fileIs_90 rfl rfl rfl (kR ((M.1 74 (a1).toNatClampNeg)) (zK_some h))
            · have h := zK_neg h c11
              by_cases c13 : a1 = (nI 6)
              · have h := zK_pos h c13
                refine r_tabIn (off := 83) 84 dX10_fileIs_1 (by rw [c13]; first | done | decide) (by rw [c13]; first | done | decide) (by rw [c13]; first | done | decide) (by decide) ?_
                refine r_aload_n dX10_fileIs_84 rfl ?_
                refine r_getR (k := 73) (q := 74) dX10_fileIs_85 zf_X10_7 (zo_X10 (zs_X10 ht)) (zr_X10_0 (zs_X10 ht)).1 (zr_X10_0 (zs_X10 ht)).2.1 (zr_X10_0 (zs_X10 ht)).2.2 ?_
                refine r_iload_n dX10_fileIs_88 rfl ?_
                obtain ⟨g14, h⟩ := zK_gd h
                refine r_iald dX10_fileIs_89 (za_X10_0 (zs_X10 ht)) g14 ?_
                exact r_iret dX10_fileIs_90 rfl rfl rfl (kR ((M.1 74 (a1).toNatClampNeg)) (zK_some h))
              · have h := zK_neg h c13
                by_cases c15 : a1 = (nI 7)
                · have h := zK_pos h c15
                  refine r_tabIn (off := 90) 91 dX10_fileIs_1 (by rw [c15]; first | done | decide) (by rw [c15]; first | done | decide) (by rw [c15]; first | done | decide) (by decide) ?_
                  refine r_aload_n dX10_fileIs_91 rfl ?_
                  refine kV_ir (as := []) (st := []) (k := 73) dX10_fileIs_92 zM_X10_buckets zk_X10_178 (zo_X10 (zs_X10 ht)) (by decide) rfl ⟨Nat.le_of_ble_eq_true rfl, Nat.le_of_ble_eq_true rfl⟩ (Nat.le_of_ble_eq_true rfl) (zz_T0 rfl rfl) (fun Q' P' k h => c_X10_buckets M ht h k) h (fun r16 h => ?_)
                  exact r_iret dX10_fileIs_95 rfl rfl rfl (kR (r16) (zK_some h))
                · have h := zK_neg h c15
                  by_cases c17 : a1 = (nI 8)
                  · have h := zK_pos h c17
                    refine r_tabIn (off := 95) 96 dX10_fileIs_1 (by rw [c17]; first | done | decide) (by rw [c17]; first | done | decide) (by rw [c17]; first | done | decide) (by decide) ?_
                    refine r_aload_n dX10_fileIs_96 rfl ?_
                    refine r_getR (k := 73) (q := 74) dX10_fileIs_97 zf_X10_7 (zo_X10 (zs_X10 ht)) (zr_X10_0 (zs_X10 ht)).1 (zr_X10_0 (zs_X10 ht)).2.1 (zr_X10_0 (zs_X10 ht)).2.2 ?_
                    refine r_bipush (v := (nI 7)) dX10_fileIs_100 (by decide) ?_
                    refine r_ialdc (j := 7) dX10_fileIs_102 (za_X10_0 (zs_X10 ht)) rfl rfl ?_
                    exact r_iret dX10_fileIs_103 rfl rfl rfl (kR ((M.1 74 7)) (zK_some h))
                  · have h := zK_neg h c17
                    by_cases c18 : a1 = (nI 9)
                    · have h := zK_pos h c18
                      refine r_tabIn (off := 103) 104 dX10_fileIs_1 (by rw [c18]; first | done | decide) (by rw [c18]; first | done | decide) (by rw [c18]; first | done | decide) (by decide) ?_
                      refine r_aload_n dX10_fileIs_104 rfl ?_
                      refine kV_ir (as := []) (st := []) (k := 73) dX10_fileIs_105 zM_X10_pagesTaken zk_X10_296 (zo_X10 (zs_X10 ht)) (by decide) rfl ⟨Nat.le_of_ble_eq_true rfl, Nat.le_of_ble_eq_true rfl⟩ (Nat.le_of_ble_eq_true rfl) (zz_T0 rfl rfl) (fun Q' P' k h => c_X10_pagesTaken M ht h k) h (fun r19 h => ?_)
                      exact r_iret dX10_fileIs_108 rfl rfl rfl (kR (r19) (zK_some h))
                    · have h := zK_neg h c18
                      by_cases c20 : a1 = (nI 10)
                      · have h := zK_pos h c20
                        refine r_tabIn (off := 108) 109 dX10_fileIs_1 (by rw [c20]; first | done | decide) (by rw [c20]; first | done | decide) (by rw [c20]; first | done | decide) (by decide) ?_
                        refine r_aload_n dX10_fileIs_109 rfl ?_
                        refine kV_ir (as := []) (st := []) (k := 73) dX10_fileIs_110 zM_X10_load zk_X10_223 (zo_X10 (zs_X10 ht)) (by decide) rfl ⟨Nat.le_of_ble_eq_true rfl, Nat.le_of_ble_eq_true rfl⟩ (Nat.le_of_ble_eq_true rfl) (zz_T0 rfl rfl) (fun Q' P' k h => c_X10_load M ht h k) h (fun r21 h => ?_)
                        exact r_iret dX10_fileIs_113 rfl rfl rfl (kR (r21) (zK_some h))
                      · have h := zK_neg h c20
                        by_cases c22 : a1 = (nI 11)
                        · have h := zK_pos h c22
                          refine r_tabIn (off := 113) 114 dX10_fileIs_1 (by rw [c22]; first | done | decide) (by rw [c22]; first | done | decide) (by rw [c22]; first | done | decide) (by decide) ?_
                          refine r_aload_n dX10_fileIs_114 rfl ?_
                          refine r_getR (k := 73) (q := 74) dX10_fileIs_115 zf_X10_7 (zo_X10 (zs_X10 ht)) (zr_X10_0 (zs_X10 ht)).1 (zr_X10_0 (zs_X10 ht)).2.1 (zr_X10_0 (zs_X10 ht)).2.2 ?_
                          refine r_bipush (v := (nI 8)) dX10_fileIs_118 (by decide) ?_
                          refine r_ialdc (j := 8) dX10_fileIs_120 (za_X10_0 (zs_X10 ht)) rfl rfl ?_
                          exact r_iret dX10_fileIs_121 rfl rfl rfl (kR ((M.1 74 8)) (zK_some h))
                        · have h := zK_neg h c22
                          by_cases c23 : a1 = (nI 12)
                          · have h := zK_pos h c23
                            refine r_tabIn (off := 121) 122 dX10_fileIs_1 (by rw [c23]; first | done | decide) (by rw [c23]; first | done | decide) (by rw [c23]; first | done | decide) (by decide) ?_
                            refine r_aload_n dX10_fileIs_122 rfl ?_
                            refine r_getR (k := 73) (q := 74) dX10_fileIs_123 zf_X10_7 (zo_X10 (zs_X10 ht)) (zr_X10_0 (zs_X10 ht)).1 (zr_X10_0 (zs_X10 ht)).2.1 (zr_X10_0 (zs_X10 ht)).2.2 ?_
                            refine r_bipush (v := (nI 9)) dX10_fileIs_126 (by decide) ?_
                            refine r_ialdc (j := 9) dX10_fileIs_128 (za_X10_0 (zs_X10 ht)) rfl rfl ?_
                            exact r_iret dX10_fileIs_129 rfl rfl rfl (kR ((M.1 74 9)) (zK_some h))
                          · have h := zK_neg h c23
                            by_cases c24 : a1 = (nI 13)
                            · have h := zK_pos h c24
                              refine r_tabIn (off := 129) 130 dX10_fileIs_1 (by rw [c24]; first | done | decide) (by rw [c24]; first | done | decide) (by rw [c24]; first | done | decide) (by decide) ?_
                              refine r_aload_n dX10_fileIs_130 rfl ?_
                              refine kV_ir (as := []) (st := []) (k := 73) dX10_fileIs_131 zM_X10_longest zk_X10_299 (zo_X10 (zs_X10 ht)) (by decide) rfl ⟨Nat.le_of_ble_eq_true rfl, Nat.le_of_ble_eq_true rfl⟩ (Nat.le_of_ble_eq_true rfl) (zz_T0 rfl rfl) (fun Q' P' k h => c_X10_longest M ht h k) h (fun r25 h => ?_)
                              exact r_iret dX10_fileIs_134 rfl rfl rfl (kR (r25) (zK_some h))
                            · have h := zK_neg h c24
                              by_cases c26 : a1 = (nI 14)
                              · have h := zK_pos h c26
                                refine r_tabIn (off := 134) 135 dX10_fileIs_1 (by rw [c26]; first | done | decide) (by rw [c26]; first | done | decide) (by rw [c26]; first | done | decide) (by decide) ?_
                                refine r_aload_n dX10_fileIs_135 rfl ?_
                                refine kV_ir (as := []) (st := []) (k := 73) dX10_fileIs_136 zM_X10_emptyOnes zk_X10_302 (zo_X10 (zs_X10 ht)) (by decide) rfl ⟨Nat.le_of_ble_eq_true rfl, Nat.le_of_ble_eq_true rfl⟩ (Nat.le_of_ble_eq_true rfl) (zz_T0 rfl rfl) (fun Q' P' k h => c_X10_emptyOnes M ht h k) h (fun r27 h => ?_)
                                exact r_iret dX10_fileIs_139 rfl rfl rfl (kR (r27) (zK_some h))
                              · have h := zK_neg h c26
                                by_cases c28 : a1 = (nI 15)
                                · have h := zK_pos h c28
                                  refine r_tabIn (off := 139) 140 dX10_fileIs_1 (by rw [c28]; first | done | decide) (by rw [c28]; first | done | decide) (by rw [c28]; first | done | decide) (by decide) ?_
                                  refine r_aload_n dX10_fileIs_140 rfl ?_
                                  refine r_getR (k := 73) (q := 74) dX10_fileIs_141 zf_X10_7 (zo_X10 (zs_X10 ht)) (zr_X10_0 (zs_X10 ht)).1 (zr_X10_0 (zs_X10 ht)).2.1 (zr_X10_0 (zs_X10 ht)).2.2 ?_
                                  refine r_bipush (v := (nI 10)) dX10_fileIs_144 (by decide) ?_
                                  refine r_ialdc (j := 10) dX10_fileIs_146 (za_X10_0 (zs_X10 ht)) rfl rfl ?_
                                  exact r_iret dX10_fileIs_147 rfl rfl rfl (kR ((M.1 74 10)) (zK_some h))
                                · have h := zK_neg h c28
                                  by_cases c29 : a1 = (nI 16)
                                  · have h := zK_pos h c29
                                    refine r_tabIn (off := 147) 148 dX10_fileIs_1 (by rw [c29]; first | done | decide) (by rw [c29]; first | done | decide) (by rw [c29]; first | done | decide) (by decide) ?_
                                    refine r_aload_n dX10_fileIs_148 rfl ?_
                                    refine r_getR (k := 73) (q := 74) dX10_fileIs_149 zf_X10_7 (zo_X10 (zs_X10 ht)) (zr_X10_0 (zs_X10 ht)).1 (zr_X10_0 (zs_X10 ht)).2.1 (zr_X10_0 (zs_X10 ht)).2.2 ?_
                                    refine r_bipush (v := (nI 11)) dX10_fileIs_152 (by decide) ?_
                                    refine r_ialdc (j := 11) dX10_fileIs_154 (za_X10_0 (zs_X10 ht)) rfl rfl ?_
                                    exact r_iret dX10_fileIs_155 rfl rfl rfl (kR ((M.1 74 11)) (zK_some h))
                                  · have h := zK_neg h c29
                                    have hD : zz_W G m_X10_fileIs t t t 156 [some (.ref 73), some (.int a1)] [] M Q := by
                                      refine r_iconst (v := (-1 : Int32)) dX10_fileIs_156 (by decide) ?_
                                      exact r_iret dX10_fileIs_157 rfl rfl rfl (kR ((-1 : Int32)) (zK_some h))
                                    refine r_tabOut 156 dX10_fileIs_1 (zz_tab_out (n := 17) (fun i hi => ?_) (by decide)) (by decide) hD
                                    exact match i, hi with
                                    | 0, _ => fun e => c1 (e.trans (by decide))
                                    | 1, _ => fun e => c3 (e.trans (by decide))
                                    | 2, _ => fun e => c5 (e.trans (by decide))
                                    | 3, _ => fun e => c7 (e.trans (by decide))
                                    | 4, _ => fun e => c9 (e.trans (by decide))
                                    | 5, _ => fun e => c11 (e.trans (by decide))
                                    | 6, _ => fun e => c13 (e.trans (by decide))
                                    | 7, _ => fun e => c15 (e.trans (by decide))
                                    | 8, _ => fun e => c17 (e.trans (by decide))
                                    | 9, _ => fun e => c18 (e.trans (by decide))
                                    | 10, _ => fun e => c20 (e.trans (by decide))
                                    | 11, _ => fun e => c22 (e.trans (by decide))
                                    | 12, _ => fun e => c23 (e.trans (by decide))
                                    | 13, _ => fun e => c24 (e.trans (by decide))
                                    | 14, _ => fun e => c26 (e.trans (by decide))
                                    | 15, _ => fun e => c28 (e.trans (by decide))
                                    | 16, _ => fun e => c29 (e.trans (by decide))
                                    | k + 17, hk => absurd hk (by omega)
set_option maxHeartbeats 4000000 in
set_option maxRecDepth 100000 in
theorem c_X10_fileIs {G : zzG} {t : Nat} {Q : Option Value → zzMem → Prop} (a1 : Int32) (M : zzMem) (ht : 180 ≤ t)  {P : Int32 → Prop} (h : zK (f_X10_fileIs a1 M) P) (kR : ∀ r : Int32, P r → Q (some (.int r)) M) : zz_S G m_X10_fileIs t t [.ref 73, .int a1] M Q :=
  zz_S_of (by decide) (by decide) (Nat.le_of_ble_eq_true rfl) (w_X10_fileIs_0 a1 M ht h kR)
noncomputable def b_X10_whereIn_7 (v1 : Int32) (v2 : Int32) (v3 : Int32) (M : zzMem) : Option (Int32 ⊕ (Int32 × zzMem)) :=
  if v2 < ((nI 2) * v3) then
  ((f_X10_hashOf v1 M).bind (fun q2 => zpr q2 (fun r3 M4 =>
  zgd (¬ v3 = 0) (
  if (v2 - v3) ≤ (zrm r3 v3) then
  (some ((.inr ((zrm r3 v3), M4))))
  else (zgd (¬ ((nI 2) * v3) = 0) (
  some ((.inr ((zrm r3 ((nI 2) * v3)), M4)))))))))
  else (zbd (((nI 2) * v3)) (fun x8 =>
  some (.inl x8)))
set_option maxHeartbeats 4000000 in
set_option maxRecDepth 100000 in
theorem x_X10_whereIn_7 {G : zzG} {t : Nat} {Q : Option Value → zzMem → Prop} (v1 : Int32) (v2 : Int32) (v3 : Int32) (M : zzMem) (ht : 180 ≤ t)  {P : (Int32 ⊕ (Int32 × zzMem)) → Prop} (h : zK (b_X10_whereIn_7 v1 v2 v3 M) P) (k7 : ∀ s : Int32, P (.inl s) → zz_W G m_X10_whereIn t t t 7 [some (.ref 73), some (.int v1), some (.int v2), some (.int s), none] [] M Q) (kR : ∀ r : (Int32 × zzMem), P (.inr r) → Q (some (.int r.1)) r.2) : zz_W G m_X10_whereIn t t t 7 [some (.ref 73), some (.int v1), some (.int v2), some (.int v3), none] [] M Q := by
  unfold b_X10_whereIn_7 at h
  refine r_iconst (v := (nI 2)) dX10_whereIn_7 (by decide) ?_
  refine r_iload_n dX10_whereIn_8 rfl ?_
  refine r_imul dX10_whereIn_9 ?_
  refine r_iload_n dX10_whereIn_10 rfl ?_
  refine r_icmp_gt 21 dX10_whereIn_11 (by decide) (fun c1 => ?_) (fun c1 => ?_)
  · have h := zK_pos h c1
    refine r_aload_n dX10_whereIn_21 rfl ?_
    refine r_iload_n dX10_whereIn_22 rfl ?_
    refine kV_iw (as := [.int v1]) (st := []) (k := 73) dX10_whereIn_23 zM_X10_hashOf zk_X10_184 (zo_X10 (zs_X10 ht)) (by decide) rfl ⟨Nat.le_of_ble_eq_true rfl, Nat.le_of_ble_eq_true rfl⟩ (Nat.le_of_ble_eq_true rfl) (zz_T0 rfl rfl) (fun Q' P' k h => c_X10_hashOf (v1) M ht h (fun r p => k r.1 r.2 p)) h (fun r3 M4 h => ?_)
    have h := zK_pr h
    refine s_istore ([some (.ref 73), some (.int v1), some (.int v2), some (.int v3), some (.int r3)]) dX10_whereIn_26 (by decide) rfl rfl ?_
    refine r_iload dX10_whereIn_28 rfl ?_
    refine r_iload_n dX10_whereIn_30 rfl ?_
    obtain ⟨g5, h⟩ := zK_gd h
    refine r_irem dX10_whereIn_31 g5 ?_
    refine r_iload_n dX10_whereIn_32 rfl ?_
    refine r_iload_n dX10_whereIn_33 rfl ?_
    refine r_isub dX10_whereIn_34 ?_
    refine r_icmp_ge 47 dX10_whereIn_35 (by decide) (fun c6 => ?_) (fun c6 => ?_)
    · have h := zK_pos h c6
      refine r_iload dX10_whereIn_47 rfl ?_
      refine r_iload_n dX10_whereIn_49 rfl ?_
      refine r_irem dX10_whereIn_50 g5 ?_
      exact r_iret dX10_whereIn_51 rfl rfl rfl (kR (((zrm r3 v3), M4)) (zK_some h))
    · have h := zK_neg h c6
      refine r_iload dX10_whereIn_38 rfl ?_
      refine r_iconst (v := (nI 2)) dX10_whereIn_40 (by decide) ?_
      refine r_iload_n dX10_whereIn_41 rfl ?_
      refine r_imul dX10_whereIn_42 ?_
      obtain ⟨g7, h⟩ := zK_gd h
      refine r_irem dX10_whereIn_43 g7 ?_
      refine r_goto 51 dX10_whereIn_44 (by decide) ?_
      exact r_iret dX10_whereIn_51 rfl rfl rfl (kR (((zrm r3 ((nI 2) * v3)), M4)) (zK_some h))
  · have h := zK_neg h c1
    refine r_iconst (v := (nI 2)) dX10_whereIn_14 (by decide) ?_
    refine r_iload_n dX10_whereIn_15 rfl ?_
    refine r_imul dX10_whereIn_16 ?_
    refine r_istore_n (fun x8 => [some (.ref 73), some (.int v1), some (.int v2), some (.int x8), none]) dX10_whereIn_17 (by decide) rfl (fun _ => rfl) (fun x8 ex8 => ?_)
    have h := zK_bd h ex8
    refine r_goto 7 dX10_whereIn_18 (by decide) ?_
    exact k7 (x8) (zK_some h)
noncomputable def j_X10_whereIn_7 (v1 : Int32) (v2 : Int32) (v3 : Int32) (M : zzMem) : Option (Int32 × zzMem) :=
  zlp (fun s : Int32 => b_X10_whereIn_7 v1 v2 s M) v3
set_option maxHeartbeats 4000000 in
set_option maxRecDepth 100000 in
theorem w_X10_whereIn_7 {G : zzG} {t : Nat} {Q : Option Value → zzMem → Prop} (v1 : Int32) (v2 : Int32) (v3 : Int32) (M : zzMem) (ht : 180 ≤ t)  {P : (Int32 × zzMem) → Prop} (h : zK (j_X10_whereIn_7 v1 v2 v3 M) P) (kR : ∀ r : (Int32 × zzMem), P r → Q (some (.int r.1)) r.2) : zz_W G m_X10_whereIn t t t 7 [some (.ref 73), some (.int v1), some (.int v2), some (.int v3), none] [] M Q := by
  unfold j_X10_whereIn_7 at h
  exact zK_lp h (fun s : Int32 => zz_W G m_X10_whereIn t t t 7 [some (.ref 73), some (.int v1), some (.int v2), some (.int s), none] [] M Q) (fun s h => x_X10_whereIn_7 v1 v2 s M ht h (fun s p => p) kR)
noncomputable def f_X10_whereIn (a1 : Int32) (a2 : Int32) (M : zzMem) : Option (Int32 × zzMem) :=
  zbd ((M.1 74 0)) (fun x1 =>
  j_X10_whereIn_7 a1 a2 x1 M)
set_option maxHeartbeats 4000000 in
set_option maxRecDepth 100000 in
theorem w_X10_whereIn_0 {G : zzG} {t : Nat} {Q : Option Value → zzMem → Prop} (a1 : Int32) (a2 : Int32) (M : zzMem) (ht : 180 ≤ t)  {P : (Int32 × zzMem) → Prop} (h : zK (f_X10_whereIn a1 a2 M) P) (kR : ∀ r : (Int32 × zzMem), P r → Q (some (.int r.1)) r.2) : zz_W G m_X10_whereIn t t t 0 [some (.ref 73), some (.int a1), some (.int a2), none, none] [] M Q := by
  unfold f_X10_whereIn at h
  refine r_aload_n dX10_whereIn_0 rfl ?_
  refine r_getR (k := 73) (q := 74) dX10_whereIn_1 zf_X10_7 (zo_X10 (zs_X10 ht)) (zr_X10_0 (zs_X10 ht)).1 (zr_X10_0 (zs_X10 ht)).2.1 (zr_X10_0 (zs_X10 ht)).2.2 ?_
  refine r_iconst (v := (nI 0)) dX10_whereIn_4 (by decide) ?_
  refine r_ialdc (j := 0) dX10_whereIn_5 (za_X10_0 (zs_X10 ht)) rfl rfl ?_
  refine r_istore_n (fun x1 => [some (.ref 73), some (.int a1), some (.int a2), some (.int x1), none]) dX10_whereIn_6 (by decide) rfl (fun _ => rfl) (fun x1 ex1 => ?_)
  have h := zK_bd h ex1
  exact w_X10_whereIn_7 (a1) (a2) (x1) M ht h kR
set_option maxHeartbeats 4000000 in
set_option maxRecDepth 100000 in
theorem c_X10_whereIn {G : zzG} {t : Nat} {Q : Option Value → zzMem → Prop} (a1 : Int32) (a2 : Int32) (M : zzMem) (ht : 180 ≤ t)  {P : (Int32 × zzMem) → Prop} (h : zK (f_X10_whereIn a1 a2 M) P) (kR : ∀ r : (Int32 × zzMem), P r → Q (some (.int r.1)) r.2) : zz_S G m_X10_whereIn t t [.ref 73, .int a1, .int a2] M Q :=
  zz_S_of (by decide) (by decide) (Nat.le_of_ble_eq_true rfl) (w_X10_whereIn_0 a1 a2 M ht h kR)
noncomputable def b_X10_moves_11 (v1 : Int32) (v2 : Int32) (v3 : Int32) (M : zzMem) : Option ((Int32 × Int32 × zzMem) ⊕ (Int32 × zzMem)) :=
  if (nI 64) < v3 then
  (some ((.inr (v2, M))))
  else ((f_X10_whereIn v1 v3 M).bind (fun q2 => zpr q2 (fun r3 M4 =>
  (f_X10_whereIn v1 (v3 - (nI 1)) M4).bind (fun q5 => zpr q5 (fun r6 M7 =>
  if r3 = r6 then
  (zbd (v3 + (nI 1)) (fun x9 =>
  some (.inl (v2, x9, M7))))
  else (zbd ((v2 + (nI 1))) (fun x10 =>
  zbd (v3 + (nI 1)) (fun x11 =>
  some (.inl (x10, x11, M7))))))))))
set_option maxHeartbeats 4000000 in
set_option maxRecDepth 100000 in
theorem x_X10_moves_11 {G : zzG} {t : Nat} {Q : Option Value → zzMem → Prop} (v1 : Int32) (v2 : Int32) (v3 : Int32) (M : zzMem) (ht : 180 ≤ t)  {P : ((Int32 × Int32 × zzMem) ⊕ (Int32 × zzMem)) → Prop} (h : zK (b_X10_moves_11 v1 v2 v3 M) P) (k11 : ∀ s : (Int32 × Int32 × zzMem), P (.inl s) → zz_W G m_X10_moves t t t 11 [some (.ref 73), some (.int v1), some (.int s.1), some (.int s.2.1)] [] s.2.2 Q) (kR : ∀ r : (Int32 × zzMem), P (.inr r) → Q (some (.int r.1)) r.2) : zz_W G m_X10_moves t t t 11 [some (.ref 73), some (.int v1), some (.int v2), some (.int v3)] [] M Q := by
  unfold b_X10_moves_11 at h
  refine r_iload_n dX10_moves_11 rfl ?_
  refine r_bipush (v := (nI 64)) dX10_moves_12 (by decide) ?_
  refine r_icmp_gt 44 dX10_moves_14 (by decide) (fun c1 => ?_) (fun c1 => ?_)
  · have h := zK_pos h c1
    refine r_iload_n dX10_moves_44 rfl ?_
    exact r_iret dX10_moves_45 rfl rfl rfl (kR ((v2, M)) (zK_some h))
  · have h := zK_neg h c1
    refine r_aload_n dX10_moves_17 rfl ?_
    refine r_iload_n dX10_moves_18 rfl ?_
    refine r_iload_n dX10_moves_19 rfl ?_
    refine kV_iw (as := [.int v1, .int v3]) (st := []) (k := 73) dX10_moves_20 zM_X10_whereIn zk_X10_305 (zo_X10 (zs_X10 ht)) (by decide) rfl ⟨Nat.le_of_ble_eq_true rfl, Nat.le_of_ble_eq_true rfl⟩ (Nat.le_of_ble_eq_true rfl) (zz_T0 rfl rfl) (fun Q' P' k h => c_X10_whereIn (v1) (v3) M ht h (fun r p => k r.1 r.2 p)) h (fun r3 M4 h => ?_)
    have h := zK_pr h
    refine r_aload_n dX10_moves_23 rfl ?_
    refine r_iload_n dX10_moves_24 rfl ?_
    refine r_iload_n dX10_moves_25 rfl ?_
    refine r_iconst (v := (nI 1)) dX10_moves_26 (by decide) ?_
    refine r_isub dX10_moves_27 ?_
    refine kV_iw (as := [.int v1, .int (v3 - (nI 1))]) (st := [.int r3]) (k := 73) dX10_moves_28 zM_X10_whereIn zk_X10_305 (zo_X10 (zs_X10 ht)) (by decide) rfl ⟨Nat.le_of_ble_eq_true rfl, Nat.le_of_ble_eq_true rfl⟩ (Nat.le_of_ble_eq_true rfl) (zz_T0 rfl rfl) (fun Q' P' k h => c_X10_whereIn (v1) ((v3 - (nI 1))) M4 ht h (fun r p => k r.1 r.2 p)) h (fun r6 M7 h => ?_)
    have h := zK_pr h
    refine r_icmp_eq 38 dX10_moves_31 (by decide) (fun c8 => ?_) (fun c8 => ?_)
    · have h := zK_pos h c8
      refine r_iinc (nI 1) (fun x9 => [some (.ref 73), some (.int v1), some (.int v2), some (.int x9)]) dX10_moves_38 rfl (by decide) (by decide) rfl (fun _ => rfl) (fun x9 ex9 => ?_)
      have h := zK_bd h ex9
      refine r_goto 11 dX10_moves_41 (by decide) ?_
      exact k11 ((v2, x9, M7)) (zK_some h)
    · have h := zK_neg h c8
      refine r_iload_n dX10_moves_34 rfl ?_
      refine r_iconst (v := (nI 1)) dX10_moves_35 (by decide) ?_
      refine r_iadd dX10_moves_36 ?_
      refine r_istore_n (fun x10 => [some (.ref 73), some (.int v1), some (.int x10), some (.int v3)]) dX10_moves_37 (by decide) rfl (fun _ => rfl) (fun x10 ex10 => ?_)
      have h := zK_bd h ex10
      refine r_iinc (nI 1) (fun x11 => [some (.ref 73), some (.int v1), some (.int x10), some (.int x11)]) dX10_moves_38 rfl (by decide) (by decide) rfl (fun _ => rfl) (fun x11 ex11 => ?_)
      have h := zK_bd h ex11
      refine r_goto 11 dX10_moves_41 (by decide) ?_
      exact k11 ((x10, x11, M7)) (zK_some h)
noncomputable def j_X10_moves_11 (v1 : Int32) (v2 : Int32) (v3 : Int32) (M : zzMem) : Option (Int32 × zzMem) :=
  zlp (fun s : (Int32 × Int32 × zzMem) => b_X10_moves_11 v1 s.1 s.2.1 s.2.2) (v2, v3, M)
set_option maxHeartbeats 4000000 in
set_option maxRecDepth 100000 in
theorem w_X10_moves_11 {G : zzG} {t : Nat} {Q : Option Value → zzMem → Prop} (v1 : Int32) (v2 : Int32) (v3 : Int32) (M : zzMem) (ht : 180 ≤ t)  {P : (Int32 × zzMem) → Prop} (h : zK (j_X10_moves_11 v1 v2 v3 M) P) (kR : ∀ r : (Int32 × zzMem), P r → Q (some (.int r.1)) r.2) : zz_W G m_X10_moves t t t 11 [some (.ref 73), some (.int v1), some (.int v2), some (.int v3)] [] M Q := by
  unfold j_X10_moves_11 at h
  exact zK_lp h (fun s : (Int32 × Int32 × zzMem) => zz_W G m_X10_moves t t t 11 [some (.ref 73), some (.int v1), some (.int s.1), some (.int s.2.1)] [] s.2.2 Q) (fun s h => x_X10_moves_11 v1 s.1 s.2.1 s.2.2 ht h (fun s p => p) kR)
noncomputable def f_X10_moves (a1 : Int32) (M : zzMem) : Option (Int32 × zzMem) :=
  zbd (((M.1 74 0) + (nI 1))) (fun x1 =>
  j_X10_moves_11 a1 (nI 0) x1 M)
set_option maxHeartbeats 4000000 in
set_option maxRecDepth 100000 in
theorem w_X10_moves_0 {G : zzG} {t : Nat} {Q : Option Value → zzMem → Prop} (a1 : Int32) (M : zzMem) (ht : 180 ≤ t)  {P : (Int32 × zzMem) → Prop} (h : zK (f_X10_moves a1 M) P) (kR : ∀ r : (Int32 × zzMem), P r → Q (some (.int r.1)) r.2) : zz_W G m_X10_moves t t t 0 [some (.ref 73), some (.int a1), none, none] [] M Q := by
  unfold f_X10_moves at h
  refine r_iconst (v := (nI 0)) dX10_moves_0 (by decide) ?_
  refine s_istore_n ([some (.ref 73), some (.int a1), some (.int (nI 0)), none]) dX10_moves_1 (by decide) rfl rfl ?_
  refine r_aload_n dX10_moves_2 rfl ?_
  refine r_getR (k := 73) (q := 74) dX10_moves_3 zf_X10_7 (zo_X10 (zs_X10 ht)) (zr_X10_0 (zs_X10 ht)).1 (zr_X10_0 (zs_X10 ht)).2.1 (zr_X10_0 (zs_X10 ht)).2.2 ?_
  refine r_iconst (v := (nI 0)) dX10_moves_6 (by decide) ?_
  refine r_ialdc (j := 0) dX10_moves_7 (za_X10_0 (zs_X10 ht)) rfl rfl ?_
  refine r_iconst (v := (nI 1)) dX10_moves_8 (by decide) ?_
  refine r_iadd dX10_moves_9 ?_
  refine r_istore_n (fun x1 => [some (.ref 73), some (.int a1), some (.int (nI 0)), some (.int x1)]) dX10_moves_10 (by decide) rfl (fun _ => rfl) (fun x1 ex1 => ?_)
  have h := zK_bd h ex1
  exact w_X10_moves_11 (a1) ((nI 0)) (x1) M ht h kR
set_option maxHeartbeats 4000000 in
set_option maxRecDepth 100000 in
theorem c_X10_moves {G : zzG} {t : Nat} {Q : Option Value → zzMem → Prop} (a1 : Int32) (M : zzMem) (ht : 180 ≤ t)  {P : (Int32 × zzMem) → Prop} (h : zK (f_X10_moves a1 M) P) (kR : ∀ r : (Int32 × zzMem), P r → Q (some (.int r.1)) r.2) : zz_S G m_X10_moves t t [.ref 73, .int a1] M Q :=
  zz_S_of (by decide) (by decide) (Nat.le_of_ble_eq_true rfl) (w_X10_moves_0 a1 M ht h kR)
noncomputable def f_X10_keyIs (a1 : Int32) (a2 : Int32) (M : zzMem) : Option (Int32 × zzMem) :=
  if (f_X10_isKey a1) = true then
  (if (f_X10_in a2 (nI 0) (nI 4)) = true then
  (if a2 = (nI 0) then
  ((f_X10_hashOf a1 M).bind (fun q4 => zpr q4 (fun r5 M6 =>
  some ((r5, M6)))))
  else if a2 = (nI 1) then
  ((f_X10_addressOf a1 M).bind (fun q8 => zpr q8 (fun r9 M10 =>
  some ((r9, M10)))))
  else if a2 = (nI 2) then
  ((f_X10_moves a1 M).bind (fun q12 => zpr q12 (fun r13 M14 =>
  some ((r13, M14)))))
  else if a2 = (nI 3) then
  ((f_X10_findReads a1 M).bind (fun q16 => zpr q16 (fun r17 M18 =>
  some ((r17, M18)))))
  else ((f_X10_buckets M).bind (fun r19 =>
  if r19 = (nI 64) then
  (some (((-3 : Int32), M)))
  else ((f_X10_buckets M).bind (fun r21 =>
  (f_X10_whereIn a1 (r21 + (nI 1)) M).bind (fun q22 => zpr q22 (fun r23 M24 =>
  some ((r23, M24)))))))))
  else (some (((-1 : Int32), M))))
  else (some (((-1 : Int32), M)))
set_option maxHeartbeats 4000000 in
set_option maxRecDepth 100000 in
theorem w_X10_keyIs_0 {G : zzG} {t : Nat} {Q : Option Value → zzMem → Prop} (a1 : Int32) (a2 : Int32) (M : zzMem) (ht : 180 ≤ t)  {P : (Int32 × zzMem) → Prop} (h : zK (f_X10_keyIs a1 a2 M) P) (kR : ∀ r : (Int32 × zzMem), P r → Q (some (.int r.1)) r.2) : zz_W G m_X10_keyIs t t t 0 [some (.ref 73), some (.int a1), some (.int a2)] [] M Q := by
  unfold f_X10_keyIs at h
  refine r_iload_n dX10_keyIs_0 rfl ?_
  refine tS_zr (v := f_X10_isKey a1) (as := [.int a1]) (st := []) dX10_keyIs_1 zM_X10_isKey zk_X10_226 ⟨Nat.le_of_ble_eq_true rfl, Nat.le_of_ble_eq_true rfl⟩ (Nat.le_of_ble_eq_true rfl) (zz_T0 rfl rfl) (fun Q' h => c_X10_isKey (a1) M h) ?_
  refine r_ifZ_eq 16 dX10_keyIs_4 (by decide) (fun c1 => ?_) (fun c1 => ?_)
  · have h := zK_neg h c1
    refine r_iconst (v := (-1 : Int32)) dX10_keyIs_16 (by decide) ?_
    exact r_iret dX10_keyIs_17 rfl rfl rfl (kR (((-1 : Int32), M)) (zK_some h))
  · have h := zK_pos h c1
    refine r_iload_n dX10_keyIs_7 rfl ?_
    refine r_iconst (v := (nI 0)) dX10_keyIs_8 (by decide) ?_
    refine r_iconst (v := (nI 4)) dX10_keyIs_9 (by decide) ?_
    refine tS_zr (v := f_X10_in a2 (nI 0) (nI 4)) (as := [.int a2, .int (nI 0), .int (nI 4)]) (st := []) dX10_keyIs_10 zM_X10_in zk_X10_67 ⟨Nat.le_of_ble_eq_true rfl, Nat.le_of_ble_eq_true rfl⟩ (Nat.le_of_ble_eq_true rfl) (zz_T0 rfl rfl) (fun Q' h => c_X10_in (a2) ((nI 0)) ((nI 4)) M h) ?_
    refine r_ifZ_ne 18 dX10_keyIs_13 (by decide) (fun c2 => ?_) (fun c2 => ?_)
    · have h := zK_pos h c2
      refine r_iload_n dX10_keyIs_18 rfl ?_
      by_cases c3 : a2 = (nI 0)
      · have h := zK_pos h c3
        refine r_tabIn (off := 29) 48 dX10_keyIs_19 (by rw [c3]; first | done | decide) (by rw [c3]; first | done | decide) (by rw [c3]; first | done | decide) (by decide) ?_
        refine r_aload_n dX10_keyIs_48 rfl ?_
        refine r_iload_n dX10_keyIs_49 rfl ?_
        refine kV_iw (as := [.int a1]) (st := []) (k := 73) dX10_keyIs_50 zM_X10_hashOf zk_X10_184 (zo_X10 (zs_X10 ht)) (by decide) rfl ⟨Nat.le_of_ble_eq_true rfl, Nat.le_of_ble_eq_true rfl⟩ (Nat.le_of_ble_eq_true rfl) (zz_T0 rfl rfl) (fun Q' P' k h => c_X10_hashOf (a1) M ht h (fun r p => k r.1 r.2 p)) h (fun r5 M6 h => ?_)
        have h := zK_pr h
        exact r_iret dX10_keyIs_53 rfl rfl rfl (kR ((r5, M6)) (zK_some h))
      · have h := zK_neg h c3
        by_cases c7 : a2 = (nI 1)
        · have h := zK_pos h c7
          refine r_tabIn (off := 35) 54 dX10_keyIs_19 (by rw [c7]; first | done | decide) (by rw [c7]; first | done | decide) (by rw [c7]; first | done | decide) (by decide) ?_
          refine r_aload_n dX10_keyIs_54 rfl ?_
          refine r_iload_n dX10_keyIs_55 rfl ?_
          refine kV_iw (as := [.int a1]) (st := []) (k := 73) dX10_keyIs_56 zM_X10_addressOf zk_X10_214 (zo_X10 (zs_X10 ht)) (by decide) rfl ⟨Nat.le_of_ble_eq_true rfl, Nat.le_of_ble_eq_true rfl⟩ (Nat.le_of_ble_eq_true rfl) (zz_T0 rfl rfl) (fun Q' P' k h => c_X10_addressOf (a1) M ht h (fun r p => k r.1 r.2 p)) h (fun r9 M10 h => ?_)
          have h := zK_pr h
          exact r_iret dX10_keyIs_59 rfl rfl rfl (kR ((r9, M10)) (zK_some h))
        · have h := zK_neg h c7
          by_cases c11 : a2 = (nI 2)
          · have h := zK_pos h c11
            refine r_tabIn (off := 41) 60 dX10_keyIs_19 (by rw [c11]; first | done | decide) (by rw [c11]; first | done | decide) (by rw [c11]; first | done | decide) (by decide) ?_
            refine r_aload_n dX10_keyIs_60 rfl ?_
            refine r_iload_n dX10_keyIs_61 rfl ?_
            refine kV_iw (as := [.int a1]) (st := []) (k := 73) dX10_keyIs_62 zM_X10_moves zk_X10_308 (zo_X10 (zs_X10 ht)) (by decide) rfl ⟨Nat.le_of_ble_eq_true rfl, Nat.le_of_ble_eq_true rfl⟩ (Nat.le_of_ble_eq_true rfl) (zz_T0 rfl rfl) (fun Q' P' k h => c_X10_moves (a1) M ht h (fun r p => k r.1 r.2 p)) h (fun r13 M14 h => ?_)
            have h := zK_pr h
            exact r_iret dX10_keyIs_65 rfl rfl rfl (kR ((r13, M14)) (zK_some h))
          · have h := zK_neg h c11
            by_cases c15 : a2 = (nI 3)
            · have h := zK_pos h c15
              refine r_tabIn (off := 47) 66 dX10_keyIs_19 (by rw [c15]; first | done | decide) (by rw [c15]; first | done | decide) (by rw [c15]; first | done | decide) (by decide) ?_
              refine r_aload_n dX10_keyIs_66 rfl ?_
              refine r_iload_n dX10_keyIs_67 rfl ?_
              refine kV_iw (as := [.int a1]) (st := []) (k := 73) dX10_keyIs_68 zM_X10_findReads zk_X10_220 (zo_X10 (zs_X10 ht)) (by decide) rfl ⟨Nat.le_of_ble_eq_true rfl, Nat.le_of_ble_eq_true rfl⟩ (Nat.le_of_ble_eq_true rfl) (zz_T0 rfl rfl) (fun Q' P' k h => c_X10_findReads (a1) M ht h (fun r p => k r.1 r.2 p)) h (fun r17 M18 h => ?_)
              have h := zK_pr h
              exact r_iret dX10_keyIs_71 rfl rfl rfl (kR ((r17, M18)) (zK_some h))
            · have h := zK_neg h c15
              have hD : zz_W G m_X10_keyIs t t t 72 [some (.ref 73), some (.int a1), some (.int a2)] [] M Q := by
                refine r_aload_n dX10_keyIs_72 rfl ?_
                refine kV_ir (as := []) (st := []) (k := 73) dX10_keyIs_73 zM_X10_buckets zk_X10_178 (zo_X10 (zs_X10 ht)) (by decide) rfl ⟨Nat.le_of_ble_eq_true rfl, Nat.le_of_ble_eq_true rfl⟩ (Nat.le_of_ble_eq_true rfl) (zz_T0 rfl rfl) (fun Q' P' k h => c_X10_buckets M ht h k) h (fun r19 h => ?_)
                refine r_bipush (v := (nI 64)) dX10_keyIs_76 (by decide) ?_
                refine r_icmp_ne 86 dX10_keyIs_78 (by decide) (fun c20 => ?_) (fun c20 => ?_)
                · have h := zK_neg h c20
                  refine r_aload_n dX10_keyIs_86 rfl ?_
                  refine r_iload_n dX10_keyIs_87 rfl ?_
                  refine r_aload_n dX10_keyIs_88 rfl ?_
                  refine kV_ir (as := []) (st := [.int a1, .ref 73]) (k := 73) dX10_keyIs_89 zM_X10_buckets zk_X10_178 (zo_X10 (zs_X10 ht)) (by decide) rfl ⟨Nat.le_of_ble_eq_true rfl, Nat.le_of_ble_eq_true rfl⟩ (Nat.le_of_ble_eq_true rfl) (zz_T0 rfl rfl) (fun Q' P' k h => c_X10_buckets M ht h k) h (fun r21 h => ?_)
                  refine r_iconst (v := (nI 1)) dX10_keyIs_92 (by decide) ?_
                  refine r_iadd dX10_keyIs_93 ?_
                  refine kV_iw (as := [.int a1, .int (r21 + (nI 1))]) (st := []) (k := 73) dX10_keyIs_94 zM_X10_whereIn zk_X10_305 (zo_X10 (zs_X10 ht)) (by decide) rfl ⟨Nat.le_of_ble_eq_true rfl, Nat.le_of_ble_eq_true rfl⟩ (Nat.le_of_ble_eq_true rfl) (zz_T0 rfl rfl) (fun Q' P' k h => c_X10_whereIn (a1) ((r21 + (nI 1))) M ht h (fun r p => k r.1 r.2 p)) h (fun r23 M24 h => ?_)
                  have h := zK_pr h
                  exact r_iret dX10_keyIs_97 rfl rfl rfl (kR ((r23, M24)) (zK_some h))
                · have h := zK_pos h c20
                  refine r_bipush (v := (-3 : Int32)) dX10_keyIs_81 (by decide) ?_
                  refine r_goto 97 dX10_keyIs_83 (by decide) ?_
                  exact r_iret dX10_keyIs_97 rfl rfl rfl (kR (((-3 : Int32), M)) (zK_some h))
              refine r_tabOut 72 dX10_keyIs_19 (zz_tab_out (n := 4) (fun i hi => ?_) (by decide)) (by decide) hD
              exact match i, hi with
              | 0, _ => fun e => c3 (e.trans (by decide))
              | 1, _ => fun e => c7 (e.trans (by decide))
              | 2, _ => fun e => c11 (e.trans (by decide))
              | 3, _ => fun e => c15 (e.trans (by decide))
              | k + 4, hk => absurd hk (by omega)
    · have h := zK_neg h c2
      refine r_iconst (v := (-1 : Int32)) dX10_keyIs_16 (by decide) ?_
      exact r_iret dX10_keyIs_17 rfl rfl rfl (kR (((-1 : Int32), M)) (zK_some h))
set_option maxHeartbeats 4000000 in
set_option maxRecDepth 100000 in
theorem c_X10_keyIs {G : zzG} {t : Nat} {Q : Option Value → zzMem → Prop} (a1 : Int32) (a2 : Int32) (M : zzMem) (ht : 180 ≤ t)  {P : (Int32 × zzMem) → Prop} (h : zK (f_X10_keyIs a1 a2 M) P) (kR : ∀ r : (Int32 × zzMem), P r → Q (some (.int r.1)) r.2) : zz_S G m_X10_keyIs t t [.ref 73, .int a1, .int a2] M Q :=
  zz_S_of (by decide) (by decide) (Nat.le_of_ble_eq_true rfl) (w_X10_keyIs_0 a1 a2 M ht h kR)
noncomputable def f_X10_isMany (a1 : Int32) (M : zzMem) : Option Bool :=
  some ((f_X10_in a1 (M.1 74 0) (nI 64)))
set_option maxHeartbeats 4000000 in
set_option maxRecDepth 100000 in
theorem w_X10_isMany_0 {G : zzG} {t : Nat} {Q : Option Value → zzMem → Prop} (a1 : Int32) (M : zzMem) (ht : 180 ≤ t)  {P : Bool → Prop} (h : zK (f_X10_isMany a1 M) P) (kR : ∀ r : Bool, P r → Q (some (.int (zb r))) M) : zz_W G m_X10_isMany t t t 0 [some (.ref 73), some (.int a1)] [] M Q := by
  unfold f_X10_isMany at h
  refine r_iload_n dX10_isMany_0 rfl ?_
  refine r_aload_n dX10_isMany_1 rfl ?_
  refine r_getR (k := 73) (q := 74) dX10_isMany_2 zf_X10_7 (zo_X10 (zs_X10 ht)) (zr_X10_0 (zs_X10 ht)).1 (zr_X10_0 (zs_X10 ht)).2.1 (zr_X10_0 (zs_X10 ht)).2.2 ?_
  refine r_iconst (v := (nI 0)) dX10_isMany_5 (by decide) ?_
  refine r_ialdc (j := 0) dX10_isMany_6 (za_X10_0 (zs_X10 ht)) rfl rfl ?_
  refine r_bipush (v := (nI 64)) dX10_isMany_7 (by decide) ?_
  refine tS_zr (v := f_X10_in a1 (M.1 74 0) (nI 64)) (as := [.int a1, .int (M.1 74 0), .int (nI 64)]) (st := []) dX10_isMany_9 zM_X10_in zk_X10_67 ⟨Nat.le_of_ble_eq_true rfl, Nat.le_of_ble_eq_true rfl⟩ (Nat.le_of_ble_eq_true rfl) (zz_T0 rfl rfl) (fun Q' h => c_X10_in (a1) ((M.1 74 0)) ((nI 64)) M h) ?_
  exact r_zret (b := (f_X10_in a1 (M.1 74 0) (nI 64))) dX10_isMany_12 rfl rfl rfl (kR ((f_X10_in a1 (M.1 74 0) (nI 64))) (zK_some h))
set_option maxHeartbeats 4000000 in
set_option maxRecDepth 100000 in
theorem c_X10_isMany {G : zzG} {t : Nat} {Q : Option Value → zzMem → Prop} (a1 : Int32) (M : zzMem) (ht : 180 ≤ t)  {P : Bool → Prop} (h : zK (f_X10_isMany a1 M) P) (kR : ∀ r : Bool, P r → Q (some (.int (zb r))) M) : zz_S G m_X10_isMany t t [.ref 73, .int a1] M Q :=
  zz_S_of (by decide) (by decide) (Nat.le_of_ble_eq_true rfl) (w_X10_isMany_0 a1 M ht h kR)
noncomputable def f_X10_where (a1 : Int32) (a2 : Int32) (M : zzMem) : Option (Int32 × zzMem) :=
  if (f_X10_isKey a1) = true then
  ((f_X10_isMany a2 M).bind (fun r2 =>
  if r2 = true then
  ((f_X10_whereIn a1 a2 M).bind (fun q4 => zpr q4 (fun r5 M6 =>
  some ((r5, M6)))))
  else (some (((-1 : Int32), M)))))
  else (some (((-1 : Int32), M)))
set_option maxHeartbeats 4000000 in
set_option maxRecDepth 100000 in
theorem w_X10_where_0 {G : zzG} {t : Nat} {Q : Option Value → zzMem → Prop} (a1 : Int32) (a2 : Int32) (M : zzMem) (ht : 180 ≤ t)  {P : (Int32 × zzMem) → Prop} (h : zK (f_X10_where a1 a2 M) P) (kR : ∀ r : (Int32 × zzMem), P r → Q (some (.int r.1)) r.2) : zz_W G m_X10_where t t t 0 [some (.ref 73), some (.int a1), some (.int a2)] [] M Q := by
  unfold f_X10_where at h
  refine r_iload_n dX10_where_0 rfl ?_
  refine tS_zr (v := f_X10_isKey a1) (as := [.int a1]) (st := []) dX10_where_1 zM_X10_isKey zk_X10_226 ⟨Nat.le_of_ble_eq_true rfl, Nat.le_of_ble_eq_true rfl⟩ (Nat.le_of_ble_eq_true rfl) (zz_T0 rfl rfl) (fun Q' h => c_X10_isKey (a1) M h) ?_
  refine r_ifZ_eq 24 dX10_where_4 (by decide) (fun c1 => ?_) (fun c1 => ?_)
  · have h := zK_neg h c1
    refine r_iconst (v := (-1 : Int32)) dX10_where_24 (by decide) ?_
    exact r_iret dX10_where_25 rfl rfl rfl (kR (((-1 : Int32), M)) (zK_some h))
  · have h := zK_pos h c1
    refine r_aload_n dX10_where_7 rfl ?_
    refine r_iload_n dX10_where_8 rfl ?_
    refine kV_zr (as := [.int a2]) (st := []) (k := 73) dX10_where_9 zM_X10_isMany zk_X10_311 (zo_X10 (zs_X10 ht)) (by decide) rfl ⟨Nat.le_of_ble_eq_true rfl, Nat.le_of_ble_eq_true rfl⟩ (Nat.le_of_ble_eq_true rfl) (zz_T0 rfl rfl) (fun Q' P' k h => c_X10_isMany (a2) M ht h k) h (fun r2 h => ?_)
    refine r_ifZ_eq 24 dX10_where_12 (by decide) (fun c3 => ?_) (fun c3 => ?_)
    · have h := zK_neg h c3
      refine r_iconst (v := (-1 : Int32)) dX10_where_24 (by decide) ?_
      exact r_iret dX10_where_25 rfl rfl rfl (kR (((-1 : Int32), M)) (zK_some h))
    · have h := zK_pos h c3
      refine r_aload_n dX10_where_15 rfl ?_
      refine r_iload_n dX10_where_16 rfl ?_
      refine r_iload_n dX10_where_17 rfl ?_
      refine kV_iw (as := [.int a1, .int a2]) (st := []) (k := 73) dX10_where_18 zM_X10_whereIn zk_X10_305 (zo_X10 (zs_X10 ht)) (by decide) rfl ⟨Nat.le_of_ble_eq_true rfl, Nat.le_of_ble_eq_true rfl⟩ (Nat.le_of_ble_eq_true rfl) (zz_T0 rfl rfl) (fun Q' P' k h => c_X10_whereIn (a1) (a2) M ht h (fun r p => k r.1 r.2 p)) h (fun r5 M6 h => ?_)
      have h := zK_pr h
      refine r_goto 25 dX10_where_21 (by decide) ?_
      exact r_iret dX10_where_25 rfl rfl rfl (kR ((r5, M6)) (zK_some h))
set_option maxHeartbeats 4000000 in
set_option maxRecDepth 100000 in
theorem c_X10_where {G : zzG} {t : Nat} {Q : Option Value → zzMem → Prop} (a1 : Int32) (a2 : Int32) (M : zzMem) (ht : 180 ≤ t)  {P : (Int32 × zzMem) → Prop} (h : zK (f_X10_where a1 a2 M) P) (kR : ∀ r : (Int32 × zzMem), P r → Q (some (.int r.1)) r.2) : zz_S G m_X10_where t t [.ref 73, .int a1, .int a2] M Q :=
  zz_S_of (by decide) (by decide) (Nat.le_of_ble_eq_true rfl) (w_X10_where_0 a1 a2 M ht h kR)
noncomputable def f_X10_bucket (a1 : Int32) (a2 : Int32) (M : zzMem) : Option Int32 :=
  (f_X10_buckets M).bind (fun r1 =>
  if (f_X10_in a1 (nI 0) (r1 - (nI 1))) = true then
  (if a2 < 0 then
  (some ((-1 : Int32)))
  else (if (f_X10_in a2 (nI 2) (nI 99)) = true then
  (some ((-1 : Int32)))
  else (if (nI 2) ≤ a2 then
  (if (nI 1000) ≤ a2 then
  ((f_X10_keysIn a1 M).bind (fun r7 =>
  if r7 ≤ (a2 - (nI 1000)) then
  (some ((-4 : Int32)))
  else ((f_X10_entryAt a1 (a2 - (nI 1000)) M).bind (fun r9 =>
  zgd (vp_in ((nI 40) + r9) 5676) (
  some ((M.1 74 (((nI 40) + r9)).toNatClampNeg)))))))
  else ((f_X10_chainOf a1 M).bind (fun r11 =>
  if r11 ≤ (a2 - (nI 100)) then
  (some ((-4 : Int32)))
  else ((f_X10_pageAt a1 (a2 - (nI 100)) M).bind (fun r13 =>
  some r13)))))
  else (if a2 = 0 then
  ((f_X10_keysIn a1 M).bind (fun r16 =>
  some r16))
  else ((f_X10_chainOf a1 M).bind (fun r15 =>
  some r15))))))
  else (some ((-1 : Int32))))
set_option maxHeartbeats 4000000 in
set_option maxRecDepth 100000 in
theorem w_X10_bucket_0 {G : zzG} {t : Nat} {Q : Option Value → zzMem → Prop} (a1 : Int32) (a2 : Int32) (M : zzMem) (ht : 180 ≤ t)  {P : Int32 → Prop} (h : zK (f_X10_bucket a1 a2 M) P) (kR : ∀ r : Int32, P r → Q (some (.int r)) M) : zz_W G m_X10_bucket t t t 0 [some (.ref 73), some (.int a1), some (.int a2)] [] M Q := by
  unfold f_X10_bucket at h
  refine r_iload_n dX10_bucket_0 rfl ?_
  refine r_iconst (v := (nI 0)) dX10_bucket_1 (by decide) ?_
  refine r_aload_n dX10_bucket_2 rfl ?_
  refine kV_ir (as := []) (st := [.int (nI 0), .int a1]) (k := 73) dX10_bucket_3 zM_X10_buckets zk_X10_178 (zo_X10 (zs_X10 ht)) (by decide) rfl ⟨Nat.le_of_ble_eq_true rfl, Nat.le_of_ble_eq_true rfl⟩ (Nat.le_of_ble_eq_true rfl) (zz_T0 rfl rfl) (fun Q' P' k h => c_X10_buckets M ht h k) h (fun r1 h => ?_)
  refine r_iconst (v := (nI 1)) dX10_bucket_6 (by decide) ?_
  refine r_isub dX10_bucket_7 ?_
  refine tS_zr (v := f_X10_in a1 (nI 0) (r1 - (nI 1))) (as := [.int a1, .int (nI 0), .int (r1 - (nI 1))]) (st := []) dX10_bucket_8 zM_X10_in zk_X10_67 ⟨Nat.le_of_ble_eq_true rfl, Nat.le_of_ble_eq_true rfl⟩ (Nat.le_of_ble_eq_true rfl) (zz_T0 rfl rfl) (fun Q' h => c_X10_in (a1) ((nI 0)) ((r1 - (nI 1))) M h) ?_
  refine r_ifZ_eq 28 dX10_bucket_11 (by decide) (fun c2 => ?_) (fun c2 => ?_)
  · have h := zK_neg h c2
    refine r_iconst (v := (-1 : Int32)) dX10_bucket_28 (by decide) ?_
    exact r_iret dX10_bucket_29 rfl rfl rfl (kR ((-1 : Int32)) (zK_some h))
  · have h := zK_pos h c2
    refine r_iload_n dX10_bucket_14 rfl ?_
    refine r_if_lt 28 dX10_bucket_15 (by decide) (fun c3 => ?_) (fun c3 => ?_)
    · have h := zK_pos h c3
      refine r_iconst (v := (-1 : Int32)) dX10_bucket_28 (by decide) ?_
      exact r_iret dX10_bucket_29 rfl rfl rfl (kR ((-1 : Int32)) (zK_some h))
    · have h := zK_neg h c3
      refine r_iload_n dX10_bucket_18 rfl ?_
      refine r_iconst (v := (nI 2)) dX10_bucket_19 (by decide) ?_
      refine r_bipush (v := (nI 99)) dX10_bucket_20 (by decide) ?_
      refine tS_zr (v := f_X10_in a2 (nI 2) (nI 99)) (as := [.int a2, .int (nI 2), .int (nI 99)]) (st := []) dX10_bucket_22 zM_X10_in zk_X10_67 ⟨Nat.le_of_ble_eq_true rfl, Nat.le_of_ble_eq_true rfl⟩ (Nat.le_of_ble_eq_true rfl) (zz_T0 rfl rfl) (fun Q' h => c_X10_in (a2) ((nI 2)) ((nI 99)) M h) ?_
      refine r_ifZ_eq 30 dX10_bucket_25 (by decide) (fun c4 => ?_) (fun c4 => ?_)
      · have h := zK_neg h c4
        refine r_iload_n dX10_bucket_30 rfl ?_
        refine r_iconst (v := (nI 2)) dX10_bucket_31 (by decide) ?_
        refine r_icmp_ge 53 dX10_bucket_32 (by decide) (fun c5 => ?_) (fun c5 => ?_)
        · have h := zK_pos h c5
          refine r_iload_n dX10_bucket_53 rfl ?_
          refine r_sipush (v := (nI 1000)) dX10_bucket_54 (by decide) ?_
          refine r_icmp_ge 87 dX10_bucket_57 (by decide) (fun c6 => ?_) (fun c6 => ?_)
          · have h := zK_pos h c6
            refine r_iload_n dX10_bucket_87 rfl ?_
            refine r_sipush (v := (nI 1000)) dX10_bucket_88 (by decide) ?_
            refine r_isub dX10_bucket_91 ?_
            refine r_aload_n dX10_bucket_92 rfl ?_
            refine r_iload_n dX10_bucket_93 rfl ?_
            refine kV_ir (as := [.int a1]) (st := [.int (a2 - (nI 1000))]) (k := 73) dX10_bucket_94 zM_X10_keysIn zk_X10_202 (zo_X10 (zs_X10 ht)) (by decide) rfl ⟨Nat.le_of_ble_eq_true rfl, Nat.le_of_ble_eq_true rfl⟩ (Nat.le_of_ble_eq_true rfl) (zz_T0 rfl rfl) (fun Q' P' k h => c_X10_keysIn (a1) M ht h k) h (fun r7 h => ?_)
            refine r_icmp_ge 121 dX10_bucket_97 (by decide) (fun c8 => ?_) (fun c8 => ?_)
            · have h := zK_pos h c8
              refine r_bipush (v := (-4 : Int32)) dX10_bucket_121 (by decide) ?_
              exact r_iret dX10_bucket_123 rfl rfl rfl (kR ((-4 : Int32)) (zK_some h))
            · have h := zK_neg h c8
              refine r_aload_n dX10_bucket_100 rfl ?_
              refine r_getR (k := 73) (q := 74) dX10_bucket_101 zf_X10_7 (zo_X10 (zs_X10 ht)) (zr_X10_0 (zs_X10 ht)).1 (zr_X10_0 (zs_X10 ht)).2.1 (zr_X10_0 (zs_X10 ht)).2.2 ?_
              refine r_bipush (v := (nI 40)) dX10_bucket_104 (by decide) ?_
              refine r_aload_n dX10_bucket_106 rfl ?_
              refine r_iload_n dX10_bucket_107 rfl ?_
              refine r_iload_n dX10_bucket_108 rfl ?_
              refine r_sipush (v := (nI 1000)) dX10_bucket_109 (by decide) ?_
              refine r_isub dX10_bucket_112 ?_
              refine kV_ir (as := [.int a1, .int (a2 - (nI 1000))]) (st := [.int (nI 40), .ref 74]) (k := 73) dX10_bucket_113 zM_X10_entryAt zk_X10_235 (zo_X10 (zs_X10 ht)) (by decide) rfl ⟨Nat.le_of_ble_eq_true rfl, Nat.le_of_ble_eq_true rfl⟩ (Nat.le_of_ble_eq_true rfl) (zz_T0 rfl rfl) (fun Q' P' k h => c_X10_entryAt (a1) ((a2 - (nI 1000))) M ht h k) h (fun r9 h => ?_)
              refine r_iadd dX10_bucket_116 ?_
              obtain ⟨g10, h⟩ := zK_gd h
              refine r_iald dX10_bucket_117 (za_X10_0 (zs_X10 ht)) g10 ?_
              refine r_goto 123 dX10_bucket_118 (by decide) ?_
              exact r_iret dX10_bucket_123 rfl rfl rfl (kR ((M.1 74 (((nI 40) + r9)).toNatClampNeg)) (zK_some h))
          · have h := zK_neg h c6
            refine r_iload_n dX10_bucket_60 rfl ?_
            refine r_bipush (v := (nI 100)) dX10_bucket_61 (by decide) ?_
            refine r_isub dX10_bucket_63 ?_
            refine r_aload_n dX10_bucket_64 rfl ?_
            refine r_iload_n dX10_bucket_65 rfl ?_
            refine kV_ir (as := [.int a1]) (st := [.int (a2 - (nI 100))]) (k := 73) dX10_bucket_66 zM_X10_chainOf zk_X10_172 (zo_X10 (zs_X10 ht)) (by decide) rfl ⟨Nat.le_of_ble_eq_true rfl, Nat.le_of_ble_eq_true rfl⟩ (Nat.le_of_ble_eq_true rfl) (zz_T0 rfl rfl) (fun Q' P' k h => c_X10_chainOf (a1) M ht h k) h (fun r11 h => ?_)
            refine r_icmp_ge 84 dX10_bucket_69 (by decide) (fun c12 => ?_) (fun c12 => ?_)
            · have h := zK_pos h c12
              refine r_bipush (v := (-4 : Int32)) dX10_bucket_84 (by decide) ?_
              exact r_iret dX10_bucket_86 rfl rfl rfl (kR ((-4 : Int32)) (zK_some h))
            · have h := zK_neg h c12
              refine r_aload_n dX10_bucket_72 rfl ?_
              refine r_iload_n dX10_bucket_73 rfl ?_
              refine r_iload_n dX10_bucket_74 rfl ?_
              refine r_bipush (v := (nI 100)) dX10_bucket_75 (by decide) ?_
              refine r_isub dX10_bucket_77 ?_
              refine kV_ir (as := [.int a1, .int (a2 - (nI 100))]) (st := []) (k := 73) dX10_bucket_78 zM_X10_pageAt zk_X10_314 (zo_X10 (zs_X10 ht)) (by decide) rfl ⟨Nat.le_of_ble_eq_true rfl, Nat.le_of_ble_eq_true rfl⟩ (Nat.le_of_ble_eq_true rfl) (zz_T0 rfl rfl) (fun Q' P' k h => c_X10_pageAt (a1) ((a2 - (nI 100))) M ht h k) h (fun r13 h => ?_)
              refine r_goto 86 dX10_bucket_81 (by decide) ?_
              exact r_iret dX10_bucket_86 rfl rfl rfl (kR (r13) (zK_some h))
        · have h := zK_neg h c5
          refine r_iload_n dX10_bucket_35 rfl ?_
          refine r_if_ne 47 dX10_bucket_36 (by decide) (fun c14 => ?_) (fun c14 => ?_)
          · have h := zK_neg h c14
            refine r_aload_n dX10_bucket_47 rfl ?_
            refine r_iload_n dX10_bucket_48 rfl ?_
            refine kV_ir (as := [.int a1]) (st := []) (k := 73) dX10_bucket_49 zM_X10_chainOf zk_X10_172 (zo_X10 (zs_X10 ht)) (by decide) rfl ⟨Nat.le_of_ble_eq_true rfl, Nat.le_of_ble_eq_true rfl⟩ (Nat.le_of_ble_eq_true rfl) (zz_T0 rfl rfl) (fun Q' P' k h => c_X10_chainOf (a1) M ht h k) h (fun r15 h => ?_)
            exact r_iret dX10_bucket_52 rfl rfl rfl (kR (r15) (zK_some h))
          · have h := zK_pos h c14
            refine r_aload_n dX10_bucket_39 rfl ?_
            refine r_iload_n dX10_bucket_40 rfl ?_
            refine kV_ir (as := [.int a1]) (st := []) (k := 73) dX10_bucket_41 zM_X10_keysIn zk_X10_202 (zo_X10 (zs_X10 ht)) (by decide) rfl ⟨Nat.le_of_ble_eq_true rfl, Nat.le_of_ble_eq_true rfl⟩ (Nat.le_of_ble_eq_true rfl) (zz_T0 rfl rfl) (fun Q' P' k h => c_X10_keysIn (a1) M ht h k) h (fun r16 h => ?_)
            refine r_goto 52 dX10_bucket_44 (by decide) ?_
            exact r_iret dX10_bucket_52 rfl rfl rfl (kR (r16) (zK_some h))
      · have h := zK_pos h c4
        refine r_iconst (v := (-1 : Int32)) dX10_bucket_28 (by decide) ?_
        exact r_iret dX10_bucket_29 rfl rfl rfl (kR ((-1 : Int32)) (zK_some h))
set_option maxHeartbeats 4000000 in
set_option maxRecDepth 100000 in
theorem c_X10_bucket {G : zzG} {t : Nat} {Q : Option Value → zzMem → Prop} (a1 : Int32) (a2 : Int32) (M : zzMem) (ht : 180 ≤ t)  {P : Int32 → Prop} (h : zK (f_X10_bucket a1 a2 M) P) (kR : ∀ r : Int32, P r → Q (some (.int r)) M) : zz_S G m_X10_bucket t t [.ref 73, .int a1, .int a2] M Q :=
  zz_S_of (by decide) (by decide) (Nat.le_of_ble_eq_true rfl) (w_X10_bucket_0 a1 a2 M ht h kR)
noncomputable def f_X10_keysOnPage (a1 : Int32) (M : zzMem) : Option Int32 :=
  zgd (vp_in ((nI 1240) + a1) 5676) (
  (f_X10_keysIn (M.1 74 (((nI 1240) + a1)).toNatClampNeg) M).bind (fun r2 =>
  zgd (vp_in ((nI 1496) + a1) 5676) (
  some ((f_X10_max (nI 0) (f_X10_min (M.1 74 1) (r2 - ((M.1 74 1) * (M.1 74 (((nI 1496) + a1)).toNatClampNeg)))))))))
set_option maxHeartbeats 4000000 in
set_option maxRecDepth 100000 in
theorem w_X10_keysOnPage_0 {G : zzG} {t : Nat} {Q : Option Value → zzMem → Prop} (a1 : Int32) (M : zzMem) (ht : 180 ≤ t)  {P : Int32 → Prop} (h : zK (f_X10_keysOnPage a1 M) P) (kR : ∀ r : Int32, P r → Q (some (.int r)) M) : zz_W G m_X10_keysOnPage t t t 0 [some (.ref 73), some (.int a1)] [] M Q := by
  unfold f_X10_keysOnPage at h
  refine r_iconst (v := (nI 0)) dX10_keysOnPage_0 (by decide) ?_
  refine r_aload_n dX10_keysOnPage_1 rfl ?_
  refine r_getR (k := 73) (q := 74) dX10_keysOnPage_2 zf_X10_7 (zo_X10 (zs_X10 ht)) (zr_X10_0 (zs_X10 ht)).1 (zr_X10_0 (zs_X10 ht)).2.1 (zr_X10_0 (zs_X10 ht)).2.2 ?_
  refine r_iconst (v := (nI 1)) dX10_keysOnPage_5 (by decide) ?_
  refine r_ialdc (j := 1) dX10_keysOnPage_6 (za_X10_0 (zs_X10 ht)) rfl rfl ?_
  refine r_aload_n dX10_keysOnPage_7 rfl ?_
  refine r_aload_n dX10_keysOnPage_8 rfl ?_
  refine r_getR (k := 73) (q := 74) dX10_keysOnPage_9 zf_X10_7 (zo_X10 (zs_X10 ht)) (zr_X10_0 (zs_X10 ht)).1 (zr_X10_0 (zs_X10 ht)).2.1 (zr_X10_0 (zs_X10 ht)).2.2 ?_
  refine r_sipush (v := (nI 1240)) dX10_keysOnPage_12 (by decide) ?_
  refine r_iload_n dX10_keysOnPage_15 rfl ?_
  refine r_iadd dX10_keysOnPage_16 ?_
  obtain ⟨g1, h⟩ := zK_gd h
  refine r_iald dX10_keysOnPage_17 (za_X10_0 (zs_X10 ht)) g1 ?_
  refine kV_ir (as := [.int (M.1 74 (((nI 1240) + a1)).toNatClampNeg)]) (st := [.int (M.1 74 1), .int (nI 0)]) (k := 73) dX10_keysOnPage_18 zM_X10_keysIn zk_X10_202 (zo_X10 (zs_X10 ht)) (by decide) rfl ⟨Nat.le_of_ble_eq_true rfl, Nat.le_of_ble_eq_true rfl⟩ (Nat.le_of_ble_eq_true rfl) (zz_T0 rfl rfl) (fun Q' P' k h => c_X10_keysIn ((M.1 74 (((nI 1240) + a1)).toNatClampNeg)) M ht h k) h (fun r2 h => ?_)
  refine r_aload_n dX10_keysOnPage_21 rfl ?_
  refine r_getR (k := 73) (q := 74) dX10_keysOnPage_22 zf_X10_7 (zo_X10 (zs_X10 ht)) (zr_X10_0 (zs_X10 ht)).1 (zr_X10_0 (zs_X10 ht)).2.1 (zr_X10_0 (zs_X10 ht)).2.2 ?_
  refine r_iconst (v := (nI 1)) dX10_keysOnPage_25 (by decide) ?_
  refine r_ialdc (j := 1) dX10_keysOnPage_26 (za_X10_0 (zs_X10 ht)) rfl rfl ?_
  refine r_aload_n dX10_keysOnPage_27 rfl ?_
  refine r_getR (k := 73) (q := 74) dX10_keysOnPage_28 zf_X10_7 (zo_X10 (zs_X10 ht)) (zr_X10_0 (zs_X10 ht)).1 (zr_X10_0 (zs_X10 ht)).2.1 (zr_X10_0 (zs_X10 ht)).2.2 ?_
  refine r_sipush (v := (nI 1496)) dX10_keysOnPage_31 (by decide) ?_
  refine r_iload_n dX10_keysOnPage_34 rfl ?_
  refine r_iadd dX10_keysOnPage_35 ?_
  obtain ⟨g3, h⟩ := zK_gd h
  refine r_iald dX10_keysOnPage_36 (za_X10_0 (zs_X10 ht)) g3 ?_
  refine r_imul dX10_keysOnPage_37 ?_
  refine r_isub dX10_keysOnPage_38 ?_
  refine tS_ir (v := f_X10_min (M.1 74 1) (r2 - ((M.1 74 1) * (M.1 74 (((nI 1496) + a1)).toNatClampNeg)))) (as := [.int (M.1 74 1), .int (r2 - ((M.1 74 1) * (M.1 74 (((nI 1496) + a1)).toNatClampNeg)))]) (st := [.int (nI 0)]) dX10_keysOnPage_39 zM_X10_min zk_X10_317 ⟨Nat.le_of_ble_eq_true rfl, Nat.le_of_ble_eq_true rfl⟩ (Nat.le_of_ble_eq_true rfl) (zz_T0 rfl rfl) (fun Q' h => c_X10_min ((M.1 74 1)) ((r2 - ((M.1 74 1) * (M.1 74 (((nI 1496) + a1)).toNatClampNeg)))) M h) ?_
  refine tS_ir (v := f_X10_max (nI 0) (f_X10_min (M.1 74 1) (r2 - ((M.1 74 1) * (M.1 74 (((nI 1496) + a1)).toNatClampNeg))))) (as := [.int (nI 0), .int (f_X10_min (M.1 74 1) (r2 - ((M.1 74 1) * (M.1 74 (((nI 1496) + a1)).toNatClampNeg))))]) (st := []) dX10_keysOnPage_42 zM_X10_max zk_X10_293 ⟨Nat.le_of_ble_eq_true rfl, Nat.le_of_ble_eq_true rfl⟩ (Nat.le_of_ble_eq_true rfl) (zz_T0 rfl rfl) (fun Q' h => c_X10_max ((nI 0)) ((f_X10_min (M.1 74 1) (r2 - ((M.1 74 1) * (M.1 74 (((nI 1496) + a1)).toNatClampNeg))))) M h) ?_
  exact r_iret dX10_keysOnPage_45 rfl rfl rfl (kR ((f_X10_max (nI 0) (f_X10_min (M.1 74 1) (r2 - ((M.1 74 1) * (M.1 74 (((nI 1496) + a1)).toNatClampNeg)))))) (zK_some h))
set_option maxHeartbeats 4000000 in
set_option maxRecDepth 100000 in
theorem c_X10_keysOnPage {G : zzG} {t : Nat} {Q : Option Value → zzMem → Prop} (a1 : Int32) (M : zzMem) (ht : 180 ≤ t)  {P : Int32 → Prop} (h : zK (f_X10_keysOnPage a1 M) P) (kR : ∀ r : Int32, P r → Q (some (.int r)) M) : zz_S G m_X10_keysOnPage t t [.ref 73, .int a1] M Q :=
  zz_S_of (by decide) (by decide) (Nat.le_of_ble_eq_true rfl) (w_X10_keysOnPage_0 a1 M ht h kR)
noncomputable def j_X10_page_33 (v1 : Int32) (v2 : Int32) (M : zzMem) : Option Int32 :=
  zgd (vp_in ((nI 1240) + v1) 5676) (
  zbd ((M.1 74 (((nI 1240) + v1)).toNatClampNeg)) (fun x2 =>
  if x2 = (-1 : Int32) then
  (some ((-2 : Int32)))
  else (if (nI 3) ≤ v2 then
  ((f_X10_keysOnPage v1 M).bind (fun r5 =>
  if r5 ≤ (v2 - (nI 10)) then
  (some ((-4 : Int32)))
  else (zgd (vp_in ((nI 1496) + v1) 5676) (
  (f_X10_entryAt x2 ((((M.1 74 1) * (M.1 74 (((nI 1496) + v1)).toNatClampNeg)) + v2) - (nI 10)) M).bind (fun r8 =>
  zgd (vp_in ((nI 40) + r8) 5676) (
  some ((M.1 74 (((nI 40) + r8)).toNatClampNeg))))))))
  else (if v2 = 0 then
  (some x2)
  else (if v2 = (nI 1) then
  (zgd (vp_in ((nI 1496) + v1) 5676) (
  some ((M.1 74 (((nI 1496) + v1)).toNatClampNeg))))
  else ((f_X10_keysOnPage v1 M).bind (fun r12 =>
  some r12)))))))
set_option maxHeartbeats 4000000 in
set_option maxRecDepth 100000 in
theorem w_X10_page_33 {G : zzG} {t : Nat} {Q : Option Value → zzMem → Prop} (v1 : Int32) (v2 : Int32) (M : zzMem) (ht : 180 ≤ t)  {P : Int32 → Prop} (h : zK (j_X10_page_33 v1 v2 M) P) (kR : ∀ r : Int32, P r → Q (some (.int r)) M) : zz_W G m_X10_page t t t 33 [some (.ref 73), some (.int v1), some (.int v2), none] [] M Q := by
  unfold j_X10_page_33 at h
  refine r_aload_n dX10_page_33 rfl ?_
  refine r_getR (k := 73) (q := 74) dX10_page_34 zf_X10_7 (zo_X10 (zs_X10 ht)) (zr_X10_0 (zs_X10 ht)).1 (zr_X10_0 (zs_X10 ht)).2.1 (zr_X10_0 (zs_X10 ht)).2.2 ?_
  refine r_sipush (v := (nI 1240)) dX10_page_37 (by decide) ?_
  refine r_iload_n dX10_page_40 rfl ?_
  refine r_iadd dX10_page_41 ?_
  obtain ⟨g1, h⟩ := zK_gd h
  refine r_iald dX10_page_42 (za_X10_0 (zs_X10 ht)) g1 ?_
  refine r_istore_n (fun x2 => [some (.ref 73), some (.int v1), some (.int v2), some (.int x2)]) dX10_page_43 (by decide) rfl (fun _ => rfl) (fun x2 ex2 => ?_)
  have h := zK_bd h ex2
  refine r_iload_n dX10_page_44 rfl ?_
  refine r_iconst (v := (-1 : Int32)) dX10_page_45 (by decide) ?_
  refine r_icmp_ne 52 dX10_page_46 (by decide) (fun c3 => ?_) (fun c3 => ?_)
  · have h := zK_neg h c3
    refine r_iload_n dX10_page_52 rfl ?_
    refine r_iconst (v := (nI 3)) dX10_page_53 (by decide) ?_
    refine r_icmp_ge 89 dX10_page_54 (by decide) (fun c4 => ?_) (fun c4 => ?_)
    · have h := zK_pos h c4
      refine r_iload_n dX10_page_89 rfl ?_
      refine r_bipush (v := (nI 10)) dX10_page_90 (by decide) ?_
      refine r_isub dX10_page_92 ?_
      refine r_aload_n dX10_page_93 rfl ?_
      refine r_iload_n dX10_page_94 rfl ?_
      refine kV_ir (as := [.int v1]) (st := [.int (v2 - (nI 10))]) (k := 73) dX10_page_95 zM_X10_keysOnPage zk_X10_320 (zo_X10 (zs_X10 ht)) (by decide) rfl ⟨Nat.le_of_ble_eq_true rfl, Nat.le_of_ble_eq_true rfl⟩ (Nat.le_of_ble_eq_true rfl) (zz_T0 rfl rfl) (fun Q' P' k h => c_X10_keysOnPage (v1) M ht h k) h (fun r5 h => ?_)
      refine r_icmp_ge 139 dX10_page_98 (by decide) (fun c6 => ?_) (fun c6 => ?_)
      · have h := zK_pos h c6
        refine r_bipush (v := (-4 : Int32)) dX10_page_139 (by decide) ?_
        exact r_iret dX10_page_141 rfl rfl rfl (kR ((-4 : Int32)) (zK_some h))
      · have h := zK_neg h c6
        refine r_aload_n dX10_page_101 rfl ?_
        refine r_getR (k := 73) (q := 74) dX10_page_102 zf_X10_7 (zo_X10 (zs_X10 ht)) (zr_X10_0 (zs_X10 ht)).1 (zr_X10_0 (zs_X10 ht)).2.1 (zr_X10_0 (zs_X10 ht)).2.2 ?_
        refine r_bipush (v := (nI 40)) dX10_page_105 (by decide) ?_
        refine r_aload_n dX10_page_107 rfl ?_
        refine r_iload_n dX10_page_108 rfl ?_
        refine r_aload_n dX10_page_109 rfl ?_
        refine r_getR (k := 73) (q := 74) dX10_page_110 zf_X10_7 (zo_X10 (zs_X10 ht)) (zr_X10_0 (zs_X10 ht)).1 (zr_X10_0 (zs_X10 ht)).2.1 (zr_X10_0 (zs_X10 ht)).2.2 ?_
        refine r_iconst (v := (nI 1)) dX10_page_113 (by decide) ?_
        refine r_ialdc (j := 1) dX10_page_114 (za_X10_0 (zs_X10 ht)) rfl rfl ?_
        refine r_aload_n dX10_page_115 rfl ?_
        refine r_getR (k := 73) (q := 74) dX10_page_116 zf_X10_7 (zo_X10 (zs_X10 ht)) (zr_X10_0 (zs_X10 ht)).1 (zr_X10_0 (zs_X10 ht)).2.1 (zr_X10_0 (zs_X10 ht)).2.2 ?_
        refine r_sipush (v := (nI 1496)) dX10_page_119 (by decide) ?_
        refine r_iload_n dX10_page_122 rfl ?_
        refine r_iadd dX10_page_123 ?_
        obtain ⟨g7, h⟩ := zK_gd h
        refine r_iald dX10_page_124 (za_X10_0 (zs_X10 ht)) g7 ?_
        refine r_imul dX10_page_125 ?_
        refine r_iload_n dX10_page_126 rfl ?_
        refine r_iadd dX10_page_127 ?_
        refine r_bipush (v := (nI 10)) dX10_page_128 (by decide) ?_
        refine r_isub dX10_page_130 ?_
        refine kV_ir (as := [.int x2, .int ((((M.1 74 1) * (M.1 74 (((nI 1496) + v1)).toNatClampNeg)) + v2) - (nI 10))]) (st := [.int (nI 40), .ref 74]) (k := 73) dX10_page_131 zM_X10_entryAt zk_X10_235 (zo_X10 (zs_X10 ht)) (by decide) rfl ⟨Nat.le_of_ble_eq_true rfl, Nat.le_of_ble_eq_true rfl⟩ (Nat.le_of_ble_eq_true rfl) (zz_T0 rfl rfl) (fun Q' P' k h => c_X10_entryAt (x2) (((((M.1 74 1) * (M.1 74 (((nI 1496) + v1)).toNatClampNeg)) + v2) - (nI 10))) M ht h k) h (fun r8 h => ?_)
        refine r_iadd dX10_page_134 ?_
        obtain ⟨g9, h⟩ := zK_gd h
        refine r_iald dX10_page_135 (za_X10_0 (zs_X10 ht)) g9 ?_
        refine r_goto 141 dX10_page_136 (by decide) ?_
        exact r_iret dX10_page_141 rfl rfl rfl (kR ((M.1 74 (((nI 40) + r8)).toNatClampNeg)) (zK_some h))
    · have h := zK_neg h c4
      refine r_iload_n dX10_page_57 rfl ?_
      refine r_if_ne 65 dX10_page_58 (by decide) (fun c10 => ?_) (fun c10 => ?_)
      · have h := zK_neg h c10
        refine r_iload_n dX10_page_65 rfl ?_
        refine r_iconst (v := (nI 1)) dX10_page_66 (by decide) ?_
        refine r_icmp_ne 83 dX10_page_67 (by decide) (fun c11 => ?_) (fun c11 => ?_)
        · have h := zK_neg h c11
          refine r_aload_n dX10_page_83 rfl ?_
          refine r_iload_n dX10_page_84 rfl ?_
          refine kV_ir (as := [.int v1]) (st := []) (k := 73) dX10_page_85 zM_X10_keysOnPage zk_X10_320 (zo_X10 (zs_X10 ht)) (by decide) rfl ⟨Nat.le_of_ble_eq_true rfl, Nat.le_of_ble_eq_true rfl⟩ (Nat.le_of_ble_eq_true rfl) (zz_T0 rfl rfl) (fun Q' P' k h => c_X10_keysOnPage (v1) M ht h k) h (fun r12 h => ?_)
          exact r_iret dX10_page_88 rfl rfl rfl (kR (r12) (zK_some h))
        · have h := zK_pos h c11
          refine r_aload_n dX10_page_70 rfl ?_
          refine r_getR (k := 73) (q := 74) dX10_page_71 zf_X10_7 (zo_X10 (zs_X10 ht)) (zr_X10_0 (zs_X10 ht)).1 (zr_X10_0 (zs_X10 ht)).2.1 (zr_X10_0 (zs_X10 ht)).2.2 ?_
          refine r_sipush (v := (nI 1496)) dX10_page_74 (by decide) ?_
          refine r_iload_n dX10_page_77 rfl ?_
          refine r_iadd dX10_page_78 ?_
          obtain ⟨g13, h⟩ := zK_gd h
          refine r_iald dX10_page_79 (za_X10_0 (zs_X10 ht)) g13 ?_
          refine r_goto 88 dX10_page_80 (by decide) ?_
          exact r_iret dX10_page_88 rfl rfl rfl (kR ((M.1 74 (((nI 1496) + v1)).toNatClampNeg)) (zK_some h))
      · have h := zK_pos h c10
        refine r_iload_n dX10_page_61 rfl ?_
        refine r_goto 88 dX10_page_62 (by decide) ?_
        exact r_iret dX10_page_88 rfl rfl rfl (kR (x2) (zK_some h))
  · have h := zK_pos h c3
    refine r_bipush (v := (-2 : Int32)) dX10_page_49 (by decide) ?_
    exact r_iret dX10_page_51 rfl rfl rfl (kR ((-2 : Int32)) (zK_some h))
noncomputable def f_X10_page (a1 : Int32) (a2 : Int32) (M : zzMem) : Option Int32 :=
  if (f_X10_in a1 (nI 0) (nI 255)) = true then
  (if (f_X10_in a2 (nI 0) (nI 2)) = true then
  (j_X10_page_33 a1 a2 M)
  else (if (f_X10_in a2 (nI 10) (nI 15)) = true then
  (j_X10_page_33 a1 a2 M)
  else (some ((-1 : Int32)))))
  else (some ((-1 : Int32)))
set_option maxHeartbeats 4000000 in
set_option maxRecDepth 100000 in
theorem w_X10_page_0 {G : zzG} {t : Nat} {Q : Option Value → zzMem → Prop} (a1 : Int32) (a2 : Int32) (M : zzMem) (ht : 180 ≤ t)  {P : Int32 → Prop} (h : zK (f_X10_page a1 a2 M) P) (kR : ∀ r : Int32, P r → Q (some (.int r)) M) : zz_W G m_X10_page t t t 0 [some (.ref 73), some (.int a1), some (.int a2), none] [] M Q := by
  unfold f_X10_page at h
  refine r_iload_n dX10_page_0 rfl ?_
  refine r_iconst (v := (nI 0)) dX10_page_1 (by decide) ?_
  refine r_sipush (v := (nI 255)) dX10_page_2 (by decide) ?_
  refine tS_zr (v := f_X10_in a1 (nI 0) (nI 255)) (as := [.int a1, .int (nI 0), .int (nI 255)]) (st := []) dX10_page_5 zM_X10_in zk_X10_67 ⟨Nat.le_of_ble_eq_true rfl, Nat.le_of_ble_eq_true rfl⟩ (Nat.le_of_ble_eq_true rfl) (zz_T0 rfl rfl) (fun Q' h => c_X10_in (a1) ((nI 0)) ((nI 255)) M h) ?_
  refine r_ifZ_eq 31 dX10_page_8 (by decide) (fun c1 => ?_) (fun c1 => ?_)
  · have h := zK_neg h c1
    refine r_iconst (v := (-1 : Int32)) dX10_page_31 (by decide) ?_
    exact r_iret dX10_page_32 rfl rfl rfl (kR ((-1 : Int32)) (zK_some h))
  · have h := zK_pos h c1
    refine r_iload_n dX10_page_11 rfl ?_
    refine r_iconst (v := (nI 0)) dX10_page_12 (by decide) ?_
    refine r_iconst (v := (nI 2)) dX10_page_13 (by decide) ?_
    refine tS_zr (v := f_X10_in a2 (nI 0) (nI 2)) (as := [.int a2, .int (nI 0), .int (nI 2)]) (st := []) dX10_page_14 zM_X10_in zk_X10_67 ⟨Nat.le_of_ble_eq_true rfl, Nat.le_of_ble_eq_true rfl⟩ (Nat.le_of_ble_eq_true rfl) (zz_T0 rfl rfl) (fun Q' h => c_X10_in (a2) ((nI 0)) ((nI 2)) M h) ?_
    refine r_ifZ_ne 33 dX10_page_17 (by decide) (fun c2 => ?_) (fun c2 => ?_)
    · have h := zK_pos h c2
      exact w_X10_page_33 (a1) (a2) M ht h kR
    · have h := zK_neg h c2
      refine r_iload_n dX10_page_20 rfl ?_
      refine r_bipush (v := (nI 10)) dX10_page_21 (by decide) ?_
      refine r_bipush (v := (nI 15)) dX10_page_23 (by decide) ?_
      refine tS_zr (v := f_X10_in a2 (nI 10) (nI 15)) (as := [.int a2, .int (nI 10), .int (nI 15)]) (st := []) dX10_page_25 zM_X10_in zk_X10_67 ⟨Nat.le_of_ble_eq_true rfl, Nat.le_of_ble_eq_true rfl⟩ (Nat.le_of_ble_eq_true rfl) (zz_T0 rfl rfl) (fun Q' h => c_X10_in (a2) ((nI 10)) ((nI 15)) M h) ?_
      refine r_ifZ_ne 33 dX10_page_28 (by decide) (fun c3 => ?_) (fun c3 => ?_)
      · have h := zK_pos h c3
        exact w_X10_page_33 (a1) (a2) M ht h kR
      · have h := zK_neg h c3
        refine r_iconst (v := (-1 : Int32)) dX10_page_31 (by decide) ?_
        exact r_iret dX10_page_32 rfl rfl rfl (kR ((-1 : Int32)) (zK_some h))
set_option maxHeartbeats 4000000 in
set_option maxRecDepth 100000 in
theorem c_X10_page {G : zzG} {t : Nat} {Q : Option Value → zzMem → Prop} (a1 : Int32) (a2 : Int32) (M : zzMem) (ht : 180 ≤ t)  {P : Int32 → Prop} (h : zK (f_X10_page a1 a2 M) P) (kR : ∀ r : Int32, P r → Q (some (.int r)) M) : zz_S G m_X10_page t t [.ref 73, .int a1, .int a2] M Q :=
  zz_S_of (by decide) (by decide) (Nat.le_of_ble_eq_true rfl) (w_X10_page_0 a1 a2 M ht h kR)
