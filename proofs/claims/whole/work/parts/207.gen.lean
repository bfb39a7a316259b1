noncomputable def f_X9_count (a1 : Int32) (M : zzMem) : Option Int32 :=
  if a1 = (nI 0) then
  (some ((M.1 27 1)))
  else if a1 = (nI 1) then
  (some ((f_X2_buckets 12 M)))
  else if a1 = (nI 2) then
  (some ((M.1 1 1)))
  else if a1 = (nI 3) then
  (some ((M.1 12 14)))
  else if a1 = (nI 4) then
  ((f_X6_openOnes 29 M).bind (fun r6 =>
  some r6))
  else (some ((-1 : Int32)))
set_option maxHeartbeats 4000000 in
set_option maxRecDepth 100000 in
theorem w_X9_count_0 {G : zzG} {t : Nat} {Q : Option Value → zzMem → Prop} (a1 : Int32) (M : zzMem) (ht : 180 ≤ t)  {P : Int32 → Prop} (h : zK (f_X9_count a1 M) P) (kR : ∀ r : Int32, P r → Q (some (.int r)) M) : zz_W G m_X9_count t t t 0 [some (.ref 0), some (.int a1)] [] M Q := by
  unfold f_X9_count at h
  refine r_iload_n dX9_count_0 rfl ?_
  by_cases c1 : a1 = (nI 0)
  · have h := zK_pos h c1
    refine r_tabIn (off := 35) 36 dX9_count_1 (by rw [c1]; first | done | decide) (by rw [c1]; first | done | decide) (by rw [c1]; first | done | decide) (by decide) ?_
    refine r_aload_n dX9_count_36 rfl ?_
    refine r_getR (k := 0) (q := 12) dX9_count_37 zf_X9_33 (zo_X9 (zs_X9 ht)) (zr_X9_3 (zs_X9 ht)).1 (zr_X9_3 (zs_X9 ht)).2.1 (zr_X9_3 (zs_X9 ht)).2.2 ?_
    refine r_getR (k := 12) (q := 27) dX9_count_40 zf_X9_77 (zo_X2 (zc_X9_3 (zs_X9 ht))) (zr_X2_2 (zc_X9_3 (zs_X9 ht))).1 (zr_X2_2 (zc_X9_3 (zs_X9 ht))).2.1 (zr_X2_2 (zc_X9_3 (zs_X9 ht))).2.2 ?_
    refine r_getI (k := 27) dX9_count_43 zf_X9_81 (zo_X5 (zc_X2_2 (zc_X9_3 (zs_X9 ht)))) (zi_X5_1 (zc_X2_2 (zc_X9_3 (zs_X9 ht)))) ?_
    exact r_iret dX9_count_46 rfl rfl rfl (kR ((M.1 27 1)) (zK_some h))
  · have h := zK_neg h c1
    by_cases c2 : a1 = (nI 1)
    · have h := zK_pos h c2
      refine r_tabIn (off := 46) 47 dX9_count_1 (by rw [c2]; first | done | decide) (by rw [c2]; first | done | decide) (by rw [c2]; first | done | decide) (by decide) ?_
      refine r_aload_n dX9_count_47 rfl ?_
      refine r_getR (k := 0) (q := 12) dX9_count_48 zf_X9_33 (zo_X9 (zs_X9 ht)) (zr_X9_3 (zs_X9 ht)).1 (zr_X9_3 (zs_X9 ht)).2.1 (zr_X9_3 (zs_X9 ht)).2.2 ?_
      refine tV_ir (v := f_X2_buckets 12 M) (as := []) (st := []) (k := 12) dX9_count_51 zM_X2_buckets zk_X9_180 (zo_X2 (zc_X9_3 (zs_X9 ht))) (by decide) rfl ⟨Nat.le_of_ble_eq_true rfl, Nat.le_of_ble_eq_true rfl⟩ (Nat.le_of_ble_eq_true rfl) (zz_T0 rfl rfl) (fun Q' h => c_X2_buckets (12) M (zc_X9_3 (zs_X9 ht)) h) ?_
      exact r_iret dX9_count_54 rfl rfl rfl (kR ((f_X2_buckets 12 M)) (zK_some h))
    · have h := zK_neg h c2
      by_cases c3 : a1 = (nI 2)
      · have h := zK_pos h c3
        refine r_tabIn (off := 54) 55 dX9_count_1 (by rw [c3]; first | done | decide) (by rw [c3]; first | done | decide) (by rw [c3]; first | done | decide) (by decide) ?_
        refine r_aload_n dX9_count_55 rfl ?_
        refine r_getR (k := 0) (q := 1) dX9_count_56 zf_X9_10 (zo_X9 (zs_X9 ht)) (zr_X9_0 (zs_X9 ht)).1 (zr_X9_0 (zs_X9 ht)).2.1 (zr_X9_0 (zs_X9 ht)).2.2 ?_
        refine r_getI (k := 1) dX9_count_59 zf_X9_59 (zo_X8 (zs_X8 ht)) (zi_X8_1 (zs_X8 ht)) ?_
        exact r_iret dX9_count_62 rfl rfl rfl (kR ((M.1 1 1)) (zK_some h))
      · have h := zK_neg h c3
        by_cases c4 : a1 = (nI 3)
        · have h := zK_pos h c4
          refine r_tabIn (off := 62) 63 dX9_count_1 (by rw [c4]; first | done | decide) (by rw [c4]; first | done | decide) (by rw [c4]; first | done | decide) (by decide) ?_
          refine r_aload_n dX9_count_63 rfl ?_
          refine r_getR (k := 0) (q := 12) dX9_count_64 zf_X9_33 (zo_X9 (zs_X9 ht)) (zr_X9_3 (zs_X9 ht)).1 (zr_X9_3 (zs_X9 ht)).2.1 (zr_X9_3 (zs_X9 ht)).2.2 ?_
          refine r_getI (k := 12) dX9_count_67 zf_X9_375 (zo_X2 (zc_X9_3 (zs_X9 ht))) (zi_X2_14 (zc_X9_3 (zs_X9 ht))) ?_
          exact r_iret dX9_count_70 rfl rfl rfl (kR ((M.1 12 14)) (zK_some h))
        · have h := zK_neg h c4
          by_cases c5 : a1 = (nI 4)
          · have h := zK_pos h c5
            refine r_tabIn (off := 70) 71 dX9_count_1 (by rw [c5]; first | done | decide) (by rw [c5]; first | done | decide) (by rw [c5]; first | done | decide) (by decide) ?_
            refine r_aload_n dX9_count_71 rfl ?_
            refine r_getR (k := 0) (q := 12) dX9_count_72 zf_X9_33 (zo_X9 (zs_X9 ht)) (zr_X9_3 (zs_X9 ht)).1 (zr_X9_3 (zs_X9 ht)).2.1 (zr_X9_3 (zs_X9 ht)).2.2 ?_
            refine r_getR (k := 12) (q := 29) dX9_count_75 zf_X9_348 (zo_X2 (zc_X9_3 (zs_X9 ht))) (zr_X2_3 (zc_X9_3 (zs_X9 ht))).1 (zr_X2_3 (zc_X9_3 (zs_X9 ht))).2.1 (zr_X2_3 (zc_X9_3 (zs_X9 ht))).2.2 ?_
            refine kV_ir (as := []) (st := []) (k := 29) dX9_count_78 zM_X6_openOnes zk_X9_381 (zo_X6 (zc_X2_3 (zc_X9_3 (zs_X9 ht)))) (by decide) rfl ⟨Nat.le_of_ble_eq_true rfl, Nat.le_of_ble_eq_true rfl⟩ (Nat.le_of_ble_eq_true rfl) (zz_T0 rfl rfl) (fun Q' P' k h => c_X6_openOnes (29) M (zc_X2_3 (zc_X9_3 (zs_X9 ht))) h k) h (fun r6 h => ?_)
            exact r_iret dX9_count_81 rfl rfl rfl (kR (r6) (zK_some h))
          · have h := zK_neg h c5
            have hD : zz_W G m_X9_count t t t 82 [some (.ref 0), some (.int a1)] [] M Q := by
              refine r_iconst (v := (-1 : Int32)) dX9_count_82 (by decide) ?_
              exact r_iret dX9_count_83 rfl rfl rfl (kR ((-1 : Int32)) (zK_some h))
            refine r_tabOut 82 dX9_count_1 (zz_tab_out (n := 5) (fun i hi => ?_) (by decide)) (by decide) hD
            exact match i, hi with
            | 0, _ => fun e => c1 (e.trans (by decide))
            | 1, _ => fun e => c2 (e.trans (by decide))
            | 2, _ => fun e => c3 (e.trans (by decide))
            | 3, _ => fun e => c4 (e.trans (by decide))
            | 4, _ => fun e => c5 (e.trans (by decide))
            | k + 5, hk => absurd hk (by omega)
set_option maxHeartbeats 4000000 in
set_option maxRecDepth 100000 in
theorem c_X9_count {G : zzG} {t : Nat} {Q : Option Value → zzMem → Prop} (a1 : Int32) (M : zzMem) (ht : 180 ≤ t)  {P : Int32 → Prop} (h : zK (f_X9_count a1 M) P) (kR : ∀ r : Int32, P r → Q (some (.int r)) M) : zz_S G m_X9_count t t [.ref 0, .int a1] M Q :=
  zz_S_of (by decide) (by decide) (Nat.le_of_ble_eq_true rfl) (w_X9_count_0 a1 M ht h kR)
noncomputable def j_X10_empties_110 (v1 : Int32) (v6 : Int32) (s1 : Int32) (s2 : Int32) (M : zzMem) : Option ((Int32 × zzMem) ⊕ zzMem) :=
  zgd (vp_in s1 5676) (
  zbd (zz_si M 74 (s1).toNatClampNeg s2) (fun M2 =>
  zgd (vp_in ((nI 1496) + v6) 5676) (
  zbd (zz_si M2 74 (((nI 1496) + v6)).toNatClampNeg (nI 0)) (fun M4 =>
  zbd (v6 + (nI 1)) (fun x5 =>
  some (.inl (x5, M4)))))))
set_option maxHeartbeats 4000000 in
set_option maxRecDepth 100000 in
theorem w_X10_empties_110 {G : zzG} {t : Nat} {Q : Option Value → zzMem → Prop} (v1 : Int32) (v6 : Int32) (s1 : Int32) (s2 : Int32) (M : zzMem) (ht : 180 ≤ t)  {P : ((Int32 × zzMem) ⊕ zzMem) → Prop} (h : zK (j_X10_empties_110 v1 v6 s1 s2 M) P) (k80 : ∀ s : (Int32 × zzMem), P (.inl s) → zz_W G m_X10_empties t t t 80 [some (.ref 73), some (.int v1), none, none, none, none, some (.int s.1)] [] s.2 Q) (kR : ∀ r : zzMem, P (.inr r) → Q none r) : zz_W G m_X10_empties t t t 110 [some (.ref 73), some (.int v1), none, none, none, none, some (.int v6)] [.int s2, .int s1, .ref 74] M Q := by
  unfold j_X10_empties_110 at h
  obtain ⟨g1, h⟩ := zK_gd h
  refine r_iast dX10_empties_110 (za_X10_0 (zs_X10 ht)) g1 (fun M2 eM2 => ?_)
  have h := zK_bd h eM2
  refine r_aload_n dX10_empties_111 rfl ?_
  refine r_getR (k := 73) (q := 74) dX10_empties_112 zf_X10_7 (zo_X10 (zs_X10 ht)) (zr_X10_0 (zs_X10 ht)).1 (zr_X10_0 (zs_X10 ht)).2.1 (zr_X10_0 (zs_X10 ht)).2.2 ?_
  refine r_sipush (v := (nI 1496)) dX10_empties_115 (by decide) ?_
  refine r_iload dX10_empties_118 rfl ?_
  refine r_iadd dX10_empties_120 ?_
  refine r_iconst (v := (nI 0)) dX10_empties_121 (by decide) ?_
  obtain ⟨g3, h⟩ := zK_gd h
  refine r_iast dX10_empties_122 (za_X10_0 (zs_X10 ht)) g3 (fun M4 eM4 => ?_)
  have h := zK_bd h eM4
  refine r_iinc (nI 1) (fun x5 => [some (.ref 73), some (.int v1), none, none, none, none, some (.int x5)]) dX10_empties_123 rfl (by decide) (by decide) rfl (fun _ => rfl) (fun x5 ex5 => ?_)
  have h := zK_bd h ex5
  refine r_goto 80 dX10_empties_126 (by decide) ?_
  exact k80 ((x5, M4)) (zK_some h)
noncomputable def b_X10_empties_80 (v1 : Int32) (v6 : Int32) (M : zzMem) : Option ((Int32 × zzMem) ⊕ zzMem) :=
  if (nI 256) ≤ v6 then
  (some ((.inr M)))
  else (if v1 ≤ v6 then
  (j_X10_empties_110 v1 v6 ((nI 1240) + v6) (-1 : Int32) M)
  else (j_X10_empties_110 v1 v6 ((nI 1240) + v6) v6 M))
set_option maxHeartbeats 4000000 in
set_option maxRecDepth 100000 in
theorem x_X10_empties_80 {G : zzG} {t : Nat} {Q : Option Value → zzMem → Prop} (v1 : Int32) (v6 : Int32) (M : zzMem) (ht : 180 ≤ t)  {P : ((Int32 × zzMem) ⊕ zzMem) → Prop} (h : zK (b_X10_empties_80 v1 v6 M) P) (k80 : ∀ s : (Int32 × zzMem), P (.inl s) → zz_W G m_X10_empties t t t 80 [some (.ref 73), some (.int v1), none, none, none, none, some (.int s.1)] [] s.2 Q) (kR : ∀ r : zzMem, P (.inr r) → Q none r) : zz_W G m_X10_empties t t t 80 [some (.ref 73), some (.int v1), none, none, none, none, some (.int v6)] [] M Q := by
  unfold b_X10_empties_80 at h
  refine r_iload dX10_empties_80 rfl ?_
  refine r_sipush (v := (nI 256)) dX10_empties_82 (by decide) ?_
  refine r_icmp_ge 129 dX10_empties_85 (by decide) (fun c1 => ?_) (fun c1 => ?_)
  · have h := zK_pos h c1
    exact r_vret dX10_empties_129 rfl rfl rfl (kR (M) (zK_some h))
  · have h := zK_neg h c1
    refine r_aload_n dX10_empties_88 rfl ?_
    refine r_getR (k := 73) (q := 74) dX10_empties_89 zf_X10_7 (zo_X10 (zs_X10 ht)) (zr_X10_0 (zs_X10 ht)).1 (zr_X10_0 (zs_X10 ht)).2.1 (zr_X10_0 (zs_X10 ht)).2.2 ?_
    refine r_sipush (v := (nI 1240)) dX10_empties_92 (by decide) ?_
    refine r_iload dX10_empties_95 rfl ?_
    refine r_iadd dX10_empties_97 ?_
    refine r_iload dX10_empties_98 rfl ?_
    refine r_iload_n dX10_empties_100 rfl ?_
    refine r_icmp_ge 109 dX10_empties_101 (by decide) (fun c2 => ?_) (fun c2 => ?_)
    · have h := zK_pos h c2
      refine r_iconst (v := (-1 : Int32)) dX10_empties_109 (by decide) ?_
      exact w_X10_empties_110 (v1) (v6) (((nI 1240) + v6)) ((-1 : Int32)) M ht h k80 kR
    · have h := zK_neg h c2
      refine r_iload dX10_empties_104 rfl ?_
      refine r_goto 110 dX10_empties_106 (by decide) ?_
      exact w_X10_empties_110 (v1) (v6) (((nI 1240) + v6)) (v6) M ht h k80 kR
noncomputable def j_X10_empties_80 (v1 : Int32) (v6 : Int32) (M : zzMem) : Option zzMem :=
  zlp (fun s : (Int32 × zzMem) => b_X10_empties_80 v1 s.1 s.2) (v6, M)
set_option maxHeartbeats 4000000 in
set_option maxRecDepth 100000 in
theorem w_X10_empties_80 {G : zzG} {t : Nat} {Q : Option Value → zzMem → Prop} (v1 : Int32) (v6 : Int32) (M : zzMem) (ht : 180 ≤ t)  {P : zzMem → Prop} (h : zK (j_X10_empties_80 v1 v6 M) P) (kR : ∀ r : zzMem, P r → Q none r) : zz_W G m_X10_empties t t t 80 [some (.ref 73), some (.int v1), none, none, none, none, some (.int v6)] [] M Q := by
  unfold j_X10_empties_80 at h
  exact zK_lp h (fun s : (Int32 × zzMem) => zz_W G m_X10_empties t t t 80 [some (.ref 73), some (.int v1), none, none, none, none, some (.int s.1)] [] s.2 Q) (fun s h => x_X10_empties_80 v1 s.1 s.2 ht h (fun s p => p) kR)
noncomputable def b_X10_empties_40 (v1 : Int32) (v6 : Int32) (M : zzMem) : Option ((Int32 × zzMem) ⊕ zzMem) :=
  if (nI 12) ≤ v6 then
  (zbd (zz_si M 74 13 (nI 0)) (fun M2 =>
  zbd (zz_si M2 74 14 (nI 0)) (fun M3 =>
  zup (j_X10_empties_80 v1 (nI 0) M3))))
  else (zgd (vp_in v6 5676) (
  zbd (zz_si M 74 (v6).toNatClampNeg (nI 0)) (fun M5 =>
  zbd (v6 + (nI 1)) (fun x6 =>
  some (.inl (x6, M5))))))
set_option maxHeartbeats 4000000 in
set_option maxRecDepth 100000 in
theorem x_X10_empties_40 {G : zzG} {t : Nat} {Q : Option Value → zzMem → Prop} (v1 : Int32) (v6 : Int32) (M : zzMem) (ht : 180 ≤ t)  {P : ((Int32 × zzMem) ⊕ zzMem) → Prop} (h : zK (b_X10_empties_40 v1 v6 M) P) (k40 : ∀ s : (Int32 × zzMem), P (.inl s) → zz_W G m_X10_empties t t t 40 [some (.ref 73), some (.int v1), none, none, none, none, some (.int s.1)] [] s.2 Q) (kR : ∀ r : zzMem, P (.inr r) → Q none r) : zz_W G m_X10_empties t t t 40 [some (.ref 73), some (.int v1), none, none, none, none, some (.int v6)] [] M Q := by
  unfold b_X10_empties_40 at h
  refine r_iload dX10_empties_40 rfl ?_
  refine r_bipush (v := (nI 12)) dX10_empties_42 (by decide) ?_
  refine r_icmp_ge 61 dX10_empties_44 (by decide) (fun c1 => ?_) (fun c1 => ?_)
  · have h := zK_pos h c1
    refine r_aload_n dX10_empties_61 rfl ?_
    refine r_getR (k := 73) (q := 74) dX10_empties_62 zf_X10_7 (zo_X10 (zs_X10 ht)) (zr_X10_0 (zs_X10 ht)).1 (zr_X10_0 (zs_X10 ht)).2.1 (zr_X10_0 (zs_X10 ht)).2.2 ?_
    refine r_bipush (v := (nI 13)) dX10_empties_65 (by decide) ?_
    refine r_iconst (v := (nI 0)) dX10_empties_67 (by decide) ?_
    refine r_iastc (j := 13) dX10_empties_68 (za_X10_0 (zs_X10 ht)) rfl rfl (fun M2 eM2 => ?_)
    have h := zK_bd h eM2
    refine r_aload_n dX10_empties_69 rfl ?_
    refine r_getR (k := 73) (q := 74) dX10_empties_70 zf_X10_7 (zo_X10 (zs_X10 ht)) (zr_X10_0 (zs_X10 ht)).1 (zr_X10_0 (zs_X10 ht)).2.1 (zr_X10_0 (zs_X10 ht)).2.2 ?_
    refine r_bipush (v := (nI 14)) dX10_empties_73 (by decide) ?_
    refine r_iconst (v := (nI 0)) dX10_empties_75 (by decide) ?_
    refine r_iastc (j := 14) dX10_empties_76 (za_X10_0 (zs_X10 ht)) rfl rfl (fun M3 eM3 => ?_)
    have h := zK_bd h eM3
    refine r_iconst (v := (nI 0)) dX10_empties_77 (by decide) ?_
    refine s_istore ([some (.ref 73), some (.int v1), none, none, none, none, some (.int (nI 0))]) dX10_empties_78 (by decide) rfl rfl ?_
    exact w_X10_empties_80 (v1) ((nI 0)) M3 ht (zK_up h) kR
  · have h := zK_neg h c1
    refine r_aload_n dX10_empties_47 rfl ?_
    refine r_getR (k := 73) (q := 74) dX10_empties_48 zf_X10_7 (zo_X10 (zs_X10 ht)) (zr_X10_0 (zs_X10 ht)).1 (zr_X10_0 (zs_X10 ht)).2.1 (zr_X10_0 (zs_X10 ht)).2.2 ?_
    refine r_iload dX10_empties_51 rfl ?_
    refine r_iconst (v := (nI 0)) dX10_empties_53 (by decide) ?_
    obtain ⟨g4, h⟩ := zK_gd h
    refine r_iast dX10_empties_54 (za_X10_0 (zs_X10 ht)) g4 (fun M5 eM5 => ?_)
    have h := zK_bd h eM5
    refine r_iinc (nI 1) (fun x6 => [some (.ref 73), some (.int v1), none, none, none, none, some (.int x6)]) dX10_empties_55 rfl (by decide) (by decide) rfl (fun _ => rfl) (fun x6 ex6 => ?_)
    have h := zK_bd h ex6
    refine r_goto 40 dX10_empties_58 (by decide) ?_
    exact k40 ((x6, M5)) (zK_some h)
noncomputable def j_X10_empties_40 (v1 : Int32) (v6 : Int32) (M : zzMem) : Option zzMem :=
  zlp (fun s : (Int32 × zzMem) => b_X10_empties_40 v1 s.1 s.2) (v6, M)
set_option maxHeartbeats 4000000 in
set_option maxRecDepth 100000 in
theorem w_X10_empties_40 {G : zzG} {t : Nat} {Q : Option Value → zzMem → Prop} (v1 : Int32) (v6 : Int32) (M : zzMem) (ht : 180 ≤ t)  {P : zzMem → Prop} (h : zK (j_X10_empties_40 v1 v6 M) P) (kR : ∀ r : zzMem, P r → Q none r) : zz_W G m_X10_empties t t t 40 [some (.ref 73), some (.int v1), none, none, none, none, some (.int v6)] [] M Q := by
  unfold j_X10_empties_40 at h
  exact zK_lp h (fun s : (Int32 × zzMem) => zz_W G m_X10_empties t t t 40 [some (.ref 73), some (.int v1), none, none, none, none, some (.int s.1)] [] s.2 Q) (fun s h => x_X10_empties_40 v1 s.1 s.2 ht h (fun s p => p) kR)
noncomputable def f_X10_empties (a1 : Int32) (a2 : Int32) (a3 : Int32) (a4 : Int32) (a5 : Int32) (M : zzMem) : Option zzMem :=
  zbd (zz_si M 74 0 a1) (fun M1 =>
  zbd (zz_si M1 74 1 a2) (fun M2 =>
  zbd (zz_si M2 74 2 a3) (fun M3 =>
  zbd (zz_si M3 74 3 a4) (fun M4 =>
  zbd (zz_si M4 74 4 a5) (fun M5 =>
  j_X10_empties_40 a1 (nI 5) M5)))))
set_option maxHeartbeats 4000000 in
set_option maxRecDepth 100000 in
theorem w_X10_empties_0 {G : zzG} {t : Nat} {Q : Option Value → zzMem → Prop} (a1 : Int32) (a2 : Int32) (a3 : Int32) (a4 : Int32) (a5 : Int32) (M : zzMem) (ht : 180 ≤ t)  {P : zzMem → Prop} (h : zK (f_X10_empties a1 a2 a3 a4 a5 M) P) (kR : ∀ r : zzMem, P r → Q none r) : zz_W G m_X10_empties t t t 0 [some (.ref 73), some (.int a1), some (.int a2), some (.int a3), some (.int a4), some (.int a5), none] [] M Q := by
  unfold f_X10_empties at h
  refine r_aload_n dX10_empties_0 rfl ?_
  refine r_getR (k := 73) (q := 74) dX10_empties_1 zf_X10_7 (zo_X10 (zs_X10 ht)) (zr_X10_0 (zs_X10 ht)).1 (zr_X10_0 (zs_X10 ht)).2.1 (zr_X10_0 (zs_X10 ht)).2.2 ?_
  refine r_iconst (v := (nI 0)) dX10_empties_4 (by decide) ?_
  refine r_iload_n dX10_empties_5 rfl ?_
  refine r_iastc (j := 0) dX10_empties_6 (za_X10_0 (zs_X10 ht)) rfl rfl (fun M1 eM1 => ?_)
  have h := zK_bd h eM1
  refine r_aload_n dX10_empties_7 rfl ?_
  refine r_getR (k := 73) (q := 74) dX10_empties_8 zf_X10_7 (zo_X10 (zs_X10 ht)) (zr_X10_0 (zs_X10 ht)).1 (zr_X10_0 (zs_X10 ht)).2.1 (zr_X10_0 (zs_X10 ht)).2.2 ?_
  refine r_iconst (v := (nI 1)) dX10_empties_11 (by decide) ?_
  refine r_iload_n dX10_empties_12 rfl ?_
  refine r_iastc (j := 1) dX10_empties_13 (za_X10_0 (zs_X10 ht)) rfl rfl (fun M2 eM2 => ?_)
  have h := zK_bd h eM2
  refine r_aload_n dX10_empties_14 rfl ?_
  refine r_getR (k := 73) (q := 74) dX10_empties_15 zf_X10_7 (zo_X10 (zs_X10 ht)) (zr_X10_0 (zs_X10 ht)).1 (zr_X10_0 (zs_X10 ht)).2.1 (zr_X10_0 (zs_X10 ht)).2.2 ?_
  refine r_iconst (v := (nI 2)) dX10_empties_18 (by decide) ?_
  refine r_iload_n dX10_empties_19 rfl ?_
  refine r_iastc (j := 2) dX10_empties_20 (za_X10_0 (zs_X10 ht)) rfl rfl (fun M3 eM3 => ?_)
  have h := zK_bd h eM3
  refine r_aload_n dX10_empties_21 rfl ?_
  refine r_getR (k := 73) (q := 74) dX10_empties_22 zf_X10_7 (zo_X10 (zs_X10 ht)) (zr_X10_0 (zs_X10 ht)).1 (zr_X10_0 (zs_X10 ht)).2.1 (zr_X10_0 (zs_X10 ht)).2.2 ?_
  refine r_iconst (v := (nI 3)) dX10_empties_25 (by decide) ?_
  refine r_iload dX10_empties_26 rfl ?_
  refine r_iastc (j := 3) dX10_empties_28 (za_X10_0 (zs_X10 ht)) rfl rfl (fun M4 eM4 => ?_)
  have h := zK_bd h eM4
  refine r_aload_n dX10_empties_29 rfl ?_
  refine r_getR (k := 73) (q := 74) dX10_empties_30 zf_X10_7 (zo_X10 (zs_X10 ht)) (zr_X10_0 (zs_X10 ht)).1 (zr_X10_0 (zs_X10 ht)).2.1 (zr_X10_0 (zs_X10 ht)).2.2 ?_
  refine r_iconst (v := (nI 4)) dX10_empties_33 (by decide) ?_
  refine r_iload dX10_empties_34 rfl ?_
  refine r_iastc (j := 4) dX10_empties_36 (za_X10_0 (zs_X10 ht)) rfl rfl (fun M5 eM5 => ?_)
  have h := zK_bd h eM5
  refine r_iconst (v := (nI 5)) dX10_empties_37 (by decide) ?_
  refine s_istore ([some (.ref 73), some (.int a1), some (.int a2), some (.int a3), some (.int a4), some (.int a5), some (.int (nI 5))]) dX10_empties_38 (by decide) rfl rfl ?_
  refine zz_mask [2, 3, 4, 5] ?_
  exact w_X10_empties_40 (a1) ((nI 5)) M5 ht h kR
set_option maxHeartbeats 4000000 in
set_option maxRecDepth 100000 in
theorem c_X10_empties {G : zzG} {t : Nat} {Q : Option Value → zzMem → Prop} (a1 : Int32) (a2 : Int32) (a3 : Int32) (a4 : Int32) (a5 : Int32) (M : zzMem) (ht : 180 ≤ t)  {P : zzMem → Prop} (h : zK (f_X10_empties a1 a2 a3 a4 a5 M) P) (kR : ∀ r : zzMem, P r → Q none r) : zz_S G m_X10_empties t t [.ref 73, .int a1, .int a2, .int a3, .int a4, .int a5] M Q :=
  zz_S_of (by decide) (by decide) (Nat.le_of_ble_eq_true rfl) (w_X10_empties_0 a1 a2 a3 a4 a5 M ht h kR)
noncomputable def f_X10_in (a0 : Int32) (a1 : Int32) (a2 : Int32) : Bool :=
  if a0 < a1 then
  false
  else (if a2 < a0 then
  false
  else true)
set_option maxHeartbeats 4000000 in
set_option maxRecDepth 100000 in
theorem w_X10_in_0 {G : zzG} {t : Nat} {Q : Option Value → zzMem → Prop} (a0 : Int32) (a1 : Int32) (a2 : Int32) (M : zzMem)  {P : Bool → Prop} (h : P (f_X10_in a0 a1 a2)) (kR : ∀ r : Bool, P r → Q (some (.int (zb r))) M) : zz_W G m_X10_in t t t 0 [some (.int a0), some (.int a1), some (.int a2)] [] M Q := by
  unfold f_X10_in at h
  refine r_iload_n dX10_in_0 rfl ?_
  refine r_iload_n dX10_in_1 rfl ?_
  refine r_icmp_lt 14 dX10_in_2 (by decide) (fun c1 => ?_) (fun c1 => ?_)
  · have h := zP_pos h c1
    refine r_iconst (v := (nI 0)) dX10_in_14 (by decide) ?_
    exact r_zret (b := false) dX10_in_15 rfl rfl rfl (kR (false) h)
  · have h := zP_neg h c1
    refine r_iload_n dX10_in_5 rfl ?_
    refine r_iload_n dX10_in_6 rfl ?_
    refine r_icmp_gt 14 dX10_in_7 (by decide) (fun c2 => ?_) (fun c2 => ?_)
    · have h := zP_pos h c2
      refine r_iconst (v := (nI 0)) dX10_in_14 (by decide) ?_
      exact r_zret (b := false) dX10_in_15 rfl rfl rfl (kR (false) h)
    · have h := zP_neg h c2
      refine r_iconst (v := (nI 1)) dX10_in_10 (by decide) ?_
      refine r_goto 15 dX10_in_11 (by decide) ?_
      exact r_zret (b := true) dX10_in_15 rfl rfl rfl (kR (true) h)
set_option maxHeartbeats 4000000 in
set_option maxRecDepth 100000 in
theorem c_X10_in {G : zzG} {t : Nat} {Q : Option Value → zzMem → Prop} (a0 : Int32) (a1 : Int32) (a2 : Int32) (M : zzMem)  (h : Q (some (.int (zb (f_X10_in a0 a1 a2)))) M) : zz_S G m_X10_in t t [.int a0, .int a1, .int a2] M Q :=
  zz_S_of (by decide) (by decide) (Nat.le_of_ble_eq_true rfl) (w_X10_in_0 a0 a1 a2 M  (P := fun r => Q (some (.int (zb r))) M) h (fun r p => p))
noncomputable def f_X10_min (a0 : Int32) (a1 : Int32) : Int32 :=
  if a1 ≤ a0 then
  a1
  else a0
set_option maxHeartbeats 4000000 in
set_option maxRecDepth 100000 in
theorem w_X10_min_0 {G : zzG} {t : Nat} {Q : Option Value → zzMem → Prop} (a0 : Int32) (a1 : Int32) (M : zzMem)  {P : Int32 → Prop} (h : P (f_X10_min a0 a1)) (kR : ∀ r : Int32, P r → Q (some (.int r)) M) : zz_W G m_X10_min t t t 0 [some (.int a0), some (.int a1)] [] M Q := by
  unfold f_X10_min at h
  refine r_iload_n dX10_min_0 rfl ?_
  refine r_iload_n dX10_min_1 rfl ?_
  refine r_icmp_ge 9 dX10_min_2 (by decide) (fun c1 => ?_) (fun c1 => ?_)
  · have h := zP_pos h c1
    refine r_iload_n dX10_min_9 rfl ?_
    exact r_iret dX10_min_10 rfl rfl rfl (kR (a1) h)
  · have h := zP_neg h c1
    refine r_iload_n dX10_min_5 rfl ?_
    refine r_goto 10 dX10_min_6 (by decide) ?_
    exact r_iret dX10_min_10 rfl rfl rfl (kR (a0) h)
set_option maxHeartbeats 4000000 in
set_option maxRecDepth 100000 in
theorem c_X10_min {G : zzG} {t : Nat} {Q : Option Value → zzMem → Prop} (a0 : Int32) (a1 : Int32) (M : zzMem)  (h : Q (some (.int (f_X10_min a0 a1))) M) : zz_S G m_X10_min t t [.int a0, .int a1] M Q :=
  zz_S_of (by decide) (by decide) (Nat.le_of_ble_eq_true rfl) (w_X10_min_0 a0 a1 M  (P := fun r => Q (some (.int r)) M) h (fun r p => p))
noncomputable def f_X10_max (a0 : Int32) (a1 : Int32) : Int32 :=
  if a0 ≤ a1 then
  a1
  else a0
set_option maxHeartbeats 4000000 in
set_option maxRecDepth 100000 in
theorem w_X10_max_0 {G : zzG} {t : Nat} {Q : Option Value → zzMem → Prop} (a0 : Int32) (a1 : Int32) (M : zzMem)  {P : Int32 → Prop} (h : P (f_X10_max a0 a1)) (kR : ∀ r : Int32, P r → Q (some (.int r)) M) : zz_W G m_X10_max t t t 0 [some (.int a0), some (.int a1)] [] M Q := by
  unfold f_X10_max at h
  refine r_iload_n dX10_max_0 rfl ?_
  refine r_iload_n dX10_max_1 rfl ?_
  refine r_icmp_le 9 dX10_max_2 (by decide) (fun c1 => ?_) (fun c1 => ?_)
  · have h := zP_pos h c1
    refine r_iload_n dX10_max_9 rfl ?_
    exact r_iret dX10_max_10 rfl rfl rfl (kR (a1) h)
  · have h := zP_neg h c1
    refine r_iload_n dX10_max_5 rfl ?_
    refine r_goto 10 dX10_max_6 (by decide) ?_
    exact r_iret dX10_max_10 rfl rfl rfl (kR (a0) h)
set_option maxHeartbeats 4000000 in
set_option maxRecDepth 100000 in
theorem c_X10_max {G : zzG} {t : Nat} {Q : Option Value → zzMem → Prop} (a0 : Int32) (a1 : Int32) (M : zzMem)  (h : Q (some (.int (f_X10_max a0 a1))) M) : zz_S G m_X10_max t t [.int a0, .int a1] M Q :=
  zz_S_of (by decide) (by decide) (Nat.le_of_ble_eq_true rfl) (w_X10_max_0 a0 a1 M  (P := fun r => Q (some (.int r)) M) h (fun r p => p))
noncomputable def f_X10_has (a0 : Int32) (a1 : Int32) : Bool :=
  if ((a0 >>> (a1 &&& 31)) &&& (nI 1)) = (nI 1) then
  true
  else false
set_option maxHeartbeats 4000000 in
set_option maxRecDepth 100000 in
theorem w_X10_has_0 {G : zzG} {t : Nat} {Q : Option Value → zzMem → Prop} (a0 : Int32) (a1 : Int32) (M : zzMem)  {P : Bool → Prop} (h : P (f_X10_has a0 a1)) (kR : ∀ r : Bool, P r → Q (some (.int (zb r))) M) : zz_W G m_X10_has t t t 0 [some (.int a0), some (.int a1)] [] M Q := by
  unfold f_X10_has at h
  refine r_iload_n dX10_has_0 rfl ?_
  refine r_iload_n dX10_has_1 rfl ?_
  refine r_ishr dX10_has_2 ?_
  refine r_iconst (v := (nI 1)) dX10_has_3 (by decide) ?_
  refine r_iand dX10_has_4 ?_
  refine r_iconst (v := (nI 1)) dX10_has_5 (by decide) ?_
  refine r_icmp_ne 13 dX10_has_6 (by decide) (fun c1 => ?_) (fun c1 => ?_)
  · have h := zP_neg h c1
    refine r_iconst (v := (nI 0)) dX10_has_13 (by decide) ?_
    exact r_zret (b := false) dX10_has_14 rfl rfl rfl (kR (false) h)
  · have h := zP_pos h c1
    refine r_iconst (v := (nI 1)) dX10_has_9 (by decide) ?_
    refine r_goto 14 dX10_has_10 (by decide) ?_
    exact r_zret (b := true) dX10_has_14 rfl rfl rfl (kR (true) h)
set_option maxHeartbeats 4000000 in
set_option maxRecDepth 100000 in
theorem c_X10_has {G : zzG} {t : Nat} {Q : Option Value → zzMem → Prop} (a0 : Int32) (a1 : Int32) (M : zzMem)  (h : Q (some (.int (zb (f_X10_has a0 a1)))) M) : zz_S G m_X10_has t t [.int a0, .int a1] M Q :=
  zz_S_of (by decide) (by decide) (Nat.le_of_ble_eq_true rfl) (w_X10_has_0 a0 a1 M  (P := fun r => Q (some (.int (zb r))) M) h (fun r p => p))
noncomputable def b_X10_sizeOf_4 (v1 : Int32) (v2 : Int32) : Option ((Int32 × Int32) ⊕ Int32) :=
  if v2 = 0 then
  (some ((.inr v1)))
  else (zbd ((v1 + (nI 1))) (fun x2 =>
  zbd ((v2 &&& (v2 - (nI 1)))) (fun x3 =>
  some (.inl (x2, x3)))))
set_option maxHeartbeats 4000000 in
set_option maxRecDepth 100000 in
theorem x_X10_sizeOf_4 {G : zzG} {t : Nat} {Q : Option Value → zzMem → Prop} (v1 : Int32) (v2 : Int32) (M : zzMem)  {P : ((Int32 × Int32) ⊕ Int32) → Prop} (h : zK (b_X10_sizeOf_4 v1 v2) P) (k4 : ∀ s : (Int32 × Int32), P (.inl s) → zz_W G m_X10_sizeOf t t t 4 [none, some (.int s.1), some (.int s.2)] [] M Q) (kR : ∀ r : Int32, P (.inr r) → Q (some (.int r)) M) : zz_W G m_X10_sizeOf t t t 4 [none, some (.int v1), some (.int v2)] [] M Q := by
  unfold b_X10_sizeOf_4 at h
  refine r_iload_n dX10_sizeOf_4 rfl ?_
  refine r_if_eq 21 dX10_sizeOf_5 (by decide) (fun c1 => ?_) (fun c1 => ?_)
  · have h := zK_pos h c1
    refine r_iload_n dX10_sizeOf_21 rfl ?_
    exact r_iret dX10_sizeOf_22 rfl rfl rfl (kR (v1) (zK_some h))
  · have h := zK_neg h c1
    refine r_iload_n dX10_sizeOf_8 rfl ?_
    refine r_iconst (v := (nI 1)) dX10_sizeOf_9 (by decide) ?_
    refine r_iadd dX10_sizeOf_10 ?_
    refine r_istore_n (fun x2 => [none, some (.int x2), some (.int v2)]) dX10_sizeOf_11 (by decide) rfl (fun _ => rfl) (fun x2 ex2 => ?_)
    have h := zK_bd h ex2
    refine r_iload_n dX10_sizeOf_12 rfl ?_
    refine r_iload_n dX10_sizeOf_13 rfl ?_
    refine r_iconst (v := (nI 1)) dX10_sizeOf_14 (by decide) ?_
    refine r_isub dX10_sizeOf_15 ?_
    refine r_iand dX10_sizeOf_16 ?_
    refine r_istore_n (fun x3 => [none, some (.int x2), some (.int x3)]) dX10_sizeOf_17 (by decide) rfl (fun _ => rfl) (fun x3 ex3 => ?_)
    have h := zK_bd h ex3
    refine r_goto 4 dX10_sizeOf_18 (by decide) ?_
    exact k4 ((x2, x3)) (zK_some h)
noncomputable def j_X10_sizeOf_4 (v1 : Int32) (v2 : Int32) : Option Int32 :=
  zlp (fun s : (Int32 × Int32) => b_X10_sizeOf_4 s.1 s.2) (v1, v2)
set_option maxHeartbeats 4000000 in
set_option maxRecDepth 100000 in
theorem w_X10_sizeOf_4 {G : zzG} {t : Nat} {Q : Option Value → zzMem → Prop} (v1 : Int32) (v2 : Int32) (M : zzMem)  {P : Int32 → Prop} (h : zK (j_X10_sizeOf_4 v1 v2) P) (kR : ∀ r : Int32, P r → Q (some (.int r)) M) : zz_W G m_X10_sizeOf t t t 4 [none, some (.int v1), some (.int v2)] [] M Q := by
  unfold j_X10_sizeOf_4 at h
  exact zK_lp h (fun s : (Int32 × Int32) => zz_W G m_X10_sizeOf t t t 4 [none, some (.int s.1), some (.int s.2)] [] M Q) (fun s h => x_X10_sizeOf_4 s.1 s.2 M  h (fun s p => p) kR)
noncomputable def f_X10_sizeOf (a0 : Int32) : Option Int32 :=
  j_X10_sizeOf_4 (nI 0) a0
set_option maxHeartbeats 4000000 in
set_option maxRecDepth 100000 in
theorem w_X10_sizeOf_0 {G : zzG} {t : Nat} {Q : Option Value → zzMem → Prop} (a0 : Int32) (M : zzMem)  {P : Int32 → Prop} (h : zK (f_X10_sizeOf a0) P) (kR : ∀ r : Int32, P r → Q (some (.int r)) M) : zz_W G m_X10_sizeOf t t t 0 [some (.int a0), none, none] [] M Q := by
  unfold f_X10_sizeOf at h
  refine r_iconst (v := (nI 0)) dX10_sizeOf_0 (by decide) ?_
  refine s_istore_n ([some (.int a0), some (.int (nI 0)), none]) dX10_sizeOf_1 (by decide) rfl rfl ?_
  refine r_iload_n dX10_sizeOf_2 rfl ?_
  refine s_istore_n ([some (.int a0), some (.int (nI 0)), some (.int a0)]) dX10_sizeOf_3 (by decide) rfl rfl ?_
  refine zz_mask [0] ?_
  exact w_X10_sizeOf_4 ((nI 0)) (a0) M  h kR
set_option maxHeartbeats 4000000 in
set_option maxRecDepth 100000 in
theorem c_X10_sizeOf {G : zzG} {t : Nat} {Q : Option Value → zzMem → Prop} (a0 : Int32) (M : zzMem)  {P : Int32 → Prop} (h : zK (f_X10_sizeOf a0) P) (kR : ∀ r : Int32, P r → Q (some (.int r)) M) : zz_S G m_X10_sizeOf t t [.int a0] M Q :=
  zz_S_of (by decide) (by decide) (Nat.le_of_ble_eq_true rfl) (w_X10_sizeOf_0 a0 M  h kR)
noncomputable def b_X10_copies_2 (v1 : Int32) (v2 : Int32) (v3 : Int32) (M : zzMem) : Option ((Int32 × zzMem) ⊕ zzMem) :=
  if (nI 1892) ≤ v3 then
  (some ((.inr M)))
  else (zgd (vp_in (((nI 1892) * v1) + v3) 5676) (
  zgd (vp_in (((nI 1892) * v2) + v3) 5676) (
  zbd (zz_si M 74 ((((nI 1892) * v2) + v3)).toNatClampNeg (M.1 74 ((((nI 1892) * v1) + v3)).toNatClampNeg)) (fun M4 =>
  zbd (v3 + (nI 1)) (fun x5 =>
  some (.inl (x5, M4)))))))
set_option maxHeartbeats 4000000 in
set_option maxRecDepth 100000 in
theorem x_X10_copies_2 {G : zzG} {t : Nat} {Q : Option Value → zzMem → Prop} (v1 : Int32) (v2 : Int32) (v3 : Int32) (M : zzMem) (ht : 180 ≤ t)  {P : ((Int32 × zzMem) ⊕ zzMem) → Prop} (h : zK (b_X10_copies_2 v1 v2 v3 M) P) (k2 : ∀ s : (Int32 × zzMem), P (.inl s) → zz_W G m_X10_copies t t t 2 [some (.ref 73), some (.int v1), some (.int v2), some (.int s.1)] [] s.2 Q) (kR : ∀ r : zzMem, P (.inr r) → Q none r) : zz_W G m_X10_copies t t t 2 [some (.ref 73), some (.int v1), some (.int v2), some (.int v3)] [] M Q := by
  unfold b_X10_copies_2 at h
  refine r_iload_n dX10_copies_2 rfl ?_
  refine r_sipush (v := (nI 1892)) dX10_copies_3 (by decide) ?_
  refine r_icmp_ge 39 dX10_copies_6 (by decide) (fun c1 => ?_) (fun c1 => ?_)
  · have h := zK_pos h c1
    exact r_vret dX10_copies_39 rfl rfl rfl (kR (M) (zK_some h))
  · have h := zK_neg h c1
    refine r_aload_n dX10_copies_9 rfl ?_
    refine r_getR (k := 73) (q := 74) dX10_copies_10 zf_X10_7 (zo_X10 (zs_X10 ht)) (zr_X10_0 (zs_X10 ht)).1 (zr_X10_0 (zs_X10 ht)).2.1 (zr_X10_0 (zs_X10 ht)).2.2 ?_
    refine r_sipush (v := (nI 1892)) dX10_copies_13 (by decide) ?_
    refine r_iload_n dX10_copies_16 rfl ?_
    refine r_imul dX10_copies_17 ?_
    refine r_iload_n dX10_copies_18 rfl ?_
    refine r_iadd dX10_copies_19 ?_
    refine r_aload_n dX10_copies_20 rfl ?_
    refine r_getR (k := 73) (q := 74) dX10_copies_21 zf_X10_7 (zo_X10 (zs_X10 ht)) (zr_X10_0 (zs_X10 ht)).1 (zr_X10_0 (zs_X10 ht)).2.1 (zr_X10_0 (zs_X10 ht)).2.2 ?_
    refine r_sipush (v := (nI 1892)) dX10_copies_24 (by decide) ?_
    refine r_iload_n dX10_copies_27 rfl ?_
    refine r_imul dX10_copies_28 ?_
    refine r_iload_n dX10_copies_29 rfl ?_
    refine r_iadd dX10_copies_30 ?_
    obtain ⟨g2, h⟩ := zK_gd h
    refine r_iald dX10_copies_31 (za_X10_0 (zs_X10 ht)) g2 ?_
    obtain ⟨g3, h⟩ := zK_gd h
    refine r_iast dX10_copies_32 (za_X10_0 (zs_X10 ht)) g3 (fun M4 eM4 => ?_)
    have h := zK_bd h eM4
    refine r_iinc (nI 1) (fun x5 => [some (.ref 73), some (.int v1), some (.int v2), some (.int x5)]) dX10_copies_33 rfl (by decide) (by decide) rfl (fun _ => rfl) (fun x5 ex5 => ?_)
    have h := zK_bd h ex5
    refine r_goto 2 dX10_copies_36 (by decide) ?_
    exact k2 ((x5, M4)) (zK_some h)
noncomputable def j_X10_copies_2 (v1 : Int32) (v2 : Int32) (v3 : Int32) (M : zzMem) : Option zzMem :=
  zlp (fun s : (Int32 × zzMem) => b_X10_copies_2 v1 v2 s.1 s.2) (v3, M)
set_option maxHeartbeats 4000000 in
set_option maxRecDepth 100000 in
theorem w_X10_copies_2 {G : zzG} {t : Nat} {Q : Option Value → zzMem → Prop} (v1 : Int32) (v2 : Int32) (v3 : Int32) (M : zzMem) (ht : 180 ≤ t)  {P : zzMem → Prop} (h : zK (j_X10_copies_2 v1 v2 v3 M) P) (kR : ∀ r : zzMem, P r → Q none r) : zz_W G m_X10_copies t t t 2 [some (.ref 73), some (.int v1), some (.int v2), some (.int v3)] [] M Q := by
  unfold j_X10_copies_2 at h
  exact zK_lp h (fun s : (Int32 × zzMem) => zz_W G m_X10_copies t t t 2 [some (.ref 73), some (.int v1), some (.int v2), some (.int s.1)] [] s.2 Q) (fun s h => x_X10_copies_2 v1 v2 s.1 s.2 ht h (fun s p => p) kR)
noncomputable def f_X10_copies (a1 : Int32) (a2 : Int32) (M : zzMem) : Option zzMem :=
  j_X10_copies_2 a1 a2 (nI 0) M
set_option maxHeartbeats 4000000 in
set_option maxRecDepth 100000 in
theorem w_X10_copies_0 {G : zzG} {t : Nat} {Q : Option Value → zzMem → Prop} (a1 : Int32) (a2 : Int32) (M : zzMem) (ht : 180 ≤ t)  {P : zzMem → Prop} (h : zK (f_X10_copies a1 a2 M) P) (kR : ∀ r : zzMem, P r → Q none r) : zz_W G m_X10_copies t t t 0 [some (.ref 73), some (.int a1), some (.int a2), none] [] M Q := by
  unfold f_X10_copies at h
  refine r_iconst (v := (nI 0)) dX10_copies_0 (by decide) ?_
  refine s_istore_n ([some (.ref 73), some (.int a1), some (.int a2), some (.int (nI 0))]) dX10_copies_1 (by decide) rfl rfl ?_
  exact w_X10_copies_2 (a1) (a2) ((nI 0)) M ht h kR
set_option maxHeartbeats 4000000 in
set_option maxRecDepth 100000 in
theorem c_X10_copies {G : zzG} {t : Nat} {Q : Option Value → zzMem → Prop} (a1 : Int32) (a2 : Int32) (M : zzMem) (ht : 180 ≤ t)  {P : zzMem → Prop} (h : zK (f_X10_copies a1 a2 M) P) (kR : ∀ r : zzMem, P r → Q none r) : zz_S G m_X10_copies t t [.ref 73, .int a1, .int a2] M Q :=
  zz_S_of (by decide) (by decide) (Nat.le_of_ble_eq_true rfl) (w_X10_copies_0 a1 a2 M ht h kR)
noncomputable def f_X10_shape (a1 : Int32) (a2 : Int32) (a3 : Int32) (a4 : Int32) (a5 : Int32) (M : zzMem) : Option (Bool × zzMem) :=
  if (f_X10_in a1 (nI 1) (nI 4)) = true then
  (if (f_X10_in a2 (nI 2) (nI 6)) = true then
  (if (f_X10_in a3 (nI 50) (nI 300)) = true then
  (if (f_X10_in a4 (nI 0) (nI 49)) = true then
  (if (f_X10_in a5 (nI 0) (nI 2)) = true then
  ((f_X10_empties a1 a2 a3 a4 a5 M).bind (fun M6 =>
  some ((true, M6))))
  else (some ((false, M))))
  else (some ((false, M))))
  else (some ((false, M))))
  else (some ((false, M))))
  else (some ((false, M)))
set_option maxHeartbeats 4000000 in
set_option maxRecDepth 100000 in
theorem w_X10_shape_0 {G : zzG} {t : Nat} {Q : Option Value → zzMem → Prop} (a1 : Int32) (a2 : Int32) (a3 : Int32) (a4 : Int32) (a5 : Int32) (M : zzMem) (ht : 180 ≤ t)  {P : (Bool × zzMem) → Prop} (h : zK (f_X10_shape a1 a2 a3 a4 a5 M) P) (kR : ∀ r : (Bool × zzMem), P r → Q (some (.int (zb r.1))) r.2) : zz_W G m_X10_shape t t t 0 [some (.ref 73), some (.int a1), some (.int a2), some (.int a3), some (.int a4), some (.int a5)] [] M Q := by
  unfold f_X10_shape at h
  refine r_iload_n dX10_shape_0 rfl ?_
  refine r_iconst (v := (nI 1)) dX10_shape_1 (by decide) ?_
  refine r_iconst (v := (nI 4)) dX10_shape_2 (by decide) ?_
  refine tS_zr (v := f_X10_in a1 (nI 1) (nI 4)) (as := [.int a1, .int (nI 1), .int (nI 4)]) (st := []) dX10_shape_3 zM_X10_in zk_X10_67 ⟨Nat.le_of_ble_eq_true rfl, Nat.le_of_ble_eq_true rfl⟩ (Nat.le_of_ble_eq_true rfl) (zz_T0 rfl rfl) (fun Q' h => c_X10_in (a1) ((nI 1)) ((nI 4)) M h) ?_
  refine r_ifZ_eq 52 dX10_shape_6 (by decide) (fun c1 => ?_) (fun c1 => ?_)
  · have h := zK_neg h c1
    refine r_iconst (v := (nI 0)) dX10_shape_52 (by decide) ?_
    exact r_zret (b := false) dX10_shape_53 rfl rfl rfl (kR ((false, M)) (zK_some h))
  · have h := zK_pos h c1
    refine r_iload_n dX10_shape_9 rfl ?_
    refine r_iconst (v := (nI 2)) dX10_shape_10 (by decide) ?_
    refine r_bipush (v := (nI 6)) dX10_shape_11 (by decide) ?_
    refine tS_zr (v := f_X10_in a2 (nI 2) (nI 6)) (as := [.int a2, .int (nI 2), .int (nI 6)]) (st := []) dX10_shape_13 zM_X10_in zk_X10_67 ⟨Nat.le_of_ble_eq_true rfl, Nat.le_of_ble_eq_true rfl⟩ (Nat.le_of_ble_eq_true rfl) (zz_T0 rfl rfl) (fun Q' h => c_X10_in (a2) ((nI 2)) ((nI 6)) M h) ?_
    refine r_ifZ_eq 52 dX10_shape_16 (by decide) (fun c2 => ?_) (fun c2 => ?_)
    · have h := zK_neg h c2
      refine r_iconst (v := (nI 0)) dX10_shape_52 (by decide) ?_
      exact r_zret (b := false) dX10_shape_53 rfl rfl rfl (kR ((false, M)) (zK_some h))
    · have h := zK_pos h c2
      refine r_iload_n dX10_shape_19 rfl ?_
      refine r_bipush (v := (nI 50)) dX10_shape_20 (by decide) ?_
      refine r_sipush (v := (nI 300)) dX10_shape_22 (by decide) ?_
      refine tS_zr (v := f_X10_in a3 (nI 50) (nI 300)) (as := [.int a3, .int (nI 50), .int (nI 300)]) (st := []) dX10_shape_25 zM_X10_in zk_X10_67 ⟨Nat.le_of_ble_eq_true rfl, Nat.le_of_ble_eq_true rfl⟩ (Nat.le_of_ble_eq_true rfl) (zz_T0 rfl rfl) (fun Q' h => c_X10_in (a3) ((nI 50)) ((nI 300)) M h) ?_
      refine r_ifZ_eq 52 dX10_shape_28 (by decide) (fun c3 => ?_) (fun c3 => ?_)
      · have h := zK_neg h c3
        refine r_iconst (v := (nI 0)) dX10_shape_52 (by decide) ?_
        exact r_zret (b := false) dX10_shape_53 rfl rfl rfl (kR ((false, M)) (zK_some h))
      · have h := zK_pos h c3
        refine r_iload dX10_shape_31 rfl ?_
        refine r_iconst (v := (nI 0)) dX10_shape_33 (by decide) ?_
        refine r_bipush (v := (nI 49)) dX10_shape_34 (by decide) ?_
        refine tS_zr (v := f_X10_in a4 (nI 0) (nI 49)) (as := [.int a4, .int (nI 0), .int (nI 49)]) (st := []) dX10_shape_36 zM_X10_in zk_X10_67 ⟨Nat.le_of_ble_eq_true rfl, Nat.le_of_ble_eq_true rfl⟩ (Nat.le_of_ble_eq_true rfl) (zz_T0 rfl rfl) (fun Q' h => c_X10_in (a4) ((nI 0)) ((nI 49)) M h) ?_
        refine r_ifZ_eq 52 dX10_shape_39 (by decide) (fun c4 => ?_) (fun c4 => ?_)
        · have h := zK_neg h c4
          refine r_iconst (v := (nI 0)) dX10_shape_52 (by decide) ?_
          exact r_zret (b := false) dX10_shape_53 rfl rfl rfl (kR ((false, M)) (zK_some h))
        · have h := zK_pos h c4
          refine r_iload dX10_shape_42 rfl ?_
          refine r_iconst (v := (nI 0)) dX10_shape_44 (by decide) ?_
          refine r_iconst (v := (nI 2)) dX10_shape_45 (by decide) ?_
          refine tS_zr (v := f_X10_in a5 (nI 0) (nI 2)) (as := [.int a5, .int (nI 0), .int (nI 2)]) (st := []) dX10_shape_46 zM_X10_in zk_X10_67 ⟨Nat.le_of_ble_eq_true rfl, Nat.le_of_ble_eq_true rfl⟩ (Nat.le_of_ble_eq_true rfl) (zz_T0 rfl rfl) (fun Q' h => c_X10_in (a5) ((nI 0)) ((nI 2)) M h) ?_
          refine r_ifZ_ne 54 dX10_shape_49 (by decide) (fun c5 => ?_) (fun c5 => ?_)
          · have h := zK_pos h c5
            refine r_aload_n dX10_shape_54 rfl ?_
            refine r_iload_n dX10_shape_55 rfl ?_
            refine r_iload_n dX10_shape_56 rfl ?_
            refine r_iload_n dX10_shape_57 rfl ?_
            refine r_iload dX10_shape_58 rfl ?_
            refine r_iload dX10_shape_60 rfl ?_
            refine kV_vw (as := [.int a1, .int a2, .int a3, .int a4, .int a5]) (st := []) (k := 73) dX10_shape_62 zM_X10_empties zk_X10_63 (zo_X10 (zs_X10 ht)) (by decide) rfl ⟨Nat.le_of_ble_eq_true rfl, Nat.le_of_ble_eq_true rfl⟩ (Nat.le_of_ble_eq_true rfl) (zz_T0 rfl rfl) (fun Q' P' k h => c_X10_empties (a1) (a2) (a3) (a4) (a5) M ht h k) h (fun M6 h => ?_)
            refine r_iconst (v := (nI 1)) dX10_shape_65 (by decide) ?_
            exact r_zret (b := true) dX10_shape_66 rfl rfl rfl (kR ((true, M6)) (zK_some h))
          · have h := zK_neg h c5
            refine r_iconst (v := (nI 0)) dX10_shape_52 (by decide) ?_
            exact r_zret (b := false) dX10_shape_53 rfl rfl rfl (kR ((false, M)) (zK_some h))
set_option maxHeartbeats 4000000 in
set_option maxRecDepth 100000 in
theorem c_X10_shape {G : zzG} {t : Nat} {Q : Option Value → zzMem → Prop} (a1 : Int32) (a2 : Int32) (a3 : Int32) (a4 : Int32) (a5 : Int32) (M : zzMem) (ht : 180 ≤ t)  {P : (Bool × zzMem) → Prop} (h : zK (f_X10_shape a1 a2 a3 a4 a5 M) P) (kR : ∀ r : (Bool × zzMem), P r → Q (some (.int (zb r.1))) r.2) : zz_S G m_X10_shape t t [.ref 73, .int a1, .int a2, .int a3, .int a4, .int a5] M Q :=
  zz_S_of (by decide) (by decide) (Nat.le_of_ble_eq_true rfl) (w_X10_shape_0 a1 a2 a3 a4 a5 M ht h kR)
noncomputable def b_X10_types_2 (v1 : Int32) (v2 : Int32) (M : zzMem) : Option ((Int32 × zzMem) ⊕ zzMem) :=
  if v2 < 0 then
  (some ((.inr M)))
  else (zgd (vp_in (M.1 73 6) 320) (
  zbd (zz_si M 75 ((M.1 73 6)).toNatClampNeg (vp_nar .byte (((v1 >>> (((nI 8) * v2) &&& 31))).toInt8.toInt32))) (fun M3 =>
  zbd (zz_si M3 73 6 ((M3.1 73 6) + (nI 1))) (fun M4 =>
  zbd (v2 + (-1 : Int32)) (fun x5 =>
  some (.inl (x5, M4)))))))
set_option maxHeartbeats 4000000 in
set_option maxRecDepth 100000 in
theorem x_X10_types_2 {G : zzG} {t : Nat} {Q : Option Value → zzMem → Prop} (v1 : Int32) (v2 : Int32) (M : zzMem) (ht : 180 ≤ t)  {P : ((Int32 × zzMem) ⊕ zzMem) → Prop} (h : zK (b_X10_types_2 v1 v2 M) P) (k2 : ∀ s : (Int32 × zzMem), P (.inl s) → zz_W G m_X10_types t t t 2 [some (.ref 73), some (.int v1), some (.int s.1)] [] s.2 Q) (kR : ∀ r : zzMem, P (.inr r) → Q none r) : zz_W G m_X10_types t t t 2 [some (.ref 73), some (.int v1), some (.int v2)] [] M Q := by
  unfold b_X10_types_2 at h
  refine r_iload_n dX10_types_2 rfl ?_
  refine r_if_lt 38 dX10_types_3 (by decide) (fun c1 => ?_) (fun c1 => ?_)
  · have h := zK_pos h c1
    exact r_vret dX10_types_38 rfl rfl rfl (kR (M) (zK_some h))
  · have h := zK_neg h c1
    refine r_aload_n dX10_types_6 rfl ?_
    refine r_getR (k := 73) (q := 75) dX10_types_7 zf_X10_13 (zo_X10 (zs_X10 ht)) (zr_X10_2 (zs_X10 ht)).1 (zr_X10_2 (zs_X10 ht)).2.1 (zr_X10_2 (zs_X10 ht)).2.2 ?_
    refine r_aload_n dX10_types_10 rfl ?_
    refine r_getI (k := 73) dX10_types_11 zf_X10_71 (zo_X10 (zs_X10 ht)) (zi_X10_6 (zs_X10 ht)) ?_
    refine r_iload_n dX10_types_14 rfl ?_
    refine r_bipush (v := (nI 8)) dX10_types_15 (by decide) ?_
    refine r_iload_n dX10_types_17 rfl ?_
    refine r_imul dX10_types_18 ?_
    refine r_ishr dX10_types_19 ?_
    refine r_i2b dX10_types_20 ?_
    obtain ⟨g2, h⟩ := zK_gd h
    refine r_bast dX10_types_21 (za_X10_2 (zs_X10 ht)) g2 (fun M3 eM3 => ?_)
    have h := zK_bd h eM3
    refine r_aload_n dX10_types_22 rfl ?_
    refine r_aload_n dX10_types_23 rfl ?_
    refine r_getI (k := 73) dX10_types_24 zf_X10_71 (zo_X10 (zs_X10 ht)) (zi_X10_6 (zs_X10 ht)) ?_
    refine r_iconst (v := (nI 1)) dX10_types_27 (by decide) ?_
    refine r_iadd dX10_types_28 ?_
    refine r_putI (k := 73) dX10_types_29 zp_X10_71 (zo_X10 (zs_X10 ht)) (zi_X10_6 (zs_X10 ht)) rfl rfl (fun M4 eM4 => ?_)
    have h := zK_bd h eM4
    refine r_iinc (-1 : Int32) (fun x5 => [some (.ref 73), some (.int v1), some (.int x5)]) dX10_types_32 rfl (by decide) (by decide) rfl (fun _ => rfl) (fun x5 ex5 => ?_)
    have h := zK_bd h ex5
    refine r_goto 2 dX10_types_35 (by decide) ?_
    exact k2 ((x5, M4)) (zK_some h)
noncomputable def j_X10_types_2 (v1 : Int32) (v2 : Int32) (M : zzMem) : Option zzMem :=
  zlp (fun s : (Int32 × zzMem) => b_X10_types_2 v1 s.1 s.2) (v2, M)
set_option maxHeartbeats 4000000 in
set_option maxRecDepth 100000 in
theorem w_X10_types_2 {G : zzG} {t : Nat} {Q : Option Value → zzMem → Prop} (v1 : Int32) (v2 : Int32) (M : zzMem) (ht : 180 ≤ t)  {P : zzMem → Prop} (h : zK (j_X10_types_2 v1 v2 M) P) (kR : ∀ r : zzMem, P r → Q none r) : zz_W G m_X10_types t t t 2 [some (.ref 73), some (.int v1), some (.int v2)] [] M Q := by
  unfold j_X10_types_2 at h
  exact zK_lp h (fun s : (Int32 × zzMem) => zz_W G m_X10_types t t t 2 [some (.ref 73), some (.int v1), some (.int s.1)] [] s.2 Q) (fun s h => x_X10_types_2 v1 s.1 s.2 ht h (fun s p => p) kR)
noncomputable def f_X10_types (a1 : Int32) (M : zzMem) : Option zzMem :=
  j_X10_types_2 a1 (nI 3) M
set_option maxHeartbeats 4000000 in
set_option maxRecDepth 100000 in
theorem w_X10_types_0 {G : zzG} {t : Nat} {Q : Option Value → zzMem → Prop} (a1 : Int32) (M : zzMem) (ht : 180 ≤ t)  {P : zzMem → Prop} (h : zK (f_X10_types a1 M) P) (kR : ∀ r : zzMem, P r → Q none r) : zz_W G m_X10_types t t t 0 [some (.ref 73), some (.int a1), none] [] M Q := by
  unfold f_X10_types at h
  refine r_iconst (v := (nI 3)) dX10_types_0 (by decide) ?_
  refine s_istore_n ([some (.ref 73), some (.int a1), some (.int (nI 3))]) dX10_types_1 (by decide) rfl rfl ?_
  exact w_X10_types_2 (a1) ((nI 3)) M ht h kR
set_option maxHeartbeats 4000000 in
set_option maxRecDepth 100000 in
theorem c_X10_types {G : zzG} {t : Nat} {Q : Option Value → zzMem → Prop} (a1 : Int32) (M : zzMem) (ht : 180 ≤ t)  {P : zzMem → Prop} (h : zK (f_X10_types a1 M) P) (kR : ∀ r : zzMem, P r → Q none r) : zz_S G m_X10_types t t [.ref 73, .int a1] M Q :=
  zz_S_of (by decide) (by decide) (Nat.le_of_ble_eq_true rfl) (w_X10_types_0 a1 M ht h kR)
noncomputable def f_X10_feed (a1 : Int32) (a2 : Int32) (a3 : Int32) (a4 : Int32) (a5 : Int32) (M : zzMem) : Option (Int32 × zzMem) :=
  if ((M.1 73 6) + (nI 20)) ≤ (nI 320) then
  ((f_X10_types a1 M).bind (fun M2 =>
  (f_X10_types a2 M2).bind (fun M3 =>
  (f_X10_types a3 M3).bind (fun M4 =>
  (f_X10_types a4 M4).bind (fun M5 =>
  (f_X10_types a5 M5).bind (fun M6 =>
  some (((M6.1 73 6), M6))))))))
  else (some (((-1 : Int32), M)))
set_option maxHeartbeats 4000000 in
set_option maxRecDepth 100000 in
theorem w_X10_feed_0 {G : zzG} {t : Nat} {Q : Option Value → zzMem → Prop} (a1 : Int32) (a2 : Int32) (a3 : Int32) (a4 : Int32) (a5 : Int32) (M : zzMem) (ht : 180 ≤ t)  {P : (Int32 × zzMem) → Prop} (h : zK (f_X10_feed a1 a2 a3 a4 a5 M) P) (kR : ∀ r : (Int32 × zzMem), P r → Q (some (.int r.1)) r.2) : zz_W G m_X10_feed t t t 0 [some (.ref 73), some (.int a1), some (.int a2), some (.int a3), some (.int a4), some (.int a5)] [] M Q := by
  unfold f_X10_feed at h
  refine r_aload_n dX10_feed_0 rfl ?_
  refine r_getI (k := 73) dX10_feed_1 zf_X10_71 (zo_X10 (zs_X10 ht)) (zi_X10_6 (zs_X10 ht)) ?_
  refine r_bipush (v := (nI 20)) dX10_feed_4 (by decide) ?_
  refine r_iadd dX10_feed_6 ?_
  refine r_sipush (v := (nI 320)) dX10_feed_7 (by decide) ?_
  refine r_icmp_le 15 dX10_feed_10 (by decide) (fun c1 => ?_) (fun c1 => ?_)
  · have h := zK_pos h c1
    refine r_aload_n dX10_feed_15 rfl ?_
    refine r_iload_n dX10_feed_16 rfl ?_
    refine kV_vw (as := [.int a1]) (st := []) (k := 73) dX10_feed_17 zM_X10_types zk_X10_75 (zo_X10 (zs_X10 ht)) (by decide) rfl ⟨Nat.le_of_ble_eq_true rfl, Nat.le_of_ble_eq_true rfl⟩ (Nat.le_of_ble_eq_true rfl) (zz_T0 rfl rfl) (fun Q' P' k h => c_X10_types (a1) M ht h k) h (fun M2 h => ?_)
    refine r_aload_n dX10_feed_20 rfl ?_
    refine r_iload_n dX10_feed_21 rfl ?_
    refine kV_vw (as := [.int a2]) (st := []) (k := 73) dX10_feed_22 zM_X10_types zk_X10_75 (zo_X10 (zs_X10 ht)) (by decide) rfl ⟨Nat.le_of_ble_eq_true rfl, Nat.le_of_ble_eq_true rfl⟩ (Nat.le_of_ble_eq_true rfl) (zz_T0 rfl rfl) (fun Q' P' k h => c_X10_types (a2) M2 ht h k) h (fun M3 h => ?_)
    refine r_aload_n dX10_feed_25 rfl ?_
    refine r_iload_n dX10_feed_26 rfl ?_
    refine kV_vw (as := [.int a3]) (st := []) (k := 73) dX10_feed_27 zM_X10_types zk_X10_75 (zo_X10 (zs_X10 ht)) (by decide) rfl ⟨Nat.le_of_ble_eq_true rfl, Nat.le_of_ble_eq_true rfl⟩ (Nat.le_of_ble_eq_true rfl) (zz_T0 rfl rfl) (fun Q' P' k h => c_X10_types (a3) M3 ht h k) h (fun M4 h => ?_)
    refine r_aload_n dX10_feed_30 rfl ?_
    refine r_iload dX10_feed_31 rfl ?_
    refine kV_vw (as := [.int a4]) (st := []) (k := 73) dX10_feed_33 zM_X10_types zk_X10_75 (zo_X10 (zs_X10 ht)) (by decide) rfl ⟨Nat.le_of_ble_eq_true rfl, Nat.le_of_ble_eq_true rfl⟩ (Nat.le_of_ble_eq_true rfl) (zz_T0 rfl rfl) (fun Q' P' k h => c_X10_types (a4) M4 ht h k) h (fun M5 h => ?_)
    refine r_aload_n dX10_feed_36 rfl ?_
    refine r_iload dX10_feed_37 rfl ?_
    refine kV_vw (as := [.int a5]) (st := []) (k := 73) dX10_feed_39 zM_X10_types zk_X10_75 (zo_X10 (zs_X10 ht)) (by decide) rfl ⟨Nat.le_of_ble_eq_true rfl, Nat.le_of_ble_eq_true rfl⟩ (Nat.le_of_ble_eq_true rfl) (zz_T0 rfl rfl) (fun Q' P' k h => c_X10_types (a5) M5 ht h k) h (fun M6 h => ?_)
    refine r_aload_n dX10_feed_42 rfl ?_
    refine r_getI (k := 73) dX10_feed_43 zf_X10_71 (zo_X10 (zs_X10 ht)) (zi_X10_6 (zs_X10 ht)) ?_
    exact r_iret dX10_feed_46 rfl rfl rfl (kR (((M6.1 73 6), M6)) (zK_some h))
  · have h := zK_neg h c1
    refine r_iconst (v := (-1 : Int32)) dX10_feed_13 (by decide) ?_
    exact r_iret dX10_feed_14 rfl rfl rfl (kR (((-1 : Int32), M)) (zK_some h))
set_option maxHeartbeats 4000000 in
set_option maxRecDepth 100000 in
theorem c_X10_feed {G : zzG} {t : Nat} {Q : Option Value → zzMem → Prop} (a1 : Int32) (a2 : Int32) (a3 : Int32) (a4 : Int32) (a5 : Int32) (M : zzMem) (ht : 180 ≤ t)  {P : (Int32 × zzMem) → Prop} (h : zK (f_X10_feed a1 a2 a3 a4 a5 M) P) (kR : ∀ r : (Int32 × zzMem), P r → Q (some (.int r.1)) r.2) : zz_S G m_X10_feed t t [.ref 73, .int a1, .int a2, .int a3, .int a4, .int a5] M Q :=
  zz_S_of (by decide) (by decide) (Nat.le_of_ble_eq_true rfl) (w_X10_feed_0 a1 a2 a3 a4 a5 M ht h kR)
noncomputable def f_X10_here  (M : zzMem) : Option Int32 :=
  if (M.1 73 8) ≤ (M.1 73 7) then
  (some ((-1 : Int32)))
  else (zgd (vp_in (M.1 73 7) 320) (
  some (((M.1 75 ((M.1 73 7)).toNatClampNeg) &&& (nI 255)))))
set_option maxHeartbeats 4000000 in
set_option maxRecDepth 100000 in
theorem w_X10_here_0 {G : zzG} {t : Nat} {Q : Option Value → zzMem → Prop}  (M : zzMem) (ht : 180 ≤ t)  {P : Int32 → Prop} (h : zK (f_X10_here  M) P) (kR : ∀ r : Int32, P r → Q (some (.int r)) M) : zz_W G m_X10_here t t t 0 [some (.ref 73)] [] M Q := by
  unfold f_X10_here at h
  refine r_aload_n dX10_here_0 rfl ?_
  refine r_getI (k := 73) dX10_here_1 zf_X10_79 (zo_X10 (zs_X10 ht)) (zi_X10_7 (zs_X10 ht)) ?_
  refine r_aload_n dX10_here_4 rfl ?_
  refine r_getI (k := 73) dX10_here_5 zf_X10_82 (zo_X10 (zs_X10 ht)) (zi_X10_8 (zs_X10 ht)) ?_
  refine r_icmp_ge 27 dX10_here_8 (by decide) (fun c1 => ?_) (fun c1 => ?_)
  · have h := zK_pos h c1
    refine r_iconst (v := (-1 : Int32)) dX10_here_27 (by decide) ?_
    exact r_iret dX10_here_28 rfl rfl rfl (kR ((-1 : Int32)) (zK_some h))
  · have h := zK_neg h c1
    refine r_aload_n dX10_here_11 rfl ?_
    refine r_getR (k := 73) (q := 75) dX10_here_12 zf_X10_13 (zo_X10 (zs_X10 ht)) (zr_X10_2 (zs_X10 ht)).1 (zr_X10_2 (zs_X10 ht)).2.1 (zr_X10_2 (zs_X10 ht)).2.2 ?_
    refine r_aload_n dX10_here_15 rfl ?_
    refine r_getI (k := 73) dX10_here_16 zf_X10_79 (zo_X10 (zs_X10 ht)) (zi_X10_7 (zs_X10 ht)) ?_
    obtain ⟨g2, h⟩ := zK_gd h
    refine r_bald dX10_here_19 (za_X10_2 (zs_X10 ht)) g2 ?_
    refine r_sipush (v := (nI 255)) dX10_here_20 (by decide) ?_
    refine r_iand dX10_here_23 ?_
    refine r_goto 28 dX10_here_24 (by decide) ?_
    exact r_iret dX10_here_28 rfl rfl rfl (kR (((M.1 75 ((M.1 73 7)).toNatClampNeg) &&& (nI 255))) (zK_some h))
set_option maxHeartbeats 4000000 in
set_option maxRecDepth 100000 in
theorem c_X10_here {G : zzG} {t : Nat} {Q : Option Value → zzMem → Prop}  (M : zzMem) (ht : 180 ≤ t)  {P : Int32 → Prop} (h : zK (f_X10_here  M) P) (kR : ∀ r : Int32, P r → Q (some (.int r)) M) : zz_S G m_X10_here t t [.ref 73] M Q :=
  zz_S_of (by decide) (by decide) (Nat.le_of_ble_eq_true rfl) (w_X10_here_0  M ht h kR)
noncomputable def f_X10_wrongAt (a1 : Int32) (a2 : Int32) (M : zzMem) : Option (Bool × zzMem) :=
  zbd (zz_si M 73 9 (((-1000 : Int32) * a1) - a2)) (fun M1 =>
  some ((false, M1)))
set_option maxHeartbeats 4000000 in
set_option maxRecDepth 100000 in
theorem w_X10_wrongAt_0 {G : zzG} {t : Nat} {Q : Option Value → zzMem → Prop} (a1 : Int32) (a2 : Int32) (M : zzMem) (ht : 180 ≤ t)  {P : (Bool × zzMem) → Prop} (h : zK (f_X10_wrongAt a1 a2 M) P) (kR : ∀ r : (Bool × zzMem), P r → Q (some (.int (zb r.1))) r.2) : zz_W G m_X10_wrongAt t t t 0 [some (.ref 73), some (.int a1), some (.int a2)] [] M Q := by
  unfold f_X10_wrongAt at h
  refine r_aload_n dX10_wrongAt_0 rfl ?_
  refine r_sipush (v := (-1000 : Int32)) dX10_wrongAt_1 (by decide) ?_
  refine r_iload_n dX10_wrongAt_4 rfl ?_
  refine r_imul dX10_wrongAt_5 ?_
  refine r_iload_n dX10_wrongAt_6 rfl ?_
  refine r_isub dX10_wrongAt_7 ?_
  refine r_putI (k := 73) dX10_wrongAt_8 zp_X10_85 (zo_X10 (zs_X10 ht)) (zi_X10_9 (zs_X10 ht)) rfl rfl (fun M1 eM1 => ?_)
  have h := zK_bd h eM1
  refine r_iconst (v := (nI 0)) dX10_wrongAt_11 (by decide) ?_
  exact r_zret (b := false) dX10_wrongAt_12 rfl rfl rfl (kR ((false, M1)) (zK_some h))
set_option maxHeartbeats 4000000 in
set_option maxRecDepth 100000 in
theorem c_X10_wrongAt {G : zzG} {t : Nat} {Q : Option Value → zzMem → Prop} (a1 : Int32) (a2 : Int32) (M : zzMem) (ht : 180 ≤ t)  {P : (Bool × zzMem) → Prop} (h : zK (f_X10_wrongAt a1 a2 M) P) (kR : ∀ r : (Bool × zzMem), P r → Q (some (.int (zb r.1))) r.2) : zz_S G m_X10_wrongAt t t [.ref 73, .int a1, .int a2] M Q :=
  zz_S_of (by decide) (by decide) (Nat.le_of_ble_eq_true rfl) (w_X10_wrongAt_0 a1 a2 M ht h kR)
noncomputable def f_X10_isDigit (a0 : Int32) : Bool :=
  (f_X10_in a0 (nI 48) (nI 57))
set_option maxHeartbeats 4000000 in
set_option maxRecDepth 100000 in
theorem w_X10_isDigit_0 {G : zzG} {t : Nat} {Q : Option Value → zzMem → Prop} (a0 : Int32) (M : zzMem)  {P : Bool → Prop} (h : P (f_X10_isDigit a0)) (kR : ∀ r : Bool, P r → Q (some (.int (zb r))) M) : zz_W G m_X10_isDigit t t t 0 [some (.int a0)] [] M Q := by
  unfold f_X10_isDigit at h
  refine r_iload_n dX10_isDigit_0 rfl ?_
  refine r_bipush (v := (nI 48)) dX10_isDigit_1 (by decide) ?_
  refine r_bipush (v := (nI 57)) dX10_isDigit_3 (by decide) ?_
  refine tS_zr (v := f_X10_in a0 (nI 48) (nI 57)) (as := [.int a0, .int (nI 48), .int (nI 57)]) (st := []) dX10_isDigit_5 zM_X10_in zk_X10_67 ⟨Nat.le_of_ble_eq_true rfl, Nat.le_of_ble_eq_true rfl⟩ (Nat.le_of_ble_eq_true rfl) (zz_T0 rfl rfl) (fun Q' h => c_X10_in (a0) ((nI 48)) ((nI 57)) M h) ?_
  exact r_zret (b := (f_X10_in a0 (nI 48) (nI 57))) dX10_isDigit_8 rfl rfl rfl (kR ((f_X10_in a0 (nI 48) (nI 57))) h)
set_option maxHeartbeats 4000000 in
set_option maxRecDepth 100000 in
theorem c_X10_isDigit {G : zzG} {t : Nat} {Q : Option Value → zzMem → Prop} (a0 : Int32) (M : zzMem)  (h : Q (some (.int (zb (f_X10_isDigit a0)))) M) : zz_S G m_X10_isDigit t t [.int a0] M Q :=
  zz_S_of (by decide) (by decide) (Nat.le_of_ble_eq_true rfl) (w_X10_isDigit_0 a0 M  (P := fun r => Q (some (.int (zb r))) M) h (fun r p => p))
noncomputable def j_X10_readsNumber_113  (M : zzMem) : Option (Bool × zzMem) :=
  some ((true, M))
set_option maxHeartbeats 4000000 in
set_option maxRecDepth 100000 in
theorem w_X10_readsNumber_113 {G : zzG} {t : Nat} {Q : Option Value → zzMem → Prop}  (M : zzMem) (ht : 180 ≤ t)  {P : (Bool × zzMem) → Prop} (h : zK (j_X10_readsNumber_113  M) P) (kR : ∀ r : (Bool × zzMem), P r → Q (some (.int (zb r.1))) r.2) : zz_W G m_X10_readsNumber t t t 113 [none, none, none, none] [] M Q := by
  unfold j_X10_readsNumber_113 at h
  refine r_iconst (v := (nI 1)) dX10_readsNumber_113 (by decide) ?_
  refine r_goto 118 dX10_readsNumber_114 (by decide) ?_
  exact r_zret (b := true) dX10_readsNumber_118 rfl rfl rfl (kR ((true, M)) (zK_some h))
noncomputable def b_X10_readsNumber_30 (v1 : Int32) (v2 : Int32) (v3 : Int32) (M : zzMem) : Option (zzMem ⊕ (Bool × zzMem)) :=
  (f_X10_here M).bind (fun r1 =>
  if (f_X10_isDigit r1) = true then
  (if (M.1 73 7) = (v3 + (nI 5)) then
  ((f_X10_wrongAt (nI 2) (M.1 73 7) M).bind (fun q12 => zpr q12 (fun r13 M14 =>
  some ((.inr (r13, M14))))))
  else ((f_X10_here M).bind (fun r9 =>
  zbd (zz_si M 73 10 ((((nI 10) * (M.1 73 10)) + r9) - (nI 48))) (fun M10 =>
  zbd (zz_si M10 73 7 ((M10.1 73 7) + (nI 1))) (fun M11 =>
  some (.inl M11))))))
  else (if (f_X10_in (M.1 73 10) v1 v2) = true then
  (zup (j_X10_readsNumber_113  M))
  else ((f_X10_wrongAt (nI 3) v3 M).bind (fun q4 => zpr q4 (fun r5 M6 =>
  if r5 = true then
  (zup (j_X10_readsNumber_113  M6))
  else (some ((.inr (false, M6)))))))))
set_option maxHeartbeats 4000000 in
set_option maxRecDepth 100000 in
theorem x_X10_readsNumber_30 {G : zzG} {t : Nat} {Q : Option Value → zzMem → Prop} (v1 : Int32) (v2 : Int32) (v3 : Int32) (M : zzMem) (ht : 180 ≤ t)  {P : (zzMem ⊕ (Bool × zzMem)) → Prop} (h : zK (b_X10_readsNumber_30 v1 v2 v3 M) P) (k30 : ∀ s : zzMem, P (.inl s) → zz_W G m_X10_readsNumber t t t 30 [some (.ref 73), some (.int v1), some (.int v2), some (.int v3)] [] s Q) (kR : ∀ r : (Bool × zzMem), P (.inr r) → Q (some (.int (zb r.1))) r.2) : zz_W G m_X10_readsNumber t t t 30 [some (.ref 73), some (.int v1), some (.int v2), some (.int v3)] [] M Q := by
  unfold b_X10_readsNumber_30 at h
  refine r_aload_n dX10_readsNumber_30 rfl ?_
  refine kV_ir (as := []) (st := []) (k := 73) dX10_readsNumber_31 zM_X10_here zk_X10_88 (zo_X10 (zs_X10 ht)) (by decide) rfl ⟨Nat.le_of_ble_eq_true rfl, Nat.le_of_ble_eq_true rfl⟩ (Nat.le_of_ble_eq_true rfl) (zz_T0 rfl rfl) (fun Q' P' k h => c_X10_here M ht h k) h (fun r1 h => ?_)
  refine tS_zr (v := f_X10_isDigit r1) (as := [.int r1]) (st := []) dX10_readsNumber_34 zM_X10_isDigit zk_X10_92 ⟨Nat.le_of_ble_eq_true rfl, Nat.le_of_ble_eq_true rfl⟩ (Nat.le_of_ble_eq_true rfl) (zz_T0 rfl rfl) (fun Q' h => c_X10_isDigit (r1) M h) ?_
  refine r_ifZ_eq 92 dX10_readsNumber_37 (by decide) (fun c2 => ?_) (fun c2 => ?_)
  · have h := zK_neg h c2
    refine r_aload_n dX10_readsNumber_92 rfl ?_
    refine r_getI (k := 73) dX10_readsNumber_93 zf_X10_100 (zo_X10 (zs_X10 ht)) (zi_X10_10 (zs_X10 ht)) ?_
    refine r_iload_n dX10_readsNumber_96 rfl ?_
    refine r_iload_n dX10_readsNumber_97 rfl ?_
    refine tS_zr (v := f_X10_in (M.1 73 10) v1 v2) (as := [.int (M.1 73 10), .int v1, .int v2]) (st := []) dX10_readsNumber_98 zM_X10_in zk_X10_67 ⟨Nat.le_of_ble_eq_true rfl, Nat.le_of_ble_eq_true rfl⟩ (Nat.le_of_ble_eq_true rfl) (zz_T0 rfl rfl) (fun Q' h => c_X10_in ((M.1 73 10)) (v1) (v2) M h) ?_
    refine r_ifZ_ne 113 dX10_readsNumber_101 (by decide) (fun c3 => ?_) (fun c3 => ?_)
    · have h := zK_pos h c3
      refine zz_mask [0, 1, 2, 3] ?_
      exact w_X10_readsNumber_113  M ht (zK_up h) kR
    · have h := zK_neg h c3
      refine r_aload_n dX10_readsNumber_104 rfl ?_
      refine r_iconst (v := (nI 3)) dX10_readsNumber_105 (by decide) ?_
      refine r_iload_n dX10_readsNumber_106 rfl ?_
      refine kV_zw (as := [.int (nI 3), .int v3]) (st := []) (k := 73) dX10_readsNumber_107 zM_X10_wrongAt zk_X10_96 (zo_X10 (zs_X10 ht)) (by decide) rfl ⟨Nat.le_of_ble_eq_true rfl, Nat.le_of_ble_eq_true rfl⟩ (Nat.le_of_ble_eq_true rfl) (zz_T0 rfl rfl) (fun Q' P' k h => c_X10_wrongAt ((nI 3)) (v3) M ht h (fun r p => k r.1 r.2 p)) h (fun r5 M6 h => ?_)
      have h := zK_pr h
      refine r_ifZ_eq 117 dX10_readsNumber_110 (by decide) (fun c7 => ?_) (fun c7 => ?_)
      · have h := zK_neg h c7
        refine r_iconst (v := (nI 0)) dX10_readsNumber_117 (by decide) ?_
        exact r_zret (b := false) dX10_readsNumber_118 rfl rfl rfl (kR ((false, M6)) (zK_some h))
      · have h := zK_pos h c7
        refine zz_mask [0, 1, 2, 3] ?_
        exact w_X10_readsNumber_113  M6 ht (zK_up h) kR
  · have h := zK_pos h c2
    refine r_aload_n dX10_readsNumber_40 rfl ?_
    refine r_getI (k := 73) dX10_readsNumber_41 zf_X10_79 (zo_X10 (zs_X10 ht)) (zi_X10_7 (zs_X10 ht)) ?_
    refine r_iload_n dX10_readsNumber_44 rfl ?_
    refine r_iconst (v := (nI 5)) dX10_readsNumber_45 (by decide) ?_
    refine r_iadd dX10_readsNumber_46 ?_
    refine r_icmp_ne 60 dX10_readsNumber_47 (by decide) (fun c8 => ?_) (fun c8 => ?_)
    · have h := zK_neg h c8
      refine r_aload_n dX10_readsNumber_60 rfl ?_
      refine r_bipush (v := (nI 10)) dX10_readsNumber_61 (by decide) ?_
      refine r_aload_n dX10_readsNumber_63 rfl ?_
      refine r_getI (k := 73) dX10_readsNumber_64 zf_X10_100 (zo_X10 (zs_X10 ht)) (zi_X10_10 (zs_X10 ht)) ?_
      refine r_imul dX10_readsNumber_67 ?_
      refine r_aload_n dX10_readsNumber_68 rfl ?_
      refine kV_ir (as := []) (st := [.int ((nI 10) * (M.1 73 10)), .ref 73]) (k := 73) dX10_readsNumber_69 zM_X10_here zk_X10_88 (zo_X10 (zs_X10 ht)) (by decide) rfl ⟨Nat.le_of_ble_eq_true rfl, Nat.le_of_ble_eq_true rfl⟩ (Nat.le_of_ble_eq_true rfl) (zz_T0 rfl rfl) (fun Q' P' k h => c_X10_here M ht h k) h (fun r9 h => ?_)
      refine r_iadd dX10_readsNumber_72 ?_
      refine r_bipush (v := (nI 48)) dX10_readsNumber_73 (by decide) ?_
      refine r_isub dX10_readsNumber_75 ?_
      refine r_putI (k := 73) dX10_readsNumber_76 zp_X10_100 (zo_X10 (zs_X10 ht)) (zi_X10_10 (zs_X10 ht)) rfl rfl (fun M10 eM10 => ?_)
      have h := zK_bd h eM10
      refine r_aload_n dX10_readsNumber_79 rfl ?_
      refine r_aload_n dX10_readsNumber_80 rfl ?_
      refine r_getI (k := 73) dX10_readsNumber_81 zf_X10_79 (zo_X10 (zs_X10 ht)) (zi_X10_7 (zs_X10 ht)) ?_
      refine r_iconst (v := (nI 1)) dX10_readsNumber_84 (by decide) ?_
      refine r_iadd dX10_readsNumber_85 ?_
      refine r_putI (k := 73) dX10_readsNumber_86 zp_X10_79 (zo_X10 (zs_X10 ht)) (zi_X10_7 (zs_X10 ht)) rfl rfl (fun M11 eM11 => ?_)
      have h := zK_bd h eM11
      refine r_goto 30 dX10_readsNumber_89 (by decide) ?_
      exact k30 (M11) (zK_some h)
    · have h := zK_pos h c8
      refine r_aload_n dX10_readsNumber_50 rfl ?_
      refine r_iconst (v := (nI 2)) dX10_readsNumber_51 (by decide) ?_
      refine r_aload_n dX10_readsNumber_52 rfl ?_
      refine r_getI (k := 73) dX10_readsNumber_53 zf_X10_79 (zo_X10 (zs_X10 ht)) (zi_X10_7 (zs_X10 ht)) ?_
      refine kV_zw (as := [.int (nI 2), .int (M.1 73 7)]) (st := []) (k := 73) dX10_readsNumber_56 zM_X10_wrongAt zk_X10_96 (zo_X10 (zs_X10 ht)) (by decide) rfl ⟨Nat.le_of_ble_eq_true rfl, Nat.le_of_ble_eq_true rfl⟩ (Nat.le_of_ble_eq_true rfl) (zz_T0 rfl rfl) (fun Q' P' k h => c_X10_wrongAt ((nI 2)) ((M.1 73 7)) M ht h (fun r p => k r.1 r.2 p)) h (fun r13 M14 h => ?_)
      have h := zK_pr h
      exact r_zret (b := r13) dX10_readsNumber_59 rfl rfl rfl (kR ((r13, M14)) (zK_some h))
noncomputable def j_X10_readsNumber_30 (v1 : Int32) (v2 : Int32) (v3 : Int32) (M : zzMem) : Option (Bool × zzMem) :=
  zlp (fun s : zzMem => b_X10_readsNumber_30 v1 v2 v3 s) M
set_option maxHeartbeats 4000000 in
set_option maxRecDepth 100000 in
theorem w_X10_readsNumber_30 {G : zzG} {t : Nat} {Q : Option Value → zzMem → Prop} (v1 : Int32) (v2 : Int32) (v3 : Int32) (M : zzMem) (ht : 180 ≤ t)  {P : (Bool × zzMem) → Prop} (h : zK (j_X10_readsNumber_30 v1 v2 v3 M) P) (kR : ∀ r : (Bool × zzMem), P r → Q (some (.int (zb r.1))) r.2) : zz_W G m_X10_readsNumber t t t 30 [some (.ref 73), some (.int v1), some (.int v2), some (.int v3)] [] M Q := by
  unfold j_X10_readsNumber_30 at h
  exact zK_lp h (fun s : zzMem => zz_W G m_X10_readsNumber t t t 30 [some (.ref 73), some (.int v1), some (.int v2), some (.int v3)] [] s Q) (fun s h => x_X10_readsNumber_30 v1 v2 v3 s ht h (fun s p => p) kR)
noncomputable def f_X10_readsNumber (a1 : Int32) (a2 : Int32) (M : zzMem) : Option (Bool × zzMem) :=
  zbd ((M.1 73 7)) (fun x1 =>
  (f_X10_here M).bind (fun r2 =>
  if (f_X10_isDigit r2) = true then
  (zbd (zz_si M 73 10 (nI 0)) (fun M4 =>
  j_X10_readsNumber_30 a1 a2 x1 M4))
  else ((f_X10_wrongAt (nI 1) (M.1 73 7) M).bind (fun q5 => zpr q5 (fun r6 M7 =>
  some ((r6, M7)))))))
set_option maxHeartbeats 4000000 in
set_option maxRecDepth 100000 in
theorem w_X10_readsNumber_0 {G : zzG} {t : Nat} {Q : Option Value → zzMem → Prop} (a1 : Int32) (a2 : Int32) (M : zzMem) (ht : 180 ≤ t)  {P : (Bool × zzMem) → Prop} (h : zK (f_X10_readsNumber a1 a2 M) P) (kR : ∀ r : (Bool × zzMem), P r → Q (some (.int (zb r.1))) r.2) : zz_W G m_X10_readsNumber t t t 0 [some (.ref 73), some (.int a1), some (.int a2), none] [] M Q := by
  unfold f_X10_readsNumber at h
  refine r_aload_n dX10_readsNumber_0 rfl ?_
  refine r_getI (k := 73) dX10_readsNumber_1 zf_X10_79 (zo_X10 (zs_X10 ht)) (zi_X10_7 (zs_X10 ht)) ?_
  refine r_istore_n (fun x1 => [some (.ref 73), some (.int a1), some (.int a2), some (.int x1)]) dX10_readsNumber_4 (by decide) rfl (fun _ => rfl) (fun x1 ex1 => ?_)
  have h := zK_bd h ex1
  refine r_aload_n dX10_readsNumber_5 rfl ?_
  refine kV_ir (as := []) (st := []) (k := 73) dX10_readsNumber_6 zM_X10_here zk_X10_88 (zo_X10 (zs_X10 ht)) (by decide) rfl ⟨Nat.le_of_ble_eq_true rfl, Nat.le_of_ble_eq_true rfl⟩ (Nat.le_of_ble_eq_true rfl) (zz_T0 rfl rfl) (fun Q' P' k h => c_X10_here M ht h k) h (fun r2 h => ?_)
  refine tS_zr (v := f_X10_isDigit r2) (as := [.int r2]) (st := []) dX10_readsNumber_9 zM_X10_isDigit zk_X10_92 ⟨Nat.le_of_ble_eq_true rfl, Nat.le_of_ble_eq_true rfl⟩ (Nat.le_of_ble_eq_true rfl) (zz_T0 rfl rfl) (fun Q' h => c_X10_isDigit (r2) M h) ?_
  refine r_ifZ_ne 25 dX10_readsNumber_12 (by decide) (fun c3 => ?_) (fun c3 => ?_)
  · have h := zK_pos h c3
    refine r_aload_n dX10_readsNumber_25 rfl ?_
    refine r_iconst (v := (nI 0)) dX10_readsNumber_26 (by decide) ?_
    refine r_putI (k := 73) dX10_readsNumber_27 zp_X10_100 (zo_X10 (zs_X10 ht)) (zi_X10_10 (zs_X10 ht)) rfl rfl (fun M4 eM4 => ?_)
    have h := zK_bd h eM4
    exact w_X10_readsNumber_30 (a1) (a2) (x1) M4 ht h kR
  · have h := zK_neg h c3
    refine r_aload_n dX10_readsNumber_15 rfl ?_
    refine r_iconst (v := (nI 1)) dX10_readsNumber_16 (by decide) ?_
    refine r_aload_n dX10_readsNumber_17 rfl ?_
    refine r_getI (k := 73) dX10_readsNumber_18 zf_X10_79 (zo_X10 (zs_X10 ht)) (zi_X10_7 (zs_X10 ht)) ?_
    refine kV_zw (as := [.int (nI 1), .int (M.1 73 7)]) (st := []) (k := 73) dX10_readsNumber_21 zM_X10_wrongAt zk_X10_96 (zo_X10 (zs_X10 ht)) (by decide) rfl ⟨Nat.le_of_ble_eq_true rfl, Nat.le_of_ble_eq_true rfl⟩ (Nat.le_of_ble_eq_true rfl) (zz_T0 rfl rfl) (fun Q' P' k h => c_X10_wrongAt ((nI 1)) ((M.1 73 7)) M ht h (fun r p => k r.1 r.2 p)) h (fun r6 M7 h => ?_)
    have h := zK_pr h
    exact r_zret (b := r6) dX10_readsNumber_24 rfl rfl rfl (kR ((r6, M7)) (zK_some h))
set_option maxHeartbeats 4000000 in
set_option maxRecDepth 100000 in
theorem c_X10_readsNumber {G : zzG} {t : Nat} {Q : Option Value → zzMem → Prop} (a1 : Int32) (a2 : Int32) (M : zzMem) (ht : 180 ≤ t)  {P : (Bool × zzMem) → Prop} (h : zK (f_X10_readsNumber a1 a2 M) P) (kR : ∀ r : (Bool × zzMem), P r → Q (some (.int (zb r.1))) r.2) : zz_S G m_X10_readsNumber t t [.ref 73, .int a1, .int a2] M Q :=
  zz_S_of (by decide) (by decide) (Nat.le_of_ble_eq_true rfl) (w_X10_readsNumber_0 a1 a2 M ht h kR)
noncomputable def f_X10_notes (a1 : Int32) (a2 : Int32) (M : zzMem) : Option zzMem :=
  zgd (vp_in (M.1 73 11) 140) (
  zbd (zz_si M 76 ((M.1 73 11)).toNatClampNeg (((nI 65536) * a1) + a2)) (fun M2 =>
  zbd (zz_si M2 73 11 ((M2.1 73 11) + (nI 1))) (fun M3 =>
  some M3)))
set_option maxHeartbeats 4000000 in
set_option maxRecDepth 100000 in
theorem w_X10_notes_0 {G : zzG} {t : Nat} {Q : Option Value → zzMem → Prop} (a1 : Int32) (a2 : Int32) (M : zzMem) (ht : 180 ≤ t)  {P : zzMem → Prop} (h : zK (f_X10_notes a1 a2 M) P) (kR : ∀ r : zzMem, P r → Q none r) : zz_W G m_X10_notes t t t 0 [some (.ref 73), some (.int a1), some (.int a2)] [] M Q := by
  unfold f_X10_notes at h
  refine r_aload_n dX10_notes_0 rfl ?_
  refine r_getR (k := 73) (q := 76) dX10_notes_1 zf_X10_17 (zo_X10 (zs_X10 ht)) (zr_X10_3 (zs_X10 ht)).1 (zr_X10_3 (zs_X10 ht)).2.1 (zr_X10_3 (zs_X10 ht)).2.2 ?_
  refine r_aload_n dX10_notes_4 rfl ?_
  refine r_getI (k := 73) dX10_notes_5 zf_X10_103 (zo_X10 (zs_X10 ht)) (zi_X10_11 (zs_X10 ht)) ?_
  refine r_ldc (v := (nI 65536)) dX10_notes_8 zd_X10_62 ?_
  refine r_iload_n dX10_notes_10 rfl ?_
  refine r_imul dX10_notes_11 ?_
  refine r_iload_n dX10_notes_12 rfl ?_
  refine r_iadd dX10_notes_13 ?_
  obtain ⟨g1, h⟩ := zK_gd h
  refine r_iast dX10_notes_14 (za_X10_3 (zs_X10 ht)) g1 (fun M2 eM2 => ?_)
  have h := zK_bd h eM2
  refine r_aload_n dX10_notes_15 rfl ?_
  refine r_aload_n dX10_notes_16 rfl ?_
  refine r_getI (k := 73) dX10_notes_17 zf_X10_103 (zo_X10 (zs_X10 ht)) (zi_X10_11 (zs_X10 ht)) ?_
  refine r_iconst (v := (nI 1)) dX10_notes_20 (by decide) ?_
  refine r_iadd dX10_notes_21 ?_
  refine r_putI (k := 73) dX10_notes_22 zp_X10_103 (zo_X10 (zs_X10 ht)) (zi_X10_11 (zs_X10 ht)) rfl rfl (fun M3 eM3 => ?_)
  have h := zK_bd h eM3
  exact r_vret dX10_notes_25 rfl rfl rfl (kR (M3) (zK_some h))
set_option maxHeartbeats 4000000 in
set_option maxRecDepth 100000 in
theorem c_X10_notes {G : zzG} {t : Nat} {Q : Option Value → zzMem → Prop} (a1 : Int32) (a2 : Int32) (M : zzMem) (ht : 180 ≤ t)  {P : zzMem → Prop} (h : zK (f_X10_notes a1 a2 M) P) (kR : ∀ r : zzMem, P r → Q none r) : zz_S G m_X10_notes t t [.ref 73, .int a1, .int a2] M Q :=
  zz_S_of (by decide) (by decide) (Nat.le_of_ble_eq_true rfl) (w_X10_notes_0 a1 a2 M ht h kR)
noncomputable def f_X10_waitsFor (a1 : Int32) (a2 : Int32) (M : zzMem) : Option zzMem :=
  zgd (vp_in (M.1 73 12) 70) (
  zbd (zz_si M 77 ((M.1 73 12)).toNatClampNeg (((nI 65536) * a1) + a2)) (fun M2 =>
  zbd (zz_si M2 73 12 ((M2.1 73 12) + (nI 1))) (fun M3 =>
  some M3)))
set_option maxHeartbeats 4000000 in
set_option maxRecDepth 100000 in
theorem w_X10_waitsFor_0 {G : zzG} {t : Nat} {Q : Option Value → zzMem → Prop} (a1 : Int32) (a2 : Int32) (M : zzMem) (ht : 180 ≤ t)  {P : zzMem → Prop} (h : zK (f_X10_waitsFor a1 a2 M) P) (kR : ∀ r : zzMem, P r → Q none r) : zz_W G m_X10_waitsFor t t t 0 [some (.ref 73), some (.int a1), some (.int a2)] [] M Q := by
  unfold f_X10_waitsFor at h
  refine r_aload_n dX10_waitsFor_0 rfl ?_
  refine r_getR (k := 73) (q := 77) dX10_waitsFor_1 zf_X10_20 (zo_X10 (zs_X10 ht)) (zr_X10_4 (zs_X10 ht)).1 (zr_X10_4 (zs_X10 ht)).2.1 (zr_X10_4 (zs_X10 ht)).2.2 ?_
  refine r_aload_n dX10_waitsFor_4 rfl ?_
  refine r_getI (k := 73) dX10_waitsFor_5 zf_X10_106 (zo_X10 (zs_X10 ht)) (zi_X10_12 (zs_X10 ht)) ?_
  refine r_ldc (v := (nI 65536)) dX10_waitsFor_8 zd_X10_62 ?_
  refine r_iload_n dX10_waitsFor_10 rfl ?_
  refine r_imul dX10_waitsFor_11 ?_
  refine r_iload_n dX10_waitsFor_12 rfl ?_
  refine r_iadd dX10_waitsFor_13 ?_
  obtain ⟨g1, h⟩ := zK_gd h
  refine r_iast dX10_waitsFor_14 (za_X10_4 (zs_X10 ht)) g1 (fun M2 eM2 => ?_)
  have h := zK_bd h eM2
  refine r_aload_n dX10_waitsFor_15 rfl ?_
  refine r_aload_n dX10_waitsFor_16 rfl ?_
  refine r_getI (k := 73) dX10_waitsFor_17 zf_X10_106 (zo_X10 (zs_X10 ht)) (zi_X10_12 (zs_X10 ht)) ?_
  refine r_iconst (v := (nI 1)) dX10_waitsFor_20 (by decide) ?_
  refine r_iadd dX10_waitsFor_21 ?_
  refine r_putI (k := 73) dX10_waitsFor_22 zp_X10_106 (zo_X10 (zs_X10 ht)) (zi_X10_12 (zs_X10 ht)) rfl rfl (fun M3 eM3 => ?_)
  have h := zK_bd h eM3
  exact r_vret dX10_waitsFor_25 rfl rfl rfl (kR (M3) (zK_some h))
set_option maxHeartbeats 4000000 in
set_option maxRecDepth 100000 in
theorem c_X10_waitsFor {G : zzG} {t : Nat} {Q : Option Value → zzMem → Prop} (a1 : Int32) (a2 : Int32) (M : zzMem) (ht : 180 ≤ t)  {P : zzMem → Prop} (h : zK (f_X10_waitsFor a1 a2 M) P) (kR : ∀ r : zzMem, P r → Q none r) : zz_S G m_X10_waitsFor t t [.ref 73, .int a1, .int a2] M Q :=
  zz_S_of (by decide) (by decide) (Nat.le_of_ble_eq_true rfl) (w_X10_waitsFor_0 a1 a2 M ht h kR)
noncomputable def f_X10_uppermost  (M : zzMem) : Option Int32 :=
  if (M.1 73 12) = 0 then
  (some ((-1 : Int32)))
  else (zgd (vp_in ((M.1 73 12) - (nI 1)) 70) (
  some (((M.1 77 (((M.1 73 12) - (nI 1))).toNatClampNeg) / (nI 65536)))))
set_option maxHeartbeats 4000000 in
set_option maxRecDepth 100000 in
theorem w_X10_uppermost_0 {G : zzG} {t : Nat} {Q : Option Value → zzMem → Prop}  (M : zzMem) (ht : 180 ≤ t)  {P : Int32 → Prop} (h : zK (f_X10_uppermost  M) P) (kR : ∀ r : Int32, P r → Q (some (.int r)) M) : zz_W G m_X10_uppermost t t t 0 [some (.ref 73)] [] M Q := by
  unfold f_X10_uppermost at h
  refine r_aload_n dX10_uppermost_0 rfl ?_
  refine r_getI (k := 73) dX10_uppermost_1 zf_X10_106 (zo_X10 (zs_X10 ht)) (zi_X10_12 (zs_X10 ht)) ?_
  refine r_if_ne 11 dX10_uppermost_4 (by decide) (fun c1 => ?_) (fun c1 => ?_)
  · have h := zK_neg h c1
    refine r_aload_n dX10_uppermost_11 rfl ?_
    refine r_getR (k := 73) (q := 77) dX10_uppermost_12 zf_X10_20 (zo_X10 (zs_X10 ht)) (zr_X10_4 (zs_X10 ht)).1 (zr_X10_4 (zs_X10 ht)).2.1 (zr_X10_4 (zs_X10 ht)).2.2 ?_
    refine r_aload_n dX10_uppermost_15 rfl ?_
    refine r_getI (k := 73) dX10_uppermost_16 zf_X10_106 (zo_X10 (zs_X10 ht)) (zi_X10_12 (zs_X10 ht)) ?_
    refine r_iconst (v := (nI 1)) dX10_uppermost_19 (by decide) ?_
    refine r_isub dX10_uppermost_20 ?_
    obtain ⟨g2, h⟩ := zK_gd h
    refine r_iald dX10_uppermost_21 (za_X10_4 (zs_X10 ht)) g2 ?_
    refine r_ldc (v := (nI 65536)) dX10_uppermost_22 zd_X10_62 ?_
    refine r_idiv dX10_uppermost_24 (by decide) ?_
    exact r_iret dX10_uppermost_25 rfl rfl rfl (kR (((M.1 77 (((M.1 73 12) - (nI 1))).toNatClampNeg) / (nI 65536))) (zK_some h))
  · have h := zK_pos h c1
    refine r_iconst (v := (-1 : Int32)) dX10_uppermost_7 (by decide) ?_
    refine r_goto 25 dX10_uppermost_8 (by decide) ?_
    exact r_iret dX10_uppermost_25 rfl rfl rfl (kR ((-1 : Int32)) (zK_some h))
set_option maxHeartbeats 4000000 in
set_option maxRecDepth 100000 in
theorem c_X10_uppermost {G : zzG} {t : Nat} {Q : Option Value → zzMem → Prop}  (M : zzMem) (ht : 180 ≤ t)  {P : Int32 → Prop} (h : zK (f_X10_uppermost  M) P) (kR : ∀ r : Int32, P r → Q (some (.int r)) M) : zz_S G m_X10_uppermost t t [.ref 73] M Q :=
  zz_S_of (by decide) (by decide) (Nat.le_of_ble_eq_true rfl) (w_X10_uppermost_0  M ht h kR)
noncomputable def j_X10_opens_99 (v1 : Int32) (v2 : Int32) (M : zzMem) : Option (Bool × zzMem) :=
  (f_X10_waitsFor v1 v2 M).bind (fun M1 =>
  some ((true, M1)))
set_option maxHeartbeats 4000000 in
set_option maxRecDepth 100000 in
theorem w_X10_opens_99 {G : zzG} {t : Nat} {Q : Option Value → zzMem → Prop} (v1 : Int32) (v2 : Int32) (M : zzMem) (ht : 180 ≤ t)  {P : (Bool × zzMem) → Prop} (h : zK (j_X10_opens_99 v1 v2 M) P) (kR : ∀ r : (Bool × zzMem), P r → Q (some (.int (zb r.1))) r.2) : zz_W G m_X10_opens t t t 99 [some (.ref 73), some (.int v1), some (.int v2)] [] M Q := by
  unfold j_X10_opens_99 at h
  refine r_aload_n dX10_opens_99 rfl ?_
  refine r_iload_n dX10_opens_100 rfl ?_
  refine r_iload_n dX10_opens_101 rfl ?_
  refine kV_vw (as := [.int v1, .int v2]) (st := []) (k := 73) dX10_opens_102 zM_X10_waitsFor zk_X10_112 (zo_X10 (zs_X10 ht)) (by decide) rfl ⟨Nat.le_of_ble_eq_true rfl, Nat.le_of_ble_eq_true rfl⟩ (Nat.le_of_ble_eq_true rfl) (zz_T0 rfl rfl) (fun Q' P' k h => c_X10_waitsFor (v1) (v2) M ht h k) h (fun M1 h => ?_)
  refine r_iconst (v := (nI 1)) dX10_opens_105 (by decide) ?_
  exact r_zret (b := true) dX10_opens_106 rfl rfl rfl (kR ((true, M1)) (zK_some h))
noncomputable def f_X10_opens (a1 : Int32) (M : zzMem) : Option (Bool × zzMem) :=
  if (M.1 73 13) = (nI 6) then
  ((f_X10_wrongAt (nI 5) (M.1 73 7) M).bind (fun q17 => zpr q17 (fun r18 M19 =>
  some ((r18, M19)))))
  else (zbd (zz_si M 73 13 ((M.1 73 13) + (nI 1))) (fun M2 =>
  zbd (zz_si M2 73 7 ((M2.1 73 7) + (nI 1))) (fun M3 =>
  if a1 = (nI 11) then
  ((f_X10_here M3).bind (fun r5 =>
  if (f_X10_isDigit r5) = true then
  ((f_X10_here M3).bind (fun r7 =>
  zbd ((r7 - (nI 48))) (fun x8 =>
  if x8 = 0 then
  ((f_X10_wrongAt (nI 3) (M3.1 73 7) M3).bind (fun q11 => zpr q11 (fun r12 M13 =>
  some ((r12, M13)))))
  else (zbd (zz_si M3 73 7 ((M3.1 73 7) + (nI 1))) (fun M10 =>
  j_X10_opens_99 a1 x8 M10)))))
  else ((f_X10_wrongAt (nI 1) (M3.1 73 7) M3).bind (fun q14 => zpr q14 (fun r15 M16 =>
  some ((r15, M16)))))))
  else (j_X10_opens_99 a1 (nI 0) M3))))
set_option maxHeartbeats 4000000 in
set_option maxRecDepth 100000 in
theorem w_X10_opens_0 {G : zzG} {t : Nat} {Q : Option Value → zzMem → Prop} (a1 : Int32) (M : zzMem) (ht : 180 ≤ t)  {P : (Bool × zzMem) → Prop} (h : zK (f_X10_opens a1 M) P) (kR : ∀ r : (Bool × zzMem), P r → Q (some (.int (zb r.1))) r.2) : zz_W G m_X10_opens t t t 0 [some (.ref 73), some (.int a1), none] [] M Q := by
  unfold f_X10_opens at h
  refine r_aload_n dX10_opens_0 rfl ?_
  refine r_getI (k := 73) dX10_opens_1 zf_X10_109 (zo_X10 (zs_X10 ht)) (zi_X10_13 (zs_X10 ht)) ?_
  refine r_bipush (v := (nI 6)) dX10_opens_4 (by decide) ?_
  refine r_icmp_ne 19 dX10_opens_6 (by decide) (fun c1 => ?_) (fun c1 => ?_)
  · have h := zK_neg h c1
    refine r_aload_n dX10_opens_19 rfl ?_
    refine r_aload_n dX10_opens_20 rfl ?_
    refine r_getI (k := 73) dX10_opens_21 zf_X10_109 (zo_X10 (zs_X10 ht)) (zi_X10_13 (zs_X10 ht)) ?_
    refine r_iconst (v := (nI 1)) dX10_opens_24 (by decide) ?_
    refine r_iadd dX10_opens_25 ?_
    refine r_putI (k := 73) dX10_opens_26 zp_X10_109 (zo_X10 (zs_X10 ht)) (zi_X10_13 (zs_X10 ht)) rfl rfl (fun M2 eM2 => ?_)
    have h := zK_bd h eM2
    refine r_aload_n dX10_opens_29 rfl ?_
    refine r_aload_n dX10_opens_30 rfl ?_
    refine r_getI (k := 73) dX10_opens_31 zf_X10_79 (zo_X10 (zs_X10 ht)) (zi_X10_7 (zs_X10 ht)) ?_
    refine r_iconst (v := (nI 1)) dX10_opens_34 (by decide) ?_
    refine r_iadd dX10_opens_35 ?_
    refine r_putI (k := 73) dX10_opens_36 zp_X10_79 (zo_X10 (zs_X10 ht)) (zi_X10_7 (zs_X10 ht)) rfl rfl (fun M3 eM3 => ?_)
    have h := zK_bd h eM3
    refine r_iconst (v := (nI 0)) dX10_opens_39 (by decide) ?_
    refine s_istore_n ([some (.ref 73), some (.int a1), some (.int (nI 0))]) dX10_opens_40 (by decide) rfl rfl ?_
    refine r_iload_n dX10_opens_41 rfl ?_
    refine r_bipush (v := (nI 11)) dX10_opens_42 (by decide) ?_
    refine r_icmp_ne 99 dX10_opens_44 (by decide) (fun c4 => ?_) (fun c4 => ?_)
    · have h := zK_neg h c4
      exact w_X10_opens_99 (a1) ((nI 0)) M3 ht h kR
    · have h := zK_pos h c4
      refine r_aload_n dX10_opens_47 rfl ?_
      refine kV_ir (as := []) (st := []) (k := 73) dX10_opens_48 zM_X10_here zk_X10_88 (zo_X10 (zs_X10 ht)) (by decide) rfl ⟨Nat.le_of_ble_eq_true rfl, Nat.le_of_ble_eq_true rfl⟩ (Nat.le_of_ble_eq_true rfl) (zz_T0 rfl rfl) (fun Q' P' k h => c_X10_here M3 ht h k) h (fun r5 h => ?_)
      refine tS_zr (v := f_X10_isDigit r5) (as := [.int r5]) (st := []) dX10_opens_51 zM_X10_isDigit zk_X10_92 ⟨Nat.le_of_ble_eq_true rfl, Nat.le_of_ble_eq_true rfl⟩ (Nat.le_of_ble_eq_true rfl) (zz_T0 rfl rfl) (fun Q' h => c_X10_isDigit (r5) M3 h) ?_
      refine r_ifZ_ne 67 dX10_opens_54 (by decide) (fun c6 => ?_) (fun c6 => ?_)
      · have h := zK_pos h c6
        refine r_aload_n dX10_opens_67 rfl ?_
        refine kV_ir (as := []) (st := []) (k := 73) dX10_opens_68 zM_X10_here zk_X10_88 (zo_X10 (zs_X10 ht)) (by decide) rfl ⟨Nat.le_of_ble_eq_true rfl, Nat.le_of_ble_eq_true rfl⟩ (Nat.le_of_ble_eq_true rfl) (zz_T0 rfl rfl) (fun Q' P' k h => c_X10_here M3 ht h k) h (fun r7 h => ?_)
        refine r_bipush (v := (nI 48)) dX10_opens_71 (by decide) ?_
        refine r_isub dX10_opens_73 ?_
        refine r_istore_n (fun x8 => [some (.ref 73), some (.int a1), some (.int x8)]) dX10_opens_74 (by decide) rfl (fun _ => rfl) (fun x8 ex8 => ?_)
        have h := zK_bd h ex8
        refine r_iload_n dX10_opens_75 rfl ?_
        refine r_if_ne 89 dX10_opens_76 (by decide) (fun c9 => ?_) (fun c9 => ?_)
        · have h := zK_neg h c9
          refine r_aload_n dX10_opens_89 rfl ?_
          refine r_aload_n dX10_opens_90 rfl ?_
          refine r_getI (k := 73) dX10_opens_91 zf_X10_79 (zo_X10 (zs_X10 ht)) (zi_X10_7 (zs_X10 ht)) ?_
          refine r_iconst (v := (nI 1)) dX10_opens_94 (by decide) ?_
          refine r_iadd dX10_opens_95 ?_
          refine r_putI (k := 73) dX10_opens_96 zp_X10_79 (zo_X10 (zs_X10 ht)) (zi_X10_7 (zs_X10 ht)) rfl rfl (fun M10 eM10 => ?_)
          have h := zK_bd h eM10
          exact w_X10_opens_99 (a1) (x8) M10 ht h kR
        · have h := zK_pos h c9
          refine r_aload_n dX10_opens_79 rfl ?_
          refine r_iconst (v := (nI 3)) dX10_opens_80 (by decide) ?_
          refine r_aload_n dX10_opens_81 rfl ?_
          refine r_getI (k := 73) dX10_opens_82 zf_X10_79 (zo_X10 (zs_X10 ht)) (zi_X10_7 (zs_X10 ht)) ?_
          refine kV_zw (as := [.int (nI 3), .int (M3.1 73 7)]) (st := []) (k := 73) dX10_opens_85 zM_X10_wrongAt zk_X10_96 (zo_X10 (zs_X10 ht)) (by decide) rfl ⟨Nat.le_of_ble_eq_true rfl, Nat.le_of_ble_eq_true rfl⟩ (Nat.le_of_ble_eq_true rfl) (zz_T0 rfl rfl) (fun Q' P' k h => c_X10_wrongAt ((nI 3)) ((M3.1 73 7)) M3 ht h (fun r p => k r.1 r.2 p)) h (fun r12 M13 h => ?_)
          have h := zK_pr h
          exact r_zret (b := r12) dX10_opens_88 rfl rfl rfl (kR ((r12, M13)) (zK_some h))
      · have h := zK_neg h c6
        refine r_aload_n dX10_opens_57 rfl ?_
        refine r_iconst (v := (nI 1)) dX10_opens_58 (by decide) ?_
        refine r_aload_n dX10_opens_59 rfl ?_
        refine r_getI (k := 73) dX10_opens_60 zf_X10_79 (zo_X10 (zs_X10 ht)) (zi_X10_7 (zs_X10 ht)) ?_
        refine kV_zw (as := [.int (nI 1), .int (M3.1 73 7)]) (st := []) (k := 73) dX10_opens_63 zM_X10_wrongAt zk_X10_96 (zo_X10 (zs_X10 ht)) (by decide) rfl ⟨Nat.le_of_ble_eq_true rfl, Nat.le_of_ble_eq_true rfl⟩ (Nat.le_of_ble_eq_true rfl) (zz_T0 rfl rfl) (fun Q' P' k h => c_X10_wrongAt ((nI 1)) ((M3.1 73 7)) M3 ht h (fun r p => k r.1 r.2 p)) h (fun r15 M16 h => ?_)
        have h := zK_pr h
        exact r_zret (b := r15) dX10_opens_66 rfl rfl rfl (kR ((r15, M16)) (zK_some h))
  · have h := zK_pos h c1
    refine r_aload_n dX10_opens_9 rfl ?_
    refine r_iconst (v := (nI 5)) dX10_opens_10 (by decide) ?_
    refine r_aload_n dX10_opens_11 rfl ?_
    refine r_getI (k := 73) dX10_opens_12 zf_X10_79 (zo_X10 (zs_X10 ht)) (zi_X10_7 (zs_X10 ht)) ?_
    refine kV_zw (as := [.int (nI 5), .int (M.1 73 7)]) (st := []) (k := 73) dX10_opens_15 zM_X10_wrongAt zk_X10_96 (zo_X10 (zs_X10 ht)) (by decide) rfl ⟨Nat.le_of_ble_eq_true rfl, Nat.le_of_ble_eq_true rfl⟩ (Nat.le_of_ble_eq_true rfl) (zz_T0 rfl rfl) (fun Q' P' k h => c_X10_wrongAt ((nI 5)) ((M.1 73 7)) M ht h (fun r p => k r.1 r.2 p)) h (fun r18 M19 h => ?_)
    have h := zK_pr h
    exact r_zret (b := r18) dX10_opens_18 rfl rfl rfl (kR ((r18, M19)) (zK_some h))
set_option maxHeartbeats 4000000 in
set_option maxRecDepth 100000 in
theorem c_X10_opens {G : zzG} {t : Nat} {Q : Option Value → zzMem → Prop} (a1 : Int32) (M : zzMem) (ht : 180 ≤ t)  {P : (Bool × zzMem) → Prop} (h : zK (f_X10_opens a1 M) P) (kR : ∀ r : (Bool × zzMem), P r → Q (some (.int (zb r.1))) r.2) : zz_S G m_X10_opens t t [.ref 73, .int a1] M Q :=
  zz_S_of (by decide) (by decide) (Nat.le_of_ble_eq_true rfl) (w_X10_opens_0 a1 M ht h kR)
noncomputable def f_X10_opener (a0 : Int32) : Int32 :=
  if a0 = (nI 40) then
  ((nI 13))
  else (if a0 = (nI 126) then
  ((nI 10))
  else (if a0 = (nI 60) then
  ((nI 11))
  else (if a0 = (nI 114) then
  ((nI 12))
  else ((-1 : Int32)))))
set_option maxHeartbeats 4000000 in
set_option maxRecDepth 100000 in
theorem w_X10_opener_0 {G : zzG} {t : Nat} {Q : Option Value → zzMem → Prop} (a0 : Int32) (M : zzMem)  {P : Int32 → Prop} (h : P (f_X10_opener a0)) (kR : ∀ r : Int32, P r → Q (some (.int r)) M) : zz_W G m_X10_opener t t t 0 [some (.int a0)] [] M Q := by
  unfold f_X10_opener at h
  refine r_iload_n dX10_opener_0 rfl ?_
  refine r_bipush (v := (nI 40)) dX10_opener_1 (by decide) ?_
  refine r_icmp_ne 11 dX10_opener_3 (by decide) (fun c1 => ?_) (fun c1 => ?_)
  · have h := zP_neg h c1
    refine r_iload_n dX10_opener_11 rfl ?_
    refine r_bipush (v := (nI 126)) dX10_opener_12 (by decide) ?_
    refine r_icmp_ne 22 dX10_opener_14 (by decide) (fun c2 => ?_) (fun c2 => ?_)
    · have h := zP_neg h c2
      refine r_iload_n dX10_opener_22 rfl ?_
      refine r_bipush (v := (nI 60)) dX10_opener_23 (by decide) ?_
      refine r_icmp_ne 33 dX10_opener_25 (by decide) (fun c3 => ?_) (fun c3 => ?_)
      · have h := zP_neg h c3
        refine r_iload_n dX10_opener_33 rfl ?_
        refine r_bipush (v := (nI 114)) dX10_opener_34 (by decide) ?_
        refine r_icmp_ne 44 dX10_opener_36 (by decide) (fun c4 => ?_) (fun c4 => ?_)
        · have h := zP_neg h c4
          refine r_iconst (v := (-1 : Int32)) dX10_opener_44 (by decide) ?_
          exact r_iret dX10_opener_45 rfl rfl rfl (kR ((-1 : Int32)) h)
        · have h := zP_pos h c4
          refine r_bipush (v := (nI 12)) dX10_opener_39 (by decide) ?_
          refine r_goto 45 dX10_opener_41 (by decide) ?_
          exact r_iret dX10_opener_45 rfl rfl rfl (kR ((nI 12)) h)
      · have h := zP_pos h c3
        refine r_bipush (v := (nI 11)) dX10_opener_28 (by decide) ?_
        refine r_goto 45 dX10_opener_30 (by decide) ?_
        exact r_iret dX10_opener_45 rfl rfl rfl (kR ((nI 11)) h)
    · have h := zP_pos h c2
      refine r_bipush (v := (nI 10)) dX10_opener_17 (by decide) ?_
      refine r_goto 45 dX10_opener_19 (by decide) ?_
      exact r_iret dX10_opener_45 rfl rfl rfl (kR ((nI 10)) h)
  · have h := zP_pos h c1
    refine r_bipush (v := (nI 13)) dX10_opener_6 (by decide) ?_
    refine r_goto 45 dX10_opener_8 (by decide) ?_
    exact r_iret dX10_opener_45 rfl rfl rfl (kR ((nI 13)) h)
set_option maxHeartbeats 4000000 in
set_option maxRecDepth 100000 in
theorem c_X10_opener {G : zzG} {t : Nat} {Q : Option Value → zzMem → Prop} (a0 : Int32) (M : zzMem)  (h : Q (some (.int (f_X10_opener a0))) M) : zz_S G m_X10_opener t t [.int a0] M Q :=
  zz_S_of (by decide) (by decide) (Nat.le_of_ble_eq_true rfl) (w_X10_opener_0 a0 M  (P := fun r => Q (some (.int r)) M) h (fun r p => p))
noncomputable def b_X10_settles_0  (M : zzMem) : Option (zzMem ⊕ zzMem) :=
  (f_X10_uppermost M).bind (fun r1 =>
  if (f_X10_in r1 (nI 10) (nI 12)) = true then
  ((f_X10_uppermost M).bind (fun r8 =>
  zgd (vp_in ((M.1 73 12) - (nI 1)) 70) (
  (f_X10_notes r8 (zrm (M.1 77 (((M.1 73 12) - (nI 1))).toNatClampNeg) (nI 65536)) M).bind (fun M10 =>
  zbd (zz_si M10 73 12 ((M10.1 73 12) - (nI 1))) (fun M11 =>
  zbd (zz_si M11 73 13 ((M11.1 73 13) - (nI 1))) (fun M12 =>
  some (.inl M12)))))))
  else ((f_X10_uppermost M).bind (fun r3 =>
  if (f_X10_in r3 (nI 2) (nI 9)) = true then
  ((f_X10_uppermost M).bind (fun r5 =>
  (f_X10_notes r5 (nI 0) M).bind (fun M6 =>
  zbd (zz_si M6 73 12 ((M6.1 73 12) - (nI 1))) (fun M7 =>
  some ((.inr M7))))))
  else (some ((.inr M))))))
set_option maxHeartbeats 4000000 in
set_option maxRecDepth 100000 in
theorem x_X10_settles_0 {G : zzG} {t : Nat} {Q : Option Value → zzMem → Prop}  (M : zzMem) (ht : 180 ≤ t)  {P : (zzMem ⊕ zzMem) → Prop} (h : zK (b_X10_settles_0  M) P) (k0 : ∀ s : zzMem, P (.inl s) → zz_W G m_X10_settles t t t 0 [some (.ref 73)] [] s Q) (kR : ∀ r : zzMem, P (.inr r) → Q none r) : zz_W G m_X10_settles t t t 0 [some (.ref 73)] [] M Q := by
  unfold b_X10_settles_0 at h
  refine r_aload_n dX10_settles_0 rfl ?_
  refine kV_ir (as := []) (st := []) (k := 73) dX10_settles_1 zM_X10_uppermost zk_X10_116 (zo_X10 (zs_X10 ht)) (by decide) rfl ⟨Nat.le_of_ble_eq_true rfl, Nat.le_of_ble_eq_true rfl⟩ (Nat.le_of_ble_eq_true rfl) (zz_T0 rfl rfl) (fun Q' P' k h => c_X10_uppermost M ht h k) h (fun r1 h => ?_)
  refine r_bipush (v := (nI 10)) dX10_settles_4 (by decide) ?_
  refine r_bipush (v := (nI 12)) dX10_settles_6 (by decide) ?_
  refine tS_zr (v := f_X10_in r1 (nI 10) (nI 12)) (as := [.int r1, .int (nI 10), .int (nI 12)]) (st := []) dX10_settles_8 zM_X10_in zk_X10_67 ⟨Nat.le_of_ble_eq_true rfl, Nat.le_of_ble_eq_true rfl⟩ (Nat.le_of_ble_eq_true rfl) (zz_T0 rfl rfl) (fun Q' h => c_X10_in (r1) ((nI 10)) ((nI 12)) M h) ?_
  refine r_ifZ_eq 59 dX10_settles_11 (by decide) (fun c2 => ?_) (fun c2 => ?_)
  · have h := zK_neg h c2
    refine r_aload_n dX10_settles_59 rfl ?_
    refine kV_ir (as := []) (st := []) (k := 73) dX10_settles_60 zM_X10_uppermost zk_X10_116 (zo_X10 (zs_X10 ht)) (by decide) rfl ⟨Nat.le_of_ble_eq_true rfl, Nat.le_of_ble_eq_true rfl⟩ (Nat.le_of_ble_eq_true rfl) (zz_T0 rfl rfl) (fun Q' P' k h => c_X10_uppermost M ht h k) h (fun r3 h => ?_)
    refine r_iconst (v := (nI 2)) dX10_settles_63 (by decide) ?_
    refine r_bipush (v := (nI 9)) dX10_settles_64 (by decide) ?_
    refine tS_zr (v := f_X10_in r3 (nI 2) (nI 9)) (as := [.int r3, .int (nI 2), .int (nI 9)]) (st := []) dX10_settles_66 zM_X10_in zk_X10_67 ⟨Nat.le_of_ble_eq_true rfl, Nat.le_of_ble_eq_true rfl⟩ (Nat.le_of_ble_eq_true rfl) (zz_T0 rfl rfl) (fun Q' h => c_X10_in (r3) ((nI 2)) ((nI 9)) M h) ?_
    refine r_ifZ_eq 91 dX10_settles_69 (by decide) (fun c4 => ?_) (fun c4 => ?_)
    · have h := zK_neg h c4
      exact r_vret dX10_settles_91 rfl rfl rfl (kR (M) (zK_some h))
    · have h := zK_pos h c4
      refine r_aload_n dX10_settles_72 rfl ?_
      refine r_aload_n dX10_settles_73 rfl ?_
      refine kV_ir (as := []) (st := [.ref 73]) (k := 73) dX10_settles_74 zM_X10_uppermost zk_X10_116 (zo_X10 (zs_X10 ht)) (by decide) rfl ⟨Nat.le_of_ble_eq_true rfl, Nat.le_of_ble_eq_true rfl⟩ (Nat.le_of_ble_eq_true rfl) (zz_T0 rfl rfl) (fun Q' P' k h => c_X10_uppermost M ht h k) h (fun r5 h => ?_)
      refine r_iconst (v := (nI 0)) dX10_settles_77 (by decide) ?_
      refine kV_vw (as := [.int r5, .int (nI 0)]) (st := []) (k := 73) dX10_settles_78 zM_X10_notes zk_X10_119 (zo_X10 (zs_X10 ht)) (by decide) rfl ⟨Nat.le_of_ble_eq_true rfl, Nat.le_of_ble_eq_true rfl⟩ (Nat.le_of_ble_eq_true rfl) (zz_T0 rfl rfl) (fun Q' P' k h => c_X10_notes (r5) ((nI 0)) M ht h k) h (fun M6 h => ?_)
      refine r_aload_n dX10_settles_81 rfl ?_
      refine r_aload_n dX10_settles_82 rfl ?_
      refine r_getI (k := 73) dX10_settles_83 zf_X10_106 (zo_X10 (zs_X10 ht)) (zi_X10_12 (zs_X10 ht)) ?_
      refine r_iconst (v := (nI 1)) dX10_settles_86 (by decide) ?_
      refine r_isub dX10_settles_87 ?_
      refine r_putI (k := 73) dX10_settles_88 zp_X10_106 (zo_X10 (zs_X10 ht)) (zi_X10_12 (zs_X10 ht)) rfl rfl (fun M7 eM7 => ?_)
      have h := zK_bd h eM7
      exact r_vret dX10_settles_91 rfl rfl rfl (kR (M7) (zK_some h))
  · have h := zK_pos h c2
    refine r_aload_n dX10_settles_14 rfl ?_
    refine r_aload_n dX10_settles_15 rfl ?_
    refine kV_ir (as := []) (st := [.ref 73]) (k := 73) dX10_settles_16 zM_X10_uppermost zk_X10_116 (zo_X10 (zs_X10 ht)) (by decide) rfl ⟨Nat.le_of_ble_eq_true rfl, Nat.le_of_ble_eq_true rfl⟩ (Nat.le_of_ble_eq_true rfl) (zz_T0 rfl rfl) (fun Q' P' k h => c_X10_uppermost M ht h k) h (fun r8 h => ?_)
    refine r_aload_n dX10_settles_19 rfl ?_
    refine r_getR (k := 73) (q := 77) dX10_settles_20 zf_X10_20 (zo_X10 (zs_X10 ht)) (zr_X10_4 (zs_X10 ht)).1 (zr_X10_4 (zs_X10 ht)).2.1 (zr_X10_4 (zs_X10 ht)).2.2 ?_
    refine r_aload_n dX10_settles_23 rfl ?_
    refine r_getI (k := 73) dX10_settles_24 zf_X10_106 (zo_X10 (zs_X10 ht)) (zi_X10_12 (zs_X10 ht)) ?_
    refine r_iconst (v := (nI 1)) dX10_settles_27 (by decide) ?_
    refine r_isub dX10_settles_28 ?_
    obtain ⟨g9, h⟩ := zK_gd h
    refine r_iald dX10_settles_29 (za_X10_4 (zs_X10 ht)) g9 ?_
    refine r_ldc (v := (nI 65536)) dX10_settles_30 zd_X10_62 ?_
    refine r_irem dX10_settles_32 (by decide) ?_
    refine kV_vw (as := [.int r8, .int (zrm (M.1 77 (((M.1 73 12) - (nI 1))).toNatClampNeg) (nI 65536))]) (st := []) (k := 73) dX10_settles_33 zM_X10_notes zk_X10_119 (zo_X10 (zs_X10 ht)) (by decide) rfl ⟨Nat.le_of_ble_eq_true rfl, Nat.le_of_ble_eq_true rfl⟩ (Nat.le_of_ble_eq_true rfl) (zz_T0 rfl rfl) (fun Q' P' k h => c_X10_notes (r8) ((zrm (M.1 77 (((M.1 73 12) - (nI 1))).toNatClampNeg) (nI 65536))) M ht h k) h (fun M10 h => ?_)
    refine r_aload_n dX10_settles_36 rfl ?_
    refine r_aload_n dX10_settles_37 rfl ?_
    refine r_getI (k := 73) dX10_settles_38 zf_X10_106 (zo_X10 (zs_X10 ht)) (zi_X10_12 (zs_X10 ht)) ?_
    refine r_iconst (v := (nI 1)) dX10_settles_41 (by decide) ?_
    refine r_isub dX10_settles_42 ?_
    refine r_putI (k := 73) dX10_settles_43 zp_X10_106 (zo_X10 (zs_X10 ht)) (zi_X10_12 (zs_X10 ht)) rfl rfl (fun M11 eM11 => ?_)
    have h := zK_bd h eM11
    refine r_aload_n dX10_settles_46 rfl ?_
    refine r_aload_n dX10_settles_47 rfl ?_
    refine r_getI (k := 73) dX10_settles_48 zf_X10_109 (zo_X10 (zs_X10 ht)) (zi_X10_13 (zs_X10 ht)) ?_
    refine r_iconst (v := (nI 1)) dX10_settles_51 (by decide) ?_
    refine r_isub dX10_settles_52 ?_
    refine r_putI (k := 73) dX10_settles_53 zp_X10_109 (zo_X10 (zs_X10 ht)) (zi_X10_13 (zs_X10 ht)) rfl rfl (fun M12 eM12 => ?_)
    have h := zK_bd h eM12
    refine r_goto 0 dX10_settles_56 (by decide) ?_
    exact k0 (M12) (zK_some h)
noncomputable def f_X10_settles  (M : zzMem) : Option zzMem :=
  zlp (fun s : zzMem => b_X10_settles_0  s) M
set_option maxHeartbeats 4000000 in
set_option maxRecDepth 100000 in
theorem w_X10_settles_0 {G : zzG} {t : Nat} {Q : Option Value → zzMem → Prop}  (M : zzMem) (ht : 180 ≤ t)  {P : zzMem → Prop} (h : zK (f_X10_settles  M) P) (kR : ∀ r : zzMem, P r → Q none r) : zz_W G m_X10_settles t t t 0 [some (.ref 73)] [] M Q := by
  unfold f_X10_settles at h
  exact zK_lp h (fun s : zzMem => zz_W G m_X10_settles t t t 0 [some (.ref 73)] [] s Q) (fun s h => x_X10_settles_0  s ht h (fun s p => p) kR)
set_option maxHeartbeats 4000000 in
set_option maxRecDepth 100000 in
theorem c_X10_settles {G : zzG} {t : Nat} {Q : Option Value → zzMem → Prop}  (M : zzMem) (ht : 180 ≤ t)  {P : zzMem → Prop} (h : zK (f_X10_settles  M) P) (kR : ∀ r : zzMem, P r → Q none r) : zz_S G m_X10_settles t t [.ref 73] M Q :=
  zz_S_of (by decide) (by decide) (Nat.le_of_ble_eq_true rfl) (w_X10_settles_0  M ht h kR)
noncomputable def j_X10_readsPart_76  (M : zzMem) : Option (Bool × zzMem) :=
  (f_X10_settles M).bind (fun M1 =>
  some ((true, M1)))
set_option maxHeartbeats 4000000 in
set_option maxRecDepth 100000 in
theorem w_X10_readsPart_76 {G : zzG} {t : Nat} {Q : Option Value → zzMem → Prop}  (M : zzMem) (ht : 180 ≤ t)  {P : (Bool × zzMem) → Prop} (h : zK (j_X10_readsPart_76  M) P) (kR : ∀ r : (Bool × zzMem), P r → Q (some (.int (zb r.1))) r.2) : zz_W G m_X10_readsPart t t t 76 [some (.ref 73)] [] M Q := by
  unfold j_X10_readsPart_76 at h
  refine r_aload_n dX10_readsPart_76 rfl ?_
  refine kV_vw (as := []) (st := []) (k := 73) dX10_readsPart_77 zM_X10_settles zk_X10_133 (zo_X10 (zs_X10 ht)) (by decide) rfl ⟨Nat.le_of_ble_eq_true rfl, Nat.le_of_ble_eq_true rfl⟩ (Nat.le_of_ble_eq_true rfl) (zz_T0 rfl rfl) (fun Q' P' k h => c_X10_settles M ht h k) h (fun M1 h => ?_)
  refine r_iconst (v := (nI 1)) dX10_readsPart_80 (by decide) ?_
  exact r_zret (b := true) dX10_readsPart_81 rfl rfl rfl (kR ((true, M1)) (zK_some h))
noncomputable def b_X10_readsPart_0  (M : zzMem) : Option (zzMem ⊕ (Bool × zzMem)) :=
  (f_X10_here M).bind (fun r1 =>
  if (f_X10_opener r1) = (-1 : Int32) then
  ((f_X10_here M).bind (fun r3 =>
  if r3 = (nI 107) then
  ((f_X10_notes (nI 1) (nI 0) M).bind (fun M10 =>
  zbd (zz_si M10 73 7 ((M10.1 73 7) + (nI 1))) (fun M11 =>
  zup (j_X10_readsPart_76  M11))))
  else ((f_X10_readsNumber (nI 0) (nI 65535) M).bind (fun q5 => zpr q5 (fun r6 M7 =>
  if r6 = true then
  ((f_X10_notes (nI 0) (M7.1 73 10) M7).bind (fun M9 =>
  zup (j_X10_readsPart_76  M9)))
  else (some ((.inr (false, M7)))))))))
  else ((f_X10_here M).bind (fun r12 =>
  (f_X10_opens (f_X10_opener r12) M).bind (fun q13 => zpr q13 (fun r14 M15 =>
  if r14 = true then
  (some (.inl M15))
  else (some ((.inr (false, M15)))))))))
set_option maxHeartbeats 4000000 in
set_option maxRecDepth 100000 in
theorem x_X10_readsPart_0 {G : zzG} {t : Nat} {Q : Option Value → zzMem → Prop}  (M : zzMem) (ht : 180 ≤ t)  {P : (zzMem ⊕ (Bool × zzMem)) → Prop} (h : zK (b_X10_readsPart_0  M) P) (k0 : ∀ s : zzMem, P (.inl s) → zz_W G m_X10_readsPart t t t 0 [some (.ref 73)] [] s Q) (kR : ∀ r : (Bool × zzMem), P (.inr r) → Q (some (.int (zb r.1))) r.2) : zz_W G m_X10_readsPart t t t 0 [some (.ref 73)] [] M Q := by
  unfold b_X10_readsPart_0 at h
  refine r_aload_n dX10_readsPart_0 rfl ?_
  refine kV_ir (as := []) (st := []) (k := 73) dX10_readsPart_1 zM_X10_here zk_X10_88 (zo_X10 (zs_X10 ht)) (by decide) rfl ⟨Nat.le_of_ble_eq_true rfl, Nat.le_of_ble_eq_true rfl⟩ (Nat.le_of_ble_eq_true rfl) (zz_T0 rfl rfl) (fun Q' P' k h => c_X10_here M ht h k) h (fun r1 h => ?_)
  refine tS_ir (v := f_X10_opener r1) (as := [.int r1]) (st := []) dX10_readsPart_4 zM_X10_opener zk_X10_122 ⟨Nat.le_of_ble_eq_true rfl, Nat.le_of_ble_eq_true rfl⟩ (Nat.le_of_ble_eq_true rfl) (zz_T0 rfl rfl) (fun Q' h => c_X10_opener (r1) M h) ?_
  refine r_iconst (v := (-1 : Int32)) dX10_readsPart_7 (by decide) ?_
  refine r_icmp_eq 27 dX10_readsPart_8 (by decide) (fun c2 => ?_) (fun c2 => ?_)
  · have h := zK_pos h c2
    refine r_aload_n dX10_readsPart_27 rfl ?_
    refine kV_ir (as := []) (st := []) (k := 73) dX10_readsPart_28 zM_X10_here zk_X10_88 (zo_X10 (zs_X10 ht)) (by decide) rfl ⟨Nat.le_of_ble_eq_true rfl, Nat.le_of_ble_eq_true rfl⟩ (Nat.le_of_ble_eq_true rfl) (zz_T0 rfl rfl) (fun Q' P' k h => c_X10_here M ht h k) h (fun r3 h => ?_)
    refine r_bipush (v := (nI 107)) dX10_readsPart_31 (by decide) ?_
    refine r_icmp_ne 55 dX10_readsPart_33 (by decide) (fun c4 => ?_) (fun c4 => ?_)
    · have h := zK_neg h c4
      refine r_aload_n dX10_readsPart_55 rfl ?_
      refine r_iconst (v := (nI 0)) dX10_readsPart_56 (by decide) ?_
      refine r_ldc (v := (nI 65535)) dX10_readsPart_57 zd_X10_129 ?_
      refine kV_zw (as := [.int (nI 0), .int (nI 65535)]) (st := []) (k := 73) dX10_readsPart_59 zM_X10_readsNumber zk_X10_130 (zo_X10 (zs_X10 ht)) (by decide) rfl ⟨Nat.le_of_ble_eq_true rfl, Nat.le_of_ble_eq_true rfl⟩ (Nat.le_of_ble_eq_true rfl) (zz_T0 rfl rfl) (fun Q' P' k h => c_X10_readsNumber ((nI 0)) ((nI 65535)) M ht h (fun r p => k r.1 r.2 p)) h (fun r6 M7 h => ?_)
      have h := zK_pr h
      refine r_ifZ_ne 67 dX10_readsPart_62 (by decide) (fun c8 => ?_) (fun c8 => ?_)
      · have h := zK_pos h c8
        refine r_aload_n dX10_readsPart_67 rfl ?_
        refine r_iconst (v := (nI 0)) dX10_readsPart_68 (by decide) ?_
        refine r_aload_n dX10_readsPart_69 rfl ?_
        refine r_getI (k := 73) dX10_readsPart_70 zf_X10_100 (zo_X10 (zs_X10 ht)) (zi_X10_10 (zs_X10 ht)) ?_
        refine kV_vw (as := [.int (nI 0), .int (M7.1 73 10)]) (st := []) (k := 73) dX10_readsPart_73 zM_X10_notes zk_X10_119 (zo_X10 (zs_X10 ht)) (by decide) rfl ⟨Nat.le_of_ble_eq_true rfl, Nat.le_of_ble_eq_true rfl⟩ (Nat.le_of_ble_eq_true rfl) (zz_T0 rfl rfl) (fun Q' P' k h => c_X10_notes ((nI 0)) ((M7.1 73 10)) M7 ht h k) h (fun M9 h => ?_)
        exact w_X10_readsPart_76  M9 ht (zK_up h) kR
      · have h := zK_neg h c8
        refine r_iconst (v := (nI 0)) dX10_readsPart_65 (by decide) ?_
        exact r_zret (b := false) dX10_readsPart_66 rfl rfl rfl (kR ((false, M7)) (zK_some h))
    · have h := zK_pos h c4
      refine r_aload_n dX10_readsPart_36 rfl ?_
      refine r_iconst (v := (nI 1)) dX10_readsPart_37 (by decide) ?_
      refine r_iconst (v := (nI 0)) dX10_readsPart_38 (by decide) ?_
      refine kV_vw (as := [.int (nI 1), .int (nI 0)]) (st := []) (k := 73) dX10_readsPart_39 zM_X10_notes zk_X10_119 (zo_X10 (zs_X10 ht)) (by decide) rfl ⟨Nat.le_of_ble_eq_true rfl, Nat.le_of_ble_eq_true rfl⟩ (Nat.le_of_ble_eq_true rfl) (zz_T0 rfl rfl) (fun Q' P' k h => c_X10_notes ((nI 1)) ((nI 0)) M ht h k) h (fun M10 h => ?_)
      refine r_aload_n dX10_readsPart_42 rfl ?_
      refine r_aload_n dX10_readsPart_43 rfl ?_
      refine r_getI (k := 73) dX10_readsPart_44 zf_X10_79 (zo_X10 (zs_X10 ht)) (zi_X10_7 (zs_X10 ht)) ?_
      refine r_iconst (v := (nI 1)) dX10_readsPart_47 (by decide) ?_
      refine r_iadd dX10_readsPart_48 ?_
      refine r_putI (k := 73) dX10_readsPart_49 zp_X10_79 (zo_X10 (zs_X10 ht)) (zi_X10_7 (zs_X10 ht)) rfl rfl (fun M11 eM11 => ?_)
      have h := zK_bd h eM11
      refine r_goto 76 dX10_readsPart_52 (by decide) ?_
      exact w_X10_readsPart_76  M11 ht (zK_up h) kR
  · have h := zK_neg h c2
    refine r_aload_n dX10_readsPart_11 rfl ?_
    refine r_aload_n dX10_readsPart_12 rfl ?_
    refine kV_ir (as := []) (st := [.ref 73]) (k := 73) dX10_readsPart_13 zM_X10_here zk_X10_88 (zo_X10 (zs_X10 ht)) (by decide) rfl ⟨Nat.le_of_ble_eq_true rfl, Nat.le_of_ble_eq_true rfl⟩ (Nat.le_of_ble_eq_true rfl) (zz_T0 rfl rfl) (fun Q' P' k h => c_X10_here M ht h k) h (fun r12 h => ?_)
    refine tS_ir (v := f_X10_opener r12) (as := [.int r12]) (st := [.ref 73]) dX10_readsPart_16 zM_X10_opener zk_X10_122 ⟨Nat.le_of_ble_eq_true rfl, Nat.le_of_ble_eq_true rfl⟩ (Nat.le_of_ble_eq_true rfl) (zz_T0 rfl rfl) (fun Q' h => c_X10_opener (r12) M h) ?_
    refine kV_zw (as := [.int (f_X10_opener r12)]) (st := []) (k := 73) dX10_readsPart_19 zM_X10_opens zk_X10_126 (zo_X10 (zs_X10 ht)) (by decide) rfl ⟨Nat.le_of_ble_eq_true rfl, Nat.le_of_ble_eq_true rfl⟩ (Nat.le_of_ble_eq_true rfl) (zz_T0 rfl rfl) (fun Q' P' k h => c_X10_opens ((f_X10_opener r12)) M ht h (fun r p => k r.1 r.2 p)) h (fun r14 M15 h => ?_)
    have h := zK_pr h
    refine r_ifZ_ne 0 dX10_readsPart_22 (by decide) (fun c16 => ?_) (fun c16 => ?_)
    · have h := zK_pos h c16
      exact k0 (M15) (zK_some h)
    · have h := zK_neg h c16
      refine r_iconst (v := (nI 0)) dX10_readsPart_25 (by decide) ?_
      exact r_zret (b := false) dX10_readsPart_26 rfl rfl rfl (kR ((false, M15)) (zK_some h))
noncomputable def f_X10_readsPart  (M : zzMem) : Option (Bool × zzMem) :=
  zlp (fun s : zzMem => b_X10_readsPart_0  s) M
set_option maxHeartbeats 4000000 in
set_option maxRecDepth 100000 in
theorem w_X10_readsPart_0 {G : zzG} {t : Nat} {Q : Option Value → zzMem → Prop}  (M : zzMem) (ht : 180 ≤ t)  {P : (Bool × zzMem) → Prop} (h : zK (f_X10_readsPart  M) P) (kR : ∀ r : (Bool × zzMem), P r → Q (some (.int (zb r.1))) r.2) : zz_W G m_X10_readsPart t t t 0 [some (.ref 73)] [] M Q := by
  unfold f_X10_readsPart at h
  exact zK_lp h (fun s : zzMem => zz_W G m_X10_readsPart t t t 0 [some (.ref 73)] [] s Q) (fun s h => x_X10_readsPart_0  s ht h (fun s p => p) kR)
set_option maxHeartbeats 4000000 in
set_option maxRecDepth 100000 in
theorem c_X10_readsPart {G : zzG} {t : Nat} {Q : Option Value → zzMem → Prop}  (M : zzMem) (ht : 180 ≤ t)  {P : (Bool × zzMem) → Prop} (h : zK (f_X10_readsPart  M) P) (kR : ∀ r : (Bool × zzMem), P r → Q (some (.int (zb r.1))) r.2) : zz_S G m_X10_readsPart t t [.ref 73] M Q :=
  zz_S_of (by decide) (by decide) (Nat.le_of_ble_eq_true rfl) (w_X10_readsPart_0  M ht h kR)
noncomputable def f_X10_signOf (a0 : Int32) : Int32 :=
  if a0 = (nI 37) then
  ((nI 6))
  else if a0 = (nI 38) then
  ((nI 8))
  else if a0 = (nI 42) then
  ((nI 4))
  else if a0 = (nI 43) then
  ((nI 2))
  else if a0 = (nI 45) then
  ((nI 3))
  else if a0 = (nI 47) then
  ((nI 5))
  else if a0 = (nI 94) then
  ((nI 7))
  else if a0 = (nI 124) then
  ((nI 9))
  else ((-1 : Int32))
set_option maxHeartbeats 4000000 in
set_option maxRecDepth 100000 in
theorem w_X10_signOf_0 {G : zzG} {t : Nat} {Q : Option Value → zzMem → Prop} (a0 : Int32) (M : zzMem)  {P : Int32 → Prop} (h : P (f_X10_signOf a0)) (kR : ∀ r : Int32, P r → Q (some (.int r)) M) : zz_W G m_X10_signOf t t t 0 [some (.int a0)] [] M Q := by
  unfold f_X10_signOf at h
  refine r_iload_n dX10_signOf_0 rfl ?_
  by_cases c1 : a0 = (nI 37)
  · have h := zP_pos h c1
    refine r_lookup (off := 83) 84 dX10_signOf_1 (by decide) (by rw [c1]; first | done | decide) (by decide) ?_
    refine r_bipush (v := (nI 6)) dX10_signOf_84 (by decide) ?_
    exact r_iret dX10_signOf_86 rfl rfl rfl (kR ((nI 6)) h)
  · have h := zP_neg h c1
    by_cases c2 : a0 = (nI 38)
    · have h := zP_pos h c2
      refine r_lookup (off := 89) 90 dX10_signOf_1 (by decide) (by rw [c2]; first | done | decide) (by decide) ?_
      refine r_bipush (v := (nI 8)) dX10_signOf_90 (by decide) ?_
      exact r_iret dX10_signOf_92 rfl rfl rfl (kR ((nI 8)) h)
    · have h := zP_neg h c2
      by_cases c3 : a0 = (nI 42)
      · have h := zP_pos h c3
        refine r_lookup (off := 79) 80 dX10_signOf_1 (by decide) (by rw [c3]; first | done | decide) (by decide) ?_
        refine r_iconst (v := (nI 4)) dX10_signOf_80 (by decide) ?_
        exact r_iret dX10_signOf_81 rfl rfl rfl (kR ((nI 4)) h)
      · have h := zP_neg h c3
        by_cases c4 : a0 = (nI 43)
        · have h := zP_pos h c4
          refine r_lookup (off := 75) 76 dX10_signOf_1 (by decide) (by rw [c4]; first | done | decide) (by decide) ?_
          refine r_iconst (v := (nI 2)) dX10_signOf_76 (by decide) ?_
          exact r_iret dX10_signOf_77 rfl rfl rfl (kR ((nI 2)) h)
        · have h := zP_neg h c4
          by_cases c5 : a0 = (nI 45)
          · have h := zP_pos h c5
            refine r_lookup (off := 77) 78 dX10_signOf_1 (by decide) (by rw [c5]; first | done | decide) (by decide) ?_
            refine r_iconst (v := (nI 3)) dX10_signOf_78 (by decide) ?_
            exact r_iret dX10_signOf_79 rfl rfl rfl (kR ((nI 3)) h)
          · have h := zP_neg h c5
            by_cases c6 : a0 = (nI 47)
            · have h := zP_pos h c6
              refine r_lookup (off := 81) 82 dX10_signOf_1 (by decide) (by rw [c6]; first | done | decide) (by decide) ?_
              refine r_iconst (v := (nI 5)) dX10_signOf_82 (by decide) ?_
              exact r_iret dX10_signOf_83 rfl rfl rfl (kR ((nI 5)) h)
            · have h := zP_neg h c6
              by_cases c7 : a0 = (nI 94)
              · have h := zP_pos h c7
                refine r_lookup (off := 86) 87 dX10_signOf_1 (by decide) (by rw [c7]; first | done | decide) (by decide) ?_
                refine r_bipush (v := (nI 7)) dX10_signOf_87 (by decide) ?_
                exact r_iret dX10_signOf_89 rfl rfl rfl (kR ((nI 7)) h)
              · have h := zP_neg h c7
                by_cases c8 : a0 = (nI 124)
                · have h := zP_pos h c8
                  refine r_lookup (off := 92) 93 dX10_signOf_1 (by decide) (by rw [c8]; first | done | decide) (by decide) ?_
                  refine r_bipush (v := (nI 9)) dX10_signOf_93 (by decide) ?_
                  exact r_iret dX10_signOf_95 rfl rfl rfl (kR ((nI 9)) h)
                · have h := zP_neg h c8
                  have hD : zz_W G m_X10_signOf t t t 96 [some (.int a0)] [] M Q := by
                    refine r_iconst (v := (-1 : Int32)) dX10_signOf_96 (by decide) ?_
                    exact r_iret dX10_signOf_97 rfl rfl rfl (kR ((-1 : Int32)) h)
                  exact r_lookup 96 dX10_signOf_1 (by decide) (zz_lk_out (List.forall_mem_cons.mpr ⟨fun e => c1 (Int32.toInt_inj.mp (e.trans (by decide))), (List.forall_mem_cons.mpr ⟨fun e => c2 (Int32.toInt_inj.mp (e.trans (by decide))), (List.forall_mem_cons.mpr ⟨fun e => c3 (Int32.toInt_inj.mp (e.trans (by decide))), (List.forall_mem_cons.mpr ⟨fun e => c4 (Int32.toInt_inj.mp (e.trans (by decide))), (List.forall_mem_cons.mpr ⟨fun e => c5 (Int32.toInt_inj.mp (e.trans (by decide))), (List.forall_mem_cons.mpr ⟨fun e => c6 (Int32.toInt_inj.mp (e.trans (by decide))), (List.forall_mem_cons.mpr ⟨fun e => c7 (Int32.toInt_inj.mp (e.trans (by decide))), (List.forall_mem_cons.mpr ⟨fun e => c8 (Int32.toInt_inj.mp (e.trans (by decide))), (fun _ hq => absurd hq List.not_mem_nil)⟩)⟩)⟩)⟩)⟩)⟩)⟩)⟩)) (by decide) hD
set_option maxHeartbeats 4000000 in
set_option maxRecDepth 100000 in
theorem c_X10_signOf {G : zzG} {t : Nat} {Q : Option Value → zzMem → Prop} (a0 : Int32) (M : zzMem)  (h : Q (some (.int (f_X10_signOf a0))) M) : zz_S G m_X10_signOf t t [.int a0] M Q :=
  zz_S_of (by decide) (by decide) (Nat.le_of_ble_eq_true rfl) (w_X10_signOf_0 a0 M  (P := fun r => Q (some (.int r)) M) h (fun r p => p))
noncomputable def f_X10_closes  (M : zzMem) : Option (Bool × zzMem) :=
  (f_X10_uppermost M).bind (fun r1 =>
  if r1 = (nI 13) then
  (zbd (zz_si M 73 12 ((M.1 73 12) - (nI 1))) (fun M3 =>
  zbd (zz_si M3 73 13 ((M3.1 73 13) - (nI 1))) (fun M4 =>
  zbd (zz_si M4 73 7 ((M4.1 73 7) + (nI 1))) (fun M5 =>
  (f_X10_settles M5).bind (fun M6 =>
  some ((true, M6)))))))
  else ((f_X10_wrongAt (nI 1) (M.1 73 7) M).bind (fun q7 => zpr q7 (fun r8 M9 =>
  some ((r8, M9))))))
set_option maxHeartbeats 4000000 in
set_option maxRecDepth 100000 in
theorem w_X10_closes_0 {G : zzG} {t : Nat} {Q : Option Value → zzMem → Prop}  (M : zzMem) (ht : 180 ≤ t)  {P : (Bool × zzMem) → Prop} (h : zK (f_X10_closes  M) P) (kR : ∀ r : (Bool × zzMem), P r → Q (some (.int (zb r.1))) r.2) : zz_W G m_X10_closes t t t 0 [some (.ref 73)] [] M Q := by
  unfold f_X10_closes at h
  refine r_aload_n dX10_closes_0 rfl ?_
  refine kV_ir (as := []) (st := []) (k := 73) dX10_closes_1 zM_X10_uppermost zk_X10_116 (zo_X10 (zs_X10 ht)) (by decide) rfl ⟨Nat.le_of_ble_eq_true rfl, Nat.le_of_ble_eq_true rfl⟩ (Nat.le_of_ble_eq_true rfl) (zz_T0 rfl rfl) (fun Q' P' k h => c_X10_uppermost M ht h k) h (fun r1 h => ?_)
  refine r_bipush (v := (nI 13)) dX10_closes_4 (by decide) ?_
  refine r_icmp_eq 19 dX10_closes_6 (by decide) (fun c2 => ?_) (fun c2 => ?_)
  · have h := zK_pos h c2
    refine r_aload_n dX10_closes_19 rfl ?_
    refine r_aload_n dX10_closes_20 rfl ?_
    refine r_getI (k := 73) dX10_closes_21 zf_X10_106 (zo_X10 (zs_X10 ht)) (zi_X10_12 (zs_X10 ht)) ?_
    refine r_iconst (v := (nI 1)) dX10_closes_24 (by decide) ?_
    refine r_isub dX10_closes_25 ?_
    refine r_putI (k := 73) dX10_closes_26 zp_X10_106 (zo_X10 (zs_X10 ht)) (zi_X10_12 (zs_X10 ht)) rfl rfl (fun M3 eM3 => ?_)
    have h := zK_bd h eM3
    refine r_aload_n dX10_closes_29 rfl ?_
    refine r_aload_n dX10_closes_30 rfl ?_
    refine r_getI (k := 73) dX10_closes_31 zf_X10_109 (zo_X10 (zs_X10 ht)) (zi_X10_13 (zs_X10 ht)) ?_
    refine r_iconst (v := (nI 1)) dX10_closes_34 (by decide) ?_
    refine r_isub dX10_closes_35 ?_
    refine r_putI (k := 73) dX10_closes_36 zp_X10_109 (zo_X10 (zs_X10 ht)) (zi_X10_13 (zs_X10 ht)) rfl rfl (fun M4 eM4 => ?_)
    have h := zK_bd h eM4
    refine r_aload_n dX10_closes_39 rfl ?_
    refine r_aload_n dX10_closes_40 rfl ?_
    refine r_getI (k := 73) dX10_closes_41 zf_X10_79 (zo_X10 (zs_X10 ht)) (zi_X10_7 (zs_X10 ht)) ?_
    refine r_iconst (v := (nI 1)) dX10_closes_44 (by decide) ?_
    refine r_iadd dX10_closes_45 ?_
    refine r_putI (k := 73) dX10_closes_46 zp_X10_79 (zo_X10 (zs_X10 ht)) (zi_X10_7 (zs_X10 ht)) rfl rfl (fun M5 eM5 => ?_)
    have h := zK_bd h eM5
    refine r_aload_n dX10_closes_49 rfl ?_
    refine kV_vw (as := []) (st := []) (k := 73) dX10_closes_50 zM_X10_settles zk_X10_133 (zo_X10 (zs_X10 ht)) (by decide) rfl ⟨Nat.le_of_ble_eq_true rfl, Nat.le_of_ble_eq_true rfl⟩ (Nat.le_of_ble_eq_true rfl) (zz_T0 rfl rfl) (fun Q' P' k h => c_X10_settles M5 ht h k) h (fun M6 h => ?_)
    refine r_iconst (v := (nI 1)) dX10_closes_53 (by decide) ?_
    exact r_zret (b := true) dX10_closes_54 rfl rfl rfl (kR ((true, M6)) (zK_some h))
  · have h := zK_neg h c2
    refine r_aload_n dX10_closes_9 rfl ?_
    refine r_iconst (v := (nI 1)) dX10_closes_10 (by decide) ?_
    refine r_aload_n dX10_closes_11 rfl ?_
    refine r_getI (k := 73) dX10_closes_12 zf_X10_79 (zo_X10 (zs_X10 ht)) (zi_X10_7 (zs_X10 ht)) ?_
    refine kV_zw (as := [.int (nI 1), .int (M.1 73 7)]) (st := []) (k := 73) dX10_closes_15 zM_X10_wrongAt zk_X10_96 (zo_X10 (zs_X10 ht)) (by decide) rfl ⟨Nat.le_of_ble_eq_true rfl, Nat.le_of_ble_eq_true rfl⟩ (Nat.le_of_ble_eq_true rfl) (zz_T0 rfl rfl) (fun Q' P' k h => c_X10_wrongAt ((nI 1)) ((M.1 73 7)) M ht h (fun r p => k r.1 r.2 p)) h (fun r8 M9 h => ?_)
    have h := zK_pr h
    exact r_zret (b := r8) dX10_closes_18 rfl rfl rfl (kR ((r8, M9)) (zK_some h))
set_option maxHeartbeats 4000000 in
set_option maxRecDepth 100000 in
theorem c_X10_closes {G : zzG} {t : Nat} {Q : Option Value → zzMem → Prop}  (M : zzMem) (ht : 180 ≤ t)  {P : (Bool × zzMem) → Prop} (h : zK (f_X10_closes  M) P) (kR : ∀ r : (Bool × zzMem), P r → Q (some (.int (zb r.1))) r.2) : zz_S G m_X10_closes t t [.ref 73] M Q :=
  zz_S_of (by decide) (by decide) (Nat.le_of_ble_eq_true rfl) (w_X10_closes_0  M ht h kR)
noncomputable def j_X10_readsLaw_120  (M : zzMem) : Option (Bool × zzMem) :=
  some ((true, M))
set_option maxHeartbeats 4000000 in
set_option maxRecDepth 100000 in
theorem w_X10_readsLaw_120 {G : zzG} {t : Nat} {Q : Option Value → zzMem → Prop}  (M : zzMem) (ht : 180 ≤ t)  {P : (Bool × zzMem) → Prop} (h : zK (j_X10_readsLaw_120  M) P) (kR : ∀ r : (Bool × zzMem), P r → Q (some (.int (zb r.1))) r.2) : zz_W G m_X10_readsLaw t t t 120 [none, none] [] M Q := by
  unfold j_X10_readsLaw_120 at h
  refine r_iconst (v := (nI 1)) dX10_readsLaw_120 (by decide) ?_
  refine r_goto 125 dX10_readsLaw_121 (by decide) ?_
  exact r_zret (b := true) dX10_readsLaw_125 rfl rfl rfl (kR ((true, M)) (zK_some h))
noncomputable def b_X10_readsLaw_24  (M : zzMem) : Option (zzMem ⊕ (Bool × zzMem)) :=
  (f_X10_here M).bind (fun r1 =>
  if r1 = (-1 : Int32) then
  (if (M.1 73 13) = 0 then
  (zup (j_X10_readsLaw_120  M))
  else ((f_X10_wrongAt (nI 1) (M.1 73 7) M).bind (fun q4 => zpr q4 (fun r5 M6 =>
  if r5 = true then
  (zup (j_X10_readsLaw_120  M6))
  else (some ((.inr (false, M6))))))))
  else ((f_X10_here M).bind (fun r8 =>
  zbd ((f_X10_signOf r8)) (fun x9 =>
  (f_X10_here M).bind (fun r10 =>
  if r10 = (nI 41) then
  ((f_X10_closes M).bind (fun q22 => zpr q22 (fun r23 M24 =>
  if r23 = true then
  (some (.inl M24))
  else (some ((.inr (false, M24)))))))
  else (if x9 = (-1 : Int32) then
  ((f_X10_wrongAt (nI 1) (M.1 73 7) M).bind (fun q19 => zpr q19 (fun r20 M21 =>
  some ((.inr (r20, M21))))))
  else ((f_X10_waitsFor x9 (nI 0) M).bind (fun M13 =>
  zbd (zz_si M13 73 7 ((M13.1 73 7) + (nI 1))) (fun M14 =>
  (f_X10_readsPart M14).bind (fun q15 => zpr q15 (fun r16 M17 =>
  if r16 = true then
  (some (.inl M17))
  else (some ((.inr (false, M17)))))))))))))))
set_option maxHeartbeats 4000000 in
set_option maxRecDepth 100000 in
theorem x_X10_readsLaw_24 {G : zzG} {t : Nat} {Q : Option Value → zzMem → Prop}  (M : zzMem) (ht : 180 ≤ t)  {P : (zzMem ⊕ (Bool × zzMem)) → Prop} (h : zK (b_X10_readsLaw_24  M) P) (k24 : ∀ s : zzMem, P (.inl s) → zz_W G m_X10_readsLaw t t t 24 [some (.ref 73), none] [] s Q) (kR : ∀ r : (Bool × zzMem), P (.inr r) → Q (some (.int (zb r.1))) r.2) : zz_W G m_X10_readsLaw t t t 24 [some (.ref 73), none] [] M Q := by
  unfold b_X10_readsLaw_24 at h
  refine r_aload_n dX10_readsLaw_24 rfl ?_
  refine kV_ir (as := []) (st := []) (k := 73) dX10_readsLaw_25 zM_X10_here zk_X10_88 (zo_X10 (zs_X10 ht)) (by decide) rfl ⟨Nat.le_of_ble_eq_true rfl, Nat.le_of_ble_eq_true rfl⟩ (Nat.le_of_ble_eq_true rfl) (zz_T0 rfl rfl) (fun Q' P' k h => c_X10_here M ht h k) h (fun r1 h => ?_)
  refine r_iconst (v := (-1 : Int32)) dX10_readsLaw_28 (by decide) ?_
  refine r_icmp_eq 101 dX10_readsLaw_29 (by decide) (fun c2 => ?_) (fun c2 => ?_)
  · have h := zK_pos h c2
    refine r_aload_n dX10_readsLaw_101 rfl ?_
    refine r_getI (k := 73) dX10_readsLaw_102 zf_X10_109 (zo_X10 (zs_X10 ht)) (zi_X10_13 (zs_X10 ht)) ?_
    refine r_if_eq 120 dX10_readsLaw_105 (by decide) (fun c3 => ?_) (fun c3 => ?_)
    · have h := zK_pos h c3
      refine zz_mask [0] ?_
      exact w_X10_readsLaw_120  M ht (zK_up h) kR
    · have h := zK_neg h c3
      refine r_aload_n dX10_readsLaw_108 rfl ?_
      refine r_iconst (v := (nI 1)) dX10_readsLaw_109 (by decide) ?_
      refine r_aload_n dX10_readsLaw_110 rfl ?_
      refine r_getI (k := 73) dX10_readsLaw_111 zf_X10_79 (zo_X10 (zs_X10 ht)) (zi_X10_7 (zs_X10 ht)) ?_
      refine kV_zw (as := [.int (nI 1), .int (M.1 73 7)]) (st := []) (k := 73) dX10_readsLaw_114 zM_X10_wrongAt zk_X10_96 (zo_X10 (zs_X10 ht)) (by decide) rfl ⟨Nat.le_of_ble_eq_true rfl, Nat.le_of_ble_eq_true rfl⟩ (Nat.le_of_ble_eq_true rfl) (zz_T0 rfl rfl) (fun Q' P' k h => c_X10_wrongAt ((nI 1)) ((M.1 73 7)) M ht h (fun r p => k r.1 r.2 p)) h (fun r5 M6 h => ?_)
      have h := zK_pr h
      refine r_ifZ_eq 124 dX10_readsLaw_117 (by decide) (fun c7 => ?_) (fun c7 => ?_)
      · have h := zK_neg h c7
        refine r_iconst (v := (nI 0)) dX10_readsLaw_124 (by decide) ?_
        exact r_zret (b := false) dX10_readsLaw_125 rfl rfl rfl (kR ((false, M6)) (zK_some h))
      · have h := zK_pos h c7
        refine zz_mask [0] ?_
        exact w_X10_readsLaw_120  M6 ht (zK_up h) kR
  · have h := zK_neg h c2
    refine r_aload_n dX10_readsLaw_32 rfl ?_
    refine kV_ir (as := []) (st := []) (k := 73) dX10_readsLaw_33 zM_X10_here zk_X10_88 (zo_X10 (zs_X10 ht)) (by decide) rfl ⟨Nat.le_of_ble_eq_true rfl, Nat.le_of_ble_eq_true rfl⟩ (Nat.le_of_ble_eq_true rfl) (zz_T0 rfl rfl) (fun Q' P' k h => c_X10_here M ht h k) h (fun r8 h => ?_)
    refine tS_ir (v := f_X10_signOf r8) (as := [.int r8]) (st := []) dX10_readsLaw_36 zM_X10_signOf zk_X10_140 ⟨Nat.le_of_ble_eq_true rfl, Nat.le_of_ble_eq_true rfl⟩ (Nat.le_of_ble_eq_true rfl) (zz_T0 rfl rfl) (fun Q' h => c_X10_signOf (r8) M h) ?_
    refine r_istore_n (fun x9 => [some (.ref 73), some (.int x9)]) dX10_readsLaw_39 (by decide) rfl (fun _ => rfl) (fun x9 ex9 => ?_)
    have h := zK_bd h ex9
    refine r_aload_n dX10_readsLaw_40 rfl ?_
    refine kV_ir (as := []) (st := []) (k := 73) dX10_readsLaw_41 zM_X10_here zk_X10_88 (zo_X10 (zs_X10 ht)) (by decide) rfl ⟨Nat.le_of_ble_eq_true rfl, Nat.le_of_ble_eq_true rfl⟩ (Nat.le_of_ble_eq_true rfl) (zz_T0 rfl rfl) (fun Q' P' k h => c_X10_here M ht h k) h (fun r10 h => ?_)
    refine r_bipush (v := (nI 41)) dX10_readsLaw_44 (by decide) ?_
    refine r_icmp_ne 58 dX10_readsLaw_46 (by decide) (fun c11 => ?_) (fun c11 => ?_)
    · have h := zK_neg h c11
      refine r_iload_n dX10_readsLaw_58 rfl ?_
      refine r_iconst (v := (-1 : Int32)) dX10_readsLaw_59 (by decide) ?_
      refine r_icmp_ne 73 dX10_readsLaw_60 (by decide) (fun c12 => ?_) (fun c12 => ?_)
      · have h := zK_neg h c12
        refine r_aload_n dX10_readsLaw_73 rfl ?_
        refine r_iload_n dX10_readsLaw_74 rfl ?_
        refine r_iconst (v := (nI 0)) dX10_readsLaw_75 (by decide) ?_
        refine kV_vw (as := [.int x9, .int (nI 0)]) (st := []) (k := 73) dX10_readsLaw_76 zM_X10_waitsFor zk_X10_112 (zo_X10 (zs_X10 ht)) (by decide) rfl ⟨Nat.le_of_ble_eq_true rfl, Nat.le_of_ble_eq_true rfl⟩ (Nat.le_of_ble_eq_true rfl) (zz_T0 rfl rfl) (fun Q' P' k h => c_X10_waitsFor (x9) ((nI 0)) M ht h k) h (fun M13 h => ?_)
        refine r_aload_n dX10_readsLaw_79 rfl ?_
        refine r_aload_n dX10_readsLaw_80 rfl ?_
        refine r_getI (k := 73) dX10_readsLaw_81 zf_X10_79 (zo_X10 (zs_X10 ht)) (zi_X10_7 (zs_X10 ht)) ?_
        refine r_iconst (v := (nI 1)) dX10_readsLaw_84 (by decide) ?_
        refine r_iadd dX10_readsLaw_85 ?_
        refine r_putI (k := 73) dX10_readsLaw_86 zp_X10_79 (zo_X10 (zs_X10 ht)) (zi_X10_7 (zs_X10 ht)) rfl rfl (fun M14 eM14 => ?_)
        have h := zK_bd h eM14
        refine r_aload_n dX10_readsLaw_89 rfl ?_
        refine kV_zw (as := []) (st := []) (k := 73) dX10_readsLaw_90 zM_X10_readsPart zk_X10_136 (zo_X10 (zs_X10 ht)) (by decide) rfl ⟨Nat.le_of_ble_eq_true rfl, Nat.le_of_ble_eq_true rfl⟩ (Nat.le_of_ble_eq_true rfl) (zz_T0 rfl rfl) (fun Q' P' k h => c_X10_readsPart M14 ht h (fun r p => k r.1 r.2 p)) h (fun r16 M17 h => ?_)
        have h := zK_pr h
        refine r_ifZ_ne 98 dX10_readsLaw_93 (by decide) (fun c18 => ?_) (fun c18 => ?_)
        · have h := zK_pos h c18
          refine r_goto 24 dX10_readsLaw_98 (by decide) ?_
          refine zz_mask [1] ?_
          exact k24 (M17) (zK_some h)
        · have h := zK_neg h c18
          refine r_iconst (v := (nI 0)) dX10_readsLaw_96 (by decide) ?_
          exact r_zret (b := false) dX10_readsLaw_97 rfl rfl rfl (kR ((false, M17)) (zK_some h))
      · have h := zK_pos h c12
        refine r_aload_n dX10_readsLaw_63 rfl ?_
        refine r_iconst (v := (nI 1)) dX10_readsLaw_64 (by decide) ?_
        refine r_aload_n dX10_readsLaw_65 rfl ?_
        refine r_getI (k := 73) dX10_readsLaw_66 zf_X10_79 (zo_X10 (zs_X10 ht)) (zi_X10_7 (zs_X10 ht)) ?_
        refine kV_zw (as := [.int (nI 1), .int (M.1 73 7)]) (st := []) (k := 73) dX10_readsLaw_69 zM_X10_wrongAt zk_X10_96 (zo_X10 (zs_X10 ht)) (by decide) rfl ⟨Nat.le_of_ble_eq_true rfl, Nat.le_of_ble_eq_true rfl⟩ (Nat.le_of_ble_eq_true rfl) (zz_T0 rfl rfl) (fun Q' P' k h => c_X10_wrongAt ((nI 1)) ((M.1 73 7)) M ht h (fun r p => k r.1 r.2 p)) h (fun r20 M21 h => ?_)
        have h := zK_pr h
        exact r_zret (b := r20) dX10_readsLaw_72 rfl rfl rfl (kR ((r20, M21)) (zK_some h))
    · have h := zK_pos h c11
      refine r_aload_n dX10_readsLaw_49 rfl ?_
      refine kV_zw (as := []) (st := []) (k := 73) dX10_readsLaw_50 zM_X10_closes zk_X10_143 (zo_X10 (zs_X10 ht)) (by decide) rfl ⟨Nat.le_of_ble_eq_true rfl, Nat.le_of_ble_eq_true rfl⟩ (Nat.le_of_ble_eq_true rfl) (zz_T0 rfl rfl) (fun Q' P' k h => c_X10_closes M ht h (fun r p => k r.1 r.2 p)) h (fun r23 M24 h => ?_)
      have h := zK_pr h
      refine r_ifZ_ne 24 dX10_readsLaw_53 (by decide) (fun c25 => ?_) (fun c25 => ?_)
      · have h := zK_pos h c25
        refine zz_mask [1] ?_
        exact k24 (M24) (zK_some h)
      · have h := zK_neg h c25
        refine r_iconst (v := (nI 0)) dX10_readsLaw_56 (by decide) ?_
        exact r_zret (b := false) dX10_readsLaw_57 rfl rfl rfl (kR ((false, M24)) (zK_some h))
noncomputable def j_X10_readsLaw_24  (M : zzMem) : Option (Bool × zzMem) :=
  zlp (fun s : zzMem => b_X10_readsLaw_24  s) M
set_option maxHeartbeats 4000000 in
set_option maxRecDepth 100000 in
theorem w_X10_readsLaw_24 {G : zzG} {t : Nat} {Q : Option Value → zzMem → Prop}  (M : zzMem) (ht : 180 ≤ t)  {P : (Bool × zzMem) → Prop} (h : zK (j_X10_readsLaw_24  M) P) (kR : ∀ r : (Bool × zzMem), P r → Q (some (.int (zb r.1))) r.2) : zz_W G m_X10_readsLaw t t t 24 [some (.ref 73), none] [] M Q := by
  unfold j_X10_readsLaw_24 at h
  exact zK_lp h (fun s : zzMem => zz_W G m_X10_readsLaw t t t 24 [some (.ref 73), none] [] s Q) (fun s h => x_X10_readsLaw_24  s ht h (fun s p => p) kR)
noncomputable def f_X10_readsLaw  (M : zzMem) : Option (Bool × zzMem) :=
  zbd (zz_si M 73 11 (nI 0)) (fun M1 =>
  zbd (zz_si M1 73 12 (nI 0)) (fun M2 =>
  zbd (zz_si M2 73 13 (nI 0)) (fun M3 =>
  (f_X10_readsPart M3).bind (fun q4 => zpr q4 (fun r5 M6 =>
  if r5 = true then
  (j_X10_readsLaw_24  M6)
  else (some ((false, M6))))))))
set_option maxHeartbeats 4000000 in
set_option maxRecDepth 100000 in
theorem w_X10_readsLaw_0 {G : zzG} {t : Nat} {Q : Option Value → zzMem → Prop}  (M : zzMem) (ht : 180 ≤ t)  {P : (Bool × zzMem) → Prop} (h : zK (f_X10_readsLaw  M) P) (kR : ∀ r : (Bool × zzMem), P r → Q (some (.int (zb r.1))) r.2) : zz_W G m_X10_readsLaw t t t 0 [some (.ref 73), none] [] M Q := by
  unfold f_X10_readsLaw at h
  refine r_aload_n dX10_readsLaw_0 rfl ?_
  refine r_iconst (v := (nI 0)) dX10_readsLaw_1 (by decide) ?_
  refine r_putI (k := 73) dX10_readsLaw_2 zp_X10_103 (zo_X10 (zs_X10 ht)) (zi_X10_11 (zs_X10 ht)) rfl rfl (fun M1 eM1 => ?_)
  have h := zK_bd h eM1
  refine r_aload_n dX10_readsLaw_5 rfl ?_
  refine r_iconst (v := (nI 0)) dX10_readsLaw_6 (by decide) ?_
  refine r_putI (k := 73) dX10_readsLaw_7 zp_X10_106 (zo_X10 (zs_X10 ht)) (zi_X10_12 (zs_X10 ht)) rfl rfl (fun M2 eM2 => ?_)
  have h := zK_bd h eM2
  refine r_aload_n dX10_readsLaw_10 rfl ?_
  refine r_iconst (v := (nI 0)) dX10_readsLaw_11 (by decide) ?_
  refine r_putI (k := 73) dX10_readsLaw_12 zp_X10_109 (zo_X10 (zs_X10 ht)) (zi_X10_13 (zs_X10 ht)) rfl rfl (fun M3 eM3 => ?_)
  have h := zK_bd h eM3
  refine r_aload_n dX10_readsLaw_15 rfl ?_
  refine kV_zw (as := []) (st := []) (k := 73) dX10_readsLaw_16 zM_X10_readsPart zk_X10_136 (zo_X10 (zs_X10 ht)) (by decide) rfl ⟨Nat.le_of_ble_eq_true rfl, Nat.le_of_ble_eq_true rfl⟩ (Nat.le_of_ble_eq_true rfl) (zz_T0 rfl rfl) (fun Q' P' k h => c_X10_readsPart M3 ht h (fun r p => k r.1 r.2 p)) h (fun r5 M6 h => ?_)
  have h := zK_pr h
  refine r_ifZ_ne 24 dX10_readsLaw_19 (by decide) (fun c7 => ?_) (fun c7 => ?_)
  · have h := zK_pos h c7
    exact w_X10_readsLaw_24  M6 ht h kR
  · have h := zK_neg h c7
    refine r_iconst (v := (nI 0)) dX10_readsLaw_22 (by decide) ?_
    exact r_zret (b := false) dX10_readsLaw_23 rfl rfl rfl (kR ((false, M6)) (zK_some h))
set_option maxHeartbeats 4000000 in
set_option maxRecDepth 100000 in
theorem c_X10_readsLaw {G : zzG} {t : Nat} {Q : Option Value → zzMem → Prop}  (M : zzMem) (ht : 180 ≤ t)  {P : (Bool × zzMem) → Prop} (h : zK (f_X10_readsLaw  M) P) (kR : ∀ r : (Bool × zzMem), P r → Q (some (.int (zb r.1))) r.2) : zz_S G m_X10_readsLaw t t [.ref 73] M Q :=
  zz_S_of (by decide) (by decide) (Nat.le_of_ble_eq_true rfl) (w_X10_readsLaw_0  M ht h kR)
