noncomputable def j_X10_grown_120 (s0 : Int32) (M : zzMem) : Option (Int32 × zzMem) :=
  (f_X10_copies (nI 2) (nI 0) M).bind (fun M1 =>
  some ((s0, M1)))
set_option maxHeartbeats 4000000 in
set_option maxRecDepth 100000 in
theorem w_X10_grown_120 {G : zzG} {t : Nat} {Q : Option Value → zzMem → Prop} (s0 : Int32) (M : zzMem) (ht : 180 ≤ t)  {P : (Int32 × zzMem) → Prop} (h : zK (j_X10_grown_120 s0 M) P) (kR : ∀ r : (Int32 × zzMem), P r → Q (some (.int r.1)) r.2) : zz_W G m_X10_grown t t t 120 [some (.ref 73), none, none, none] [.int s0] M Q := by
  unfold j_X10_grown_120 at h
  refine s_istore_n ([some (.ref 73), none, none, some (.int s0)]) dX10_grown_120 (by decide) rfl rfl ?_
  refine r_aload_n dX10_grown_121 rfl ?_
  refine r_iconst (v := (nI 2)) dX10_grown_122 (by decide) ?_
  refine r_iconst (v := (nI 0)) dX10_grown_123 (by decide) ?_
  refine kV_vw (as := [.int (nI 2), .int (nI 0)]) (st := []) (k := 73) dX10_grown_124 zM_X10_copies zk_X10_332 (zo_X10 (zs_X10 ht)) (by decide) rfl ⟨Nat.le_of_ble_eq_true rfl, Nat.le_of_ble_eq_true rfl⟩ (Nat.le_of_ble_eq_true rfl) (zz_T0 rfl rfl) (fun Q' P' k h => c_X10_copies ((nI 2)) ((nI 0)) M ht h k) h (fun M1 h => ?_)
  refine r_iload_n dX10_grown_127 rfl ?_
  exact r_iret dX10_grown_128 rfl rfl rfl (kR ((s0, M1)) (zK_some h))
noncomputable def f_X10_grown (a1 : Int32) (a2 : Int32) (M : zzMem) : Option (Int32 × zzMem) :=
  if (f_X10_in a1 (nI 1) (nI 99)) = true then
  (if (f_X10_in a2 (nI 0) (nI 5)) = true then
  ((f_X10_copies (nI 0) (nI 2) M).bind (fun M3 =>
  zbd (zz_si M3 74 8 (nI 0)) (fun M4 =>
  zbd (zz_si M4 74 9 (nI 0)) (fun M5 =>
  (f_X10_putsDrawn a1 M5).bind (fun M6 =>
  if a2 = 0 then
  ((f_X10_buckets M6).bind (fun r14 =>
  j_X10_grown_120 r14 M6))
  else (if a2 = (nI 1) then
  ((f_X10_load M6).bind (fun r13 =>
  j_X10_grown_120 r13 M6))
  else (if a2 = (nI 2) then
  ((f_X10_pagesTaken M6).bind (fun r12 =>
  j_X10_grown_120 r12 M6))
  else (if a2 = (nI 3) then
  (j_X10_grown_120 (M6.1 74 7) M6)
  else (if a2 = (nI 4) then
  (j_X10_grown_120 (M6.1 74 8) M6)
  else (j_X10_grown_120 (M6.1 74 9) M6))))))))))
  else (some (((-1 : Int32), M))))
  else (some (((-1 : Int32), M)))
set_option maxHeartbeats 4000000 in
set_option maxRecDepth 100000 in
theorem w_X10_grown_0 {G : zzG} {t : Nat} {Q : Option Value → zzMem → Prop} (a1 : Int32) (a2 : Int32) (M : zzMem) (ht : 180 ≤ t)  {P : (Int32 × zzMem) → Prop} (h : zK (f_X10_grown a1 a2 M) P) (kR : ∀ r : (Int32 × zzMem), P r → Q (some (.int r.1)) r.2) : zz_W G m_X10_grown t t t 0 [some (.ref 73), some (.int a1), some (.int a2), none] [] M Q := by
  unfold f_X10_grown at h
  refine r_iload_n dX10_grown_0 rfl ?_
  refine r_iconst (v := (nI 1)) dX10_grown_1 (by decide) ?_
  refine r_bipush (v := (nI 99)) dX10_grown_2 (by decide) ?_
  refine tS_zr (v := f_X10_in a1 (nI 1) (nI 99)) (as := [.int a1, .int (nI 1), .int (nI 99)]) (st := []) dX10_grown_4 zM_X10_in zk_X10_67 ⟨Nat.le_of_ble_eq_true rfl, Nat.le_of_ble_eq_true rfl⟩ (Nat.le_of_ble_eq_true rfl) (zz_T0 rfl rfl) (fun Q' h => c_X10_in (a1) ((nI 1)) ((nI 99)) M h) ?_
  refine r_ifZ_eq 19 dX10_grown_7 (by decide) (fun c1 => ?_) (fun c1 => ?_)
  · have h := zK_neg h c1
    refine r_iconst (v := (-1 : Int32)) dX10_grown_19 (by decide) ?_
    exact r_iret dX10_grown_20 rfl rfl rfl (kR (((-1 : Int32), M)) (zK_some h))
  · have h := zK_pos h c1
    refine r_iload_n dX10_grown_10 rfl ?_
    refine r_iconst (v := (nI 0)) dX10_grown_11 (by decide) ?_
    refine r_iconst (v := (nI 5)) dX10_grown_12 (by decide) ?_
    refine tS_zr (v := f_X10_in a2 (nI 0) (nI 5)) (as := [.int a2, .int (nI 0), .int (nI 5)]) (st := []) dX10_grown_13 zM_X10_in zk_X10_67 ⟨Nat.le_of_ble_eq_true rfl, Nat.le_of_ble_eq_true rfl⟩ (Nat.le_of_ble_eq_true rfl) (zz_T0 rfl rfl) (fun Q' h => c_X10_in (a2) ((nI 0)) ((nI 5)) M h) ?_
    refine r_ifZ_ne 21 dX10_grown_16 (by decide) (fun c2 => ?_) (fun c2 => ?_)
    · have h := zK_pos h c2
      refine r_aload_n dX10_grown_21 rfl ?_
      refine r_iconst (v := (nI 0)) dX10_grown_22 (by decide) ?_
      refine r_iconst (v := (nI 2)) dX10_grown_23 (by decide) ?_
      refine kV_vw (as := [.int (nI 0), .int (nI 2)]) (st := []) (k := 73) dX10_grown_24 zM_X10_copies zk_X10_332 (zo_X10 (zs_X10 ht)) (by decide) rfl ⟨Nat.le_of_ble_eq_true rfl, Nat.le_of_ble_eq_true rfl⟩ (Nat.le_of_ble_eq_true rfl) (zz_T0 rfl rfl) (fun Q' P' k h => c_X10_copies ((nI 0)) ((nI 2)) M ht h k) h (fun M3 h => ?_)
      refine r_aload_n dX10_grown_27 rfl ?_
      refine r_getR (k := 73) (q := 74) dX10_grown_28 zf_X10_7 (zo_X10 (zs_X10 ht)) (zr_X10_0 (zs_X10 ht)).1 (zr_X10_0 (zs_X10 ht)).2.1 (zr_X10_0 (zs_X10 ht)).2.2 ?_
      refine r_bipush (v := (nI 8)) dX10_grown_31 (by decide) ?_
      refine r_iconst (v := (nI 0)) dX10_grown_33 (by decide) ?_
      refine r_iastc (j := 8) dX10_grown_34 (za_X10_0 (zs_X10 ht)) rfl rfl (fun M4 eM4 => ?_)
      have h := zK_bd h eM4
      refine r_aload_n dX10_grown_35 rfl ?_
      refine r_getR (k := 73) (q := 74) dX10_grown_36 zf_X10_7 (zo_X10 (zs_X10 ht)) (zr_X10_0 (zs_X10 ht)).1 (zr_X10_0 (zs_X10 ht)).2.1 (zr_X10_0 (zs_X10 ht)).2.2 ?_
      refine r_bipush (v := (nI 9)) dX10_grown_39 (by decide) ?_
      refine r_iconst (v := (nI 0)) dX10_grown_41 (by decide) ?_
      refine r_iastc (j := 9) dX10_grown_42 (za_X10_0 (zs_X10 ht)) rfl rfl (fun M5 eM5 => ?_)
      have h := zK_bd h eM5
      refine r_aload_n dX10_grown_43 rfl ?_
      refine r_iload_n dX10_grown_44 rfl ?_
      refine kV_vw (as := [.int a1]) (st := []) (k := 73) dX10_grown_45 zM_X10_putsDrawn zk_X10_265 (zo_X10 (zs_X10 ht)) (by decide) rfl ⟨Nat.le_of_ble_eq_true rfl, Nat.le_of_ble_eq_true rfl⟩ (Nat.le_of_ble_eq_true rfl) (zz_T0 rfl rfl) (fun Q' P' k h => c_X10_putsDrawn (a1) M5 ht h k) h (fun M6 h => ?_)
      refine r_iload_n dX10_grown_48 rfl ?_
      refine r_if_ne 59 dX10_grown_49 (by decide) (fun c7 => ?_) (fun c7 => ?_)
      · have h := zK_neg h c7
        refine r_iload_n dX10_grown_59 rfl ?_
        refine r_iconst (v := (nI 1)) dX10_grown_60 (by decide) ?_
        refine r_icmp_ne 71 dX10_grown_61 (by decide) (fun c8 => ?_) (fun c8 => ?_)
        · have h := zK_neg h c8
          refine r_iload_n dX10_grown_71 rfl ?_
          refine r_iconst (v := (nI 2)) dX10_grown_72 (by decide) ?_
          refine r_icmp_ne 83 dX10_grown_73 (by decide) (fun c9 => ?_) (fun c9 => ?_)
          · have h := zK_neg h c9
            refine r_iload_n dX10_grown_83 rfl ?_
            refine r_iconst (v := (nI 3)) dX10_grown_84 (by decide) ?_
            refine r_icmp_ne 98 dX10_grown_85 (by decide) (fun c10 => ?_) (fun c10 => ?_)
            · have h := zK_neg h c10
              refine r_iload_n dX10_grown_98 rfl ?_
              refine r_iconst (v := (nI 4)) dX10_grown_99 (by decide) ?_
              refine r_icmp_ne 113 dX10_grown_100 (by decide) (fun c11 => ?_) (fun c11 => ?_)
              · have h := zK_neg h c11
                refine r_aload_n dX10_grown_113 rfl ?_
                refine r_getR (k := 73) (q := 74) dX10_grown_114 zf_X10_7 (zo_X10 (zs_X10 ht)) (zr_X10_0 (zs_X10 ht)).1 (zr_X10_0 (zs_X10 ht)).2.1 (zr_X10_0 (zs_X10 ht)).2.2 ?_
                refine r_bipush (v := (nI 9)) dX10_grown_117 (by decide) ?_
                refine r_ialdc (j := 9) dX10_grown_119 (za_X10_0 (zs_X10 ht)) rfl rfl ?_
                refine zz_mask [1, 2] ?_
                exact w_X10_grown_120 ((M6.1 74 9)) M6 ht h kR
              · have h := zK_pos h c11
                refine r_aload_n dX10_grown_103 rfl ?_
                refine r_getR (k := 73) (q := 74) dX10_grown_104 zf_X10_7 (zo_X10 (zs_X10 ht)) (zr_X10_0 (zs_X10 ht)).1 (zr_X10_0 (zs_X10 ht)).2.1 (zr_X10_0 (zs_X10 ht)).2.2 ?_
                refine r_bipush (v := (nI 8)) dX10_grown_107 (by decide) ?_
                refine r_ialdc (j := 8) dX10_grown_109 (za_X10_0 (zs_X10 ht)) rfl rfl ?_
                refine r_goto 120 dX10_grown_110 (by decide) ?_
                refine zz_mask [1, 2] ?_
                exact w_X10_grown_120 ((M6.1 74 8)) M6 ht h kR
            · have h := zK_pos h c10
              refine r_aload_n dX10_grown_88 rfl ?_
              refine r_getR (k := 73) (q := 74) dX10_grown_89 zf_X10_7 (zo_X10 (zs_X10 ht)) (zr_X10_0 (zs_X10 ht)).1 (zr_X10_0 (zs_X10 ht)).2.1 (zr_X10_0 (zs_X10 ht)).2.2 ?_
              refine r_bipush (v := (nI 7)) dX10_grown_92 (by decide) ?_
              refine r_ialdc (j := 7) dX10_grown_94 (za_X10_0 (zs_X10 ht)) rfl rfl ?_
              refine r_goto 120 dX10_grown_95 (by decide) ?_
              refine zz_mask [1, 2] ?_
              exact w_X10_grown_120 ((M6.1 74 7)) M6 ht h kR
          · have h := zK_pos h c9
            refine r_aload_n dX10_grown_76 rfl ?_
            refine kV_ir (as := []) (st := []) (k := 73) dX10_grown_77 zM_X10_pagesTaken zk_X10_296 (zo_X10 (zs_X10 ht)) (by decide) rfl ⟨Nat.le_of_ble_eq_true rfl, Nat.le_of_ble_eq_true rfl⟩ (Nat.le_of_ble_eq_true rfl) (zz_T0 rfl rfl) (fun Q' P' k h => c_X10_pagesTaken M6 ht h k) h (fun r12 h => ?_)
            refine r_goto 120 dX10_grown_80 (by decide) ?_
            refine zz_mask [1, 2] ?_
            exact w_X10_grown_120 (r12) M6 ht h kR
        · have h := zK_pos h c8
          refine r_aload_n dX10_grown_64 rfl ?_
          refine kV_ir (as := []) (st := []) (k := 73) dX10_grown_65 zM_X10_load zk_X10_223 (zo_X10 (zs_X10 ht)) (by decide) rfl ⟨Nat.le_of_ble_eq_true rfl, Nat.le_of_ble_eq_true rfl⟩ (Nat.le_of_ble_eq_true rfl) (zz_T0 rfl rfl) (fun Q' P' k h => c_X10_load M6 ht h k) h (fun r13 h => ?_)
          refine r_goto 120 dX10_grown_68 (by decide) ?_
          refine zz_mask [1, 2] ?_
          exact w_X10_grown_120 (r13) M6 ht h kR
      · have h := zK_pos h c7
        refine r_aload_n dX10_grown_52 rfl ?_
        refine kV_ir (as := []) (st := []) (k := 73) dX10_grown_53 zM_X10_buckets zk_X10_178 (zo_X10 (zs_X10 ht)) (by decide) rfl ⟨Nat.le_of_ble_eq_true rfl, Nat.le_of_ble_eq_true rfl⟩ (Nat.le_of_ble_eq_true rfl) (zz_T0 rfl rfl) (fun Q' P' k h => c_X10_buckets M6 ht h k) h (fun r14 h => ?_)
        refine r_goto 120 dX10_grown_56 (by decide) ?_
        refine zz_mask [1, 2] ?_
        exact w_X10_grown_120 (r14) M6 ht h kR
    · have h := zK_neg h c2
      refine r_iconst (v := (-1 : Int32)) dX10_grown_19 (by decide) ?_
      exact r_iret dX10_grown_20 rfl rfl rfl (kR (((-1 : Int32), M)) (zK_some h))
set_option maxHeartbeats 4000000 in
set_option maxRecDepth 100000 in
theorem c_X10_grown {G : zzG} {t : Nat} {Q : Option Value → zzMem → Prop} (a1 : Int32) (a2 : Int32) (M : zzMem) (ht : 180 ≤ t)  {P : (Int32 × zzMem) → Prop} (h : zK (f_X10_grown a1 a2 M) P) (kR : ∀ r : (Int32 × zzMem), P r → Q (some (.int r.1)) r.2) : zz_S G m_X10_grown t t [.ref 73, .int a1, .int a2] M Q :=
  zz_S_of (by decide) (by decide) (Nat.le_of_ble_eq_true rfl) (w_X10_grown_0 a1 a2 M ht h kR)
noncomputable def j_X10_tuned_167 (v1 : Int32) (v2 : Int32) (v5 : Int32) (v6 : Int32) (M : zzMem) : Option ((Int32 × Int32 × Int32 × zzMem) ⊕ (Int32 × zzMem)) :=
  zbd (v5 + (nI 1)) (fun x1 =>
  some (.inl (v5, v6, x1, M)))
set_option maxHeartbeats 4000000 in
set_option maxRecDepth 100000 in
theorem w_X10_tuned_167 {G : zzG} {t : Nat} {Q : Option Value → zzMem → Prop} (v1 : Int32) (v2 : Int32) (v5 : Int32) (v6 : Int32) (M : zzMem) (ht : 180 ≤ t)  {P : ((Int32 × Int32 × Int32 × zzMem) ⊕ (Int32 × zzMem)) → Prop} (h : zK (j_X10_tuned_167 v1 v2 v5 v6 M) P) (k70 : ∀ s : (Int32 × Int32 × Int32 × zzMem), P (.inl s) → zz_W G m_X10_tuned t t t 70 [some (.ref 73), some (.int v1), some (.int v2), some (.int s.1), some (.int s.2.1), some (.int s.2.2.1), none] [] s.2.2.2 Q) (kR : ∀ r : (Int32 × zzMem), P (.inr r) → Q (some (.int r.1)) r.2) : zz_W G m_X10_tuned t t t 167 [some (.ref 73), some (.int v1), some (.int v2), none, none, some (.int v5), some (.int v6)] [] M Q := by
  unfold j_X10_tuned_167 at h
  refine r_iload dX10_tuned_167 rfl ?_
  refine s_istore ([some (.ref 73), some (.int v1), some (.int v2), none, some (.int v6), some (.int v5), some (.int v6)]) dX10_tuned_169 (by decide) rfl rfl ?_
  refine r_iload dX10_tuned_171 rfl ?_
  refine s_istore_n ([some (.ref 73), some (.int v1), some (.int v2), some (.int v5), some (.int v6), some (.int v5), some (.int v6)]) dX10_tuned_173 (by decide) rfl rfl ?_
  refine r_iinc (nI 1) (fun x1 => [some (.ref 73), some (.int v1), some (.int v2), some (.int v5), some (.int v6), some (.int x1), some (.int v6)]) dX10_tuned_174 rfl (by decide) (by decide) rfl (fun _ => rfl) (fun x1 ex1 => ?_)
  have h := zK_bd h ex1
  refine r_goto 70 dX10_tuned_177 (by decide) ?_
  refine zz_mask [6] ?_
  exact k70 ((v5, v6, x1, M)) (zK_some h)
noncomputable def j_X10_tuned_153 (v1 : Int32) (v2 : Int32) (v3 : Int32) (v4 : Int32) (v5 : Int32) (s0 : Int32) (M : zzMem) : Option ((Int32 × Int32 × Int32 × zzMem) ⊕ (Int32 × zzMem)) :=
  if v3 = (-1 : Int32) then
  (j_X10_tuned_167 v1 v2 v5 s0 M)
  else (if v4 ≤ s0 then
  (zbd (v5 + (nI 1)) (fun x3 =>
  some (.inl (v3, v4, x3, M))))
  else (j_X10_tuned_167 v1 v2 v5 s0 M))
set_option maxHeartbeats 4000000 in
set_option maxRecDepth 100000 in
theorem w_X10_tuned_153 {G : zzG} {t : Nat} {Q : Option Value → zzMem → Prop} (v1 : Int32) (v2 : Int32) (v3 : Int32) (v4 : Int32) (v5 : Int32) (s0 : Int32) (M : zzMem) (ht : 180 ≤ t)  {P : ((Int32 × Int32 × Int32 × zzMem) ⊕ (Int32 × zzMem)) → Prop} (h : zK (j_X10_tuned_153 v1 v2 v3 v4 v5 s0 M) P) (k70 : ∀ s : (Int32 × Int32 × Int32 × zzMem), P (.inl s) → zz_W G m_X10_tuned t t t 70 [some (.ref 73), some (.int v1), some (.int v2), some (.int s.1), some (.int s.2.1), some (.int s.2.2.1), none] [] s.2.2.2 Q) (kR : ∀ r : (Int32 × zzMem), P (.inr r) → Q (some (.int r.1)) r.2) : zz_W G m_X10_tuned t t t 153 [some (.ref 73), some (.int v1), some (.int v2), some (.int v3), some (.int v4), some (.int v5), none] [.int s0] M Q := by
  unfold j_X10_tuned_153 at h
  refine s_istore ([some (.ref 73), some (.int v1), some (.int v2), some (.int v3), some (.int v4), some (.int v5), some (.int s0)]) dX10_tuned_153 (by decide) rfl rfl ?_
  refine r_iload_n dX10_tuned_155 rfl ?_
  refine r_iconst (v := (-1 : Int32)) dX10_tuned_156 (by decide) ?_
  refine r_icmp_eq 167 dX10_tuned_157 (by decide) (fun c1 => ?_) (fun c1 => ?_)
  · have h := zK_pos h c1
    refine zz_mask [3, 4] ?_
    exact w_X10_tuned_167 (v1) (v2) (v5) (s0) M ht h k70 kR
  · have h := zK_neg h c1
    refine r_iload dX10_tuned_160 rfl ?_
    refine r_iload dX10_tuned_162 rfl ?_
    refine r_icmp_ge 174 dX10_tuned_164 (by decide) (fun c2 => ?_) (fun c2 => ?_)
    · have h := zK_pos h c2
      refine r_iinc (nI 1) (fun x3 => [some (.ref 73), some (.int v1), some (.int v2), some (.int v3), some (.int v4), some (.int x3), some (.int s0)]) dX10_tuned_174 rfl (by decide) (by decide) rfl (fun _ => rfl) (fun x3 ex3 => ?_)
      have h := zK_bd h ex3
      refine r_goto 70 dX10_tuned_177 (by decide) ?_
      refine zz_mask [6] ?_
      exact k70 ((v3, v4, x3, M)) (zK_some h)
    · have h := zK_neg h c2
      refine zz_mask [3, 4] ?_
      exact w_X10_tuned_167 (v1) (v2) (v5) (s0) M ht h k70 kR
noncomputable def b_X10_tuned_110 (v1 : Int32) (v2 : Int32) (v3 : Int32) (v4 : Int32) (v5 : Int32) (v6 : Int32) (M : zzMem) : Option ((Int32 × zzMem) ⊕ ((Int32 × Int32 × Int32 × zzMem) ⊕ (Int32 × zzMem))) :=
  if v2 ≤ v6 then
  (if v1 = 0 then
  ((f_X10_allReads M).bind (fun r4 =>
  zup (j_X10_tuned_153 v1 v2 v3 v4 v5 r4 M)))
  else ((f_X10_pagesTaken M).bind (fun r3 =>
  zup (j_X10_tuned_153 v1 v2 v3 v4 v5 (r3 * v5) M))))
  else (zgd (vp_in v6 300) (
  (f_X10_puts (M.1 90 (v6).toNatClampNeg) (nI 0) M).bind (fun q6 => zpr q6 (fun r7 M8 =>
  zbd (v6 + (nI 1)) (fun x9 =>
  some (.inl (x9, M8)))))))
set_option maxHeartbeats 4000000 in
set_option maxRecDepth 100000 in
theorem x_X10_tuned_110 {G : zzG} {t : Nat} {Q : Option Value → zzMem → Prop} (v1 : Int32) (v2 : Int32) (v3 : Int32) (v4 : Int32) (v5 : Int32) (v6 : Int32) (M : zzMem) (ht : 180 ≤ t)  {P : ((Int32 × zzMem) ⊕ ((Int32 × Int32 × Int32 × zzMem) ⊕ (Int32 × zzMem))) → Prop} (h : zK (b_X10_tuned_110 v1 v2 v3 v4 v5 v6 M) P) (k110 : ∀ s : (Int32 × zzMem), P (.inl s) → zz_W G m_X10_tuned t t t 110 [some (.ref 73), some (.int v1), some (.int v2), some (.int v3), some (.int v4), some (.int v5), some (.int s.1)] [] s.2 Q) (k70 : ∀ s : (Int32 × Int32 × Int32 × zzMem), P (.inr (.inl s)) → zz_W G m_X10_tuned t t t 70 [some (.ref 73), some (.int v1), some (.int v2), some (.int s.1), some (.int s.2.1), some (.int s.2.2.1), none] [] s.2.2.2 Q) (kR : ∀ r : (Int32 × zzMem), P (.inr (.inr r)) → Q (some (.int r.1)) r.2) : zz_W G m_X10_tuned t t t 110 [some (.ref 73), some (.int v1), some (.int v2), some (.int v3), some (.int v4), some (.int v5), some (.int v6)] [] M Q := by
  unfold b_X10_tuned_110 at h
  refine r_iload dX10_tuned_110 rfl ?_
  refine r_iload_n dX10_tuned_112 rfl ?_
  refine r_icmp_ge 135 dX10_tuned_113 (by decide) (fun c1 => ?_) (fun c1 => ?_)
  · have h := zK_pos h c1
    refine r_iload_n dX10_tuned_135 rfl ?_
    refine r_if_ne 146 dX10_tuned_136 (by decide) (fun c2 => ?_) (fun c2 => ?_)
    · have h := zK_neg h c2
      refine r_aload_n dX10_tuned_146 rfl ?_
      refine kV_ir (as := []) (st := []) (k := 73) dX10_tuned_147 zM_X10_pagesTaken zk_X10_296 (zo_X10 (zs_X10 ht)) (by decide) rfl ⟨Nat.le_of_ble_eq_true rfl, Nat.le_of_ble_eq_true rfl⟩ (Nat.le_of_ble_eq_true rfl) (zz_T0 rfl rfl) (fun Q' P' k h => c_X10_pagesTaken M ht h k) h (fun r3 h => ?_)
      refine r_iload dX10_tuned_150 rfl ?_
      refine r_imul dX10_tuned_152 ?_
      refine zz_mask [6] ?_
      exact w_X10_tuned_153 (v1) (v2) (v3) (v4) (v5) ((r3 * v5)) M ht (zK_up h) k70 kR
    · have h := zK_pos h c2
      refine r_aload_n dX10_tuned_139 rfl ?_
      refine kV_ir (as := []) (st := []) (k := 73) dX10_tuned_140 zM_X10_allReads zk_X10_323 (zo_X10 (zs_X10 ht)) (by decide) rfl ⟨Nat.le_of_ble_eq_true rfl, Nat.le_of_ble_eq_true rfl⟩ (Nat.le_of_ble_eq_true rfl) (zz_T0 rfl rfl) (fun Q' P' k h => c_X10_allReads M ht h k) h (fun r4 h => ?_)
      refine r_goto 153 dX10_tuned_143 (by decide) ?_
      refine zz_mask [6] ?_
      exact w_X10_tuned_153 (v1) (v2) (v3) (v4) (v5) (r4) M ht (zK_up h) k70 kR
  · have h := zK_neg h c1
    refine r_aload_n dX10_tuned_116 rfl ?_
    refine r_aload_n dX10_tuned_117 rfl ?_
    refine r_getR (k := 73) (q := 90) dX10_tuned_118 zf_X10_59 (zo_X10 (zs_X10 ht)) (zr_X10_29 (zs_X10 ht)).1 (zr_X10_29 (zs_X10 ht)).2.1 (zr_X10_29 (zs_X10 ht)).2.2 ?_
    refine r_iload dX10_tuned_121 rfl ?_
    obtain ⟨g5, h⟩ := zK_gd h
    refine r_iald dX10_tuned_123 (za_X10_29 (zs_X10 ht)) g5 ?_
    refine r_iconst (v := (nI 0)) dX10_tuned_124 (by decide) ?_
    refine kV_iw (as := [.int (M.1 90 (v6).toNatClampNeg), .int (nI 0)]) (st := []) (k := 73) dX10_tuned_125 zM_X10_puts zk_X10_229 (zo_X10 (zs_X10 ht)) (by decide) rfl ⟨Nat.le_of_ble_eq_true rfl, Nat.le_of_ble_eq_true rfl⟩ (Nat.le_of_ble_eq_true rfl) (zz_T0 rfl rfl) (fun Q' P' k h => c_X10_puts ((M.1 90 (v6).toNatClampNeg)) ((nI 0)) M ht h (fun r p => k r.1 r.2 p)) h (fun r7 M8 h => ?_)
    have h := zK_pr h
    refine r_pop dX10_tuned_128 rfl ?_
    refine r_iinc (nI 1) (fun x9 => [some (.ref 73), some (.int v1), some (.int v2), some (.int v3), some (.int v4), some (.int v5), some (.int x9)]) dX10_tuned_129 rfl (by decide) (by decide) rfl (fun _ => rfl) (fun x9 ex9 => ?_)
    have h := zK_bd h ex9
    refine r_goto 110 dX10_tuned_132 (by decide) ?_
    exact k110 ((x9, M8)) (zK_some h)
noncomputable def j_X10_tuned_110 (v1 : Int32) (v2 : Int32) (v3 : Int32) (v4 : Int32) (v5 : Int32) (v6 : Int32) (M : zzMem) : Option ((Int32 × Int32 × Int32 × zzMem) ⊕ (Int32 × zzMem)) :=
  zlp (fun s : (Int32 × zzMem) => b_X10_tuned_110 v1 v2 v3 v4 v5 s.1 s.2) (v6, M)
set_option maxHeartbeats 4000000 in
set_option maxRecDepth 100000 in
theorem w_X10_tuned_110 {G : zzG} {t : Nat} {Q : Option Value → zzMem → Prop} (v1 : Int32) (v2 : Int32) (v3 : Int32) (v4 : Int32) (v5 : Int32) (v6 : Int32) (M : zzMem) (ht : 180 ≤ t)  {P : ((Int32 × Int32 × Int32 × zzMem) ⊕ (Int32 × zzMem)) → Prop} (h : zK (j_X10_tuned_110 v1 v2 v3 v4 v5 v6 M) P) (k70 : ∀ s : (Int32 × Int32 × Int32 × zzMem), P (.inl s) → zz_W G m_X10_tuned t t t 70 [some (.ref 73), some (.int v1), some (.int v2), some (.int s.1), some (.int s.2.1), some (.int s.2.2.1), none] [] s.2.2.2 Q) (kR : ∀ r : (Int32 × zzMem), P (.inr r) → Q (some (.int r.1)) r.2) : zz_W G m_X10_tuned t t t 110 [some (.ref 73), some (.int v1), some (.int v2), some (.int v3), some (.int v4), some (.int v5), some (.int v6)] [] M Q := by
  unfold j_X10_tuned_110 at h
  exact zK_lp h (fun s : (Int32 × zzMem) => zz_W G m_X10_tuned t t t 110 [some (.ref 73), some (.int v1), some (.int v2), some (.int v3), some (.int v4), some (.int v5), some (.int s.1)] [] s.2 Q) (fun s h => x_X10_tuned_110 v1 v2 v3 v4 v5 s.1 s.2 ht h (fun s p => p) k70 kR)
noncomputable def b_X10_tuned_70 (v1 : Int32) (v2 : Int32) (v3 : Int32) (v4 : Int32) (v5 : Int32) (M : zzMem) : Option ((Int32 × Int32 × Int32 × zzMem) ⊕ (Int32 × zzMem)) :=
  if (nI 7) ≤ v5 then
  ((f_X10_copies (nI 2) (nI 0) M).bind (fun M2 =>
  some ((.inr (v3, M2)))))
  else ((f_X10_empties (M.1 74 0) v5 (M.1 74 2) (M.1 74 3) (M.1 74 4) M).bind (fun M3 =>
  j_X10_tuned_110 v1 v2 v3 v4 v5 (nI 0) M3))
set_option maxHeartbeats 4000000 in
set_option maxRecDepth 100000 in
theorem x_X10_tuned_70 {G : zzG} {t : Nat} {Q : Option Value → zzMem → Prop} (v1 : Int32) (v2 : Int32) (v3 : Int32) (v4 : Int32) (v5 : Int32) (M : zzMem) (ht : 180 ≤ t)  {P : ((Int32 × Int32 × Int32 × zzMem) ⊕ (Int32 × zzMem)) → Prop} (h : zK (b_X10_tuned_70 v1 v2 v3 v4 v5 M) P) (k70 : ∀ s : (Int32 × Int32 × Int32 × zzMem), P (.inl s) → zz_W G m_X10_tuned t t t 70 [some (.ref 73), some (.int v1), some (.int v2), some (.int s.1), some (.int s.2.1), some (.int s.2.2.1), none] [] s.2.2.2 Q) (kR : ∀ r : (Int32 × zzMem), P (.inr r) → Q (some (.int r.1)) r.2) : zz_W G m_X10_tuned t t t 70 [some (.ref 73), some (.int v1), some (.int v2), some (.int v3), some (.int v4), some (.int v5), none] [] M Q := by
  unfold b_X10_tuned_70 at h
  refine r_iload dX10_tuned_70 rfl ?_
  refine r_bipush (v := (nI 7)) dX10_tuned_72 (by decide) ?_
  refine r_icmp_ge 180 dX10_tuned_74 (by decide) (fun c1 => ?_) (fun c1 => ?_)
  · have h := zK_pos h c1
    refine r_aload_n dX10_tuned_180 rfl ?_
    refine r_iconst (v := (nI 2)) dX10_tuned_181 (by decide) ?_
    refine r_iconst (v := (nI 0)) dX10_tuned_182 (by decide) ?_
    refine kV_vw (as := [.int (nI 2), .int (nI 0)]) (st := []) (k := 73) dX10_tuned_183 zM_X10_copies zk_X10_332 (zo_X10 (zs_X10 ht)) (by decide) rfl ⟨Nat.le_of_ble_eq_true rfl, Nat.le_of_ble_eq_true rfl⟩ (Nat.le_of_ble_eq_true rfl) (zz_T0 rfl rfl) (fun Q' P' k h => c_X10_copies ((nI 2)) ((nI 0)) M ht h k) h (fun M2 h => ?_)
    refine r_iload_n dX10_tuned_186 rfl ?_
    exact r_iret dX10_tuned_187 rfl rfl rfl (kR ((v3, M2)) (zK_some h))
  · have h := zK_neg h c1
    refine r_aload_n dX10_tuned_77 rfl ?_
    refine r_aload_n dX10_tuned_78 rfl ?_
    refine r_getR (k := 73) (q := 74) dX10_tuned_79 zf_X10_7 (zo_X10 (zs_X10 ht)) (zr_X10_0 (zs_X10 ht)).1 (zr_X10_0 (zs_X10 ht)).2.1 (zr_X10_0 (zs_X10 ht)).2.2 ?_
    refine r_iconst (v := (nI 0)) dX10_tuned_82 (by decide) ?_
    refine r_ialdc (j := 0) dX10_tuned_83 (za_X10_0 (zs_X10 ht)) rfl rfl ?_
    refine r_iload dX10_tuned_84 rfl ?_
    refine r_aload_n dX10_tuned_86 rfl ?_
    refine r_getR (k := 73) (q := 74) dX10_tuned_87 zf_X10_7 (zo_X10 (zs_X10 ht)) (zr_X10_0 (zs_X10 ht)).1 (zr_X10_0 (zs_X10 ht)).2.1 (zr_X10_0 (zs_X10 ht)).2.2 ?_
    refine r_iconst (v := (nI 2)) dX10_tuned_90 (by decide) ?_
    refine r_ialdc (j := 2) dX10_tuned_91 (za_X10_0 (zs_X10 ht)) rfl rfl ?_
    refine r_aload_n dX10_tuned_92 rfl ?_
    refine r_getR (k := 73) (q := 74) dX10_tuned_93 zf_X10_7 (zo_X10 (zs_X10 ht)) (zr_X10_0 (zs_X10 ht)).1 (zr_X10_0 (zs_X10 ht)).2.1 (zr_X10_0 (zs_X10 ht)).2.2 ?_
    refine r_iconst (v := (nI 3)) dX10_tuned_96 (by decide) ?_
    refine r_ialdc (j := 3) dX10_tuned_97 (za_X10_0 (zs_X10 ht)) rfl rfl ?_
    refine r_aload_n dX10_tuned_98 rfl ?_
    refine r_getR (k := 73) (q := 74) dX10_tuned_99 zf_X10_7 (zo_X10 (zs_X10 ht)) (zr_X10_0 (zs_X10 ht)).1 (zr_X10_0 (zs_X10 ht)).2.1 (zr_X10_0 (zs_X10 ht)).2.2 ?_
    refine r_iconst (v := (nI 4)) dX10_tuned_102 (by decide) ?_
    refine r_ialdc (j := 4) dX10_tuned_103 (za_X10_0 (zs_X10 ht)) rfl rfl ?_
    refine kV_vw (as := [.int (M.1 74 0), .int v5, .int (M.1 74 2), .int (M.1 74 3), .int (M.1 74 4)]) (st := []) (k := 73) dX10_tuned_104 zM_X10_empties zk_X10_63 (zo_X10 (zs_X10 ht)) (by decide) rfl ⟨Nat.le_of_ble_eq_true rfl, Nat.le_of_ble_eq_true rfl⟩ (Nat.le_of_ble_eq_true rfl) (zz_T0 rfl rfl) (fun Q' P' k h => c_X10_empties ((M.1 74 0)) (v5) ((M.1 74 2)) ((M.1 74 3)) ((M.1 74 4)) M ht h k) h (fun M3 h => ?_)
    refine r_iconst (v := (nI 0)) dX10_tuned_107 (by decide) ?_
    refine s_istore ([some (.ref 73), some (.int v1), some (.int v2), some (.int v3), some (.int v4), some (.int v5), some (.int (nI 0))]) dX10_tuned_108 (by decide) rfl rfl ?_
    exact w_X10_tuned_110 (v1) (v2) (v3) (v4) (v5) ((nI 0)) M3 ht h k70 kR
noncomputable def j_X10_tuned_70 (v1 : Int32) (v2 : Int32) (v3 : Int32) (v4 : Int32) (v5 : Int32) (M : zzMem) : Option (Int32 × zzMem) :=
  zlp (fun s : (Int32 × Int32 × Int32 × zzMem) => b_X10_tuned_70 v1 v2 s.1 s.2.1 s.2.2.1 s.2.2.2) (v3, v4, v5, M)
set_option maxHeartbeats 4000000 in
set_option maxRecDepth 100000 in
theorem w_X10_tuned_70 {G : zzG} {t : Nat} {Q : Option Value → zzMem → Prop} (v1 : Int32) (v2 : Int32) (v3 : Int32) (v4 : Int32) (v5 : Int32) (M : zzMem) (ht : 180 ≤ t)  {P : (Int32 × zzMem) → Prop} (h : zK (j_X10_tuned_70 v1 v2 v3 v4 v5 M) P) (kR : ∀ r : (Int32 × zzMem), P r → Q (some (.int r.1)) r.2) : zz_W G m_X10_tuned t t t 70 [some (.ref 73), some (.int v1), some (.int v2), some (.int v3), some (.int v4), some (.int v5), none] [] M Q := by
  unfold j_X10_tuned_70 at h
  exact zK_lp h (fun s : (Int32 × Int32 × Int32 × zzMem) => zz_W G m_X10_tuned t t t 70 [some (.ref 73), some (.int v1), some (.int v2), some (.int s.1), some (.int s.2.1), some (.int s.2.2.1), none] [] s.2.2.2 Q) (fun s h => x_X10_tuned_70 v1 v2 s.1 s.2.1 s.2.2.1 s.2.2.2 ht h (fun s p => p) kR)
noncomputable def b_X10_tuned_31 (v1 : Int32) (v2 : Int32) (v3 : Int32) (M : zzMem) : Option ((Int32 × zzMem) ⊕ (Int32 × zzMem)) :=
  if v2 ≤ v3 then
  (zup (j_X10_tuned_70 v1 v2 (-1 : Int32) (nI 0) (nI 2) M))
  else (zgd (vp_in v3 300) (
  zgd (vp_in ((nI 40) + (M.1 84 (v3).toNatClampNeg)) 5676) (
  zbd (zz_si M 90 (v3).toNatClampNeg (M.1 74 (((nI 40) + (M.1 84 (v3).toNatClampNeg))).toNatClampNeg)) (fun M4 =>
  zbd (v3 + (nI 1)) (fun x5 =>
  some (.inl (x5, M4)))))))
set_option maxHeartbeats 4000000 in
set_option maxRecDepth 100000 in
theorem x_X10_tuned_31 {G : zzG} {t : Nat} {Q : Option Value → zzMem → Prop} (v1 : Int32) (v2 : Int32) (v3 : Int32) (M : zzMem) (ht : 180 ≤ t)  {P : ((Int32 × zzMem) ⊕ (Int32 × zzMem)) → Prop} (h : zK (b_X10_tuned_31 v1 v2 v3 M) P) (k31 : ∀ s : (Int32 × zzMem), P (.inl s) → zz_W G m_X10_tuned t t t 31 [some (.ref 73), some (.int v1), some (.int v2), some (.int s.1), none, none, none] [] s.2 Q) (kR : ∀ r : (Int32 × zzMem), P (.inr r) → Q (some (.int r.1)) r.2) : zz_W G m_X10_tuned t t t 31 [some (.ref 73), some (.int v1), some (.int v2), some (.int v3), none, none, none] [] M Q := by
  unfold b_X10_tuned_31 at h
  refine r_iload_n dX10_tuned_31 rfl ?_
  refine r_iload_n dX10_tuned_32 rfl ?_
  refine r_icmp_ge 62 dX10_tuned_33 (by decide) (fun c1 => ?_) (fun c1 => ?_)
  · have h := zK_pos h c1
    refine r_iconst (v := (-1 : Int32)) dX10_tuned_62 (by decide) ?_
    refine s_istore_n ([some (.ref 73), some (.int v1), some (.int v2), some (.int (-1 : Int32)), none, none, none]) dX10_tuned_63 (by decide) rfl rfl ?_
    refine r_iconst (v := (nI 0)) dX10_tuned_64 (by decide) ?_
    refine s_istore ([some (.ref 73), some (.int v1), some (.int v2), some (.int (-1 : Int32)), some (.int (nI 0)), none, none]) dX10_tuned_65 (by decide) rfl rfl ?_
    refine r_iconst (v := (nI 2)) dX10_tuned_67 (by decide) ?_
    refine s_istore ([some (.ref 73), some (.int v1), some (.int v2), some (.int (-1 : Int32)), some (.int (nI 0)), some (.int (nI 2)), none]) dX10_tuned_68 (by decide) rfl rfl ?_
    exact w_X10_tuned_70 (v1) (v2) ((-1 : Int32)) ((nI 0)) ((nI 2)) M ht (zK_up h) kR
  · have h := zK_neg h c1
    refine r_aload_n dX10_tuned_36 rfl ?_
    refine r_getR (k := 73) (q := 90) dX10_tuned_37 zf_X10_59 (zo_X10 (zs_X10 ht)) (zr_X10_29 (zs_X10 ht)).1 (zr_X10_29 (zs_X10 ht)).2.1 (zr_X10_29 (zs_X10 ht)).2.2 ?_
    refine r_iload_n dX10_tuned_40 rfl ?_
    refine r_aload_n dX10_tuned_41 rfl ?_
    refine r_getR (k := 73) (q := 74) dX10_tuned_42 zf_X10_7 (zo_X10 (zs_X10 ht)) (zr_X10_0 (zs_X10 ht)).1 (zr_X10_0 (zs_X10 ht)).2.1 (zr_X10_0 (zs_X10 ht)).2.2 ?_
    refine r_bipush (v := (nI 40)) dX10_tuned_45 (by decide) ?_
    refine r_aload_n dX10_tuned_47 rfl ?_
    refine r_getR (k := 73) (q := 84) dX10_tuned_48 zf_X10_41 (zo_X10 (zs_X10 ht)) (zr_X10_21 (zs_X10 ht)).1 (zr_X10_21 (zs_X10 ht)).2.1 (zr_X10_21 (zs_X10 ht)).2.2 ?_
    refine r_iload_n dX10_tuned_51 rfl ?_
    obtain ⟨g2, h⟩ := zK_gd h
    refine r_iald dX10_tuned_52 (za_X10_21 (zs_X10 ht)) g2 ?_
    refine r_iadd dX10_tuned_53 ?_
    obtain ⟨g3, h⟩ := zK_gd h
    refine r_iald dX10_tuned_54 (za_X10_0 (zs_X10 ht)) g3 ?_
    refine r_iast dX10_tuned_55 (za_X10_29 (zs_X10 ht)) g2 (fun M4 eM4 => ?_)
    have h := zK_bd h eM4
    refine r_iinc (nI 1) (fun x5 => [some (.ref 73), some (.int v1), some (.int v2), some (.int x5), none, none, none]) dX10_tuned_56 rfl (by decide) (by decide) rfl (fun _ => rfl) (fun x5 ex5 => ?_)
    have h := zK_bd h ex5
    refine r_goto 31 dX10_tuned_59 (by decide) ?_
    exact k31 ((x5, M4)) (zK_some h)
noncomputable def j_X10_tuned_31 (v1 : Int32) (v2 : Int32) (v3 : Int32) (M : zzMem) : Option (Int32 × zzMem) :=
  zlp (fun s : (Int32 × zzMem) => b_X10_tuned_31 v1 v2 s.1 s.2) (v3, M)
set_option maxHeartbeats 4000000 in
set_option maxRecDepth 100000 in
theorem w_X10_tuned_31 {G : zzG} {t : Nat} {Q : Option Value → zzMem → Prop} (v1 : Int32) (v2 : Int32) (v3 : Int32) (M : zzMem) (ht : 180 ≤ t)  {P : (Int32 × zzMem) → Prop} (h : zK (j_X10_tuned_31 v1 v2 v3 M) P) (kR : ∀ r : (Int32 × zzMem), P r → Q (some (.int r.1)) r.2) : zz_W G m_X10_tuned t t t 31 [some (.ref 73), some (.int v1), some (.int v2), some (.int v3), none, none, none] [] M Q := by
  unfold j_X10_tuned_31 at h
  exact zK_lp h (fun s : (Int32 × zzMem) => zz_W G m_X10_tuned t t t 31 [some (.ref 73), some (.int v1), some (.int v2), some (.int s.1), none, none, none] [] s.2 Q) (fun s h => x_X10_tuned_31 v1 v2 s.1 s.2 ht h (fun s p => p) kR)
noncomputable def f_X10_tuned (a1 : Int32) (M : zzMem) : Option (Int32 × zzMem) :=
  if (f_X10_in a1 (nI 0) (nI 1)) = true then
  ((f_X10_copies (nI 0) (nI 2) M).bind (fun M2 =>
  (f_X10_orders M2).bind (fun M3 =>
  zbd ((M3.1 74 7)) (fun x4 =>
  j_X10_tuned_31 a1 x4 (nI 0) M3))))
  else (some (((-1 : Int32), M)))
set_option maxHeartbeats 4000000 in
set_option maxRecDepth 100000 in
theorem w_X10_tuned_0 {G : zzG} {t : Nat} {Q : Option Value → zzMem → Prop} (a1 : Int32) (M : zzMem) (ht : 180 ≤ t)  {P : (Int32 × zzMem) → Prop} (h : zK (f_X10_tuned a1 M) P) (kR : ∀ r : (Int32 × zzMem), P r → Q (some (.int r.1)) r.2) : zz_W G m_X10_tuned t t t 0 [some (.ref 73), some (.int a1), none, none, none, none, none] [] M Q := by
  unfold f_X10_tuned at h
  refine r_iload_n dX10_tuned_0 rfl ?_
  refine r_iconst (v := (nI 0)) dX10_tuned_1 (by decide) ?_
  refine r_iconst (v := (nI 1)) dX10_tuned_2 (by decide) ?_
  refine tS_zr (v := f_X10_in a1 (nI 0) (nI 1)) (as := [.int a1, .int (nI 0), .int (nI 1)]) (st := []) dX10_tuned_3 zM_X10_in zk_X10_67 ⟨Nat.le_of_ble_eq_true rfl, Nat.le_of_ble_eq_true rfl⟩ (Nat.le_of_ble_eq_true rfl) (zz_T0 rfl rfl) (fun Q' h => c_X10_in (a1) ((nI 0)) ((nI 1)) M h) ?_
  refine r_ifZ_ne 11 dX10_tuned_6 (by decide) (fun c1 => ?_) (fun c1 => ?_)
  · have h := zK_pos h c1
    refine r_aload_n dX10_tuned_11 rfl ?_
    refine r_iconst (v := (nI 0)) dX10_tuned_12 (by decide) ?_
    refine r_iconst (v := (nI 2)) dX10_tuned_13 (by decide) ?_
    refine kV_vw (as := [.int (nI 0), .int (nI 2)]) (st := []) (k := 73) dX10_tuned_14 zM_X10_copies zk_X10_332 (zo_X10 (zs_X10 ht)) (by decide) rfl ⟨Nat.le_of_ble_eq_true rfl, Nat.le_of_ble_eq_true rfl⟩ (Nat.le_of_ble_eq_true rfl) (zz_T0 rfl rfl) (fun Q' P' k h => c_X10_copies ((nI 0)) ((nI 2)) M ht h k) h (fun M2 h => ?_)
    refine r_aload_n dX10_tuned_17 rfl ?_
    refine kV_vw (as := []) (st := []) (k := 73) dX10_tuned_18 zM_X10_orders zk_X10_256 (zo_X10 (zs_X10 ht)) (by decide) rfl ⟨Nat.le_of_ble_eq_true rfl, Nat.le_of_ble_eq_true rfl⟩ (Nat.le_of_ble_eq_true rfl) (zz_T0 rfl rfl) (fun Q' P' k h => c_X10_orders M2 ht h k) h (fun M3 h => ?_)
    refine r_aload_n dX10_tuned_21 rfl ?_
    refine r_getR (k := 73) (q := 74) dX10_tuned_22 zf_X10_7 (zo_X10 (zs_X10 ht)) (zr_X10_0 (zs_X10 ht)).1 (zr_X10_0 (zs_X10 ht)).2.1 (zr_X10_0 (zs_X10 ht)).2.2 ?_
    refine r_bipush (v := (nI 7)) dX10_tuned_25 (by decide) ?_
    refine r_ialdc (j := 7) dX10_tuned_27 (za_X10_0 (zs_X10 ht)) rfl rfl ?_
    refine r_istore_n (fun x4 => [some (.ref 73), some (.int a1), some (.int x4), none, none, none, none]) dX10_tuned_28 (by decide) rfl (fun _ => rfl) (fun x4 ex4 => ?_)
    have h := zK_bd h ex4
    refine r_iconst (v := (nI 0)) dX10_tuned_29 (by decide) ?_
    refine s_istore_n ([some (.ref 73), some (.int a1), some (.int x4), some (.int (nI 0)), none, none, none]) dX10_tuned_30 (by decide) rfl rfl ?_
    exact w_X10_tuned_31 (a1) (x4) ((nI 0)) M3 ht h kR
  · have h := zK_neg h c1
    refine r_iconst (v := (-1 : Int32)) dX10_tuned_9 (by decide) ?_
    exact r_iret dX10_tuned_10 rfl rfl rfl (kR (((-1 : Int32), M)) (zK_some h))
set_option maxHeartbeats 4000000 in
set_option maxRecDepth 100000 in
theorem c_X10_tuned {G : zzG} {t : Nat} {Q : Option Value → zzMem → Prop} (a1 : Int32) (M : zzMem) (ht : 180 ≤ t)  {P : (Int32 × zzMem) → Prop} (h : zK (f_X10_tuned a1 M) P) (kR : ∀ r : (Int32 × zzMem), P r → Q (some (.int r.1)) r.2) : zz_S G m_X10_tuned t t [.ref 73, .int a1] M Q :=
  zz_S_of (by decide) (by decide) (Nat.le_of_ble_eq_true rfl) (w_X10_tuned_0 a1 M ht h kR)
noncomputable def f_X10_signOfHash (a0 : Int32) : Option Int32 :=
  some ((((nI 1) <<< ((a0 / (nI 4096)) &&& 31)) ||| ((nI 1) <<< ((zrm a0 (nI 16)) &&& 31))))
set_option maxHeartbeats 4000000 in
set_option maxRecDepth 100000 in
theorem w_X10_signOfHash_0 {G : zzG} {t : Nat} {Q : Option Value → zzMem → Prop} (a0 : Int32) (M : zzMem)  {P : Int32 → Prop} (h : zK (f_X10_signOfHash a0) P) (kR : ∀ r : Int32, P r → Q (some (.int r)) M) : zz_W G m_X10_signOfHash t t t 0 [some (.int a0)] [] M Q := by
  unfold f_X10_signOfHash at h
  refine r_iconst (v := (nI 1)) dX10_signOfHash_0 (by decide) ?_
  refine r_iload_n dX10_signOfHash_1 rfl ?_
  refine r_sipush (v := (nI 4096)) dX10_signOfHash_2 (by decide) ?_
  refine r_idiv dX10_signOfHash_5 (by decide) ?_
  refine r_ishl dX10_signOfHash_6 ?_
  refine r_iconst (v := (nI 1)) dX10_signOfHash_7 (by decide) ?_
  refine r_iload_n dX10_signOfHash_8 rfl ?_
  refine r_bipush (v := (nI 16)) dX10_signOfHash_9 (by decide) ?_
  refine r_irem dX10_signOfHash_11 (by decide) ?_
  refine r_ishl dX10_signOfHash_12 ?_
  refine r_ior dX10_signOfHash_13 ?_
  exact r_iret dX10_signOfHash_14 rfl rfl rfl (kR ((((nI 1) <<< ((a0 / (nI 4096)) &&& 31)) ||| ((nI 1) <<< ((zrm a0 (nI 16)) &&& 31)))) (zK_some h))
set_option maxHeartbeats 4000000 in
set_option maxRecDepth 100000 in
theorem c_X10_signOfHash {G : zzG} {t : Nat} {Q : Option Value → zzMem → Prop} (a0 : Int32) (M : zzMem)  {P : Int32 → Prop} (h : zK (f_X10_signOfHash a0) P) (kR : ∀ r : Int32, P r → Q (some (.int r)) M) : zz_S G m_X10_signOfHash t t [.int a0] M Q :=
  zz_S_of (by decide) (by decide) (Nat.le_of_ble_eq_true rfl) (w_X10_signOfHash_0 a0 M  h kR)
noncomputable def b_X10_signsOf_4 (v1 : Int32) (v2 : Int32) (v3 : Int32) (M : zzMem) : Option ((Int32 × Int32 × zzMem) ⊕ (Int32 × zzMem)) :=
  if (M.1 74 7) ≤ v3 then
  (some ((.inr (v2, M))))
  else (zgd (vp_in ((nI 640) + v3) 5676) (
  if (M.1 74 (((nI 640) + v3)).toNatClampNeg) = v1 then
  (zgd (vp_in ((nI 40) + v3) 5676) (
  (f_X10_hashOf (M.1 74 (((nI 40) + v3)).toNatClampNeg) M).bind (fun q6 => zpr q6 (fun r7 M8 =>
  (f_X10_signOfHash r7).bind (fun r9 =>
  zbd ((v2 ||| r9)) (fun x10 =>
  zbd (v3 + (nI 1)) (fun x11 =>
  some (.inl (x10, x11, M8)))))))))
  else (zbd (v3 + (nI 1)) (fun x4 =>
  some (.inl (v2, x4, M))))))
set_option maxHeartbeats 4000000 in
set_option maxRecDepth 100000 in
theorem x_X10_signsOf_4 {G : zzG} {t : Nat} {Q : Option Value → zzMem → Prop} (v1 : Int32) (v2 : Int32) (v3 : Int32) (M : zzMem) (ht : 180 ≤ t)  {P : ((Int32 × Int32 × zzMem) ⊕ (Int32 × zzMem)) → Prop} (h : zK (b_X10_signsOf_4 v1 v2 v3 M) P) (k4 : ∀ s : (Int32 × Int32 × zzMem), P (.inl s) → zz_W G m_X10_signsOf t t t 4 [some (.ref 73), some (.int v1), some (.int s.1), some (.int s.2.1)] [] s.2.2 Q) (kR : ∀ r : (Int32 × zzMem), P (.inr r) → Q (some (.int r.1)) r.2) : zz_W G m_X10_signsOf t t t 4 [some (.ref 73), some (.int v1), some (.int v2), some (.int v3)] [] M Q := by
  unfold b_X10_signsOf_4 at h
  refine r_iload_n dX10_signsOf_4 rfl ?_
  refine r_aload_n dX10_signsOf_5 rfl ?_
  refine r_getR (k := 73) (q := 74) dX10_signsOf_6 zf_X10_7 (zo_X10 (zs_X10 ht)) (zr_X10_0 (zs_X10 ht)).1 (zr_X10_0 (zs_X10 ht)).2.1 (zr_X10_0 (zs_X10 ht)).2.2 ?_
  refine r_bipush (v := (nI 7)) dX10_signsOf_9 (by decide) ?_
  refine r_ialdc (j := 7) dX10_signsOf_11 (za_X10_0 (zs_X10 ht)) rfl rfl ?_
  refine r_icmp_ge 54 dX10_signsOf_12 (by decide) (fun c1 => ?_) (fun c1 => ?_)
  · have h := zK_pos h c1
    refine r_iload_n dX10_signsOf_54 rfl ?_
    exact r_iret dX10_signsOf_55 rfl rfl rfl (kR ((v2, M)) (zK_some h))
  · have h := zK_neg h c1
    refine r_aload_n dX10_signsOf_15 rfl ?_
    refine r_getR (k := 73) (q := 74) dX10_signsOf_16 zf_X10_7 (zo_X10 (zs_X10 ht)) (zr_X10_0 (zs_X10 ht)).1 (zr_X10_0 (zs_X10 ht)).2.1 (zr_X10_0 (zs_X10 ht)).2.2 ?_
    refine r_sipush (v := (nI 640)) dX10_signsOf_19 (by decide) ?_
    refine r_iload_n dX10_signsOf_22 rfl ?_
    refine r_iadd dX10_signsOf_23 ?_
    obtain ⟨g2, h⟩ := zK_gd h
    refine r_iald dX10_signsOf_24 (za_X10_0 (zs_X10 ht)) g2 ?_
    refine r_iload_n dX10_signsOf_25 rfl ?_
    refine r_icmp_ne 48 dX10_signsOf_26 (by decide) (fun c3 => ?_) (fun c3 => ?_)
    · have h := zK_neg h c3
      refine r_iinc (nI 1) (fun x4 => [some (.ref 73), some (.int v1), some (.int v2), some (.int x4)]) dX10_signsOf_48 rfl (by decide) (by decide) rfl (fun _ => rfl) (fun x4 ex4 => ?_)
      have h := zK_bd h ex4
      refine r_goto 4 dX10_signsOf_51 (by decide) ?_
      exact k4 ((v2, x4, M)) (zK_some h)
    · have h := zK_pos h c3
      refine r_iload_n dX10_signsOf_29 rfl ?_
      refine r_aload_n dX10_signsOf_30 rfl ?_
      refine r_aload_n dX10_signsOf_31 rfl ?_
      refine r_getR (k := 73) (q := 74) dX10_signsOf_32 zf_X10_7 (zo_X10 (zs_X10 ht)) (zr_X10_0 (zs_X10 ht)).1 (zr_X10_0 (zs_X10 ht)).2.1 (zr_X10_0 (zs_X10 ht)).2.2 ?_
      refine r_bipush (v := (nI 40)) dX10_signsOf_35 (by decide) ?_
      refine r_iload_n dX10_signsOf_37 rfl ?_
      refine r_iadd dX10_signsOf_38 ?_
      obtain ⟨g5, h⟩ := zK_gd h
      refine r_iald dX10_signsOf_39 (za_X10_0 (zs_X10 ht)) g5 ?_
      refine kV_iw (as := [.int (M.1 74 (((nI 40) + v3)).toNatClampNeg)]) (st := [.int v2]) (k := 73) dX10_signsOf_40 zM_X10_hashOf zk_X10_184 (zo_X10 (zs_X10 ht)) (by decide) rfl ⟨Nat.le_of_ble_eq_true rfl, Nat.le_of_ble_eq_true rfl⟩ (Nat.le_of_ble_eq_true rfl) (zz_T0 rfl rfl) (fun Q' P' k h => c_X10_hashOf ((M.1 74 (((nI 40) + v3)).toNatClampNeg)) M ht h (fun r p => k r.1 r.2 p)) h (fun r7 M8 h => ?_)
      have h := zK_pr h
      refine kS_ir (as := [.int r7]) (st := [.int v2]) dX10_signsOf_43 zM_X10_signOfHash zk_X10_347 ⟨Nat.le_of_ble_eq_true rfl, Nat.le_of_ble_eq_true rfl⟩ (Nat.le_of_ble_eq_true rfl) (zz_T0 rfl rfl) (fun Q' P' k h => c_X10_signOfHash (r7) M8 h k) h (fun r9 h => ?_)
      refine r_ior dX10_signsOf_46 ?_
      refine r_istore_n (fun x10 => [some (.ref 73), some (.int v1), some (.int x10), some (.int v3)]) dX10_signsOf_47 (by decide) rfl (fun _ => rfl) (fun x10 ex10 => ?_)
      have h := zK_bd h ex10
      refine r_iinc (nI 1) (fun x11 => [some (.ref 73), some (.int v1), some (.int x10), some (.int x11)]) dX10_signsOf_48 rfl (by decide) (by decide) rfl (fun _ => rfl) (fun x11 ex11 => ?_)
      have h := zK_bd h ex11
      refine r_goto 4 dX10_signsOf_51 (by decide) ?_
      exact k4 ((x10, x11, M8)) (zK_some h)
noncomputable def j_X10_signsOf_4 (v1 : Int32) (v2 : Int32) (v3 : Int32) (M : zzMem) : Option (Int32 × zzMem) :=
  zlp (fun s : (Int32 × Int32 × zzMem) => b_X10_signsOf_4 v1 s.1 s.2.1 s.2.2) (v2, v3, M)
set_option maxHeartbeats 4000000 in
set_option maxRecDepth 100000 in
theorem w_X10_signsOf_4 {G : zzG} {t : Nat} {Q : Option Value → zzMem → Prop} (v1 : Int32) (v2 : Int32) (v3 : Int32) (M : zzMem) (ht : 180 ≤ t)  {P : (Int32 × zzMem) → Prop} (h : zK (j_X10_signsOf_4 v1 v2 v3 M) P) (kR : ∀ r : (Int32 × zzMem), P r → Q (some (.int r.1)) r.2) : zz_W G m_X10_signsOf t t t 4 [some (.ref 73), some (.int v1), some (.int v2), some (.int v3)] [] M Q := by
  unfold j_X10_signsOf_4 at h
  exact zK_lp h (fun s : (Int32 × Int32 × zzMem) => zz_W G m_X10_signsOf t t t 4 [some (.ref 73), some (.int v1), some (.int s.1), some (.int s.2.1)] [] s.2.2 Q) (fun s h => x_X10_signsOf_4 v1 s.1 s.2.1 s.2.2 ht h (fun s p => p) kR)
noncomputable def f_X10_signsOf (a1 : Int32) (M : zzMem) : Option (Int32 × zzMem) :=
  j_X10_signsOf_4 a1 (nI 0) (nI 0) M
set_option maxHeartbeats 4000000 in
set_option maxRecDepth 100000 in
theorem w_X10_signsOf_0 {G : zzG} {t : Nat} {Q : Option Value → zzMem → Prop} (a1 : Int32) (M : zzMem) (ht : 180 ≤ t)  {P : (Int32 × zzMem) → Prop} (h : zK (f_X10_signsOf a1 M) P) (kR : ∀ r : (Int32 × zzMem), P r → Q (some (.int r.1)) r.2) : zz_W G m_X10_signsOf t t t 0 [some (.ref 73), some (.int a1), none, none] [] M Q := by
  unfold f_X10_signsOf at h
  refine r_iconst (v := (nI 0)) dX10_signsOf_0 (by decide) ?_
  refine s_istore_n ([some (.ref 73), some (.int a1), some (.int (nI 0)), none]) dX10_signsOf_1 (by decide) rfl rfl ?_
  refine r_iconst (v := (nI 0)) dX10_signsOf_2 (by decide) ?_
  refine s_istore_n ([some (.ref 73), some (.int a1), some (.int (nI 0)), some (.int (nI 0))]) dX10_signsOf_3 (by decide) rfl rfl ?_
  exact w_X10_signsOf_4 (a1) ((nI 0)) ((nI 0)) M ht h kR
set_option maxHeartbeats 4000000 in
set_option maxRecDepth 100000 in
theorem c_X10_signsOf {G : zzG} {t : Nat} {Q : Option Value → zzMem → Prop} (a1 : Int32) (M : zzMem) (ht : 180 ≤ t)  {P : (Int32 × zzMem) → Prop} (h : zK (f_X10_signsOf a1 M) P) (kR : ∀ r : (Int32 × zzMem), P r → Q (some (.int r.1)) r.2) : zz_S G m_X10_signsOf t t [.ref 73, .int a1] M Q :=
  zz_S_of (by decide) (by decide) (Nat.le_of_ble_eq_true rfl) (w_X10_signsOf_0 a1 M ht h kR)
noncomputable def f_X10_signs (a1 : Int32) (M : zzMem) : Option (Int32 × zzMem) :=
  (f_X10_buckets M).bind (fun r1 =>
  if (f_X10_in a1 (nI 0) (r1 - (nI 1))) = true then
  ((f_X10_signsOf a1 M).bind (fun q3 => zpr q3 (fun r4 M5 =>
  some ((r4, M5)))))
  else (some (((-1 : Int32), M))))
set_option maxHeartbeats 4000000 in
set_option maxRecDepth 100000 in
theorem w_X10_signs_0 {G : zzG} {t : Nat} {Q : Option Value → zzMem → Prop} (a1 : Int32) (M : zzMem) (ht : 180 ≤ t)  {P : (Int32 × zzMem) → Prop} (h : zK (f_X10_signs a1 M) P) (kR : ∀ r : (Int32 × zzMem), P r → Q (some (.int r.1)) r.2) : zz_W G m_X10_signs t t t 0 [some (.ref 73), some (.int a1)] [] M Q := by
  unfold f_X10_signs at h
  refine r_iload_n dX10_signs_0 rfl ?_
  refine r_iconst (v := (nI 0)) dX10_signs_1 (by decide) ?_
  refine r_aload_n dX10_signs_2 rfl ?_
  refine kV_ir (as := []) (st := [.int (nI 0), .int a1]) (k := 73) dX10_signs_3 zM_X10_buckets zk_X10_178 (zo_X10 (zs_X10 ht)) (by decide) rfl ⟨Nat.le_of_ble_eq_true rfl, Nat.le_of_ble_eq_true rfl⟩ (Nat.le_of_ble_eq_true rfl) (zz_T0 rfl rfl) (fun Q' P' k h => c_X10_buckets M ht h k) h (fun r1 h => ?_)
  refine r_iconst (v := (nI 1)) dX10_signs_6 (by decide) ?_
  refine r_isub dX10_signs_7 ?_
  refine tS_zr (v := f_X10_in a1 (nI 0) (r1 - (nI 1))) (as := [.int a1, .int (nI 0), .int (r1 - (nI 1))]) (st := []) dX10_signs_8 zM_X10_in zk_X10_67 ⟨Nat.le_of_ble_eq_true rfl, Nat.le_of_ble_eq_true rfl⟩ (Nat.le_of_ble_eq_true rfl) (zz_T0 rfl rfl) (fun Q' h => c_X10_in (a1) ((nI 0)) ((r1 - (nI 1))) M h) ?_
  refine r_ifZ_eq 22 dX10_signs_11 (by decide) (fun c2 => ?_) (fun c2 => ?_)
  · have h := zK_neg h c2
    refine r_iconst (v := (-1 : Int32)) dX10_signs_22 (by decide) ?_
    exact r_iret dX10_signs_23 rfl rfl rfl (kR (((-1 : Int32), M)) (zK_some h))
  · have h := zK_pos h c2
    refine r_aload_n dX10_signs_14 rfl ?_
    refine r_iload_n dX10_signs_15 rfl ?_
    refine kV_iw (as := [.int a1]) (st := []) (k := 73) dX10_signs_16 zM_X10_signsOf zk_X10_350 (zo_X10 (zs_X10 ht)) (by decide) rfl ⟨Nat.le_of_ble_eq_true rfl, Nat.le_of_ble_eq_true rfl⟩ (Nat.le_of_ble_eq_true rfl) (zz_T0 rfl rfl) (fun Q' P' k h => c_X10_signsOf (a1) M ht h (fun r p => k r.1 r.2 p)) h (fun r4 M5 h => ?_)
    have h := zK_pr h
    refine r_goto 23 dX10_signs_19 (by decide) ?_
    exact r_iret dX10_signs_23 rfl rfl rfl (kR ((r4, M5)) (zK_some h))
set_option maxHeartbeats 4000000 in
set_option maxRecDepth 100000 in
theorem c_X10_signs {G : zzG} {t : Nat} {Q : Option Value → zzMem → Prop} (a1 : Int32) (M : zzMem) (ht : 180 ≤ t)  {P : (Int32 × zzMem) → Prop} (h : zK (f_X10_signs a1 M) P) (kR : ∀ r : (Int32 × zzMem), P r → Q (some (.int r.1)) r.2) : zz_S G m_X10_signs t t [.ref 73, .int a1] M Q :=
  zz_S_of (by decide) (by decide) (Nat.le_of_ble_eq_true rfl) (w_X10_signs_0 a1 M ht h kR)
noncomputable def b_X10_passed_13 (v1 : Int32) (v2 : Int32) (v3 : Int32) (M : zzMem) : Option ((Int32 × Int32 × zzMem) ⊕ (Int32 × zzMem)) :=
  if (nI 256) ≤ v3 then
  (some ((.inr (v2, M))))
  else (zbd ((zrm (v1 + v3) (nI 65536))) (fun x2 =>
  (f_X10_hashOf x2 M).bind (fun q3 => zpr q3 (fun r4 M5 =>
  (f_X10_signOfHash r4).bind (fun r6 =>
  (f_X10_entryOf (nI 0) x2 M5).bind (fun r7 =>
  if r7 = (-1 : Int32) then
  ((f_X10_addressOf x2 M5).bind (fun q10 => zpr q10 (fun r11 M12 =>
  (f_X10_signsOf r11 M12).bind (fun q13 => zpr q13 (fun r14 M15 =>
  if (r14 &&& r6) = r6 then
  (zbd ((v2 + (nI 1))) (fun x18 =>
  zbd (v3 + (nI 1)) (fun x19 =>
  some (.inl (x18, x19, M15)))))
  else (zbd (v3 + (nI 1)) (fun x17 =>
  some (.inl (v2, x17, M15)))))))))
  else (zbd (v3 + (nI 1)) (fun x9 =>
  some (.inl (v2, x9, M5))))))))))
set_option maxHeartbeats 4000000 in
set_option maxRecDepth 100000 in
theorem x_X10_passed_13 {G : zzG} {t : Nat} {Q : Option Value → zzMem → Prop} (v1 : Int32) (v2 : Int32) (v3 : Int32) (M : zzMem) (ht : 180 ≤ t)  {P : ((Int32 × Int32 × zzMem) ⊕ (Int32 × zzMem)) → Prop} (h : zK (b_X10_passed_13 v1 v2 v3 M) P) (k13 : ∀ s : (Int32 × Int32 × zzMem), P (.inl s) → zz_W G m_X10_passed t t t 13 [some (.ref 73), some (.int v1), some (.int s.1), some (.int s.2.1), none, none] [] s.2.2 Q) (kR : ∀ r : (Int32 × zzMem), P (.inr r) → Q (some (.int r.1)) r.2) : zz_W G m_X10_passed t t t 13 [some (.ref 73), some (.int v1), some (.int v2), some (.int v3), none, none] [] M Q := by
  unfold b_X10_passed_13 at h
  refine r_iload_n dX10_passed_13 rfl ?_
  refine r_sipush (v := (nI 256)) dX10_passed_14 (by decide) ?_
  refine r_icmp_ge 78 dX10_passed_17 (by decide) (fun c1 => ?_) (fun c1 => ?_)
  · have h := zK_pos h c1
    refine r_iload_n dX10_passed_78 rfl ?_
    exact r_iret dX10_passed_79 rfl rfl rfl (kR ((v2, M)) (zK_some h))
  · have h := zK_neg h c1
    refine r_iload_n dX10_passed_20 rfl ?_
    refine r_iload_n dX10_passed_21 rfl ?_
    refine r_iadd dX10_passed_22 ?_
    refine r_ldc (v := (nI 65536)) dX10_passed_23 zd_X10_62 ?_
    refine r_irem dX10_passed_25 (by decide) ?_
    refine r_istore (fun x2 => [some (.ref 73), some (.int v1), some (.int v2), some (.int v3), some (.int x2), none]) dX10_passed_26 (by decide) rfl (fun _ => rfl) (fun x2 ex2 => ?_)
    have h := zK_bd h ex2
    refine r_aload_n dX10_passed_28 rfl ?_
    refine r_iload dX10_passed_29 rfl ?_
    refine kV_iw (as := [.int x2]) (st := []) (k := 73) dX10_passed_31 zM_X10_hashOf zk_X10_184 (zo_X10 (zs_X10 ht)) (by decide) rfl ⟨Nat.le_of_ble_eq_true rfl, Nat.le_of_ble_eq_true rfl⟩ (Nat.le_of_ble_eq_true rfl) (zz_T0 rfl rfl) (fun Q' P' k h => c_X10_hashOf (x2) M ht h (fun r p => k r.1 r.2 p)) h (fun r4 M5 h => ?_)
    have h := zK_pr h
    refine kS_ir (as := [.int r4]) (st := []) dX10_passed_34 zM_X10_signOfHash zk_X10_347 ⟨Nat.le_of_ble_eq_true rfl, Nat.le_of_ble_eq_true rfl⟩ (Nat.le_of_ble_eq_true rfl) (zz_T0 rfl rfl) (fun Q' P' k h => c_X10_signOfHash (r4) M5 h k) h (fun r6 h => ?_)
    refine s_istore ([some (.ref 73), some (.int v1), some (.int v2), some (.int v3), some (.int x2), some (.int r6)]) dX10_passed_37 (by decide) rfl rfl ?_
    refine r_aload_n dX10_passed_39 rfl ?_
    refine r_iconst (v := (nI 0)) dX10_passed_40 (by decide) ?_
    refine r_iload dX10_passed_41 rfl ?_
    refine kV_ir (as := [.int (nI 0), .int x2]) (st := []) (k := 73) dX10_passed_43 zM_X10_entryOf zk_X10_211 (zo_X10 (zs_X10 ht)) (by decide) rfl ⟨Nat.le_of_ble_eq_true rfl, Nat.le_of_ble_eq_true rfl⟩ (Nat.le_of_ble_eq_true rfl) (zz_T0 rfl rfl) (fun Q' P' k h => c_X10_entryOf ((nI 0)) (x2) M5 ht h k) h (fun r7 h => ?_)
    refine r_iconst (v := (-1 : Int32)) dX10_passed_46 (by decide) ?_
    refine r_icmp_ne 72 dX10_passed_47 (by decide) (fun c8 => ?_) (fun c8 => ?_)
    · have h := zK_neg h c8
      refine r_iinc (nI 1) (fun x9 => [some (.ref 73), some (.int v1), some (.int v2), some (.int x9), some (.int x2), some (.int r6)]) dX10_passed_72 rfl (by decide) (by decide) rfl (fun _ => rfl) (fun x9 ex9 => ?_)
      have h := zK_bd h ex9
      refine r_goto 13 dX10_passed_75 (by decide) ?_
      refine zz_mask [4, 5] ?_
      exact k13 ((v2, x9, M5)) (zK_some h)
    · have h := zK_pos h c8
      refine r_aload_n dX10_passed_50 rfl ?_
      refine r_aload_n dX10_passed_51 rfl ?_
      refine r_iload dX10_passed_52 rfl ?_
      refine kV_iw (as := [.int x2]) (st := [.ref 73]) (k := 73) dX10_passed_54 zM_X10_addressOf zk_X10_214 (zo_X10 (zs_X10 ht)) (by decide) rfl ⟨Nat.le_of_ble_eq_true rfl, Nat.le_of_ble_eq_true rfl⟩ (Nat.le_of_ble_eq_true rfl) (zz_T0 rfl rfl) (fun Q' P' k h => c_X10_addressOf (x2) M5 ht h (fun r p => k r.1 r.2 p)) h (fun r11 M12 h => ?_)
      have h := zK_pr h
      refine kV_iw (as := [.int r11]) (st := []) (k := 73) dX10_passed_57 zM_X10_signsOf zk_X10_350 (zo_X10 (zs_X10 ht)) (by decide) rfl ⟨Nat.le_of_ble_eq_true rfl, Nat.le_of_ble_eq_true rfl⟩ (Nat.le_of_ble_eq_true rfl) (zz_T0 rfl rfl) (fun Q' P' k h => c_X10_signsOf (r11) M12 ht h (fun r p => k r.1 r.2 p)) h (fun r14 M15 h => ?_)
      have h := zK_pr h
      refine r_iload dX10_passed_60 rfl ?_
      refine r_iand dX10_passed_62 ?_
      refine r_iload dX10_passed_63 rfl ?_
      refine r_icmp_ne 72 dX10_passed_65 (by decide) (fun c16 => ?_) (fun c16 => ?_)
      · have h := zK_neg h c16
        refine r_iinc (nI 1) (fun x17 => [some (.ref 73), some (.int v1), some (.int v2), some (.int x17), some (.int x2), some (.int r6)]) dX10_passed_72 rfl (by decide) (by decide) rfl (fun _ => rfl) (fun x17 ex17 => ?_)
        have h := zK_bd h ex17
        refine r_goto 13 dX10_passed_75 (by decide) ?_
        refine zz_mask [4, 5] ?_
        exact k13 ((v2, x17, M15)) (zK_some h)
      · have h := zK_pos h c16
        refine r_iload_n dX10_passed_68 rfl ?_
        refine r_iconst (v := (nI 1)) dX10_passed_69 (by decide) ?_
        refine r_iadd dX10_passed_70 ?_
        refine r_istore_n (fun x18 => [some (.ref 73), some (.int v1), some (.int x18), some (.int v3), some (.int x2), some (.int r6)]) dX10_passed_71 (by decide) rfl (fun _ => rfl) (fun x18 ex18 => ?_)
        have h := zK_bd h ex18
        refine r_iinc (nI 1) (fun x19 => [some (.ref 73), some (.int v1), some (.int x18), some (.int x19), some (.int x2), some (.int r6)]) dX10_passed_72 rfl (by decide) (by decide) rfl (fun _ => rfl) (fun x19 ex19 => ?_)
        have h := zK_bd h ex19
        refine r_goto 13 dX10_passed_75 (by decide) ?_
        refine zz_mask [4, 5] ?_
        exact k13 ((x18, x19, M15)) (zK_some h)
noncomputable def j_X10_passed_13 (v1 : Int32) (v2 : Int32) (v3 : Int32) (M : zzMem) : Option (Int32 × zzMem) :=
  zlp (fun s : (Int32 × Int32 × zzMem) => b_X10_passed_13 v1 s.1 s.2.1 s.2.2) (v2, v3, M)
set_option maxHeartbeats 4000000 in
set_option maxRecDepth 100000 in
theorem w_X10_passed_13 {G : zzG} {t : Nat} {Q : Option Value → zzMem → Prop} (v1 : Int32) (v2 : Int32) (v3 : Int32) (M : zzMem) (ht : 180 ≤ t)  {P : (Int32 × zzMem) → Prop} (h : zK (j_X10_passed_13 v1 v2 v3 M) P) (kR : ∀ r : (Int32 × zzMem), P r → Q (some (.int r.1)) r.2) : zz_W G m_X10_passed t t t 13 [some (.ref 73), some (.int v1), some (.int v2), some (.int v3), none, none] [] M Q := by
  unfold j_X10_passed_13 at h
  exact zK_lp h (fun s : (Int32 × Int32 × zzMem) => zz_W G m_X10_passed t t t 13 [some (.ref 73), some (.int v1), some (.int s.1), some (.int s.2.1), none, none] [] s.2.2 Q) (fun s h => x_X10_passed_13 v1 s.1 s.2.1 s.2.2 ht h (fun s p => p) kR)
noncomputable def f_X10_passed (a1 : Int32) (M : zzMem) : Option (Int32 × zzMem) :=
  if (f_X10_isKey a1) = true then
  (j_X10_passed_13 a1 (nI 0) (nI 0) M)
  else (some (((-1 : Int32), M)))
set_option maxHeartbeats 4000000 in
set_option maxRecDepth 100000 in
theorem w_X10_passed_0 {G : zzG} {t : Nat} {Q : Option Value → zzMem → Prop} (a1 : Int32) (M : zzMem) (ht : 180 ≤ t)  {P : (Int32 × zzMem) → Prop} (h : zK (f_X10_passed a1 M) P) (kR : ∀ r : (Int32 × zzMem), P r → Q (some (.int r.1)) r.2) : zz_W G m_X10_passed t t t 0 [some (.ref 73), some (.int a1), none, none, none, none] [] M Q := by
  unfold f_X10_passed at h
  refine r_iload_n dX10_passed_0 rfl ?_
  refine tS_zr (v := f_X10_isKey a1) (as := [.int a1]) (st := []) dX10_passed_1 zM_X10_isKey zk_X10_226 ⟨Nat.le_of_ble_eq_true rfl, Nat.le_of_ble_eq_true rfl⟩ (Nat.le_of_ble_eq_true rfl) (zz_T0 rfl rfl) (fun Q' h => c_X10_isKey (a1) M h) ?_
  refine r_ifZ_ne 9 dX10_passed_4 (by decide) (fun c1 => ?_) (fun c1 => ?_)
  · have h := zK_pos h c1
    refine r_iconst (v := (nI 0)) dX10_passed_9 (by decide) ?_
    refine s_istore_n ([some (.ref 73), some (.int a1), some (.int (nI 0)), none, none, none]) dX10_passed_10 (by decide) rfl rfl ?_
    refine r_iconst (v := (nI 0)) dX10_passed_11 (by decide) ?_
    refine s_istore_n ([some (.ref 73), some (.int a1), some (.int (nI 0)), some (.int (nI 0)), none, none]) dX10_passed_12 (by decide) rfl rfl ?_
    exact w_X10_passed_13 (a1) ((nI 0)) ((nI 0)) M ht h kR
  · have h := zK_neg h c1
    refine r_iconst (v := (-1 : Int32)) dX10_passed_7 (by decide) ?_
    exact r_iret dX10_passed_8 rfl rfl rfl (kR (((-1 : Int32), M)) (zK_some h))
set_option maxHeartbeats 4000000 in
set_option maxRecDepth 100000 in
theorem c_X10_passed {G : zzG} {t : Nat} {Q : Option Value → zzMem → Prop} (a1 : Int32) (M : zzMem) (ht : 180 ≤ t)  {P : (Int32 × zzMem) → Prop} (h : zK (f_X10_passed a1 M) P) (kR : ∀ r : (Int32 × zzMem), P r → Q (some (.int r.1)) r.2) : zz_S G m_X10_passed t t [.ref 73, .int a1] M Q :=
  zz_S_of (by decide) (by decide) (Nat.le_of_ble_eq_true rfl) (w_X10_passed_0 a1 M ht h kR)
noncomputable def f_X10_valueKept (a1 : Int32) (M : zzMem) : Option Int32 :=
  (f_X10_entryOf (nI 1) a1 M).bind (fun r1 =>
  if r1 = (-1 : Int32) then
  (some ((-1 : Int32)))
  else (zgd (vp_in ((nI 2232) + r1) 5676) (
  some ((M.1 74 (((nI 2232) + r1)).toNatClampNeg)))))
set_option maxHeartbeats 4000000 in
set_option maxRecDepth 100000 in
theorem w_X10_valueKept_0 {G : zzG} {t : Nat} {Q : Option Value → zzMem → Prop} (a1 : Int32) (M : zzMem) (ht : 180 ≤ t)  {P : Int32 → Prop} (h : zK (f_X10_valueKept a1 M) P) (kR : ∀ r : Int32, P r → Q (some (.int r)) M) : zz_W G m_X10_valueKept t t t 0 [some (.ref 73), some (.int a1), none] [] M Q := by
  unfold f_X10_valueKept at h
  refine r_aload_n dX10_valueKept_0 rfl ?_
  refine r_iconst (v := (nI 1)) dX10_valueKept_1 (by decide) ?_
  refine r_iload_n dX10_valueKept_2 rfl ?_
  refine kV_ir (as := [.int (nI 1), .int a1]) (st := []) (k := 73) dX10_valueKept_3 zM_X10_entryOf zk_X10_211 (zo_X10 (zs_X10 ht)) (by decide) rfl ⟨Nat.le_of_ble_eq_true rfl, Nat.le_of_ble_eq_true rfl⟩ (Nat.le_of_ble_eq_true rfl) (zz_T0 rfl rfl) (fun Q' P' k h => c_X10_entryOf ((nI 1)) (a1) M ht h k) h (fun r1 h => ?_)
  refine s_istore_n ([some (.ref 73), some (.int a1), some (.int r1)]) dX10_valueKept_6 (by decide) rfl rfl ?_
  refine r_iload_n dX10_valueKept_7 rfl ?_
  refine r_iconst (v := (-1 : Int32)) dX10_valueKept_8 (by decide) ?_
  refine r_icmp_ne 16 dX10_valueKept_9 (by decide) (fun c2 => ?_) (fun c2 => ?_)
  · have h := zK_neg h c2
    refine r_aload_n dX10_valueKept_16 rfl ?_
    refine r_getR (k := 73) (q := 74) dX10_valueKept_17 zf_X10_7 (zo_X10 (zs_X10 ht)) (zr_X10_0 (zs_X10 ht)).1 (zr_X10_0 (zs_X10 ht)).2.1 (zr_X10_0 (zs_X10 ht)).2.2 ?_
    refine r_sipush (v := (nI 2232)) dX10_valueKept_20 (by decide) ?_
    refine r_iload_n dX10_valueKept_23 rfl ?_
    refine r_iadd dX10_valueKept_24 ?_
    obtain ⟨g3, h⟩ := zK_gd h
    refine r_iald dX10_valueKept_25 (za_X10_0 (zs_X10 ht)) g3 ?_
    exact r_iret dX10_valueKept_26 rfl rfl rfl (kR ((M.1 74 (((nI 2232) + r1)).toNatClampNeg)) (zK_some h))
  · have h := zK_pos h c2
    refine r_iconst (v := (-1 : Int32)) dX10_valueKept_12 (by decide) ?_
    refine r_goto 26 dX10_valueKept_13 (by decide) ?_
    exact r_iret dX10_valueKept_26 rfl rfl rfl (kR ((-1 : Int32)) (zK_some h))
set_option maxHeartbeats 4000000 in
set_option maxRecDepth 100000 in
theorem c_X10_valueKept {G : zzG} {t : Nat} {Q : Option Value → zzMem → Prop} (a1 : Int32) (M : zzMem) (ht : 180 ≤ t)  {P : Int32 → Prop} (h : zK (f_X10_valueKept a1 M) P) (kR : ∀ r : Int32, P r → Q (some (.int r)) M) : zz_S G m_X10_valueKept t t [.ref 73, .int a1] M Q :=
  zz_S_of (by decide) (by decide) (Nat.le_of_ble_eq_true rfl) (w_X10_valueKept_0 a1 M ht h kR)
noncomputable def b_X10_since_158 (v1 : Int32) (v2 : Int32) (v3 : Int32) (M : zzMem) : Option ((Int32 × Int32) ⊕ (Int32 × zzMem)) :=
  if (M.1 74 1899) ≤ v3 then
  (some ((.inr (v2, M))))
  else (if v1 = (nI 1) then
  (zgd (vp_in ((nI 1932) + v3) 5676) (
  (f_X10_entryOf (nI 0) (M.1 74 (((nI 1932) + v3)).toNatClampNeg) M).bind (fun r4 =>
  if r4 = (-1 : Int32) then
  (zbd ((v2 + (nI 1))) (fun x7 =>
  zbd (v3 + (nI 1)) (fun x8 =>
  some (.inl (x7, x8)))))
  else (zbd (v3 + (nI 1)) (fun x6 =>
  some (.inl (v2, x6)))))))
  else (some ((.inr (v2, M)))))
set_option maxHeartbeats 4000000 in
set_option maxRecDepth 100000 in
theorem x_X10_since_158 {G : zzG} {t : Nat} {Q : Option Value → zzMem → Prop} (v1 : Int32) (v2 : Int32) (v3 : Int32) (M : zzMem) (ht : 180 ≤ t)  {P : ((Int32 × Int32) ⊕ (Int32 × zzMem)) → Prop} (h : zK (b_X10_since_158 v1 v2 v3 M) P) (k158 : ∀ s : (Int32 × Int32), P (.inl s) → zz_W G m_X10_since t t t 158 [some (.ref 73), some (.int v1), some (.int s.1), some (.int s.2), none, none] [] M Q) (kR : ∀ r : (Int32 × zzMem), P (.inr r) → Q (some (.int r.1)) r.2) : zz_W G m_X10_since t t t 158 [some (.ref 73), some (.int v1), some (.int v2), some (.int v3), none, none] [] M Q := by
  unfold b_X10_since_158 at h
  refine r_iload_n dX10_since_158 rfl ?_
  refine r_aload_n dX10_since_159 rfl ?_
  refine r_getR (k := 73) (q := 74) dX10_since_160 zf_X10_7 (zo_X10 (zs_X10 ht)) (zr_X10_0 (zs_X10 ht)).1 (zr_X10_0 (zs_X10 ht)).2.1 (zr_X10_0 (zs_X10 ht)).2.2 ?_
  refine r_sipush (v := (nI 1899)) dX10_since_163 (by decide) ?_
  refine r_ialdc (j := 1899) dX10_since_166 (za_X10_0 (zs_X10 ht)) rfl rfl ?_
  refine r_icmp_ge 204 dX10_since_167 (by decide) (fun c1 => ?_) (fun c1 => ?_)
  · have h := zK_pos h c1
    refine r_iload_n dX10_since_204 rfl ?_
    exact r_iret dX10_since_205 rfl rfl rfl (kR ((v2, M)) (zK_some h))
  · have h := zK_neg h c1
    refine r_iload_n dX10_since_170 rfl ?_
    refine r_iconst (v := (nI 1)) dX10_since_171 (by decide) ?_
    refine r_icmp_ne 204 dX10_since_172 (by decide) (fun c2 => ?_) (fun c2 => ?_)
    · have h := zK_neg h c2
      refine r_iload_n dX10_since_204 rfl ?_
      exact r_iret dX10_since_205 rfl rfl rfl (kR ((v2, M)) (zK_some h))
    · have h := zK_pos h c2
      refine r_aload_n dX10_since_175 rfl ?_
      refine r_iconst (v := (nI 0)) dX10_since_176 (by decide) ?_
      refine r_aload_n dX10_since_177 rfl ?_
      refine r_getR (k := 73) (q := 74) dX10_since_178 zf_X10_7 (zo_X10 (zs_X10 ht)) (zr_X10_0 (zs_X10 ht)).1 (zr_X10_0 (zs_X10 ht)).2.1 (zr_X10_0 (zs_X10 ht)).2.2 ?_
      refine r_sipush (v := (nI 1932)) dX10_since_181 (by decide) ?_
      refine r_iload_n dX10_since_184 rfl ?_
      refine r_iadd dX10_since_185 ?_
      obtain ⟨g3, h⟩ := zK_gd h
      refine r_iald dX10_since_186 (za_X10_0 (zs_X10 ht)) g3 ?_
      refine kV_ir (as := [.int (nI 0), .int (M.1 74 (((nI 1932) + v3)).toNatClampNeg)]) (st := []) (k := 73) dX10_since_187 zM_X10_entryOf zk_X10_211 (zo_X10 (zs_X10 ht)) (by decide) rfl ⟨Nat.le_of_ble_eq_true rfl, Nat.le_of_ble_eq_true rfl⟩ (Nat.le_of_ble_eq_true rfl) (zz_T0 rfl rfl) (fun Q' P' k h => c_X10_entryOf ((nI 0)) ((M.1 74 (((nI 1932) + v3)).toNatClampNeg)) M ht h k) h (fun r4 h => ?_)
      refine r_iconst (v := (-1 : Int32)) dX10_since_190 (by decide) ?_
      refine r_icmp_ne 198 dX10_since_191 (by decide) (fun c5 => ?_) (fun c5 => ?_)
      · have h := zK_neg h c5
        refine r_iinc (nI 1) (fun x6 => [some (.ref 73), some (.int v1), some (.int v2), some (.int x6), none, none]) dX10_since_198 rfl (by decide) (by decide) rfl (fun _ => rfl) (fun x6 ex6 => ?_)
        have h := zK_bd h ex6
        refine r_goto 158 dX10_since_201 (by decide) ?_
        exact k158 ((v2, x6)) (zK_some h)
      · have h := zK_pos h c5
        refine r_iload_n dX10_since_194 rfl ?_
        refine r_iconst (v := (nI 1)) dX10_since_195 (by decide) ?_
        refine r_iadd dX10_since_196 ?_
        refine r_istore_n (fun x7 => [some (.ref 73), some (.int v1), some (.int x7), some (.int v3), none, none]) dX10_since_197 (by decide) rfl (fun _ => rfl) (fun x7 ex7 => ?_)
        have h := zK_bd h ex7
        refine r_iinc (nI 1) (fun x8 => [some (.ref 73), some (.int v1), some (.int x7), some (.int x8), none, none]) dX10_since_198 rfl (by decide) (by decide) rfl (fun _ => rfl) (fun x8 ex8 => ?_)
        have h := zK_bd h ex8
        refine r_goto 158 dX10_since_201 (by decide) ?_
        exact k158 ((x7, x8)) (zK_some h)
noncomputable def j_X10_since_158 (v1 : Int32) (v2 : Int32) (v3 : Int32) (M : zzMem) : Option (Int32 × zzMem) :=
  zlp (fun s : (Int32 × Int32) => b_X10_since_158 v1 s.1 s.2 M) (v2, v3)
set_option maxHeartbeats 4000000 in
set_option maxRecDepth 100000 in
theorem w_X10_since_158 {G : zzG} {t : Nat} {Q : Option Value → zzMem → Prop} (v1 : Int32) (v2 : Int32) (v3 : Int32) (M : zzMem) (ht : 180 ≤ t)  {P : (Int32 × zzMem) → Prop} (h : zK (j_X10_since_158 v1 v2 v3 M) P) (kR : ∀ r : (Int32 × zzMem), P r → Q (some (.int r.1)) r.2) : zz_W G m_X10_since t t t 158 [some (.ref 73), some (.int v1), some (.int v2), some (.int v3), none, none] [] M Q := by
  unfold j_X10_since_158 at h
  exact zK_lp h (fun s : (Int32 × Int32) => zz_W G m_X10_since t t t 158 [some (.ref 73), some (.int v1), some (.int s.1), some (.int s.2), none, none] [] M Q) (fun s h => x_X10_since_158 v1 s.1 s.2 M ht h (fun s p => p) kR)
noncomputable def j_X10_since_106 (v1 : Int32) (v2 : Int32) (v3 : Int32) (w5 : Bool) (M : zzMem) : Option ((Int32 × Int32 × zzMem) ⊕ (Int32 × zzMem)) :=
  if v1 = (nI 3) then
  (if w5 = true then
  (zgd (vp_in ((nI 40) + v3) 5676) (
  (f_X10_addressIn (nI 1) (M.1 74 (((nI 40) + v3)).toNatClampNeg) M).bind (fun q6 => zpr q6 (fun r7 M8 =>
  (f_X10_addressOf (M8.1 74 (((nI 40) + v3)).toNatClampNeg) M8).bind (fun q9 => zpr q9 (fun r10 M11 =>
  if r7 = r10 then
  (zbd (v3 + (nI 1)) (fun x13 =>
  some (.inl (v2, x13, M11))))
  else (zbd ((v2 + (nI 1))) (fun x14 =>
  zbd (v3 + (nI 1)) (fun x15 =>
  some (.inl (x14, x15, M11)))))))))))
  else (zbd (v3 + (nI 1)) (fun x4 =>
  some (.inl (v2, x4, M)))))
  else (zbd (v3 + (nI 1)) (fun x2 =>
  some (.inl (v2, x2, M))))
set_option maxHeartbeats 4000000 in
set_option maxRecDepth 100000 in
theorem w_X10_since_106 {G : zzG} {t : Nat} {Q : Option Value → zzMem → Prop} (v1 : Int32) (v2 : Int32) (v3 : Int32) (w5 : Bool) (M : zzMem) (ht : 180 ≤ t)  {P : ((Int32 × Int32 × zzMem) ⊕ (Int32 × zzMem)) → Prop} (h : zK (j_X10_since_106 v1 v2 v3 w5 M) P) (k25 : ∀ s : (Int32 × Int32 × zzMem), P (.inl s) → zz_W G m_X10_since t t t 25 [some (.ref 73), some (.int v1), some (.int s.1), some (.int s.2.1), none, none] [] s.2.2 Q) (kR : ∀ r : (Int32 × zzMem), P (.inr r) → Q (some (.int r.1)) r.2) : zz_W G m_X10_since t t t 106 [some (.ref 73), some (.int v1), some (.int v2), some (.int v3), none, some (.int (zb w5))] [] M Q := by
  unfold j_X10_since_106 at h
  refine r_iload_n dX10_since_106 rfl ?_
  refine r_iconst (v := (nI 3)) dX10_since_107 (by decide) ?_
  refine r_icmp_ne 150 dX10_since_108 (by decide) (fun c1 => ?_) (fun c1 => ?_)
  · have h := zK_neg h c1
    refine r_iinc (nI 1) (fun x2 => [some (.ref 73), some (.int v1), some (.int v2), some (.int x2), none, some (.int (zb w5))]) dX10_since_150 rfl (by decide) (by decide) rfl (fun _ => rfl) (fun x2 ex2 => ?_)
    have h := zK_bd h ex2
    refine r_goto 25 dX10_since_153 (by decide) ?_
    refine zz_mask [5] ?_
    exact k25 ((v2, x2, M)) (zK_some h)
  · have h := zK_pos h c1
    refine r_iload dX10_since_111 rfl ?_
    refine r_ifZ_eq 150 dX10_since_113 (by decide) (fun c3 => ?_) (fun c3 => ?_)
    · have h := zK_neg h c3
      refine r_iinc (nI 1) (fun x4 => [some (.ref 73), some (.int v1), some (.int v2), some (.int x4), none, some (.int (zb w5))]) dX10_since_150 rfl (by decide) (by decide) rfl (fun _ => rfl) (fun x4 ex4 => ?_)
      have h := zK_bd h ex4
      refine r_goto 25 dX10_since_153 (by decide) ?_
      refine zz_mask [5] ?_
      exact k25 ((v2, x4, M)) (zK_some h)
    · have h := zK_pos h c3
      refine r_aload_n dX10_since_116 rfl ?_
      refine r_iconst (v := (nI 1)) dX10_since_117 (by decide) ?_
      refine r_aload_n dX10_since_118 rfl ?_
      refine r_getR (k := 73) (q := 74) dX10_since_119 zf_X10_7 (zo_X10 (zs_X10 ht)) (zr_X10_0 (zs_X10 ht)).1 (zr_X10_0 (zs_X10 ht)).2.1 (zr_X10_0 (zs_X10 ht)).2.2 ?_
      refine r_bipush (v := (nI 40)) dX10_since_122 (by decide) ?_
      refine r_iload_n dX10_since_124 rfl ?_
      refine r_iadd dX10_since_125 ?_
      obtain ⟨g5, h⟩ := zK_gd h
      refine r_iald dX10_since_126 (za_X10_0 (zs_X10 ht)) g5 ?_
      refine kV_iw (as := [.int (nI 1), .int (M.1 74 (((nI 40) + v3)).toNatClampNeg)]) (st := []) (k := 73) dX10_since_127 zM_X10_addressIn zk_X10_166 (zo_X10 (zs_X10 ht)) (by decide) rfl ⟨Nat.le_of_ble_eq_true rfl, Nat.le_of_ble_eq_true rfl⟩ (Nat.le_of_ble_eq_true rfl) (zz_T0 rfl rfl) (fun Q' P' k h => c_X10_addressIn ((nI 1)) ((M.1 74 (((nI 40) + v3)).toNatClampNeg)) M ht h (fun r p => k r.1 r.2 p)) h (fun r7 M8 h => ?_)
      have h := zK_pr h
      refine r_aload_n dX10_since_130 rfl ?_
      refine r_aload_n dX10_since_131 rfl ?_
      refine r_getR (k := 73) (q := 74) dX10_since_132 zf_X10_7 (zo_X10 (zs_X10 ht)) (zr_X10_0 (zs_X10 ht)).1 (zr_X10_0 (zs_X10 ht)).2.1 (zr_X10_0 (zs_X10 ht)).2.2 ?_
      refine r_bipush (v := (nI 40)) dX10_since_135 (by decide) ?_
      refine r_iload_n dX10_since_137 rfl ?_
      refine r_iadd dX10_since_138 ?_
      refine r_iald dX10_since_139 (za_X10_0 (zs_X10 ht)) g5 ?_
      refine kV_iw (as := [.int (M8.1 74 (((nI 40) + v3)).toNatClampNeg)]) (st := [.int r7]) (k := 73) dX10_since_140 zM_X10_addressOf zk_X10_214 (zo_X10 (zs_X10 ht)) (by decide) rfl ⟨Nat.le_of_ble_eq_true rfl, Nat.le_of_ble_eq_true rfl⟩ (Nat.le_of_ble_eq_true rfl) (zz_T0 rfl rfl) (fun Q' P' k h => c_X10_addressOf ((M8.1 74 (((nI 40) + v3)).toNatClampNeg)) M8 ht h (fun r p => k r.1 r.2 p)) h (fun r10 M11 h => ?_)
      have h := zK_pr h
      refine r_icmp_eq 150 dX10_since_143 (by decide) (fun c12 => ?_) (fun c12 => ?_)
      · have h := zK_pos h c12
        refine r_iinc (nI 1) (fun x13 => [some (.ref 73), some (.int v1), some (.int v2), some (.int x13), none, some (.int (zb w5))]) dX10_since_150 rfl (by decide) (by decide) rfl (fun _ => rfl) (fun x13 ex13 => ?_)
        have h := zK_bd h ex13
        refine r_goto 25 dX10_since_153 (by decide) ?_
        refine zz_mask [5] ?_
        exact k25 ((v2, x13, M11)) (zK_some h)
      · have h := zK_neg h c12
        refine r_iload_n dX10_since_146 rfl ?_
        refine r_iconst (v := (nI 1)) dX10_since_147 (by decide) ?_
        refine r_iadd dX10_since_148 ?_
        refine r_istore_n (fun x14 => [some (.ref 73), some (.int v1), some (.int x14), some (.int v3), none, some (.int (zb w5))]) dX10_since_149 (by decide) rfl (fun _ => rfl) (fun x14 ex14 => ?_)
        have h := zK_bd h ex14
        refine r_iinc (nI 1) (fun x15 => [some (.ref 73), some (.int v1), some (.int x14), some (.int x15), none, some (.int (zb w5))]) dX10_since_150 rfl (by decide) (by decide) rfl (fun _ => rfl) (fun x15 ex15 => ?_)
        have h := zK_bd h ex15
        refine r_goto 25 dX10_since_153 (by decide) ?_
        refine zz_mask [5] ?_
        exact k25 ((x14, x15, M11)) (zK_some h)
noncomputable def j_X10_since_77 (v1 : Int32) (v2 : Int32) (v3 : Int32) (v4 : Int32) (w5 : Bool) (M : zzMem) : Option ((Int32 × Int32 × zzMem) ⊕ (Int32 × zzMem)) :=
  if v1 = (nI 2) then
  (if w5 = true then
  (zgd (vp_in ((nI 340) + v3) 5676) (
  if v4 = (M.1 74 (((nI 340) + v3)).toNatClampNeg) then
  (j_X10_since_106 v1 v2 v3 w5 M)
  else (zbd ((v2 + (nI 1))) (fun x5 =>
  j_X10_since_106 v1 x5 v3 w5 M))))
  else (j_X10_since_106 v1 v2 v3 w5 M))
  else (j_X10_since_106 v1 v2 v3 w5 M)
set_option maxHeartbeats 4000000 in
set_option maxRecDepth 100000 in
theorem w_X10_since_77 {G : zzG} {t : Nat} {Q : Option Value → zzMem → Prop} (v1 : Int32) (v2 : Int32) (v3 : Int32) (v4 : Int32) (w5 : Bool) (M : zzMem) (ht : 180 ≤ t)  {P : ((Int32 × Int32 × zzMem) ⊕ (Int32 × zzMem)) → Prop} (h : zK (j_X10_since_77 v1 v2 v3 v4 w5 M) P) (k25 : ∀ s : (Int32 × Int32 × zzMem), P (.inl s) → zz_W G m_X10_since t t t 25 [some (.ref 73), some (.int v1), some (.int s.1), some (.int s.2.1), none, none] [] s.2.2 Q) (kR : ∀ r : (Int32 × zzMem), P (.inr r) → Q (some (.int r.1)) r.2) : zz_W G m_X10_since t t t 77 [some (.ref 73), some (.int v1), some (.int v2), some (.int v3), some (.int v4), some (.int (zb w5))] [] M Q := by
  unfold j_X10_since_77 at h
  refine r_iload_n dX10_since_77 rfl ?_
  refine r_iconst (v := (nI 2)) dX10_since_78 (by decide) ?_
  refine r_icmp_ne 106 dX10_since_79 (by decide) (fun c1 => ?_) (fun c1 => ?_)
  · have h := zK_neg h c1
    refine zz_mask [4] ?_
    exact w_X10_since_106 (v1) (v2) (v3) (w5) M ht h k25 kR
  · have h := zK_pos h c1
    refine r_iload dX10_since_82 rfl ?_
    refine r_ifZ_eq 106 dX10_since_84 (by decide) (fun c2 => ?_) (fun c2 => ?_)
    · have h := zK_neg h c2
      refine zz_mask [4] ?_
      exact w_X10_since_106 (v1) (v2) (v3) (w5) M ht h k25 kR
    · have h := zK_pos h c2
      refine r_iload dX10_since_87 rfl ?_
      refine r_aload_n dX10_since_89 rfl ?_
      refine r_getR (k := 73) (q := 74) dX10_since_90 zf_X10_7 (zo_X10 (zs_X10 ht)) (zr_X10_0 (zs_X10 ht)).1 (zr_X10_0 (zs_X10 ht)).2.1 (zr_X10_0 (zs_X10 ht)).2.2 ?_
      refine r_sipush (v := (nI 340)) dX10_since_93 (by decide) ?_
      refine r_iload_n dX10_since_96 rfl ?_
      refine r_iadd dX10_since_97 ?_
      obtain ⟨g3, h⟩ := zK_gd h
      refine r_iald dX10_since_98 (za_X10_0 (zs_X10 ht)) g3 ?_
      refine r_icmp_eq 106 dX10_since_99 (by decide) (fun c4 => ?_) (fun c4 => ?_)
      · have h := zK_pos h c4
        refine zz_mask [4] ?_
        exact w_X10_since_106 (v1) (v2) (v3) (w5) M ht h k25 kR
      · have h := zK_neg h c4
        refine r_iload_n dX10_since_102 rfl ?_
        refine r_iconst (v := (nI 1)) dX10_since_103 (by decide) ?_
        refine r_iadd dX10_since_104 ?_
        refine r_istore_n (fun x5 => [some (.ref 73), some (.int v1), some (.int x5), some (.int v3), some (.int v4), some (.int (zb w5))]) dX10_since_105 (by decide) rfl (fun _ => rfl) (fun x5 ex5 => ?_)
        have h := zK_bd h ex5
        refine zz_mask [4] ?_
        exact w_X10_since_106 (v1) (x5) (v3) (w5) M ht h k25 kR
noncomputable def j_X10_since_62 (v1 : Int32) (v2 : Int32) (v3 : Int32) (v4 : Int32) (ws0 : Bool) (M : zzMem) : Option ((Int32 × Int32 × zzMem) ⊕ (Int32 × zzMem)) :=
  if v1 = 0 then
  (if ws0 = true then
  (j_X10_since_77 v1 v2 v3 v4 ws0 M)
  else (zbd ((v2 + (nI 1))) (fun x3 =>
  j_X10_since_77 v1 x3 v3 v4 ws0 M)))
  else (j_X10_since_77 v1 v2 v3 v4 ws0 M)
set_option maxHeartbeats 4000000 in
set_option maxRecDepth 100000 in
theorem w_X10_since_62 {G : zzG} {t : Nat} {Q : Option Value → zzMem → Prop} (v1 : Int32) (v2 : Int32) (v3 : Int32) (v4 : Int32) (ws0 : Bool) (M : zzMem) (ht : 180 ≤ t)  {P : ((Int32 × Int32 × zzMem) ⊕ (Int32 × zzMem)) → Prop} (h : zK (j_X10_since_62 v1 v2 v3 v4 ws0 M) P) (k25 : ∀ s : (Int32 × Int32 × zzMem), P (.inl s) → zz_W G m_X10_since t t t 25 [some (.ref 73), some (.int v1), some (.int s.1), some (.int s.2.1), none, none] [] s.2.2 Q) (kR : ∀ r : (Int32 × zzMem), P (.inr r) → Q (some (.int r.1)) r.2) : zz_W G m_X10_since t t t 62 [some (.ref 73), some (.int v1), some (.int v2), some (.int v3), some (.int v4), none] [.int (zb ws0)] M Q := by
  unfold j_X10_since_62 at h
  refine s_istore ([some (.ref 73), some (.int v1), some (.int v2), some (.int v3), some (.int v4), some (.int (zb ws0))]) dX10_since_62 (by decide) rfl rfl ?_
  refine r_iload_n dX10_since_64 rfl ?_
  refine r_if_ne 77 dX10_since_65 (by decide) (fun c1 => ?_) (fun c1 => ?_)
  · have h := zK_neg h c1
    exact w_X10_since_77 (v1) (v2) (v3) (v4) (ws0) M ht h k25 kR
  · have h := zK_pos h c1
    refine r_iload dX10_since_68 rfl ?_
    refine r_ifZ_ne 77 dX10_since_70 (by decide) (fun c2 => ?_) (fun c2 => ?_)
    · have h := zK_pos h c2
      exact w_X10_since_77 (v1) (v2) (v3) (v4) (ws0) M ht h k25 kR
    · have h := zK_neg h c2
      refine r_iload_n dX10_since_73 rfl ?_
      refine r_iconst (v := (nI 1)) dX10_since_74 (by decide) ?_
      refine r_iadd dX10_since_75 ?_
      refine r_istore_n (fun x3 => [some (.ref 73), some (.int v1), some (.int x3), some (.int v3), some (.int v4), some (.int (zb ws0))]) dX10_since_76 (by decide) rfl (fun _ => rfl) (fun x3 ex3 => ?_)
      have h := zK_bd h ex3
      exact w_X10_since_77 (v1) (x3) (v3) (v4) (ws0) M ht h k25 kR
noncomputable def b_X10_since_25 (v1 : Int32) (v2 : Int32) (v3 : Int32) (M : zzMem) : Option ((Int32 × Int32 × zzMem) ⊕ (Int32 × zzMem)) :=
  if (M.1 74 7) ≤ v3 then
  (zup (j_X10_since_158 v1 v2 (nI 0) M))
  else (zgd (vp_in ((nI 40) + v3) 5676) (
  (f_X10_valueKept (M.1 74 (((nI 40) + v3)).toNatClampNeg) M).bind (fun r3 =>
  if r3 = (-1 : Int32) then
  (j_X10_since_62 v1 v2 v3 r3 false M)
  else (j_X10_since_62 v1 v2 v3 r3 true M))))
set_option maxHeartbeats 4000000 in
set_option maxRecDepth 100000 in
theorem x_X10_since_25 {G : zzG} {t : Nat} {Q : Option Value → zzMem → Prop} (v1 : Int32) (v2 : Int32) (v3 : Int32) (M : zzMem) (ht : 180 ≤ t)  {P : ((Int32 × Int32 × zzMem) ⊕ (Int32 × zzMem)) → Prop} (h : zK (b_X10_since_25 v1 v2 v3 M) P) (k25 : ∀ s : (Int32 × Int32 × zzMem), P (.inl s) → zz_W G m_X10_since t t t 25 [some (.ref 73), some (.int v1), some (.int s.1), some (.int s.2.1), none, none] [] s.2.2 Q) (kR : ∀ r : (Int32 × zzMem), P (.inr r) → Q (some (.int r.1)) r.2) : zz_W G m_X10_since t t t 25 [some (.ref 73), some (.int v1), some (.int v2), some (.int v3), none, none] [] M Q := by
  unfold b_X10_since_25 at h
  refine r_iload_n dX10_since_25 rfl ?_
  refine r_aload_n dX10_since_26 rfl ?_
  refine r_getR (k := 73) (q := 74) dX10_since_27 zf_X10_7 (zo_X10 (zs_X10 ht)) (zr_X10_0 (zs_X10 ht)).1 (zr_X10_0 (zs_X10 ht)).2.1 (zr_X10_0 (zs_X10 ht)).2.2 ?_
  refine r_bipush (v := (nI 7)) dX10_since_30 (by decide) ?_
  refine r_ialdc (j := 7) dX10_since_32 (za_X10_0 (zs_X10 ht)) rfl rfl ?_
  refine r_icmp_ge 156 dX10_since_33 (by decide) (fun c1 => ?_) (fun c1 => ?_)
  · have h := zK_pos h c1
    refine r_iconst (v := (nI 0)) dX10_since_156 (by decide) ?_
    refine s_istore_n ([some (.ref 73), some (.int v1), some (.int v2), some (.int (nI 0)), none, none]) dX10_since_157 (by decide) rfl rfl ?_
    exact w_X10_since_158 (v1) (v2) ((nI 0)) M ht (zK_up h) kR
  · have h := zK_neg h c1
    refine r_aload_n dX10_since_36 rfl ?_
    refine r_aload_n dX10_since_37 rfl ?_
    refine r_getR (k := 73) (q := 74) dX10_since_38 zf_X10_7 (zo_X10 (zs_X10 ht)) (zr_X10_0 (zs_X10 ht)).1 (zr_X10_0 (zs_X10 ht)).2.1 (zr_X10_0 (zs_X10 ht)).2.2 ?_
    refine r_bipush (v := (nI 40)) dX10_since_41 (by decide) ?_
    refine r_iload_n dX10_since_43 rfl ?_
    refine r_iadd dX10_since_44 ?_
    obtain ⟨g2, h⟩ := zK_gd h
    refine r_iald dX10_since_45 (za_X10_0 (zs_X10 ht)) g2 ?_
    refine kV_ir (as := [.int (M.1 74 (((nI 40) + v3)).toNatClampNeg)]) (st := []) (k := 73) dX10_since_46 zM_X10_valueKept zk_X10_357 (zo_X10 (zs_X10 ht)) (by decide) rfl ⟨Nat.le_of_ble_eq_true rfl, Nat.le_of_ble_eq_true rfl⟩ (Nat.le_of_ble_eq_true rfl) (zz_T0 rfl rfl) (fun Q' P' k h => c_X10_valueKept ((M.1 74 (((nI 40) + v3)).toNatClampNeg)) M ht h k) h (fun r3 h => ?_)
    refine s_istore ([some (.ref 73), some (.int v1), some (.int v2), some (.int v3), some (.int r3), none]) dX10_since_49 (by decide) rfl rfl ?_
    refine r_iload dX10_since_51 rfl ?_
    refine r_iconst (v := (-1 : Int32)) dX10_since_53 (by decide) ?_
    refine r_icmp_eq 61 dX10_since_54 (by decide) (fun c4 => ?_) (fun c4 => ?_)
    · have h := zK_pos h c4
      refine r_iconst (v := (nI 0)) dX10_since_61 (by decide) ?_
      exact w_X10_since_62 (v1) (v2) (v3) (r3) (false) M ht h k25 kR
    · have h := zK_neg h c4
      refine r_iconst (v := (nI 1)) dX10_since_57 (by decide) ?_
      refine r_goto 62 dX10_since_58 (by decide) ?_
      exact w_X10_since_62 (v1) (v2) (v3) (r3) (true) M ht h k25 kR
noncomputable def j_X10_since_25 (v1 : Int32) (v2 : Int32) (v3 : Int32) (M : zzMem) : Option (Int32 × zzMem) :=
  zlp (fun s : (Int32 × Int32 × zzMem) => b_X10_since_25 v1 s.1 s.2.1 s.2.2) (v2, v3, M)
set_option maxHeartbeats 4000000 in
set_option maxRecDepth 100000 in
theorem w_X10_since_25 {G : zzG} {t : Nat} {Q : Option Value → zzMem → Prop} (v1 : Int32) (v2 : Int32) (v3 : Int32) (M : zzMem) (ht : 180 ≤ t)  {P : (Int32 × zzMem) → Prop} (h : zK (j_X10_since_25 v1 v2 v3 M) P) (kR : ∀ r : (Int32 × zzMem), P r → Q (some (.int r.1)) r.2) : zz_W G m_X10_since t t t 25 [some (.ref 73), some (.int v1), some (.int v2), some (.int v3), none, none] [] M Q := by
  unfold j_X10_since_25 at h
  exact zK_lp h (fun s : (Int32 × Int32 × zzMem) => zz_W G m_X10_since t t t 25 [some (.ref 73), some (.int v1), some (.int s.1), some (.int s.2.1), none, none] [] s.2.2 Q) (fun s h => x_X10_since_25 v1 s.1 s.2.1 s.2.2 ht h (fun s p => p) kR)
noncomputable def f_X10_since (a1 : Int32) (M : zzMem) : Option (Int32 × zzMem) :=
  if (f_X10_in a1 (nI 0) (nI 3)) = true then
  (if (M.1 73 1) = 0 then
  (some (((-3 : Int32), M)))
  else (j_X10_since_25 a1 (nI 0) (nI 0) M))
  else (some (((-1 : Int32), M)))
set_option maxHeartbeats 4000000 in
set_option maxRecDepth 100000 in
theorem w_X10_since_0 {G : zzG} {t : Nat} {Q : Option Value → zzMem → Prop} (a1 : Int32) (M : zzMem) (ht : 180 ≤ t)  {P : (Int32 × zzMem) → Prop} (h : zK (f_X10_since a1 M) P) (kR : ∀ r : (Int32 × zzMem), P r → Q (some (.int r.1)) r.2) : zz_W G m_X10_since t t t 0 [some (.ref 73), some (.int a1), none, none, none, none] [] M Q := by
  unfold f_X10_since at h
  refine r_iload_n dX10_since_0 rfl ?_
  refine r_iconst (v := (nI 0)) dX10_since_1 (by decide) ?_
  refine r_iconst (v := (nI 3)) dX10_since_2 (by decide) ?_
  refine tS_zr (v := f_X10_in a1 (nI 0) (nI 3)) (as := [.int a1, .int (nI 0), .int (nI 3)]) (st := []) dX10_since_3 zM_X10_in zk_X10_67 ⟨Nat.le_of_ble_eq_true rfl, Nat.le_of_ble_eq_true rfl⟩ (Nat.le_of_ble_eq_true rfl) (zz_T0 rfl rfl) (fun Q' h => c_X10_in (a1) ((nI 0)) ((nI 3)) M h) ?_
  refine r_ifZ_ne 11 dX10_since_6 (by decide) (fun c1 => ?_) (fun c1 => ?_)
  · have h := zK_pos h c1
    refine r_aload_n dX10_since_11 rfl ?_
    refine r_getI (k := 73) dX10_since_12 zf_X10_353 (zo_X10 (zs_X10 ht)) (zi_X10_1 (zs_X10 ht)) ?_
    refine r_if_ne 21 dX10_since_15 (by decide) (fun c2 => ?_) (fun c2 => ?_)
    · have h := zK_neg h c2
      refine r_iconst (v := (nI 0)) dX10_since_21 (by decide) ?_
      refine s_istore_n ([some (.ref 73), some (.int a1), some (.int (nI 0)), none, none, none]) dX10_since_22 (by decide) rfl rfl ?_
      refine r_iconst (v := (nI 0)) dX10_since_23 (by decide) ?_
      refine s_istore_n ([some (.ref 73), some (.int a1), some (.int (nI 0)), some (.int (nI 0)), none, none]) dX10_since_24 (by decide) rfl rfl ?_
      exact w_X10_since_25 (a1) ((nI 0)) ((nI 0)) M ht h kR
    · have h := zK_pos h c2
      refine r_bipush (v := (-3 : Int32)) dX10_since_18 (by decide) ?_
      exact r_iret dX10_since_20 rfl rfl rfl (kR (((-3 : Int32), M)) (zK_some h))
  · have h := zK_neg h c1
    refine r_iconst (v := (-1 : Int32)) dX10_since_9 (by decide) ?_
    exact r_iret dX10_since_10 rfl rfl rfl (kR (((-1 : Int32), M)) (zK_some h))
set_option maxHeartbeats 4000000 in
set_option maxRecDepth 100000 in
theorem c_X10_since {G : zzG} {t : Nat} {Q : Option Value → zzMem → Prop} (a1 : Int32) (M : zzMem) (ht : 180 ≤ t)  {P : (Int32 × zzMem) → Prop} (h : zK (f_X10_since a1 M) P) (kR : ∀ r : (Int32 × zzMem), P r → Q (some (.int r.1)) r.2) : zz_S G m_X10_since t t [.ref 73, .int a1] M Q :=
  zz_S_of (by decide) (by decide) (Nat.le_of_ble_eq_true rfl) (w_X10_since_0 a1 M ht h kR)
noncomputable def b_X10_sameHash_4 (v1 : Int32) (v2 : Int32) (v3 : Int32) (M : zzMem) : Option ((Int32 × Int32 × zzMem) ⊕ (Int32 × zzMem)) :=
  if (M.1 74 7) ≤ v3 then
  (some ((.inr (v2, M))))
  else (zgd (vp_in ((nI 40) + v3) 5676) (
  (f_X10_hashOf (M.1 74 (((nI 40) + v3)).toNatClampNeg) M).bind (fun q3 => zpr q3 (fun r4 M5 =>
  if r4 = v1 then
  (zbd ((v2 + (nI 1))) (fun x8 =>
  zbd (v3 + (nI 1)) (fun x9 =>
  some (.inl (x8, x9, M5)))))
  else (zbd (v3 + (nI 1)) (fun x7 =>
  some (.inl (v2, x7, M5))))))))
set_option maxHeartbeats 4000000 in
set_option maxRecDepth 100000 in
theorem x_X10_sameHash_4 {G : zzG} {t : Nat} {Q : Option Value → zzMem → Prop} (v1 : Int32) (v2 : Int32) (v3 : Int32) (M : zzMem) (ht : 180 ≤ t)  {P : ((Int32 × Int32 × zzMem) ⊕ (Int32 × zzMem)) → Prop} (h : zK (b_X10_sameHash_4 v1 v2 v3 M) P) (k4 : ∀ s : (Int32 × Int32 × zzMem), P (.inl s) → zz_W G m_X10_sameHash t t t 4 [some (.ref 73), some (.int v1), some (.int s.1), some (.int s.2.1)] [] s.2.2 Q) (kR : ∀ r : (Int32 × zzMem), P (.inr r) → Q (some (.int r.1)) r.2) : zz_W G m_X10_sameHash t t t 4 [some (.ref 73), some (.int v1), some (.int v2), some (.int v3)] [] M Q := by
  unfold b_X10_sameHash_4 at h
  refine r_iload_n dX10_sameHash_4 rfl ?_
  refine r_aload_n dX10_sameHash_5 rfl ?_
  refine r_getR (k := 73) (q := 74) dX10_sameHash_6 zf_X10_7 (zo_X10 (zs_X10 ht)) (zr_X10_0 (zs_X10 ht)).1 (zr_X10_0 (zs_X10 ht)).2.1 (zr_X10_0 (zs_X10 ht)).2.2 ?_
  refine r_bipush (v := (nI 7)) dX10_sameHash_9 (by decide) ?_
  refine r_ialdc (j := 7) dX10_sameHash_11 (za_X10_0 (zs_X10 ht)) rfl rfl ?_
  refine r_icmp_ge 42 dX10_sameHash_12 (by decide) (fun c1 => ?_) (fun c1 => ?_)
  · have h := zK_pos h c1
    refine r_iload_n dX10_sameHash_42 rfl ?_
    exact r_iret dX10_sameHash_43 rfl rfl rfl (kR ((v2, M)) (zK_some h))
  · have h := zK_neg h c1
    refine r_aload_n dX10_sameHash_15 rfl ?_
    refine r_aload_n dX10_sameHash_16 rfl ?_
    refine r_getR (k := 73) (q := 74) dX10_sameHash_17 zf_X10_7 (zo_X10 (zs_X10 ht)) (zr_X10_0 (zs_X10 ht)).1 (zr_X10_0 (zs_X10 ht)).2.1 (zr_X10_0 (zs_X10 ht)).2.2 ?_
    refine r_bipush (v := (nI 40)) dX10_sameHash_20 (by decide) ?_
    refine r_iload_n dX10_sameHash_22 rfl ?_
    refine r_iadd dX10_sameHash_23 ?_
    obtain ⟨g2, h⟩ := zK_gd h
    refine r_iald dX10_sameHash_24 (za_X10_0 (zs_X10 ht)) g2 ?_
    refine kV_iw (as := [.int (M.1 74 (((nI 40) + v3)).toNatClampNeg)]) (st := []) (k := 73) dX10_sameHash_25 zM_X10_hashOf zk_X10_184 (zo_X10 (zs_X10 ht)) (by decide) rfl ⟨Nat.le_of_ble_eq_true rfl, Nat.le_of_ble_eq_true rfl⟩ (Nat.le_of_ble_eq_true rfl) (zz_T0 rfl rfl) (fun Q' P' k h => c_X10_hashOf ((M.1 74 (((nI 40) + v3)).toNatClampNeg)) M ht h (fun r p => k r.1 r.2 p)) h (fun r4 M5 h => ?_)
    have h := zK_pr h
    refine r_iload_n dX10_sameHash_28 rfl ?_
    refine r_icmp_ne 36 dX10_sameHash_29 (by decide) (fun c6 => ?_) (fun c6 => ?_)
    · have h := zK_neg h c6
      refine r_iinc (nI 1) (fun x7 => [some (.ref 73), some (.int v1), some (.int v2), some (.int x7)]) dX10_sameHash_36 rfl (by decide) (by decide) rfl (fun _ => rfl) (fun x7 ex7 => ?_)
      have h := zK_bd h ex7
      refine r_goto 4 dX10_sameHash_39 (by decide) ?_
      exact k4 ((v2, x7, M5)) (zK_some h)
    · have h := zK_pos h c6
      refine r_iload_n dX10_sameHash_32 rfl ?_
      refine r_iconst (v := (nI 1)) dX10_sameHash_33 (by decide) ?_
      refine r_iadd dX10_sameHash_34 ?_
      refine r_istore_n (fun x8 => [some (.ref 73), some (.int v1), some (.int x8), some (.int v3)]) dX10_sameHash_35 (by decide) rfl (fun _ => rfl) (fun x8 ex8 => ?_)
      have h := zK_bd h ex8
      refine r_iinc (nI 1) (fun x9 => [some (.ref 73), some (.int v1), some (.int x8), some (.int x9)]) dX10_sameHash_36 rfl (by decide) (by decide) rfl (fun _ => rfl) (fun x9 ex9 => ?_)
      have h := zK_bd h ex9
      refine r_goto 4 dX10_sameHash_39 (by decide) ?_
      exact k4 ((x8, x9, M5)) (zK_some h)
noncomputable def j_X10_sameHash_4 (v1 : Int32) (v2 : Int32) (v3 : Int32) (M : zzMem) : Option (Int32 × zzMem) :=
  zlp (fun s : (Int32 × Int32 × zzMem) => b_X10_sameHash_4 v1 s.1 s.2.1 s.2.2) (v2, v3, M)
set_option maxHeartbeats 4000000 in
set_option maxRecDepth 100000 in
theorem w_X10_sameHash_4 {G : zzG} {t : Nat} {Q : Option Value → zzMem → Prop} (v1 : Int32) (v2 : Int32) (v3 : Int32) (M : zzMem) (ht : 180 ≤ t)  {P : (Int32 × zzMem) → Prop} (h : zK (j_X10_sameHash_4 v1 v2 v3 M) P) (kR : ∀ r : (Int32 × zzMem), P r → Q (some (.int r.1)) r.2) : zz_W G m_X10_sameHash t t t 4 [some (.ref 73), some (.int v1), some (.int v2), some (.int v3)] [] M Q := by
  unfold j_X10_sameHash_4 at h
  exact zK_lp h (fun s : (Int32 × Int32 × zzMem) => zz_W G m_X10_sameHash t t t 4 [some (.ref 73), some (.int v1), some (.int s.1), some (.int s.2.1)] [] s.2.2 Q) (fun s h => x_X10_sameHash_4 v1 s.1 s.2.1 s.2.2 ht h (fun s p => p) kR)
noncomputable def f_X10_sameHash (a1 : Int32) (M : zzMem) : Option (Int32 × zzMem) :=
  j_X10_sameHash_4 a1 (nI 0) (nI 0) M
set_option maxHeartbeats 4000000 in
set_option maxRecDepth 100000 in
theorem w_X10_sameHash_0 {G : zzG} {t : Nat} {Q : Option Value → zzMem → Prop} (a1 : Int32) (M : zzMem) (ht : 180 ≤ t)  {P : (Int32 × zzMem) → Prop} (h : zK (f_X10_sameHash a1 M) P) (kR : ∀ r : (Int32 × zzMem), P r → Q (some (.int r.1)) r.2) : zz_W G m_X10_sameHash t t t 0 [some (.ref 73), some (.int a1), none, none] [] M Q := by
  unfold f_X10_sameHash at h
  refine r_iconst (v := (nI 0)) dX10_sameHash_0 (by decide) ?_
  refine s_istore_n ([some (.ref 73), some (.int a1), some (.int (nI 0)), none]) dX10_sameHash_1 (by decide) rfl rfl ?_
  refine r_iconst (v := (nI 0)) dX10_sameHash_2 (by decide) ?_
  refine s_istore_n ([some (.ref 73), some (.int a1), some (.int (nI 0)), some (.int (nI 0))]) dX10_sameHash_3 (by decide) rfl rfl ?_
  exact w_X10_sameHash_4 (a1) ((nI 0)) ((nI 0)) M ht h kR
set_option maxHeartbeats 4000000 in
set_option maxRecDepth 100000 in
theorem c_X10_sameHash {G : zzG} {t : Nat} {Q : Option Value → zzMem → Prop} (a1 : Int32) (M : zzMem) (ht : 180 ≤ t)  {P : (Int32 × zzMem) → Prop} (h : zK (f_X10_sameHash a1 M) P) (kR : ∀ r : (Int32 × zzMem), P r → Q (some (.int r.1)) r.2) : zz_S G m_X10_sameHash t t [.ref 73, .int a1] M Q :=
  zz_S_of (by decide) (by decide) (Nat.le_of_ble_eq_true rfl) (w_X10_sameHash_0 a1 M ht h kR)
noncomputable def j_X10_alike_91 (v1 : Int32) (v2 : Int32) (v3 : Int32) (v4 : Int32) (v5 : Int32) (v7 : Int32) (M : zzMem) : Option ((Int32 × Int32 × Int32 × Int32 × zzMem) ⊕ (Int32 × zzMem)) :=
  zbd ((f_X10_max v4 v7)) (fun x1 =>
  zbd (v5 + (nI 1)) (fun x2 =>
  some (.inl (v2, v3, x1, x2, M))))
set_option maxHeartbeats 4000000 in
set_option maxRecDepth 100000 in
theorem w_X10_alike_91 {G : zzG} {t : Nat} {Q : Option Value → zzMem → Prop} (v1 : Int32) (v2 : Int32) (v3 : Int32) (v4 : Int32) (v5 : Int32) (v7 : Int32) (M : zzMem) (ht : 180 ≤ t)  {P : ((Int32 × Int32 × Int32 × Int32 × zzMem) ⊕ (Int32 × zzMem)) → Prop} (h : zK (j_X10_alike_91 v1 v2 v3 v4 v5 v7 M) P) (k22 : ∀ s : (Int32 × Int32 × Int32 × Int32 × zzMem), P (.inl s) → zz_W G m_X10_alike t t t 22 [some (.ref 73), some (.int v1), some (.int s.1), some (.int s.2.1), some (.int s.2.2.1), some (.int s.2.2.2.1), none, none] [] s.2.2.2.2 Q) (kR : ∀ r : (Int32 × zzMem), P (.inr r) → Q (some (.int r.1)) r.2) : zz_W G m_X10_alike t t t 91 [some (.ref 73), some (.int v1), some (.int v2), some (.int v3), some (.int v4), some (.int v5), none, some (.int v7)] [] M Q := by
  unfold j_X10_alike_91 at h
  refine r_iload dX10_alike_91 rfl ?_
  refine r_iload dX10_alike_93 rfl ?_
  refine tS_ir (v := f_X10_max v4 v7) (as := [.int v4, .int v7]) (st := []) dX10_alike_95 zM_X10_max zk_X10_293 ⟨Nat.le_of_ble_eq_true rfl, Nat.le_of_ble_eq_true rfl⟩ (Nat.le_of_ble_eq_true rfl) (zz_T0 rfl rfl) (fun Q' h => c_X10_max (v4) (v7) M h) ?_
  refine r_istore (fun x1 => [some (.ref 73), some (.int v1), some (.int v2), some (.int v3), some (.int x1), some (.int v5), none, some (.int v7)]) dX10_alike_98 (by decide) rfl (fun _ => rfl) (fun x1 ex1 => ?_)
  have h := zK_bd h ex1
  refine r_iinc (nI 1) (fun x2 => [some (.ref 73), some (.int v1), some (.int v2), some (.int v3), some (.int x1), some (.int x2), none, some (.int v7)]) dX10_alike_100 rfl (by decide) (by decide) rfl (fun _ => rfl) (fun x2 ex2 => ?_)
  have h := zK_bd h ex2
  refine r_goto 22 dX10_alike_103 (by decide) ?_
  refine zz_mask [7] ?_
  exact k22 ((v2, v3, x1, x2, M)) (zK_some h)
noncomputable def j_X10_alike_88 (v1 : Int32) (v2 : Int32) (v4 : Int32) (v5 : Int32) (v6 : Int32) (v7 : Int32) (M : zzMem) : Option ((Int32 × Int32 × Int32 × Int32 × zzMem) ⊕ (Int32 × zzMem)) :=
  j_X10_alike_91 v1 v2 v6 v4 v5 v7 M
set_option maxHeartbeats 4000000 in
set_option maxRecDepth 100000 in
theorem w_X10_alike_88 {G : zzG} {t : Nat} {Q : Option Value → zzMem → Prop} (v1 : Int32) (v2 : Int32) (v4 : Int32) (v5 : Int32) (v6 : Int32) (v7 : Int32) (M : zzMem) (ht : 180 ≤ t)  {P : ((Int32 × Int32 × Int32 × Int32 × zzMem) ⊕ (Int32 × zzMem)) → Prop} (h : zK (j_X10_alike_88 v1 v2 v4 v5 v6 v7 M) P) (k22 : ∀ s : (Int32 × Int32 × Int32 × Int32 × zzMem), P (.inl s) → zz_W G m_X10_alike t t t 22 [some (.ref 73), some (.int v1), some (.int s.1), some (.int s.2.1), some (.int s.2.2.1), some (.int s.2.2.2.1), none, none] [] s.2.2.2.2 Q) (kR : ∀ r : (Int32 × zzMem), P (.inr r) → Q (some (.int r.1)) r.2) : zz_W G m_X10_alike t t t 88 [some (.ref 73), some (.int v1), some (.int v2), none, some (.int v4), some (.int v5), some (.int v6), some (.int v7)] [] M Q := by
  unfold j_X10_alike_88 at h
  refine r_iload dX10_alike_88 rfl ?_
  refine s_istore_n ([some (.ref 73), some (.int v1), some (.int v2), some (.int v6), some (.int v4), some (.int v5), some (.int v6), some (.int v7)]) dX10_alike_90 (by decide) rfl rfl ?_
  refine zz_mask [6] ?_
  exact w_X10_alike_91 (v1) (v2) (v6) (v4) (v5) (v7) M ht h k22 kR
noncomputable def j_X10_alike_68 (v1 : Int32) (v2 : Int32) (v3 : Int32) (v4 : Int32) (v5 : Int32) (v6 : Int32) (v7 : Int32) (M : zzMem) : Option ((Int32 × Int32 × Int32 × Int32 × zzMem) ⊕ (Int32 × zzMem)) :=
  if v4 < v7 then
  (j_X10_alike_88 v1 v2 v4 v5 v6 v7 M)
  else (if v7 = v4 then
  (if v3 ≤ v6 then
  (j_X10_alike_91 v1 v2 v3 v4 v5 v7 M)
  else (j_X10_alike_88 v1 v2 v4 v5 v6 v7 M))
  else (j_X10_alike_91 v1 v2 v3 v4 v5 v7 M))
set_option maxHeartbeats 4000000 in
set_option maxRecDepth 100000 in
theorem w_X10_alike_68 {G : zzG} {t : Nat} {Q : Option Value → zzMem → Prop} (v1 : Int32) (v2 : Int32) (v3 : Int32) (v4 : Int32) (v5 : Int32) (v6 : Int32) (v7 : Int32) (M : zzMem) (ht : 180 ≤ t)  {P : ((Int32 × Int32 × Int32 × Int32 × zzMem) ⊕ (Int32 × zzMem)) → Prop} (h : zK (j_X10_alike_68 v1 v2 v3 v4 v5 v6 v7 M) P) (k22 : ∀ s : (Int32 × Int32 × Int32 × Int32 × zzMem), P (.inl s) → zz_W G m_X10_alike t t t 22 [some (.ref 73), some (.int v1), some (.int s.1), some (.int s.2.1), some (.int s.2.2.1), some (.int s.2.2.2.1), none, none] [] s.2.2.2.2 Q) (kR : ∀ r : (Int32 × zzMem), P (.inr r) → Q (some (.int r.1)) r.2) : zz_W G m_X10_alike t t t 68 [some (.ref 73), some (.int v1), some (.int v2), some (.int v3), some (.int v4), some (.int v5), some (.int v6), some (.int v7)] [] M Q := by
  unfold j_X10_alike_68 at h
  refine r_iload dX10_alike_68 rfl ?_
  refine r_iload dX10_alike_70 rfl ?_
  refine r_icmp_gt 88 dX10_alike_72 (by decide) (fun c1 => ?_) (fun c1 => ?_)
  · have h := zK_pos h c1
    refine zz_mask [3] ?_
    exact w_X10_alike_88 (v1) (v2) (v4) (v5) (v6) (v7) M ht h k22 kR
  · have h := zK_neg h c1
    refine r_iload dX10_alike_75 rfl ?_
    refine r_iload dX10_alike_77 rfl ?_
    refine r_icmp_ne 91 dX10_alike_79 (by decide) (fun c2 => ?_) (fun c2 => ?_)
    · have h := zK_neg h c2
      refine zz_mask [6] ?_
      exact w_X10_alike_91 (v1) (v2) (v3) (v4) (v5) (v7) M ht h k22 kR
    · have h := zK_pos h c2
      refine r_iload dX10_alike_82 rfl ?_
      refine r_iload_n dX10_alike_84 rfl ?_
      refine r_icmp_ge 91 dX10_alike_85 (by decide) (fun c3 => ?_) (fun c3 => ?_)
      · have h := zK_pos h c3
        refine zz_mask [6] ?_
        exact w_X10_alike_91 (v1) (v2) (v3) (v4) (v5) (v7) M ht h k22 kR
      · have h := zK_neg h c3
        refine zz_mask [3] ?_
        exact w_X10_alike_88 (v1) (v2) (v4) (v5) (v6) (v7) M ht h k22 kR
noncomputable def b_X10_alike_22 (v1 : Int32) (v2 : Int32) (v3 : Int32) (v4 : Int32) (v5 : Int32) (M : zzMem) : Option ((Int32 × Int32 × Int32 × Int32 × zzMem) ⊕ (Int32 × zzMem)) :=
  if (M.1 74 7) ≤ v5 then
  (if v1 = 0 then
  (some ((.inr (v2, M))))
  else (if v1 = (nI 1) then
  (some ((.inr (v3, M))))
  else (some ((.inr (v4, M))))))
  else (zgd (vp_in ((nI 40) + v5) 5676) (
  (f_X10_hashOf (M.1 74 (((nI 40) + v5)).toNatClampNeg) M).bind (fun q5 => zpr q5 (fun r6 M7 =>
  (f_X10_sameHash r6 M7).bind (fun q8 => zpr q8 (fun r9 M10 =>
  if r9 ≤ (nI 1) then
  (j_X10_alike_68 v1 v2 v3 v4 v5 r6 r9 M10)
  else (zbd ((v2 + (nI 1))) (fun x12 =>
  j_X10_alike_68 v1 x12 v3 v4 v5 r6 r9 M10))))))))
set_option maxHeartbeats 4000000 in
set_option maxRecDepth 100000 in
theorem x_X10_alike_22 {G : zzG} {t : Nat} {Q : Option Value → zzMem → Prop} (v1 : Int32) (v2 : Int32) (v3 : Int32) (v4 : Int32) (v5 : Int32) (M : zzMem) (ht : 180 ≤ t)  {P : ((Int32 × Int32 × Int32 × Int32 × zzMem) ⊕ (Int32 × zzMem)) → Prop} (h : zK (b_X10_alike_22 v1 v2 v3 v4 v5 M) P) (k22 : ∀ s : (Int32 × Int32 × Int32 × Int32 × zzMem), P (.inl s) → zz_W G m_X10_alike t t t 22 [some (.ref 73), some (.int v1), some (.int s.1), some (.int s.2.1), some (.int s.2.2.1), some (.int s.2.2.2.1), none, none] [] s.2.2.2.2 Q) (kR : ∀ r : (Int32 × zzMem), P (.inr r) → Q (some (.int r.1)) r.2) : zz_W G m_X10_alike t t t 22 [some (.ref 73), some (.int v1), some (.int v2), some (.int v3), some (.int v4), some (.int v5), none, none] [] M Q := by
  unfold b_X10_alike_22 at h
  refine r_iload dX10_alike_22 rfl ?_
  refine r_aload_n dX10_alike_24 rfl ?_
  refine r_getR (k := 73) (q := 74) dX10_alike_25 zf_X10_7 (zo_X10 (zs_X10 ht)) (zr_X10_0 (zs_X10 ht)).1 (zr_X10_0 (zs_X10 ht)).2.1 (zr_X10_0 (zs_X10 ht)).2.2 ?_
  refine r_bipush (v := (nI 7)) dX10_alike_28 (by decide) ?_
  refine r_ialdc (j := 7) dX10_alike_30 (za_X10_0 (zs_X10 ht)) rfl rfl ?_
  refine r_icmp_ge 106 dX10_alike_31 (by decide) (fun c1 => ?_) (fun c1 => ?_)
  · have h := zK_pos h c1
    refine r_iload_n dX10_alike_106 rfl ?_
    refine r_if_ne 114 dX10_alike_107 (by decide) (fun c2 => ?_) (fun c2 => ?_)
    · have h := zK_neg h c2
      refine r_iload_n dX10_alike_114 rfl ?_
      refine r_iconst (v := (nI 1)) dX10_alike_115 (by decide) ?_
      refine r_icmp_ne 123 dX10_alike_116 (by decide) (fun c3 => ?_) (fun c3 => ?_)
      · have h := zK_neg h c3
        refine r_iload dX10_alike_123 rfl ?_
        exact r_iret dX10_alike_125 rfl rfl rfl (kR ((v4, M)) (zK_some h))
      · have h := zK_pos h c3
        refine r_iload_n dX10_alike_119 rfl ?_
        refine r_goto 125 dX10_alike_120 (by decide) ?_
        exact r_iret dX10_alike_125 rfl rfl rfl (kR ((v3, M)) (zK_some h))
    · have h := zK_pos h c2
      refine r_iload_n dX10_alike_110 rfl ?_
      refine r_goto 125 dX10_alike_111 (by decide) ?_
      exact r_iret dX10_alike_125 rfl rfl rfl (kR ((v2, M)) (zK_some h))
  · have h := zK_neg h c1
    refine r_aload_n dX10_alike_34 rfl ?_
    refine r_aload_n dX10_alike_35 rfl ?_
    refine r_getR (k := 73) (q := 74) dX10_alike_36 zf_X10_7 (zo_X10 (zs_X10 ht)) (zr_X10_0 (zs_X10 ht)).1 (zr_X10_0 (zs_X10 ht)).2.1 (zr_X10_0 (zs_X10 ht)).2.2 ?_
    refine r_bipush (v := (nI 40)) dX10_alike_39 (by decide) ?_
    refine r_iload dX10_alike_41 rfl ?_
    refine r_iadd dX10_alike_43 ?_
    obtain ⟨g4, h⟩ := zK_gd h
    refine r_iald dX10_alike_44 (za_X10_0 (zs_X10 ht)) g4 ?_
    refine kV_iw (as := [.int (M.1 74 (((nI 40) + v5)).toNatClampNeg)]) (st := []) (k := 73) dX10_alike_45 zM_X10_hashOf zk_X10_184 (zo_X10 (zs_X10 ht)) (by decide) rfl ⟨Nat.le_of_ble_eq_true rfl, Nat.le_of_ble_eq_true rfl⟩ (Nat.le_of_ble_eq_true rfl) (zz_T0 rfl rfl) (fun Q' P' k h => c_X10_hashOf ((M.1 74 (((nI 40) + v5)).toNatClampNeg)) M ht h (fun r p => k r.1 r.2 p)) h (fun r6 M7 h => ?_)
    have h := zK_pr h
    refine s_istore ([some (.ref 73), some (.int v1), some (.int v2), some (.int v3), some (.int v4), some (.int v5), some (.int r6), none]) dX10_alike_48 (by decide) rfl rfl ?_
    refine r_aload_n dX10_alike_50 rfl ?_
    refine r_iload dX10_alike_51 rfl ?_
    refine kV_iw (as := [.int r6]) (st := []) (k := 73) dX10_alike_53 zM_X10_sameHash zk_X10_360 (zo_X10 (zs_X10 ht)) (by decide) rfl ⟨Nat.le_of_ble_eq_true rfl, Nat.le_of_ble_eq_true rfl⟩ (Nat.le_of_ble_eq_true rfl) (zz_T0 rfl rfl) (fun Q' P' k h => c_X10_sameHash (r6) M7 ht h (fun r p => k r.1 r.2 p)) h (fun r9 M10 h => ?_)
    have h := zK_pr h
    refine s_istore ([some (.ref 73), some (.int v1), some (.int v2), some (.int v3), some (.int v4), some (.int v5), some (.int r6), some (.int r9)]) dX10_alike_56 (by decide) rfl rfl ?_
    refine r_iload dX10_alike_58 rfl ?_
    refine r_iconst (v := (nI 1)) dX10_alike_60 (by decide) ?_
    refine r_icmp_le 68 dX10_alike_61 (by decide) (fun c11 => ?_) (fun c11 => ?_)
    · have h := zK_pos h c11
      exact w_X10_alike_68 (v1) (v2) (v3) (v4) (v5) (r6) (r9) M10 ht h k22 kR
    · have h := zK_neg h c11
      refine r_iload_n dX10_alike_64 rfl ?_
      refine r_iconst (v := (nI 1)) dX10_alike_65 (by decide) ?_
      refine r_iadd dX10_alike_66 ?_
      refine r_istore_n (fun x12 => [some (.ref 73), some (.int v1), some (.int x12), some (.int v3), some (.int v4), some (.int v5), some (.int r6), some (.int r9)]) dX10_alike_67 (by decide) rfl (fun _ => rfl) (fun x12 ex12 => ?_)
      have h := zK_bd h ex12
      exact w_X10_alike_68 (v1) (x12) (v3) (v4) (v5) (r6) (r9) M10 ht h k22 kR
noncomputable def j_X10_alike_22 (v1 : Int32) (v2 : Int32) (v3 : Int32) (v4 : Int32) (v5 : Int32) (M : zzMem) : Option (Int32 × zzMem) :=
  zlp (fun s : (Int32 × Int32 × Int32 × Int32 × zzMem) => b_X10_alike_22 v1 s.1 s.2.1 s.2.2.1 s.2.2.2.1 s.2.2.2.2) (v2, v3, v4, v5, M)
set_option maxHeartbeats 4000000 in
set_option maxRecDepth 100000 in
theorem w_X10_alike_22 {G : zzG} {t : Nat} {Q : Option Value → zzMem → Prop} (v1 : Int32) (v2 : Int32) (v3 : Int32) (v4 : Int32) (v5 : Int32) (M : zzMem) (ht : 180 ≤ t)  {P : (Int32 × zzMem) → Prop} (h : zK (j_X10_alike_22 v1 v2 v3 v4 v5 M) P) (kR : ∀ r : (Int32 × zzMem), P r → Q (some (.int r.1)) r.2) : zz_W G m_X10_alike t t t 22 [some (.ref 73), some (.int v1), some (.int v2), some (.int v3), some (.int v4), some (.int v5), none, none] [] M Q := by
  unfold j_X10_alike_22 at h
  exact zK_lp h (fun s : (Int32 × Int32 × Int32 × Int32 × zzMem) => zz_W G m_X10_alike t t t 22 [some (.ref 73), some (.int v1), some (.int s.1), some (.int s.2.1), some (.int s.2.2.1), some (.int s.2.2.2.1), none, none] [] s.2.2.2.2 Q) (fun s h => x_X10_alike_22 v1 s.1 s.2.1 s.2.2.1 s.2.2.2.1 s.2.2.2.2 ht h (fun s p => p) kR)
noncomputable def f_X10_alike (a1 : Int32) (M : zzMem) : Option (Int32 × zzMem) :=
  if (f_X10_in a1 (nI 0) (nI 2)) = true then
  (j_X10_alike_22 a1 (nI 0) (-2 : Int32) (nI 0) (nI 0) M)
  else (some (((-1 : Int32), M)))
set_option maxHeartbeats 4000000 in
set_option maxRecDepth 100000 in
theorem w_X10_alike_0 {G : zzG} {t : Nat} {Q : Option Value → zzMem → Prop} (a1 : Int32) (M : zzMem) (ht : 180 ≤ t)  {P : (Int32 × zzMem) → Prop} (h : zK (f_X10_alike a1 M) P) (kR : ∀ r : (Int32 × zzMem), P r → Q (some (.int r.1)) r.2) : zz_W G m_X10_alike t t t 0 [some (.ref 73), some (.int a1), none, none, none, none, none, none] [] M Q := by
  unfold f_X10_alike at h
  refine r_iload_n dX10_alike_0 rfl ?_
  refine r_iconst (v := (nI 0)) dX10_alike_1 (by decide) ?_
  refine r_iconst (v := (nI 2)) dX10_alike_2 (by decide) ?_
  refine tS_zr (v := f_X10_in a1 (nI 0) (nI 2)) (as := [.int a1, .int (nI 0), .int (nI 2)]) (st := []) dX10_alike_3 zM_X10_in zk_X10_67 ⟨Nat.le_of_ble_eq_true rfl, Nat.le_of_ble_eq_true rfl⟩ (Nat.le_of_ble_eq_true rfl) (zz_T0 rfl rfl) (fun Q' h => c_X10_in (a1) ((nI 0)) ((nI 2)) M h) ?_
  refine r_ifZ_ne 11 dX10_alike_6 (by decide) (fun c1 => ?_) (fun c1 => ?_)
  · have h := zK_pos h c1
    refine r_iconst (v := (nI 0)) dX10_alike_11 (by decide) ?_
    refine s_istore_n ([some (.ref 73), some (.int a1), some (.int (nI 0)), none, none, none, none, none]) dX10_alike_12 (by decide) rfl rfl ?_
    refine r_bipush (v := (-2 : Int32)) dX10_alike_13 (by decide) ?_
    refine s_istore_n ([some (.ref 73), some (.int a1), some (.int (nI 0)), some (.int (-2 : Int32)), none, none, none, none]) dX10_alike_15 (by decide) rfl rfl ?_
    refine r_iconst (v := (nI 0)) dX10_alike_16 (by decide) ?_
    refine s_istore ([some (.ref 73), some (.int a1), some (.int (nI 0)), some (.int (-2 : Int32)), some (.int (nI 0)), none, none, none]) dX10_alike_17 (by decide) rfl rfl ?_
    refine r_iconst (v := (nI 0)) dX10_alike_19 (by decide) ?_
    refine s_istore ([some (.ref 73), some (.int a1), some (.int (nI 0)), some (.int (-2 : Int32)), some (.int (nI 0)), some (.int (nI 0)), none, none]) dX10_alike_20 (by decide) rfl rfl ?_
    exact w_X10_alike_22 (a1) ((nI 0)) ((-2 : Int32)) ((nI 0)) ((nI 0)) M ht h kR
  · have h := zK_neg h c1
    refine r_iconst (v := (-1 : Int32)) dX10_alike_9 (by decide) ?_
    exact r_iret dX10_alike_10 rfl rfl rfl (kR (((-1 : Int32), M)) (zK_some h))
set_option maxHeartbeats 4000000 in
set_option maxRecDepth 100000 in
theorem c_X10_alike {G : zzG} {t : Nat} {Q : Option Value → zzMem → Prop} (a1 : Int32) (M : zzMem) (ht : 180 ≤ t)  {P : (Int32 × zzMem) → Prop} (h : zK (f_X10_alike a1 M) P) (kR : ∀ r : (Int32 × zzMem), P r → Q (some (.int r.1)) r.2) : zz_S G m_X10_alike t t [.ref 73, .int a1] M Q :=
  zz_S_of (by decide) (by decide) (Nat.le_of_ble_eq_true rfl) (w_X10_alike_0 a1 M ht h kR)
noncomputable def b_X10_between_26 (v1 : Int32) (v2 : Int32) (v3 : Int32) (v4 : Int32) (M : zzMem) : Option ((Int32 × Int32) ⊕ Int32) :=
  if (M.1 74 7) ≤ v4 then
  (some ((.inr v3)))
  else (zgd (vp_in ((nI 40) + v4) 5676) (
  if (f_X10_in (M.1 74 (((nI 40) + v4)).toNatClampNeg) v1 v2) = true then
  (zbd ((v3 + (nI 1))) (fun x5 =>
  zbd (v4 + (nI 1)) (fun x6 =>
  some (.inl (x5, x6)))))
  else (zbd (v4 + (nI 1)) (fun x4 =>
  some (.inl (v3, x4))))))
set_option maxHeartbeats 4000000 in
set_option maxRecDepth 100000 in
theorem x_X10_between_26 {G : zzG} {t : Nat} {Q : Option Value → zzMem → Prop} (v1 : Int32) (v2 : Int32) (v3 : Int32) (v4 : Int32) (M : zzMem) (ht : 180 ≤ t)  {P : ((Int32 × Int32) ⊕ Int32) → Prop} (h : zK (b_X10_between_26 v1 v2 v3 v4 M) P) (k26 : ∀ s : (Int32 × Int32), P (.inl s) → zz_W G m_X10_between t t t 26 [some (.ref 73), some (.int v1), some (.int v2), some (.int s.1), some (.int s.2)] [] M Q) (kR : ∀ r : Int32, P (.inr r) → Q (some (.int r)) M) : zz_W G m_X10_between t t t 26 [some (.ref 73), some (.int v1), some (.int v2), some (.int v3), some (.int v4)] [] M Q := by
  unfold b_X10_between_26 at h
  refine r_iload dX10_between_26 rfl ?_
  refine r_aload_n dX10_between_28 rfl ?_
  refine r_getR (k := 73) (q := 74) dX10_between_29 zf_X10_7 (zo_X10 (zs_X10 ht)) (zr_X10_0 (zs_X10 ht)).1 (zr_X10_0 (zs_X10 ht)).2.1 (zr_X10_0 (zs_X10 ht)).2.2 ?_
  refine r_bipush (v := (nI 7)) dX10_between_32 (by decide) ?_
  refine r_ialdc (j := 7) dX10_between_34 (za_X10_0 (zs_X10 ht)) rfl rfl ?_
  refine r_icmp_ge 66 dX10_between_35 (by decide) (fun c1 => ?_) (fun c1 => ?_)
  · have h := zK_pos h c1
    refine r_iload_n dX10_between_66 rfl ?_
    exact r_iret dX10_between_67 rfl rfl rfl (kR (v3) (zK_some h))
  · have h := zK_neg h c1
    refine r_aload_n dX10_between_38 rfl ?_
    refine r_getR (k := 73) (q := 74) dX10_between_39 zf_X10_7 (zo_X10 (zs_X10 ht)) (zr_X10_0 (zs_X10 ht)).1 (zr_X10_0 (zs_X10 ht)).2.1 (zr_X10_0 (zs_X10 ht)).2.2 ?_
    refine r_bipush (v := (nI 40)) dX10_between_42 (by decide) ?_
    refine r_iload dX10_between_44 rfl ?_
    refine r_iadd dX10_between_46 ?_
    obtain ⟨g2, h⟩ := zK_gd h
    refine r_iald dX10_between_47 (za_X10_0 (zs_X10 ht)) g2 ?_
    refine r_iload_n dX10_between_48 rfl ?_
    refine r_iload_n dX10_between_49 rfl ?_
    refine tS_zr (v := f_X10_in (M.1 74 (((nI 40) + v4)).toNatClampNeg) v1 v2) (as := [.int (M.1 74 (((nI 40) + v4)).toNatClampNeg), .int v1, .int v2]) (st := []) dX10_between_50 zM_X10_in zk_X10_67 ⟨Nat.le_of_ble_eq_true rfl, Nat.le_of_ble_eq_true rfl⟩ (Nat.le_of_ble_eq_true rfl) (zz_T0 rfl rfl) (fun Q' h => c_X10_in ((M.1 74 (((nI 40) + v4)).toNatClampNeg)) (v1) (v2) M h) ?_
    refine r_ifZ_eq 60 dX10_between_53 (by decide) (fun c3 => ?_) (fun c3 => ?_)
    · have h := zK_neg h c3
      refine r_iinc (nI 1) (fun x4 => [some (.ref 73), some (.int v1), some (.int v2), some (.int v3), some (.int x4)]) dX10_between_60 rfl (by decide) (by decide) rfl (fun _ => rfl) (fun x4 ex4 => ?_)
      have h := zK_bd h ex4
      refine r_goto 26 dX10_between_63 (by decide) ?_
      exact k26 ((v3, x4)) (zK_some h)
    · have h := zK_pos h c3
      refine r_iload_n dX10_between_56 rfl ?_
      refine r_iconst (v := (nI 1)) dX10_between_57 (by decide) ?_
      refine r_iadd dX10_between_58 ?_
      refine r_istore_n (fun x5 => [some (.ref 73), some (.int v1), some (.int v2), some (.int x5), some (.int v4)]) dX10_between_59 (by decide) rfl (fun _ => rfl) (fun x5 ex5 => ?_)
      have h := zK_bd h ex5
      refine r_iinc (nI 1) (fun x6 => [some (.ref 73), some (.int v1), some (.int v2), some (.int x5), some (.int x6)]) dX10_between_60 rfl (by decide) (by decide) rfl (fun _ => rfl) (fun x6 ex6 => ?_)
      have h := zK_bd h ex6
      refine r_goto 26 dX10_between_63 (by decide) ?_
      exact k26 ((x5, x6)) (zK_some h)
noncomputable def j_X10_between_26 (v1 : Int32) (v2 : Int32) (v3 : Int32) (v4 : Int32) (M : zzMem) : Option Int32 :=
  zlp (fun s : (Int32 × Int32) => b_X10_between_26 v1 v2 s.1 s.2 M) (v3, v4)
set_option maxHeartbeats 4000000 in
set_option maxRecDepth 100000 in
theorem w_X10_between_26 {G : zzG} {t : Nat} {Q : Option Value → zzMem → Prop} (v1 : Int32) (v2 : Int32) (v3 : Int32) (v4 : Int32) (M : zzMem) (ht : 180 ≤ t)  {P : Int32 → Prop} (h : zK (j_X10_between_26 v1 v2 v3 v4 M) P) (kR : ∀ r : Int32, P r → Q (some (.int r)) M) : zz_W G m_X10_between t t t 26 [some (.ref 73), some (.int v1), some (.int v2), some (.int v3), some (.int v4)] [] M Q := by
  unfold j_X10_between_26 at h
  exact zK_lp h (fun s : (Int32 × Int32) => zz_W G m_X10_between t t t 26 [some (.ref 73), some (.int v1), some (.int v2), some (.int s.1), some (.int s.2)] [] M Q) (fun s h => x_X10_between_26 v1 v2 s.1 s.2 M ht h (fun s p => p) kR)
noncomputable def f_X10_between (a1 : Int32) (a2 : Int32) (M : zzMem) : Option Int32 :=
  if (f_X10_isKey a1) = true then
  (if (f_X10_isKey a2) = true then
  (if a1 ≤ a2 then
  (j_X10_between_26 a1 a2 (nI 0) (nI 0) M)
  else (some ((-1 : Int32))))
  else (some ((-1 : Int32))))
  else (some ((-1 : Int32)))
set_option maxHeartbeats 4000000 in
set_option maxRecDepth 100000 in
theorem w_X10_between_0 {G : zzG} {t : Nat} {Q : Option Value → zzMem → Prop} (a1 : Int32) (a2 : Int32) (M : zzMem) (ht : 180 ≤ t)  {P : Int32 → Prop} (h : zK (f_X10_between a1 a2 M) P) (kR : ∀ r : Int32, P r → Q (some (.int r)) M) : zz_W G m_X10_between t t t 0 [some (.ref 73), some (.int a1), some (.int a2), none, none] [] M Q := by
  unfold f_X10_between at h
  refine r_iload_n dX10_between_0 rfl ?_
  refine tS_zr (v := f_X10_isKey a1) (as := [.int a1]) (st := []) dX10_between_1 zM_X10_isKey zk_X10_226 ⟨Nat.le_of_ble_eq_true rfl, Nat.le_of_ble_eq_true rfl⟩ (Nat.le_of_ble_eq_true rfl) (zz_T0 rfl rfl) (fun Q' h => c_X10_isKey (a1) M h) ?_
  refine r_ifZ_eq 19 dX10_between_4 (by decide) (fun c1 => ?_) (fun c1 => ?_)
  · have h := zK_neg h c1
    refine r_iconst (v := (-1 : Int32)) dX10_between_19 (by decide) ?_
    exact r_iret dX10_between_20 rfl rfl rfl (kR ((-1 : Int32)) (zK_some h))
  · have h := zK_pos h c1
    refine r_iload_n dX10_between_7 rfl ?_
    refine tS_zr (v := f_X10_isKey a2) (as := [.int a2]) (st := []) dX10_between_8 zM_X10_isKey zk_X10_226 ⟨Nat.le_of_ble_eq_true rfl, Nat.le_of_ble_eq_true rfl⟩ (Nat.le_of_ble_eq_true rfl) (zz_T0 rfl rfl) (fun Q' h => c_X10_isKey (a2) M h) ?_
    refine r_ifZ_eq 19 dX10_between_11 (by decide) (fun c2 => ?_) (fun c2 => ?_)
    · have h := zK_neg h c2
      refine r_iconst (v := (-1 : Int32)) dX10_between_19 (by decide) ?_
      exact r_iret dX10_between_20 rfl rfl rfl (kR ((-1 : Int32)) (zK_some h))
    · have h := zK_pos h c2
      refine r_iload_n dX10_between_14 rfl ?_
      refine r_iload_n dX10_between_15 rfl ?_
      refine r_icmp_le 21 dX10_between_16 (by decide) (fun c3 => ?_) (fun c3 => ?_)
      · have h := zK_pos h c3
        refine r_iconst (v := (nI 0)) dX10_between_21 (by decide) ?_
        refine s_istore_n ([some (.ref 73), some (.int a1), some (.int a2), some (.int (nI 0)), none]) dX10_between_22 (by decide) rfl rfl ?_
        refine r_iconst (v := (nI 0)) dX10_between_23 (by decide) ?_
        refine s_istore ([some (.ref 73), some (.int a1), some (.int a2), some (.int (nI 0)), some (.int (nI 0))]) dX10_between_24 (by decide) rfl rfl ?_
        exact w_X10_between_26 (a1) (a2) ((nI 0)) ((nI 0)) M ht h kR
      · have h := zK_neg h c3
        refine r_iconst (v := (-1 : Int32)) dX10_between_19 (by decide) ?_
        exact r_iret dX10_between_20 rfl rfl rfl (kR ((-1 : Int32)) (zK_some h))
set_option maxHeartbeats 4000000 in
set_option maxRecDepth 100000 in
theorem c_X10_between {G : zzG} {t : Nat} {Q : Option Value → zzMem → Prop} (a1 : Int32) (a2 : Int32) (M : zzMem) (ht : 180 ≤ t)  {P : Int32 → Prop} (h : zK (f_X10_between a1 a2 M) P) (kR : ∀ r : Int32, P r → Q (some (.int r)) M) : zz_S G m_X10_between t t [.ref 73, .int a1, .int a2] M Q :=
  zz_S_of (by decide) (by decide) (Nat.le_of_ble_eq_true rfl) (w_X10_between_0 a1 a2 M ht h kR)
noncomputable def j_X10_bits_89 (v1 : Int32) (v2 : Int32) (v3 : Int32) (v4 : Int32) (v5 : Int32) (v7 : Int32) (M : zzMem) : Option ((Int32 × Int32 × zzMem) ⊕ (Int32 × zzMem)) :=
  zbd ((v4 + v7)) (fun x1 =>
  zbd (v5 + (nI 1)) (fun x2 =>
  some (.inl (x1, x2, M))))
set_option maxHeartbeats 4000000 in
set_option maxRecDepth 100000 in
theorem w_X10_bits_89 {G : zzG} {t : Nat} {Q : Option Value → zzMem → Prop} (v1 : Int32) (v2 : Int32) (v3 : Int32) (v4 : Int32) (v5 : Int32) (v7 : Int32) (M : zzMem) (ht : 180 ≤ t)  {P : ((Int32 × Int32 × zzMem) ⊕ (Int32 × zzMem)) → Prop} (h : zK (j_X10_bits_89 v1 v2 v3 v4 v5 v7 M) P) (k35 : ∀ s : (Int32 × Int32 × zzMem), P (.inl s) → zz_W G m_X10_bits t t t 35 [some (.ref 73), some (.int v1), some (.int v2), some (.int v3), some (.int s.1), some (.int s.2.1), none, none] [] s.2.2 Q) (kR : ∀ r : (Int32 × zzMem), P (.inr r) → Q (some (.int r.1)) r.2) : zz_W G m_X10_bits t t t 89 [some (.ref 73), some (.int v1), some (.int v2), some (.int v3), some (.int v4), some (.int v5), none, some (.int v7)] [] M Q := by
  unfold j_X10_bits_89 at h
  refine r_iload dX10_bits_89 rfl ?_
  refine r_iload dX10_bits_91 rfl ?_
  refine r_iadd dX10_bits_93 ?_
  refine r_istore (fun x1 => [some (.ref 73), some (.int v1), some (.int v2), some (.int v3), some (.int x1), some (.int v5), none, some (.int v7)]) dX10_bits_94 (by decide) rfl (fun _ => rfl) (fun x1 ex1 => ?_)
  have h := zK_bd h ex1
  refine r_iinc (nI 1) (fun x2 => [some (.ref 73), some (.int v1), some (.int v2), some (.int v3), some (.int x1), some (.int x2), none, some (.int v7)]) dX10_bits_96 rfl (by decide) (by decide) rfl (fun _ => rfl) (fun x2 ex2 => ?_)
  have h := zK_bd h ex2
  refine r_goto 35 dX10_bits_99 (by decide) ?_
  refine zz_mask [7] ?_
  exact k35 ((x1, x2, M)) (zK_some h)
noncomputable def b_X10_bits_35 (v1 : Int32) (v2 : Int32) (v3 : Int32) (v4 : Int32) (v5 : Int32) (M : zzMem) : Option ((Int32 × Int32 × zzMem) ⊕ (Int32 × zzMem)) :=
  if (nI 256) ≤ v5 then
  (some ((.inr (v4, M))))
  else (zbd ((zrm (v1 + v5) (nI 65536))) (fun x2 =>
  (f_X10_hashOf x2 M).bind (fun q3 => zpr q3 (fun r4 M5 =>
  zbd (((r4 >>> (v2 &&& 31)) &&& (nI 1))) (fun x6 =>
  if v3 ≤ 0 then
  (j_X10_bits_89 v1 v2 v3 v4 v5 x6 M5)
  else ((f_X10_hashOf (x2 ^^^ ((nI 1) <<< ((v3 - (nI 1)) &&& 31))) M5).bind (fun q8 => zpr q8 (fun r9 M10 =>
  zbd ((x6 ^^^ ((r9 >>> (v2 &&& 31)) &&& (nI 1)))) (fun x11 =>
  j_X10_bits_89 v1 v2 v3 v4 v5 x11 M10)))))))))
set_option maxHeartbeats 4000000 in
set_option maxRecDepth 100000 in
theorem x_X10_bits_35 {G : zzG} {t : Nat} {Q : Option Value → zzMem → Prop} (v1 : Int32) (v2 : Int32) (v3 : Int32) (v4 : Int32) (v5 : Int32) (M : zzMem) (ht : 180 ≤ t)  {P : ((Int32 × Int32 × zzMem) ⊕ (Int32 × zzMem)) → Prop} (h : zK (b_X10_bits_35 v1 v2 v3 v4 v5 M) P) (k35 : ∀ s : (Int32 × Int32 × zzMem), P (.inl s) → zz_W G m_X10_bits t t t 35 [some (.ref 73), some (.int v1), some (.int v2), some (.int v3), some (.int s.1), some (.int s.2.1), none, none] [] s.2.2 Q) (kR : ∀ r : (Int32 × zzMem), P (.inr r) → Q (some (.int r.1)) r.2) : zz_W G m_X10_bits t t t 35 [some (.ref 73), some (.int v1), some (.int v2), some (.int v3), some (.int v4), some (.int v5), none, none] [] M Q := by
  unfold b_X10_bits_35 at h
  refine r_iload dX10_bits_35 rfl ?_
  refine r_sipush (v := (nI 256)) dX10_bits_37 (by decide) ?_
  refine r_icmp_ge 102 dX10_bits_40 (by decide) (fun c1 => ?_) (fun c1 => ?_)
  · have h := zK_pos h c1
    refine r_iload dX10_bits_102 rfl ?_
    exact r_iret dX10_bits_104 rfl rfl rfl (kR ((v4, M)) (zK_some h))
  · have h := zK_neg h c1
    refine r_iload_n dX10_bits_43 rfl ?_
    refine r_iload dX10_bits_44 rfl ?_
    refine r_iadd dX10_bits_46 ?_
    refine r_ldc (v := (nI 65536)) dX10_bits_47 zd_X10_62 ?_
    refine r_irem dX10_bits_49 (by decide) ?_
    refine r_istore (fun x2 => [some (.ref 73), some (.int v1), some (.int v2), some (.int v3), some (.int v4), some (.int v5), some (.int x2), none]) dX10_bits_50 (by decide) rfl (fun _ => rfl) (fun x2 ex2 => ?_)
    have h := zK_bd h ex2
    refine r_aload_n dX10_bits_52 rfl ?_
    refine r_iload dX10_bits_53 rfl ?_
    refine kV_iw (as := [.int x2]) (st := []) (k := 73) dX10_bits_55 zM_X10_hashOf zk_X10_184 (zo_X10 (zs_X10 ht)) (by decide) rfl ⟨Nat.le_of_ble_eq_true rfl, Nat.le_of_ble_eq_true rfl⟩ (Nat.le_of_ble_eq_true rfl) (zz_T0 rfl rfl) (fun Q' P' k h => c_X10_hashOf (x2) M ht h (fun r p => k r.1 r.2 p)) h (fun r4 M5 h => ?_)
    have h := zK_pr h
    refine r_iload_n dX10_bits_58 rfl ?_
    refine r_ishr dX10_bits_59 ?_
    refine r_iconst (v := (nI 1)) dX10_bits_60 (by decide) ?_
    refine r_iand dX10_bits_61 ?_
    refine r_istore (fun x6 => [some (.ref 73), some (.int v1), some (.int v2), some (.int v3), some (.int v4), some (.int v5), some (.int x2), some (.int x6)]) dX10_bits_62 (by decide) rfl (fun _ => rfl) (fun x6 ex6 => ?_)
    have h := zK_bd h ex6
    refine r_iload_n dX10_bits_64 rfl ?_
    refine r_if_le 89 dX10_bits_65 (by decide) (fun c7 => ?_) (fun c7 => ?_)
    · have h := zK_pos h c7
      refine zz_mask [6] ?_
      exact w_X10_bits_89 (v1) (v2) (v3) (v4) (v5) (x6) M5 ht h k35 kR
    · have h := zK_neg h c7
      refine r_iload dX10_bits_68 rfl ?_
      refine r_aload_n dX10_bits_70 rfl ?_
      refine r_iload dX10_bits_71 rfl ?_
      refine r_iconst (v := (nI 1)) dX10_bits_73 (by decide) ?_
      refine r_iload_n dX10_bits_74 rfl ?_
      refine r_iconst (v := (nI 1)) dX10_bits_75 (by decide) ?_
      refine r_isub dX10_bits_76 ?_
      refine r_ishl dX10_bits_77 ?_
      refine r_ixor dX10_bits_78 ?_
      refine kV_iw (as := [.int (x2 ^^^ ((nI 1) <<< ((v3 - (nI 1)) &&& 31)))]) (st := [.int x6]) (k := 73) dX10_bits_79 zM_X10_hashOf zk_X10_184 (zo_X10 (zs_X10 ht)) (by decide) rfl ⟨Nat.le_of_ble_eq_true rfl, Nat.le_of_ble_eq_true rfl⟩ (Nat.le_of_ble_eq_true rfl) (zz_T0 rfl rfl) (fun Q' P' k h => c_X10_hashOf ((x2 ^^^ ((nI 1) <<< ((v3 - (nI 1)) &&& 31)))) M5 ht h (fun r p => k r.1 r.2 p)) h (fun r9 M10 h => ?_)
      have h := zK_pr h
      refine r_iload_n dX10_bits_82 rfl ?_
      refine r_ishr dX10_bits_83 ?_
      refine r_iconst (v := (nI 1)) dX10_bits_84 (by decide) ?_
      refine r_iand dX10_bits_85 ?_
      refine r_ixor dX10_bits_86 ?_
      refine r_istore (fun x11 => [some (.ref 73), some (.int v1), some (.int v2), some (.int v3), some (.int v4), some (.int v5), some (.int x2), some (.int x11)]) dX10_bits_87 (by decide) rfl (fun _ => rfl) (fun x11 ex11 => ?_)
      have h := zK_bd h ex11
      refine zz_mask [6] ?_
      exact w_X10_bits_89 (v1) (v2) (v3) (v4) (v5) (x11) M10 ht h k35 kR
noncomputable def j_X10_bits_35 (v1 : Int32) (v2 : Int32) (v3 : Int32) (v4 : Int32) (v5 : Int32) (M : zzMem) : Option (Int32 × zzMem) :=
  zlp (fun s : (Int32 × Int32 × zzMem) => b_X10_bits_35 v1 v2 v3 s.1 s.2.1 s.2.2) (v4, v5, M)
set_option maxHeartbeats 4000000 in
set_option maxRecDepth 100000 in
theorem w_X10_bits_35 {G : zzG} {t : Nat} {Q : Option Value → zzMem → Prop} (v1 : Int32) (v2 : Int32) (v3 : Int32) (v4 : Int32) (v5 : Int32) (M : zzMem) (ht : 180 ≤ t)  {P : (Int32 × zzMem) → Prop} (h : zK (j_X10_bits_35 v1 v2 v3 v4 v5 M) P) (kR : ∀ r : (Int32 × zzMem), P r → Q (some (.int r.1)) r.2) : zz_W G m_X10_bits t t t 35 [some (.ref 73), some (.int v1), some (.int v2), some (.int v3), some (.int v4), some (.int v5), none, none] [] M Q := by
  unfold j_X10_bits_35 at h
  exact zK_lp h (fun s : (Int32 × Int32 × zzMem) => zz_W G m_X10_bits t t t 35 [some (.ref 73), some (.int v1), some (.int v2), some (.int v3), some (.int s.1), some (.int s.2.1), none, none] [] s.2.2 Q) (fun s h => x_X10_bits_35 v1 v2 v3 s.1 s.2.1 s.2.2 ht h (fun s p => p) kR)
noncomputable def f_X10_bits (a1 : Int32) (a2 : Int32) (a3 : Int32) (M : zzMem) : Option (Int32 × zzMem) :=
  if (f_X10_isKey a1) = true then
  (if (f_X10_in a2 (nI 0) (nI 15)) = true then
  (if (f_X10_in a3 (nI 0) (nI 16)) = true then
  (j_X10_bits_35 a1 a2 a3 (nI 0) (nI 0) M)
  else (some (((-1 : Int32), M))))
  else (some (((-1 : Int32), M))))
  else (some (((-1 : Int32), M)))
set_option maxHeartbeats 4000000 in
set_option maxRecDepth 100000 in
theorem w_X10_bits_0 {G : zzG} {t : Nat} {Q : Option Value → zzMem → Prop} (a1 : Int32) (a2 : Int32) (a3 : Int32) (M : zzMem) (ht : 180 ≤ t)  {P : (Int32 × zzMem) → Prop} (h : zK (f_X10_bits a1 a2 a3 M) P) (kR : ∀ r : (Int32 × zzMem), P r → Q (some (.int r.1)) r.2) : zz_W G m_X10_bits t t t 0 [some (.ref 73), some (.int a1), some (.int a2), some (.int a3), none, none, none, none] [] M Q := by
  unfold f_X10_bits at h
  refine r_iload_n dX10_bits_0 rfl ?_
  refine tS_zr (v := f_X10_isKey a1) (as := [.int a1]) (st := []) dX10_bits_1 zM_X10_isKey zk_X10_226 ⟨Nat.le_of_ble_eq_true rfl, Nat.le_of_ble_eq_true rfl⟩ (Nat.le_of_ble_eq_true rfl) (zz_T0 rfl rfl) (fun Q' h => c_X10_isKey (a1) M h) ?_
  refine r_ifZ_eq 27 dX10_bits_4 (by decide) (fun c1 => ?_) (fun c1 => ?_)
  · have h := zK_neg h c1
    refine r_iconst (v := (-1 : Int32)) dX10_bits_27 (by decide) ?_
    exact r_iret dX10_bits_28 rfl rfl rfl (kR (((-1 : Int32), M)) (zK_some h))
  · have h := zK_pos h c1
    refine r_iload_n dX10_bits_7 rfl ?_
    refine r_iconst (v := (nI 0)) dX10_bits_8 (by decide) ?_
    refine r_bipush (v := (nI 15)) dX10_bits_9 (by decide) ?_
    refine tS_zr (v := f_X10_in a2 (nI 0) (nI 15)) (as := [.int a2, .int (nI 0), .int (nI 15)]) (st := []) dX10_bits_11 zM_X10_in zk_X10_67 ⟨Nat.le_of_ble_eq_true rfl, Nat.le_of_ble_eq_true rfl⟩ (Nat.le_of_ble_eq_true rfl) (zz_T0 rfl rfl) (fun Q' h => c_X10_in (a2) ((nI 0)) ((nI 15)) M h) ?_
    refine r_ifZ_eq 27 dX10_bits_14 (by decide) (fun c2 => ?_) (fun c2 => ?_)
    · have h := zK_neg h c2
      refine r_iconst (v := (-1 : Int32)) dX10_bits_27 (by decide) ?_
      exact r_iret dX10_bits_28 rfl rfl rfl (kR (((-1 : Int32), M)) (zK_some h))
    · have h := zK_pos h c2
      refine r_iload_n dX10_bits_17 rfl ?_
      refine r_iconst (v := (nI 0)) dX10_bits_18 (by decide) ?_
      refine r_bipush (v := (nI 16)) dX10_bits_19 (by decide) ?_
      refine tS_zr (v := f_X10_in a3 (nI 0) (nI 16)) (as := [.int a3, .int (nI 0), .int (nI 16)]) (st := []) dX10_bits_21 zM_X10_in zk_X10_67 ⟨Nat.le_of_ble_eq_true rfl, Nat.le_of_ble_eq_true rfl⟩ (Nat.le_of_ble_eq_true rfl) (zz_T0 rfl rfl) (fun Q' h => c_X10_in (a3) ((nI 0)) ((nI 16)) M h) ?_
      refine r_ifZ_ne 29 dX10_bits_24 (by decide) (fun c3 => ?_) (fun c3 => ?_)
      · have h := zK_pos h c3
        refine r_iconst (v := (nI 0)) dX10_bits_29 (by decide) ?_
        refine s_istore ([some (.ref 73), some (.int a1), some (.int a2), some (.int a3), some (.int (nI 0)), none, none, none]) dX10_bits_30 (by decide) rfl rfl ?_
        refine r_iconst (v := (nI 0)) dX10_bits_32 (by decide) ?_
        refine s_istore ([some (.ref 73), some (.int a1), some (.int a2), some (.int a3), some (.int (nI 0)), some (.int (nI 0)), none, none]) dX10_bits_33 (by decide) rfl rfl ?_
        exact w_X10_bits_35 (a1) (a2) (a3) ((nI 0)) ((nI 0)) M ht h kR
      · have h := zK_neg h c3
        refine r_iconst (v := (-1 : Int32)) dX10_bits_27 (by decide) ?_
        exact r_iret dX10_bits_28 rfl rfl rfl (kR (((-1 : Int32), M)) (zK_some h))
set_option maxHeartbeats 4000000 in
set_option maxRecDepth 100000 in
theorem c_X10_bits {G : zzG} {t : Nat} {Q : Option Value → zzMem → Prop} (a1 : Int32) (a2 : Int32) (a3 : Int32) (M : zzMem) (ht : 180 ≤ t)  {P : (Int32 × zzMem) → Prop} (h : zK (f_X10_bits a1 a2 a3 M) P) (kR : ∀ r : (Int32 × zzMem), P r → Q (some (.int r.1)) r.2) : zz_S G m_X10_bits t t [.ref 73, .int a1, .int a2, .int a3] M Q :=
  zz_S_of (by decide) (by decide) (Nat.le_of_ble_eq_true rfl) (w_X10_bits_0 a1 a2 a3 M ht h kR)
noncomputable def f_X10_seed (a1 : Int32) (M : zzMem) : Option (Bool × zzMem) :=
  if (f_X10_in a1 (nI 0) (nI 65535)) = true then
  (zbd (zz_si M 74 12 a1) (fun M2 =>
  some ((true, M2))))
  else (some ((false, M)))
set_option maxHeartbeats 4000000 in
set_option maxRecDepth 100000 in
theorem w_X10_seed_0 {G : zzG} {t : Nat} {Q : Option Value → zzMem → Prop} (a1 : Int32) (M : zzMem) (ht : 180 ≤ t)  {P : (Bool × zzMem) → Prop} (h : zK (f_X10_seed a1 M) P) (kR : ∀ r : (Bool × zzMem), P r → Q (some (.int (zb r.1))) r.2) : zz_W G m_X10_seed t t t 0 [some (.ref 73), some (.int a1)] [] M Q := by
  unfold f_X10_seed at h
  refine r_iload_n dX10_seed_0 rfl ?_
  refine r_iconst (v := (nI 0)) dX10_seed_1 (by decide) ?_
  refine r_ldc (v := (nI 65535)) dX10_seed_2 zd_X10_129 ?_
  refine tS_zr (v := f_X10_in a1 (nI 0) (nI 65535)) (as := [.int a1, .int (nI 0), .int (nI 65535)]) (st := []) dX10_seed_4 zM_X10_in zk_X10_67 ⟨Nat.le_of_ble_eq_true rfl, Nat.le_of_ble_eq_true rfl⟩ (Nat.le_of_ble_eq_true rfl) (zz_T0 rfl rfl) (fun Q' h => c_X10_in (a1) ((nI 0)) ((nI 65535)) M h) ?_
  refine r_ifZ_ne 12 dX10_seed_7 (by decide) (fun c1 => ?_) (fun c1 => ?_)
  · have h := zK_pos h c1
    refine r_aload_n dX10_seed_12 rfl ?_
    refine r_getR (k := 73) (q := 74) dX10_seed_13 zf_X10_7 (zo_X10 (zs_X10 ht)) (zr_X10_0 (zs_X10 ht)).1 (zr_X10_0 (zs_X10 ht)).2.1 (zr_X10_0 (zs_X10 ht)).2.2 ?_
    refine r_bipush (v := (nI 12)) dX10_seed_16 (by decide) ?_
    refine r_iload_n dX10_seed_18 rfl ?_
    refine r_iastc (j := 12) dX10_seed_19 (za_X10_0 (zs_X10 ht)) rfl rfl (fun M2 eM2 => ?_)
    have h := zK_bd h eM2
    refine r_iconst (v := (nI 1)) dX10_seed_20 (by decide) ?_
    exact r_zret (b := true) dX10_seed_21 rfl rfl rfl (kR ((true, M2)) (zK_some h))
  · have h := zK_neg h c1
    refine r_iconst (v := (nI 0)) dX10_seed_10 (by decide) ?_
    exact r_zret (b := false) dX10_seed_11 rfl rfl rfl (kR ((false, M)) (zK_some h))
set_option maxHeartbeats 4000000 in
set_option maxRecDepth 100000 in
theorem c_X10_seed {G : zzG} {t : Nat} {Q : Option Value → zzMem → Prop} (a1 : Int32) (M : zzMem) (ht : 180 ≤ t)  {P : (Bool × zzMem) → Prop} (h : zK (f_X10_seed a1 M) P) (kR : ∀ r : (Bool × zzMem), P r → Q (some (.int (zb r.1))) r.2) : zz_S G m_X10_seed t t [.ref 73, .int a1] M Q :=
  zz_S_of (by decide) (by decide) (Nat.le_of_ble_eq_true rfl) (w_X10_seed_0 a1 M ht h kR)
noncomputable def f_X10_keep  (M : zzMem) : Option (Int32 × zzMem) :=
  zbd (zz_si M 73 1 (nI 1)) (fun M1 =>
  (f_X10_copies (nI 0) (nI 1) M1).bind (fun M2 =>
  some (((M2.1 74 7), M2))))
set_option maxHeartbeats 4000000 in
set_option maxRecDepth 100000 in
theorem w_X10_keep_0 {G : zzG} {t : Nat} {Q : Option Value → zzMem → Prop}  (M : zzMem) (ht : 180 ≤ t)  {P : (Int32 × zzMem) → Prop} (h : zK (f_X10_keep  M) P) (kR : ∀ r : (Int32 × zzMem), P r → Q (some (.int r.1)) r.2) : zz_W G m_X10_keep t t t 0 [some (.ref 73)] [] M Q := by
  unfold f_X10_keep at h
  refine r_aload_n dX10_keep_0 rfl ?_
  refine r_iconst (v := (nI 1)) dX10_keep_1 (by decide) ?_
  refine r_putI (k := 73) dX10_keep_2 zp_X10_353 (zo_X10 (zs_X10 ht)) (zi_X10_1 (zs_X10 ht)) rfl rfl (fun M1 eM1 => ?_)
  have h := zK_bd h eM1
  refine r_aload_n dX10_keep_5 rfl ?_
  refine r_iconst (v := (nI 0)) dX10_keep_6 (by decide) ?_
  refine r_iconst (v := (nI 1)) dX10_keep_7 (by decide) ?_
  refine kV_vw (as := [.int (nI 0), .int (nI 1)]) (st := []) (k := 73) dX10_keep_8 zM_X10_copies zk_X10_332 (zo_X10 (zs_X10 ht)) (by decide) rfl ⟨Nat.le_of_ble_eq_true rfl, Nat.le_of_ble_eq_true rfl⟩ (Nat.le_of_ble_eq_true rfl) (zz_T0 rfl rfl) (fun Q' P' k h => c_X10_copies ((nI 0)) ((nI 1)) M1 ht h k) h (fun M2 h => ?_)
  refine r_aload_n dX10_keep_11 rfl ?_
  refine r_getR (k := 73) (q := 74) dX10_keep_12 zf_X10_7 (zo_X10 (zs_X10 ht)) (zr_X10_0 (zs_X10 ht)).1 (zr_X10_0 (zs_X10 ht)).2.1 (zr_X10_0 (zs_X10 ht)).2.2 ?_
  refine r_bipush (v := (nI 7)) dX10_keep_15 (by decide) ?_
  refine r_ialdc (j := 7) dX10_keep_17 (za_X10_0 (zs_X10 ht)) rfl rfl ?_
  exact r_iret dX10_keep_18 rfl rfl rfl (kR (((M2.1 74 7), M2)) (zK_some h))
set_option maxHeartbeats 4000000 in
set_option maxRecDepth 100000 in
theorem c_X10_keep {G : zzG} {t : Nat} {Q : Option Value → zzMem → Prop}  (M : zzMem) (ht : 180 ≤ t)  {P : (Int32 × zzMem) → Prop} (h : zK (f_X10_keep  M) P) (kR : ∀ r : (Int32 × zzMem), P r → Q (some (.int r.1)) r.2) : zz_S G m_X10_keep t t [.ref 73] M Q :=
  zz_S_of (by decide) (by decide) (Nat.le_of_ble_eq_true rfl) (w_X10_keep_0  M ht h kR)
noncomputable def f_X10_undo  (M : zzMem) : Option (Bool × zzMem) :=
  if (M.1 73 1) = 0 then
  (some ((false, M)))
  else ((f_X10_copies (nI 1) (nI 0) M).bind (fun M2 =>
  some ((true, M2))))
set_option maxHeartbeats 4000000 in
set_option maxRecDepth 100000 in
theorem w_X10_undo_0 {G : zzG} {t : Nat} {Q : Option Value → zzMem → Prop}  (M : zzMem) (ht : 180 ≤ t)  {P : (Bool × zzMem) → Prop} (h : zK (f_X10_undo  M) P) (kR : ∀ r : (Bool × zzMem), P r → Q (some (.int (zb r.1))) r.2) : zz_W G m_X10_undo t t t 0 [some (.ref 73)] [] M Q := by
  unfold f_X10_undo at h
  refine r_aload_n dX10_undo_0 rfl ?_
  refine r_getI (k := 73) dX10_undo_1 zf_X10_353 (zo_X10 (zs_X10 ht)) (zi_X10_1 (zs_X10 ht)) ?_
  refine r_if_ne 9 dX10_undo_4 (by decide) (fun c1 => ?_) (fun c1 => ?_)
  · have h := zK_neg h c1
    refine r_aload_n dX10_undo_9 rfl ?_
    refine r_iconst (v := (nI 1)) dX10_undo_10 (by decide) ?_
    refine r_iconst (v := (nI 0)) dX10_undo_11 (by decide) ?_
    refine kV_vw (as := [.int (nI 1), .int (nI 0)]) (st := []) (k := 73) dX10_undo_12 zM_X10_copies zk_X10_332 (zo_X10 (zs_X10 ht)) (by decide) rfl ⟨Nat.le_of_ble_eq_true rfl, Nat.le_of_ble_eq_true rfl⟩ (Nat.le_of_ble_eq_true rfl) (zz_T0 rfl rfl) (fun Q' P' k h => c_X10_copies ((nI 1)) ((nI 0)) M ht h k) h (fun M2 h => ?_)
    refine r_iconst (v := (nI 1)) dX10_undo_15 (by decide) ?_
    exact r_zret (b := true) dX10_undo_16 rfl rfl rfl (kR ((true, M2)) (zK_some h))
  · have h := zK_pos h c1
    refine r_iconst (v := (nI 0)) dX10_undo_7 (by decide) ?_
    exact r_zret (b := false) dX10_undo_8 rfl rfl rfl (kR ((false, M)) (zK_some h))
set_option maxHeartbeats 4000000 in
set_option maxRecDepth 100000 in
theorem c_X10_undo {G : zzG} {t : Nat} {Q : Option Value → zzMem → Prop}  (M : zzMem) (ht : 180 ≤ t)  {P : (Bool × zzMem) → Prop} (h : zK (f_X10_undo  M) P) (kR : ∀ r : (Bool × zzMem), P r → Q (some (.int (zb r.1))) r.2) : zz_S G m_X10_undo t t [.ref 73] M Q :=
  zz_S_of (by decide) (by decide) (Nat.le_of_ble_eq_true rfl) (w_X10_undo_0  M ht h kR)
