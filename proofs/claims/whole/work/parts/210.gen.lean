noncomputable def f_X10_drop (a1 : Int32) (M : zzMem) : Option (Int32 × zzMem) :=
  if (f_X10_isKey a1) = true then
  ((f_X10_drops a1 M).bind (fun q2 => zpr q2 (fun r3 M4 =>
  some ((r3, M4)))))
  else (some (((-1 : Int32), M)))
set_option maxHeartbeats 4000000 in
set_option maxRecDepth 100000 in
theorem w_X10_drop_0 {G : zzG} {t : Nat} {Q : Option Value → zzMem → Prop} (a1 : Int32) (M : zzMem) (ht : 180 ≤ t)  {P : (Int32 × zzMem) → Prop} (h : zK (f_X10_drop a1 M) P) (kR : ∀ r : (Int32 × zzMem), P r → Q (some (.int r.1)) r.2) : zz_W G m_X10_drop t t t 0 [some (.ref 73), some (.int a1)] [] M Q := by
  unfold f_X10_drop at h
  refine r_iload_n dX10_drop_0 rfl ?_
  refine tS_zr (v := f_X10_isKey a1) (as := [.int a1]) (st := []) dX10_drop_1 zM_X10_isKey zk_X10_226 ⟨Nat.le_of_ble_eq_true rfl, Nat.le_of_ble_eq_true rfl⟩ (Nat.le_of_ble_eq_true rfl) (zz_T0 rfl rfl) (fun Q' h => c_X10_isKey (a1) M h) ?_
  refine r_ifZ_eq 15 dX10_drop_4 (by decide) (fun c1 => ?_) (fun c1 => ?_)
  · have h := zK_neg h c1
    refine r_iconst (v := (-1 : Int32)) dX10_drop_15 (by decide) ?_
    exact r_iret dX10_drop_16 rfl rfl rfl (kR (((-1 : Int32), M)) (zK_some h))
  · have h := zK_pos h c1
    refine r_aload_n dX10_drop_7 rfl ?_
    refine r_iload_n dX10_drop_8 rfl ?_
    refine kV_iw (as := [.int a1]) (st := []) (k := 73) dX10_drop_9 zM_X10_drops zk_X10_241 (zo_X10 (zs_X10 ht)) (by decide) rfl ⟨Nat.le_of_ble_eq_true rfl, Nat.le_of_ble_eq_true rfl⟩ (Nat.le_of_ble_eq_true rfl) (zz_T0 rfl rfl) (fun Q' P' k h => c_X10_drops (a1) M ht h (fun r p => k r.1 r.2 p)) h (fun r3 M4 h => ?_)
    have h := zK_pr h
    refine r_goto 16 dX10_drop_12 (by decide) ?_
    exact r_iret dX10_drop_16 rfl rfl rfl (kR ((r3, M4)) (zK_some h))
set_option maxHeartbeats 4000000 in
set_option maxRecDepth 100000 in
theorem c_X10_drop {G : zzG} {t : Nat} {Q : Option Value → zzMem → Prop} (a1 : Int32) (M : zzMem) (ht : 180 ≤ t)  {P : (Int32 × zzMem) → Prop} (h : zK (f_X10_drop a1 M) P) (kR : ∀ r : (Int32 × zzMem), P r → Q (some (.int r.1)) r.2) : zz_S G m_X10_drop t t [.ref 73, .int a1] M Q :=
  zz_S_of (by decide) (by decide) (Nat.le_of_ble_eq_true rfl) (w_X10_drop_0 a1 M ht h kR)
noncomputable def f_X10_readsNext (a1 : Int32) (a2 : Int32) (M : zzMem) : Option (Bool × zzMem) :=
  (f_X10_here M).bind (fun r1 =>
  if r1 = (nI 44) then
  (zbd (zz_si M 73 7 ((M.1 73 7) + (nI 1))) (fun M3 =>
  (f_X10_readsNumber a1 a2 M3).bind (fun q4 => zpr q4 (fun r5 M6 =>
  some ((r5, M6))))))
  else ((f_X10_wrongAt (nI 1) (M.1 73 7) M).bind (fun q7 => zpr q7 (fun r8 M9 =>
  some ((r8, M9))))))
set_option maxHeartbeats 4000000 in
set_option maxRecDepth 100000 in
theorem w_X10_readsNext_0 {G : zzG} {t : Nat} {Q : Option Value → zzMem → Prop} (a1 : Int32) (a2 : Int32) (M : zzMem) (ht : 180 ≤ t)  {P : (Bool × zzMem) → Prop} (h : zK (f_X10_readsNext a1 a2 M) P) (kR : ∀ r : (Bool × zzMem), P r → Q (some (.int (zb r.1))) r.2) : zz_W G m_X10_readsNext t t t 0 [some (.ref 73), some (.int a1), some (.int a2)] [] M Q := by
  unfold f_X10_readsNext at h
  refine r_aload_n dX10_readsNext_0 rfl ?_
  refine kV_ir (as := []) (st := []) (k := 73) dX10_readsNext_1 zM_X10_here zk_X10_88 (zo_X10 (zs_X10 ht)) (by decide) rfl ⟨Nat.le_of_ble_eq_true rfl, Nat.le_of_ble_eq_true rfl⟩ (Nat.le_of_ble_eq_true rfl) (zz_T0 rfl rfl) (fun Q' P' k h => c_X10_here M ht h k) h (fun r1 h => ?_)
  refine r_bipush (v := (nI 44)) dX10_readsNext_4 (by decide) ?_
  refine r_icmp_eq 19 dX10_readsNext_6 (by decide) (fun c2 => ?_) (fun c2 => ?_)
  · have h := zK_pos h c2
    refine r_aload_n dX10_readsNext_19 rfl ?_
    refine r_aload_n dX10_readsNext_20 rfl ?_
    refine r_getI (k := 73) dX10_readsNext_21 zf_X10_79 (zo_X10 (zs_X10 ht)) (zi_X10_7 (zs_X10 ht)) ?_
    refine r_iconst (v := (nI 1)) dX10_readsNext_24 (by decide) ?_
    refine r_iadd dX10_readsNext_25 ?_
    refine r_putI (k := 73) dX10_readsNext_26 zp_X10_79 (zo_X10 (zs_X10 ht)) (zi_X10_7 (zs_X10 ht)) rfl rfl (fun M3 eM3 => ?_)
    have h := zK_bd h eM3
    refine r_aload_n dX10_readsNext_29 rfl ?_
    refine r_iload_n dX10_readsNext_30 rfl ?_
    refine r_iload_n dX10_readsNext_31 rfl ?_
    refine kV_zw (as := [.int a1, .int a2]) (st := []) (k := 73) dX10_readsNext_32 zM_X10_readsNumber zk_X10_130 (zo_X10 (zs_X10 ht)) (by decide) rfl ⟨Nat.le_of_ble_eq_true rfl, Nat.le_of_ble_eq_true rfl⟩ (Nat.le_of_ble_eq_true rfl) (zz_T0 rfl rfl) (fun Q' P' k h => c_X10_readsNumber (a1) (a2) M3 ht h (fun r p => k r.1 r.2 p)) h (fun r5 M6 h => ?_)
    have h := zK_pr h
    exact r_zret (b := r5) dX10_readsNext_35 rfl rfl rfl (kR ((r5, M6)) (zK_some h))
  · have h := zK_neg h c2
    refine r_aload_n dX10_readsNext_9 rfl ?_
    refine r_iconst (v := (nI 1)) dX10_readsNext_10 (by decide) ?_
    refine r_aload_n dX10_readsNext_11 rfl ?_
    refine r_getI (k := 73) dX10_readsNext_12 zf_X10_79 (zo_X10 (zs_X10 ht)) (zi_X10_7 (zs_X10 ht)) ?_
    refine kV_zw (as := [.int (nI 1), .int (M.1 73 7)]) (st := []) (k := 73) dX10_readsNext_15 zM_X10_wrongAt zk_X10_96 (zo_X10 (zs_X10 ht)) (by decide) rfl ⟨Nat.le_of_ble_eq_true rfl, Nat.le_of_ble_eq_true rfl⟩ (Nat.le_of_ble_eq_true rfl) (zz_T0 rfl rfl) (fun Q' P' k h => c_X10_wrongAt ((nI 1)) ((M.1 73 7)) M ht h (fun r p => k r.1 r.2 p)) h (fun r8 M9 h => ?_)
    have h := zK_pr h
    exact r_zret (b := r8) dX10_readsNext_18 rfl rfl rfl (kR ((r8, M9)) (zK_some h))
set_option maxHeartbeats 4000000 in
set_option maxRecDepth 100000 in
theorem c_X10_readsNext {G : zzG} {t : Nat} {Q : Option Value → zzMem → Prop} (a1 : Int32) (a2 : Int32) (M : zzMem) (ht : 180 ≤ t)  {P : (Bool × zzMem) → Prop} (h : zK (f_X10_readsNext a1 a2 M) P) (kR : ∀ r : (Bool × zzMem), P r → Q (some (.int (zb r.1))) r.2) : zz_S G m_X10_readsNext t t [.ref 73, .int a1, .int a2] M Q :=
  zz_S_of (by decide) (by decide) (Nat.le_of_ble_eq_true rfl) (w_X10_readsNext_0 a1 a2 M ht h kR)
noncomputable def j_X10_readsNumbers_104 (v1 : Int32) (M : zzMem) : Option (Bool × zzMem) :=
  if v1 = (nI 110) then
  ((f_X10_readsNext (nI 1) (nI 60) M).bind (fun q2 => zpr q2 (fun r3 M4 =>
  if r3 = true then
  (zgd (vp_in (M4.1 73 20) 20) (
  zbd (zz_si M4 82 ((M4.1 73 20)).toNatClampNeg (M4.1 73 10)) (fun M7 =>
  (f_X10_readsNext (nI 0) (nI 9999) M7).bind (fun q8 => zpr q8 (fun r9 M10 =>
  if r9 = true then
  (zgd (vp_in (M10.1 73 20) 20) (
  zbd (zz_si M10 83 ((M10.1 73 20)).toNatClampNeg (M10.1 73 10)) (fun M13 =>
  some ((true, M13)))))
  else (some ((false, M10))))))))
  else (some ((false, M4))))))
  else (some ((true, M)))
set_option maxHeartbeats 4000000 in
set_option maxRecDepth 100000 in
theorem w_X10_readsNumbers_104 {G : zzG} {t : Nat} {Q : Option Value → zzMem → Prop} (v1 : Int32) (M : zzMem) (ht : 180 ≤ t)  {P : (Bool × zzMem) → Prop} (h : zK (j_X10_readsNumbers_104 v1 M) P) (kR : ∀ r : (Bool × zzMem), P r → Q (some (.int (zb r.1))) r.2) : zz_W G m_X10_readsNumbers t t t 104 [some (.ref 73), some (.int v1)] [] M Q := by
  unfold j_X10_readsNumbers_104 at h
  refine r_iload_n dX10_readsNumbers_104 rfl ?_
  refine r_bipush (v := (nI 110)) dX10_readsNumbers_105 (by decide) ?_
  refine r_icmp_ne 161 dX10_readsNumbers_107 (by decide) (fun c1 => ?_) (fun c1 => ?_)
  · have h := zK_neg h c1
    refine r_iconst (v := (nI 1)) dX10_readsNumbers_161 (by decide) ?_
    exact r_zret (b := true) dX10_readsNumbers_162 rfl rfl rfl (kR ((true, M)) (zK_some h))
  · have h := zK_pos h c1
    refine r_aload_n dX10_readsNumbers_110 rfl ?_
    refine r_iconst (v := (nI 1)) dX10_readsNumbers_111 (by decide) ?_
    refine r_bipush (v := (nI 60)) dX10_readsNumbers_112 (by decide) ?_
    refine kV_zw (as := [.int (nI 1), .int (nI 60)]) (st := []) (k := 73) dX10_readsNumbers_114 zM_X10_readsNext zk_X10_247 (zo_X10 (zs_X10 ht)) (by decide) rfl ⟨Nat.le_of_ble_eq_true rfl, Nat.le_of_ble_eq_true rfl⟩ (Nat.le_of_ble_eq_true rfl) (zz_T0 rfl rfl) (fun Q' P' k h => c_X10_readsNext ((nI 1)) ((nI 60)) M ht h (fun r p => k r.1 r.2 p)) h (fun r3 M4 h => ?_)
    have h := zK_pr h
    refine r_ifZ_ne 122 dX10_readsNumbers_117 (by decide) (fun c5 => ?_) (fun c5 => ?_)
    · have h := zK_pos h c5
      refine r_aload_n dX10_readsNumbers_122 rfl ?_
      refine r_getR (k := 73) (q := 82) dX10_readsNumbers_123 zf_X10_35 (zo_X10 (zs_X10 ht)) (zr_X10_18 (zs_X10 ht)).1 (zr_X10_18 (zs_X10 ht)).2.1 (zr_X10_18 (zs_X10 ht)).2.2 ?_
      refine r_aload_n dX10_readsNumbers_126 rfl ?_
      refine r_getI (k := 73) dX10_readsNumbers_127 zf_X10_244 (zo_X10 (zs_X10 ht)) (zi_X10_20 (zs_X10 ht)) ?_
      refine r_aload_n dX10_readsNumbers_130 rfl ?_
      refine r_getI (k := 73) dX10_readsNumbers_131 zf_X10_100 (zo_X10 (zs_X10 ht)) (zi_X10_10 (zs_X10 ht)) ?_
      obtain ⟨g6, h⟩ := zK_gd h
      refine r_iast dX10_readsNumbers_134 (za_X10_18 (zs_X10 ht)) g6 (fun M7 eM7 => ?_)
      have h := zK_bd h eM7
      refine r_aload_n dX10_readsNumbers_135 rfl ?_
      refine r_iconst (v := (nI 0)) dX10_readsNumbers_136 (by decide) ?_
      refine r_sipush (v := (nI 9999)) dX10_readsNumbers_137 (by decide) ?_
      refine kV_zw (as := [.int (nI 0), .int (nI 9999)]) (st := []) (k := 73) dX10_readsNumbers_140 zM_X10_readsNext zk_X10_247 (zo_X10 (zs_X10 ht)) (by decide) rfl ⟨Nat.le_of_ble_eq_true rfl, Nat.le_of_ble_eq_true rfl⟩ (Nat.le_of_ble_eq_true rfl) (zz_T0 rfl rfl) (fun Q' P' k h => c_X10_readsNext ((nI 0)) ((nI 9999)) M7 ht h (fun r p => k r.1 r.2 p)) h (fun r9 M10 h => ?_)
      have h := zK_pr h
      refine r_ifZ_ne 148 dX10_readsNumbers_143 (by decide) (fun c11 => ?_) (fun c11 => ?_)
      · have h := zK_pos h c11
        refine r_aload_n dX10_readsNumbers_148 rfl ?_
        refine r_getR (k := 73) (q := 83) dX10_readsNumbers_149 zf_X10_38 (zo_X10 (zs_X10 ht)) (zr_X10_19 (zs_X10 ht)).1 (zr_X10_19 (zs_X10 ht)).2.1 (zr_X10_19 (zs_X10 ht)).2.2 ?_
        refine r_aload_n dX10_readsNumbers_152 rfl ?_
        refine r_getI (k := 73) dX10_readsNumbers_153 zf_X10_244 (zo_X10 (zs_X10 ht)) (zi_X10_20 (zs_X10 ht)) ?_
        refine r_aload_n dX10_readsNumbers_156 rfl ?_
        refine r_getI (k := 73) dX10_readsNumbers_157 zf_X10_100 (zo_X10 (zs_X10 ht)) (zi_X10_10 (zs_X10 ht)) ?_
        obtain ⟨g12, h⟩ := zK_gd h
        refine r_iast dX10_readsNumbers_160 (za_X10_19 (zs_X10 ht)) g12 (fun M13 eM13 => ?_)
        have h := zK_bd h eM13
        refine r_iconst (v := (nI 1)) dX10_readsNumbers_161 (by decide) ?_
        exact r_zret (b := true) dX10_readsNumbers_162 rfl rfl rfl (kR ((true, M13)) (zK_some h))
      · have h := zK_neg h c11
        refine r_iconst (v := (nI 0)) dX10_readsNumbers_146 (by decide) ?_
        exact r_zret (b := false) dX10_readsNumbers_147 rfl rfl rfl (kR ((false, M10)) (zK_some h))
    · have h := zK_neg h c5
      refine r_iconst (v := (nI 0)) dX10_readsNumbers_120 (by decide) ?_
      exact r_zret (b := false) dX10_readsNumbers_121 rfl rfl rfl (kR ((false, M4)) (zK_some h))
noncomputable def j_X10_readsNumbers_51 (v1 : Int32) (ws1 : Bool) (s2 : Int32) (M : zzMem) : Option (Bool × zzMem) :=
  (f_X10_readsNumber (zb ws1) s2 M).bind (fun q1 => zpr q1 (fun r2 M3 =>
  if r2 = true then
  (zgd (vp_in (M3.1 73 20) 20) (
  zbd (zz_si M3 81 ((M3.1 73 20)).toNatClampNeg (M3.1 73 10)) (fun M6 =>
  if v1 = (nI 112) then
  ((f_X10_readsNext (nI 0) (nI 255) M6).bind (fun q8 => zpr q8 (fun r9 M10 =>
  if r9 = true then
  (zgd (vp_in (M10.1 73 20) 20) (
  zbd (zz_si M10 82 ((M10.1 73 20)).toNatClampNeg (M10.1 73 10)) (fun M13 =>
  j_X10_readsNumbers_104 v1 M13)))
  else (some ((false, M10))))))
  else (j_X10_readsNumbers_104 v1 M6))))
  else (some ((false, M3)))))
set_option maxHeartbeats 4000000 in
set_option maxRecDepth 100000 in
theorem w_X10_readsNumbers_51 {G : zzG} {t : Nat} {Q : Option Value → zzMem → Prop} (v1 : Int32) (ws1 : Bool) (s2 : Int32) (M : zzMem) (ht : 180 ≤ t)  {P : (Bool × zzMem) → Prop} (h : zK (j_X10_readsNumbers_51 v1 ws1 s2 M) P) (kR : ∀ r : (Bool × zzMem), P r → Q (some (.int (zb r.1))) r.2) : zz_W G m_X10_readsNumbers t t t 51 [some (.ref 73), some (.int v1)] [.int s2, .int (zb ws1), .ref 73] M Q := by
  unfold j_X10_readsNumbers_51 at h
  refine kV_zw (as := [.int (zb ws1), .int s2]) (st := []) (k := 73) dX10_readsNumbers_51 zM_X10_readsNumber zk_X10_130 (zo_X10 (zs_X10 ht)) (by decide) rfl ⟨Nat.le_of_ble_eq_true rfl, Nat.le_of_ble_eq_true rfl⟩ (Nat.le_of_ble_eq_true rfl) (zz_T0 rfl rfl) (fun Q' P' k h => c_X10_readsNumber ((zb ws1)) (s2) M ht h (fun r p => k r.1 r.2 p)) h (fun r2 M3 h => ?_)
  have h := zK_pr h
  refine r_ifZ_ne 59 dX10_readsNumbers_54 (by decide) (fun c4 => ?_) (fun c4 => ?_)
  · have h := zK_pos h c4
    refine r_aload_n dX10_readsNumbers_59 rfl ?_
    refine r_getR (k := 73) (q := 81) dX10_readsNumbers_60 zf_X10_32 (zo_X10 (zs_X10 ht)) (zr_X10_17 (zs_X10 ht)).1 (zr_X10_17 (zs_X10 ht)).2.1 (zr_X10_17 (zs_X10 ht)).2.2 ?_
    refine r_aload_n dX10_readsNumbers_63 rfl ?_
    refine r_getI (k := 73) dX10_readsNumbers_64 zf_X10_244 (zo_X10 (zs_X10 ht)) (zi_X10_20 (zs_X10 ht)) ?_
    refine r_aload_n dX10_readsNumbers_67 rfl ?_
    refine r_getI (k := 73) dX10_readsNumbers_68 zf_X10_100 (zo_X10 (zs_X10 ht)) (zi_X10_10 (zs_X10 ht)) ?_
    obtain ⟨g5, h⟩ := zK_gd h
    refine r_iast dX10_readsNumbers_71 (za_X10_17 (zs_X10 ht)) g5 (fun M6 eM6 => ?_)
    have h := zK_bd h eM6
    refine r_iload_n dX10_readsNumbers_72 rfl ?_
    refine r_bipush (v := (nI 112)) dX10_readsNumbers_73 (by decide) ?_
    refine r_icmp_ne 104 dX10_readsNumbers_75 (by decide) (fun c7 => ?_) (fun c7 => ?_)
    · have h := zK_neg h c7
      exact w_X10_readsNumbers_104 (v1) M6 ht h kR
    · have h := zK_pos h c7
      refine r_aload_n dX10_readsNumbers_78 rfl ?_
      refine r_iconst (v := (nI 0)) dX10_readsNumbers_79 (by decide) ?_
      refine r_sipush (v := (nI 255)) dX10_readsNumbers_80 (by decide) ?_
      refine kV_zw (as := [.int (nI 0), .int (nI 255)]) (st := []) (k := 73) dX10_readsNumbers_83 zM_X10_readsNext zk_X10_247 (zo_X10 (zs_X10 ht)) (by decide) rfl ⟨Nat.le_of_ble_eq_true rfl, Nat.le_of_ble_eq_true rfl⟩ (Nat.le_of_ble_eq_true rfl) (zz_T0 rfl rfl) (fun Q' P' k h => c_X10_readsNext ((nI 0)) ((nI 255)) M6 ht h (fun r p => k r.1 r.2 p)) h (fun r9 M10 h => ?_)
      have h := zK_pr h
      refine r_ifZ_ne 91 dX10_readsNumbers_86 (by decide) (fun c11 => ?_) (fun c11 => ?_)
      · have h := zK_pos h c11
        refine r_aload_n dX10_readsNumbers_91 rfl ?_
        refine r_getR (k := 73) (q := 82) dX10_readsNumbers_92 zf_X10_35 (zo_X10 (zs_X10 ht)) (zr_X10_18 (zs_X10 ht)).1 (zr_X10_18 (zs_X10 ht)).2.1 (zr_X10_18 (zs_X10 ht)).2.2 ?_
        refine r_aload_n dX10_readsNumbers_95 rfl ?_
        refine r_getI (k := 73) dX10_readsNumbers_96 zf_X10_244 (zo_X10 (zs_X10 ht)) (zi_X10_20 (zs_X10 ht)) ?_
        refine r_aload_n dX10_readsNumbers_99 rfl ?_
        refine r_getI (k := 73) dX10_readsNumbers_100 zf_X10_100 (zo_X10 (zs_X10 ht)) (zi_X10_10 (zs_X10 ht)) ?_
        obtain ⟨g12, h⟩ := zK_gd h
        refine r_iast dX10_readsNumbers_103 (za_X10_18 (zs_X10 ht)) g12 (fun M13 eM13 => ?_)
        have h := zK_bd h eM13
        exact w_X10_readsNumbers_104 (v1) M13 ht h kR
      · have h := zK_neg h c11
        refine r_iconst (v := (nI 0)) dX10_readsNumbers_89 (by decide) ?_
        exact r_zret (b := false) dX10_readsNumbers_90 rfl rfl rfl (kR ((false, M10)) (zK_some h))
  · have h := zK_neg h c4
    refine r_iconst (v := (nI 0)) dX10_readsNumbers_57 (by decide) ?_
    exact r_zret (b := false) dX10_readsNumbers_58 rfl rfl rfl (kR ((false, M3)) (zK_some h))
noncomputable def j_X10_readsNumbers_44 (v1 : Int32) (ws1 : Bool) (M : zzMem) : Option (Bool × zzMem) :=
  j_X10_readsNumbers_51 v1 ws1 (nI 60) M
set_option maxHeartbeats 4000000 in
set_option maxRecDepth 100000 in
theorem w_X10_readsNumbers_44 {G : zzG} {t : Nat} {Q : Option Value → zzMem → Prop} (v1 : Int32) (ws1 : Bool) (M : zzMem) (ht : 180 ≤ t)  {P : (Bool × zzMem) → Prop} (h : zK (j_X10_readsNumbers_44 v1 ws1 M) P) (kR : ∀ r : (Bool × zzMem), P r → Q (some (.int (zb r.1))) r.2) : zz_W G m_X10_readsNumbers t t t 44 [some (.ref 73), some (.int v1)] [.int (zb ws1), .ref 73] M Q := by
  unfold j_X10_readsNumbers_44 at h
  refine r_bipush (v := (nI 60)) dX10_readsNumbers_44 (by decide) ?_
  refine r_goto 51 dX10_readsNumbers_46 (by decide) ?_
  exact w_X10_readsNumbers_51 (v1) (ws1) ((nI 60)) M ht h kR
noncomputable def j_X10_readsNumbers_32 (v1 : Int32) (ws1 : Bool) (M : zzMem) : Option (Bool × zzMem) :=
  if v1 = (nI 120) then
  (j_X10_readsNumbers_44 v1 ws1 M)
  else (if v1 = (nI 121) then
  (j_X10_readsNumbers_44 v1 ws1 M)
  else (j_X10_readsNumbers_51 v1 ws1 (nI 65535) M))
set_option maxHeartbeats 4000000 in
set_option maxRecDepth 100000 in
theorem w_X10_readsNumbers_32 {G : zzG} {t : Nat} {Q : Option Value → zzMem → Prop} (v1 : Int32) (ws1 : Bool) (M : zzMem) (ht : 180 ≤ t)  {P : (Bool × zzMem) → Prop} (h : zK (j_X10_readsNumbers_32 v1 ws1 M) P) (kR : ∀ r : (Bool × zzMem), P r → Q (some (.int (zb r.1))) r.2) : zz_W G m_X10_readsNumbers t t t 32 [some (.ref 73), some (.int v1)] [.int (zb ws1), .ref 73] M Q := by
  unfold j_X10_readsNumbers_32 at h
  refine r_iload_n dX10_readsNumbers_32 rfl ?_
  refine r_bipush (v := (nI 120)) dX10_readsNumbers_33 (by decide) ?_
  refine r_icmp_eq 44 dX10_readsNumbers_35 (by decide) (fun c1 => ?_) (fun c1 => ?_)
  · have h := zK_pos h c1
    exact w_X10_readsNumbers_44 (v1) (ws1) M ht h kR
  · have h := zK_neg h c1
    refine r_iload_n dX10_readsNumbers_38 rfl ?_
    refine r_bipush (v := (nI 121)) dX10_readsNumbers_39 (by decide) ?_
    refine r_icmp_ne 49 dX10_readsNumbers_41 (by decide) (fun c2 => ?_) (fun c2 => ?_)
    · have h := zK_neg h c2
      refine r_ldc (v := (nI 65535)) dX10_readsNumbers_49 zd_X10_129 ?_
      exact w_X10_readsNumbers_51 (v1) (ws1) ((nI 65535)) M ht h kR
    · have h := zK_pos h c2
      exact w_X10_readsNumbers_44 (v1) (ws1) M ht h kR
noncomputable def j_X10_readsNumbers_27 (v1 : Int32) (M : zzMem) : Option (Bool × zzMem) :=
  j_X10_readsNumbers_32 v1 true M
set_option maxHeartbeats 4000000 in
set_option maxRecDepth 100000 in
theorem w_X10_readsNumbers_27 {G : zzG} {t : Nat} {Q : Option Value → zzMem → Prop} (v1 : Int32) (M : zzMem) (ht : 180 ≤ t)  {P : (Bool × zzMem) → Prop} (h : zK (j_X10_readsNumbers_27 v1 M) P) (kR : ∀ r : (Bool × zzMem), P r → Q (some (.int (zb r.1))) r.2) : zz_W G m_X10_readsNumbers t t t 27 [some (.ref 73), some (.int v1)] [.ref 73] M Q := by
  unfold j_X10_readsNumbers_27 at h
  refine r_iconst (v := (nI 1)) dX10_readsNumbers_27 (by decide) ?_
  refine r_goto 32 dX10_readsNumbers_28 (by decide) ?_
  exact w_X10_readsNumbers_32 (v1) (true) M ht h kR
noncomputable def f_X10_readsNumbers (a1 : Int32) (M : zzMem) : Option (Bool × zzMem) :=
  if a1 = (nI 115) then
  (some ((true, M)))
  else (if a1 = (nI 106) then
  (some ((true, M)))
  else (if a1 = (nI 120) then
  (j_X10_readsNumbers_27 a1 M)
  else (if a1 = (nI 121) then
  (j_X10_readsNumbers_27 a1 M)
  else (j_X10_readsNumbers_32 a1 false M))))
set_option maxHeartbeats 4000000 in
set_option maxRecDepth 100000 in
theorem w_X10_readsNumbers_0 {G : zzG} {t : Nat} {Q : Option Value → zzMem → Prop} (a1 : Int32) (M : zzMem) (ht : 180 ≤ t)  {P : (Bool × zzMem) → Prop} (h : zK (f_X10_readsNumbers a1 M) P) (kR : ∀ r : (Bool × zzMem), P r → Q (some (.int (zb r.1))) r.2) : zz_W G m_X10_readsNumbers t t t 0 [some (.ref 73), some (.int a1)] [] M Q := by
  unfold f_X10_readsNumbers at h
  refine r_iload_n dX10_readsNumbers_0 rfl ?_
  refine r_bipush (v := (nI 115)) dX10_readsNumbers_1 (by decide) ?_
  refine r_icmp_eq 12 dX10_readsNumbers_3 (by decide) (fun c1 => ?_) (fun c1 => ?_)
  · have h := zK_pos h c1
    refine r_iconst (v := (nI 1)) dX10_readsNumbers_12 (by decide) ?_
    exact r_zret (b := true) dX10_readsNumbers_13 rfl rfl rfl (kR ((true, M)) (zK_some h))
  · have h := zK_neg h c1
    refine r_iload_n dX10_readsNumbers_6 rfl ?_
    refine r_bipush (v := (nI 106)) dX10_readsNumbers_7 (by decide) ?_
    refine r_icmp_ne 14 dX10_readsNumbers_9 (by decide) (fun c2 => ?_) (fun c2 => ?_)
    · have h := zK_neg h c2
      refine r_aload_n dX10_readsNumbers_14 rfl ?_
      refine r_iload_n dX10_readsNumbers_15 rfl ?_
      refine r_bipush (v := (nI 120)) dX10_readsNumbers_16 (by decide) ?_
      refine r_icmp_eq 27 dX10_readsNumbers_18 (by decide) (fun c3 => ?_) (fun c3 => ?_)
      · have h := zK_pos h c3
        exact w_X10_readsNumbers_27 (a1) M ht h kR
      · have h := zK_neg h c3
        refine r_iload_n dX10_readsNumbers_21 rfl ?_
        refine r_bipush (v := (nI 121)) dX10_readsNumbers_22 (by decide) ?_
        refine r_icmp_ne 31 dX10_readsNumbers_24 (by decide) (fun c4 => ?_) (fun c4 => ?_)
        · have h := zK_neg h c4
          refine r_iconst (v := (nI 0)) dX10_readsNumbers_31 (by decide) ?_
          exact w_X10_readsNumbers_32 (a1) (false) M ht h kR
        · have h := zK_pos h c4
          exact w_X10_readsNumbers_27 (a1) M ht h kR
    · have h := zK_pos h c2
      refine r_iconst (v := (nI 1)) dX10_readsNumbers_12 (by decide) ?_
      exact r_zret (b := true) dX10_readsNumbers_13 rfl rfl rfl (kR ((true, M)) (zK_some h))
set_option maxHeartbeats 4000000 in
set_option maxRecDepth 100000 in
theorem c_X10_readsNumbers {G : zzG} {t : Nat} {Q : Option Value → zzMem → Prop} (a1 : Int32) (M : zzMem) (ht : 180 ≤ t)  {P : (Bool × zzMem) → Prop} (h : zK (f_X10_readsNumbers a1 M) P) (kR : ∀ r : (Bool × zzMem), P r → Q (some (.int (zb r.1))) r.2) : zz_S G m_X10_readsNumbers t t [.ref 73, .int a1] M Q :=
  zz_S_of (by decide) (by decide) (Nat.le_of_ble_eq_true rfl) (w_X10_readsNumbers_0 a1 M ht h kR)
noncomputable def j_X10_readsStep_77 (v1 : Int32) (ws0 : Bool) (M : zzMem) : Option (Bool × zzMem) :=
  if ws0 = true then
  (zbd (zz_si M 73 7 ((M.1 73 7) + (nI 1))) (fun M2 =>
  (f_X10_readsNumbers v1 M2).bind (fun q3 => zpr q3 (fun r4 M5 =>
  if r4 = true then
  (zgd (vp_in (M5.1 73 20) 20) (
  zbd (zz_si M5 80 ((M5.1 73 20)).toNatClampNeg v1) (fun M8 =>
  zbd (zz_si M8 73 20 ((M8.1 73 20) + (nI 1))) (fun M9 =>
  some ((true, M9))))))
  else (some ((false, M5)))))))
  else ((f_X10_wrongAt (nI 1) (M.1 73 7) M).bind (fun q10 => zpr q10 (fun r11 M12 =>
  some ((r11, M12)))))
set_option maxHeartbeats 4000000 in
set_option maxRecDepth 100000 in
theorem w_X10_readsStep_77 {G : zzG} {t : Nat} {Q : Option Value → zzMem → Prop} (v1 : Int32) (ws0 : Bool) (M : zzMem) (ht : 180 ≤ t)  {P : (Bool × zzMem) → Prop} (h : zK (j_X10_readsStep_77 v1 ws0 M) P) (kR : ∀ r : (Bool × zzMem), P r → Q (some (.int (zb r.1))) r.2) : zz_W G m_X10_readsStep t t t 77 [some (.ref 73), some (.int v1), none] [.int (zb ws0)] M Q := by
  unfold j_X10_readsStep_77 at h
  refine s_istore_n ([some (.ref 73), some (.int v1), some (.int (zb ws0))]) dX10_readsStep_77 (by decide) rfl rfl ?_
  refine r_iload_n dX10_readsStep_78 rfl ?_
  refine r_ifZ_ne 92 dX10_readsStep_79 (by decide) (fun c1 => ?_) (fun c1 => ?_)
  · have h := zK_pos h c1
    refine r_aload_n dX10_readsStep_92 rfl ?_
    refine r_aload_n dX10_readsStep_93 rfl ?_
    refine r_getI (k := 73) dX10_readsStep_94 zf_X10_79 (zo_X10 (zs_X10 ht)) (zi_X10_7 (zs_X10 ht)) ?_
    refine r_iconst (v := (nI 1)) dX10_readsStep_97 (by decide) ?_
    refine r_iadd dX10_readsStep_98 ?_
    refine r_putI (k := 73) dX10_readsStep_99 zp_X10_79 (zo_X10 (zs_X10 ht)) (zi_X10_7 (zs_X10 ht)) rfl rfl (fun M2 eM2 => ?_)
    have h := zK_bd h eM2
    refine r_aload_n dX10_readsStep_102 rfl ?_
    refine r_iload_n dX10_readsStep_103 rfl ?_
    refine kV_zw (as := [.int v1]) (st := []) (k := 73) dX10_readsStep_104 zM_X10_readsNumbers zk_X10_250 (zo_X10 (zs_X10 ht)) (by decide) rfl ⟨Nat.le_of_ble_eq_true rfl, Nat.le_of_ble_eq_true rfl⟩ (Nat.le_of_ble_eq_true rfl) (zz_T0 rfl rfl) (fun Q' P' k h => c_X10_readsNumbers (v1) M2 ht h (fun r p => k r.1 r.2 p)) h (fun r4 M5 h => ?_)
    have h := zK_pr h
    refine r_ifZ_ne 112 dX10_readsStep_107 (by decide) (fun c6 => ?_) (fun c6 => ?_)
    · have h := zK_pos h c6
      refine r_aload_n dX10_readsStep_112 rfl ?_
      refine r_getR (k := 73) (q := 80) dX10_readsStep_113 zf_X10_29 (zo_X10 (zs_X10 ht)) (zr_X10_16 (zs_X10 ht)).1 (zr_X10_16 (zs_X10 ht)).2.1 (zr_X10_16 (zs_X10 ht)).2.2 ?_
      refine r_aload_n dX10_readsStep_116 rfl ?_
      refine r_getI (k := 73) dX10_readsStep_117 zf_X10_244 (zo_X10 (zs_X10 ht)) (zi_X10_20 (zs_X10 ht)) ?_
      refine r_iload_n dX10_readsStep_120 rfl ?_
      obtain ⟨g7, h⟩ := zK_gd h
      refine r_iast dX10_readsStep_121 (za_X10_16 (zs_X10 ht)) g7 (fun M8 eM8 => ?_)
      have h := zK_bd h eM8
      refine r_aload_n dX10_readsStep_122 rfl ?_
      refine r_aload_n dX10_readsStep_123 rfl ?_
      refine r_getI (k := 73) dX10_readsStep_124 zf_X10_244 (zo_X10 (zs_X10 ht)) (zi_X10_20 (zs_X10 ht)) ?_
      refine r_iconst (v := (nI 1)) dX10_readsStep_127 (by decide) ?_
      refine r_iadd dX10_readsStep_128 ?_
      refine r_putI (k := 73) dX10_readsStep_129 zp_X10_244 (zo_X10 (zs_X10 ht)) (zi_X10_20 (zs_X10 ht)) rfl rfl (fun M9 eM9 => ?_)
      have h := zK_bd h eM9
      refine r_iconst (v := (nI 1)) dX10_readsStep_132 (by decide) ?_
      exact r_zret (b := true) dX10_readsStep_133 rfl rfl rfl (kR ((true, M9)) (zK_some h))
    · have h := zK_neg h c6
      refine r_iconst (v := (nI 0)) dX10_readsStep_110 (by decide) ?_
      exact r_zret (b := false) dX10_readsStep_111 rfl rfl rfl (kR ((false, M5)) (zK_some h))
  · have h := zK_neg h c1
    refine r_aload_n dX10_readsStep_82 rfl ?_
    refine r_iconst (v := (nI 1)) dX10_readsStep_83 (by decide) ?_
    refine r_aload_n dX10_readsStep_84 rfl ?_
    refine r_getI (k := 73) dX10_readsStep_85 zf_X10_79 (zo_X10 (zs_X10 ht)) (zi_X10_7 (zs_X10 ht)) ?_
    refine kV_zw (as := [.int (nI 1), .int (M.1 73 7)]) (st := []) (k := 73) dX10_readsStep_88 zM_X10_wrongAt zk_X10_96 (zo_X10 (zs_X10 ht)) (by decide) rfl ⟨Nat.le_of_ble_eq_true rfl, Nat.le_of_ble_eq_true rfl⟩ (Nat.le_of_ble_eq_true rfl) (zz_T0 rfl rfl) (fun Q' P' k h => c_X10_wrongAt ((nI 1)) ((M.1 73 7)) M ht h (fun r p => k r.1 r.2 p)) h (fun r11 M12 h => ?_)
    have h := zK_pr h
    exact r_zret (b := r11) dX10_readsStep_91 rfl rfl rfl (kR ((r11, M12)) (zK_some h))
noncomputable def j_X10_readsStep_72 (v1 : Int32) (M : zzMem) : Option (Bool × zzMem) :=
  j_X10_readsStep_77 v1 true M
set_option maxHeartbeats 4000000 in
set_option maxRecDepth 100000 in
theorem w_X10_readsStep_72 {G : zzG} {t : Nat} {Q : Option Value → zzMem → Prop} (v1 : Int32) (M : zzMem) (ht : 180 ≤ t)  {P : (Bool × zzMem) → Prop} (h : zK (j_X10_readsStep_72 v1 M) P) (kR : ∀ r : (Bool × zzMem), P r → Q (some (.int (zb r.1))) r.2) : zz_W G m_X10_readsStep t t t 72 [some (.ref 73), some (.int v1), none] [] M Q := by
  unfold j_X10_readsStep_72 at h
  refine r_iconst (v := (nI 1)) dX10_readsStep_72 (by decide) ?_
  refine r_goto 77 dX10_readsStep_73 (by decide) ?_
  exact w_X10_readsStep_77 (v1) (true) M ht h kR
noncomputable def f_X10_readsStep  (M : zzMem) : Option (Bool × zzMem) :=
  if (M.1 73 20) = (nI 20) then
  ((f_X10_wrongAt (nI 4) (M.1 73 7) M).bind (fun q11 => zpr q11 (fun r12 M13 =>
  some ((r12, M13)))))
  else ((f_X10_here M).bind (fun r2 =>
  if r2 = (nI 112) then
  (j_X10_readsStep_72 r2 M)
  else (if r2 = (nI 100) then
  (j_X10_readsStep_72 r2 M)
  else (if r2 = (nI 103) then
  (j_X10_readsStep_72 r2 M)
  else (if r2 = (nI 115) then
  (j_X10_readsStep_72 r2 M)
  else (if r2 = (nI 106) then
  (j_X10_readsStep_72 r2 M)
  else (if r2 = (nI 110) then
  (j_X10_readsStep_72 r2 M)
  else (if r2 = (nI 120) then
  (j_X10_readsStep_72 r2 M)
  else (if r2 = (nI 121) then
  (j_X10_readsStep_72 r2 M)
  else (j_X10_readsStep_77 r2 false M))))))))))
set_option maxHeartbeats 4000000 in
set_option maxRecDepth 100000 in
theorem w_X10_readsStep_0 {G : zzG} {t : Nat} {Q : Option Value → zzMem → Prop}  (M : zzMem) (ht : 180 ≤ t)  {P : (Bool × zzMem) → Prop} (h : zK (f_X10_readsStep  M) P) (kR : ∀ r : (Bool × zzMem), P r → Q (some (.int (zb r.1))) r.2) : zz_W G m_X10_readsStep t t t 0 [some (.ref 73), none, none] [] M Q := by
  unfold f_X10_readsStep at h
  refine r_aload_n dX10_readsStep_0 rfl ?_
  refine r_getI (k := 73) dX10_readsStep_1 zf_X10_244 (zo_X10 (zs_X10 ht)) (zi_X10_20 (zs_X10 ht)) ?_
  refine r_bipush (v := (nI 20)) dX10_readsStep_4 (by decide) ?_
  refine r_icmp_ne 19 dX10_readsStep_6 (by decide) (fun c1 => ?_) (fun c1 => ?_)
  · have h := zK_neg h c1
    refine r_aload_n dX10_readsStep_19 rfl ?_
    refine kV_ir (as := []) (st := []) (k := 73) dX10_readsStep_20 zM_X10_here zk_X10_88 (zo_X10 (zs_X10 ht)) (by decide) rfl ⟨Nat.le_of_ble_eq_true rfl, Nat.le_of_ble_eq_true rfl⟩ (Nat.le_of_ble_eq_true rfl) (zz_T0 rfl rfl) (fun Q' P' k h => c_X10_here M ht h k) h (fun r2 h => ?_)
    refine s_istore_n ([some (.ref 73), some (.int r2), none]) dX10_readsStep_23 (by decide) rfl rfl ?_
    refine r_iload_n dX10_readsStep_24 rfl ?_
    refine r_bipush (v := (nI 112)) dX10_readsStep_25 (by decide) ?_
    refine r_icmp_eq 72 dX10_readsStep_27 (by decide) (fun c3 => ?_) (fun c3 => ?_)
    · have h := zK_pos h c3
      exact w_X10_readsStep_72 (r2) M ht h kR
    · have h := zK_neg h c3
      refine r_iload_n dX10_readsStep_30 rfl ?_
      refine r_bipush (v := (nI 100)) dX10_readsStep_31 (by decide) ?_
      refine r_icmp_eq 72 dX10_readsStep_33 (by decide) (fun c4 => ?_) (fun c4 => ?_)
      · have h := zK_pos h c4
        exact w_X10_readsStep_72 (r2) M ht h kR
      · have h := zK_neg h c4
        refine r_iload_n dX10_readsStep_36 rfl ?_
        refine r_bipush (v := (nI 103)) dX10_readsStep_37 (by decide) ?_
        refine r_icmp_eq 72 dX10_readsStep_39 (by decide) (fun c5 => ?_) (fun c5 => ?_)
        · have h := zK_pos h c5
          exact w_X10_readsStep_72 (r2) M ht h kR
        · have h := zK_neg h c5
          refine r_iload_n dX10_readsStep_42 rfl ?_
          refine r_bipush (v := (nI 115)) dX10_readsStep_43 (by decide) ?_
          refine r_icmp_eq 72 dX10_readsStep_45 (by decide) (fun c6 => ?_) (fun c6 => ?_)
          · have h := zK_pos h c6
            exact w_X10_readsStep_72 (r2) M ht h kR
          · have h := zK_neg h c6
            refine r_iload_n dX10_readsStep_48 rfl ?_
            refine r_bipush (v := (nI 106)) dX10_readsStep_49 (by decide) ?_
            refine r_icmp_eq 72 dX10_readsStep_51 (by decide) (fun c7 => ?_) (fun c7 => ?_)
            · have h := zK_pos h c7
              exact w_X10_readsStep_72 (r2) M ht h kR
            · have h := zK_neg h c7
              refine r_iload_n dX10_readsStep_54 rfl ?_
              refine r_bipush (v := (nI 110)) dX10_readsStep_55 (by decide) ?_
              refine r_icmp_eq 72 dX10_readsStep_57 (by decide) (fun c8 => ?_) (fun c8 => ?_)
              · have h := zK_pos h c8
                exact w_X10_readsStep_72 (r2) M ht h kR
              · have h := zK_neg h c8
                refine r_iload_n dX10_readsStep_60 rfl ?_
                refine r_bipush (v := (nI 120)) dX10_readsStep_61 (by decide) ?_
                refine r_icmp_eq 72 dX10_readsStep_63 (by decide) (fun c9 => ?_) (fun c9 => ?_)
                · have h := zK_pos h c9
                  exact w_X10_readsStep_72 (r2) M ht h kR
                · have h := zK_neg h c9
                  refine r_iload_n dX10_readsStep_66 rfl ?_
                  refine r_bipush (v := (nI 121)) dX10_readsStep_67 (by decide) ?_
                  refine r_icmp_ne 76 dX10_readsStep_69 (by decide) (fun c10 => ?_) (fun c10 => ?_)
                  · have h := zK_neg h c10
                    refine r_iconst (v := (nI 0)) dX10_readsStep_76 (by decide) ?_
                    exact w_X10_readsStep_77 (r2) (false) M ht h kR
                  · have h := zK_pos h c10
                    exact w_X10_readsStep_72 (r2) M ht h kR
  · have h := zK_pos h c1
    refine r_aload_n dX10_readsStep_9 rfl ?_
    refine r_iconst (v := (nI 4)) dX10_readsStep_10 (by decide) ?_
    refine r_aload_n dX10_readsStep_11 rfl ?_
    refine r_getI (k := 73) dX10_readsStep_12 zf_X10_79 (zo_X10 (zs_X10 ht)) (zi_X10_7 (zs_X10 ht)) ?_
    refine kV_zw (as := [.int (nI 4), .int (M.1 73 7)]) (st := []) (k := 73) dX10_readsStep_15 zM_X10_wrongAt zk_X10_96 (zo_X10 (zs_X10 ht)) (by decide) rfl ⟨Nat.le_of_ble_eq_true rfl, Nat.le_of_ble_eq_true rfl⟩ (Nat.le_of_ble_eq_true rfl) (zz_T0 rfl rfl) (fun Q' P' k h => c_X10_wrongAt ((nI 4)) ((M.1 73 7)) M ht h (fun r p => k r.1 r.2 p)) h (fun r12 M13 h => ?_)
    have h := zK_pr h
    exact r_zret (b := r12) dX10_readsStep_18 rfl rfl rfl (kR ((r12, M13)) (zK_some h))
set_option maxHeartbeats 4000000 in
set_option maxRecDepth 100000 in
theorem c_X10_readsStep {G : zzG} {t : Nat} {Q : Option Value → zzMem → Prop}  (M : zzMem) (ht : 180 ≤ t)  {P : (Bool × zzMem) → Prop} (h : zK (f_X10_readsStep  M) P) (kR : ∀ r : (Bool × zzMem), P r → Q (some (.int (zb r.1))) r.2) : zz_S G m_X10_readsStep t t [.ref 73] M Q :=
  zz_S_of (by decide) (by decide) (Nat.le_of_ble_eq_true rfl) (w_X10_readsStep_0  M ht h kR)
noncomputable def f_X10_lotGoes  (M : zzMem) : Option zzMem :=
  zbd (zz_si M 74 12 (zrm (((nI 25173) * (M.1 74 12)) + (nI 13849)) (nI 65536))) (fun M1 =>
  some M1)
set_option maxHeartbeats 4000000 in
set_option maxRecDepth 100000 in
theorem w_X10_lotGoes_0 {G : zzG} {t : Nat} {Q : Option Value → zzMem → Prop}  (M : zzMem) (ht : 180 ≤ t)  {P : zzMem → Prop} (h : zK (f_X10_lotGoes  M) P) (kR : ∀ r : zzMem, P r → Q none r) : zz_W G m_X10_lotGoes t t t 0 [some (.ref 73)] [] M Q := by
  unfold f_X10_lotGoes at h
  refine r_aload_n dX10_lotGoes_0 rfl ?_
  refine r_getR (k := 73) (q := 74) dX10_lotGoes_1 zf_X10_7 (zo_X10 (zs_X10 ht)) (zr_X10_0 (zs_X10 ht)).1 (zr_X10_0 (zs_X10 ht)).2.1 (zr_X10_0 (zs_X10 ht)).2.2 ?_
  refine r_bipush (v := (nI 12)) dX10_lotGoes_4 (by decide) ?_
  refine r_sipush (v := (nI 25173)) dX10_lotGoes_6 (by decide) ?_
  refine r_aload_n dX10_lotGoes_9 rfl ?_
  refine r_getR (k := 73) (q := 74) dX10_lotGoes_10 zf_X10_7 (zo_X10 (zs_X10 ht)) (zr_X10_0 (zs_X10 ht)).1 (zr_X10_0 (zs_X10 ht)).2.1 (zr_X10_0 (zs_X10 ht)).2.2 ?_
  refine r_bipush (v := (nI 12)) dX10_lotGoes_13 (by decide) ?_
  refine r_ialdc (j := 12) dX10_lotGoes_15 (za_X10_0 (zs_X10 ht)) rfl rfl ?_
  refine r_imul dX10_lotGoes_16 ?_
  refine r_sipush (v := (nI 13849)) dX10_lotGoes_17 (by decide) ?_
  refine r_iadd dX10_lotGoes_20 ?_
  refine r_ldc (v := (nI 65536)) dX10_lotGoes_21 zd_X10_62 ?_
  refine r_irem dX10_lotGoes_23 (by decide) ?_
  refine r_iastc (j := 12) dX10_lotGoes_24 (za_X10_0 (zs_X10 ht)) rfl rfl (fun M1 eM1 => ?_)
  have h := zK_bd h eM1
  exact r_vret dX10_lotGoes_25 rfl rfl rfl (kR (M1) (zK_some h))
set_option maxHeartbeats 4000000 in
set_option maxRecDepth 100000 in
theorem c_X10_lotGoes {G : zzG} {t : Nat} {Q : Option Value → zzMem → Prop}  (M : zzMem) (ht : 180 ≤ t)  {P : zzMem → Prop} (h : zK (f_X10_lotGoes  M) P) (kR : ∀ r : zzMem, P r → Q none r) : zz_S G m_X10_lotGoes t t [.ref 73] M Q :=
  zz_S_of (by decide) (by decide) (Nat.le_of_ble_eq_true rfl) (w_X10_lotGoes_0  M ht h kR)
noncomputable def b_X10_putsDrawn_2 (v1 : Int32) (v2 : Int32) (M : zzMem) : Option ((Int32 × zzMem) ⊕ zzMem) :=
  if v1 ≤ v2 then
  (some ((.inr M)))
  else ((f_X10_lotGoes M).bind (fun M2 =>
  (f_X10_puts (M2.1 74 12) (zrm (M2.1 74 12) (nI 256)) M2).bind (fun q3 => zpr q3 (fun r4 M5 =>
  zbd (v2 + (nI 1)) (fun x6 =>
  some (.inl (x6, M5)))))))
set_option maxHeartbeats 4000000 in
set_option maxRecDepth 100000 in
theorem x_X10_putsDrawn_2 {G : zzG} {t : Nat} {Q : Option Value → zzMem → Prop} (v1 : Int32) (v2 : Int32) (M : zzMem) (ht : 180 ≤ t)  {P : ((Int32 × zzMem) ⊕ zzMem) → Prop} (h : zK (b_X10_putsDrawn_2 v1 v2 M) P) (k2 : ∀ s : (Int32 × zzMem), P (.inl s) → zz_W G m_X10_putsDrawn t t t 2 [some (.ref 73), some (.int v1), some (.int s.1)] [] s.2 Q) (kR : ∀ r : zzMem, P (.inr r) → Q none r) : zz_W G m_X10_putsDrawn t t t 2 [some (.ref 73), some (.int v1), some (.int v2)] [] M Q := by
  unfold b_X10_putsDrawn_2 at h
  refine r_iload_n dX10_putsDrawn_2 rfl ?_
  refine r_iload_n dX10_putsDrawn_3 rfl ?_
  refine r_icmp_ge 40 dX10_putsDrawn_4 (by decide) (fun c1 => ?_) (fun c1 => ?_)
  · have h := zK_pos h c1
    exact r_vret dX10_putsDrawn_40 rfl rfl rfl (kR (M) (zK_some h))
  · have h := zK_neg h c1
    refine r_aload_n dX10_putsDrawn_7 rfl ?_
    refine kV_vw (as := []) (st := []) (k := 73) dX10_putsDrawn_8 zM_X10_lotGoes zk_X10_253 (zo_X10 (zs_X10 ht)) (by decide) rfl ⟨Nat.le_of_ble_eq_true rfl, Nat.le_of_ble_eq_true rfl⟩ (Nat.le_of_ble_eq_true rfl) (zz_T0 rfl rfl) (fun Q' P' k h => c_X10_lotGoes M ht h k) h (fun M2 h => ?_)
    refine r_aload_n dX10_putsDrawn_11 rfl ?_
    refine r_aload_n dX10_putsDrawn_12 rfl ?_
    refine r_getR (k := 73) (q := 74) dX10_putsDrawn_13 zf_X10_7 (zo_X10 (zs_X10 ht)) (zr_X10_0 (zs_X10 ht)).1 (zr_X10_0 (zs_X10 ht)).2.1 (zr_X10_0 (zs_X10 ht)).2.2 ?_
    refine r_bipush (v := (nI 12)) dX10_putsDrawn_16 (by decide) ?_
    refine r_ialdc (j := 12) dX10_putsDrawn_18 (za_X10_0 (zs_X10 ht)) rfl rfl ?_
    refine r_aload_n dX10_putsDrawn_19 rfl ?_
    refine r_getR (k := 73) (q := 74) dX10_putsDrawn_20 zf_X10_7 (zo_X10 (zs_X10 ht)) (zr_X10_0 (zs_X10 ht)).1 (zr_X10_0 (zs_X10 ht)).2.1 (zr_X10_0 (zs_X10 ht)).2.2 ?_
    refine r_bipush (v := (nI 12)) dX10_putsDrawn_23 (by decide) ?_
    refine r_ialdc (j := 12) dX10_putsDrawn_25 (za_X10_0 (zs_X10 ht)) rfl rfl ?_
    refine r_sipush (v := (nI 256)) dX10_putsDrawn_26 (by decide) ?_
    refine r_irem dX10_putsDrawn_29 (by decide) ?_
    refine kV_iw (as := [.int (M2.1 74 12), .int (zrm (M2.1 74 12) (nI 256))]) (st := []) (k := 73) dX10_putsDrawn_30 zM_X10_puts zk_X10_229 (zo_X10 (zs_X10 ht)) (by decide) rfl ⟨Nat.le_of_ble_eq_true rfl, Nat.le_of_ble_eq_true rfl⟩ (Nat.le_of_ble_eq_true rfl) (zz_T0 rfl rfl) (fun Q' P' k h => c_X10_puts ((M2.1 74 12)) ((zrm (M2.1 74 12) (nI 256))) M2 ht h (fun r p => k r.1 r.2 p)) h (fun r4 M5 h => ?_)
    have h := zK_pr h
    refine r_pop dX10_putsDrawn_33 rfl ?_
    refine r_iinc (nI 1) (fun x6 => [some (.ref 73), some (.int v1), some (.int x6)]) dX10_putsDrawn_34 rfl (by decide) (by decide) rfl (fun _ => rfl) (fun x6 ex6 => ?_)
    have h := zK_bd h ex6
    refine r_goto 2 dX10_putsDrawn_37 (by decide) ?_
    exact k2 ((x6, M5)) (zK_some h)
noncomputable def j_X10_putsDrawn_2 (v1 : Int32) (v2 : Int32) (M : zzMem) : Option zzMem :=
  zlp (fun s : (Int32 × zzMem) => b_X10_putsDrawn_2 v1 s.1 s.2) (v2, M)
set_option maxHeartbeats 4000000 in
set_option maxRecDepth 100000 in
theorem w_X10_putsDrawn_2 {G : zzG} {t : Nat} {Q : Option Value → zzMem → Prop} (v1 : Int32) (v2 : Int32) (M : zzMem) (ht : 180 ≤ t)  {P : zzMem → Prop} (h : zK (j_X10_putsDrawn_2 v1 v2 M) P) (kR : ∀ r : zzMem, P r → Q none r) : zz_W G m_X10_putsDrawn t t t 2 [some (.ref 73), some (.int v1), some (.int v2)] [] M Q := by
  unfold j_X10_putsDrawn_2 at h
  exact zK_lp h (fun s : (Int32 × zzMem) => zz_W G m_X10_putsDrawn t t t 2 [some (.ref 73), some (.int v1), some (.int s.1)] [] s.2 Q) (fun s h => x_X10_putsDrawn_2 v1 s.1 s.2 ht h (fun s p => p) kR)
noncomputable def f_X10_putsDrawn (a1 : Int32) (M : zzMem) : Option zzMem :=
  j_X10_putsDrawn_2 a1 (nI 0) M
set_option maxHeartbeats 4000000 in
set_option maxRecDepth 100000 in
theorem w_X10_putsDrawn_0 {G : zzG} {t : Nat} {Q : Option Value → zzMem → Prop} (a1 : Int32) (M : zzMem) (ht : 180 ≤ t)  {P : zzMem → Prop} (h : zK (f_X10_putsDrawn a1 M) P) (kR : ∀ r : zzMem, P r → Q none r) : zz_W G m_X10_putsDrawn t t t 0 [some (.ref 73), some (.int a1), none] [] M Q := by
  unfold f_X10_putsDrawn at h
  refine r_iconst (v := (nI 0)) dX10_putsDrawn_0 (by decide) ?_
  refine s_istore_n ([some (.ref 73), some (.int a1), some (.int (nI 0))]) dX10_putsDrawn_1 (by decide) rfl rfl ?_
  exact w_X10_putsDrawn_2 (a1) ((nI 0)) M ht h kR
set_option maxHeartbeats 4000000 in
set_option maxRecDepth 100000 in
theorem c_X10_putsDrawn {G : zzG} {t : Nat} {Q : Option Value → zzMem → Prop} (a1 : Int32) (M : zzMem) (ht : 180 ≤ t)  {P : zzMem → Prop} (h : zK (f_X10_putsDrawn a1 M) P) (kR : ∀ r : zzMem, P r → Q none r) : zz_S G m_X10_putsDrawn t t [.ref 73, .int a1] M Q :=
  zz_S_of (by decide) (by decide) (Nat.le_of_ble_eq_true rfl) (w_X10_putsDrawn_0 a1 M ht h kR)
noncomputable def f_X10_rankOf (a1 : Int32) (M : zzMem) : Option (Int32 × zzMem) :=
  (f_X10_hashOf a1 M).bind (fun q1 => zpr q1 (fun r2 M3 =>
  zgd (¬ (M3.1 74 0) = 0) (
  (f_X10_reversed (r2 / (M3.1 74 0))).bind (fun r5 =>
  some (((((zrm r2 (M3.1 74 0)) * (nI 65536)) + r5), M3))))))
set_option maxHeartbeats 4000000 in
set_option maxRecDepth 100000 in
theorem w_X10_rankOf_0 {G : zzG} {t : Nat} {Q : Option Value → zzMem → Prop} (a1 : Int32) (M : zzMem) (ht : 180 ≤ t)  {P : (Int32 × zzMem) → Prop} (h : zK (f_X10_rankOf a1 M) P) (kR : ∀ r : (Int32 × zzMem), P r → Q (some (.int r.1)) r.2) : zz_W G m_X10_rankOf t t t 0 [some (.ref 73), some (.int a1), none] [] M Q := by
  unfold f_X10_rankOf at h
  refine r_aload_n dX10_rankOf_0 rfl ?_
  refine r_iload_n dX10_rankOf_1 rfl ?_
  refine kV_iw (as := [.int a1]) (st := []) (k := 73) dX10_rankOf_2 zM_X10_hashOf zk_X10_184 (zo_X10 (zs_X10 ht)) (by decide) rfl ⟨Nat.le_of_ble_eq_true rfl, Nat.le_of_ble_eq_true rfl⟩ (Nat.le_of_ble_eq_true rfl) (zz_T0 rfl rfl) (fun Q' P' k h => c_X10_hashOf (a1) M ht h (fun r p => k r.1 r.2 p)) h (fun r2 M3 h => ?_)
  have h := zK_pr h
  refine s_istore_n ([some (.ref 73), some (.int a1), some (.int r2)]) dX10_rankOf_5 (by decide) rfl rfl ?_
  refine r_iload_n dX10_rankOf_6 rfl ?_
  refine r_aload_n dX10_rankOf_7 rfl ?_
  refine r_getR (k := 73) (q := 74) dX10_rankOf_8 zf_X10_7 (zo_X10 (zs_X10 ht)) (zr_X10_0 (zs_X10 ht)).1 (zr_X10_0 (zs_X10 ht)).2.1 (zr_X10_0 (zs_X10 ht)).2.2 ?_
  refine r_iconst (v := (nI 0)) dX10_rankOf_11 (by decide) ?_
  refine r_ialdc (j := 0) dX10_rankOf_12 (za_X10_0 (zs_X10 ht)) rfl rfl ?_
  obtain ⟨g4, h⟩ := zK_gd h
  refine r_irem dX10_rankOf_13 g4 ?_
  refine r_ldc (v := (nI 65536)) dX10_rankOf_14 zd_X10_62 ?_
  refine r_imul dX10_rankOf_16 ?_
  refine r_iload_n dX10_rankOf_17 rfl ?_
  refine r_aload_n dX10_rankOf_18 rfl ?_
  refine r_getR (k := 73) (q := 74) dX10_rankOf_19 zf_X10_7 (zo_X10 (zs_X10 ht)) (zr_X10_0 (zs_X10 ht)).1 (zr_X10_0 (zs_X10 ht)).2.1 (zr_X10_0 (zs_X10 ht)).2.2 ?_
  refine r_iconst (v := (nI 0)) dX10_rankOf_22 (by decide) ?_
  refine r_ialdc (j := 0) dX10_rankOf_23 (za_X10_0 (zs_X10 ht)) rfl rfl ?_
  refine r_idiv dX10_rankOf_24 g4 ?_
  refine kS_ir (as := [.int (r2 / (M3.1 74 0))]) (st := [.int ((zrm r2 (M3.1 74 0)) * (nI 65536))]) dX10_rankOf_25 zM_X10_reversed zk_X10_149 ⟨Nat.le_of_ble_eq_true rfl, Nat.le_of_ble_eq_true rfl⟩ (Nat.le_of_ble_eq_true rfl) (zz_T0 rfl rfl) (fun Q' P' k h => c_X10_reversed ((r2 / (M3.1 74 0))) M3 h k) h (fun r5 h => ?_)
  refine r_iadd dX10_rankOf_28 ?_
  exact r_iret dX10_rankOf_29 rfl rfl rfl (kR (((((zrm r2 (M3.1 74 0)) * (nI 65536)) + r5), M3)) (zK_some h))
set_option maxHeartbeats 4000000 in
set_option maxRecDepth 100000 in
theorem c_X10_rankOf {G : zzG} {t : Nat} {Q : Option Value → zzMem → Prop} (a1 : Int32) (M : zzMem) (ht : 180 ≤ t)  {P : (Int32 × zzMem) → Prop} (h : zK (f_X10_rankOf a1 M) P) (kR : ∀ r : (Int32 × zzMem), P r → Q (some (.int r.1)) r.2) : zz_S G m_X10_rankOf t t [.ref 73, .int a1] M Q :=
  zz_S_of (by decide) (by decide) (Nat.le_of_ble_eq_true rfl) (w_X10_rankOf_0 a1 M ht h kR)
noncomputable def f_X10_isBehind (a1 : Int32) (a2 : Int32) (a3 : Int32) (a4 : Int32) : Bool :=
  if a1 = a3 then
  (if a2 ≤ a4 then
  false
  else true)
  else (if a1 ≤ a3 then
  false
  else true)
set_option maxHeartbeats 4000000 in
set_option maxRecDepth 100000 in
theorem w_X10_isBehind_0 {G : zzG} {t : Nat} {Q : Option Value → zzMem → Prop} (a1 : Int32) (a2 : Int32) (a3 : Int32) (a4 : Int32) (M : zzMem) (ht : 180 ≤ t)  {P : Bool → Prop} (h : P (f_X10_isBehind a1 a2 a3 a4)) (kR : ∀ r : Bool, P r → Q (some (.int (zb r))) M) : zz_W G m_X10_isBehind t t t 0 [some (.ref 73), some (.int a1), some (.int a2), some (.int a3), some (.int a4)] [] M Q := by
  unfold f_X10_isBehind at h
  refine r_iload_n dX10_isBehind_0 rfl ?_
  refine r_iload_n dX10_isBehind_1 rfl ?_
  refine r_icmp_eq 18 dX10_isBehind_2 (by decide) (fun c1 => ?_) (fun c1 => ?_)
  · have h := zP_pos h c1
    refine r_iload_n dX10_isBehind_18 rfl ?_
    refine r_iload dX10_isBehind_19 rfl ?_
    refine r_icmp_le 28 dX10_isBehind_21 (by decide) (fun c2 => ?_) (fun c2 => ?_)
    · have h := zP_pos h c2
      refine r_iconst (v := (nI 0)) dX10_isBehind_28 (by decide) ?_
      exact r_zret (b := false) dX10_isBehind_29 rfl rfl rfl (kR (false) h)
    · have h := zP_neg h c2
      refine r_iconst (v := (nI 1)) dX10_isBehind_24 (by decide) ?_
      refine r_goto 29 dX10_isBehind_25 (by decide) ?_
      exact r_zret (b := true) dX10_isBehind_29 rfl rfl rfl (kR (true) h)
  · have h := zP_neg h c1
    refine r_iload_n dX10_isBehind_5 rfl ?_
    refine r_iload_n dX10_isBehind_6 rfl ?_
    refine r_icmp_le 14 dX10_isBehind_7 (by decide) (fun c3 => ?_) (fun c3 => ?_)
    · have h := zP_pos h c3
      refine r_iconst (v := (nI 0)) dX10_isBehind_14 (by decide) ?_
      refine r_goto 29 dX10_isBehind_15 (by decide) ?_
      exact r_zret (b := false) dX10_isBehind_29 rfl rfl rfl (kR (false) h)
    · have h := zP_neg h c3
      refine r_iconst (v := (nI 1)) dX10_isBehind_10 (by decide) ?_
      refine r_goto 29 dX10_isBehind_11 (by decide) ?_
      exact r_zret (b := true) dX10_isBehind_29 rfl rfl rfl (kR (true) h)
set_option maxHeartbeats 4000000 in
set_option maxRecDepth 100000 in
theorem c_X10_isBehind {G : zzG} {t : Nat} {Q : Option Value → zzMem → Prop} (a1 : Int32) (a2 : Int32) (a3 : Int32) (a4 : Int32) (M : zzMem) (ht : 180 ≤ t)  (h : Q (some (.int (zb (f_X10_isBehind a1 a2 a3 a4)))) M) : zz_S G m_X10_isBehind t t [.ref 73, .int a1, .int a2, .int a3, .int a4] M Q :=
  zz_S_of (by decide) (by decide) (Nat.le_of_ble_eq_true rfl) (w_X10_isBehind_0 a1 a2 a3 a4 M ht (P := fun r => Q (some (.int (zb r))) M) h (fun r p => p))
noncomputable def j_X10_orders_129 (v1 : Int32) (v2 : Int32) (M : zzMem) : Option ((Int32 × zzMem) ⊕ zzMem) :=
  zgd (vp_in v2 300) (
  zbd (zz_si M 84 (v2).toNatClampNeg v1) (fun M2 =>
  zbd (v1 + (nI 1)) (fun x3 =>
  some (.inl (x3, M2)))))
set_option maxHeartbeats 4000000 in
set_option maxRecDepth 100000 in
theorem w_X10_orders_129 {G : zzG} {t : Nat} {Q : Option Value → zzMem → Prop} (v1 : Int32) (v2 : Int32) (M : zzMem) (ht : 180 ≤ t)  {P : ((Int32 × zzMem) ⊕ zzMem) → Prop} (h : zK (j_X10_orders_129 v1 v2 M) P) (k40 : ∀ s : (Int32 × zzMem), P (.inl s) → zz_W G m_X10_orders t t t 40 [some (.ref 73), some (.int s.1), none] [] s.2 Q) (kR : ∀ r : zzMem, P (.inr r) → Q none r) : zz_W G m_X10_orders t t t 129 [some (.ref 73), some (.int v1), some (.int v2)] [] M Q := by
  unfold j_X10_orders_129 at h
  refine r_aload_n dX10_orders_129 rfl ?_
  refine r_getR (k := 73) (q := 84) dX10_orders_130 zf_X10_41 (zo_X10 (zs_X10 ht)) (zr_X10_21 (zs_X10 ht)).1 (zr_X10_21 (zs_X10 ht)).2.1 (zr_X10_21 (zs_X10 ht)).2.2 ?_
  refine r_iload_n dX10_orders_133 rfl ?_
  refine r_iload_n dX10_orders_134 rfl ?_
  obtain ⟨g1, h⟩ := zK_gd h
  refine r_iast dX10_orders_135 (za_X10_21 (zs_X10 ht)) g1 (fun M2 eM2 => ?_)
  have h := zK_bd h eM2
  refine r_iinc (nI 1) (fun x3 => [some (.ref 73), some (.int x3), some (.int v2)]) dX10_orders_136 rfl (by decide) (by decide) rfl (fun _ => rfl) (fun x3 ex3 => ?_)
  have h := zK_bd h ex3
  refine r_goto 40 dX10_orders_139 (by decide) ?_
  refine zz_mask [2] ?_
  exact k40 ((x3, M2)) (zK_some h)
noncomputable def b_X10_orders_53 (v1 : Int32) (v2 : Int32) (M : zzMem) : Option ((Int32 × zzMem) ⊕ ((Int32 × zzMem) ⊕ zzMem)) :=
  if v2 ≤ 0 then
  (zup (j_X10_orders_129 v1 v2 M))
  else (zgd (vp_in (v2 - (nI 1)) 300) (
  zgd (vp_in (M.1 84 ((v2 - (nI 1))).toNatClampNeg) 300) (
  zgd (vp_in ((nI 40) + (M.1 84 ((v2 - (nI 1))).toNatClampNeg)) 5676) (
  zgd (vp_in v1 300) (
  zgd (vp_in ((nI 40) + v1) 5676) (
  if (f_X10_isBehind (M.1 85 ((M.1 84 ((v2 - (nI 1))).toNatClampNeg)).toNatClampNeg) (M.1 74 (((nI 40) + (M.1 84 ((v2 - (nI 1))).toNatClampNeg))).toNatClampNeg) (M.1 85 (v1).toNatClampNeg) (M.1 74 (((nI 40) + v1)).toNatClampNeg)) = true then
  (zgd (vp_in v2 300) (
  zbd (zz_si M 84 (v2).toNatClampNeg (M.1 84 ((v2 - (nI 1))).toNatClampNeg)) (fun M9 =>
  zbd ((v2 - (nI 1))) (fun x10 =>
  some (.inl (x10, M9))))))
  else (zup (j_X10_orders_129 v1 v2 M))))))))
set_option maxHeartbeats 4000000 in
set_option maxRecDepth 100000 in
theorem x_X10_orders_53 {G : zzG} {t : Nat} {Q : Option Value → zzMem → Prop} (v1 : Int32) (v2 : Int32) (M : zzMem) (ht : 180 ≤ t)  {P : ((Int32 × zzMem) ⊕ ((Int32 × zzMem) ⊕ zzMem)) → Prop} (h : zK (b_X10_orders_53 v1 v2 M) P) (k53 : ∀ s : (Int32 × zzMem), P (.inl s) → zz_W G m_X10_orders t t t 53 [some (.ref 73), some (.int v1), some (.int s.1)] [] s.2 Q) (k40 : ∀ s : (Int32 × zzMem), P (.inr (.inl s)) → zz_W G m_X10_orders t t t 40 [some (.ref 73), some (.int s.1), none] [] s.2 Q) (kR : ∀ r : zzMem, P (.inr (.inr r)) → Q none r) : zz_W G m_X10_orders t t t 53 [some (.ref 73), some (.int v1), some (.int v2)] [] M Q := by
  unfold b_X10_orders_53 at h
  refine r_iload_n dX10_orders_53 rfl ?_
  refine r_if_le 129 dX10_orders_54 (by decide) (fun c1 => ?_) (fun c1 => ?_)
  · have h := zK_pos h c1
    exact w_X10_orders_129 (v1) (v2) M ht (zK_up h) k40 kR
  · have h := zK_neg h c1
    refine r_aload_n dX10_orders_57 rfl ?_
    refine r_aload_n dX10_orders_58 rfl ?_
    refine r_getR (k := 73) (q := 85) dX10_orders_59 zf_X10_44 (zo_X10 (zs_X10 ht)) (zr_X10_22 (zs_X10 ht)).1 (zr_X10_22 (zs_X10 ht)).2.1 (zr_X10_22 (zs_X10 ht)).2.2 ?_
    refine r_aload_n dX10_orders_62 rfl ?_
    refine r_getR (k := 73) (q := 84) dX10_orders_63 zf_X10_41 (zo_X10 (zs_X10 ht)) (zr_X10_21 (zs_X10 ht)).1 (zr_X10_21 (zs_X10 ht)).2.1 (zr_X10_21 (zs_X10 ht)).2.2 ?_
    refine r_iload_n dX10_orders_66 rfl ?_
    refine r_iconst (v := (nI 1)) dX10_orders_67 (by decide) ?_
    refine r_isub dX10_orders_68 ?_
    obtain ⟨g2, h⟩ := zK_gd h
    refine r_iald dX10_orders_69 (za_X10_21 (zs_X10 ht)) g2 ?_
    obtain ⟨g3, h⟩ := zK_gd h
    refine r_iald dX10_orders_70 (za_X10_22 (zs_X10 ht)) g3 ?_
    refine r_aload_n dX10_orders_71 rfl ?_
    refine r_getR (k := 73) (q := 74) dX10_orders_72 zf_X10_7 (zo_X10 (zs_X10 ht)) (zr_X10_0 (zs_X10 ht)).1 (zr_X10_0 (zs_X10 ht)).2.1 (zr_X10_0 (zs_X10 ht)).2.2 ?_
    refine r_bipush (v := (nI 40)) dX10_orders_75 (by decide) ?_
    refine r_aload_n dX10_orders_77 rfl ?_
    refine r_getR (k := 73) (q := 84) dX10_orders_78 zf_X10_41 (zo_X10 (zs_X10 ht)) (zr_X10_21 (zs_X10 ht)).1 (zr_X10_21 (zs_X10 ht)).2.1 (zr_X10_21 (zs_X10 ht)).2.2 ?_
    refine r_iload_n dX10_orders_81 rfl ?_
    refine r_iconst (v := (nI 1)) dX10_orders_82 (by decide) ?_
    refine r_isub dX10_orders_83 ?_
    refine r_iald dX10_orders_84 (za_X10_21 (zs_X10 ht)) g2 ?_
    refine r_iadd dX10_orders_85 ?_
    obtain ⟨g4, h⟩ := zK_gd h
    refine r_iald dX10_orders_86 (za_X10_0 (zs_X10 ht)) g4 ?_
    refine r_aload_n dX10_orders_87 rfl ?_
    refine r_getR (k := 73) (q := 85) dX10_orders_88 zf_X10_44 (zo_X10 (zs_X10 ht)) (zr_X10_22 (zs_X10 ht)).1 (zr_X10_22 (zs_X10 ht)).2.1 (zr_X10_22 (zs_X10 ht)).2.2 ?_
    refine r_iload_n dX10_orders_91 rfl ?_
    obtain ⟨g5, h⟩ := zK_gd h
    refine r_iald dX10_orders_92 (za_X10_22 (zs_X10 ht)) g5 ?_
    refine r_aload_n dX10_orders_93 rfl ?_
    refine r_getR (k := 73) (q := 74) dX10_orders_94 zf_X10_7 (zo_X10 (zs_X10 ht)) (zr_X10_0 (zs_X10 ht)).1 (zr_X10_0 (zs_X10 ht)).2.1 (zr_X10_0 (zs_X10 ht)).2.2 ?_
    refine r_bipush (v := (nI 40)) dX10_orders_97 (by decide) ?_
    refine r_iload_n dX10_orders_99 rfl ?_
    refine r_iadd dX10_orders_100 ?_
    obtain ⟨g6, h⟩ := zK_gd h
    refine r_iald dX10_orders_101 (za_X10_0 (zs_X10 ht)) g6 ?_
    refine tV_zr (v := f_X10_isBehind (M.1 85 ((M.1 84 ((v2 - (nI 1))).toNatClampNeg)).toNatClampNeg) (M.1 74 (((nI 40) + (M.1 84 ((v2 - (nI 1))).toNatClampNeg))).toNatClampNeg) (M.1 85 (v1).toNatClampNeg) (M.1 74 (((nI 40) + v1)).toNatClampNeg)) (as := [.int (M.1 85 ((M.1 84 ((v2 - (nI 1))).toNatClampNeg)).toNatClampNeg), .int (M.1 74 (((nI 40) + (M.1 84 ((v2 - (nI 1))).toNatClampNeg))).toNatClampNeg), .int (M.1 85 (v1).toNatClampNeg), .int (M.1 74 (((nI 40) + v1)).toNatClampNeg)]) (st := []) (k := 73) dX10_orders_102 zM_X10_isBehind zk_X10_280 (zo_X10 (zs_X10 ht)) (by decide) rfl ⟨Nat.le_of_ble_eq_true rfl, Nat.le_of_ble_eq_true rfl⟩ (Nat.le_of_ble_eq_true rfl) (zz_T0 rfl rfl) (fun Q' h => c_X10_isBehind ((M.1 85 ((M.1 84 ((v2 - (nI 1))).toNatClampNeg)).toNatClampNeg)) ((M.1 74 (((nI 40) + (M.1 84 ((v2 - (nI 1))).toNatClampNeg))).toNatClampNeg)) ((M.1 85 (v1).toNatClampNeg)) ((M.1 74 (((nI 40) + v1)).toNatClampNeg)) M ht h) ?_
    refine r_ifZ_eq 129 dX10_orders_105 (by decide) (fun c7 => ?_) (fun c7 => ?_)
    · have h := zK_neg h c7
      exact w_X10_orders_129 (v1) (v2) M ht (zK_up h) k40 kR
    · have h := zK_pos h c7
      refine r_aload_n dX10_orders_108 rfl ?_
      refine r_getR (k := 73) (q := 84) dX10_orders_109 zf_X10_41 (zo_X10 (zs_X10 ht)) (zr_X10_21 (zs_X10 ht)).1 (zr_X10_21 (zs_X10 ht)).2.1 (zr_X10_21 (zs_X10 ht)).2.2 ?_
      refine r_iload_n dX10_orders_112 rfl ?_
      refine r_aload_n dX10_orders_113 rfl ?_
      refine r_getR (k := 73) (q := 84) dX10_orders_114 zf_X10_41 (zo_X10 (zs_X10 ht)) (zr_X10_21 (zs_X10 ht)).1 (zr_X10_21 (zs_X10 ht)).2.1 (zr_X10_21 (zs_X10 ht)).2.2 ?_
      refine r_iload_n dX10_orders_117 rfl ?_
      refine r_iconst (v := (nI 1)) dX10_orders_118 (by decide) ?_
      refine r_isub dX10_orders_119 ?_
      refine r_iald dX10_orders_120 (za_X10_21 (zs_X10 ht)) g2 ?_
      obtain ⟨g8, h⟩ := zK_gd h
      refine r_iast dX10_orders_121 (za_X10_21 (zs_X10 ht)) g8 (fun M9 eM9 => ?_)
      have h := zK_bd h eM9
      refine r_iload_n dX10_orders_122 rfl ?_
      refine r_iconst (v := (nI 1)) dX10_orders_123 (by decide) ?_
      refine r_isub dX10_orders_124 ?_
      refine r_istore_n (fun x10 => [some (.ref 73), some (.int v1), some (.int x10)]) dX10_orders_125 (by decide) rfl (fun _ => rfl) (fun x10 ex10 => ?_)
      have h := zK_bd h ex10
      refine r_goto 53 dX10_orders_126 (by decide) ?_
      exact k53 ((x10, M9)) (zK_some h)
noncomputable def j_X10_orders_53 (v1 : Int32) (v2 : Int32) (M : zzMem) : Option ((Int32 × zzMem) ⊕ zzMem) :=
  zlp (fun s : (Int32 × zzMem) => b_X10_orders_53 v1 s.1 s.2) (v2, M)
set_option maxHeartbeats 4000000 in
set_option maxRecDepth 100000 in
theorem w_X10_orders_53 {G : zzG} {t : Nat} {Q : Option Value → zzMem → Prop} (v1 : Int32) (v2 : Int32) (M : zzMem) (ht : 180 ≤ t)  {P : ((Int32 × zzMem) ⊕ zzMem) → Prop} (h : zK (j_X10_orders_53 v1 v2 M) P) (k40 : ∀ s : (Int32 × zzMem), P (.inl s) → zz_W G m_X10_orders t t t 40 [some (.ref 73), some (.int s.1), none] [] s.2 Q) (kR : ∀ r : zzMem, P (.inr r) → Q none r) : zz_W G m_X10_orders t t t 53 [some (.ref 73), some (.int v1), some (.int v2)] [] M Q := by
  unfold j_X10_orders_53 at h
  exact zK_lp h (fun s : (Int32 × zzMem) => zz_W G m_X10_orders t t t 53 [some (.ref 73), some (.int v1), some (.int s.1)] [] s.2 Q) (fun s h => x_X10_orders_53 v1 s.1 s.2 ht h (fun s p => p) k40 kR)
noncomputable def b_X10_orders_40 (v1 : Int32) (M : zzMem) : Option ((Int32 × zzMem) ⊕ zzMem) :=
  if (M.1 74 7) ≤ v1 then
  (some ((.inr M)))
  else (j_X10_orders_53 v1 v1 M)
set_option maxHeartbeats 4000000 in
set_option maxRecDepth 100000 in
theorem x_X10_orders_40 {G : zzG} {t : Nat} {Q : Option Value → zzMem → Prop} (v1 : Int32) (M : zzMem) (ht : 180 ≤ t)  {P : ((Int32 × zzMem) ⊕ zzMem) → Prop} (h : zK (b_X10_orders_40 v1 M) P) (k40 : ∀ s : (Int32 × zzMem), P (.inl s) → zz_W G m_X10_orders t t t 40 [some (.ref 73), some (.int s.1), none] [] s.2 Q) (kR : ∀ r : zzMem, P (.inr r) → Q none r) : zz_W G m_X10_orders t t t 40 [some (.ref 73), some (.int v1), none] [] M Q := by
  unfold b_X10_orders_40 at h
  refine r_iload_n dX10_orders_40 rfl ?_
  refine r_aload_n dX10_orders_41 rfl ?_
  refine r_getR (k := 73) (q := 74) dX10_orders_42 zf_X10_7 (zo_X10 (zs_X10 ht)) (zr_X10_0 (zs_X10 ht)).1 (zr_X10_0 (zs_X10 ht)).2.1 (zr_X10_0 (zs_X10 ht)).2.2 ?_
  refine r_bipush (v := (nI 7)) dX10_orders_45 (by decide) ?_
  refine r_ialdc (j := 7) dX10_orders_47 (za_X10_0 (zs_X10 ht)) rfl rfl ?_
  refine r_icmp_ge 142 dX10_orders_48 (by decide) (fun c1 => ?_) (fun c1 => ?_)
  · have h := zK_pos h c1
    exact r_vret dX10_orders_142 rfl rfl rfl (kR (M) (zK_some h))
  · have h := zK_neg h c1
    refine r_iload_n dX10_orders_51 rfl ?_
    refine s_istore_n ([some (.ref 73), some (.int v1), some (.int v1)]) dX10_orders_52 (by decide) rfl rfl ?_
    exact w_X10_orders_53 (v1) (v1) M ht h k40 kR
noncomputable def j_X10_orders_40 (v1 : Int32) (M : zzMem) : Option zzMem :=
  zlp (fun s : (Int32 × zzMem) => b_X10_orders_40 s.1 s.2) (v1, M)
set_option maxHeartbeats 4000000 in
set_option maxRecDepth 100000 in
theorem w_X10_orders_40 {G : zzG} {t : Nat} {Q : Option Value → zzMem → Prop} (v1 : Int32) (M : zzMem) (ht : 180 ≤ t)  {P : zzMem → Prop} (h : zK (j_X10_orders_40 v1 M) P) (kR : ∀ r : zzMem, P r → Q none r) : zz_W G m_X10_orders t t t 40 [some (.ref 73), some (.int v1), none] [] M Q := by
  unfold j_X10_orders_40 at h
  exact zK_lp h (fun s : (Int32 × zzMem) => zz_W G m_X10_orders t t t 40 [some (.ref 73), some (.int s.1), none] [] s.2 Q) (fun s h => x_X10_orders_40 s.1 s.2 ht h (fun s p => p) kR)
noncomputable def b_X10_orders_2 (v1 : Int32) (M : zzMem) : Option ((Int32 × zzMem) ⊕ zzMem) :=
  if (M.1 74 7) ≤ v1 then
  (zup (j_X10_orders_40 (nI 0) M))
  else (zgd (vp_in ((nI 40) + v1) 5676) (
  (f_X10_rankOf (M.1 74 (((nI 40) + v1)).toNatClampNeg) M).bind (fun q3 => zpr q3 (fun r4 M5 =>
  zgd (vp_in v1 300) (
  zbd (zz_si M5 85 (v1).toNatClampNeg r4) (fun M7 =>
  zbd (v1 + (nI 1)) (fun x8 =>
  some (.inl (x8, M7)))))))))
set_option maxHeartbeats 4000000 in
set_option maxRecDepth 100000 in
theorem x_X10_orders_2 {G : zzG} {t : Nat} {Q : Option Value → zzMem → Prop} (v1 : Int32) (M : zzMem) (ht : 180 ≤ t)  {P : ((Int32 × zzMem) ⊕ zzMem) → Prop} (h : zK (b_X10_orders_2 v1 M) P) (k2 : ∀ s : (Int32 × zzMem), P (.inl s) → zz_W G m_X10_orders t t t 2 [some (.ref 73), some (.int s.1), none] [] s.2 Q) (kR : ∀ r : zzMem, P (.inr r) → Q none r) : zz_W G m_X10_orders t t t 2 [some (.ref 73), some (.int v1), none] [] M Q := by
  unfold b_X10_orders_2 at h
  refine r_iload_n dX10_orders_2 rfl ?_
  refine r_aload_n dX10_orders_3 rfl ?_
  refine r_getR (k := 73) (q := 74) dX10_orders_4 zf_X10_7 (zo_X10 (zs_X10 ht)) (zr_X10_0 (zs_X10 ht)).1 (zr_X10_0 (zs_X10 ht)).2.1 (zr_X10_0 (zs_X10 ht)).2.2 ?_
  refine r_bipush (v := (nI 7)) dX10_orders_7 (by decide) ?_
  refine r_ialdc (j := 7) dX10_orders_9 (za_X10_0 (zs_X10 ht)) rfl rfl ?_
  refine r_icmp_ge 38 dX10_orders_10 (by decide) (fun c1 => ?_) (fun c1 => ?_)
  · have h := zK_pos h c1
    refine r_iconst (v := (nI 0)) dX10_orders_38 (by decide) ?_
    refine s_istore_n ([some (.ref 73), some (.int (nI 0)), none]) dX10_orders_39 (by decide) rfl rfl ?_
    exact w_X10_orders_40 ((nI 0)) M ht (zK_up h) kR
  · have h := zK_neg h c1
    refine r_aload_n dX10_orders_13 rfl ?_
    refine r_getR (k := 73) (q := 85) dX10_orders_14 zf_X10_44 (zo_X10 (zs_X10 ht)) (zr_X10_22 (zs_X10 ht)).1 (zr_X10_22 (zs_X10 ht)).2.1 (zr_X10_22 (zs_X10 ht)).2.2 ?_
    refine r_iload_n dX10_orders_17 rfl ?_
    refine r_aload_n dX10_orders_18 rfl ?_
    refine r_aload_n dX10_orders_19 rfl ?_
    refine r_getR (k := 73) (q := 74) dX10_orders_20 zf_X10_7 (zo_X10 (zs_X10 ht)) (zr_X10_0 (zs_X10 ht)).1 (zr_X10_0 (zs_X10 ht)).2.1 (zr_X10_0 (zs_X10 ht)).2.2 ?_
    refine r_bipush (v := (nI 40)) dX10_orders_23 (by decide) ?_
    refine r_iload_n dX10_orders_25 rfl ?_
    refine r_iadd dX10_orders_26 ?_
    obtain ⟨g2, h⟩ := zK_gd h
    refine r_iald dX10_orders_27 (za_X10_0 (zs_X10 ht)) g2 ?_
    refine kV_iw (as := [.int (M.1 74 (((nI 40) + v1)).toNatClampNeg)]) (st := [.int v1, .ref 85]) (k := 73) dX10_orders_28 zM_X10_rankOf zk_X10_277 (zo_X10 (zs_X10 ht)) (by decide) rfl ⟨Nat.le_of_ble_eq_true rfl, Nat.le_of_ble_eq_true rfl⟩ (Nat.le_of_ble_eq_true rfl) (zz_T0 rfl rfl) (fun Q' P' k h => c_X10_rankOf ((M.1 74 (((nI 40) + v1)).toNatClampNeg)) M ht h (fun r p => k r.1 r.2 p)) h (fun r4 M5 h => ?_)
    have h := zK_pr h
    obtain ⟨g6, h⟩ := zK_gd h
    refine r_iast dX10_orders_31 (za_X10_22 (zs_X10 ht)) g6 (fun M7 eM7 => ?_)
    have h := zK_bd h eM7
    refine r_iinc (nI 1) (fun x8 => [some (.ref 73), some (.int x8), none]) dX10_orders_32 rfl (by decide) (by decide) rfl (fun _ => rfl) (fun x8 ex8 => ?_)
    have h := zK_bd h ex8
    refine r_goto 2 dX10_orders_35 (by decide) ?_
    exact k2 ((x8, M7)) (zK_some h)
noncomputable def j_X10_orders_2 (v1 : Int32) (M : zzMem) : Option zzMem :=
  zlp (fun s : (Int32 × zzMem) => b_X10_orders_2 s.1 s.2) (v1, M)
set_option maxHeartbeats 4000000 in
set_option maxRecDepth 100000 in
theorem w_X10_orders_2 {G : zzG} {t : Nat} {Q : Option Value → zzMem → Prop} (v1 : Int32) (M : zzMem) (ht : 180 ≤ t)  {P : zzMem → Prop} (h : zK (j_X10_orders_2 v1 M) P) (kR : ∀ r : zzMem, P r → Q none r) : zz_W G m_X10_orders t t t 2 [some (.ref 73), some (.int v1), none] [] M Q := by
  unfold j_X10_orders_2 at h
  exact zK_lp h (fun s : (Int32 × zzMem) => zz_W G m_X10_orders t t t 2 [some (.ref 73), some (.int s.1), none] [] s.2 Q) (fun s h => x_X10_orders_2 s.1 s.2 ht h (fun s p => p) kR)
noncomputable def f_X10_orders  (M : zzMem) : Option zzMem :=
  j_X10_orders_2 (nI 0) M
set_option maxHeartbeats 4000000 in
set_option maxRecDepth 100000 in
theorem w_X10_orders_0 {G : zzG} {t : Nat} {Q : Option Value → zzMem → Prop}  (M : zzMem) (ht : 180 ≤ t)  {P : zzMem → Prop} (h : zK (f_X10_orders  M) P) (kR : ∀ r : zzMem, P r → Q none r) : zz_W G m_X10_orders t t t 0 [some (.ref 73), none, none] [] M Q := by
  unfold f_X10_orders at h
  refine r_iconst (v := (nI 0)) dX10_orders_0 (by decide) ?_
  refine s_istore_n ([some (.ref 73), some (.int (nI 0)), none]) dX10_orders_1 (by decide) rfl rfl ?_
  exact w_X10_orders_2 ((nI 0)) M ht h kR
set_option maxHeartbeats 4000000 in
set_option maxRecDepth 100000 in
theorem c_X10_orders {G : zzG} {t : Nat} {Q : Option Value → zzMem → Prop}  (M : zzMem) (ht : 180 ≤ t)  {P : zzMem → Prop} (h : zK (f_X10_orders  M) P) (kR : ∀ r : zzMem, P r → Q none r) : zz_S G m_X10_orders t t [.ref 73] M Q :=
  zz_S_of (by decide) (by decide) (Nat.le_of_ble_eq_true rfl) (w_X10_orders_0  M ht h kR)
noncomputable def b_X10_dropsDrawn_2 (v1 : Int32) (v2 : Int32) (M : zzMem) : Option ((Int32 × zzMem) ⊕ zzMem) :=
  if v1 ≤ v2 then
  (some ((.inr M)))
  else ((f_X10_lotGoes M).bind (fun M2 =>
  if (M2.1 74 7) = 0 then
  (zbd (v2 + (nI 1)) (fun x12 =>
  some (.inl (x12, M2))))
  else ((f_X10_orders M2).bind (fun M4 =>
  zgd (¬ (M4.1 74 7) = 0) (
  zgd (vp_in (zrm (M4.1 74 12) (M4.1 74 7)) 300) (
  zgd (vp_in ((nI 40) + (M4.1 84 ((zrm (M4.1 74 12) (M4.1 74 7))).toNatClampNeg)) 5676) (
  (f_X10_drops (M4.1 74 (((nI 40) + (M4.1 84 ((zrm (M4.1 74 12) (M4.1 74 7))).toNatClampNeg))).toNatClampNeg) M4).bind (fun q8 => zpr q8 (fun r9 M10 =>
  zbd (v2 + (nI 1)) (fun x11 =>
  some (.inl (x11, M10))))))))))))
set_option maxHeartbeats 4000000 in
set_option maxRecDepth 100000 in
theorem x_X10_dropsDrawn_2 {G : zzG} {t : Nat} {Q : Option Value → zzMem → Prop} (v1 : Int32) (v2 : Int32) (M : zzMem) (ht : 180 ≤ t)  {P : ((Int32 × zzMem) ⊕ zzMem) → Prop} (h : zK (b_X10_dropsDrawn_2 v1 v2 M) P) (k2 : ∀ s : (Int32 × zzMem), P (.inl s) → zz_W G m_X10_dropsDrawn t t t 2 [some (.ref 73), some (.int v1), some (.int s.1)] [] s.2 Q) (kR : ∀ r : zzMem, P (.inr r) → Q none r) : zz_W G m_X10_dropsDrawn t t t 2 [some (.ref 73), some (.int v1), some (.int v2)] [] M Q := by
  unfold b_X10_dropsDrawn_2 at h
  refine r_iload_n dX10_dropsDrawn_2 rfl ?_
  refine r_iload_n dX10_dropsDrawn_3 rfl ?_
  refine r_icmp_ge 67 dX10_dropsDrawn_4 (by decide) (fun c1 => ?_) (fun c1 => ?_)
  · have h := zK_pos h c1
    exact r_vret dX10_dropsDrawn_67 rfl rfl rfl (kR (M) (zK_some h))
  · have h := zK_neg h c1
    refine r_aload_n dX10_dropsDrawn_7 rfl ?_
    refine kV_vw (as := []) (st := []) (k := 73) dX10_dropsDrawn_8 zM_X10_lotGoes zk_X10_253 (zo_X10 (zs_X10 ht)) (by decide) rfl ⟨Nat.le_of_ble_eq_true rfl, Nat.le_of_ble_eq_true rfl⟩ (Nat.le_of_ble_eq_true rfl) (zz_T0 rfl rfl) (fun Q' P' k h => c_X10_lotGoes M ht h k) h (fun M2 h => ?_)
    refine r_aload_n dX10_dropsDrawn_11 rfl ?_
    refine r_getR (k := 73) (q := 74) dX10_dropsDrawn_12 zf_X10_7 (zo_X10 (zs_X10 ht)) (zr_X10_0 (zs_X10 ht)).1 (zr_X10_0 (zs_X10 ht)).2.1 (zr_X10_0 (zs_X10 ht)).2.2 ?_
    refine r_bipush (v := (nI 7)) dX10_dropsDrawn_15 (by decide) ?_
    refine r_ialdc (j := 7) dX10_dropsDrawn_17 (za_X10_0 (zs_X10 ht)) rfl rfl ?_
    refine r_if_ne 24 dX10_dropsDrawn_18 (by decide) (fun c3 => ?_) (fun c3 => ?_)
    · have h := zK_neg h c3
      refine r_aload_n dX10_dropsDrawn_24 rfl ?_
      refine kV_vw (as := []) (st := []) (k := 73) dX10_dropsDrawn_25 zM_X10_orders zk_X10_256 (zo_X10 (zs_X10 ht)) (by decide) rfl ⟨Nat.le_of_ble_eq_true rfl, Nat.le_of_ble_eq_true rfl⟩ (Nat.le_of_ble_eq_true rfl) (zz_T0 rfl rfl) (fun Q' P' k h => c_X10_orders M2 ht h k) h (fun M4 h => ?_)
      refine r_aload_n dX10_dropsDrawn_28 rfl ?_
      refine r_aload_n dX10_dropsDrawn_29 rfl ?_
      refine r_getR (k := 73) (q := 74) dX10_dropsDrawn_30 zf_X10_7 (zo_X10 (zs_X10 ht)) (zr_X10_0 (zs_X10 ht)).1 (zr_X10_0 (zs_X10 ht)).2.1 (zr_X10_0 (zs_X10 ht)).2.2 ?_
      refine r_bipush (v := (nI 40)) dX10_dropsDrawn_33 (by decide) ?_
      refine r_aload_n dX10_dropsDrawn_35 rfl ?_
      refine r_getR (k := 73) (q := 84) dX10_dropsDrawn_36 zf_X10_41 (zo_X10 (zs_X10 ht)) (zr_X10_21 (zs_X10 ht)).1 (zr_X10_21 (zs_X10 ht)).2.1 (zr_X10_21 (zs_X10 ht)).2.2 ?_
      refine r_aload_n dX10_dropsDrawn_39 rfl ?_
      refine r_getR (k := 73) (q := 74) dX10_dropsDrawn_40 zf_X10_7 (zo_X10 (zs_X10 ht)) (zr_X10_0 (zs_X10 ht)).1 (zr_X10_0 (zs_X10 ht)).2.1 (zr_X10_0 (zs_X10 ht)).2.2 ?_
      refine r_bipush (v := (nI 12)) dX10_dropsDrawn_43 (by decide) ?_
      refine r_ialdc (j := 12) dX10_dropsDrawn_45 (za_X10_0 (zs_X10 ht)) rfl rfl ?_
      refine r_aload_n dX10_dropsDrawn_46 rfl ?_
      refine r_getR (k := 73) (q := 74) dX10_dropsDrawn_47 zf_X10_7 (zo_X10 (zs_X10 ht)) (zr_X10_0 (zs_X10 ht)).1 (zr_X10_0 (zs_X10 ht)).2.1 (zr_X10_0 (zs_X10 ht)).2.2 ?_
      refine r_bipush (v := (nI 7)) dX10_dropsDrawn_50 (by decide) ?_
      refine r_ialdc (j := 7) dX10_dropsDrawn_52 (za_X10_0 (zs_X10 ht)) rfl rfl ?_
      obtain ⟨g5, h⟩ := zK_gd h
      refine r_irem dX10_dropsDrawn_53 g5 ?_
      obtain ⟨g6, h⟩ := zK_gd h
      refine r_iald dX10_dropsDrawn_54 (za_X10_21 (zs_X10 ht)) g6 ?_
      refine r_iadd dX10_dropsDrawn_55 ?_
      obtain ⟨g7, h⟩ := zK_gd h
      refine r_iald dX10_dropsDrawn_56 (za_X10_0 (zs_X10 ht)) g7 ?_
      refine kV_iw (as := [.int (M4.1 74 (((nI 40) + (M4.1 84 ((zrm (M4.1 74 12) (M4.1 74 7))).toNatClampNeg))).toNatClampNeg)]) (st := []) (k := 73) dX10_dropsDrawn_57 zM_X10_drops zk_X10_241 (zo_X10 (zs_X10 ht)) (by decide) rfl ⟨Nat.le_of_ble_eq_true rfl, Nat.le_of_ble_eq_true rfl⟩ (Nat.le_of_ble_eq_true rfl) (zz_T0 rfl rfl) (fun Q' P' k h => c_X10_drops ((M4.1 74 (((nI 40) + (M4.1 84 ((zrm (M4.1 74 12) (M4.1 74 7))).toNatClampNeg))).toNatClampNeg)) M4 ht h (fun r p => k r.1 r.2 p)) h (fun r9 M10 h => ?_)
      have h := zK_pr h
      refine r_pop dX10_dropsDrawn_60 rfl ?_
      refine r_iinc (nI 1) (fun x11 => [some (.ref 73), some (.int v1), some (.int x11)]) dX10_dropsDrawn_61 rfl (by decide) (by decide) rfl (fun _ => rfl) (fun x11 ex11 => ?_)
      have h := zK_bd h ex11
      refine r_goto 2 dX10_dropsDrawn_64 (by decide) ?_
      exact k2 ((x11, M10)) (zK_some h)
    · have h := zK_pos h c3
      refine r_goto 61 dX10_dropsDrawn_21 (by decide) ?_
      refine r_iinc (nI 1) (fun x12 => [some (.ref 73), some (.int v1), some (.int x12)]) dX10_dropsDrawn_61 rfl (by decide) (by decide) rfl (fun _ => rfl) (fun x12 ex12 => ?_)
      have h := zK_bd h ex12
      refine r_goto 2 dX10_dropsDrawn_64 (by decide) ?_
      exact k2 ((x12, M2)) (zK_some h)
noncomputable def j_X10_dropsDrawn_2 (v1 : Int32) (v2 : Int32) (M : zzMem) : Option zzMem :=
  zlp (fun s : (Int32 × zzMem) => b_X10_dropsDrawn_2 v1 s.1 s.2) (v2, M)
set_option maxHeartbeats 4000000 in
set_option maxRecDepth 100000 in
theorem w_X10_dropsDrawn_2 {G : zzG} {t : Nat} {Q : Option Value → zzMem → Prop} (v1 : Int32) (v2 : Int32) (M : zzMem) (ht : 180 ≤ t)  {P : zzMem → Prop} (h : zK (j_X10_dropsDrawn_2 v1 v2 M) P) (kR : ∀ r : zzMem, P r → Q none r) : zz_W G m_X10_dropsDrawn t t t 2 [some (.ref 73), some (.int v1), some (.int v2)] [] M Q := by
  unfold j_X10_dropsDrawn_2 at h
  exact zK_lp h (fun s : (Int32 × zzMem) => zz_W G m_X10_dropsDrawn t t t 2 [some (.ref 73), some (.int v1), some (.int s.1)] [] s.2 Q) (fun s h => x_X10_dropsDrawn_2 v1 s.1 s.2 ht h (fun s p => p) kR)
noncomputable def f_X10_dropsDrawn (a1 : Int32) (M : zzMem) : Option zzMem :=
  j_X10_dropsDrawn_2 a1 (nI 0) M
set_option maxHeartbeats 4000000 in
set_option maxRecDepth 100000 in
theorem w_X10_dropsDrawn_0 {G : zzG} {t : Nat} {Q : Option Value → zzMem → Prop} (a1 : Int32) (M : zzMem) (ht : 180 ≤ t)  {P : zzMem → Prop} (h : zK (f_X10_dropsDrawn a1 M) P) (kR : ∀ r : zzMem, P r → Q none r) : zz_W G m_X10_dropsDrawn t t t 0 [some (.ref 73), some (.int a1), none] [] M Q := by
  unfold f_X10_dropsDrawn at h
  refine r_iconst (v := (nI 0)) dX10_dropsDrawn_0 (by decide) ?_
  refine s_istore_n ([some (.ref 73), some (.int a1), some (.int (nI 0))]) dX10_dropsDrawn_1 (by decide) rfl rfl ?_
  exact w_X10_dropsDrawn_2 (a1) ((nI 0)) M ht h kR
set_option maxHeartbeats 4000000 in
set_option maxRecDepth 100000 in
theorem c_X10_dropsDrawn {G : zzG} {t : Nat} {Q : Option Value → zzMem → Prop} (a1 : Int32) (M : zzMem) (ht : 180 ≤ t)  {P : zzMem → Prop} (h : zK (f_X10_dropsDrawn a1 M) P) (kR : ∀ r : zzMem, P r → Q none r) : zz_S G m_X10_dropsDrawn t t [.ref 73, .int a1] M Q :=
  zz_S_of (by decide) (by decide) (Nat.le_of_ble_eq_true rfl) (w_X10_dropsDrawn_0 a1 M ht h kR)
noncomputable def b_X10_does_160 (v1 : Int32) (v2 : Int32) (M : zzMem) : Option ((Int32 × zzMem) ⊕ zzMem) :=
  zgd (vp_in v1 20) (
  if (M.1 82 (v1).toNatClampNeg) ≤ v2 then
  (some ((.inr M)))
  else ((f_X10_puts (zrm ((M.1 81 (v1).toNatClampNeg) + (v2 * (M.1 83 (v1).toNatClampNeg))) (nI 65536)) (zrm ((M.1 81 (v1).toNatClampNeg) + (v2 * (M.1 83 (v1).toNatClampNeg))) (nI 256)) M).bind (fun q3 => zpr q3 (fun r4 M5 =>
  zbd (v2 + (nI 1)) (fun x6 =>
  some (.inl (x6, M5)))))))
set_option maxHeartbeats 4000000 in
set_option maxRecDepth 100000 in
theorem x_X10_does_160 {G : zzG} {t : Nat} {Q : Option Value → zzMem → Prop} (v1 : Int32) (v2 : Int32) (M : zzMem) (ht : 180 ≤ t)  {P : ((Int32 × zzMem) ⊕ zzMem) → Prop} (h : zK (b_X10_does_160 v1 v2 M) P) (k160 : ∀ s : (Int32 × zzMem), P (.inl s) → zz_W G m_X10_does t t t 160 [some (.ref 73), some (.int v1), some (.int s.1)] [] s.2 Q) (kR : ∀ r : zzMem, P (.inr r) → Q none r) : zz_W G m_X10_does t t t 160 [some (.ref 73), some (.int v1), some (.int v2)] [] M Q := by
  unfold b_X10_does_160 at h
  refine r_iload_n dX10_does_160 rfl ?_
  refine r_aload_n dX10_does_161 rfl ?_
  refine r_getR (k := 73) (q := 82) dX10_does_162 zf_X10_35 (zo_X10 (zs_X10 ht)) (zr_X10_18 (zs_X10 ht)).1 (zr_X10_18 (zs_X10 ht)).2.1 (zr_X10_18 (zs_X10 ht)).2.2 ?_
  refine r_iload_n dX10_does_165 rfl ?_
  obtain ⟨g1, h⟩ := zK_gd h
  refine r_iald dX10_does_166 (za_X10_18 (zs_X10 ht)) g1 ?_
  refine r_icmp_ge 218 dX10_does_167 (by decide) (fun c2 => ?_) (fun c2 => ?_)
  · have h := zK_pos h c2
    exact r_vret dX10_does_218 rfl rfl rfl (kR (M) (zK_some h))
  · have h := zK_neg h c2
    refine r_aload_n dX10_does_170 rfl ?_
    refine r_aload_n dX10_does_171 rfl ?_
    refine r_getR (k := 73) (q := 81) dX10_does_172 zf_X10_32 (zo_X10 (zs_X10 ht)) (zr_X10_17 (zs_X10 ht)).1 (zr_X10_17 (zs_X10 ht)).2.1 (zr_X10_17 (zs_X10 ht)).2.2 ?_
    refine r_iload_n dX10_does_175 rfl ?_
    refine r_iald dX10_does_176 (za_X10_17 (zs_X10 ht)) g1 ?_
    refine r_iload_n dX10_does_177 rfl ?_
    refine r_aload_n dX10_does_178 rfl ?_
    refine r_getR (k := 73) (q := 83) dX10_does_179 zf_X10_38 (zo_X10 (zs_X10 ht)) (zr_X10_19 (zs_X10 ht)).1 (zr_X10_19 (zs_X10 ht)).2.1 (zr_X10_19 (zs_X10 ht)).2.2 ?_
    refine r_iload_n dX10_does_182 rfl ?_
    refine r_iald dX10_does_183 (za_X10_19 (zs_X10 ht)) g1 ?_
    refine r_imul dX10_does_184 ?_
    refine r_iadd dX10_does_185 ?_
    refine r_ldc (v := (nI 65536)) dX10_does_186 zd_X10_62 ?_
    refine r_irem dX10_does_188 (by decide) ?_
    refine r_aload_n dX10_does_189 rfl ?_
    refine r_getR (k := 73) (q := 81) dX10_does_190 zf_X10_32 (zo_X10 (zs_X10 ht)) (zr_X10_17 (zs_X10 ht)).1 (zr_X10_17 (zs_X10 ht)).2.1 (zr_X10_17 (zs_X10 ht)).2.2 ?_
    refine r_iload_n dX10_does_193 rfl ?_
    refine r_iald dX10_does_194 (za_X10_17 (zs_X10 ht)) g1 ?_
    refine r_iload_n dX10_does_195 rfl ?_
    refine r_aload_n dX10_does_196 rfl ?_
    refine r_getR (k := 73) (q := 83) dX10_does_197 zf_X10_38 (zo_X10 (zs_X10 ht)) (zr_X10_19 (zs_X10 ht)).1 (zr_X10_19 (zs_X10 ht)).2.1 (zr_X10_19 (zs_X10 ht)).2.2 ?_
    refine r_iload_n dX10_does_200 rfl ?_
    refine r_iald dX10_does_201 (za_X10_19 (zs_X10 ht)) g1 ?_
    refine r_imul dX10_does_202 ?_
    refine r_iadd dX10_does_203 ?_
    refine r_sipush (v := (nI 256)) dX10_does_204 (by decide) ?_
    refine r_irem dX10_does_207 (by decide) ?_
    refine kV_iw (as := [.int (zrm ((M.1 81 (v1).toNatClampNeg) + (v2 * (M.1 83 (v1).toNatClampNeg))) (nI 65536)), .int (zrm ((M.1 81 (v1).toNatClampNeg) + (v2 * (M.1 83 (v1).toNatClampNeg))) (nI 256))]) (st := []) (k := 73) dX10_does_208 zM_X10_puts zk_X10_229 (zo_X10 (zs_X10 ht)) (by decide) rfl ⟨Nat.le_of_ble_eq_true rfl, Nat.le_of_ble_eq_true rfl⟩ (Nat.le_of_ble_eq_true rfl) (zz_T0 rfl rfl) (fun Q' P' k h => c_X10_puts ((zrm ((M.1 81 (v1).toNatClampNeg) + (v2 * (M.1 83 (v1).toNatClampNeg))) (nI 65536))) ((zrm ((M.1 81 (v1).toNatClampNeg) + (v2 * (M.1 83 (v1).toNatClampNeg))) (nI 256))) M ht h (fun r p => k r.1 r.2 p)) h (fun r4 M5 h => ?_)
    have h := zK_pr h
    refine r_pop dX10_does_211 rfl ?_
    refine r_iinc (nI 1) (fun x6 => [some (.ref 73), some (.int v1), some (.int x6)]) dX10_does_212 rfl (by decide) (by decide) rfl (fun _ => rfl) (fun x6 ex6 => ?_)
    have h := zK_bd h ex6
    refine r_goto 160 dX10_does_215 (by decide) ?_
    exact k160 ((x6, M5)) (zK_some h)
noncomputable def j_X10_does_160 (v1 : Int32) (v2 : Int32) (M : zzMem) : Option zzMem :=
  zlp (fun s : (Int32 × zzMem) => b_X10_does_160 v1 s.1 s.2) (v2, M)
set_option maxHeartbeats 4000000 in
set_option maxRecDepth 100000 in
theorem w_X10_does_160 {G : zzG} {t : Nat} {Q : Option Value → zzMem → Prop} (v1 : Int32) (v2 : Int32) (M : zzMem) (ht : 180 ≤ t)  {P : zzMem → Prop} (h : zK (j_X10_does_160 v1 v2 M) P) (kR : ∀ r : zzMem, P r → Q none r) : zz_W G m_X10_does t t t 160 [some (.ref 73), some (.int v1), some (.int v2)] [] M Q := by
  unfold j_X10_does_160 at h
  exact zK_lp h (fun s : (Int32 × zzMem) => zz_W G m_X10_does t t t 160 [some (.ref 73), some (.int v1), some (.int s.1)] [] s.2 Q) (fun s h => x_X10_does_160 v1 s.1 s.2 ht h (fun s p => p) kR)
noncomputable def f_X10_does (a1 : Int32) (M : zzMem) : Option zzMem :=
  zgd (vp_in a1 20) (
  if (M.1 80 (a1).toNatClampNeg) = (nI 100) then
  ((f_X10_drops (M.1 81 (a1).toNatClampNeg) M).bind (fun q3 => zpr q3 (fun r4 M5 =>
  some M5)))
  else if (M.1 80 (a1).toNatClampNeg) = (nI 103) then
  ((f_X10_finds0 (M.1 81 (a1).toNatClampNeg) M).bind (fun q9 => zpr q9 (fun r10 M11 =>
  some M11)))
  else if (M.1 80 (a1).toNatClampNeg) = (nI 106) then
  ((f_X10_join M).bind (fun q15 => zpr q15 (fun r16 M17 =>
  some M17)))
  else if (M.1 80 (a1).toNatClampNeg) = (nI 110) then
  (j_X10_does_160 a1 (nI 0) M)
  else if (M.1 80 (a1).toNatClampNeg) = (nI 112) then
  ((f_X10_puts (M.1 81 (a1).toNatClampNeg) (M.1 82 (a1).toNatClampNeg) M).bind (fun q24 => zpr q24 (fun r25 M26 =>
  some M26)))
  else if (M.1 80 (a1).toNatClampNeg) = (nI 115) then
  ((f_X10_split M).bind (fun q30 => zpr q30 (fun r31 M32 =>
  some M32)))
  else if (M.1 80 (a1).toNatClampNeg) = (nI 120) then
  ((f_X10_putsDrawn (M.1 81 (a1).toNatClampNeg) M).bind (fun M38 =>
  some M38))
  else ((f_X10_dropsDrawn (M.1 81 (a1).toNatClampNeg) M).bind (fun M39 =>
  some M39)))
set_option maxHeartbeats 4000000 in
set_option maxRecDepth 100000 in
theorem w_X10_does_0 {G : zzG} {t : Nat} {Q : Option Value → zzMem → Prop} (a1 : Int32) (M : zzMem) (ht : 180 ≤ t)  {P : zzMem → Prop} (h : zK (f_X10_does a1 M) P) (kR : ∀ r : zzMem, P r → Q none r) : zz_W G m_X10_does t t t 0 [some (.ref 73), some (.int a1), none] [] M Q := by
  unfold f_X10_does at h
  refine r_aload_n dX10_does_0 rfl ?_
  refine r_getR (k := 73) (q := 80) dX10_does_1 zf_X10_29 (zo_X10 (zs_X10 ht)) (zr_X10_16 (zs_X10 ht)).1 (zr_X10_16 (zs_X10 ht)).2.1 (zr_X10_16 (zs_X10 ht)).2.2 ?_
  refine r_iload_n dX10_does_4 rfl ?_
  obtain ⟨g1, h⟩ := zK_gd h
  refine r_iald dX10_does_5 (za_X10_16 (zs_X10 ht)) g1 ?_
  by_cases c2 : (M.1 80 (a1).toNatClampNeg) = (nI 100)
  · have h := zK_pos h c2
    refine r_tabIn (off := 116) 122 dX10_does_6 (by rw [c2]; first | done | decide) (by rw [c2]; first | done | decide) (by rw [c2]; first | done | decide) (by decide) ?_
    refine r_aload_n dX10_does_122 rfl ?_
    refine r_aload_n dX10_does_123 rfl ?_
    refine r_getR (k := 73) (q := 81) dX10_does_124 zf_X10_32 (zo_X10 (zs_X10 ht)) (zr_X10_17 (zs_X10 ht)).1 (zr_X10_17 (zs_X10 ht)).2.1 (zr_X10_17 (zs_X10 ht)).2.2 ?_
    refine r_iload_n dX10_does_127 rfl ?_
    refine r_iald dX10_does_128 (za_X10_17 (zs_X10 ht)) g1 ?_
    refine kV_iw (as := [.int (M.1 81 (a1).toNatClampNeg)]) (st := []) (k := 73) dX10_does_129 zM_X10_drops zk_X10_241 (zo_X10 (zs_X10 ht)) (by decide) rfl ⟨Nat.le_of_ble_eq_true rfl, Nat.le_of_ble_eq_true rfl⟩ (Nat.le_of_ble_eq_true rfl) (zz_T0 rfl rfl) (fun Q' P' k h => c_X10_drops ((M.1 81 (a1).toNatClampNeg)) M ht h (fun r p => k r.1 r.2 p)) h (fun r4 M5 h => ?_)
    have h := zK_pr h
    refine r_pop dX10_does_132 rfl ?_
    exact r_vret dX10_does_133 rfl rfl rfl (kR (M5) (zK_some h))
  · have h := zK_neg h c2
    by_cases c8 : (M.1 80 (a1).toNatClampNeg) = (nI 103)
    · have h := zK_pos h c8
      refine r_tabIn (off := 128) 134 dX10_does_6 (by rw [c8]; first | done | decide) (by rw [c8]; first | done | decide) (by rw [c8]; first | done | decide) (by decide) ?_
      refine r_aload_n dX10_does_134 rfl ?_
      refine r_aload_n dX10_does_135 rfl ?_
      refine r_getR (k := 73) (q := 81) dX10_does_136 zf_X10_32 (zo_X10 (zs_X10 ht)) (zr_X10_17 (zs_X10 ht)).1 (zr_X10_17 (zs_X10 ht)).2.1 (zr_X10_17 (zs_X10 ht)).2.2 ?_
      refine r_iload_n dX10_does_139 rfl ?_
      refine r_iald dX10_does_140 (za_X10_17 (zs_X10 ht)) g1 ?_
      refine kV_iw (as := [.int (M.1 81 (a1).toNatClampNeg)]) (st := []) (k := 73) dX10_does_141 zM_X10_finds0 zk_X10_232 (zo_X10 (zs_X10 ht)) (by decide) rfl ⟨Nat.le_of_ble_eq_true rfl, Nat.le_of_ble_eq_true rfl⟩ (Nat.le_of_ble_eq_true rfl) (zz_T0 rfl rfl) (fun Q' P' k h => c_X10_finds0 ((M.1 81 (a1).toNatClampNeg)) M ht h (fun r p => k r.1 r.2 p)) h (fun r10 M11 h => ?_)
      have h := zK_pr h
      refine r_pop dX10_does_144 rfl ?_
      exact r_vret dX10_does_145 rfl rfl rfl (kR (M11) (zK_some h))
    · have h := zK_neg h c8
      by_cases c14 : (M.1 80 (a1).toNatClampNeg) = (nI 106)
      · have h := zK_pos h c14
        refine r_tabIn (off := 146) 152 dX10_does_6 (by rw [c14]; first | done | decide) (by rw [c14]; first | done | decide) (by rw [c14]; first | done | decide) (by decide) ?_
        refine r_aload_n dX10_does_152 rfl ?_
        refine kV_iw (as := []) (st := []) (k := 73) dX10_does_153 zM_X10_join zk_X10_262 (zo_X10 (zs_X10 ht)) (by decide) rfl ⟨Nat.le_of_ble_eq_true rfl, Nat.le_of_ble_eq_true rfl⟩ (Nat.le_of_ble_eq_true rfl) (zz_T0 rfl rfl) (fun Q' P' k h => c_X10_join M ht h (fun r p => k r.1 r.2 p)) h (fun r16 M17 h => ?_)
        have h := zK_pr h
        refine r_pop dX10_does_156 rfl ?_
        exact r_vret dX10_does_157 rfl rfl rfl (kR (M17) (zK_some h))
      · have h := zK_neg h c14
        by_cases c21 : (M.1 80 (a1).toNatClampNeg) = (nI 110)
        · have h := zK_pos h c21
          refine r_tabIn (off := 152) 158 dX10_does_6 (by rw [c21]; first | done | decide) (by rw [c21]; first | done | decide) (by rw [c21]; first | done | decide) (by decide) ?_
          refine r_iconst (v := (nI 0)) dX10_does_158 (by decide) ?_
          refine s_istore_n ([some (.ref 73), some (.int a1), some (.int (nI 0))]) dX10_does_159 (by decide) rfl rfl ?_
          exact w_X10_does_160 (a1) ((nI 0)) M ht h kR
        · have h := zK_neg h c21
          by_cases c23 : (M.1 80 (a1).toNatClampNeg) = (nI 112)
          · have h := zK_pos h c23
            refine r_tabIn (off := 98) 104 dX10_does_6 (by rw [c23]; first | done | decide) (by rw [c23]; first | done | decide) (by rw [c23]; first | done | decide) (by decide) ?_
            refine r_aload_n dX10_does_104 rfl ?_
            refine r_aload_n dX10_does_105 rfl ?_
            refine r_getR (k := 73) (q := 81) dX10_does_106 zf_X10_32 (zo_X10 (zs_X10 ht)) (zr_X10_17 (zs_X10 ht)).1 (zr_X10_17 (zs_X10 ht)).2.1 (zr_X10_17 (zs_X10 ht)).2.2 ?_
            refine r_iload_n dX10_does_109 rfl ?_
            refine r_iald dX10_does_110 (za_X10_17 (zs_X10 ht)) g1 ?_
            refine r_aload_n dX10_does_111 rfl ?_
            refine r_getR (k := 73) (q := 82) dX10_does_112 zf_X10_35 (zo_X10 (zs_X10 ht)) (zr_X10_18 (zs_X10 ht)).1 (zr_X10_18 (zs_X10 ht)).2.1 (zr_X10_18 (zs_X10 ht)).2.2 ?_
            refine r_iload_n dX10_does_115 rfl ?_
            refine r_iald dX10_does_116 (za_X10_18 (zs_X10 ht)) g1 ?_
            refine kV_iw (as := [.int (M.1 81 (a1).toNatClampNeg), .int (M.1 82 (a1).toNatClampNeg)]) (st := []) (k := 73) dX10_does_117 zM_X10_puts zk_X10_229 (zo_X10 (zs_X10 ht)) (by decide) rfl ⟨Nat.le_of_ble_eq_true rfl, Nat.le_of_ble_eq_true rfl⟩ (Nat.le_of_ble_eq_true rfl) (zz_T0 rfl rfl) (fun Q' P' k h => c_X10_puts ((M.1 81 (a1).toNatClampNeg)) ((M.1 82 (a1).toNatClampNeg)) M ht h (fun r p => k r.1 r.2 p)) h (fun r25 M26 h => ?_)
            have h := zK_pr h
            refine r_pop dX10_does_120 rfl ?_
            exact r_vret dX10_does_121 rfl rfl rfl (kR (M26) (zK_some h))
          · have h := zK_neg h c23
            by_cases c29 : (M.1 80 (a1).toNatClampNeg) = (nI 115)
            · have h := zK_pos h c29
              refine r_tabIn (off := 140) 146 dX10_does_6 (by rw [c29]; first | done | decide) (by rw [c29]; first | done | decide) (by rw [c29]; first | done | decide) (by decide) ?_
              refine r_aload_n dX10_does_146 rfl ?_
              refine kV_iw (as := []) (st := []) (k := 73) dX10_does_147 zM_X10_split zk_X10_259 (zo_X10 (zs_X10 ht)) (by decide) rfl ⟨Nat.le_of_ble_eq_true rfl, Nat.le_of_ble_eq_true rfl⟩ (Nat.le_of_ble_eq_true rfl) (zz_T0 rfl rfl) (fun Q' P' k h => c_X10_split M ht h (fun r p => k r.1 r.2 p)) h (fun r31 M32 h => ?_)
              have h := zK_pr h
              refine r_pop dX10_does_150 rfl ?_
              exact r_vret dX10_does_151 rfl rfl rfl (kR (M32) (zK_some h))
            · have h := zK_neg h c29
              by_cases c37 : (M.1 80 (a1).toNatClampNeg) = (nI 120)
              · have h := zK_pos h c37
                refine r_tabIn (off := 213) 219 dX10_does_6 (by rw [c37]; first | done | decide) (by rw [c37]; first | done | decide) (by rw [c37]; first | done | decide) (by decide) ?_
                refine r_aload_n dX10_does_219 rfl ?_
                refine r_aload_n dX10_does_220 rfl ?_
                refine r_getR (k := 73) (q := 81) dX10_does_221 zf_X10_32 (zo_X10 (zs_X10 ht)) (zr_X10_17 (zs_X10 ht)).1 (zr_X10_17 (zs_X10 ht)).2.1 (zr_X10_17 (zs_X10 ht)).2.2 ?_
                refine r_iload_n dX10_does_224 rfl ?_
                refine r_iald dX10_does_225 (za_X10_17 (zs_X10 ht)) g1 ?_
                refine kV_vw (as := [.int (M.1 81 (a1).toNatClampNeg)]) (st := []) (k := 73) dX10_does_226 zM_X10_putsDrawn zk_X10_265 (zo_X10 (zs_X10 ht)) (by decide) rfl ⟨Nat.le_of_ble_eq_true rfl, Nat.le_of_ble_eq_true rfl⟩ (Nat.le_of_ble_eq_true rfl) (zz_T0 rfl rfl) (fun Q' P' k h => c_X10_putsDrawn ((M.1 81 (a1).toNatClampNeg)) M ht h k) h (fun M38 h => ?_)
                exact r_vret dX10_does_229 rfl rfl rfl (kR (M38) (zK_some h))
              · have h := zK_neg h c37
                have hD : zz_W G m_X10_does t t t 230 [some (.ref 73), some (.int a1), none] [] M Q := by
                  refine r_aload_n dX10_does_230 rfl ?_
                  refine r_aload_n dX10_does_231 rfl ?_
                  refine r_getR (k := 73) (q := 81) dX10_does_232 zf_X10_32 (zo_X10 (zs_X10 ht)) (zr_X10_17 (zs_X10 ht)).1 (zr_X10_17 (zs_X10 ht)).2.1 (zr_X10_17 (zs_X10 ht)).2.2 ?_
                  refine r_iload_n dX10_does_235 rfl ?_
                  refine r_iald dX10_does_236 (za_X10_17 (zs_X10 ht)) g1 ?_
                  refine kV_vw (as := [.int (M.1 81 (a1).toNatClampNeg)]) (st := []) (k := 73) dX10_does_237 zM_X10_dropsDrawn zk_X10_268 (zo_X10 (zs_X10 ht)) (by decide) rfl ⟨Nat.le_of_ble_eq_true rfl, Nat.le_of_ble_eq_true rfl⟩ (Nat.le_of_ble_eq_true rfl) (zz_T0 rfl rfl) (fun Q' P' k h => c_X10_dropsDrawn ((M.1 81 (a1).toNatClampNeg)) M ht h k) h (fun M39 h => ?_)
                  exact r_vret dX10_does_240 rfl rfl rfl (kR (M39) (zK_some h))
                by_cases c6 : (M.1 80 (a1).toNatClampNeg) = (nI 101)
                · exact r_tabIn (off := 224) 230 dX10_does_6 (by rw [c6]; first | done | decide) (by rw [c6]; first | done | decide) (by rw [c6]; first | done | decide) (by decide) hD
                by_cases c7 : (M.1 80 (a1).toNatClampNeg) = (nI 102)
                · exact r_tabIn (off := 224) 230 dX10_does_6 (by rw [c7]; first | done | decide) (by rw [c7]; first | done | decide) (by rw [c7]; first | done | decide) (by decide) hD
                by_cases c12 : (M.1 80 (a1).toNatClampNeg) = (nI 104)
                · exact r_tabIn (off := 224) 230 dX10_does_6 (by rw [c12]; first | done | decide) (by rw [c12]; first | done | decide) (by rw [c12]; first | done | decide) (by decide) hD
                by_cases c13 : (M.1 80 (a1).toNatClampNeg) = (nI 105)
                · exact r_tabIn (off := 224) 230 dX10_does_6 (by rw [c13]; first | done | decide) (by rw [c13]; first | done | decide) (by rw [c13]; first | done | decide) (by decide) hD
                by_cases c18 : (M.1 80 (a1).toNatClampNeg) = (nI 107)
                · exact r_tabIn (off := 224) 230 dX10_does_6 (by rw [c18]; first | done | decide) (by rw [c18]; first | done | decide) (by rw [c18]; first | done | decide) (by decide) hD
                by_cases c19 : (M.1 80 (a1).toNatClampNeg) = (nI 108)
                · exact r_tabIn (off := 224) 230 dX10_does_6 (by rw [c19]; first | done | decide) (by rw [c19]; first | done | decide) (by rw [c19]; first | done | decide) (by decide) hD
                by_cases c20 : (M.1 80 (a1).toNatClampNeg) = (nI 109)
                · exact r_tabIn (off := 224) 230 dX10_does_6 (by rw [c20]; first | done | decide) (by rw [c20]; first | done | decide) (by rw [c20]; first | done | decide) (by decide) hD
                by_cases c22 : (M.1 80 (a1).toNatClampNeg) = (nI 111)
                · exact r_tabIn (off := 224) 230 dX10_does_6 (by rw [c22]; first | done | decide) (by rw [c22]; first | done | decide) (by rw [c22]; first | done | decide) (by decide) hD
                by_cases c27 : (M.1 80 (a1).toNatClampNeg) = (nI 113)
                · exact r_tabIn (off := 224) 230 dX10_does_6 (by rw [c27]; first | done | decide) (by rw [c27]; first | done | decide) (by rw [c27]; first | done | decide) (by decide) hD
                by_cases c28 : (M.1 80 (a1).toNatClampNeg) = (nI 114)
                · exact r_tabIn (off := 224) 230 dX10_does_6 (by rw [c28]; first | done | decide) (by rw [c28]; first | done | decide) (by rw [c28]; first | done | decide) (by decide) hD
                by_cases c33 : (M.1 80 (a1).toNatClampNeg) = (nI 116)
                · exact r_tabIn (off := 224) 230 dX10_does_6 (by rw [c33]; first | done | decide) (by rw [c33]; first | done | decide) (by rw [c33]; first | done | decide) (by decide) hD
                by_cases c34 : (M.1 80 (a1).toNatClampNeg) = (nI 117)
                · exact r_tabIn (off := 224) 230 dX10_does_6 (by rw [c34]; first | done | decide) (by rw [c34]; first | done | decide) (by rw [c34]; first | done | decide) (by decide) hD
                by_cases c35 : (M.1 80 (a1).toNatClampNeg) = (nI 118)
                · exact r_tabIn (off := 224) 230 dX10_does_6 (by rw [c35]; first | done | decide) (by rw [c35]; first | done | decide) (by rw [c35]; first | done | decide) (by decide) hD
                by_cases c36 : (M.1 80 (a1).toNatClampNeg) = (nI 119)
                · exact r_tabIn (off := 224) 230 dX10_does_6 (by rw [c36]; first | done | decide) (by rw [c36]; first | done | decide) (by rw [c36]; first | done | decide) (by decide) hD
                refine r_tabOut 230 dX10_does_6 (zz_tab_out (n := 21) (fun i hi => ?_) (by decide)) (by decide) hD
                exact match i, hi with
                | 0, _ => fun e => c2 (e.trans (by decide))
                | 1, _ => fun e => c6 (e.trans (by decide))
                | 2, _ => fun e => c7 (e.trans (by decide))
                | 3, _ => fun e => c8 (e.trans (by decide))
                | 4, _ => fun e => c12 (e.trans (by decide))
                | 5, _ => fun e => c13 (e.trans (by decide))
                | 6, _ => fun e => c14 (e.trans (by decide))
                | 7, _ => fun e => c18 (e.trans (by decide))
                | 8, _ => fun e => c19 (e.trans (by decide))
                | 9, _ => fun e => c20 (e.trans (by decide))
                | 10, _ => fun e => c21 (e.trans (by decide))
                | 11, _ => fun e => c22 (e.trans (by decide))
                | 12, _ => fun e => c23 (e.trans (by decide))
                | 13, _ => fun e => c27 (e.trans (by decide))
                | 14, _ => fun e => c28 (e.trans (by decide))
                | 15, _ => fun e => c29 (e.trans (by decide))
                | 16, _ => fun e => c33 (e.trans (by decide))
                | 17, _ => fun e => c34 (e.trans (by decide))
                | 18, _ => fun e => c35 (e.trans (by decide))
                | 19, _ => fun e => c36 (e.trans (by decide))
                | 20, _ => fun e => c37 (e.trans (by decide))
                | k + 21, hk => absurd hk (by omega)
set_option maxHeartbeats 4000000 in
set_option maxRecDepth 100000 in
theorem c_X10_does {G : zzG} {t : Nat} {Q : Option Value → zzMem → Prop} (a1 : Int32) (M : zzMem) (ht : 180 ≤ t)  {P : zzMem → Prop} (h : zK (f_X10_does a1 M) P) (kR : ∀ r : zzMem, P r → Q none r) : zz_S G m_X10_does t t [.ref 73, .int a1] M Q :=
  zz_S_of (by decide) (by decide) (Nat.le_of_ble_eq_true rfl) (w_X10_does_0 a1 M ht h kR)
noncomputable def b_X10_work_123 (v3 : Int32) (M : zzMem) : Option ((Int32 × zzMem) ⊕ (Int32 × zzMem)) :=
  if (M.1 73 20) ≤ v3 then
  (some ((.inr ((M.1 73 20), M))))
  else ((f_X10_does v3 M).bind (fun M2 =>
  zbd (v3 + (nI 1)) (fun x3 =>
  some (.inl (x3, M2)))))
set_option maxHeartbeats 4000000 in
set_option maxRecDepth 100000 in
theorem x_X10_work_123 {G : zzG} {t : Nat} {Q : Option Value → zzMem → Prop} (v3 : Int32) (M : zzMem) (ht : 180 ≤ t)  {P : ((Int32 × zzMem) ⊕ (Int32 × zzMem)) → Prop} (h : zK (b_X10_work_123 v3 M) P) (k123 : ∀ s : (Int32 × zzMem), P (.inl s) → zz_W G m_X10_work t t t 123 [some (.ref 73), none, none, some (.int s.1)] [] s.2 Q) (kR : ∀ r : (Int32 × zzMem), P (.inr r) → Q (some (.int r.1)) r.2) : zz_W G m_X10_work t t t 123 [some (.ref 73), none, none, some (.int v3)] [] M Q := by
  unfold b_X10_work_123 at h
  refine r_iload_n dX10_work_123 rfl ?_
  refine r_aload_n dX10_work_124 rfl ?_
  refine r_getI (k := 73) dX10_work_125 zf_X10_244 (zo_X10 (zs_X10 ht)) (zi_X10_20 (zs_X10 ht)) ?_
  refine r_icmp_ge 142 dX10_work_128 (by decide) (fun c1 => ?_) (fun c1 => ?_)
  · have h := zK_pos h c1
    refine r_aload_n dX10_work_142 rfl ?_
    refine r_getI (k := 73) dX10_work_143 zf_X10_244 (zo_X10 (zs_X10 ht)) (zi_X10_20 (zs_X10 ht)) ?_
    exact r_iret dX10_work_146 rfl rfl rfl (kR (((M.1 73 20), M)) (zK_some h))
  · have h := zK_neg h c1
    refine r_aload_n dX10_work_131 rfl ?_
    refine r_iload_n dX10_work_132 rfl ?_
    refine kV_vw (as := [.int v3]) (st := []) (k := 73) dX10_work_133 zM_X10_does zk_X10_274 (zo_X10 (zs_X10 ht)) (by decide) rfl ⟨Nat.le_of_ble_eq_true rfl, Nat.le_of_ble_eq_true rfl⟩ (Nat.le_of_ble_eq_true rfl) (zz_T0 rfl rfl) (fun Q' P' k h => c_X10_does (v3) M ht h k) h (fun M2 h => ?_)
    refine r_iinc (nI 1) (fun x3 => [some (.ref 73), none, none, some (.int x3)]) dX10_work_136 rfl (by decide) (by decide) rfl (fun _ => rfl) (fun x3 ex3 => ?_)
    have h := zK_bd h ex3
    refine r_goto 123 dX10_work_139 (by decide) ?_
    exact k123 ((x3, M2)) (zK_some h)
noncomputable def j_X10_work_123 (v3 : Int32) (M : zzMem) : Option (Int32 × zzMem) :=
  zlp (fun s : (Int32 × zzMem) => b_X10_work_123 s.1 s.2) (v3, M)
set_option maxHeartbeats 4000000 in
set_option maxRecDepth 100000 in
theorem w_X10_work_123 {G : zzG} {t : Nat} {Q : Option Value → zzMem → Prop} (v3 : Int32) (M : zzMem) (ht : 180 ≤ t)  {P : (Int32 × zzMem) → Prop} (h : zK (j_X10_work_123 v3 M) P) (kR : ∀ r : (Int32 × zzMem), P r → Q (some (.int r.1)) r.2) : zz_W G m_X10_work t t t 123 [some (.ref 73), none, none, some (.int v3)] [] M Q := by
  unfold j_X10_work_123 at h
  exact zK_lp h (fun s : (Int32 × zzMem) => zz_W G m_X10_work t t t 123 [some (.ref 73), none, none, some (.int s.1)] [] s.2 Q) (fun s h => x_X10_work_123 s.1 s.2 ht h (fun s p => p) kR)
noncomputable def j_X10_work_107 (w2 : Bool) (M : zzMem) : Option (Int32 × zzMem) :=
  zbd (zz_si M 73 6 (nI 0)) (fun M1 =>
  if w2 = true then
  (j_X10_work_123 (nI 0) M1)
  else (some (((M1.1 73 9), M1))))
set_option maxHeartbeats 4000000 in
set_option maxRecDepth 100000 in
theorem w_X10_work_107 {G : zzG} {t : Nat} {Q : Option Value → zzMem → Prop} (w2 : Bool) (M : zzMem) (ht : 180 ≤ t)  {P : (Int32 × zzMem) → Prop} (h : zK (j_X10_work_107 w2 M) P) (kR : ∀ r : (Int32 × zzMem), P r → Q (some (.int r.1)) r.2) : zz_W G m_X10_work t t t 107 [some (.ref 73), none, some (.int (zb w2)), none] [] M Q := by
  unfold j_X10_work_107 at h
  refine r_aload_n dX10_work_107 rfl ?_
  refine r_iconst (v := (nI 0)) dX10_work_108 (by decide) ?_
  refine r_putI (k := 73) dX10_work_109 zp_X10_71 (zo_X10 (zs_X10 ht)) (zi_X10_6 (zs_X10 ht)) rfl rfl (fun M1 eM1 => ?_)
  have h := zK_bd h eM1
  refine r_iload_n dX10_work_112 rfl ?_
  refine r_ifZ_ne 121 dX10_work_113 (by decide) (fun c2 => ?_) (fun c2 => ?_)
  · have h := zK_pos h c2
    refine r_iconst (v := (nI 0)) dX10_work_121 (by decide) ?_
    refine s_istore_n ([some (.ref 73), none, some (.int (zb w2)), some (.int (nI 0))]) dX10_work_122 (by decide) rfl rfl ?_
    refine zz_mask [2] ?_
    exact w_X10_work_123 ((nI 0)) M1 ht h kR
  · have h := zK_neg h c2
    refine r_aload_n dX10_work_116 rfl ?_
    refine r_getI (k := 73) dX10_work_117 zf_X10_85 (zo_X10 (zs_X10 ht)) (zi_X10_9 (zs_X10 ht)) ?_
    exact r_iret dX10_work_120 rfl rfl rfl (kR (((M1.1 73 9), M1)) (zK_some h))
noncomputable def j_X10_work_103 (ws0 : Bool) (M : zzMem) : Option ((Bool × zzMem) ⊕ (Int32 × zzMem)) :=
  some (.inl (ws0, M))
set_option maxHeartbeats 4000000 in
set_option maxRecDepth 100000 in
theorem w_X10_work_103 {G : zzG} {t : Nat} {Q : Option Value → zzMem → Prop} (ws0 : Bool) (M : zzMem) (ht : 180 ≤ t)  {P : ((Bool × zzMem) ⊕ (Int32 × zzMem)) → Prop} (h : zK (j_X10_work_103 ws0 M) P) (k40 : ∀ s : (Bool × zzMem), P (.inl s) → zz_W G m_X10_work t t t 40 [some (.ref 73), none, some (.int (zb s.1)), none] [] s.2 Q) (kR : ∀ r : (Int32 × zzMem), P (.inr r) → Q (some (.int r.1)) r.2) : zz_W G m_X10_work t t t 103 [some (.ref 73), none, none, none] [.int (zb ws0)] M Q := by
  unfold j_X10_work_103 at h
  refine s_istore_n ([some (.ref 73), none, some (.int (zb ws0)), none]) dX10_work_103 (by decide) rfl rfl ?_
  refine r_goto 40 dX10_work_104 (by decide) ?_
  exact k40 ((ws0, M)) (zK_some h)
noncomputable def j_X10_work_102  (M : zzMem) : Option ((Bool × zzMem) ⊕ (Int32 × zzMem)) :=
  j_X10_work_103 false M
set_option maxHeartbeats 4000000 in
set_option maxRecDepth 100000 in
theorem w_X10_work_102 {G : zzG} {t : Nat} {Q : Option Value → zzMem → Prop}  (M : zzMem) (ht : 180 ≤ t)  {P : ((Bool × zzMem) ⊕ (Int32 × zzMem)) → Prop} (h : zK (j_X10_work_102  M) P) (k40 : ∀ s : (Bool × zzMem), P (.inl s) → zz_W G m_X10_work t t t 40 [some (.ref 73), none, some (.int (zb s.1)), none] [] s.2 Q) (kR : ∀ r : (Int32 × zzMem), P (.inr r) → Q (some (.int r.1)) r.2) : zz_W G m_X10_work t t t 102 [some (.ref 73), none, none, none] [] M Q := by
  unfold j_X10_work_102 at h
  refine r_iconst (v := (nI 0)) dX10_work_102 (by decide) ?_
  exact w_X10_work_103 (false) M ht h k40 kR
noncomputable def j_X10_work_87 (w2 : Bool) (M : zzMem) : Option ((Bool × zzMem) ⊕ (Int32 × zzMem)) :=
  if w2 = true then
  ((f_X10_readsStep M).bind (fun q2 => zpr q2 (fun r3 M4 =>
  if r3 = true then
  (j_X10_work_103 true M4)
  else (j_X10_work_102  M4))))
  else (j_X10_work_102  M)
set_option maxHeartbeats 4000000 in
set_option maxRecDepth 100000 in
theorem w_X10_work_87 {G : zzG} {t : Nat} {Q : Option Value → zzMem → Prop} (w2 : Bool) (M : zzMem) (ht : 180 ≤ t)  {P : ((Bool × zzMem) ⊕ (Int32 × zzMem)) → Prop} (h : zK (j_X10_work_87 w2 M) P) (k40 : ∀ s : (Bool × zzMem), P (.inl s) → zz_W G m_X10_work t t t 40 [some (.ref 73), none, some (.int (zb s.1)), none] [] s.2 Q) (kR : ∀ r : (Int32 × zzMem), P (.inr r) → Q (some (.int r.1)) r.2) : zz_W G m_X10_work t t t 87 [some (.ref 73), none, some (.int (zb w2)), none] [] M Q := by
  unfold j_X10_work_87 at h
  refine r_iload_n dX10_work_87 rfl ?_
  refine r_ifZ_eq 102 dX10_work_88 (by decide) (fun c1 => ?_) (fun c1 => ?_)
  · have h := zK_neg h c1
    refine zz_mask [2] ?_
    exact w_X10_work_102  M ht h k40 kR
  · have h := zK_pos h c1
    refine r_aload_n dX10_work_91 rfl ?_
    refine kV_zw (as := []) (st := []) (k := 73) dX10_work_92 zM_X10_readsStep zk_X10_271 (zo_X10 (zs_X10 ht)) (by decide) rfl ⟨Nat.le_of_ble_eq_true rfl, Nat.le_of_ble_eq_true rfl⟩ (Nat.le_of_ble_eq_true rfl) (zz_T0 rfl rfl) (fun Q' P' k h => c_X10_readsStep M ht h (fun r p => k r.1 r.2 p)) h (fun r3 M4 h => ?_)
    have h := zK_pr h
    refine r_ifZ_eq 102 dX10_work_95 (by decide) (fun c5 => ?_) (fun c5 => ?_)
    · have h := zK_neg h c5
      refine zz_mask [2] ?_
      exact w_X10_work_102  M4 ht h k40 kR
    · have h := zK_pos h c5
      refine r_iconst (v := (nI 1)) dX10_work_98 (by decide) ?_
      refine r_goto 103 dX10_work_99 (by decide) ?_
      refine zz_mask [2] ?_
      exact w_X10_work_103 (true) M4 ht h k40 kR
noncomputable def b_X10_work_40 (w2 : Bool) (M : zzMem) : Option ((Bool × zzMem) ⊕ (Int32 × zzMem)) :=
  if w2 = true then
  (if (M.1 73 8) ≤ (M.1 73 7) then
  (zup (j_X10_work_107 w2 M))
  else ((f_X10_here M).bind (fun r3 =>
  if r3 = (nI 59) then
  (zbd (zz_si M 73 7 ((M.1 73 7) + (nI 1))) (fun M8 =>
  j_X10_work_87 w2 M8))
  else ((f_X10_wrongAt (nI 1) (M.1 73 7) M).bind (fun q5 => zpr q5 (fun r6 M7 =>
  j_X10_work_87 r6 M7))))))
  else (zup (j_X10_work_107 w2 M))
set_option maxHeartbeats 4000000 in
set_option maxRecDepth 100000 in
theorem x_X10_work_40 {G : zzG} {t : Nat} {Q : Option Value → zzMem → Prop} (w2 : Bool) (M : zzMem) (ht : 180 ≤ t)  {P : ((Bool × zzMem) ⊕ (Int32 × zzMem)) → Prop} (h : zK (b_X10_work_40 w2 M) P) (k40 : ∀ s : (Bool × zzMem), P (.inl s) → zz_W G m_X10_work t t t 40 [some (.ref 73), none, some (.int (zb s.1)), none] [] s.2 Q) (kR : ∀ r : (Int32 × zzMem), P (.inr r) → Q (some (.int r.1)) r.2) : zz_W G m_X10_work t t t 40 [some (.ref 73), none, some (.int (zb w2)), none] [] M Q := by
  unfold b_X10_work_40 at h
  refine r_iload_n dX10_work_40 rfl ?_
  refine r_ifZ_eq 107 dX10_work_41 (by decide) (fun c1 => ?_) (fun c1 => ?_)
  · have h := zK_neg h c1
    exact w_X10_work_107 (w2) M ht (zK_up h) kR
  · have h := zK_pos h c1
    refine r_aload_n dX10_work_44 rfl ?_
    refine r_getI (k := 73) dX10_work_45 zf_X10_79 (zo_X10 (zs_X10 ht)) (zi_X10_7 (zs_X10 ht)) ?_
    refine r_aload_n dX10_work_48 rfl ?_
    refine r_getI (k := 73) dX10_work_49 zf_X10_82 (zo_X10 (zs_X10 ht)) (zi_X10_8 (zs_X10 ht)) ?_
    refine r_icmp_ge 107 dX10_work_52 (by decide) (fun c2 => ?_) (fun c2 => ?_)
    · have h := zK_pos h c2
      exact w_X10_work_107 (w2) M ht (zK_up h) kR
    · have h := zK_neg h c2
      refine r_aload_n dX10_work_55 rfl ?_
      refine kV_ir (as := []) (st := []) (k := 73) dX10_work_56 zM_X10_here zk_X10_88 (zo_X10 (zs_X10 ht)) (by decide) rfl ⟨Nat.le_of_ble_eq_true rfl, Nat.le_of_ble_eq_true rfl⟩ (Nat.le_of_ble_eq_true rfl) (zz_T0 rfl rfl) (fun Q' P' k h => c_X10_here M ht h k) h (fun r3 h => ?_)
      refine r_bipush (v := (nI 59)) dX10_work_59 (by decide) ?_
      refine r_icmp_ne 77 dX10_work_61 (by decide) (fun c4 => ?_) (fun c4 => ?_)
      · have h := zK_neg h c4
        refine r_aload_n dX10_work_77 rfl ?_
        refine r_iconst (v := (nI 1)) dX10_work_78 (by decide) ?_
        refine r_aload_n dX10_work_79 rfl ?_
        refine r_getI (k := 73) dX10_work_80 zf_X10_79 (zo_X10 (zs_X10 ht)) (zi_X10_7 (zs_X10 ht)) ?_
        refine kV_zw (as := [.int (nI 1), .int (M.1 73 7)]) (st := []) (k := 73) dX10_work_83 zM_X10_wrongAt zk_X10_96 (zo_X10 (zs_X10 ht)) (by decide) rfl ⟨Nat.le_of_ble_eq_true rfl, Nat.le_of_ble_eq_true rfl⟩ (Nat.le_of_ble_eq_true rfl) (zz_T0 rfl rfl) (fun Q' P' k h => c_X10_wrongAt ((nI 1)) ((M.1 73 7)) M ht h (fun r p => k r.1 r.2 p)) h (fun r6 M7 h => ?_)
        have h := zK_pr h
        refine s_istore_n ([some (.ref 73), none, some (.int (zb r6)), none]) dX10_work_86 (by decide) rfl rfl ?_
        exact w_X10_work_87 (r6) M7 ht h k40 kR
      · have h := zK_pos h c4
        refine r_aload_n dX10_work_64 rfl ?_
        refine r_aload_n dX10_work_65 rfl ?_
        refine r_getI (k := 73) dX10_work_66 zf_X10_79 (zo_X10 (zs_X10 ht)) (zi_X10_7 (zs_X10 ht)) ?_
        refine r_iconst (v := (nI 1)) dX10_work_69 (by decide) ?_
        refine r_iadd dX10_work_70 ?_
        refine r_putI (k := 73) dX10_work_71 zp_X10_79 (zo_X10 (zs_X10 ht)) (zi_X10_7 (zs_X10 ht)) rfl rfl (fun M8 eM8 => ?_)
        have h := zK_bd h eM8
        refine r_goto 87 dX10_work_74 (by decide) ?_
        exact w_X10_work_87 (w2) M8 ht h k40 kR
noncomputable def j_X10_work_40 (w2 : Bool) (M : zzMem) : Option (Int32 × zzMem) :=
  zlp (fun s : (Bool × zzMem) => b_X10_work_40 s.1 s.2) (w2, M)
set_option maxHeartbeats 4000000 in
set_option maxRecDepth 100000 in
theorem w_X10_work_40 {G : zzG} {t : Nat} {Q : Option Value → zzMem → Prop} (w2 : Bool) (M : zzMem) (ht : 180 ≤ t)  {P : (Int32 × zzMem) → Prop} (h : zK (j_X10_work_40 w2 M) P) (kR : ∀ r : (Int32 × zzMem), P r → Q (some (.int r.1)) r.2) : zz_W G m_X10_work t t t 40 [some (.ref 73), none, some (.int (zb w2)), none] [] M Q := by
  unfold j_X10_work_40 at h
  exact zK_lp h (fun s : (Bool × zzMem) => zz_W G m_X10_work t t t 40 [some (.ref 73), none, some (.int (zb s.1)), none] [] s.2 Q) (fun s h => x_X10_work_40 s.1 s.2 ht h (fun s p => p) kR)
noncomputable def f_X10_work (a1 : Int32) (M : zzMem) : Option (Int32 × zzMem) :=
  if (f_X10_in a1 (nI 1) (nI 120)) = true then
  (if a1 ≤ (M.1 73 6) then
  (zbd (zz_si M 73 7 (nI 0)) (fun M3 =>
  zbd (zz_si M3 73 8 a1) (fun M4 =>
  zbd (zz_si M4 73 20 (nI 0)) (fun M5 =>
  (f_X10_readsStep M5).bind (fun q6 => zpr q6 (fun r7 M8 =>
  j_X10_work_40 r7 M8))))))
  else (some (((-1 : Int32), M))))
  else (some (((-1 : Int32), M)))
set_option maxHeartbeats 4000000 in
set_option maxRecDepth 100000 in
theorem w_X10_work_0 {G : zzG} {t : Nat} {Q : Option Value → zzMem → Prop} (a1 : Int32) (M : zzMem) (ht : 180 ≤ t)  {P : (Int32 × zzMem) → Prop} (h : zK (f_X10_work a1 M) P) (kR : ∀ r : (Int32 × zzMem), P r → Q (some (.int r.1)) r.2) : zz_W G m_X10_work t t t 0 [some (.ref 73), some (.int a1), none, none] [] M Q := by
  unfold f_X10_work at h
  refine r_iload_n dX10_work_0 rfl ?_
  refine r_iconst (v := (nI 1)) dX10_work_1 (by decide) ?_
  refine r_bipush (v := (nI 120)) dX10_work_2 (by decide) ?_
  refine tS_zr (v := f_X10_in a1 (nI 1) (nI 120)) (as := [.int a1, .int (nI 1), .int (nI 120)]) (st := []) dX10_work_4 zM_X10_in zk_X10_67 ⟨Nat.le_of_ble_eq_true rfl, Nat.le_of_ble_eq_true rfl⟩ (Nat.le_of_ble_eq_true rfl) (zz_T0 rfl rfl) (fun Q' h => c_X10_in (a1) ((nI 1)) ((nI 120)) M h) ?_
  refine r_ifZ_eq 18 dX10_work_7 (by decide) (fun c1 => ?_) (fun c1 => ?_)
  · have h := zK_neg h c1
    refine r_iconst (v := (-1 : Int32)) dX10_work_18 (by decide) ?_
    exact r_iret dX10_work_19 rfl rfl rfl (kR (((-1 : Int32), M)) (zK_some h))
  · have h := zK_pos h c1
    refine r_iload_n dX10_work_10 rfl ?_
    refine r_aload_n dX10_work_11 rfl ?_
    refine r_getI (k := 73) dX10_work_12 zf_X10_71 (zo_X10 (zs_X10 ht)) (zi_X10_6 (zs_X10 ht)) ?_
    refine r_icmp_le 20 dX10_work_15 (by decide) (fun c2 => ?_) (fun c2 => ?_)
    · have h := zK_pos h c2
      refine r_aload_n dX10_work_20 rfl ?_
      refine r_iconst (v := (nI 0)) dX10_work_21 (by decide) ?_
      refine r_putI (k := 73) dX10_work_22 zp_X10_79 (zo_X10 (zs_X10 ht)) (zi_X10_7 (zs_X10 ht)) rfl rfl (fun M3 eM3 => ?_)
      have h := zK_bd h eM3
      refine r_aload_n dX10_work_25 rfl ?_
      refine r_iload_n dX10_work_26 rfl ?_
      refine r_putI (k := 73) dX10_work_27 zp_X10_82 (zo_X10 (zs_X10 ht)) (zi_X10_8 (zs_X10 ht)) rfl rfl (fun M4 eM4 => ?_)
      have h := zK_bd h eM4
      refine r_aload_n dX10_work_30 rfl ?_
      refine r_iconst (v := (nI 0)) dX10_work_31 (by decide) ?_
      refine r_putI (k := 73) dX10_work_32 zp_X10_244 (zo_X10 (zs_X10 ht)) (zi_X10_20 (zs_X10 ht)) rfl rfl (fun M5 eM5 => ?_)
      have h := zK_bd h eM5
      refine r_aload_n dX10_work_35 rfl ?_
      refine kV_zw (as := []) (st := []) (k := 73) dX10_work_36 zM_X10_readsStep zk_X10_271 (zo_X10 (zs_X10 ht)) (by decide) rfl ⟨Nat.le_of_ble_eq_true rfl, Nat.le_of_ble_eq_true rfl⟩ (Nat.le_of_ble_eq_true rfl) (zz_T0 rfl rfl) (fun Q' P' k h => c_X10_readsStep M5 ht h (fun r p => k r.1 r.2 p)) h (fun r7 M8 h => ?_)
      have h := zK_pr h
      refine s_istore_n ([some (.ref 73), some (.int a1), some (.int (zb r7)), none]) dX10_work_39 (by decide) rfl rfl ?_
      refine zz_mask [1] ?_
      exact w_X10_work_40 (r7) M8 ht h kR
    · have h := zK_neg h c2
      refine r_iconst (v := (-1 : Int32)) dX10_work_18 (by decide) ?_
      exact r_iret dX10_work_19 rfl rfl rfl (kR (((-1 : Int32), M)) (zK_some h))
set_option maxHeartbeats 4000000 in
set_option maxRecDepth 100000 in
theorem c_X10_work {G : zzG} {t : Nat} {Q : Option Value → zzMem → Prop} (a1 : Int32) (M : zzMem) (ht : 180 ≤ t)  {P : (Int32 × zzMem) → Prop} (h : zK (f_X10_work a1 M) P) (kR : ∀ r : (Int32 × zzMem), P r → Q (some (.int r.1)) r.2) : zz_S G m_X10_work t t [.ref 73, .int a1] M Q :=
  zz_S_of (by decide) (by decide) (Nat.le_of_ble_eq_true rfl) (w_X10_work_0 a1 M ht h kR)
noncomputable def f_X10_inOrder (a1 : Int32) (M : zzMem) : Option (Int32 × zzMem) :=
  if 0 ≤ a1 then
  (if a1 < (M.1 74 7) then
  ((f_X10_orders M).bind (fun M3 =>
  zgd (vp_in a1 300) (
  zgd (vp_in ((nI 40) + (M3.1 84 (a1).toNatClampNeg)) 5676) (
  some (((M3.1 74 (((nI 40) + (M3.1 84 (a1).toNatClampNeg))).toNatClampNeg), M3))))))
  else (some (((-4 : Int32), M))))
  else (some (((-1 : Int32), M)))
set_option maxHeartbeats 4000000 in
set_option maxRecDepth 100000 in
theorem w_X10_inOrder_0 {G : zzG} {t : Nat} {Q : Option Value → zzMem → Prop} (a1 : Int32) (M : zzMem) (ht : 180 ≤ t)  {P : (Int32 × zzMem) → Prop} (h : zK (f_X10_inOrder a1 M) P) (kR : ∀ r : (Int32 × zzMem), P r → Q (some (.int r.1)) r.2) : zz_W G m_X10_inOrder t t t 0 [some (.ref 73), some (.int a1)] [] M Q := by
  unfold f_X10_inOrder at h
  refine r_iload_n dX10_inOrder_0 rfl ?_
  refine r_if_ge 6 dX10_inOrder_1 (by decide) (fun c1 => ?_) (fun c1 => ?_)
  · have h := zK_pos h c1
    refine r_iload_n dX10_inOrder_6 rfl ?_
    refine r_aload_n dX10_inOrder_7 rfl ?_
    refine r_getR (k := 73) (q := 74) dX10_inOrder_8 zf_X10_7 (zo_X10 (zs_X10 ht)) (zr_X10_0 (zs_X10 ht)).1 (zr_X10_0 (zs_X10 ht)).2.1 (zr_X10_0 (zs_X10 ht)).2.2 ?_
    refine r_bipush (v := (nI 7)) dX10_inOrder_11 (by decide) ?_
    refine r_ialdc (j := 7) dX10_inOrder_13 (za_X10_0 (zs_X10 ht)) rfl rfl ?_
    refine r_icmp_lt 20 dX10_inOrder_14 (by decide) (fun c2 => ?_) (fun c2 => ?_)
    · have h := zK_pos h c2
      refine r_aload_n dX10_inOrder_20 rfl ?_
      refine kV_vw (as := []) (st := []) (k := 73) dX10_inOrder_21 zM_X10_orders zk_X10_256 (zo_X10 (zs_X10 ht)) (by decide) rfl ⟨Nat.le_of_ble_eq_true rfl, Nat.le_of_ble_eq_true rfl⟩ (Nat.le_of_ble_eq_true rfl) (zz_T0 rfl rfl) (fun Q' P' k h => c_X10_orders M ht h k) h (fun M3 h => ?_)
      refine r_aload_n dX10_inOrder_24 rfl ?_
      refine r_getR (k := 73) (q := 74) dX10_inOrder_25 zf_X10_7 (zo_X10 (zs_X10 ht)) (zr_X10_0 (zs_X10 ht)).1 (zr_X10_0 (zs_X10 ht)).2.1 (zr_X10_0 (zs_X10 ht)).2.2 ?_
      refine r_bipush (v := (nI 40)) dX10_inOrder_28 (by decide) ?_
      refine r_aload_n dX10_inOrder_30 rfl ?_
      refine r_getR (k := 73) (q := 84) dX10_inOrder_31 zf_X10_41 (zo_X10 (zs_X10 ht)) (zr_X10_21 (zs_X10 ht)).1 (zr_X10_21 (zs_X10 ht)).2.1 (zr_X10_21 (zs_X10 ht)).2.2 ?_
      refine r_iload_n dX10_inOrder_34 rfl ?_
      obtain ⟨g4, h⟩ := zK_gd h
      refine r_iald dX10_inOrder_35 (za_X10_21 (zs_X10 ht)) g4 ?_
      refine r_iadd dX10_inOrder_36 ?_
      obtain ⟨g5, h⟩ := zK_gd h
      refine r_iald dX10_inOrder_37 (za_X10_0 (zs_X10 ht)) g5 ?_
      exact r_iret dX10_inOrder_38 rfl rfl rfl (kR (((M3.1 74 (((nI 40) + (M3.1 84 (a1).toNatClampNeg))).toNatClampNeg), M3)) (zK_some h))
    · have h := zK_neg h c2
      refine r_bipush (v := (-4 : Int32)) dX10_inOrder_17 (by decide) ?_
      exact r_iret dX10_inOrder_19 rfl rfl rfl (kR (((-4 : Int32), M)) (zK_some h))
  · have h := zK_neg h c1
    refine r_iconst (v := (-1 : Int32)) dX10_inOrder_4 (by decide) ?_
    exact r_iret dX10_inOrder_5 rfl rfl rfl (kR (((-1 : Int32), M)) (zK_some h))
set_option maxHeartbeats 4000000 in
set_option maxRecDepth 100000 in
theorem c_X10_inOrder {G : zzG} {t : Nat} {Q : Option Value → zzMem → Prop} (a1 : Int32) (M : zzMem) (ht : 180 ≤ t)  {P : (Int32 × zzMem) → Prop} (h : zK (f_X10_inOrder a1 M) P) (kR : ∀ r : (Int32 × zzMem), P r → Q (some (.int r.1)) r.2) : zz_S G m_X10_inOrder t t [.ref 73, .int a1] M Q :=
  zz_S_of (by decide) (by decide) (Nat.le_of_ble_eq_true rfl) (w_X10_inOrder_0 a1 M ht h kR)
noncomputable def f_X10_isOpen (a1 : Int32) (M : zzMem) : Option Bool :=
  if (f_X10_in a1 (nI 0) (nI 3)) = true then
  (if (f_X10_has (M.1 74 14) a1) = true then
  (some true)
  else (some false))
  else (some false)
set_option maxHeartbeats 4000000 in
set_option maxRecDepth 100000 in
theorem w_X10_isOpen_0 {G : zzG} {t : Nat} {Q : Option Value → zzMem → Prop} (a1 : Int32) (M : zzMem) (ht : 180 ≤ t)  {P : Bool → Prop} (h : zK (f_X10_isOpen a1 M) P) (kR : ∀ r : Bool, P r → Q (some (.int (zb r))) M) : zz_W G m_X10_isOpen t t t 0 [some (.ref 73), some (.int a1)] [] M Q := by
  unfold f_X10_isOpen at h
  refine r_iload_n dX10_isOpen_0 rfl ?_
  refine r_iconst (v := (nI 0)) dX10_isOpen_1 (by decide) ?_
  refine r_iconst (v := (nI 3)) dX10_isOpen_2 (by decide) ?_
  refine tS_zr (v := f_X10_in a1 (nI 0) (nI 3)) (as := [.int a1, .int (nI 0), .int (nI 3)]) (st := []) dX10_isOpen_3 zM_X10_in zk_X10_67 ⟨Nat.le_of_ble_eq_true rfl, Nat.le_of_ble_eq_true rfl⟩ (Nat.le_of_ble_eq_true rfl) (zz_T0 rfl rfl) (fun Q' h => c_X10_in (a1) ((nI 0)) ((nI 3)) M h) ?_
  refine r_ifZ_eq 27 dX10_isOpen_6 (by decide) (fun c1 => ?_) (fun c1 => ?_)
  · have h := zK_neg h c1
    refine r_iconst (v := (nI 0)) dX10_isOpen_27 (by decide) ?_
    exact r_zret (b := false) dX10_isOpen_28 rfl rfl rfl (kR (false) (zK_some h))
  · have h := zK_pos h c1
    refine r_aload_n dX10_isOpen_9 rfl ?_
    refine r_getR (k := 73) (q := 74) dX10_isOpen_10 zf_X10_7 (zo_X10 (zs_X10 ht)) (zr_X10_0 (zs_X10 ht)).1 (zr_X10_0 (zs_X10 ht)).2.1 (zr_X10_0 (zs_X10 ht)).2.2 ?_
    refine r_bipush (v := (nI 14)) dX10_isOpen_13 (by decide) ?_
    refine r_ialdc (j := 14) dX10_isOpen_15 (za_X10_0 (zs_X10 ht)) rfl rfl ?_
    refine r_iload_n dX10_isOpen_16 rfl ?_
    refine tS_zr (v := f_X10_has (M.1 74 14) a1) (as := [.int (M.1 74 14), .int a1]) (st := []) dX10_isOpen_17 zM_X10_has zk_X10_284 ⟨Nat.le_of_ble_eq_true rfl, Nat.le_of_ble_eq_true rfl⟩ (Nat.le_of_ble_eq_true rfl) (zz_T0 rfl rfl) (fun Q' h => c_X10_has ((M.1 74 14)) (a1) M h) ?_
    refine r_ifZ_eq 27 dX10_isOpen_20 (by decide) (fun c2 => ?_) (fun c2 => ?_)
    · have h := zK_neg h c2
      refine r_iconst (v := (nI 0)) dX10_isOpen_27 (by decide) ?_
      exact r_zret (b := false) dX10_isOpen_28 rfl rfl rfl (kR (false) (zK_some h))
    · have h := zK_pos h c2
      refine r_iconst (v := (nI 1)) dX10_isOpen_23 (by decide) ?_
      refine r_goto 28 dX10_isOpen_24 (by decide) ?_
      exact r_zret (b := true) dX10_isOpen_28 rfl rfl rfl (kR (true) (zK_some h))
set_option maxHeartbeats 4000000 in
set_option maxRecDepth 100000 in
theorem c_X10_isOpen {G : zzG} {t : Nat} {Q : Option Value → zzMem → Prop} (a1 : Int32) (M : zzMem) (ht : 180 ≤ t)  {P : Bool → Prop} (h : zK (f_X10_isOpen a1 M) P) (kR : ∀ r : Bool, P r → Q (some (.int (zb r))) M) : zz_S G m_X10_isOpen t t [.ref 73, .int a1] M Q :=
  zz_S_of (by decide) (by decide) (Nat.le_of_ble_eq_true rfl) (w_X10_isOpen_0 a1 M ht h kR)
noncomputable def b_X10_scan_2 (v1 : Int32) (M : zzMem) : Option (Int32 ⊕ (Int32 × zzMem)) :=
  if (nI 4) ≤ v1 then
  (some ((.inr ((-3 : Int32), M))))
  else (if (f_X10_has (M.1 74 14) v1) = true then
  (zbd (v1 + (nI 1)) (fun x8 =>
  some (.inl x8)))
  else (zbd (zz_si M 74 14 ((M.1 74 14) ||| ((nI 1) <<< (v1 &&& 31)))) (fun M3 =>
  zgd (vp_in ((nI 15) + v1) 5676) (
  zbd (zz_si M3 74 (((nI 15) + v1)).toNatClampNeg (-1 : Int32)) (fun M5 =>
  zgd (vp_in ((nI 19) + v1) 5676) (
  zbd (zz_si M5 74 (((nI 19) + v1)).toNatClampNeg (nI 0)) (fun M7 =>
  some ((.inr (v1, M7))))))))))
set_option maxHeartbeats 4000000 in
set_option maxRecDepth 100000 in
theorem x_X10_scan_2 {G : zzG} {t : Nat} {Q : Option Value → zzMem → Prop} (v1 : Int32) (M : zzMem) (ht : 180 ≤ t)  {P : (Int32 ⊕ (Int32 × zzMem)) → Prop} (h : zK (b_X10_scan_2 v1 M) P) (k2 : ∀ s : Int32, P (.inl s) → zz_W G m_X10_scan t t t 2 [some (.ref 73), some (.int s)] [] M Q) (kR : ∀ r : (Int32 × zzMem), P (.inr r) → Q (some (.int r.1)) r.2) : zz_W G m_X10_scan t t t 2 [some (.ref 73), some (.int v1)] [] M Q := by
  unfold b_X10_scan_2 at h
  refine r_iload_n dX10_scan_2 rfl ?_
  refine r_iconst (v := (nI 4)) dX10_scan_3 (by decide) ?_
  refine r_icmp_ge 70 dX10_scan_4 (by decide) (fun c1 => ?_) (fun c1 => ?_)
  · have h := zK_pos h c1
    refine r_bipush (v := (-3 : Int32)) dX10_scan_70 (by decide) ?_
    exact r_iret dX10_scan_72 rfl rfl rfl (kR (((-3 : Int32), M)) (zK_some h))
  · have h := zK_neg h c1
    refine r_aload_n dX10_scan_7 rfl ?_
    refine r_getR (k := 73) (q := 74) dX10_scan_8 zf_X10_7 (zo_X10 (zs_X10 ht)) (zr_X10_0 (zs_X10 ht)).1 (zr_X10_0 (zs_X10 ht)).2.1 (zr_X10_0 (zs_X10 ht)).2.2 ?_
    refine r_bipush (v := (nI 14)) dX10_scan_11 (by decide) ?_
    refine r_ialdc (j := 14) dX10_scan_13 (za_X10_0 (zs_X10 ht)) rfl rfl ?_
    refine r_iload_n dX10_scan_14 rfl ?_
    refine tS_zr (v := f_X10_has (M.1 74 14) v1) (as := [.int (M.1 74 14), .int v1]) (st := []) dX10_scan_15 zM_X10_has zk_X10_284 ⟨Nat.le_of_ble_eq_true rfl, Nat.le_of_ble_eq_true rfl⟩ (Nat.le_of_ble_eq_true rfl) (zz_T0 rfl rfl) (fun Q' h => c_X10_has ((M.1 74 14)) (v1) M h) ?_
    refine r_ifZ_eq 24 dX10_scan_18 (by decide) (fun c2 => ?_) (fun c2 => ?_)
    · have h := zK_neg h c2
      refine r_aload_n dX10_scan_24 rfl ?_
      refine r_getR (k := 73) (q := 74) dX10_scan_25 zf_X10_7 (zo_X10 (zs_X10 ht)) (zr_X10_0 (zs_X10 ht)).1 (zr_X10_0 (zs_X10 ht)).2.1 (zr_X10_0 (zs_X10 ht)).2.2 ?_
      refine r_bipush (v := (nI 14)) dX10_scan_28 (by decide) ?_
      refine r_aload_n dX10_scan_30 rfl ?_
      refine r_getR (k := 73) (q := 74) dX10_scan_31 zf_X10_7 (zo_X10 (zs_X10 ht)) (zr_X10_0 (zs_X10 ht)).1 (zr_X10_0 (zs_X10 ht)).2.1 (zr_X10_0 (zs_X10 ht)).2.2 ?_
      refine r_bipush (v := (nI 14)) dX10_scan_34 (by decide) ?_
      refine r_ialdc (j := 14) dX10_scan_36 (za_X10_0 (zs_X10 ht)) rfl rfl ?_
      refine r_iconst (v := (nI 1)) dX10_scan_37 (by decide) ?_
      refine r_iload_n dX10_scan_38 rfl ?_
      refine r_ishl dX10_scan_39 ?_
      refine r_ior dX10_scan_40 ?_
      refine r_iastc (j := 14) dX10_scan_41 (za_X10_0 (zs_X10 ht)) rfl rfl (fun M3 eM3 => ?_)
      have h := zK_bd h eM3
      refine r_aload_n dX10_scan_42 rfl ?_
      refine r_getR (k := 73) (q := 74) dX10_scan_43 zf_X10_7 (zo_X10 (zs_X10 ht)) (zr_X10_0 (zs_X10 ht)).1 (zr_X10_0 (zs_X10 ht)).2.1 (zr_X10_0 (zs_X10 ht)).2.2 ?_
      refine r_bipush (v := (nI 15)) dX10_scan_46 (by decide) ?_
      refine r_iload_n dX10_scan_48 rfl ?_
      refine r_iadd dX10_scan_49 ?_
      refine r_iconst (v := (-1 : Int32)) dX10_scan_50 (by decide) ?_
      obtain ⟨g4, h⟩ := zK_gd h
      refine r_iast dX10_scan_51 (za_X10_0 (zs_X10 ht)) g4 (fun M5 eM5 => ?_)
      have h := zK_bd h eM5
      refine r_aload_n dX10_scan_52 rfl ?_
      refine r_getR (k := 73) (q := 74) dX10_scan_53 zf_X10_7 (zo_X10 (zs_X10 ht)) (zr_X10_0 (zs_X10 ht)).1 (zr_X10_0 (zs_X10 ht)).2.1 (zr_X10_0 (zs_X10 ht)).2.2 ?_
      refine r_bipush (v := (nI 19)) dX10_scan_56 (by decide) ?_
      refine r_iload_n dX10_scan_58 rfl ?_
      refine r_iadd dX10_scan_59 ?_
      refine r_iconst (v := (nI 0)) dX10_scan_60 (by decide) ?_
      obtain ⟨g6, h⟩ := zK_gd h
      refine r_iast dX10_scan_61 (za_X10_0 (zs_X10 ht)) g6 (fun M7 eM7 => ?_)
      have h := zK_bd h eM7
      refine r_iload_n dX10_scan_62 rfl ?_
      exact r_iret dX10_scan_63 rfl rfl rfl (kR ((v1, M7)) (zK_some h))
    · have h := zK_pos h c2
      refine r_goto 64 dX10_scan_21 (by decide) ?_
      refine r_iinc (nI 1) (fun x8 => [some (.ref 73), some (.int x8)]) dX10_scan_64 rfl (by decide) (by decide) rfl (fun _ => rfl) (fun x8 ex8 => ?_)
      have h := zK_bd h ex8
      refine r_goto 2 dX10_scan_67 (by decide) ?_
      exact k2 (x8) (zK_some h)
noncomputable def j_X10_scan_2 (v1 : Int32) (M : zzMem) : Option (Int32 × zzMem) :=
  zlp (fun s : Int32 => b_X10_scan_2 s M) v1
set_option maxHeartbeats 4000000 in
set_option maxRecDepth 100000 in
theorem w_X10_scan_2 {G : zzG} {t : Nat} {Q : Option Value → zzMem → Prop} (v1 : Int32) (M : zzMem) (ht : 180 ≤ t)  {P : (Int32 × zzMem) → Prop} (h : zK (j_X10_scan_2 v1 M) P) (kR : ∀ r : (Int32 × zzMem), P r → Q (some (.int r.1)) r.2) : zz_W G m_X10_scan t t t 2 [some (.ref 73), some (.int v1)] [] M Q := by
  unfold j_X10_scan_2 at h
  exact zK_lp h (fun s : Int32 => zz_W G m_X10_scan t t t 2 [some (.ref 73), some (.int s)] [] M Q) (fun s h => x_X10_scan_2 s M ht h (fun s p => p) kR)
noncomputable def f_X10_scan  (M : zzMem) : Option (Int32 × zzMem) :=
  j_X10_scan_2 (nI 0) M
set_option maxHeartbeats 4000000 in
set_option maxRecDepth 100000 in
theorem w_X10_scan_0 {G : zzG} {t : Nat} {Q : Option Value → zzMem → Prop}  (M : zzMem) (ht : 180 ≤ t)  {P : (Int32 × zzMem) → Prop} (h : zK (f_X10_scan  M) P) (kR : ∀ r : (Int32 × zzMem), P r → Q (some (.int r.1)) r.2) : zz_W G m_X10_scan t t t 0 [some (.ref 73), none] [] M Q := by
  unfold f_X10_scan at h
  refine r_iconst (v := (nI 0)) dX10_scan_0 (by decide) ?_
  refine s_istore_n ([some (.ref 73), some (.int (nI 0))]) dX10_scan_1 (by decide) rfl rfl ?_
  exact w_X10_scan_2 ((nI 0)) M ht h kR
set_option maxHeartbeats 4000000 in
set_option maxRecDepth 100000 in
theorem c_X10_scan {G : zzG} {t : Nat} {Q : Option Value → zzMem → Prop}  (M : zzMem) (ht : 180 ≤ t)  {P : (Int32 × zzMem) → Prop} (h : zK (f_X10_scan  M) P) (kR : ∀ r : (Int32 × zzMem), P r → Q (some (.int r.1)) r.2) : zz_S G m_X10_scan t t [.ref 73] M Q :=
  zz_S_of (by decide) (by decide) (Nat.le_of_ble_eq_true rfl) (w_X10_scan_0  M ht h kR)
noncomputable def j_X10_isToCome_50  (M : zzMem) : Option (Bool × zzMem) :=
  some ((true, M))
set_option maxHeartbeats 4000000 in
set_option maxRecDepth 100000 in
theorem w_X10_isToCome_50 {G : zzG} {t : Nat} {Q : Option Value → zzMem → Prop}  (M : zzMem) (ht : 180 ≤ t)  {P : (Bool × zzMem) → Prop} (h : zK (j_X10_isToCome_50  M) P) (kR : ∀ r : (Bool × zzMem), P r → Q (some (.int (zb r.1))) r.2) : zz_W G m_X10_isToCome t t t 50 [none, none, none, none] [] M Q := by
  unfold j_X10_isToCome_50 at h
  refine r_iconst (v := (nI 1)) dX10_isToCome_50 (by decide) ?_
  refine r_goto 55 dX10_isToCome_51 (by decide) ?_
  exact r_zret (b := true) dX10_isToCome_55 rfl rfl rfl (kR ((true, M)) (zK_some h))
noncomputable def f_X10_isToCome (a1 : Int32) (a2 : Int32) (M : zzMem) : Option (Bool × zzMem) :=
  zgd (vp_in ((nI 15) + a1) 5676) (
  zbd ((M.1 74 (((nI 15) + a1)).toNatClampNeg)) (fun x2 =>
  if x2 = (-1 : Int32) then
  (j_X10_isToCome_50  M)
  else (zgd (vp_in ((nI 40) + a2) 5676) (
  (f_X10_rankOf (M.1 74 (((nI 40) + a2)).toNatClampNeg) M).bind (fun q5 => zpr q5 (fun r6 M7 =>
  (f_X10_rankOf x2 M7).bind (fun q8 => zpr q8 (fun r9 M10 =>
  if (f_X10_isBehind r6 (M7.1 74 (((nI 40) + a2)).toNatClampNeg) r9 x2) = true then
  (j_X10_isToCome_50  M10)
  else (some ((false, M10)))))))))))
set_option maxHeartbeats 4000000 in
set_option maxRecDepth 100000 in
theorem w_X10_isToCome_0 {G : zzG} {t : Nat} {Q : Option Value → zzMem → Prop} (a1 : Int32) (a2 : Int32) (M : zzMem) (ht : 180 ≤ t)  {P : (Bool × zzMem) → Prop} (h : zK (f_X10_isToCome a1 a2 M) P) (kR : ∀ r : (Bool × zzMem), P r → Q (some (.int (zb r.1))) r.2) : zz_W G m_X10_isToCome t t t 0 [some (.ref 73), some (.int a1), some (.int a2), none] [] M Q := by
  unfold f_X10_isToCome at h
  refine r_aload_n dX10_isToCome_0 rfl ?_
  refine r_getR (k := 73) (q := 74) dX10_isToCome_1 zf_X10_7 (zo_X10 (zs_X10 ht)) (zr_X10_0 (zs_X10 ht)).1 (zr_X10_0 (zs_X10 ht)).2.1 (zr_X10_0 (zs_X10 ht)).2.2 ?_
  refine r_bipush (v := (nI 15)) dX10_isToCome_4 (by decide) ?_
  refine r_iload_n dX10_isToCome_6 rfl ?_
  refine r_iadd dX10_isToCome_7 ?_
  obtain ⟨g1, h⟩ := zK_gd h
  refine r_iald dX10_isToCome_8 (za_X10_0 (zs_X10 ht)) g1 ?_
  refine r_istore_n (fun x2 => [some (.ref 73), some (.int a1), some (.int a2), some (.int x2)]) dX10_isToCome_9 (by decide) rfl (fun _ => rfl) (fun x2 ex2 => ?_)
  have h := zK_bd h ex2
  refine r_iload_n dX10_isToCome_10 rfl ?_
  refine r_iconst (v := (-1 : Int32)) dX10_isToCome_11 (by decide) ?_
  refine r_icmp_eq 50 dX10_isToCome_12 (by decide) (fun c3 => ?_) (fun c3 => ?_)
  · have h := zK_pos h c3
    refine zz_mask [0, 1, 2, 3] ?_
    exact w_X10_isToCome_50  M ht h kR
  · have h := zK_neg h c3
    refine r_aload_n dX10_isToCome_15 rfl ?_
    refine r_aload_n dX10_isToCome_16 rfl ?_
    refine r_aload_n dX10_isToCome_17 rfl ?_
    refine r_getR (k := 73) (q := 74) dX10_isToCome_18 zf_X10_7 (zo_X10 (zs_X10 ht)) (zr_X10_0 (zs_X10 ht)).1 (zr_X10_0 (zs_X10 ht)).2.1 (zr_X10_0 (zs_X10 ht)).2.2 ?_
    refine r_bipush (v := (nI 40)) dX10_isToCome_21 (by decide) ?_
    refine r_iload_n dX10_isToCome_23 rfl ?_
    refine r_iadd dX10_isToCome_24 ?_
    obtain ⟨g4, h⟩ := zK_gd h
    refine r_iald dX10_isToCome_25 (za_X10_0 (zs_X10 ht)) g4 ?_
    refine kV_iw (as := [.int (M.1 74 (((nI 40) + a2)).toNatClampNeg)]) (st := [.ref 73]) (k := 73) dX10_isToCome_26 zM_X10_rankOf zk_X10_277 (zo_X10 (zs_X10 ht)) (by decide) rfl ⟨Nat.le_of_ble_eq_true rfl, Nat.le_of_ble_eq_true rfl⟩ (Nat.le_of_ble_eq_true rfl) (zz_T0 rfl rfl) (fun Q' P' k h => c_X10_rankOf ((M.1 74 (((nI 40) + a2)).toNatClampNeg)) M ht h (fun r p => k r.1 r.2 p)) h (fun r6 M7 h => ?_)
    have h := zK_pr h
    refine r_aload_n dX10_isToCome_29 rfl ?_
    refine r_getR (k := 73) (q := 74) dX10_isToCome_30 zf_X10_7 (zo_X10 (zs_X10 ht)) (zr_X10_0 (zs_X10 ht)).1 (zr_X10_0 (zs_X10 ht)).2.1 (zr_X10_0 (zs_X10 ht)).2.2 ?_
    refine r_bipush (v := (nI 40)) dX10_isToCome_33 (by decide) ?_
    refine r_iload_n dX10_isToCome_35 rfl ?_
    refine r_iadd dX10_isToCome_36 ?_
    refine r_iald dX10_isToCome_37 (za_X10_0 (zs_X10 ht)) g4 ?_
    refine r_aload_n dX10_isToCome_38 rfl ?_
    refine r_iload_n dX10_isToCome_39 rfl ?_
    refine kV_iw (as := [.int x2]) (st := [.int (M7.1 74 (((nI 40) + a2)).toNatClampNeg), .int r6, .ref 73]) (k := 73) dX10_isToCome_40 zM_X10_rankOf zk_X10_277 (zo_X10 (zs_X10 ht)) (by decide) rfl ⟨Nat.le_of_ble_eq_true rfl, Nat.le_of_ble_eq_true rfl⟩ (Nat.le_of_ble_eq_true rfl) (zz_T0 rfl rfl) (fun Q' P' k h => c_X10_rankOf (x2) M7 ht h (fun r p => k r.1 r.2 p)) h (fun r9 M10 h => ?_)
    have h := zK_pr h
    refine r_iload_n dX10_isToCome_43 rfl ?_
    refine tV_zr (v := f_X10_isBehind r6 (M7.1 74 (((nI 40) + a2)).toNatClampNeg) r9 x2) (as := [.int r6, .int (M7.1 74 (((nI 40) + a2)).toNatClampNeg), .int r9, .int x2]) (st := []) (k := 73) dX10_isToCome_44 zM_X10_isBehind zk_X10_280 (zo_X10 (zs_X10 ht)) (by decide) rfl ⟨Nat.le_of_ble_eq_true rfl, Nat.le_of_ble_eq_true rfl⟩ (Nat.le_of_ble_eq_true rfl) (zz_T0 rfl rfl) (fun Q' h => c_X10_isBehind (r6) ((M7.1 74 (((nI 40) + a2)).toNatClampNeg)) (r9) (x2) M10 ht h) ?_
    refine r_ifZ_eq 54 dX10_isToCome_47 (by decide) (fun c11 => ?_) (fun c11 => ?_)
    · have h := zK_neg h c11
      refine r_iconst (v := (nI 0)) dX10_isToCome_54 (by decide) ?_
      exact r_zret (b := false) dX10_isToCome_55 rfl rfl rfl (kR ((false, M10)) (zK_some h))
    · have h := zK_pos h c11
      refine zz_mask [0, 1, 2, 3] ?_
      exact w_X10_isToCome_50  M10 ht h kR
set_option maxHeartbeats 4000000 in
set_option maxRecDepth 100000 in
theorem c_X10_isToCome {G : zzG} {t : Nat} {Q : Option Value → zzMem → Prop} (a1 : Int32) (a2 : Int32) (M : zzMem) (ht : 180 ≤ t)  {P : (Bool × zzMem) → Prop} (h : zK (f_X10_isToCome a1 a2 M) P) (kR : ∀ r : (Bool × zzMem), P r → Q (some (.int (zb r.1))) r.2) : zz_S G m_X10_isToCome t t [.ref 73, .int a1, .int a2] M Q :=
  zz_S_of (by decide) (by decide) (Nat.le_of_ble_eq_true rfl) (w_X10_isToCome_0 a1 a2 M ht h kR)
