noncomputable def f_X2_readsFor (o : Nat) (a1 : Int32) (a2 : Int32) (M : zzMem) : Option Int32 :=
  (f_X0_slotOf (o + 4) a2 a1 M).bind (fun r1 =>
  if r1 = (-1 : Int32) then
  (zgd (vp_in a2 64) (
  some ((M.1 (o + 13) (a2).toNatClampNeg))))
  else (zgd (vp_in (r1 / (nI 6)) 256) (
  some (((M.1 (o + 6) ((r1 / (nI 6))).toNatClampNeg) + (nI 1))))))
set_option maxHeartbeats 4000000 in
set_option maxRecDepth 100000 in
theorem w_X2_readsFor_0 {G : zzG} {t : Nat} {Q : Option Value → zzMem → Prop} (o : Nat) (a1 : Int32) (a2 : Int32) (M : zzMem) (ho : zI_X2 t o) {P : Int32 → Prop} (h : zK (f_X2_readsFor o a1 a2 M) P) (kR : ∀ r : Int32, P r → Q (some (.int r)) M) : zz_W G m_X2_readsFor t t t 0 [some (.ref o), some (.int a1), some (.int a2), none] [] M Q := by
  unfold f_X2_readsFor at h
  refine r_aload_n dX2_readsFor_0 rfl ?_
  refine r_getR (k := o) (q := (o + 4)) dX2_readsFor_1 zf_X2_21 (zo_X2 ho) (zr_X2_1 ho).1 (zr_X2_1 ho).2.1 (zr_X2_1 ho).2.2 ?_
  refine r_iload_n dX2_readsFor_4 rfl ?_
  refine r_iload_n dX2_readsFor_5 rfl ?_
  refine kV_ir (as := [.int a2, .int a1]) (st := []) (k := (o + 4)) dX2_readsFor_6 zM_X0_slotOf zk_X2_132 (zo_X0 (zc_X2_1 ho)) (by decide) rfl ⟨Nat.le_of_ble_eq_true rfl, Nat.le_of_ble_eq_true rfl⟩ (Nat.le_of_ble_eq_true rfl) (zz_T0 rfl rfl) (fun Q' P' k h => c_X0_slotOf ((o + 4)) (a2) (a1) M (zc_X2_1 ho) h k) h (fun r1 h => ?_)
  refine s_istore_n ([some (.ref o), some (.int a1), some (.int a2), some (.int r1)]) dX2_readsFor_9 (by decide) rfl rfl ?_
  refine r_iload_n dX2_readsFor_10 rfl ?_
  refine r_iconst (v := (-1 : Int32)) dX2_readsFor_11 (by decide) ?_
  refine r_icmp_ne 27 dX2_readsFor_12 (by decide) (fun c2 => ?_) (fun c2 => ?_)
  · have h := zK_neg h c2
    refine r_aload_n dX2_readsFor_27 rfl ?_
    refine r_getR (k := o) (q := (o + 4)) dX2_readsFor_28 zf_X2_21 (zo_X2 ho) (zr_X2_1 ho).1 (zr_X2_1 ho).2.1 (zr_X2_1 ho).2.2 ?_
    refine r_getR (k := (o + 4)) (q := (o + 6)) dX2_readsFor_31 zf_X2_149 (zo_X0 (zc_X2_1 ho)) (zr_X0_1 (zc_X2_1 ho)).1 (zr_X0_1 (zc_X2_1 ho)).2.1 (zr_X0_1 (zc_X2_1 ho)).2.2 ?_
    refine r_iload_n dX2_readsFor_34 rfl ?_
    refine r_bipush (v := (nI 6)) dX2_readsFor_35 (by decide) ?_
    refine r_idiv dX2_readsFor_37 (by decide) ?_
    obtain ⟨g3, h⟩ := zK_gd h
    refine r_iald dX2_readsFor_38 (za_X0_1 (zc_X2_1 ho)) g3 ?_
    refine r_iconst (v := (nI 1)) dX2_readsFor_39 (by decide) ?_
    refine r_iadd dX2_readsFor_40 ?_
    exact r_iret dX2_readsFor_41 rfl rfl rfl (kR (((M.1 (o + 6) ((r1 / (nI 6))).toNatClampNeg) + (nI 1))) (zK_some h))
  · have h := zK_pos h c2
    refine r_aload_n dX2_readsFor_15 rfl ?_
    refine r_getR (k := o) (q := (o + 4)) dX2_readsFor_16 zf_X2_21 (zo_X2 ho) (zr_X2_1 ho).1 (zr_X2_1 ho).2.1 (zr_X2_1 ho).2.2 ?_
    refine r_getR (k := (o + 4)) (q := (o + 13)) dX2_readsFor_19 zf_X2_145 (zo_X0 (zc_X2_1 ho)) (zr_X0_8 (zc_X2_1 ho)).1 (zr_X0_8 (zc_X2_1 ho)).2.1 (zr_X0_8 (zc_X2_1 ho)).2.2 ?_
    refine r_iload_n dX2_readsFor_22 rfl ?_
    obtain ⟨g4, h⟩ := zK_gd h
    refine r_iald dX2_readsFor_23 (za_X0_8 (zc_X2_1 ho)) g4 ?_
    refine r_goto 41 dX2_readsFor_24 (by decide) ?_
    exact r_iret dX2_readsFor_41 rfl rfl rfl (kR ((M.1 (o + 13) (a2).toNatClampNeg)) (zK_some h))
set_option maxHeartbeats 4000000 in
set_option maxRecDepth 100000 in
theorem c_X2_readsFor {G : zzG} {t : Nat} {Q : Option Value → zzMem → Prop} (o : Nat) (a1 : Int32) (a2 : Int32) (M : zzMem) (ho : zI_X2 t o) {P : Int32 → Prop} (h : zK (f_X2_readsFor o a1 a2 M) P) (kR : ∀ r : Int32, P r → Q (some (.int r)) M) : zz_S G m_X2_readsFor t t [.ref o, .int a1, .int a2] M Q :=
  zz_S_of (by decide) (by decide) (Nat.le_of_ble_eq_true rfl) (w_X2_readsFor_0 o a1 a2 M ho h kR)
noncomputable def f_X2_placeBehind (o : Nat) (a1 : Int32) (M : zzMem) : Option (Int32 × zzMem) :=
  if a1 = (-1 : Int32) then
  (some (((nI 0), M)))
  else ((f_X3_hashOf (o + 1) a1 M).bind (fun q2 => zpr q2 (fun r3 M4 =>
  (f_X5_codeOf a1 r3 (M4.1 o 4)).bind (fun r5 =>
  (f_X5_placeFrom (o + 15) (r5 + (1 : Int64)) M4).bind (fun r6 =>
  some ((r6, M4)))))))
set_option maxHeartbeats 4000000 in
set_option maxRecDepth 100000 in
theorem w_X2_placeBehind_0 {G : zzG} {t : Nat} {Q : Option Value → zzMem → Prop} (o : Nat) (a1 : Int32) (M : zzMem) (ho : zI_X2 t o) {P : (Int32 × zzMem) → Prop} (h : zK (f_X2_placeBehind o a1 M) P) (kR : ∀ r : (Int32 × zzMem), P r → Q (some (.int r.1)) r.2) : zz_W G m_X2_placeBehind t t t 0 [some (.ref o), some (.int a1)] [] M Q := by
  unfold f_X2_placeBehind at h
  refine r_iload_n dX2_placeBehind_0 rfl ?_
  refine r_iconst (v := (-1 : Int32)) dX2_placeBehind_1 (by decide) ?_
  refine r_icmp_ne 7 dX2_placeBehind_2 (by decide) (fun c1 => ?_) (fun c1 => ?_)
  · have h := zK_neg h c1
    refine r_aload_n dX2_placeBehind_7 rfl ?_
    refine r_getR (k := o) (q := (o + 15)) dX2_placeBehind_8 zf_X2_28 (zo_X2 ho) (zr_X2_2 ho).1 (zr_X2_2 ho).2.1 (zr_X2_2 ho).2.2 ?_
    refine r_iload_n dX2_placeBehind_11 rfl ?_
    refine r_aload_n dX2_placeBehind_12 rfl ?_
    refine r_getR (k := o) (q := (o + 1)) dX2_placeBehind_13 zf_X2_12 (zo_X2 ho) (zr_X2_0 ho).1 (zr_X2_0 ho).2.1 (zr_X2_0 ho).2.2 ?_
    refine r_iload_n dX2_placeBehind_16 rfl ?_
    refine kV_iw (as := [.int a1]) (st := [.int a1, .ref (o + 15)]) (k := (o + 1)) dX2_placeBehind_17 zM_X3_hashOf zk_X2_126 (zo_X3 (zc_X2_0 ho)) (by decide) rfl ⟨Nat.le_of_ble_eq_true rfl, Nat.le_of_ble_eq_true rfl⟩ (Nat.le_of_ble_eq_true rfl) (zz_T0 rfl rfl) (fun Q' P' k h => c_X3_hashOf ((o + 1)) (a1) M (zc_X2_0 ho) h (fun r p => k r.1 r.2 p)) h (fun r3 M4 h => ?_)
    have h := zK_pr h
    refine r_aload_n dX2_placeBehind_20 rfl ?_
    refine r_getI (k := o) dX2_placeBehind_21 zf_X2_39 (zo_X2 ho) (zi_X2_4 ho) ?_
    refine kS_lr (as := [.int a1, .int r3, .int (M4.1 o 4)]) (st := [.ref (o + 15)]) dX2_placeBehind_24 zM_X5_codeOf zk_X2_118 ⟨Nat.le_of_ble_eq_true rfl, Nat.le_of_ble_eq_true rfl⟩ (Nat.le_of_ble_eq_true rfl) (zz_T0 rfl rfl) (fun Q' P' k h => c_X5_codeOf (a1) (r3) ((M4.1 o 4)) M4 h k) h (fun r5 h => ?_)
    refine r_lconst (v := (1 : Int64)) dX2_placeBehind_27 (by decide) ?_
    refine r_ladd dX2_placeBehind_28 ?_
    refine kV_ir (as := [.long (r5 + (1 : Int64))]) (st := []) (k := (o + 15)) dX2_placeBehind_29 zM_X5_placeFrom zk_X2_152 (zo_X5 (zc_X2_2 ho)) (by decide) rfl ⟨Nat.le_of_ble_eq_true rfl, Nat.le_of_ble_eq_true rfl⟩ (Nat.le_of_ble_eq_true rfl) (zz_T0 rfl rfl) (fun Q' P' k h => c_X5_placeFrom ((o + 15)) ((r5 + (1 : Int64))) M4 (zc_X2_2 ho) h k) h (fun r6 h => ?_)
    exact r_iret dX2_placeBehind_32 rfl rfl rfl (kR ((r6, M4)) (zK_some h))
  · have h := zK_pos h c1
    refine r_iconst (v := (nI 0)) dX2_placeBehind_5 (by decide) ?_
    exact r_iret dX2_placeBehind_6 rfl rfl rfl (kR (((nI 0), M)) (zK_some h))
set_option maxHeartbeats 4000000 in
set_option maxRecDepth 100000 in
theorem c_X2_placeBehind {G : zzG} {t : Nat} {Q : Option Value → zzMem → Prop} (o : Nat) (a1 : Int32) (M : zzMem) (ho : zI_X2 t o) {P : (Int32 × zzMem) → Prop} (h : zK (f_X2_placeBehind o a1 M) P) (kR : ∀ r : (Int32 × zzMem), P r → Q (some (.int r.1)) r.2) : zz_S G m_X2_placeBehind t t [.ref o, .int a1] M Q :=
  zz_S_of (by decide) (by decide) (Nat.le_of_ble_eq_true rfl) (w_X2_placeBehind_0 o a1 M ho h kR)
noncomputable def f_X2_look (o : Nat) (a1 : Int32) (M : zzMem) : Option (Int32 × zzMem) :=
  (f_X3_hashOf (o + 1) a1 M).bind (fun q1 => zpr q1 (fun r2 M3 =>
  (f_X2_addressOf o r2 M3).bind (fun r4 =>
  (f_X2_readsFor o a1 r4 M3).bind (fun r5 =>
  zbd (zz_si M3 o 10 ((M3.1 o 10) + r5)) (fun M6 =>
  (f_X0_slotOf (o + 4) r4 a1 M6).bind (fun r7 =>
  if r7 = (-1 : Int32) then
  (some (((-2 : Int32), M6)))
  else (zgd (vp_in r7 1536) (
  some (((f_X1_valueOf (M6.2 (o + 9) (r7).toNatClampNeg)), M6))))))))))
set_option maxHeartbeats 4000000 in
set_option maxRecDepth 100000 in
theorem w_X2_look_0 {G : zzG} {t : Nat} {Q : Option Value → zzMem → Prop} (o : Nat) (a1 : Int32) (M : zzMem) (ho : zI_X2 t o) {P : (Int32 × zzMem) → Prop} (h : zK (f_X2_look o a1 M) P) (kR : ∀ r : (Int32 × zzMem), P r → Q (some (.int r.1)) r.2) : zz_W G m_X2_look t t t 0 [some (.ref o), some (.int a1), none, none] [] M Q := by
  unfold f_X2_look at h
  refine r_aload_n dX2_look_0 rfl ?_
  refine r_aload_n dX2_look_1 rfl ?_
  refine r_getR (k := o) (q := (o + 1)) dX2_look_2 zf_X2_12 (zo_X2 ho) (zr_X2_0 ho).1 (zr_X2_0 ho).2.1 (zr_X2_0 ho).2.2 ?_
  refine r_iload_n dX2_look_5 rfl ?_
  refine kV_iw (as := [.int a1]) (st := [.ref o]) (k := (o + 1)) dX2_look_6 zM_X3_hashOf zk_X2_126 (zo_X3 (zc_X2_0 ho)) (by decide) rfl ⟨Nat.le_of_ble_eq_true rfl, Nat.le_of_ble_eq_true rfl⟩ (Nat.le_of_ble_eq_true rfl) (zz_T0 rfl rfl) (fun Q' P' k h => c_X3_hashOf ((o + 1)) (a1) M (zc_X2_0 ho) h (fun r p => k r.1 r.2 p)) h (fun r2 M3 h => ?_)
  have h := zK_pr h
  refine kV_ir (as := [.int r2]) (st := []) (k := o) dX2_look_9 zM_X2_addressOf zk_X2_129 (zo_X2 ho) (by decide) rfl ⟨Nat.le_of_ble_eq_true rfl, Nat.le_of_ble_eq_true rfl⟩ (Nat.le_of_ble_eq_true rfl) (zz_T0 rfl rfl) (fun Q' P' k h => c_X2_addressOf (o) (r2) M3 ho h k) h (fun r4 h => ?_)
  refine s_istore_n ([some (.ref o), some (.int a1), some (.int r4), none]) dX2_look_12 (by decide) rfl rfl ?_
  refine r_aload_n dX2_look_13 rfl ?_
  refine r_dup dX2_look_14 rfl ?_
  refine r_getI (k := o) dX2_look_15 zf_X2_58 (zo_X2 ho) (zi_X2_10 ho) ?_
  refine r_aload_n dX2_look_18 rfl ?_
  refine r_iload_n dX2_look_19 rfl ?_
  refine r_iload_n dX2_look_20 rfl ?_
  refine kV_ir (as := [.int a1, .int r4]) (st := [.int (M3.1 o 10), .ref o]) (k := o) dX2_look_21 zM_X2_readsFor zk_X2_155 (zo_X2 ho) (by decide) rfl ⟨Nat.le_of_ble_eq_true rfl, Nat.le_of_ble_eq_true rfl⟩ (Nat.le_of_ble_eq_true rfl) (zz_T0 rfl rfl) (fun Q' P' k h => c_X2_readsFor (o) (a1) (r4) M3 ho h k) h (fun r5 h => ?_)
  refine r_iadd dX2_look_24 ?_
  refine r_putI (k := o) dX2_look_25 zp_X2_58 (zo_X2 ho) (zi_X2_10 ho) rfl rfl (fun M6 eM6 => ?_)
  have h := zK_bd h eM6
  refine r_aload_n dX2_look_28 rfl ?_
  refine r_getR (k := o) (q := (o + 4)) dX2_look_29 zf_X2_21 (zo_X2 ho) (zr_X2_1 ho).1 (zr_X2_1 ho).2.1 (zr_X2_1 ho).2.2 ?_
  refine r_iload_n dX2_look_32 rfl ?_
  refine r_iload_n dX2_look_33 rfl ?_
  refine kV_ir (as := [.int r4, .int a1]) (st := []) (k := (o + 4)) dX2_look_34 zM_X0_slotOf zk_X2_132 (zo_X0 (zc_X2_1 ho)) (by decide) rfl ⟨Nat.le_of_ble_eq_true rfl, Nat.le_of_ble_eq_true rfl⟩ (Nat.le_of_ble_eq_true rfl) (zz_T0 rfl rfl) (fun Q' P' k h => c_X0_slotOf ((o + 4)) (r4) (a1) M6 (zc_X2_1 ho) h k) h (fun r7 h => ?_)
  refine s_istore_n ([some (.ref o), some (.int a1), some (.int r4), some (.int r7)]) dX2_look_37 (by decide) rfl rfl ?_
  refine r_iload_n dX2_look_38 rfl ?_
  refine r_iconst (v := (-1 : Int32)) dX2_look_39 (by decide) ?_
  refine r_icmp_ne 48 dX2_look_40 (by decide) (fun c8 => ?_) (fun c8 => ?_)
  · have h := zK_neg h c8
    refine r_aload_n dX2_look_48 rfl ?_
    refine r_getR (k := o) (q := (o + 4)) dX2_look_49 zf_X2_21 (zo_X2 ho) (zr_X2_1 ho).1 (zr_X2_1 ho).2.1 (zr_X2_1 ho).2.2 ?_
    refine r_getR (k := (o + 4)) (q := (o + 9)) dX2_look_52 zf_X2_135 (zo_X0 (zc_X2_1 ho)) (zr_X0_4 (zc_X2_1 ho)).1 (zr_X0_4 (zc_X2_1 ho)).2.1 (zr_X0_4 (zc_X2_1 ho)).2.2 ?_
    refine r_iload_n dX2_look_55 rfl ?_
    obtain ⟨g9, h⟩ := zK_gd h
    refine r_lald dX2_look_56 (za_X0_4 (zc_X2_1 ho)) g9 ?_
    refine tS_ir (v := f_X1_valueOf (M6.2 (o + 9) (r7).toNatClampNeg)) (as := [.long (M6.2 (o + 9) (r7).toNatClampNeg)]) (st := []) dX2_look_57 zM_X1_valueOf zk_X2_139 ⟨Nat.le_of_ble_eq_true rfl, Nat.le_of_ble_eq_true rfl⟩ (Nat.le_of_ble_eq_true rfl) (zz_T0 rfl rfl) (fun Q' h => c_X1_valueOf ((M6.2 (o + 9) (r7).toNatClampNeg)) M6 h) ?_
    exact r_iret dX2_look_60 rfl rfl rfl (kR (((f_X1_valueOf (M6.2 (o + 9) (r7).toNatClampNeg)), M6)) (zK_some h))
  · have h := zK_pos h c8
    refine r_bipush (v := (-2 : Int32)) dX2_look_43 (by decide) ?_
    refine r_goto 60 dX2_look_45 (by decide) ?_
    exact r_iret dX2_look_60 rfl rfl rfl (kR (((-2 : Int32), M6)) (zK_some h))
set_option maxHeartbeats 4000000 in
set_option maxRecDepth 100000 in
theorem c_X2_look {G : zzG} {t : Nat} {Q : Option Value → zzMem → Prop} (o : Nat) (a1 : Int32) (M : zzMem) (ho : zI_X2 t o) {P : (Int32 × zzMem) → Prop} (h : zK (f_X2_look o a1 M) P) (kR : ∀ r : (Int32 × zzMem), P r → Q (some (.int r.1)) r.2) : zz_S G m_X2_look t t [.ref o, .int a1] M Q :=
  zz_S_of (by decide) (by decide) (Nat.le_of_ble_eq_true rfl) (w_X2_look_0 o a1 M ho h kR)
noncomputable def f_X2_overwrite (o : Nat) (a1 : Int32) (a2 : Int32) (a3 : Int64) (M : zzMem) : Option zzMem :=
  (f_X0_slotOf (o + 4) a1 a2 M).bind (fun r1 =>
  if r1 = (-1 : Int32) then
  (some M)
  else (zgd (vp_in (r1 / (nI 6)) 256) (
  zbd (zz_si M o 10 ((M.1 o 10) + ((M.1 (o + 6) ((r1 / (nI 6))).toNatClampNeg) + (nI 1)))) (fun M4 =>
  zbd (zz_si M4 o 11 ((M4.1 o 11) + (nI 1))) (fun M5 =>
  zgd (vp_in r1 1536) (
  zbd (zz_sl M5 (o + 9) (r1).toNatClampNeg a3) (fun M7 =>
  some M7)))))))
set_option maxHeartbeats 4000000 in
set_option maxRecDepth 100000 in
theorem w_X2_overwrite_0 {G : zzG} {t : Nat} {Q : Option Value → zzMem → Prop} (o : Nat) (a1 : Int32) (a2 : Int32) (a3 : Int64) (M : zzMem) (ho : zI_X2 t o) {P : zzMem → Prop} (h : zK (f_X2_overwrite o a1 a2 a3 M) P) (kR : ∀ r : zzMem, P r → Q none r) : zz_W G m_X2_overwrite t t t 0 [some (.ref o), some (.int a1), some (.int a2), some (.long a3), none, none] [] M Q := by
  unfold f_X2_overwrite at h
  refine r_aload_n dX2_overwrite_0 rfl ?_
  refine r_getR (k := o) (q := (o + 4)) dX2_overwrite_1 zf_X2_21 (zo_X2 ho) (zr_X2_1 ho).1 (zr_X2_1 ho).2.1 (zr_X2_1 ho).2.2 ?_
  refine r_iload_n dX2_overwrite_4 rfl ?_
  refine r_iload_n dX2_overwrite_5 rfl ?_
  refine kV_ir (as := [.int a1, .int a2]) (st := []) (k := (o + 4)) dX2_overwrite_6 zM_X0_slotOf zk_X2_132 (zo_X0 (zc_X2_1 ho)) (by decide) rfl ⟨Nat.le_of_ble_eq_true rfl, Nat.le_of_ble_eq_true rfl⟩ (Nat.le_of_ble_eq_true rfl) (zz_T0 rfl rfl) (fun Q' P' k h => c_X0_slotOf ((o + 4)) (a1) (a2) M (zc_X2_1 ho) h k) h (fun r1 h => ?_)
  refine s_istore ([some (.ref o), some (.int a1), some (.int a2), some (.long a3), none, some (.int r1)]) dX2_overwrite_9 (by decide) rfl rfl ?_
  refine r_iload dX2_overwrite_11 rfl ?_
  refine r_iconst (v := (-1 : Int32)) dX2_overwrite_13 (by decide) ?_
  refine r_icmp_eq 62 dX2_overwrite_14 (by decide) (fun c2 => ?_) (fun c2 => ?_)
  · have h := zK_pos h c2
    exact r_vret dX2_overwrite_62 rfl rfl rfl (kR (M) (zK_some h))
  · have h := zK_neg h c2
    refine r_aload_n dX2_overwrite_17 rfl ?_
    refine r_dup dX2_overwrite_18 rfl ?_
    refine r_getI (k := o) dX2_overwrite_19 zf_X2_58 (zo_X2 ho) (zi_X2_10 ho) ?_
    refine r_aload_n dX2_overwrite_22 rfl ?_
    refine r_getR (k := o) (q := (o + 4)) dX2_overwrite_23 zf_X2_21 (zo_X2 ho) (zr_X2_1 ho).1 (zr_X2_1 ho).2.1 (zr_X2_1 ho).2.2 ?_
    refine r_getR (k := (o + 4)) (q := (o + 6)) dX2_overwrite_26 zf_X2_149 (zo_X0 (zc_X2_1 ho)) (zr_X0_1 (zc_X2_1 ho)).1 (zr_X0_1 (zc_X2_1 ho)).2.1 (zr_X0_1 (zc_X2_1 ho)).2.2 ?_
    refine r_iload dX2_overwrite_29 rfl ?_
    refine r_bipush (v := (nI 6)) dX2_overwrite_31 (by decide) ?_
    refine r_idiv dX2_overwrite_33 (by decide) ?_
    obtain ⟨g3, h⟩ := zK_gd h
    refine r_iald dX2_overwrite_34 (za_X0_1 (zc_X2_1 ho)) g3 ?_
    refine r_iconst (v := (nI 1)) dX2_overwrite_35 (by decide) ?_
    refine r_iadd dX2_overwrite_36 ?_
    refine r_iadd dX2_overwrite_37 ?_
    refine r_putI (k := o) dX2_overwrite_38 zp_X2_58 (zo_X2 ho) (zi_X2_10 ho) rfl rfl (fun M4 eM4 => ?_)
    have h := zK_bd h eM4
    refine r_aload_n dX2_overwrite_41 rfl ?_
    refine r_dup dX2_overwrite_42 rfl ?_
    refine r_getI (k := o) dX2_overwrite_43 zf_X2_61 (zo_X2 ho) (zi_X2_11 ho) ?_
    refine r_iconst (v := (nI 1)) dX2_overwrite_46 (by decide) ?_
    refine r_iadd dX2_overwrite_47 ?_
    refine r_putI (k := o) dX2_overwrite_48 zp_X2_61 (zo_X2 ho) (zi_X2_11 ho) rfl rfl (fun M5 eM5 => ?_)
    have h := zK_bd h eM5
    refine r_aload_n dX2_overwrite_51 rfl ?_
    refine r_getR (k := o) (q := (o + 4)) dX2_overwrite_52 zf_X2_21 (zo_X2 ho) (zr_X2_1 ho).1 (zr_X2_1 ho).2.1 (zr_X2_1 ho).2.2 ?_
    refine r_getR (k := (o + 4)) (q := (o + 9)) dX2_overwrite_55 zf_X2_135 (zo_X0 (zc_X2_1 ho)) (zr_X0_4 (zc_X2_1 ho)).1 (zr_X0_4 (zc_X2_1 ho)).2.1 (zr_X0_4 (zc_X2_1 ho)).2.2 ?_
    refine r_iload dX2_overwrite_58 rfl ?_
    refine r_lload_n dX2_overwrite_60 rfl ?_
    obtain ⟨g6, h⟩ := zK_gd h
    refine r_last dX2_overwrite_61 (za_X0_4 (zc_X2_1 ho)) g6 (fun M7 eM7 => ?_)
    have h := zK_bd h eM7
    exact r_vret dX2_overwrite_62 rfl rfl rfl (kR (M7) (zK_some h))
set_option maxHeartbeats 4000000 in
set_option maxRecDepth 100000 in
theorem c_X2_overwrite {G : zzG} {t : Nat} {Q : Option Value → zzMem → Prop} (o : Nat) (a1 : Int32) (a2 : Int32) (a3 : Int64) (M : zzMem) (ho : zI_X2 t o) {P : zzMem → Prop} (h : zK (f_X2_overwrite o a1 a2 a3 M) P) (kR : ∀ r : zzMem, P r → Q none r) : zz_S G m_X2_overwrite t t [.ref o, .int a1, .int a2, .long a3] M Q :=
  zz_S_of (by decide) (by decide) (Nat.le_of_ble_eq_true rfl) (w_X2_overwrite_0 o a1 a2 a3 M ho h kR)
noncomputable def f_X5_insert (o : Nat) (a1 : Int64) (M : zzMem) : Option zzMem :=
  if (M.1 o 1) < (nI 300) then
  ((f_X5_placeFrom o a1 M).bind (fun r2 =>
  zgd (zz_cpok 300 300 r2 (r2 + (nI 1)) ((M.1 o 1) - r2)) (
  zbd (zz_cl M (o + 1) r2 (o + 1) (r2 + (nI 1)) ((M.1 o 1) - r2)) (fun M4 =>
  zgd (vp_in r2 300) (
  zbd (zz_sl M4 (o + 1) (r2).toNatClampNeg a1) (fun M6 =>
  zbd (zz_si M6 o 1 ((M6.1 o 1) + (nI 1))) (fun M7 =>
  some M7)))))))
  else (some M)
set_option maxHeartbeats 4000000 in
set_option maxRecDepth 100000 in
theorem w_X5_insert_0 {G : zzG} {t : Nat} {Q : Option Value → zzMem → Prop} (o : Nat) (a1 : Int64) (M : zzMem) (ho : zI_X5 t o) {P : zzMem → Prop} (h : zK (f_X5_insert o a1 M) P) (kR : ∀ r : zzMem, P r → Q none r) : zz_W G m_X5_insert t t t 0 [some (.ref o), some (.long a1), none, none] [] M Q := by
  unfold f_X5_insert at h
  refine r_aload_n dX5_insert_0 rfl ?_
  refine r_getI (k := o) dX5_insert_1 zf_X5_15 (zo_X5 ho) (zi_X5_1 ho) ?_
  refine r_sipush (v := (nI 300)) dX5_insert_4 (by decide) ?_
  refine r_icmp_lt 11 dX5_insert_7 (by decide) (fun c1 => ?_) (fun c1 => ?_)
  · have h := zK_pos h c1
    refine r_aload_n dX5_insert_11 rfl ?_
    refine r_lload_n dX5_insert_12 rfl ?_
    refine kV_ir (as := [.long a1]) (st := []) (k := o) dX5_insert_13 zM_X5_placeFrom zk_X5_29 (zo_X5 ho) (by decide) rfl ⟨Nat.le_of_ble_eq_true rfl, Nat.le_of_ble_eq_true rfl⟩ (Nat.le_of_ble_eq_true rfl) (zz_T0 rfl rfl) (fun Q' P' k h => c_X5_placeFrom (o) (a1) M ho h k) h (fun r2 h => ?_)
    refine s_istore_n ([some (.ref o), some (.long a1), none, some (.int r2)]) dX5_insert_16 (by decide) rfl rfl ?_
    refine r_aload_n dX5_insert_17 rfl ?_
    refine r_getR (k := o) (q := (o + 1)) dX5_insert_18 zf_X5_9 (zo_X5 ho) (zr_X5_0 ho).1 (zr_X5_0 ho).2.1 (zr_X5_0 ho).2.2 ?_
    refine r_iload_n dX5_insert_21 rfl ?_
    refine r_aload_n dX5_insert_22 rfl ?_
    refine r_getR (k := o) (q := (o + 1)) dX5_insert_23 zf_X5_9 (zo_X5 ho) (zr_X5_0 ho).1 (zr_X5_0 ho).2.1 (zr_X5_0 ho).2.2 ?_
    refine r_iload_n dX5_insert_26 rfl ?_
    refine r_iconst (v := (nI 1)) dX5_insert_27 (by decide) ?_
    refine r_iadd dX5_insert_28 ?_
    refine r_aload_n dX5_insert_29 rfl ?_
    refine r_getI (k := o) dX5_insert_30 zf_X5_15 (zo_X5 ho) (zi_X5_1 ho) ?_
    refine r_iload_n dX5_insert_33 rfl ?_
    refine r_isub dX5_insert_34 ?_
    obtain ⟨g3, h⟩ := zK_gd h
    refine r_copyl (k0 := (o + 1)) (k1 := (o + 1)) dX5_insert_35 zk_X5_23 zw_copy (za_X5_0 ho) (za_X5_0 ho) g3 (Nat.le_of_ble_eq_true rfl) (by decide) (fun M4 eM4 => ?_)
    have h := zK_bd h eM4
    refine r_aload_n dX5_insert_38 rfl ?_
    refine r_getR (k := o) (q := (o + 1)) dX5_insert_39 zf_X5_9 (zo_X5 ho) (zr_X5_0 ho).1 (zr_X5_0 ho).2.1 (zr_X5_0 ho).2.2 ?_
    refine r_iload_n dX5_insert_42 rfl ?_
    refine r_lload_n dX5_insert_43 rfl ?_
    obtain ⟨g5, h⟩ := zK_gd h
    refine r_last dX5_insert_44 (za_X5_0 ho) g5 (fun M6 eM6 => ?_)
    have h := zK_bd h eM6
    refine r_aload_n dX5_insert_45 rfl ?_
    refine r_dup dX5_insert_46 rfl ?_
    refine r_getI (k := o) dX5_insert_47 zf_X5_15 (zo_X5 ho) (zi_X5_1 ho) ?_
    refine r_iconst (v := (nI 1)) dX5_insert_50 (by decide) ?_
    refine r_iadd dX5_insert_51 ?_
    refine r_putI (k := o) dX5_insert_52 zp_X5_15 (zo_X5 ho) (zi_X5_1 ho) rfl rfl (fun M7 eM7 => ?_)
    have h := zK_bd h eM7
    exact r_vret dX5_insert_55 rfl rfl rfl (kR (M7) (zK_some h))
  · have h := zK_neg h c1
    exact r_vret dX5_insert_10 rfl rfl rfl (kR (M) (zK_some h))
set_option maxHeartbeats 4000000 in
set_option maxRecDepth 100000 in
theorem c_X5_insert {G : zzG} {t : Nat} {Q : Option Value → zzMem → Prop} (o : Nat) (a1 : Int64) (M : zzMem) (ho : zI_X5 t o) {P : zzMem → Prop} (h : zK (f_X5_insert o a1 M) P) (kR : ∀ r : zzMem, P r → Q none r) : zz_S G m_X5_insert t t [.ref o, .long a1] M Q :=
  zz_S_of (by decide) (by decide) (Nat.le_of_ble_eq_true rfl) (w_X5_insert_0 o a1 M ho h kR)
noncomputable def f_X2_goesAtNextSplit (o : Nat) (a1 : Int64) (M : zzMem) : Option Bool :=
  zbd (((nI 2) * (f_X2_span o M))) (fun x1 =>
  if x1 ≤ 0 then
  (some false)
  else (zgd (¬ x1 = 0) (
  if (zrm (f_X1_hashOf a1) x1) = (M.1 o 9) then
  (some false)
  else (some true))))
set_option maxHeartbeats 4000000 in
set_option maxRecDepth 100000 in
theorem w_X2_goesAtNextSplit_0 {G : zzG} {t : Nat} {Q : Option Value → zzMem → Prop} (o : Nat) (a1 : Int64) (M : zzMem) (ho : zI_X2 t o) {P : Bool → Prop} (h : zK (f_X2_goesAtNextSplit o a1 M) P) (kR : ∀ r : Bool, P r → Q (some (.int (zb r))) M) : zz_W G m_X2_goesAtNextSplit t t t 0 [some (.ref o), some (.long a1), none, none] [] M Q := by
  unfold f_X2_goesAtNextSplit at h
  refine r_iconst (v := (nI 2)) dX2_goesAtNextSplit_0 (by decide) ?_
  refine r_aload_n dX2_goesAtNextSplit_1 rfl ?_
  refine tV_ir (v := f_X2_span o M) (as := []) (st := [.int (nI 2)]) (k := o) dX2_goesAtNextSplit_2 zM_X2_span zk_X2_103 (zo_X2 ho) (by decide) rfl ⟨Nat.le_of_ble_eq_true rfl, Nat.le_of_ble_eq_true rfl⟩ (Nat.le_of_ble_eq_true rfl) (zz_T0 rfl rfl) (fun Q' h => c_X2_span (o) M ho h) ?_
  refine r_imul dX2_goesAtNextSplit_5 ?_
  refine r_istore_n (fun x1 => [some (.ref o), some (.long a1), none, some (.int x1)]) dX2_goesAtNextSplit_6 (by decide) rfl (fun _ => rfl) (fun x1 ex1 => ?_)
  have h := zK_bd h ex1
  refine r_iload_n dX2_goesAtNextSplit_7 rfl ?_
  refine r_if_le 28 dX2_goesAtNextSplit_8 (by decide) (fun c2 => ?_) (fun c2 => ?_)
  · have h := zK_pos h c2
    refine r_iconst (v := (nI 0)) dX2_goesAtNextSplit_28 (by decide) ?_
    exact r_zret (b := false) dX2_goesAtNextSplit_29 rfl rfl rfl (kR (false) (zK_some h))
  · have h := zK_neg h c2
    refine r_lload_n dX2_goesAtNextSplit_11 rfl ?_
    refine tS_ir (v := f_X1_hashOf a1) (as := [.long a1]) (st := []) dX2_goesAtNextSplit_12 zM_X1_hashOf zk_X2_189 ⟨Nat.le_of_ble_eq_true rfl, Nat.le_of_ble_eq_true rfl⟩ (Nat.le_of_ble_eq_true rfl) (zz_T0 rfl rfl) (fun Q' h => c_X1_hashOf (a1) M h) ?_
    refine r_iload_n dX2_goesAtNextSplit_15 rfl ?_
    obtain ⟨g3, h⟩ := zK_gd h
    refine r_irem dX2_goesAtNextSplit_16 g3 ?_
    refine r_aload_n dX2_goesAtNextSplit_17 rfl ?_
    refine r_getI (k := o) dX2_goesAtNextSplit_18 zf_X2_55 (zo_X2 ho) (zi_X2_9 ho) ?_
    refine r_icmp_eq 28 dX2_goesAtNextSplit_21 (by decide) (fun c4 => ?_) (fun c4 => ?_)
    · have h := zK_pos h c4
      refine r_iconst (v := (nI 0)) dX2_goesAtNextSplit_28 (by decide) ?_
      exact r_zret (b := false) dX2_goesAtNextSplit_29 rfl rfl rfl (kR (false) (zK_some h))
    · have h := zK_neg h c4
      refine r_iconst (v := (nI 1)) dX2_goesAtNextSplit_24 (by decide) ?_
      refine r_goto 29 dX2_goesAtNextSplit_25 (by decide) ?_
      exact r_zret (b := true) dX2_goesAtNextSplit_29 rfl rfl rfl (kR (true) (zK_some h))
set_option maxHeartbeats 4000000 in
set_option maxRecDepth 100000 in
theorem c_X2_goesAtNextSplit {G : zzG} {t : Nat} {Q : Option Value → zzMem → Prop} (o : Nat) (a1 : Int64) (M : zzMem) (ho : zI_X2 t o) {P : Bool → Prop} (h : zK (f_X2_goesAtNextSplit o a1 M) P) (kR : ∀ r : Bool, P r → Q (some (.int (zb r))) M) : zz_S G m_X2_goesAtNextSplit t t [.ref o, .long a1] M Q :=
  zz_S_of (by decide) (by decide) (Nat.le_of_ble_eq_true rfl) (w_X2_goesAtNextSplit_0 o a1 M ho h kR)
noncomputable def j_X2_divide_244 (o : Nat) (v2 : Int32) (M : zzMem) : Option (Int32 × zzMem) :=
  zgd (vp_in v2 64) (
  some (((M.1 (o + 12) (v2).toNatClampNeg), M)))
set_option maxHeartbeats 4000000 in
set_option maxRecDepth 100000 in
theorem w_X2_divide_244 {G : zzG} {t : Nat} {Q : Option Value → zzMem → Prop} (o : Nat) (v2 : Int32) (M : zzMem) (ho : zI_X2 t o) {P : (Int32 × zzMem) → Prop} (h : zK (j_X2_divide_244 o v2 M) P) (kR : ∀ r : (Int32 × zzMem), P r → Q (some (.int r.1)) r.2) : zz_W G m_X2_divide t t t 244 [some (.ref o), none, some (.int v2), none] [] M Q := by
  unfold j_X2_divide_244 at h
  refine r_aload_n dX2_divide_244 rfl ?_
  refine r_getR (k := o) (q := (o + 4)) dX2_divide_245 zf_X2_21 (zo_X2 ho) (zr_X2_1 ho).1 (zr_X2_1 ho).2.1 (zr_X2_1 ho).2.2 ?_
  refine r_getR (k := (o + 4)) (q := (o + 12)) dX2_divide_248 zf_X2_215 (zo_X0 (zc_X2_1 ho)) (zr_X0_7 (zc_X2_1 ho)).1 (zr_X0_7 (zc_X2_1 ho)).2.1 (zr_X0_7 (zc_X2_1 ho)).2.2 ?_
  refine r_iload_n dX2_divide_251 rfl ?_
  obtain ⟨g1, h⟩ := zK_gd h
  refine r_iald dX2_divide_252 (za_X0_7 (zc_X2_1 ho)) g1 ?_
  exact r_iret dX2_divide_253 rfl rfl rfl (kR (((M.1 (o + 12) (v2).toNatClampNeg), M)) (zK_some h))
noncomputable def b_X2_divide_119 (o : Nat) (v1 : Int32) (v2 : Int32) (v3 : Int32) (M : zzMem) : Option ((Int32 × zzMem) ⊕ (Int32 × zzMem)) :=
  if (M.1 (o + 4) 10) ≤ v3 then
  (zgd (vp_in v1 64) (
  zgd (vp_in v2 64) (
  zbd (zz_si M o 11 ((M.1 o 11) + ((M.1 (o + 13) (v1).toNatClampNeg) + (M.1 (o + 13) (v2).toNatClampNeg)))) (fun M4 =>
  zbd (zz_si M4 o 12 ((M4.1 o 12) + (nI 1))) (fun M5 =>
  zbd (zz_si M5 o 9 ((M5.1 o 9) + (nI 1))) (fun M6 =>
  if (M6.1 o 9) = (f_X2_span o M6) then
  (zbd (zz_si M6 o 8 ((M6.1 o 8) + (nI 1))) (fun M8 =>
  zbd (zz_si M8 o 9 (nI 0)) (fun M9 =>
  zup (j_X2_divide_244 o v2 M9))))
  else (zup (j_X2_divide_244 o v2 M6))))))))
  else (zgd (vp_in v3 300) (
  (f_X2_goesAtNextSplit o (M.2 (o + 14) (v3).toNatClampNeg) M).bind (fun r11 =>
  if r11 = true then
  ((f_X0_append (o + 4) v2 (M.2 (o + 14) (v3).toNatClampNeg) M).bind (fun q14 => zpr q14 (fun r15 M16 =>
  zbd (v3 + (nI 1)) (fun x17 =>
  some (.inl (x17, M16))))))
  else (zbd (v3 + (nI 1)) (fun x13 =>
  some (.inl (x13, M)))))))
set_option maxHeartbeats 4000000 in
set_option maxRecDepth 100000 in
theorem x_X2_divide_119 {G : zzG} {t : Nat} {Q : Option Value → zzMem → Prop} (o : Nat) (v1 : Int32) (v2 : Int32) (v3 : Int32) (M : zzMem) (ho : zI_X2 t o) {P : ((Int32 × zzMem) ⊕ (Int32 × zzMem)) → Prop} (h : zK (b_X2_divide_119 o v1 v2 v3 M) P) (k119 : ∀ s : (Int32 × zzMem), P (.inl s) → zz_W G m_X2_divide t t t 119 [some (.ref o), some (.int v1), some (.int v2), some (.int s.1)] [] s.2 Q) (kR : ∀ r : (Int32 × zzMem), P (.inr r) → Q (some (.int r.1)) r.2) : zz_W G m_X2_divide t t t 119 [some (.ref o), some (.int v1), some (.int v2), some (.int v3)] [] M Q := by
  unfold b_X2_divide_119 at h
  refine r_iload_n dX2_divide_119 rfl ?_
  refine r_aload_n dX2_divide_120 rfl ?_
  refine r_getR (k := o) (q := (o + 4)) dX2_divide_121 zf_X2_21 (zo_X2 ho) (zr_X2_1 ho).1 (zr_X2_1 ho).2.1 (zr_X2_1 ho).2.2 ?_
  refine r_getI (k := (o + 4)) dX2_divide_124 zf_X2_206 (zo_X0 (zc_X2_1 ho)) (zi_X0_10 (zc_X2_1 ho)) ?_
  refine r_icmp_ge 170 dX2_divide_127 (by decide) (fun c1 => ?_) (fun c1 => ?_)
  · have h := zK_pos h c1
    refine r_aload_n dX2_divide_170 rfl ?_
    refine r_dup dX2_divide_171 rfl ?_
    refine r_getI (k := o) dX2_divide_172 zf_X2_61 (zo_X2 ho) (zi_X2_11 ho) ?_
    refine r_aload_n dX2_divide_175 rfl ?_
    refine r_getR (k := o) (q := (o + 4)) dX2_divide_176 zf_X2_21 (zo_X2 ho) (zr_X2_1 ho).1 (zr_X2_1 ho).2.1 (zr_X2_1 ho).2.2 ?_
    refine r_getR (k := (o + 4)) (q := (o + 13)) dX2_divide_179 zf_X2_145 (zo_X0 (zc_X2_1 ho)) (zr_X0_8 (zc_X2_1 ho)).1 (zr_X0_8 (zc_X2_1 ho)).2.1 (zr_X0_8 (zc_X2_1 ho)).2.2 ?_
    refine r_iload_n dX2_divide_182 rfl ?_
    obtain ⟨g2, h⟩ := zK_gd h
    refine r_iald dX2_divide_183 (za_X0_8 (zc_X2_1 ho)) g2 ?_
    refine r_aload_n dX2_divide_184 rfl ?_
    refine r_getR (k := o) (q := (o + 4)) dX2_divide_185 zf_X2_21 (zo_X2 ho) (zr_X2_1 ho).1 (zr_X2_1 ho).2.1 (zr_X2_1 ho).2.2 ?_
    refine r_getR (k := (o + 4)) (q := (o + 13)) dX2_divide_188 zf_X2_145 (zo_X0 (zc_X2_1 ho)) (zr_X0_8 (zc_X2_1 ho)).1 (zr_X0_8 (zc_X2_1 ho)).2.1 (zr_X0_8 (zc_X2_1 ho)).2.2 ?_
    refine r_iload_n dX2_divide_191 rfl ?_
    obtain ⟨g3, h⟩ := zK_gd h
    refine r_iald dX2_divide_192 (za_X0_8 (zc_X2_1 ho)) g3 ?_
    refine r_iadd dX2_divide_193 ?_
    refine r_iadd dX2_divide_194 ?_
    refine r_putI (k := o) dX2_divide_195 zp_X2_61 (zo_X2 ho) (zi_X2_11 ho) rfl rfl (fun M4 eM4 => ?_)
    have h := zK_bd h eM4
    refine r_aload_n dX2_divide_198 rfl ?_
    refine r_dup dX2_divide_199 rfl ?_
    refine r_getI (k := o) dX2_divide_200 zf_X2_64 (zo_X2 ho) (zi_X2_12 ho) ?_
    refine r_iconst (v := (nI 1)) dX2_divide_203 (by decide) ?_
    refine r_iadd dX2_divide_204 ?_
    refine r_putI (k := o) dX2_divide_205 zp_X2_64 (zo_X2 ho) (zi_X2_12 ho) rfl rfl (fun M5 eM5 => ?_)
    have h := zK_bd h eM5
    refine r_aload_n dX2_divide_208 rfl ?_
    refine r_dup dX2_divide_209 rfl ?_
    refine r_getI (k := o) dX2_divide_210 zf_X2_55 (zo_X2 ho) (zi_X2_9 ho) ?_
    refine r_iconst (v := (nI 1)) dX2_divide_213 (by decide) ?_
    refine r_iadd dX2_divide_214 ?_
    refine r_putI (k := o) dX2_divide_215 zp_X2_55 (zo_X2 ho) (zi_X2_9 ho) rfl rfl (fun M6 eM6 => ?_)
    have h := zK_bd h eM6
    refine r_aload_n dX2_divide_218 rfl ?_
    refine r_getI (k := o) dX2_divide_219 zf_X2_55 (zo_X2 ho) (zi_X2_9 ho) ?_
    refine r_aload_n dX2_divide_222 rfl ?_
    refine tV_ir (v := f_X2_span o M6) (as := []) (st := [.int (M6.1 o 9)]) (k := o) dX2_divide_223 zM_X2_span zk_X2_103 (zo_X2 ho) (by decide) rfl ⟨Nat.le_of_ble_eq_true rfl, Nat.le_of_ble_eq_true rfl⟩ (Nat.le_of_ble_eq_true rfl) (zz_T0 rfl rfl) (fun Q' h => c_X2_span (o) M6 ho h) ?_
    refine r_icmp_ne 244 dX2_divide_226 (by decide) (fun c7 => ?_) (fun c7 => ?_)
    · have h := zK_neg h c7
      refine zz_mask [1, 3] ?_
      exact w_X2_divide_244 (o) (v2) M6 ho (zK_up h) kR
    · have h := zK_pos h c7
      refine r_aload_n dX2_divide_229 rfl ?_
      refine r_dup dX2_divide_230 rfl ?_
      refine r_getI (k := o) dX2_divide_231 zf_X2_52 (zo_X2 ho) (zi_X2_8 ho) ?_
      refine r_iconst (v := (nI 1)) dX2_divide_234 (by decide) ?_
      refine r_iadd dX2_divide_235 ?_
      refine r_putI (k := o) dX2_divide_236 zp_X2_52 (zo_X2 ho) (zi_X2_8 ho) rfl rfl (fun M8 eM8 => ?_)
      have h := zK_bd h eM8
      refine r_aload_n dX2_divide_239 rfl ?_
      refine r_iconst (v := (nI 0)) dX2_divide_240 (by decide) ?_
      refine r_putI (k := o) dX2_divide_241 zp_X2_55 (zo_X2 ho) (zi_X2_9 ho) rfl rfl (fun M9 eM9 => ?_)
      have h := zK_bd h eM9
      refine zz_mask [1, 3] ?_
      exact w_X2_divide_244 (o) (v2) M9 ho (zK_up h) kR
  · have h := zK_neg h c1
    refine r_aload_n dX2_divide_130 rfl ?_
    refine r_aload_n dX2_divide_131 rfl ?_
    refine r_getR (k := o) (q := (o + 4)) dX2_divide_132 zf_X2_21 (zo_X2 ho) (zr_X2_1 ho).1 (zr_X2_1 ho).2.1 (zr_X2_1 ho).2.2 ?_
    refine r_getR (k := (o + 4)) (q := (o + 14)) dX2_divide_135 zf_X2_209 (zo_X0 (zc_X2_1 ho)) (zr_X0_9 (zc_X2_1 ho)).1 (zr_X0_9 (zc_X2_1 ho)).2.1 (zr_X0_9 (zc_X2_1 ho)).2.2 ?_
    refine r_iload_n dX2_divide_138 rfl ?_
    obtain ⟨g10, h⟩ := zK_gd h
    refine r_lald dX2_divide_139 (za_X0_9 (zc_X2_1 ho)) g10 ?_
    refine kV_zr (as := [.long (M.2 (o + 14) (v3).toNatClampNeg)]) (st := []) (k := o) dX2_divide_140 zM_X2_goesAtNextSplit zk_X2_212 (zo_X2 ho) (by decide) rfl ⟨Nat.le_of_ble_eq_true rfl, Nat.le_of_ble_eq_true rfl⟩ (Nat.le_of_ble_eq_true rfl) (zz_T0 rfl rfl) (fun Q' P' k h => c_X2_goesAtNextSplit (o) ((M.2 (o + 14) (v3).toNatClampNeg)) M ho h k) h (fun r11 h => ?_)
    refine r_ifZ_eq 164 dX2_divide_143 (by decide) (fun c12 => ?_) (fun c12 => ?_)
    · have h := zK_neg h c12
      refine r_iinc (nI 1) (fun x13 => [some (.ref o), some (.int v1), some (.int v2), some (.int x13)]) dX2_divide_164 rfl (by decide) (by decide) rfl (fun _ => rfl) (fun x13 ex13 => ?_)
      have h := zK_bd h ex13
      refine r_goto 119 dX2_divide_167 (by decide) ?_
      exact k119 ((x13, M)) (zK_some h)
    · have h := zK_pos h c12
      refine r_aload_n dX2_divide_146 rfl ?_
      refine r_getR (k := o) (q := (o + 4)) dX2_divide_147 zf_X2_21 (zo_X2 ho) (zr_X2_1 ho).1 (zr_X2_1 ho).2.1 (zr_X2_1 ho).2.2 ?_
      refine r_iload_n dX2_divide_150 rfl ?_
      refine r_aload_n dX2_divide_151 rfl ?_
      refine r_getR (k := o) (q := (o + 4)) dX2_divide_152 zf_X2_21 (zo_X2 ho) (zr_X2_1 ho).1 (zr_X2_1 ho).2.1 (zr_X2_1 ho).2.2 ?_
      refine r_getR (k := (o + 4)) (q := (o + 14)) dX2_divide_155 zf_X2_209 (zo_X0 (zc_X2_1 ho)) (zr_X0_9 (zc_X2_1 ho)).1 (zr_X0_9 (zc_X2_1 ho)).2.1 (zr_X0_9 (zc_X2_1 ho)).2.2 ?_
      refine r_iload_n dX2_divide_158 rfl ?_
      refine r_lald dX2_divide_159 (za_X0_9 (zc_X2_1 ho)) g10 ?_
      refine kV_zw (as := [.int v2, .long (M.2 (o + 14) (v3).toNatClampNeg)]) (st := []) (k := (o + 4)) dX2_divide_160 zM_X0_append zk_X2_165 (zo_X0 (zc_X2_1 ho)) (by decide) rfl ⟨Nat.le_of_ble_eq_true rfl, Nat.le_of_ble_eq_true rfl⟩ (Nat.le_of_ble_eq_true rfl) (zz_T0 rfl rfl) (fun Q' P' k h => c_X0_append ((o + 4)) (v2) ((M.2 (o + 14) (v3).toNatClampNeg)) M (zc_X2_1 ho) h (fun r p => k r.1 r.2 p)) h (fun r15 M16 h => ?_)
      have h := zK_pr h
      refine r_pop dX2_divide_163 rfl ?_
      refine r_iinc (nI 1) (fun x17 => [some (.ref o), some (.int v1), some (.int v2), some (.int x17)]) dX2_divide_164 rfl (by decide) (by decide) rfl (fun _ => rfl) (fun x17 ex17 => ?_)
      have h := zK_bd h ex17
      refine r_goto 119 dX2_divide_167 (by decide) ?_
      exact k119 ((x17, M16)) (zK_some h)
noncomputable def j_X2_divide_119 (o : Nat) (v1 : Int32) (v2 : Int32) (v3 : Int32) (M : zzMem) : Option (Int32 × zzMem) :=
  zlp (fun s : (Int32 × zzMem) => b_X2_divide_119 o v1 v2 s.1 s.2) (v3, M)
set_option maxHeartbeats 4000000 in
set_option maxRecDepth 100000 in
theorem w_X2_divide_119 {G : zzG} {t : Nat} {Q : Option Value → zzMem → Prop} (o : Nat) (v1 : Int32) (v2 : Int32) (v3 : Int32) (M : zzMem) (ho : zI_X2 t o) {P : (Int32 × zzMem) → Prop} (h : zK (j_X2_divide_119 o v1 v2 v3 M) P) (kR : ∀ r : (Int32 × zzMem), P r → Q (some (.int r.1)) r.2) : zz_W G m_X2_divide t t t 119 [some (.ref o), some (.int v1), some (.int v2), some (.int v3)] [] M Q := by
  unfold j_X2_divide_119 at h
  exact zK_lp h (fun s : (Int32 × zzMem) => zz_W G m_X2_divide t t t 119 [some (.ref o), some (.int v1), some (.int v2), some (.int s.1)] [] s.2 Q) (fun s h => x_X2_divide_119 o v1 v2 s.1 s.2 ho h (fun s p => p) kR)
noncomputable def b_X2_divide_66 (o : Nat) (v1 : Int32) (v2 : Int32) (v3 : Int32) (M : zzMem) : Option ((Int32 × zzMem) ⊕ (Int32 × zzMem)) :=
  if (M.1 (o + 4) 10) ≤ v3 then
  (zup (j_X2_divide_119 o v1 v2 (nI 0) M))
  else (zgd (vp_in v3 300) (
  (f_X2_goesAtNextSplit o (M.2 (o + 14) (v3).toNatClampNeg) M).bind (fun r3 =>
  if r3 = true then
  (zbd (v3 + (nI 1)) (fun x5 =>
  some (.inl (x5, M))))
  else ((f_X0_append (o + 4) v1 (M.2 (o + 14) (v3).toNatClampNeg) M).bind (fun q6 => zpr q6 (fun r7 M8 =>
  zbd (v3 + (nI 1)) (fun x9 =>
  some (.inl (x9, M8)))))))))
set_option maxHeartbeats 4000000 in
set_option maxRecDepth 100000 in
theorem x_X2_divide_66 {G : zzG} {t : Nat} {Q : Option Value → zzMem → Prop} (o : Nat) (v1 : Int32) (v2 : Int32) (v3 : Int32) (M : zzMem) (ho : zI_X2 t o) {P : ((Int32 × zzMem) ⊕ (Int32 × zzMem)) → Prop} (h : zK (b_X2_divide_66 o v1 v2 v3 M) P) (k66 : ∀ s : (Int32 × zzMem), P (.inl s) → zz_W G m_X2_divide t t t 66 [some (.ref o), some (.int v1), some (.int v2), some (.int s.1)] [] s.2 Q) (kR : ∀ r : (Int32 × zzMem), P (.inr r) → Q (some (.int r.1)) r.2) : zz_W G m_X2_divide t t t 66 [some (.ref o), some (.int v1), some (.int v2), some (.int v3)] [] M Q := by
  unfold b_X2_divide_66 at h
  refine r_iload_n dX2_divide_66 rfl ?_
  refine r_aload_n dX2_divide_67 rfl ?_
  refine r_getR (k := o) (q := (o + 4)) dX2_divide_68 zf_X2_21 (zo_X2 ho) (zr_X2_1 ho).1 (zr_X2_1 ho).2.1 (zr_X2_1 ho).2.2 ?_
  refine r_getI (k := (o + 4)) dX2_divide_71 zf_X2_206 (zo_X0 (zc_X2_1 ho)) (zi_X0_10 (zc_X2_1 ho)) ?_
  refine r_icmp_ge 117 dX2_divide_74 (by decide) (fun c1 => ?_) (fun c1 => ?_)
  · have h := zK_pos h c1
    refine r_iconst (v := (nI 0)) dX2_divide_117 (by decide) ?_
    refine s_istore_n ([some (.ref o), some (.int v1), some (.int v2), some (.int (nI 0))]) dX2_divide_118 (by decide) rfl rfl ?_
    exact w_X2_divide_119 (o) (v1) (v2) ((nI 0)) M ho (zK_up h) kR
  · have h := zK_neg h c1
    refine r_aload_n dX2_divide_77 rfl ?_
    refine r_aload_n dX2_divide_78 rfl ?_
    refine r_getR (k := o) (q := (o + 4)) dX2_divide_79 zf_X2_21 (zo_X2 ho) (zr_X2_1 ho).1 (zr_X2_1 ho).2.1 (zr_X2_1 ho).2.2 ?_
    refine r_getR (k := (o + 4)) (q := (o + 14)) dX2_divide_82 zf_X2_209 (zo_X0 (zc_X2_1 ho)) (zr_X0_9 (zc_X2_1 ho)).1 (zr_X0_9 (zc_X2_1 ho)).2.1 (zr_X0_9 (zc_X2_1 ho)).2.2 ?_
    refine r_iload_n dX2_divide_85 rfl ?_
    obtain ⟨g2, h⟩ := zK_gd h
    refine r_lald dX2_divide_86 (za_X0_9 (zc_X2_1 ho)) g2 ?_
    refine kV_zr (as := [.long (M.2 (o + 14) (v3).toNatClampNeg)]) (st := []) (k := o) dX2_divide_87 zM_X2_goesAtNextSplit zk_X2_212 (zo_X2 ho) (by decide) rfl ⟨Nat.le_of_ble_eq_true rfl, Nat.le_of_ble_eq_true rfl⟩ (Nat.le_of_ble_eq_true rfl) (zz_T0 rfl rfl) (fun Q' P' k h => c_X2_goesAtNextSplit (o) ((M.2 (o + 14) (v3).toNatClampNeg)) M ho h k) h (fun r3 h => ?_)
    refine r_ifZ_ne 111 dX2_divide_90 (by decide) (fun c4 => ?_) (fun c4 => ?_)
    · have h := zK_pos h c4
      refine r_iinc (nI 1) (fun x5 => [some (.ref o), some (.int v1), some (.int v2), some (.int x5)]) dX2_divide_111 rfl (by decide) (by decide) rfl (fun _ => rfl) (fun x5 ex5 => ?_)
      have h := zK_bd h ex5
      refine r_goto 66 dX2_divide_114 (by decide) ?_
      exact k66 ((x5, M)) (zK_some h)
    · have h := zK_neg h c4
      refine r_aload_n dX2_divide_93 rfl ?_
      refine r_getR (k := o) (q := (o + 4)) dX2_divide_94 zf_X2_21 (zo_X2 ho) (zr_X2_1 ho).1 (zr_X2_1 ho).2.1 (zr_X2_1 ho).2.2 ?_
      refine r_iload_n dX2_divide_97 rfl ?_
      refine r_aload_n dX2_divide_98 rfl ?_
      refine r_getR (k := o) (q := (o + 4)) dX2_divide_99 zf_X2_21 (zo_X2 ho) (zr_X2_1 ho).1 (zr_X2_1 ho).2.1 (zr_X2_1 ho).2.2 ?_
      refine r_getR (k := (o + 4)) (q := (o + 14)) dX2_divide_102 zf_X2_209 (zo_X0 (zc_X2_1 ho)) (zr_X0_9 (zc_X2_1 ho)).1 (zr_X0_9 (zc_X2_1 ho)).2.1 (zr_X0_9 (zc_X2_1 ho)).2.2 ?_
      refine r_iload_n dX2_divide_105 rfl ?_
      refine r_lald dX2_divide_106 (za_X0_9 (zc_X2_1 ho)) g2 ?_
      refine kV_zw (as := [.int v1, .long (M.2 (o + 14) (v3).toNatClampNeg)]) (st := []) (k := (o + 4)) dX2_divide_107 zM_X0_append zk_X2_165 (zo_X0 (zc_X2_1 ho)) (by decide) rfl ⟨Nat.le_of_ble_eq_true rfl, Nat.le_of_ble_eq_true rfl⟩ (Nat.le_of_ble_eq_true rfl) (zz_T0 rfl rfl) (fun Q' P' k h => c_X0_append ((o + 4)) (v1) ((M.2 (o + 14) (v3).toNatClampNeg)) M (zc_X2_1 ho) h (fun r p => k r.1 r.2 p)) h (fun r7 M8 h => ?_)
      have h := zK_pr h
      refine r_pop dX2_divide_110 rfl ?_
      refine r_iinc (nI 1) (fun x9 => [some (.ref o), some (.int v1), some (.int v2), some (.int x9)]) dX2_divide_111 rfl (by decide) (by decide) rfl (fun _ => rfl) (fun x9 ex9 => ?_)
      have h := zK_bd h ex9
      refine r_goto 66 dX2_divide_114 (by decide) ?_
      exact k66 ((x9, M8)) (zK_some h)
noncomputable def j_X2_divide_66 (o : Nat) (v1 : Int32) (v2 : Int32) (v3 : Int32) (M : zzMem) : Option (Int32 × zzMem) :=
  zlp (fun s : (Int32 × zzMem) => b_X2_divide_66 o v1 v2 s.1 s.2) (v3, M)
set_option maxHeartbeats 4000000 in
set_option maxRecDepth 100000 in
theorem w_X2_divide_66 {G : zzG} {t : Nat} {Q : Option Value → zzMem → Prop} (o : Nat) (v1 : Int32) (v2 : Int32) (v3 : Int32) (M : zzMem) (ho : zI_X2 t o) {P : (Int32 × zzMem) → Prop} (h : zK (j_X2_divide_66 o v1 v2 v3 M) P) (kR : ∀ r : (Int32 × zzMem), P r → Q (some (.int r.1)) r.2) : zz_W G m_X2_divide t t t 66 [some (.ref o), some (.int v1), some (.int v2), some (.int v3)] [] M Q := by
  unfold j_X2_divide_66 at h
  exact zK_lp h (fun s : (Int32 × zzMem) => zz_W G m_X2_divide t t t 66 [some (.ref o), some (.int v1), some (.int v2), some (.int s.1)] [] s.2 Q) (fun s h => x_X2_divide_66 o v1 v2 s.1 s.2 ho h (fun s p => p) kR)
noncomputable def f_X2_divide (o : Nat) (M : zzMem) : Option (Int32 × zzMem) :=
  if (f_X2_isFull o M) = true then
  (some (((-3 : Int32), M)))
  else (zbd ((M.1 o 9)) (fun x2 =>
  zbd ((f_X2_buckets o M)) (fun x3 =>
  zgd (vp_in x2 64) (
  zbd (zz_si M o 10 ((M.1 o 10) + (M.1 (o + 13) (x2).toNatClampNeg))) (fun M5 =>
  (f_X0_gather (o + 4) x2 M5).bind (fun M6 =>
  (f_X0_empty (o + 4) x2 true M6).bind (fun M7 =>
  (f_X0_addPage (o + 4) x3 M7).bind (fun q8 => zpr q8 (fun r9 M10 =>
  j_X2_divide_66 o x2 x3 (nI 0) M10)))))))))
set_option maxHeartbeats 4000000 in
set_option maxRecDepth 100000 in
theorem w_X2_divide_0 {G : zzG} {t : Nat} {Q : Option Value → zzMem → Prop} (o : Nat) (M : zzMem) (ho : zI_X2 t o) {P : (Int32 × zzMem) → Prop} (h : zK (f_X2_divide o M) P) (kR : ∀ r : (Int32 × zzMem), P r → Q (some (.int r.1)) r.2) : zz_W G m_X2_divide t t t 0 [some (.ref o), none, none, none] [] M Q := by
  unfold f_X2_divide at h
  refine r_aload_n dX2_divide_0 rfl ?_
  refine tV_zr (v := f_X2_isFull o M) (as := []) (st := []) (k := o) dX2_divide_1 zM_X2_isFull zk_X2_191 (zo_X2 ho) (by decide) rfl ⟨Nat.le_of_ble_eq_true rfl, Nat.le_of_ble_eq_true rfl⟩ (Nat.le_of_ble_eq_true rfl) (zz_T0 rfl rfl) (fun Q' h => c_X2_isFull (o) M ho h) ?_
  refine r_ifZ_eq 10 dX2_divide_4 (by decide) (fun c1 => ?_) (fun c1 => ?_)
  · have h := zK_neg h c1
    refine r_aload_n dX2_divide_10 rfl ?_
    refine r_getI (k := o) dX2_divide_11 zf_X2_55 (zo_X2 ho) (zi_X2_9 ho) ?_
    refine r_istore_n (fun x2 => [some (.ref o), some (.int x2), none, none]) dX2_divide_14 (by decide) rfl (fun _ => rfl) (fun x2 ex2 => ?_)
    have h := zK_bd h ex2
    refine r_aload_n dX2_divide_15 rfl ?_
    refine tV_ir (v := f_X2_buckets o M) (as := []) (st := []) (k := o) dX2_divide_16 zM_X2_buckets zk_X2_96 (zo_X2 ho) (by decide) rfl ⟨Nat.le_of_ble_eq_true rfl, Nat.le_of_ble_eq_true rfl⟩ (Nat.le_of_ble_eq_true rfl) (zz_T0 rfl rfl) (fun Q' h => c_X2_buckets (o) M ho h) ?_
    refine r_istore_n (fun x3 => [some (.ref o), some (.int x2), some (.int x3), none]) dX2_divide_19 (by decide) rfl (fun _ => rfl) (fun x3 ex3 => ?_)
    have h := zK_bd h ex3
    refine r_aload_n dX2_divide_20 rfl ?_
    refine r_dup dX2_divide_21 rfl ?_
    refine r_getI (k := o) dX2_divide_22 zf_X2_58 (zo_X2 ho) (zi_X2_10 ho) ?_
    refine r_aload_n dX2_divide_25 rfl ?_
    refine r_getR (k := o) (q := (o + 4)) dX2_divide_26 zf_X2_21 (zo_X2 ho) (zr_X2_1 ho).1 (zr_X2_1 ho).2.1 (zr_X2_1 ho).2.2 ?_
    refine r_getR (k := (o + 4)) (q := (o + 13)) dX2_divide_29 zf_X2_145 (zo_X0 (zc_X2_1 ho)) (zr_X0_8 (zc_X2_1 ho)).1 (zr_X0_8 (zc_X2_1 ho)).2.1 (zr_X0_8 (zc_X2_1 ho)).2.2 ?_
    refine r_iload_n dX2_divide_32 rfl ?_
    obtain ⟨g4, h⟩ := zK_gd h
    refine r_iald dX2_divide_33 (za_X0_8 (zc_X2_1 ho)) g4 ?_
    refine r_iadd dX2_divide_34 ?_
    refine r_putI (k := o) dX2_divide_35 zp_X2_58 (zo_X2 ho) (zi_X2_10 ho) rfl rfl (fun M5 eM5 => ?_)
    have h := zK_bd h eM5
    refine r_aload_n dX2_divide_38 rfl ?_
    refine r_getR (k := o) (q := (o + 4)) dX2_divide_39 zf_X2_21 (zo_X2 ho) (zr_X2_1 ho).1 (zr_X2_1 ho).2.1 (zr_X2_1 ho).2.2 ?_
    refine r_iload_n dX2_divide_42 rfl ?_
    refine kV_vw (as := [.int x2]) (st := []) (k := (o + 4)) dX2_divide_43 zM_X0_gather zk_X2_195 (zo_X0 (zc_X2_1 ho)) (by decide) rfl ⟨Nat.le_of_ble_eq_true rfl, Nat.le_of_ble_eq_true rfl⟩ (Nat.le_of_ble_eq_true rfl) (zz_T0 rfl rfl) (fun Q' P' k h => c_X0_gather ((o + 4)) (x2) M5 (zc_X2_1 ho) h k) h (fun M6 h => ?_)
    refine r_aload_n dX2_divide_46 rfl ?_
    refine r_getR (k := o) (q := (o + 4)) dX2_divide_47 zf_X2_21 (zo_X2 ho) (zr_X2_1 ho).1 (zr_X2_1 ho).2.1 (zr_X2_1 ho).2.2 ?_
    refine r_iload_n dX2_divide_50 rfl ?_
    refine r_iconst (v := (nI 1)) dX2_divide_51 (by decide) ?_
    refine kV_vw (as := [.int x2, .int (nI 1)]) (st := []) (k := (o + 4)) dX2_divide_52 zM_X0_empty zk_X2_199 (zo_X0 (zc_X2_1 ho)) (by decide) rfl ⟨Nat.le_of_ble_eq_true rfl, Nat.le_of_ble_eq_true rfl⟩ (Nat.le_of_ble_eq_true rfl) (zz_T0 rfl rfl) (fun Q' P' k h => c_X0_empty ((o + 4)) (x2) (true) M6 (zc_X2_1 ho) h k) h (fun M7 h => ?_)
    refine r_aload_n dX2_divide_55 rfl ?_
    refine r_getR (k := o) (q := (o + 4)) dX2_divide_56 zf_X2_21 (zo_X2 ho) (zr_X2_1 ho).1 (zr_X2_1 ho).2.1 (zr_X2_1 ho).2.2 ?_
    refine r_iload_n dX2_divide_59 rfl ?_
    refine kV_iw (as := [.int x3]) (st := []) (k := (o + 4)) dX2_divide_60 zM_X0_addPage zk_X2_203 (zo_X0 (zc_X2_1 ho)) (by decide) rfl ⟨Nat.le_of_ble_eq_true rfl, Nat.le_of_ble_eq_true rfl⟩ (Nat.le_of_ble_eq_true rfl) (zz_T0 rfl rfl) (fun Q' P' k h => c_X0_addPage ((o + 4)) (x3) M7 (zc_X2_1 ho) h (fun r p => k r.1 r.2 p)) h (fun r9 M10 h => ?_)
    have h := zK_pr h
    refine r_pop dX2_divide_63 rfl ?_
    refine r_iconst (v := (nI 0)) dX2_divide_64 (by decide) ?_
    refine s_istore_n ([some (.ref o), some (.int x2), some (.int x3), some (.int (nI 0))]) dX2_divide_65 (by decide) rfl rfl ?_
    exact w_X2_divide_66 (o) (x2) (x3) ((nI 0)) M10 ho h kR
  · have h := zK_pos h c1
    refine r_bipush (v := (-3 : Int32)) dX2_divide_7 (by decide) ?_
    exact r_iret dX2_divide_9 rfl rfl rfl (kR (((-3 : Int32), M)) (zK_some h))
set_option maxHeartbeats 4000000 in
set_option maxRecDepth 100000 in
theorem c_X2_divide {G : zzG} {t : Nat} {Q : Option Value → zzMem → Prop} (o : Nat) (M : zzMem) (ho : zI_X2 t o) {P : (Int32 × zzMem) → Prop} (h : zK (f_X2_divide o M) P) (kR : ∀ r : (Int32 × zzMem), P r → Q (some (.int r.1)) r.2) : zz_S G m_X2_divide t t [.ref o] M Q :=
  zz_S_of (by decide) (by decide) (Nat.le_of_ble_eq_true rfl) (w_X2_divide_0 o M ho h kR)
noncomputable def j_X2_store_166 (o : Nat) (M : zzMem) : Option (Int32 × zzMem) :=
  (f_X2_divide o M).bind (fun q1 => zpr q1 (fun r2 M3 =>
  some (((nI 0), M3))))
set_option maxHeartbeats 4000000 in
set_option maxRecDepth 100000 in
theorem w_X2_store_166 {G : zzG} {t : Nat} {Q : Option Value → zzMem → Prop} (o : Nat) (M : zzMem) (ho : zI_X2 t o) {P : (Int32 × zzMem) → Prop} (h : zK (j_X2_store_166 o M) P) (kR : ∀ r : (Int32 × zzMem), P r → Q (some (.int r.1)) r.2) : zz_W G m_X2_store t t t 166 [some (.ref o), none, none, none, none, none, none, none] [] M Q := by
  unfold j_X2_store_166 at h
  refine r_aload_n dX2_store_166 rfl ?_
  refine kV_iw (as := []) (st := []) (k := o) dX2_store_167 zM_X2_divide zk_X2_176 (zo_X2 ho) (by decide) rfl ⟨Nat.le_of_ble_eq_true rfl, Nat.le_of_ble_eq_true rfl⟩ (Nat.le_of_ble_eq_true rfl) (zz_T0 rfl rfl) (fun Q' P' k h => c_X2_divide (o) M ho h (fun r p => k r.1 r.2 p)) h (fun r2 M3 h => ?_)
  have h := zK_pr h
  refine r_pop dX2_store_170 rfl ?_
  refine r_iconst (v := (nI 0)) dX2_store_171 (by decide) ?_
  exact r_iret dX2_store_172 rfl rfl rfl (kR (((nI 0), M3)) (zK_some h))
noncomputable def j_X2_store_153 (o : Nat) (w7 : Bool) (M : zzMem) : Option (Int32 × zzMem) :=
  if (M.1 o 7) = (nI 2) then
  (if w7 = true then
  (j_X2_store_166 o M)
  else (some (((nI 0), M))))
  else (some (((nI 0), M)))
set_option maxHeartbeats 4000000 in
set_option maxRecDepth 100000 in
theorem w_X2_store_153 {G : zzG} {t : Nat} {Q : Option Value → zzMem → Prop} (o : Nat) (w7 : Bool) (M : zzMem) (ho : zI_X2 t o) {P : (Int32 × zzMem) → Prop} (h : zK (j_X2_store_153 o w7 M) P) (kR : ∀ r : (Int32 × zzMem), P r → Q (some (.int r.1)) r.2) : zz_W G m_X2_store t t t 153 [some (.ref o), none, none, none, none, none, none, some (.int (zb w7))] [] M Q := by
  unfold j_X2_store_153 at h
  refine r_aload_n dX2_store_153 rfl ?_
  refine r_getI (k := o) dX2_store_154 zf_X2_49 (zo_X2 ho) (zi_X2_7 ho) ?_
  refine r_iconst (v := (nI 2)) dX2_store_157 (by decide) ?_
  refine r_icmp_ne 171 dX2_store_158 (by decide) (fun c1 => ?_) (fun c1 => ?_)
  · have h := zK_neg h c1
    refine r_iconst (v := (nI 0)) dX2_store_171 (by decide) ?_
    exact r_iret dX2_store_172 rfl rfl rfl (kR (((nI 0), M)) (zK_some h))
  · have h := zK_pos h c1
    refine r_iload dX2_store_161 rfl ?_
    refine r_ifZ_eq 171 dX2_store_163 (by decide) (fun c2 => ?_) (fun c2 => ?_)
    · have h := zK_neg h c2
      refine r_iconst (v := (nI 0)) dX2_store_171 (by decide) ?_
      exact r_iret dX2_store_172 rfl rfl rfl (kR (((nI 0), M)) (zK_some h))
    · have h := zK_pos h c2
      refine zz_mask [7] ?_
      exact w_X2_store_166 (o) M ho h kR
noncomputable def j_X2_store_121 (o : Nat) (v5 : Int64) (w7 : Bool) (s1 : Int32) (s2 : Int32) (M : zzMem) : Option (Int32 × zzMem) :=
  zbd (zz_si M o 11 (s1 + s2)) (fun M1 =>
  (f_X5_insert (o + 15) v5 M1).bind (fun M2 =>
  if (M2.1 o 7) = (nI 1) then
  ((f_X2_load o M2).bind (fun r4 =>
  if (M2.1 o 5) < r4 then
  (j_X2_store_166 o M2)
  else (j_X2_store_153 o w7 M2)))
  else (j_X2_store_153 o w7 M2)))
set_option maxHeartbeats 4000000 in
set_option maxRecDepth 100000 in
theorem w_X2_store_121 {G : zzG} {t : Nat} {Q : Option Value → zzMem → Prop} (o : Nat) (v5 : Int64) (w7 : Bool) (s1 : Int32) (s2 : Int32) (M : zzMem) (ho : zI_X2 t o) {P : (Int32 × zzMem) → Prop} (h : zK (j_X2_store_121 o v5 w7 s1 s2 M) P) (kR : ∀ r : (Int32 × zzMem), P r → Q (some (.int r.1)) r.2) : zz_W G m_X2_store t t t 121 [some (.ref o), none, none, none, none, some (.long v5), none, some (.int (zb w7))] [.int s2, .int s1, .ref o] M Q := by
  unfold j_X2_store_121 at h
  refine r_iadd dX2_store_121 ?_
  refine r_putI (k := o) dX2_store_122 zp_X2_61 (zo_X2 ho) (zi_X2_11 ho) rfl rfl (fun M1 eM1 => ?_)
  have h := zK_bd h eM1
  refine r_aload_n dX2_store_125 rfl ?_
  refine r_getR (k := o) (q := (o + 15)) dX2_store_126 zf_X2_28 (zo_X2 ho) (zr_X2_2 ho).1 (zr_X2_2 ho).2.1 (zr_X2_2 ho).2.2 ?_
  refine r_lload dX2_store_129 rfl ?_
  refine kV_vw (as := [.long v5]) (st := []) (k := (o + 15)) dX2_store_131 zM_X5_insert zk_X2_169 (zo_X5 (zc_X2_2 ho)) (by decide) rfl ⟨Nat.le_of_ble_eq_true rfl, Nat.le_of_ble_eq_true rfl⟩ (Nat.le_of_ble_eq_true rfl) (zz_T0 rfl rfl) (fun Q' P' k h => c_X5_insert ((o + 15)) (v5) M1 (zc_X2_2 ho) h k) h (fun M2 h => ?_)
  refine r_aload_n dX2_store_134 rfl ?_
  refine r_getI (k := o) dX2_store_135 zf_X2_49 (zo_X2 ho) (zi_X2_7 ho) ?_
  refine r_iconst (v := (nI 1)) dX2_store_138 (by decide) ?_
  refine r_icmp_ne 153 dX2_store_139 (by decide) (fun c3 => ?_) (fun c3 => ?_)
  · have h := zK_neg h c3
    refine zz_mask [5] ?_
    exact w_X2_store_153 (o) (w7) M2 ho h kR
  · have h := zK_pos h c3
    refine r_aload_n dX2_store_142 rfl ?_
    refine kV_ir (as := []) (st := []) (k := o) dX2_store_143 zM_X2_load zk_X2_173 (zo_X2 ho) (by decide) rfl ⟨Nat.le_of_ble_eq_true rfl, Nat.le_of_ble_eq_true rfl⟩ (Nat.le_of_ble_eq_true rfl) (zz_T0 rfl rfl) (fun Q' P' k h => c_X2_load (o) M2 ho h k) h (fun r4 h => ?_)
    refine r_aload_n dX2_store_146 rfl ?_
    refine r_getI (k := o) dX2_store_147 zf_X2_43 (zo_X2 ho) (zi_X2_5 ho) ?_
    refine r_icmp_gt 166 dX2_store_150 (by decide) (fun c5 => ?_) (fun c5 => ?_)
    · have h := zK_pos h c5
      refine zz_mask [5, 7] ?_
      exact w_X2_store_166 (o) M2 ho h kR
    · have h := zK_neg h c5
      refine zz_mask [5] ?_
      exact w_X2_store_153 (o) (w7) M2 ho h kR
noncomputable def f_X2_store (o : Nat) (a1 : Int32) (a2 : Int32) (M : zzMem) : Option (Int32 × zzMem) :=
  (f_X3_hashOf (o + 1) a1 M).bind (fun q1 => zpr q1 (fun r2 M3 =>
  (f_X2_addressOf o r2 M3).bind (fun r4 =>
  (f_X5_codeOf a1 r2 (M3.1 o 4)).bind (fun r5 =>
  zbd (r5) (fun x6 =>
  (f_X5_has (o + 15) x6 M3).bind (fun r7 =>
  if r7 = true then
  ((f_X2_overwrite o r4 a1 (f_X1_of a1 a2 r2) M3).bind (fun M16 =>
  some (((nI 1), M16))))
  else (if (M3.1 (o + 15) 1) < (nI 300) then
  (zgd (vp_in r4 64) (
  zbd (zz_si M3 o 10 ((M3.1 o 10) + (M3.1 (o + 13) (r4).toNatClampNeg))) (fun M11 =>
  (f_X0_append (o + 4) r4 (f_X1_of a1 a2 r2) M11).bind (fun q12 => zpr q12 (fun r13 M14 =>
  if r13 = true then
  (j_X2_store_121 o x6 r13 (M14.1 o 11) (nI 2) M14)
  else (j_X2_store_121 o x6 r13 (M14.1 o 11) (nI 1) M14))))))
  else (some (((-3 : Int32), M3))))))))))
set_option maxHeartbeats 4000000 in
set_option maxRecDepth 100000 in
theorem w_X2_store_0 {G : zzG} {t : Nat} {Q : Option Value → zzMem → Prop} (o : Nat) (a1 : Int32) (a2 : Int32) (M : zzMem) (ho : zI_X2 t o) {P : (Int32 × zzMem) → Prop} (h : zK (f_X2_store o a1 a2 M) P) (kR : ∀ r : (Int32 × zzMem), P r → Q (some (.int r.1)) r.2) : zz_W G m_X2_store t t t 0 [some (.ref o), some (.int a1), some (.int a2), none, none, none, none, none] [] M Q := by
  unfold f_X2_store at h
  refine r_aload_n dX2_store_0 rfl ?_
  refine r_getR (k := o) (q := (o + 1)) dX2_store_1 zf_X2_12 (zo_X2 ho) (zr_X2_0 ho).1 (zr_X2_0 ho).2.1 (zr_X2_0 ho).2.2 ?_
  refine r_iload_n dX2_store_4 rfl ?_
  refine kV_iw (as := [.int a1]) (st := []) (k := (o + 1)) dX2_store_5 zM_X3_hashOf zk_X2_126 (zo_X3 (zc_X2_0 ho)) (by decide) rfl ⟨Nat.le_of_ble_eq_true rfl, Nat.le_of_ble_eq_true rfl⟩ (Nat.le_of_ble_eq_true rfl) (zz_T0 rfl rfl) (fun Q' P' k h => c_X3_hashOf ((o + 1)) (a1) M (zc_X2_0 ho) h (fun r p => k r.1 r.2 p)) h (fun r2 M3 h => ?_)
  have h := zK_pr h
  refine s_istore_n ([some (.ref o), some (.int a1), some (.int a2), some (.int r2), none, none, none, none]) dX2_store_8 (by decide) rfl rfl ?_
  refine r_aload_n dX2_store_9 rfl ?_
  refine r_iload_n dX2_store_10 rfl ?_
  refine kV_ir (as := [.int r2]) (st := []) (k := o) dX2_store_11 zM_X2_addressOf zk_X2_129 (zo_X2 ho) (by decide) rfl ⟨Nat.le_of_ble_eq_true rfl, Nat.le_of_ble_eq_true rfl⟩ (Nat.le_of_ble_eq_true rfl) (zz_T0 rfl rfl) (fun Q' P' k h => c_X2_addressOf (o) (r2) M3 ho h k) h (fun r4 h => ?_)
  refine s_istore ([some (.ref o), some (.int a1), some (.int a2), some (.int r2), some (.int r4), none, none, none]) dX2_store_14 (by decide) rfl rfl ?_
  refine r_iload_n dX2_store_16 rfl ?_
  refine r_iload_n dX2_store_17 rfl ?_
  refine r_aload_n dX2_store_18 rfl ?_
  refine r_getI (k := o) dX2_store_19 zf_X2_39 (zo_X2 ho) (zi_X2_4 ho) ?_
  refine kS_lr (as := [.int a1, .int r2, .int (M3.1 o 4)]) (st := []) dX2_store_22 zM_X5_codeOf zk_X2_118 ⟨Nat.le_of_ble_eq_true rfl, Nat.le_of_ble_eq_true rfl⟩ (Nat.le_of_ble_eq_true rfl) (zz_T0 rfl rfl) (fun Q' P' k h => c_X5_codeOf (a1) (r2) ((M3.1 o 4)) M3 h k) h (fun r5 h => ?_)
  refine r_lstore (fun x6 => [some (.ref o), some (.int a1), some (.int a2), some (.int r2), some (.int r4), some (.long x6), none, none]) dX2_store_25 (by decide) rfl (fun _ => rfl) (fun x6 ex6 => ?_)
  have h := zK_bd h ex6
  refine r_aload_n dX2_store_27 rfl ?_
  refine r_getR (k := o) (q := (o + 15)) dX2_store_28 zf_X2_28 (zo_X2 ho) (zr_X2_2 ho).1 (zr_X2_2 ho).2.1 (zr_X2_2 ho).2.2 ?_
  refine r_lload dX2_store_31 rfl ?_
  refine kV_zr (as := [.long x6]) (st := []) (k := (o + 15)) dX2_store_33 zM_X5_has zk_X2_122 (zo_X5 (zc_X2_2 ho)) (by decide) rfl ⟨Nat.le_of_ble_eq_true rfl, Nat.le_of_ble_eq_true rfl⟩ (Nat.le_of_ble_eq_true rfl) (zz_T0 rfl rfl) (fun Q' P' k h => c_X5_has ((o + 15)) (x6) M3 (zc_X2_2 ho) h k) h (fun r7 h => ?_)
  refine r_ifZ_eq 54 dX2_store_36 (by decide) (fun c8 => ?_) (fun c8 => ?_)
  · have h := zK_neg h c8
    refine r_aload_n dX2_store_54 rfl ?_
    refine r_getR (k := o) (q := (o + 15)) dX2_store_55 zf_X2_28 (zo_X2 ho) (zr_X2_2 ho).1 (zr_X2_2 ho).2.1 (zr_X2_2 ho).2.2 ?_
    refine r_getI (k := (o + 15)) dX2_store_58 zf_X2_77 (zo_X5 (zc_X2_2 ho)) (zi_X5_1 (zc_X2_2 ho)) ?_
    refine r_sipush (v := (nI 300)) dX2_store_61 (by decide) ?_
    refine r_icmp_lt 70 dX2_store_64 (by decide) (fun c9 => ?_) (fun c9 => ?_)
    · have h := zK_pos h c9
      refine r_aload_n dX2_store_70 rfl ?_
      refine r_dup dX2_store_71 rfl ?_
      refine r_getI (k := o) dX2_store_72 zf_X2_58 (zo_X2 ho) (zi_X2_10 ho) ?_
      refine r_aload_n dX2_store_75 rfl ?_
      refine r_getR (k := o) (q := (o + 4)) dX2_store_76 zf_X2_21 (zo_X2 ho) (zr_X2_1 ho).1 (zr_X2_1 ho).2.1 (zr_X2_1 ho).2.2 ?_
      refine r_getR (k := (o + 4)) (q := (o + 13)) dX2_store_79 zf_X2_145 (zo_X0 (zc_X2_1 ho)) (zr_X0_8 (zc_X2_1 ho)).1 (zr_X0_8 (zc_X2_1 ho)).2.1 (zr_X0_8 (zc_X2_1 ho)).2.2 ?_
      refine r_iload dX2_store_82 rfl ?_
      obtain ⟨g10, h⟩ := zK_gd h
      refine r_iald dX2_store_84 (za_X0_8 (zc_X2_1 ho)) g10 ?_
      refine r_iadd dX2_store_85 ?_
      refine r_putI (k := o) dX2_store_86 zp_X2_58 (zo_X2 ho) (zi_X2_10 ho) rfl rfl (fun M11 eM11 => ?_)
      have h := zK_bd h eM11
      refine r_aload_n dX2_store_89 rfl ?_
      refine r_getR (k := o) (q := (o + 4)) dX2_store_90 zf_X2_21 (zo_X2 ho) (zr_X2_1 ho).1 (zr_X2_1 ho).2.1 (zr_X2_1 ho).2.2 ?_
      refine r_iload dX2_store_93 rfl ?_
      refine r_iload_n dX2_store_95 rfl ?_
      refine r_iload_n dX2_store_96 rfl ?_
      refine r_iload_n dX2_store_97 rfl ?_
      refine tS_lr (v := f_X1_of a1 a2 r2) (as := [.int a1, .int a2, .int r2]) (st := [.int r4, .ref (o + 4)]) dX2_store_98 zM_X1_of zk_X2_158 ⟨Nat.le_of_ble_eq_true rfl, Nat.le_of_ble_eq_true rfl⟩ (Nat.le_of_ble_eq_true rfl) (zz_T0 rfl rfl) (fun Q' h => c_X1_of (a1) (a2) (r2) M11 h) ?_
      refine kV_zw (as := [.int r4, .long (f_X1_of a1 a2 r2)]) (st := []) (k := (o + 4)) dX2_store_101 zM_X0_append zk_X2_165 (zo_X0 (zc_X2_1 ho)) (by decide) rfl ⟨Nat.le_of_ble_eq_true rfl, Nat.le_of_ble_eq_true rfl⟩ (Nat.le_of_ble_eq_true rfl) (zz_T0 rfl rfl) (fun Q' P' k h => c_X0_append ((o + 4)) (r4) ((f_X1_of a1 a2 r2)) M11 (zc_X2_1 ho) h (fun r p => k r.1 r.2 p)) h (fun r13 M14 h => ?_)
      have h := zK_pr h
      refine s_istore ([some (.ref o), some (.int a1), some (.int a2), some (.int r2), some (.int r4), some (.long x6), none, some (.int (zb r13))]) dX2_store_104 (by decide) rfl rfl ?_
      refine r_aload_n dX2_store_106 rfl ?_
      refine r_dup dX2_store_107 rfl ?_
      refine r_getI (k := o) dX2_store_108 zf_X2_61 (zo_X2 ho) (zi_X2_11 ho) ?_
      refine r_iload dX2_store_111 rfl ?_
      refine r_ifZ_eq 120 dX2_store_113 (by decide) (fun c15 => ?_) (fun c15 => ?_)
      · have h := zK_neg h c15
        refine r_iconst (v := (nI 1)) dX2_store_120 (by decide) ?_
        refine zz_mask [1, 2, 3, 4] ?_
        exact w_X2_store_121 (o) (x6) (r13) ((M14.1 o 11)) ((nI 1)) M14 ho h kR
      · have h := zK_pos h c15
        refine r_iconst (v := (nI 2)) dX2_store_116 (by decide) ?_
        refine r_goto 121 dX2_store_117 (by decide) ?_
        refine zz_mask [1, 2, 3, 4] ?_
        exact w_X2_store_121 (o) (x6) (r13) ((M14.1 o 11)) ((nI 2)) M14 ho h kR
    · have h := zK_neg h c9
      refine r_bipush (v := (-3 : Int32)) dX2_store_67 (by decide) ?_
      exact r_iret dX2_store_69 rfl rfl rfl (kR (((-3 : Int32), M3)) (zK_some h))
  · have h := zK_pos h c8
    refine r_aload_n dX2_store_39 rfl ?_
    refine r_iload dX2_store_40 rfl ?_
    refine r_iload_n dX2_store_42 rfl ?_
    refine r_iload_n dX2_store_43 rfl ?_
    refine r_iload_n dX2_store_44 rfl ?_
    refine r_iload_n dX2_store_45 rfl ?_
    refine tS_lr (v := f_X1_of a1 a2 r2) (as := [.int a1, .int a2, .int r2]) (st := [.int a1, .int r4, .ref o]) dX2_store_46 zM_X1_of zk_X2_158 ⟨Nat.le_of_ble_eq_true rfl, Nat.le_of_ble_eq_true rfl⟩ (Nat.le_of_ble_eq_true rfl) (zz_T0 rfl rfl) (fun Q' h => c_X1_of (a1) (a2) (r2) M3 h) ?_
    refine kV_vw (as := [.int r4, .int a1, .long (f_X1_of a1 a2 r2)]) (st := []) (k := o) dX2_store_49 zM_X2_overwrite zk_X2_161 (zo_X2 ho) (by decide) rfl ⟨Nat.le_of_ble_eq_true rfl, Nat.le_of_ble_eq_true rfl⟩ (Nat.le_of_ble_eq_true rfl) (zz_T0 rfl rfl) (fun Q' P' k h => c_X2_overwrite (o) (r4) (a1) ((f_X1_of a1 a2 r2)) M3 ho h k) h (fun M16 h => ?_)
    refine r_iconst (v := (nI 1)) dX2_store_52 (by decide) ?_
    exact r_iret dX2_store_53 rfl rfl rfl (kR (((nI 1), M16)) (zK_some h))
set_option maxHeartbeats 4000000 in
set_option maxRecDepth 100000 in
theorem c_X2_store {G : zzG} {t : Nat} {Q : Option Value → zzMem → Prop} (o : Nat) (a1 : Int32) (a2 : Int32) (M : zzMem) (ho : zI_X2 t o) {P : (Int32 × zzMem) → Prop} (h : zK (f_X2_store o a1 a2 M) P) (kR : ∀ r : (Int32 × zzMem), P r → Q (some (.int r.1)) r.2) : zz_S G m_X2_store t t [.ref o, .int a1, .int a2] M Q :=
  zz_S_of (by decide) (by decide) (Nat.le_of_ble_eq_true rfl) (w_X2_store_0 o a1 a2 M ho h kR)
noncomputable def f_X5_remove (o : Nat) (a1 : Int64) (M : zzMem) : Option zzMem :=
  (f_X5_placeFrom o a1 M).bind (fun r1 =>
  if (M.1 o 1) ≤ r1 then
  (some M)
  else (zgd (vp_in r1 300) (
  if (lg_cmp (M.2 (o + 1) (r1).toNatClampNeg) a1) = 0 then
  (zgd (zz_cpok 300 300 (r1 + (nI 1)) r1 (((M.1 o 1) - r1) - (nI 1))) (
  zbd (zz_cl M (o + 1) (r1 + (nI 1)) (o + 1) r1 (((M.1 o 1) - r1) - (nI 1))) (fun M6 =>
  zbd (zz_si M6 o 1 ((M6.1 o 1) - (nI 1))) (fun M7 =>
  some M7))))
  else (some M))))
set_option maxHeartbeats 4000000 in
set_option maxRecDepth 100000 in
theorem w_X5_remove_0 {G : zzG} {t : Nat} {Q : Option Value → zzMem → Prop} (o : Nat) (a1 : Int64) (M : zzMem) (ho : zI_X5 t o) {P : zzMem → Prop} (h : zK (f_X5_remove o a1 M) P) (kR : ∀ r : zzMem, P r → Q none r) : zz_W G m_X5_remove t t t 0 [some (.ref o), some (.long a1), none, none] [] M Q := by
  unfold f_X5_remove at h
  refine r_aload_n dX5_remove_0 rfl ?_
  refine r_lload_n dX5_remove_1 rfl ?_
  refine kV_ir (as := [.long a1]) (st := []) (k := o) dX5_remove_2 zM_X5_placeFrom zk_X5_29 (zo_X5 ho) (by decide) rfl ⟨Nat.le_of_ble_eq_true rfl, Nat.le_of_ble_eq_true rfl⟩ (Nat.le_of_ble_eq_true rfl) (zz_T0 rfl rfl) (fun Q' P' k h => c_X5_placeFrom (o) (a1) M ho h k) h (fun r1 h => ?_)
  refine s_istore_n ([some (.ref o), some (.long a1), none, some (.int r1)]) dX5_remove_5 (by decide) rfl rfl ?_
  refine r_iload_n dX5_remove_6 rfl ?_
  refine r_aload_n dX5_remove_7 rfl ?_
  refine r_getI (k := o) dX5_remove_8 zf_X5_15 (zo_X5 ho) (zi_X5_1 ho) ?_
  refine r_icmp_ge 25 dX5_remove_11 (by decide) (fun c2 => ?_) (fun c2 => ?_)
  · have h := zK_pos h c2
    exact r_vret dX5_remove_25 rfl rfl rfl (kR (M) (zK_some h))
  · have h := zK_neg h c2
    refine r_aload_n dX5_remove_14 rfl ?_
    refine r_getR (k := o) (q := (o + 1)) dX5_remove_15 zf_X5_9 (zo_X5 ho) (zr_X5_0 ho).1 (zr_X5_0 ho).2.1 (zr_X5_0 ho).2.2 ?_
    refine r_iload_n dX5_remove_18 rfl ?_
    obtain ⟨g3, h⟩ := zK_gd h
    refine r_lald dX5_remove_19 (za_X5_0 ho) g3 ?_
    refine r_lload_n dX5_remove_20 rfl ?_
    refine r_lcmp dX5_remove_21 ?_
    refine r_if_eq 26 dX5_remove_22 (by decide) (fun c4 => ?_) (fun c4 => ?_)
    · have h := zK_pos h c4
      refine r_aload_n dX5_remove_26 rfl ?_
      refine r_getR (k := o) (q := (o + 1)) dX5_remove_27 zf_X5_9 (zo_X5 ho) (zr_X5_0 ho).1 (zr_X5_0 ho).2.1 (zr_X5_0 ho).2.2 ?_
      refine r_iload_n dX5_remove_30 rfl ?_
      refine r_iconst (v := (nI 1)) dX5_remove_31 (by decide) ?_
      refine r_iadd dX5_remove_32 ?_
      refine r_aload_n dX5_remove_33 rfl ?_
      refine r_getR (k := o) (q := (o + 1)) dX5_remove_34 zf_X5_9 (zo_X5 ho) (zr_X5_0 ho).1 (zr_X5_0 ho).2.1 (zr_X5_0 ho).2.2 ?_
      refine r_iload_n dX5_remove_37 rfl ?_
      refine r_aload_n dX5_remove_38 rfl ?_
      refine r_getI (k := o) dX5_remove_39 zf_X5_15 (zo_X5 ho) (zi_X5_1 ho) ?_
      refine r_iload_n dX5_remove_42 rfl ?_
      refine r_isub dX5_remove_43 ?_
      refine r_iconst (v := (nI 1)) dX5_remove_44 (by decide) ?_
      refine r_isub dX5_remove_45 ?_
      obtain ⟨g5, h⟩ := zK_gd h
      refine r_copyl (k0 := (o + 1)) (k1 := (o + 1)) dX5_remove_46 zk_X5_23 zw_copy (za_X5_0 ho) (za_X5_0 ho) g5 (Nat.le_of_ble_eq_true rfl) (by decide) (fun M6 eM6 => ?_)
      have h := zK_bd h eM6
      refine r_aload_n dX5_remove_49 rfl ?_
      refine r_dup dX5_remove_50 rfl ?_
      refine r_getI (k := o) dX5_remove_51 zf_X5_15 (zo_X5 ho) (zi_X5_1 ho) ?_
      refine r_iconst (v := (nI 1)) dX5_remove_54 (by decide) ?_
      refine r_isub dX5_remove_55 ?_
      refine r_putI (k := o) dX5_remove_56 zp_X5_15 (zo_X5 ho) (zi_X5_1 ho) rfl rfl (fun M7 eM7 => ?_)
      have h := zK_bd h eM7
      exact r_vret dX5_remove_59 rfl rfl rfl (kR (M7) (zK_some h))
    · have h := zK_neg h c4
      exact r_vret dX5_remove_25 rfl rfl rfl (kR (M) (zK_some h))
set_option maxHeartbeats 4000000 in
set_option maxRecDepth 100000 in
theorem c_X5_remove {G : zzG} {t : Nat} {Q : Option Value → zzMem → Prop} (o : Nat) (a1 : Int64) (M : zzMem) (ho : zI_X5 t o) {P : zzMem → Prop} (h : zK (f_X5_remove o a1 M) P) (kR : ∀ r : zzMem, P r → Q none r) : zz_S G m_X5_remove t t [.ref o, .long a1] M Q :=
  zz_S_of (by decide) (by decide) (Nat.le_of_ble_eq_true rfl) (w_X5_remove_0 o a1 M ho h kR)
noncomputable def b_X2_unite_104 (o : Nat) (v2 : Int32) (M : zzMem) : Option ((Int32 × zzMem) ⊕ (Int32 × zzMem)) :=
  if (M.1 (o + 4) 10) ≤ v2 then
  (zgd (vp_in (M.1 o 9) 64) (
  zbd (zz_si M o 11 ((M.1 o 11) + (M.1 (o + 13) ((M.1 o 9)).toNatClampNeg))) (fun M3 =>
  zbd (zz_si M3 o 13 ((M3.1 o 13) + (nI 1))) (fun M4 =>
  some ((.inr ((M4.1 (o + 4) 10), M4)))))))
  else (zgd (vp_in v2 300) (
  (f_X0_append (o + 4) (M.1 o 9) (M.2 (o + 14) (v2).toNatClampNeg) M).bind (fun q6 => zpr q6 (fun r7 M8 =>
  zbd (v2 + (nI 1)) (fun x9 =>
  some (.inl (x9, M8)))))))
set_option maxHeartbeats 4000000 in
set_option maxRecDepth 100000 in
theorem x_X2_unite_104 {G : zzG} {t : Nat} {Q : Option Value → zzMem → Prop} (o : Nat) (v2 : Int32) (M : zzMem) (ho : zI_X2 t o) {P : ((Int32 × zzMem) ⊕ (Int32 × zzMem)) → Prop} (h : zK (b_X2_unite_104 o v2 M) P) (k104 : ∀ s : (Int32 × zzMem), P (.inl s) → zz_W G m_X2_unite t t t 104 [some (.ref o), none, some (.int s.1)] [] s.2 Q) (kR : ∀ r : (Int32 × zzMem), P (.inr r) → Q (some (.int r.1)) r.2) : zz_W G m_X2_unite t t t 104 [some (.ref o), none, some (.int v2)] [] M Q := by
  unfold b_X2_unite_104 at h
  refine r_iload_n dX2_unite_104 rfl ?_
  refine r_aload_n dX2_unite_105 rfl ?_
  refine r_getR (k := o) (q := (o + 4)) dX2_unite_106 zf_X2_21 (zo_X2 ho) (zr_X2_1 ho).1 (zr_X2_1 ho).2.1 (zr_X2_1 ho).2.2 ?_
  refine r_getI (k := (o + 4)) dX2_unite_109 zf_X2_206 (zo_X0 (zc_X2_1 ho)) (zi_X0_10 (zc_X2_1 ho)) ?_
  refine r_icmp_ge 142 dX2_unite_112 (by decide) (fun c1 => ?_) (fun c1 => ?_)
  · have h := zK_pos h c1
    refine r_aload_n dX2_unite_142 rfl ?_
    refine r_dup dX2_unite_143 rfl ?_
    refine r_getI (k := o) dX2_unite_144 zf_X2_61 (zo_X2 ho) (zi_X2_11 ho) ?_
    refine r_aload_n dX2_unite_147 rfl ?_
    refine r_getR (k := o) (q := (o + 4)) dX2_unite_148 zf_X2_21 (zo_X2 ho) (zr_X2_1 ho).1 (zr_X2_1 ho).2.1 (zr_X2_1 ho).2.2 ?_
    refine r_getR (k := (o + 4)) (q := (o + 13)) dX2_unite_151 zf_X2_145 (zo_X0 (zc_X2_1 ho)) (zr_X0_8 (zc_X2_1 ho)).1 (zr_X0_8 (zc_X2_1 ho)).2.1 (zr_X0_8 (zc_X2_1 ho)).2.2 ?_
    refine r_aload_n dX2_unite_154 rfl ?_
    refine r_getI (k := o) dX2_unite_155 zf_X2_55 (zo_X2 ho) (zi_X2_9 ho) ?_
    obtain ⟨g2, h⟩ := zK_gd h
    refine r_iald dX2_unite_158 (za_X0_8 (zc_X2_1 ho)) g2 ?_
    refine r_iadd dX2_unite_159 ?_
    refine r_putI (k := o) dX2_unite_160 zp_X2_61 (zo_X2 ho) (zi_X2_11 ho) rfl rfl (fun M3 eM3 => ?_)
    have h := zK_bd h eM3
    refine r_aload_n dX2_unite_163 rfl ?_
    refine r_dup dX2_unite_164 rfl ?_
    refine r_getI (k := o) dX2_unite_165 zf_X2_67 (zo_X2 ho) (zi_X2_13 ho) ?_
    refine r_iconst (v := (nI 1)) dX2_unite_168 (by decide) ?_
    refine r_iadd dX2_unite_169 ?_
    refine r_putI (k := o) dX2_unite_170 zp_X2_67 (zo_X2 ho) (zi_X2_13 ho) rfl rfl (fun M4 eM4 => ?_)
    have h := zK_bd h eM4
    refine r_aload_n dX2_unite_173 rfl ?_
    refine r_getR (k := o) (q := (o + 4)) dX2_unite_174 zf_X2_21 (zo_X2 ho) (zr_X2_1 ho).1 (zr_X2_1 ho).2.1 (zr_X2_1 ho).2.2 ?_
    refine r_getI (k := (o + 4)) dX2_unite_177 zf_X2_206 (zo_X0 (zc_X2_1 ho)) (zi_X0_10 (zc_X2_1 ho)) ?_
    exact r_iret dX2_unite_180 rfl rfl rfl (kR (((M4.1 (o + 4) 10), M4)) (zK_some h))
  · have h := zK_neg h c1
    refine r_aload_n dX2_unite_115 rfl ?_
    refine r_getR (k := o) (q := (o + 4)) dX2_unite_116 zf_X2_21 (zo_X2 ho) (zr_X2_1 ho).1 (zr_X2_1 ho).2.1 (zr_X2_1 ho).2.2 ?_
    refine r_aload_n dX2_unite_119 rfl ?_
    refine r_getI (k := o) dX2_unite_120 zf_X2_55 (zo_X2 ho) (zi_X2_9 ho) ?_
    refine r_aload_n dX2_unite_123 rfl ?_
    refine r_getR (k := o) (q := (o + 4)) dX2_unite_124 zf_X2_21 (zo_X2 ho) (zr_X2_1 ho).1 (zr_X2_1 ho).2.1 (zr_X2_1 ho).2.2 ?_
    refine r_getR (k := (o + 4)) (q := (o + 14)) dX2_unite_127 zf_X2_209 (zo_X0 (zc_X2_1 ho)) (zr_X0_9 (zc_X2_1 ho)).1 (zr_X0_9 (zc_X2_1 ho)).2.1 (zr_X0_9 (zc_X2_1 ho)).2.2 ?_
    refine r_iload_n dX2_unite_130 rfl ?_
    obtain ⟨g5, h⟩ := zK_gd h
    refine r_lald dX2_unite_131 (za_X0_9 (zc_X2_1 ho)) g5 ?_
    refine kV_zw (as := [.int (M.1 o 9), .long (M.2 (o + 14) (v2).toNatClampNeg)]) (st := []) (k := (o + 4)) dX2_unite_132 zM_X0_append zk_X2_165 (zo_X0 (zc_X2_1 ho)) (by decide) rfl ⟨Nat.le_of_ble_eq_true rfl, Nat.le_of_ble_eq_true rfl⟩ (Nat.le_of_ble_eq_true rfl) (zz_T0 rfl rfl) (fun Q' P' k h => c_X0_append ((o + 4)) ((M.1 o 9)) ((M.2 (o + 14) (v2).toNatClampNeg)) M (zc_X2_1 ho) h (fun r p => k r.1 r.2 p)) h (fun r7 M8 h => ?_)
    have h := zK_pr h
    refine r_pop dX2_unite_135 rfl ?_
    refine r_iinc (nI 1) (fun x9 => [some (.ref o), none, some (.int x9)]) dX2_unite_136 rfl (by decide) (by decide) rfl (fun _ => rfl) (fun x9 ex9 => ?_)
    have h := zK_bd h ex9
    refine r_goto 104 dX2_unite_139 (by decide) ?_
    exact k104 ((x9, M8)) (zK_some h)
noncomputable def j_X2_unite_104 (o : Nat) (v2 : Int32) (M : zzMem) : Option (Int32 × zzMem) :=
  zlp (fun s : (Int32 × zzMem) => b_X2_unite_104 o s.1 s.2) (v2, M)
set_option maxHeartbeats 4000000 in
set_option maxRecDepth 100000 in
theorem w_X2_unite_104 {G : zzG} {t : Nat} {Q : Option Value → zzMem → Prop} (o : Nat) (v2 : Int32) (M : zzMem) (ho : zI_X2 t o) {P : (Int32 × zzMem) → Prop} (h : zK (j_X2_unite_104 o v2 M) P) (kR : ∀ r : (Int32 × zzMem), P r → Q (some (.int r.1)) r.2) : zz_W G m_X2_unite t t t 104 [some (.ref o), none, some (.int v2)] [] M Q := by
  unfold j_X2_unite_104 at h
  exact zK_lp h (fun s : (Int32 × zzMem) => zz_W G m_X2_unite t t t 104 [some (.ref o), none, some (.int s.1)] [] s.2 Q) (fun s h => x_X2_unite_104 o s.1 s.2 ho h (fun s p => p) kR)
noncomputable def j_X2_unite_39 (o : Nat) (M : zzMem) : Option (Int32 × zzMem) :=
  zbd (zz_si M o 9 ((M.1 o 9) - (nI 1))) (fun M1 =>
  zbd ((f_X2_buckets o M1)) (fun x2 =>
  zgd (vp_in (M1.1 o 9) 64) (
  zgd (vp_in x2 64) (
  zbd (zz_si M1 o 10 ((M1.1 o 10) + ((M1.1 (o + 13) ((M1.1 o 9)).toNatClampNeg) + (M1.1 (o + 13) (x2).toNatClampNeg)))) (fun M5 =>
  (f_X0_gather (o + 4) x2 M5).bind (fun M6 =>
  (f_X0_empty (o + 4) x2 false M6).bind (fun M7 =>
  j_X2_unite_104 o (nI 0) M7)))))))
set_option maxHeartbeats 4000000 in
set_option maxRecDepth 100000 in
theorem w_X2_unite_39 {G : zzG} {t : Nat} {Q : Option Value → zzMem → Prop} (o : Nat) (M : zzMem) (ho : zI_X2 t o) {P : (Int32 × zzMem) → Prop} (h : zK (j_X2_unite_39 o M) P) (kR : ∀ r : (Int32 × zzMem), P r → Q (some (.int r.1)) r.2) : zz_W G m_X2_unite t t t 39 [some (.ref o), none, none] [] M Q := by
  unfold j_X2_unite_39 at h
  refine r_aload_n dX2_unite_39 rfl ?_
  refine r_dup dX2_unite_40 rfl ?_
  refine r_getI (k := o) dX2_unite_41 zf_X2_55 (zo_X2 ho) (zi_X2_9 ho) ?_
  refine r_iconst (v := (nI 1)) dX2_unite_44 (by decide) ?_
  refine r_isub dX2_unite_45 ?_
  refine r_putI (k := o) dX2_unite_46 zp_X2_55 (zo_X2 ho) (zi_X2_9 ho) rfl rfl (fun M1 eM1 => ?_)
  have h := zK_bd h eM1
  refine r_aload_n dX2_unite_49 rfl ?_
  refine tV_ir (v := f_X2_buckets o M1) (as := []) (st := []) (k := o) dX2_unite_50 zM_X2_buckets zk_X2_96 (zo_X2 ho) (by decide) rfl ⟨Nat.le_of_ble_eq_true rfl, Nat.le_of_ble_eq_true rfl⟩ (Nat.le_of_ble_eq_true rfl) (zz_T0 rfl rfl) (fun Q' h => c_X2_buckets (o) M1 ho h) ?_
  refine r_istore_n (fun x2 => [some (.ref o), some (.int x2), none]) dX2_unite_53 (by decide) rfl (fun _ => rfl) (fun x2 ex2 => ?_)
  have h := zK_bd h ex2
  refine r_aload_n dX2_unite_54 rfl ?_
  refine r_dup dX2_unite_55 rfl ?_
  refine r_getI (k := o) dX2_unite_56 zf_X2_58 (zo_X2 ho) (zi_X2_10 ho) ?_
  refine r_aload_n dX2_unite_59 rfl ?_
  refine r_getR (k := o) (q := (o + 4)) dX2_unite_60 zf_X2_21 (zo_X2 ho) (zr_X2_1 ho).1 (zr_X2_1 ho).2.1 (zr_X2_1 ho).2.2 ?_
  refine r_getR (k := (o + 4)) (q := (o + 13)) dX2_unite_63 zf_X2_145 (zo_X0 (zc_X2_1 ho)) (zr_X0_8 (zc_X2_1 ho)).1 (zr_X0_8 (zc_X2_1 ho)).2.1 (zr_X0_8 (zc_X2_1 ho)).2.2 ?_
  refine r_aload_n dX2_unite_66 rfl ?_
  refine r_getI (k := o) dX2_unite_67 zf_X2_55 (zo_X2 ho) (zi_X2_9 ho) ?_
  obtain ⟨g3, h⟩ := zK_gd h
  refine r_iald dX2_unite_70 (za_X0_8 (zc_X2_1 ho)) g3 ?_
  refine r_aload_n dX2_unite_71 rfl ?_
  refine r_getR (k := o) (q := (o + 4)) dX2_unite_72 zf_X2_21 (zo_X2 ho) (zr_X2_1 ho).1 (zr_X2_1 ho).2.1 (zr_X2_1 ho).2.2 ?_
  refine r_getR (k := (o + 4)) (q := (o + 13)) dX2_unite_75 zf_X2_145 (zo_X0 (zc_X2_1 ho)) (zr_X0_8 (zc_X2_1 ho)).1 (zr_X0_8 (zc_X2_1 ho)).2.1 (zr_X0_8 (zc_X2_1 ho)).2.2 ?_
  refine r_iload_n dX2_unite_78 rfl ?_
  obtain ⟨g4, h⟩ := zK_gd h
  refine r_iald dX2_unite_79 (za_X0_8 (zc_X2_1 ho)) g4 ?_
  refine r_iadd dX2_unite_80 ?_
  refine r_iadd dX2_unite_81 ?_
  refine r_putI (k := o) dX2_unite_82 zp_X2_58 (zo_X2 ho) (zi_X2_10 ho) rfl rfl (fun M5 eM5 => ?_)
  have h := zK_bd h eM5
  refine r_aload_n dX2_unite_85 rfl ?_
  refine r_getR (k := o) (q := (o + 4)) dX2_unite_86 zf_X2_21 (zo_X2 ho) (zr_X2_1 ho).1 (zr_X2_1 ho).2.1 (zr_X2_1 ho).2.2 ?_
  refine r_iload_n dX2_unite_89 rfl ?_
  refine kV_vw (as := [.int x2]) (st := []) (k := (o + 4)) dX2_unite_90 zM_X0_gather zk_X2_195 (zo_X0 (zc_X2_1 ho)) (by decide) rfl ⟨Nat.le_of_ble_eq_true rfl, Nat.le_of_ble_eq_true rfl⟩ (Nat.le_of_ble_eq_true rfl) (zz_T0 rfl rfl) (fun Q' P' k h => c_X0_gather ((o + 4)) (x2) M5 (zc_X2_1 ho) h k) h (fun M6 h => ?_)
  refine r_aload_n dX2_unite_93 rfl ?_
  refine r_getR (k := o) (q := (o + 4)) dX2_unite_94 zf_X2_21 (zo_X2 ho) (zr_X2_1 ho).1 (zr_X2_1 ho).2.1 (zr_X2_1 ho).2.2 ?_
  refine r_iload_n dX2_unite_97 rfl ?_
  refine r_iconst (v := (nI 0)) dX2_unite_98 (by decide) ?_
  refine kV_vw (as := [.int x2, .int (nI 0)]) (st := []) (k := (o + 4)) dX2_unite_99 zM_X0_empty zk_X2_199 (zo_X0 (zc_X2_1 ho)) (by decide) rfl ⟨Nat.le_of_ble_eq_true rfl, Nat.le_of_ble_eq_true rfl⟩ (Nat.le_of_ble_eq_true rfl) (zz_T0 rfl rfl) (fun Q' P' k h => c_X0_empty ((o + 4)) (x2) (false) M6 (zc_X2_1 ho) h k) h (fun M7 h => ?_)
  refine r_iconst (v := (nI 0)) dX2_unite_102 (by decide) ?_
  refine s_istore_n ([some (.ref o), some (.int x2), some (.int (nI 0))]) dX2_unite_103 (by decide) rfl rfl ?_
  refine zz_mask [1] ?_
  exact w_X2_unite_104 (o) ((nI 0)) M7 ho h kR
noncomputable def f_X2_unite (o : Nat) (M : zzMem) : Option (Int32 × zzMem) :=
  if (M.1 o 4) < (f_X2_buckets o M) then
  (if (M.1 o 9) = 0 then
  (zbd (zz_si M o 8 ((M.1 o 8) - (nI 1))) (fun M3 =>
  zbd (zz_si M3 o 9 (f_X2_span o M3)) (fun M4 =>
  j_X2_unite_39 o M4)))
  else (j_X2_unite_39 o M))
  else (some (((-3 : Int32), M)))
set_option maxHeartbeats 4000000 in
set_option maxRecDepth 100000 in
theorem w_X2_unite_0 {G : zzG} {t : Nat} {Q : Option Value → zzMem → Prop} (o : Nat) (M : zzMem) (ho : zI_X2 t o) {P : (Int32 × zzMem) → Prop} (h : zK (f_X2_unite o M) P) (kR : ∀ r : (Int32 × zzMem), P r → Q (some (.int r.1)) r.2) : zz_W G m_X2_unite t t t 0 [some (.ref o), none, none] [] M Q := by
  unfold f_X2_unite at h
  refine r_aload_n dX2_unite_0 rfl ?_
  refine tV_ir (v := f_X2_buckets o M) (as := []) (st := []) (k := o) dX2_unite_1 zM_X2_buckets zk_X2_96 (zo_X2 ho) (by decide) rfl ⟨Nat.le_of_ble_eq_true rfl, Nat.le_of_ble_eq_true rfl⟩ (Nat.le_of_ble_eq_true rfl) (zz_T0 rfl rfl) (fun Q' h => c_X2_buckets (o) M ho h) ?_
  refine r_aload_n dX2_unite_4 rfl ?_
  refine r_getI (k := o) dX2_unite_5 zf_X2_39 (zo_X2 ho) (zi_X2_4 ho) ?_
  refine r_icmp_gt 14 dX2_unite_8 (by decide) (fun c1 => ?_) (fun c1 => ?_)
  · have h := zK_pos h c1
    refine r_aload_n dX2_unite_14 rfl ?_
    refine r_getI (k := o) dX2_unite_15 zf_X2_55 (zo_X2 ho) (zi_X2_9 ho) ?_
    refine r_if_ne 39 dX2_unite_18 (by decide) (fun c2 => ?_) (fun c2 => ?_)
    · have h := zK_neg h c2
      exact w_X2_unite_39 (o) M ho h kR
    · have h := zK_pos h c2
      refine r_aload_n dX2_unite_21 rfl ?_
      refine r_dup dX2_unite_22 rfl ?_
      refine r_getI (k := o) dX2_unite_23 zf_X2_52 (zo_X2 ho) (zi_X2_8 ho) ?_
      refine r_iconst (v := (nI 1)) dX2_unite_26 (by decide) ?_
      refine r_isub dX2_unite_27 ?_
      refine r_putI (k := o) dX2_unite_28 zp_X2_52 (zo_X2 ho) (zi_X2_8 ho) rfl rfl (fun M3 eM3 => ?_)
      have h := zK_bd h eM3
      refine r_aload_n dX2_unite_31 rfl ?_
      refine r_aload_n dX2_unite_32 rfl ?_
      refine tV_ir (v := f_X2_span o M3) (as := []) (st := [.ref o]) (k := o) dX2_unite_33 zM_X2_span zk_X2_103 (zo_X2 ho) (by decide) rfl ⟨Nat.le_of_ble_eq_true rfl, Nat.le_of_ble_eq_true rfl⟩ (Nat.le_of_ble_eq_true rfl) (zz_T0 rfl rfl) (fun Q' h => c_X2_span (o) M3 ho h) ?_
      refine r_putI (k := o) dX2_unite_36 zp_X2_55 (zo_X2 ho) (zi_X2_9 ho) rfl rfl (fun M4 eM4 => ?_)
      have h := zK_bd h eM4
      exact w_X2_unite_39 (o) M4 ho h kR
  · have h := zK_neg h c1
    refine r_bipush (v := (-3 : Int32)) dX2_unite_11 (by decide) ?_
    exact r_iret dX2_unite_13 rfl rfl rfl (kR (((-3 : Int32), M)) (zK_some h))
set_option maxHeartbeats 4000000 in
set_option maxRecDepth 100000 in
theorem c_X2_unite {G : zzG} {t : Nat} {Q : Option Value → zzMem → Prop} (o : Nat) (M : zzMem) (ho : zI_X2 t o) {P : (Int32 × zzMem) → Prop} (h : zK (f_X2_unite o M) P) (kR : ∀ r : (Int32 × zzMem), P r → Q (some (.int r.1)) r.2) : zz_S G m_X2_unite t t [.ref o] M Q :=
  zz_S_of (by decide) (by decide) (Nat.le_of_ble_eq_true rfl) (w_X2_unite_0 o M ho h kR)
noncomputable def j_X2_remove_91 (o : Nat) (v1 : Int32) (v2 : Int32) (v5 : Int32) (s1 : Int32) (s2 : Int32) (M : zzMem) : Option (Int32 × zzMem) :=
  zbd (zz_si M o 11 (s1 + s2)) (fun M1 =>
  (f_X5_codeOf v1 v2 (M1.1 o 4)).bind (fun r2 =>
  (f_X5_remove (o + 15) r2 M1).bind (fun M3 =>
  if (M3.1 o 7) = 0 then
  (some ((v5, M3)))
  else ((f_X2_load o M3).bind (fun r5 =>
  if (M3.1 o 6) ≤ r5 then
  (some ((v5, M3)))
  else ((f_X2_unite o M3).bind (fun q7 => zpr q7 (fun r8 M9 =>
  some ((v5, M9))))))))))
set_option maxHeartbeats 4000000 in
set_option maxRecDepth 100000 in
theorem w_X2_remove_91 {G : zzG} {t : Nat} {Q : Option Value → zzMem → Prop} (o : Nat) (v1 : Int32) (v2 : Int32) (v5 : Int32) (s1 : Int32) (s2 : Int32) (M : zzMem) (ho : zI_X2 t o) {P : (Int32 × zzMem) → Prop} (h : zK (j_X2_remove_91 o v1 v2 v5 s1 s2 M) P) (kR : ∀ r : (Int32 × zzMem), P r → Q (some (.int r.1)) r.2) : zz_W G m_X2_remove t t t 91 [some (.ref o), some (.int v1), some (.int v2), none, none, some (.int v5)] [.int s2, .int s1, .ref o] M Q := by
  unfold j_X2_remove_91 at h
  refine r_iadd dX2_remove_91 ?_
  refine r_putI (k := o) dX2_remove_92 zp_X2_61 (zo_X2 ho) (zi_X2_11 ho) rfl rfl (fun M1 eM1 => ?_)
  have h := zK_bd h eM1
  refine r_aload_n dX2_remove_95 rfl ?_
  refine r_getR (k := o) (q := (o + 15)) dX2_remove_96 zf_X2_28 (zo_X2 ho) (zr_X2_2 ho).1 (zr_X2_2 ho).2.1 (zr_X2_2 ho).2.2 ?_
  refine r_iload_n dX2_remove_99 rfl ?_
  refine r_iload_n dX2_remove_100 rfl ?_
  refine r_aload_n dX2_remove_101 rfl ?_
  refine r_getI (k := o) dX2_remove_102 zf_X2_39 (zo_X2 ho) (zi_X2_4 ho) ?_
  refine kS_lr (as := [.int v1, .int v2, .int (M1.1 o 4)]) (st := [.ref (o + 15)]) dX2_remove_105 zM_X5_codeOf zk_X2_118 ⟨Nat.le_of_ble_eq_true rfl, Nat.le_of_ble_eq_true rfl⟩ (Nat.le_of_ble_eq_true rfl) (zz_T0 rfl rfl) (fun Q' P' k h => c_X5_codeOf (v1) (v2) ((M1.1 o 4)) M1 h k) h (fun r2 h => ?_)
  refine kV_vw (as := [.long r2]) (st := []) (k := (o + 15)) dX2_remove_108 zM_X5_remove zk_X2_183 (zo_X5 (zc_X2_2 ho)) (by decide) rfl ⟨Nat.le_of_ble_eq_true rfl, Nat.le_of_ble_eq_true rfl⟩ (Nat.le_of_ble_eq_true rfl) (zz_T0 rfl rfl) (fun Q' P' k h => c_X5_remove ((o + 15)) (r2) M1 (zc_X2_2 ho) h k) h (fun M3 h => ?_)
  refine r_aload_n dX2_remove_111 rfl ?_
  refine r_getI (k := o) dX2_remove_112 zf_X2_49 (zo_X2 ho) (zi_X2_7 ho) ?_
  refine r_if_eq 134 dX2_remove_115 (by decide) (fun c4 => ?_) (fun c4 => ?_)
  · have h := zK_pos h c4
    refine r_iload dX2_remove_134 rfl ?_
    exact r_iret dX2_remove_136 rfl rfl rfl (kR ((v5, M3)) (zK_some h))
  · have h := zK_neg h c4
    refine r_aload_n dX2_remove_118 rfl ?_
    refine kV_ir (as := []) (st := []) (k := o) dX2_remove_119 zM_X2_load zk_X2_173 (zo_X2 ho) (by decide) rfl ⟨Nat.le_of_ble_eq_true rfl, Nat.le_of_ble_eq_true rfl⟩ (Nat.le_of_ble_eq_true rfl) (zz_T0 rfl rfl) (fun Q' P' k h => c_X2_load (o) M3 ho h k) h (fun r5 h => ?_)
    refine r_aload_n dX2_remove_122 rfl ?_
    refine r_getI (k := o) dX2_remove_123 zf_X2_46 (zo_X2 ho) (zi_X2_6 ho) ?_
    refine r_icmp_ge 134 dX2_remove_126 (by decide) (fun c6 => ?_) (fun c6 => ?_)
    · have h := zK_pos h c6
      refine r_iload dX2_remove_134 rfl ?_
      exact r_iret dX2_remove_136 rfl rfl rfl (kR ((v5, M3)) (zK_some h))
    · have h := zK_neg h c6
      refine r_aload_n dX2_remove_129 rfl ?_
      refine kV_iw (as := []) (st := []) (k := o) dX2_remove_130 zM_X2_unite zk_X2_186 (zo_X2 ho) (by decide) rfl ⟨Nat.le_of_ble_eq_true rfl, Nat.le_of_ble_eq_true rfl⟩ (Nat.le_of_ble_eq_true rfl) (zz_T0 rfl rfl) (fun Q' P' k h => c_X2_unite (o) M3 ho h (fun r p => k r.1 r.2 p)) h (fun r8 M9 h => ?_)
      have h := zK_pr h
      refine r_pop dX2_remove_133 rfl ?_
      refine r_iload dX2_remove_134 rfl ?_
      exact r_iret dX2_remove_136 rfl rfl rfl (kR ((v5, M9)) (zK_some h))
noncomputable def f_X2_remove (o : Nat) (a1 : Int32) (M : zzMem) : Option (Int32 × zzMem) :=
  (f_X3_hashOf (o + 1) a1 M).bind (fun q1 => zpr q1 (fun r2 M3 =>
  (f_X2_addressOf o r2 M3).bind (fun r4 =>
  (f_X0_slotOf (o + 4) r4 a1 M3).bind (fun r5 =>
  zgd (vp_in r4 64) (
  zbd (zz_si M3 o 10 ((M3.1 o 10) + (M3.1 (o + 13) (r4).toNatClampNeg))) (fun M7 =>
  if r5 = (-1 : Int32) then
  (some (((-2 : Int32), M7)))
  else (zgd (vp_in r5 1536) (
  zbd ((f_X1_valueOf (M7.2 (o + 9) (r5).toNatClampNeg))) (fun x10 =>
  (f_X0_fillFromLast (o + 4) r4 r5 M7).bind (fun q11 => zpr q11 (fun r12 M13 =>
  if r12 = true then
  (j_X2_remove_91 o a1 r2 x10 (M7.1 o 11) (nI 2) M13)
  else (j_X2_remove_91 o a1 r2 x10 (M7.1 o 11) (nI 1) M13))))))))))))
set_option maxHeartbeats 4000000 in
set_option maxRecDepth 100000 in
theorem w_X2_remove_0 {G : zzG} {t : Nat} {Q : Option Value → zzMem → Prop} (o : Nat) (a1 : Int32) (M : zzMem) (ho : zI_X2 t o) {P : (Int32 × zzMem) → Prop} (h : zK (f_X2_remove o a1 M) P) (kR : ∀ r : (Int32 × zzMem), P r → Q (some (.int r.1)) r.2) : zz_W G m_X2_remove t t t 0 [some (.ref o), some (.int a1), none, none, none, none] [] M Q := by
  unfold f_X2_remove at h
  refine r_aload_n dX2_remove_0 rfl ?_
  refine r_getR (k := o) (q := (o + 1)) dX2_remove_1 zf_X2_12 (zo_X2 ho) (zr_X2_0 ho).1 (zr_X2_0 ho).2.1 (zr_X2_0 ho).2.2 ?_
  refine r_iload_n dX2_remove_4 rfl ?_
  refine kV_iw (as := [.int a1]) (st := []) (k := (o + 1)) dX2_remove_5 zM_X3_hashOf zk_X2_126 (zo_X3 (zc_X2_0 ho)) (by decide) rfl ⟨Nat.le_of_ble_eq_true rfl, Nat.le_of_ble_eq_true rfl⟩ (Nat.le_of_ble_eq_true rfl) (zz_T0 rfl rfl) (fun Q' P' k h => c_X3_hashOf ((o + 1)) (a1) M (zc_X2_0 ho) h (fun r p => k r.1 r.2 p)) h (fun r2 M3 h => ?_)
  have h := zK_pr h
  refine s_istore_n ([some (.ref o), some (.int a1), some (.int r2), none, none, none]) dX2_remove_8 (by decide) rfl rfl ?_
  refine r_aload_n dX2_remove_9 rfl ?_
  refine r_iload_n dX2_remove_10 rfl ?_
  refine kV_ir (as := [.int r2]) (st := []) (k := o) dX2_remove_11 zM_X2_addressOf zk_X2_129 (zo_X2 ho) (by decide) rfl ⟨Nat.le_of_ble_eq_true rfl, Nat.le_of_ble_eq_true rfl⟩ (Nat.le_of_ble_eq_true rfl) (zz_T0 rfl rfl) (fun Q' P' k h => c_X2_addressOf (o) (r2) M3 ho h k) h (fun r4 h => ?_)
  refine s_istore_n ([some (.ref o), some (.int a1), some (.int r2), some (.int r4), none, none]) dX2_remove_14 (by decide) rfl rfl ?_
  refine r_aload_n dX2_remove_15 rfl ?_
  refine r_getR (k := o) (q := (o + 4)) dX2_remove_16 zf_X2_21 (zo_X2 ho) (zr_X2_1 ho).1 (zr_X2_1 ho).2.1 (zr_X2_1 ho).2.2 ?_
  refine r_iload_n dX2_remove_19 rfl ?_
  refine r_iload_n dX2_remove_20 rfl ?_
  refine kV_ir (as := [.int r4, .int a1]) (st := []) (k := (o + 4)) dX2_remove_21 zM_X0_slotOf zk_X2_132 (zo_X0 (zc_X2_1 ho)) (by decide) rfl ⟨Nat.le_of_ble_eq_true rfl, Nat.le_of_ble_eq_true rfl⟩ (Nat.le_of_ble_eq_true rfl) (zz_T0 rfl rfl) (fun Q' P' k h => c_X0_slotOf ((o + 4)) (r4) (a1) M3 (zc_X2_1 ho) h k) h (fun r5 h => ?_)
  refine s_istore ([some (.ref o), some (.int a1), some (.int r2), some (.int r4), some (.int r5), none]) dX2_remove_24 (by decide) rfl rfl ?_
  refine r_aload_n dX2_remove_26 rfl ?_
  refine r_dup dX2_remove_27 rfl ?_
  refine r_getI (k := o) dX2_remove_28 zf_X2_58 (zo_X2 ho) (zi_X2_10 ho) ?_
  refine r_aload_n dX2_remove_31 rfl ?_
  refine r_getR (k := o) (q := (o + 4)) dX2_remove_32 zf_X2_21 (zo_X2 ho) (zr_X2_1 ho).1 (zr_X2_1 ho).2.1 (zr_X2_1 ho).2.2 ?_
  refine r_getR (k := (o + 4)) (q := (o + 13)) dX2_remove_35 zf_X2_145 (zo_X0 (zc_X2_1 ho)) (zr_X0_8 (zc_X2_1 ho)).1 (zr_X0_8 (zc_X2_1 ho)).2.1 (zr_X0_8 (zc_X2_1 ho)).2.2 ?_
  refine r_iload_n dX2_remove_38 rfl ?_
  obtain ⟨g6, h⟩ := zK_gd h
  refine r_iald dX2_remove_39 (za_X0_8 (zc_X2_1 ho)) g6 ?_
  refine r_iadd dX2_remove_40 ?_
  refine r_putI (k := o) dX2_remove_41 zp_X2_58 (zo_X2 ho) (zi_X2_10 ho) rfl rfl (fun M7 eM7 => ?_)
  have h := zK_bd h eM7
  refine r_iload dX2_remove_44 rfl ?_
  refine r_iconst (v := (-1 : Int32)) dX2_remove_46 (by decide) ?_
  refine r_icmp_ne 53 dX2_remove_47 (by decide) (fun c8 => ?_) (fun c8 => ?_)
  · have h := zK_neg h c8
    refine r_aload_n dX2_remove_53 rfl ?_
    refine r_getR (k := o) (q := (o + 4)) dX2_remove_54 zf_X2_21 (zo_X2 ho) (zr_X2_1 ho).1 (zr_X2_1 ho).2.1 (zr_X2_1 ho).2.2 ?_
    refine r_getR (k := (o + 4)) (q := (o + 9)) dX2_remove_57 zf_X2_135 (zo_X0 (zc_X2_1 ho)) (zr_X0_4 (zc_X2_1 ho)).1 (zr_X0_4 (zc_X2_1 ho)).2.1 (zr_X0_4 (zc_X2_1 ho)).2.2 ?_
    refine r_iload dX2_remove_60 rfl ?_
    obtain ⟨g9, h⟩ := zK_gd h
    refine r_lald dX2_remove_62 (za_X0_4 (zc_X2_1 ho)) g9 ?_
    refine tS_ir (v := f_X1_valueOf (M7.2 (o + 9) (r5).toNatClampNeg)) (as := [.long (M7.2 (o + 9) (r5).toNatClampNeg)]) (st := []) dX2_remove_63 zM_X1_valueOf zk_X2_139 ⟨Nat.le_of_ble_eq_true rfl, Nat.le_of_ble_eq_true rfl⟩ (Nat.le_of_ble_eq_true rfl) (zz_T0 rfl rfl) (fun Q' h => c_X1_valueOf ((M7.2 (o + 9) (r5).toNatClampNeg)) M7 h) ?_
    refine r_istore (fun x10 => [some (.ref o), some (.int a1), some (.int r2), some (.int r4), some (.int r5), some (.int x10)]) dX2_remove_66 (by decide) rfl (fun _ => rfl) (fun x10 ex10 => ?_)
    have h := zK_bd h ex10
    refine r_aload_n dX2_remove_68 rfl ?_
    refine r_dup dX2_remove_69 rfl ?_
    refine r_getI (k := o) dX2_remove_70 zf_X2_61 (zo_X2 ho) (zi_X2_11 ho) ?_
    refine r_aload_n dX2_remove_73 rfl ?_
    refine r_getR (k := o) (q := (o + 4)) dX2_remove_74 zf_X2_21 (zo_X2 ho) (zr_X2_1 ho).1 (zr_X2_1 ho).2.1 (zr_X2_1 ho).2.2 ?_
    refine r_iload_n dX2_remove_77 rfl ?_
    refine r_iload dX2_remove_78 rfl ?_
    refine kV_zw (as := [.int r4, .int r5]) (st := [.int (M7.1 o 11), .ref o]) (k := (o + 4)) dX2_remove_80 zM_X0_fillFromLast zk_X2_179 (zo_X0 (zc_X2_1 ho)) (by decide) rfl ⟨Nat.le_of_ble_eq_true rfl, Nat.le_of_ble_eq_true rfl⟩ (Nat.le_of_ble_eq_true rfl) (zz_T0 rfl rfl) (fun Q' P' k h => c_X0_fillFromLast ((o + 4)) (r4) (r5) M7 (zc_X2_1 ho) h (fun r p => k r.1 r.2 p)) h (fun r12 M13 h => ?_)
    have h := zK_pr h
    refine r_ifZ_eq 90 dX2_remove_83 (by decide) (fun c14 => ?_) (fun c14 => ?_)
    · have h := zK_neg h c14
      refine r_iconst (v := (nI 1)) dX2_remove_90 (by decide) ?_
      refine zz_mask [3, 4] ?_
      exact w_X2_remove_91 (o) (a1) (r2) (x10) ((M7.1 o 11)) ((nI 1)) M13 ho h kR
    · have h := zK_pos h c14
      refine r_iconst (v := (nI 2)) dX2_remove_86 (by decide) ?_
      refine r_goto 91 dX2_remove_87 (by decide) ?_
      refine zz_mask [3, 4] ?_
      exact w_X2_remove_91 (o) (a1) (r2) (x10) ((M7.1 o 11)) ((nI 2)) M13 ho h kR
  · have h := zK_pos h c8
    refine r_bipush (v := (-2 : Int32)) dX2_remove_50 (by decide) ?_
    exact r_iret dX2_remove_52 rfl rfl rfl (kR (((-2 : Int32), M7)) (zK_some h))
set_option maxHeartbeats 4000000 in
set_option maxRecDepth 100000 in
theorem c_X2_remove {G : zzG} {t : Nat} {Q : Option Value → zzMem → Prop} (o : Nat) (a1 : Int32) (M : zzMem) (ho : zI_X2 t o) {P : (Int32 × zzMem) → Prop} (h : zK (f_X2_remove o a1 M) P) (kR : ∀ r : (Int32 × zzMem), P r → Q (some (.int r.1)) r.2) : zz_S G m_X2_remove t t [.ref o, .int a1] M Q :=
  zz_S_of (by decide) (by decide) (Nat.le_of_ble_eq_true rfl) (w_X2_remove_0 o a1 M ho h kR)
noncomputable def f_X2_draw (o : Nat) (M : zzMem) : zzMem :=
  zbd (zz_si M o 14 ((((nI 25173) * (M.1 o 14)) + (nI 13849)) &&& (nI 65535))) (fun M1 =>
  M1)
set_option maxHeartbeats 4000000 in
set_option maxRecDepth 100000 in
theorem w_X2_draw_0 {G : zzG} {t : Nat} {Q : Option Value → zzMem → Prop} (o : Nat) (M : zzMem) (ho : zI_X2 t o) {P : zzMem → Prop} (h : P (f_X2_draw o M)) (kR : ∀ r : zzMem, P r → Q none r) : zz_W G m_X2_draw t t t 0 [some (.ref o)] [] M Q := by
  unfold f_X2_draw at h
  refine r_aload_n dX2_draw_0 rfl ?_
  refine r_sipush (v := (nI 25173)) dX2_draw_1 (by decide) ?_
  refine r_aload_n dX2_draw_4 rfl ?_
  refine r_getI (k := o) dX2_draw_5 zf_X2_70 (zo_X2 ho) (zi_X2_14 ho) ?_
  refine r_imul dX2_draw_8 ?_
  refine r_sipush (v := (nI 13849)) dX2_draw_9 (by decide) ?_
  refine r_iadd dX2_draw_12 ?_
  refine r_ldc (v := (nI 65535)) dX2_draw_13 zd_X2_218 ?_
  refine r_iand dX2_draw_15 ?_
  refine r_putI (k := o) dX2_draw_16 zp_X2_70 (zo_X2 ho) (zi_X2_14 ho) rfl rfl (fun M1 eM1 => ?_)
  have h := zP_bd h eM1
  exact r_vret dX2_draw_19 rfl rfl rfl (kR (M1) h)
set_option maxHeartbeats 4000000 in
set_option maxRecDepth 100000 in
theorem c_X2_draw {G : zzG} {t : Nat} {Q : Option Value → zzMem → Prop} (o : Nat) (M : zzMem) (ho : zI_X2 t o) (h : Q none (f_X2_draw o M)) : zz_S G m_X2_draw t t [.ref o] M Q :=
  zz_S_of (by decide) (by decide) (Nat.le_of_ble_eq_true rfl) (w_X2_draw_0 o M ho (P := fun r => Q none r) h (fun r p => p))
noncomputable def b_X2_storeDrawn_2 (o : Nat) (v1 : Int32) (v2 : Int32) (M : zzMem) : Option ((Int32 × zzMem) ⊕ zzMem) :=
  if v1 ≤ v2 then
  (some ((.inr M)))
  else (zbd (f_X2_draw o M) (fun M2 =>
  (f_X2_store o (M2.1 o 14) ((M2.1 o 14) &&& (nI 255)) M2).bind (fun q3 => zpr q3 (fun r4 M5 =>
  zbd (v2 + (nI 1)) (fun x6 =>
  some (.inl (x6, M5)))))))
set_option maxHeartbeats 4000000 in
set_option maxRecDepth 100000 in
theorem x_X2_storeDrawn_2 {G : zzG} {t : Nat} {Q : Option Value → zzMem → Prop} (o : Nat) (v1 : Int32) (v2 : Int32) (M : zzMem) (ho : zI_X2 t o) {P : ((Int32 × zzMem) ⊕ zzMem) → Prop} (h : zK (b_X2_storeDrawn_2 o v1 v2 M) P) (k2 : ∀ s : (Int32 × zzMem), P (.inl s) → zz_W G m_X2_storeDrawn t t t 2 [some (.ref o), some (.int v1), some (.int s.1)] [] s.2 Q) (kR : ∀ r : zzMem, P (.inr r) → Q none r) : zz_W G m_X2_storeDrawn t t t 2 [some (.ref o), some (.int v1), some (.int v2)] [] M Q := by
  unfold b_X2_storeDrawn_2 at h
  refine r_iload_n dX2_storeDrawn_2 rfl ?_
  refine r_iload_n dX2_storeDrawn_3 rfl ?_
  refine r_icmp_ge 34 dX2_storeDrawn_4 (by decide) (fun c1 => ?_) (fun c1 => ?_)
  · have h := zK_pos h c1
    exact r_vret dX2_storeDrawn_34 rfl rfl rfl (kR (M) (zK_some h))
  · have h := zK_neg h c1
    refine r_aload_n dX2_storeDrawn_7 rfl ?_
    refine tV_vw (as := []) (st := []) (k := o) dX2_storeDrawn_8 zM_X2_draw zk_X2_219 (zo_X2 ho) (by decide) rfl ⟨Nat.le_of_ble_eq_true rfl, Nat.le_of_ble_eq_true rfl⟩ (Nat.le_of_ble_eq_true rfl) (zz_T0 rfl rfl) (fun Q' h => c_X2_draw (o) M ho h) (fun M2 eM2 => ?_)
    have h := zK_bd h eM2
    refine r_aload_n dX2_storeDrawn_11 rfl ?_
    refine r_aload_n dX2_storeDrawn_12 rfl ?_
    refine r_getI (k := o) dX2_storeDrawn_13 zf_X2_70 (zo_X2 ho) (zi_X2_14 ho) ?_
    refine r_aload_n dX2_storeDrawn_16 rfl ?_
    refine r_getI (k := o) dX2_storeDrawn_17 zf_X2_70 (zo_X2 ho) (zi_X2_14 ho) ?_
    refine r_sipush (v := (nI 255)) dX2_storeDrawn_20 (by decide) ?_
    refine r_iand dX2_storeDrawn_23 ?_
    refine kV_iw (as := [.int (M2.1 o 14), .int ((M2.1 o 14) &&& (nI 255))]) (st := []) (k := o) dX2_storeDrawn_24 zM_X2_store zk_X2_222 (zo_X2 ho) (by decide) rfl ⟨Nat.le_of_ble_eq_true rfl, Nat.le_of_ble_eq_true rfl⟩ (Nat.le_of_ble_eq_true rfl) (zz_T0 rfl rfl) (fun Q' P' k h => c_X2_store (o) ((M2.1 o 14)) (((M2.1 o 14) &&& (nI 255))) M2 ho h (fun r p => k r.1 r.2 p)) h (fun r4 M5 h => ?_)
    have h := zK_pr h
    refine r_pop dX2_storeDrawn_27 rfl ?_
    refine r_iinc (nI 1) (fun x6 => [some (.ref o), some (.int v1), some (.int x6)]) dX2_storeDrawn_28 rfl (by decide) (by decide) rfl (fun _ => rfl) (fun x6 ex6 => ?_)
    have h := zK_bd h ex6
    refine r_goto 2 dX2_storeDrawn_31 (by decide) ?_
    exact k2 ((x6, M5)) (zK_some h)
noncomputable def j_X2_storeDrawn_2 (o : Nat) (v1 : Int32) (v2 : Int32) (M : zzMem) : Option zzMem :=
  zlp (fun s : (Int32 × zzMem) => b_X2_storeDrawn_2 o v1 s.1 s.2) (v2, M)
set_option maxHeartbeats 4000000 in
set_option maxRecDepth 100000 in
theorem w_X2_storeDrawn_2 {G : zzG} {t : Nat} {Q : Option Value → zzMem → Prop} (o : Nat) (v1 : Int32) (v2 : Int32) (M : zzMem) (ho : zI_X2 t o) {P : zzMem → Prop} (h : zK (j_X2_storeDrawn_2 o v1 v2 M) P) (kR : ∀ r : zzMem, P r → Q none r) : zz_W G m_X2_storeDrawn t t t 2 [some (.ref o), some (.int v1), some (.int v2)] [] M Q := by
  unfold j_X2_storeDrawn_2 at h
  exact zK_lp h (fun s : (Int32 × zzMem) => zz_W G m_X2_storeDrawn t t t 2 [some (.ref o), some (.int v1), some (.int s.1)] [] s.2 Q) (fun s h => x_X2_storeDrawn_2 o v1 s.1 s.2 ho h (fun s p => p) kR)
noncomputable def f_X2_storeDrawn (o : Nat) (a1 : Int32) (M : zzMem) : Option zzMem :=
  j_X2_storeDrawn_2 o a1 (nI 0) M
set_option maxHeartbeats 4000000 in
set_option maxRecDepth 100000 in
theorem w_X2_storeDrawn_0 {G : zzG} {t : Nat} {Q : Option Value → zzMem → Prop} (o : Nat) (a1 : Int32) (M : zzMem) (ho : zI_X2 t o) {P : zzMem → Prop} (h : zK (f_X2_storeDrawn o a1 M) P) (kR : ∀ r : zzMem, P r → Q none r) : zz_W G m_X2_storeDrawn t t t 0 [some (.ref o), some (.int a1), none] [] M Q := by
  unfold f_X2_storeDrawn at h
  refine r_iconst (v := (nI 0)) dX2_storeDrawn_0 (by decide) ?_
  refine s_istore_n ([some (.ref o), some (.int a1), some (.int (nI 0))]) dX2_storeDrawn_1 (by decide) rfl rfl ?_
  exact w_X2_storeDrawn_2 (o) (a1) ((nI 0)) M ho h kR
set_option maxHeartbeats 4000000 in
set_option maxRecDepth 100000 in
theorem c_X2_storeDrawn {G : zzG} {t : Nat} {Q : Option Value → zzMem → Prop} (o : Nat) (a1 : Int32) (M : zzMem) (ho : zI_X2 t o) {P : zzMem → Prop} (h : zK (f_X2_storeDrawn o a1 M) P) (kR : ∀ r : zzMem, P r → Q none r) : zz_S G m_X2_storeDrawn t t [.ref o, .int a1] M Q :=
  zz_S_of (by decide) (by decide) (Nat.le_of_ble_eq_true rfl) (w_X2_storeDrawn_0 o a1 M ho h kR)
noncomputable def j_X5_keyAt_12 (o : Nat) (M : zzMem) : Option Int32 :=
  some ((-1 : Int32))
set_option maxHeartbeats 4000000 in
set_option maxRecDepth 100000 in
theorem w_X5_keyAt_12 {G : zzG} {t : Nat} {Q : Option Value → zzMem → Prop} (o : Nat) (M : zzMem) (ho : zI_X5 t o) {P : Int32 → Prop} (h : zK (j_X5_keyAt_12 o M) P) (kR : ∀ r : Int32, P r → Q (some (.int r)) M) : zz_W G m_X5_keyAt t t t 12 [none, none] [] M Q := by
  unfold j_X5_keyAt_12 at h
  refine r_iconst (v := (-1 : Int32)) dX5_keyAt_12 (by decide) ?_
  refine r_goto 27 dX5_keyAt_13 (by decide) ?_
  exact r_iret dX5_keyAt_27 rfl rfl rfl (kR ((-1 : Int32)) (zK_some h))
noncomputable def f_X5_keyAt (o : Nat) (a1 : Int32) (M : zzMem) : Option Int32 :=
  if a1 < 0 then
  (j_X5_keyAt_12 o M)
  else (if a1 < (M.1 o 1) then
  (zgd (vp_in a1 300) (
  some (((((M.2 (o + 1) (a1).toNatClampNeg) &&& (65535 : Int64))).toInt32))))
  else (j_X5_keyAt_12 o M))
set_option maxHeartbeats 4000000 in
set_option maxRecDepth 100000 in
theorem w_X5_keyAt_0 {G : zzG} {t : Nat} {Q : Option Value → zzMem → Prop} (o : Nat) (a1 : Int32) (M : zzMem) (ho : zI_X5 t o) {P : Int32 → Prop} (h : zK (f_X5_keyAt o a1 M) P) (kR : ∀ r : Int32, P r → Q (some (.int r)) M) : zz_W G m_X5_keyAt t t t 0 [some (.ref o), some (.int a1)] [] M Q := by
  unfold f_X5_keyAt at h
  refine r_iload_n dX5_keyAt_0 rfl ?_
  refine r_if_lt 12 dX5_keyAt_1 (by decide) (fun c1 => ?_) (fun c1 => ?_)
  · have h := zK_pos h c1
    refine zz_mask [0, 1] ?_
    exact w_X5_keyAt_12 (o) M ho h kR
  · have h := zK_neg h c1
    refine r_iload_n dX5_keyAt_4 rfl ?_
    refine r_aload_n dX5_keyAt_5 rfl ?_
    refine r_getI (k := o) dX5_keyAt_6 zf_X5_15 (zo_X5 ho) (zi_X5_1 ho) ?_
    refine r_icmp_lt 16 dX5_keyAt_9 (by decide) (fun c2 => ?_) (fun c2 => ?_)
    · have h := zK_pos h c2
      refine r_aload_n dX5_keyAt_16 rfl ?_
      refine r_getR (k := o) (q := (o + 1)) dX5_keyAt_17 zf_X5_9 (zo_X5 ho) (zr_X5_0 ho).1 (zr_X5_0 ho).2.1 (zr_X5_0 ho).2.2 ?_
      refine r_iload_n dX5_keyAt_20 rfl ?_
      obtain ⟨g3, h⟩ := zK_gd h
      refine r_lald dX5_keyAt_21 (za_X5_0 ho) g3 ?_
      refine r_ldc2 (v := (65535 : Int64)) dX5_keyAt_22 zd_X5_33 ?_
      refine r_land dX5_keyAt_25 ?_
      refine r_l2i dX5_keyAt_26 ?_
      exact r_iret dX5_keyAt_27 rfl rfl rfl (kR (((((M.2 (o + 1) (a1).toNatClampNeg) &&& (65535 : Int64))).toInt32)) (zK_some h))
    · have h := zK_neg h c2
      refine zz_mask [0, 1] ?_
      exact w_X5_keyAt_12 (o) M ho h kR
set_option maxHeartbeats 4000000 in
set_option maxRecDepth 100000 in
theorem c_X5_keyAt {G : zzG} {t : Nat} {Q : Option Value → zzMem → Prop} (o : Nat) (a1 : Int32) (M : zzMem) (ho : zI_X5 t o) {P : Int32 → Prop} (h : zK (f_X5_keyAt o a1 M) P) (kR : ∀ r : Int32, P r → Q (some (.int r)) M) : zz_S G m_X5_keyAt t t [.ref o, .int a1] M Q :=
  zz_S_of (by decide) (by decide) (Nat.le_of_ble_eq_true rfl) (w_X5_keyAt_0 o a1 M ho h kR)
noncomputable def b_X2_removeDrawn_2 (o : Nat) (v1 : Int32) (v2 : Int32) (M : zzMem) : Option ((Int32 × zzMem) ⊕ zzMem) :=
  if v1 ≤ v2 then
  (some ((.inr M)))
  else (zbd (f_X2_draw o M) (fun M2 =>
  if (M2.1 (o + 15) 1) ≤ 0 then
  (zbd (v2 + (nI 1)) (fun x4 =>
  some (.inl (x4, M2))))
  else (zgd (¬ (M2.1 (o + 15) 1) = 0) (
  (f_X5_keyAt (o + 15) (zrm (M2.1 o 14) (M2.1 (o + 15) 1)) M2).bind (fun r6 =>
  (f_X2_remove o r6 M2).bind (fun q7 => zpr q7 (fun r8 M9 =>
  zbd (v2 + (nI 1)) (fun x10 =>
  some (.inl (x10, M9))))))))))
set_option maxHeartbeats 4000000 in
set_option maxRecDepth 100000 in
theorem x_X2_removeDrawn_2 {G : zzG} {t : Nat} {Q : Option Value → zzMem → Prop} (o : Nat) (v1 : Int32) (v2 : Int32) (M : zzMem) (ho : zI_X2 t o) {P : ((Int32 × zzMem) ⊕ zzMem) → Prop} (h : zK (b_X2_removeDrawn_2 o v1 v2 M) P) (k2 : ∀ s : (Int32 × zzMem), P (.inl s) → zz_W G m_X2_removeDrawn t t t 2 [some (.ref o), some (.int v1), some (.int s.1)] [] s.2 Q) (kR : ∀ r : zzMem, P (.inr r) → Q none r) : zz_W G m_X2_removeDrawn t t t 2 [some (.ref o), some (.int v1), some (.int v2)] [] M Q := by
  unfold b_X2_removeDrawn_2 at h
  refine r_iload_n dX2_removeDrawn_2 rfl ?_
  refine r_iload_n dX2_removeDrawn_3 rfl ?_
  refine r_icmp_ge 51 dX2_removeDrawn_4 (by decide) (fun c1 => ?_) (fun c1 => ?_)
  · have h := zK_pos h c1
    exact r_vret dX2_removeDrawn_51 rfl rfl rfl (kR (M) (zK_some h))
  · have h := zK_neg h c1
    refine r_aload_n dX2_removeDrawn_7 rfl ?_
    refine tV_vw (as := []) (st := []) (k := o) dX2_removeDrawn_8 zM_X2_draw zk_X2_219 (zo_X2 ho) (by decide) rfl ⟨Nat.le_of_ble_eq_true rfl, Nat.le_of_ble_eq_true rfl⟩ (Nat.le_of_ble_eq_true rfl) (zz_T0 rfl rfl) (fun Q' h => c_X2_draw (o) M ho h) (fun M2 eM2 => ?_)
    have h := zK_bd h eM2
    refine r_aload_n dX2_removeDrawn_11 rfl ?_
    refine r_getR (k := o) (q := (o + 15)) dX2_removeDrawn_12 zf_X2_28 (zo_X2 ho) (zr_X2_2 ho).1 (zr_X2_2 ho).2.1 (zr_X2_2 ho).2.2 ?_
    refine r_getI (k := (o + 15)) dX2_removeDrawn_15 zf_X2_77 (zo_X5 (zc_X2_2 ho)) (zi_X5_1 (zc_X2_2 ho)) ?_
    refine r_if_le 45 dX2_removeDrawn_18 (by decide) (fun c3 => ?_) (fun c3 => ?_)
    · have h := zK_pos h c3
      refine r_iinc (nI 1) (fun x4 => [some (.ref o), some (.int v1), some (.int x4)]) dX2_removeDrawn_45 rfl (by decide) (by decide) rfl (fun _ => rfl) (fun x4 ex4 => ?_)
      have h := zK_bd h ex4
      refine r_goto 2 dX2_removeDrawn_48 (by decide) ?_
      exact k2 ((x4, M2)) (zK_some h)
    · have h := zK_neg h c3
      refine r_aload_n dX2_removeDrawn_21 rfl ?_
      refine r_aload_n dX2_removeDrawn_22 rfl ?_
      refine r_getR (k := o) (q := (o + 15)) dX2_removeDrawn_23 zf_X2_28 (zo_X2 ho) (zr_X2_2 ho).1 (zr_X2_2 ho).2.1 (zr_X2_2 ho).2.2 ?_
      refine r_aload_n dX2_removeDrawn_26 rfl ?_
      refine r_getI (k := o) dX2_removeDrawn_27 zf_X2_70 (zo_X2 ho) (zi_X2_14 ho) ?_
      refine r_aload_n dX2_removeDrawn_30 rfl ?_
      refine r_getR (k := o) (q := (o + 15)) dX2_removeDrawn_31 zf_X2_28 (zo_X2 ho) (zr_X2_2 ho).1 (zr_X2_2 ho).2.1 (zr_X2_2 ho).2.2 ?_
      refine r_getI (k := (o + 15)) dX2_removeDrawn_34 zf_X2_77 (zo_X5 (zc_X2_2 ho)) (zi_X5_1 (zc_X2_2 ho)) ?_
      obtain ⟨g5, h⟩ := zK_gd h
      refine r_irem dX2_removeDrawn_37 g5 ?_
      refine kV_ir (as := [.int (zrm (M2.1 o 14) (M2.1 (o + 15) 1))]) (st := [.ref o]) (k := (o + 15)) dX2_removeDrawn_38 zM_X5_keyAt zk_X2_225 (zo_X5 (zc_X2_2 ho)) (by decide) rfl ⟨Nat.le_of_ble_eq_true rfl, Nat.le_of_ble_eq_true rfl⟩ (Nat.le_of_ble_eq_true rfl) (zz_T0 rfl rfl) (fun Q' P' k h => c_X5_keyAt ((o + 15)) ((zrm (M2.1 o 14) (M2.1 (o + 15) 1))) M2 (zc_X2_2 ho) h k) h (fun r6 h => ?_)
      refine kV_iw (as := [.int r6]) (st := []) (k := o) dX2_removeDrawn_41 zM_X2_remove zk_X2_228 (zo_X2 ho) (by decide) rfl ⟨Nat.le_of_ble_eq_true rfl, Nat.le_of_ble_eq_true rfl⟩ (Nat.le_of_ble_eq_true rfl) (zz_T0 rfl rfl) (fun Q' P' k h => c_X2_remove (o) (r6) M2 ho h (fun r p => k r.1 r.2 p)) h (fun r8 M9 h => ?_)
      have h := zK_pr h
      refine r_pop dX2_removeDrawn_44 rfl ?_
      refine r_iinc (nI 1) (fun x10 => [some (.ref o), some (.int v1), some (.int x10)]) dX2_removeDrawn_45 rfl (by decide) (by decide) rfl (fun _ => rfl) (fun x10 ex10 => ?_)
      have h := zK_bd h ex10
      refine r_goto 2 dX2_removeDrawn_48 (by decide) ?_
      exact k2 ((x10, M9)) (zK_some h)
noncomputable def j_X2_removeDrawn_2 (o : Nat) (v1 : Int32) (v2 : Int32) (M : zzMem) : Option zzMem :=
  zlp (fun s : (Int32 × zzMem) => b_X2_removeDrawn_2 o v1 s.1 s.2) (v2, M)
set_option maxHeartbeats 4000000 in
set_option maxRecDepth 100000 in
theorem w_X2_removeDrawn_2 {G : zzG} {t : Nat} {Q : Option Value → zzMem → Prop} (o : Nat) (v1 : Int32) (v2 : Int32) (M : zzMem) (ho : zI_X2 t o) {P : zzMem → Prop} (h : zK (j_X2_removeDrawn_2 o v1 v2 M) P) (kR : ∀ r : zzMem, P r → Q none r) : zz_W G m_X2_removeDrawn t t t 2 [some (.ref o), some (.int v1), some (.int v2)] [] M Q := by
  unfold j_X2_removeDrawn_2 at h
  exact zK_lp h (fun s : (Int32 × zzMem) => zz_W G m_X2_removeDrawn t t t 2 [some (.ref o), some (.int v1), some (.int s.1)] [] s.2 Q) (fun s h => x_X2_removeDrawn_2 o v1 s.1 s.2 ho h (fun s p => p) kR)
noncomputable def f_X2_removeDrawn (o : Nat) (a1 : Int32) (M : zzMem) : Option zzMem :=
  j_X2_removeDrawn_2 o a1 (nI 0) M
set_option maxHeartbeats 4000000 in
set_option maxRecDepth 100000 in
theorem w_X2_removeDrawn_0 {G : zzG} {t : Nat} {Q : Option Value → zzMem → Prop} (o : Nat) (a1 : Int32) (M : zzMem) (ho : zI_X2 t o) {P : zzMem → Prop} (h : zK (f_X2_removeDrawn o a1 M) P) (kR : ∀ r : zzMem, P r → Q none r) : zz_W G m_X2_removeDrawn t t t 0 [some (.ref o), some (.int a1), none] [] M Q := by
  unfold f_X2_removeDrawn at h
  refine r_iconst (v := (nI 0)) dX2_removeDrawn_0 (by decide) ?_
  refine s_istore_n ([some (.ref o), some (.int a1), some (.int (nI 0))]) dX2_removeDrawn_1 (by decide) rfl rfl ?_
  exact w_X2_removeDrawn_2 (o) (a1) ((nI 0)) M ho h kR
set_option maxHeartbeats 4000000 in
set_option maxRecDepth 100000 in
theorem c_X2_removeDrawn {G : zzG} {t : Nat} {Q : Option Value → zzMem → Prop} (o : Nat) (a1 : Int32) (M : zzMem) (ho : zI_X2 t o) {P : zzMem → Prop} (h : zK (f_X2_removeDrawn o a1 M) P) (kR : ∀ r : zzMem, P r → Q none r) : zz_S G m_X2_removeDrawn t t [.ref o, .int a1] M Q :=
  zz_S_of (by decide) (by decide) (Nat.le_of_ble_eq_true rfl) (w_X2_removeDrawn_0 o a1 M ho h kR)
noncomputable def f_X8_sign  (M : zzMem) : Option Int32 :=
  if (M.1 1 3) ≤ (M.1 1 4) then
  (some ((-1 : Int32)))
  else (if (nI 320) ≤ (M.1 1 4) then
  (some ((-1 : Int32)))
  else (zgd (vp_in (M.1 1 4) 320) (
  some ((M.1 2 ((M.1 1 4)).toNatClampNeg)))))
set_option maxHeartbeats 4000000 in
set_option maxRecDepth 100000 in
theorem w_X8_sign_0 {G : zzG} {t : Nat} {Q : Option Value → zzMem → Prop}  (M : zzMem) (ht : 180 ≤ t)  {P : Int32 → Prop} (h : zK (f_X8_sign  M) P) (kR : ∀ r : Int32, P r → Q (some (.int r)) M) : zz_W G m_X8_sign t t t 0 [some (.ref 1)] [] M Q := by
  unfold f_X8_sign at h
  refine r_aload_n dX8_sign_0 rfl ?_
  refine r_getI (k := 1) dX8_sign_1 zf_X8_23 (zo_X8 (zs_X8 ht)) (zi_X8_4 (zs_X8 ht)) ?_
  refine r_aload_n dX8_sign_4 rfl ?_
  refine r_getI (k := 1) dX8_sign_5 zf_X8_20 (zo_X8 (zs_X8 ht)) (zi_X8_3 (zs_X8 ht)) ?_
  refine r_icmp_ge 33 dX8_sign_8 (by decide) (fun c1 => ?_) (fun c1 => ?_)
  · have h := zK_pos h c1
    refine r_iconst (v := (-1 : Int32)) dX8_sign_33 (by decide) ?_
    exact r_iret dX8_sign_34 rfl rfl rfl (kR ((-1 : Int32)) (zK_some h))
  · have h := zK_neg h c1
    refine r_aload_n dX8_sign_11 rfl ?_
    refine r_getI (k := 1) dX8_sign_12 zf_X8_23 (zo_X8 (zs_X8 ht)) (zi_X8_4 (zs_X8 ht)) ?_
    refine r_sipush (v := (nI 320)) dX8_sign_15 (by decide) ?_
    refine r_icmp_ge 33 dX8_sign_18 (by decide) (fun c2 => ?_) (fun c2 => ?_)
    · have h := zK_pos h c2
      refine r_iconst (v := (-1 : Int32)) dX8_sign_33 (by decide) ?_
      exact r_iret dX8_sign_34 rfl rfl rfl (kR ((-1 : Int32)) (zK_some h))
    · have h := zK_neg h c2
      refine r_aload_n dX8_sign_21 rfl ?_
      refine r_getR (k := 1) (q := 2) dX8_sign_22 zf_X8_9 (zo_X8 (zs_X8 ht)) (zr_X8_0 (zs_X8 ht)).1 (zr_X8_0 (zs_X8 ht)).2.1 (zr_X8_0 (zs_X8 ht)).2.2 ?_
      refine r_aload_n dX8_sign_25 rfl ?_
      refine r_getI (k := 1) dX8_sign_26 zf_X8_23 (zo_X8 (zs_X8 ht)) (zi_X8_4 (zs_X8 ht)) ?_
      obtain ⟨g3, h⟩ := zK_gd h
      refine r_iald dX8_sign_29 (za_X8_0 (zs_X8 ht)) g3 ?_
      refine r_goto 34 dX8_sign_30 (by decide) ?_
      exact r_iret dX8_sign_34 rfl rfl rfl (kR ((M.1 2 ((M.1 1 4)).toNatClampNeg)) (zK_some h))
set_option maxHeartbeats 4000000 in
set_option maxRecDepth 100000 in
theorem c_X8_sign {G : zzG} {t : Nat} {Q : Option Value → zzMem → Prop}  (M : zzMem) (ht : 180 ≤ t)  {P : Int32 → Prop} (h : zK (f_X8_sign  M) P) (kR : ∀ r : Int32, P r → Q (some (.int r)) M) : zz_S G m_X8_sign t t [.ref 1] M Q :=
  zz_S_of (by decide) (by decide) (Nat.le_of_ble_eq_true rfl) (w_X8_sign_0  M ht h kR)
noncomputable def f_X4_isWhole  (M : zzMem) : Option Bool :=
  (f_X8_sign M).bind (fun r1 =>
  if r1 = (-1 : Int32) then
  (if (M.1 3 5) = 0 then
  (if (M.1 3 4) = 0 then
  (some true)
  else (some false))
  else (some false))
  else (some false))
set_option maxHeartbeats 4000000 in
set_option maxRecDepth 100000 in
theorem w_X4_isWhole_0 {G : zzG} {t : Nat} {Q : Option Value → zzMem → Prop}  (M : zzMem) (ht : 180 ≤ t)  {P : Bool → Prop} (h : zK (f_X4_isWhole  M) P) (kR : ∀ r : Bool, P r → Q (some (.int (zb r))) M) : zz_W G m_X4_isWhole t t t 0 [some (.ref 3), some (.ref 1)] [] M Q := by
  unfold f_X4_isWhole at h
  refine r_aload_n dX4_isWhole_0 rfl ?_
  refine kV_ir (as := []) (st := []) (k := 1) dX4_isWhole_1 zM_X8_sign zk_X4_48 (zo_X8 (zs_X8 ht)) (by decide) rfl ⟨Nat.le_of_ble_eq_true rfl, Nat.le_of_ble_eq_true rfl⟩ (Nat.le_of_ble_eq_true rfl) (zz_T0 rfl rfl) (fun Q' P' k h => c_X8_sign M ht h k) h (fun r1 h => ?_)
  refine r_iconst (v := (-1 : Int32)) dX4_isWhole_4 (by decide) ?_
  refine r_icmp_ne 26 dX4_isWhole_5 (by decide) (fun c2 => ?_) (fun c2 => ?_)
  · have h := zK_neg h c2
    refine r_iconst (v := (nI 0)) dX4_isWhole_26 (by decide) ?_
    exact r_zret (b := false) dX4_isWhole_27 rfl rfl rfl (kR (false) (zK_some h))
  · have h := zK_pos h c2
    refine r_aload_n dX4_isWhole_8 rfl ?_
    refine r_getI (k := 3) dX4_isWhole_9 zf_X4_28 (zo_X4 (zs_X4 ht)) (zi_X4_5 (zs_X4 ht)) ?_
    refine r_if_ne 26 dX4_isWhole_12 (by decide) (fun c3 => ?_) (fun c3 => ?_)
    · have h := zK_neg h c3
      refine r_iconst (v := (nI 0)) dX4_isWhole_26 (by decide) ?_
      exact r_zret (b := false) dX4_isWhole_27 rfl rfl rfl (kR (false) (zK_some h))
    · have h := zK_pos h c3
      refine r_aload_n dX4_isWhole_15 rfl ?_
      refine r_getI (k := 3) dX4_isWhole_16 zf_X4_25 (zo_X4 (zs_X4 ht)) (zi_X4_4 (zs_X4 ht)) ?_
      refine r_if_ne 26 dX4_isWhole_19 (by decide) (fun c4 => ?_) (fun c4 => ?_)
      · have h := zK_neg h c4
        refine r_iconst (v := (nI 0)) dX4_isWhole_26 (by decide) ?_
        exact r_zret (b := false) dX4_isWhole_27 rfl rfl rfl (kR (false) (zK_some h))
      · have h := zK_pos h c4
        refine r_iconst (v := (nI 1)) dX4_isWhole_22 (by decide) ?_
        refine r_goto 27 dX4_isWhole_23 (by decide) ?_
        exact r_zret (b := true) dX4_isWhole_27 rfl rfl rfl (kR (true) (zK_some h))
set_option maxHeartbeats 4000000 in
set_option maxRecDepth 100000 in
theorem c_X4_isWhole {G : zzG} {t : Nat} {Q : Option Value → zzMem → Prop}  (M : zzMem) (ht : 180 ≤ t)  {P : Bool → Prop} (h : zK (f_X4_isWhole  M) P) (kR : ∀ r : Bool, P r → Q (some (.int (zb r))) M) : zz_S G m_X4_isWhole t t [.ref 3, .ref 1] M Q :=
  zz_S_of (by decide) (by decide) (Nat.le_of_ble_eq_true rfl) (w_X4_isWhole_0  M ht h kR)
noncomputable def f_X9_within (a0 : Int32) (a1 : Int32) (a2 : Int32) : Bool :=
  if a0 < a1 then
  false
  else (if a2 < a0 then
  false
  else true)
set_option maxHeartbeats 4000000 in
set_option maxRecDepth 100000 in
theorem w_X9_within_0 {G : zzG} {t : Nat} {Q : Option Value → zzMem → Prop} (a0 : Int32) (a1 : Int32) (a2 : Int32) (M : zzMem)  {P : Bool → Prop} (h : P (f_X9_within a0 a1 a2)) (kR : ∀ r : Bool, P r → Q (some (.int (zb r))) M) : zz_W G m_X9_within t t t 0 [some (.int a0), some (.int a1), some (.int a2)] [] M Q := by
  unfold f_X9_within at h
  refine r_iload_n dX9_within_0 rfl ?_
  refine r_iload_n dX9_within_1 rfl ?_
  refine r_icmp_lt 14 dX9_within_2 (by decide) (fun c1 => ?_) (fun c1 => ?_)
  · have h := zP_pos h c1
    refine r_iconst (v := (nI 0)) dX9_within_14 (by decide) ?_
    exact r_zret (b := false) dX9_within_15 rfl rfl rfl (kR (false) h)
  · have h := zP_neg h c1
    refine r_iload_n dX9_within_5 rfl ?_
    refine r_iload_n dX9_within_6 rfl ?_
    refine r_icmp_gt 14 dX9_within_7 (by decide) (fun c2 => ?_) (fun c2 => ?_)
    · have h := zP_pos h c2
      refine r_iconst (v := (nI 0)) dX9_within_14 (by decide) ?_
      exact r_zret (b := false) dX9_within_15 rfl rfl rfl (kR (false) h)
    · have h := zP_neg h c2
      refine r_iconst (v := (nI 1)) dX9_within_10 (by decide) ?_
      refine r_goto 15 dX9_within_11 (by decide) ?_
      exact r_zret (b := true) dX9_within_15 rfl rfl rfl (kR (true) h)
set_option maxHeartbeats 4000000 in
set_option maxRecDepth 100000 in
theorem c_X9_within {G : zzG} {t : Nat} {Q : Option Value → zzMem → Prop} (a0 : Int32) (a1 : Int32) (a2 : Int32) (M : zzMem)  (h : Q (some (.int (zb (f_X9_within a0 a1 a2)))) M) : zz_S G m_X9_within t t [.int a0, .int a1, .int a2] M Q :=
  zz_S_of (by decide) (by decide) (Nat.le_of_ble_eq_true rfl) (w_X9_within_0 a0 a1 a2 M  (P := fun r => Q (some (.int (zb r))) M) h (fun r p => p))
noncomputable def f_X8_isAtDigit  (M : zzMem) : Option Bool :=
  (f_X8_sign M).bind (fun r1 =>
  some ((f_X9_within r1 (nI 48) (nI 57))))
set_option maxHeartbeats 4000000 in
set_option maxRecDepth 100000 in
theorem w_X8_isAtDigit_0 {G : zzG} {t : Nat} {Q : Option Value → zzMem → Prop}  (M : zzMem) (ht : 180 ≤ t)  {P : Bool → Prop} (h : zK (f_X8_isAtDigit  M) P) (kR : ∀ r : Bool, P r → Q (some (.int (zb r))) M) : zz_W G m_X8_isAtDigit t t t 0 [some (.ref 1)] [] M Q := by
  unfold f_X8_isAtDigit at h
  refine r_aload_n dX8_isAtDigit_0 rfl ?_
  refine kV_ir (as := []) (st := []) (k := 1) dX8_isAtDigit_1 zM_X8_sign zk_X8_36 (zo_X8 (zs_X8 ht)) (by decide) rfl ⟨Nat.le_of_ble_eq_true rfl, Nat.le_of_ble_eq_true rfl⟩ (Nat.le_of_ble_eq_true rfl) (zz_T0 rfl rfl) (fun Q' P' k h => c_X8_sign M ht h k) h (fun r1 h => ?_)
  refine r_bipush (v := (nI 48)) dX8_isAtDigit_4 (by decide) ?_
  refine r_bipush (v := (nI 57)) dX8_isAtDigit_6 (by decide) ?_
  refine tN_zr (v := f_X9_within r1 (nI 48) (nI 57)) (as := [.int r1, .int (nI 48), .int (nI 57)]) (st := []) dX8_isAtDigit_8 zM_X9_within zk_X8_26 ⟨Nat.le_of_ble_eq_true rfl, Nat.le_of_ble_eq_true rfl⟩ (Nat.le_of_ble_eq_true rfl) (zz_T0 rfl rfl) (fun Q' h => c_X9_within (r1) ((nI 48)) ((nI 57)) M h) ?_
  exact r_zret (b := (f_X9_within r1 (nI 48) (nI 57))) dX8_isAtDigit_11 rfl rfl rfl (kR ((f_X9_within r1 (nI 48) (nI 57))) (zK_some h))
set_option maxHeartbeats 4000000 in
set_option maxRecDepth 100000 in
theorem c_X8_isAtDigit {G : zzG} {t : Nat} {Q : Option Value → zzMem → Prop}  (M : zzMem) (ht : 180 ≤ t)  {P : Bool → Prop} (h : zK (f_X8_isAtDigit  M) P) (kR : ∀ r : Bool, P r → Q (some (.int (zb r))) M) : zz_S G m_X8_isAtDigit t t [.ref 1] M Q :=
  zz_S_of (by decide) (by decide) (Nat.le_of_ble_eq_true rfl) (w_X8_isAtDigit_0  M ht h kR)
noncomputable def f_X8_fail (a1 : Int32) (a2 : Int32) (M : zzMem) : zzMem :=
  if (M.1 1 2) = 0 then
  (zbd (zz_si M 1 2 (((-1000 : Int32) * a1) - a2)) (fun M2 =>
  M2))
  else M
set_option maxHeartbeats 4000000 in
set_option maxRecDepth 100000 in
theorem w_X8_fail_0 {G : zzG} {t : Nat} {Q : Option Value → zzMem → Prop} (a1 : Int32) (a2 : Int32) (M : zzMem) (ht : 180 ≤ t)  {P : zzMem → Prop} (h : P (f_X8_fail a1 a2 M)) (kR : ∀ r : zzMem, P r → Q none r) : zz_W G m_X8_fail t t t 0 [some (.ref 1), some (.int a1), some (.int a2)] [] M Q := by
  unfold f_X8_fail at h
  refine r_aload_n dX8_fail_0 rfl ?_
  refine r_getI (k := 1) dX8_fail_1 zf_X8_17 (zo_X8 (zs_X8 ht)) (zi_X8_2 (zs_X8 ht)) ?_
  refine r_if_ne 18 dX8_fail_4 (by decide) (fun c1 => ?_) (fun c1 => ?_)
  · have h := zP_neg h c1
    exact r_vret dX8_fail_18 rfl rfl rfl (kR (M) h)
  · have h := zP_pos h c1
    refine r_aload_n dX8_fail_7 rfl ?_
    refine r_sipush (v := (-1000 : Int32)) dX8_fail_8 (by decide) ?_
    refine r_iload_n dX8_fail_11 rfl ?_
    refine r_imul dX8_fail_12 ?_
    refine r_iload_n dX8_fail_13 rfl ?_
    refine r_isub dX8_fail_14 ?_
    refine r_putI (k := 1) dX8_fail_15 zp_X8_17 (zo_X8 (zs_X8 ht)) (zi_X8_2 (zs_X8 ht)) rfl rfl (fun M2 eM2 => ?_)
    have h := zP_bd h eM2
    exact r_vret dX8_fail_18 rfl rfl rfl (kR (M2) h)
set_option maxHeartbeats 4000000 in
set_option maxRecDepth 100000 in
theorem c_X8_fail {G : zzG} {t : Nat} {Q : Option Value → zzMem → Prop} (a1 : Int32) (a2 : Int32) (M : zzMem) (ht : 180 ≤ t)  (h : Q none (f_X8_fail a1 a2 M)) : zz_S G m_X8_fail t t [.ref 1, .int a1, .int a2] M Q :=
  zz_S_of (by decide) (by decide) (Nat.le_of_ble_eq_true rfl) (w_X8_fail_0 a1 a2 M ht (P := fun r => Q none r) h (fun r p => p))
noncomputable def f_X8_failHere (a1 : Int32) (M : zzMem) : zzMem :=
  zbd (f_X8_fail a1 (M.1 1 4) M) (fun M1 =>
  M1)
set_option maxHeartbeats 4000000 in
set_option maxRecDepth 100000 in
theorem w_X8_failHere_0 {G : zzG} {t : Nat} {Q : Option Value → zzMem → Prop} (a1 : Int32) (M : zzMem) (ht : 180 ≤ t)  {P : zzMem → Prop} (h : P (f_X8_failHere a1 M)) (kR : ∀ r : zzMem, P r → Q none r) : zz_W G m_X8_failHere t t t 0 [some (.ref 1), some (.int a1)] [] M Q := by
  unfold f_X8_failHere at h
  refine r_aload_n dX8_failHere_0 rfl ?_
  refine r_iload_n dX8_failHere_1 rfl ?_
  refine r_aload_n dX8_failHere_2 rfl ?_
  refine r_getI (k := 1) dX8_failHere_3 zf_X8_23 (zo_X8 (zs_X8 ht)) (zi_X8_4 (zs_X8 ht)) ?_
  refine tV_vw (as := [.int a1, .int (M.1 1 4)]) (st := []) (k := 1) dX8_failHere_6 zM_X8_fail zk_X8_32 (zo_X8 (zs_X8 ht)) (by decide) rfl ⟨Nat.le_of_ble_eq_true rfl, Nat.le_of_ble_eq_true rfl⟩ (Nat.le_of_ble_eq_true rfl) (zz_T0 rfl rfl) (fun Q' h => c_X8_fail (a1) ((M.1 1 4)) M ht h) (fun M1 eM1 => ?_)
  have h := zP_bd h eM1
  exact r_vret dX8_failHere_9 rfl rfl rfl (kR (M1) h)
set_option maxHeartbeats 4000000 in
set_option maxRecDepth 100000 in
theorem c_X8_failHere {G : zzG} {t : Nat} {Q : Option Value → zzMem → Prop} (a1 : Int32) (M : zzMem) (ht : 180 ≤ t)  (h : Q none (f_X8_failHere a1 M)) : zz_S G m_X8_failHere t t [.ref 1, .int a1] M Q :=
  zz_S_of (by decide) (by decide) (Nat.le_of_ble_eq_true rfl) (w_X8_failHere_0 a1 M ht (P := fun r => Q none r) h (fun r p => p))
noncomputable def f_X8_pass  (M : zzMem) : zzMem :=
  zbd (zz_si M 1 4 ((M.1 1 4) + (nI 1))) (fun M1 =>
  M1)
set_option maxHeartbeats 4000000 in
set_option maxRecDepth 100000 in
theorem w_X8_pass_0 {G : zzG} {t : Nat} {Q : Option Value → zzMem → Prop}  (M : zzMem) (ht : 180 ≤ t)  {P : zzMem → Prop} (h : P (f_X8_pass  M)) (kR : ∀ r : zzMem, P r → Q none r) : zz_W G m_X8_pass t t t 0 [some (.ref 1)] [] M Q := by
  unfold f_X8_pass at h
  refine r_aload_n dX8_pass_0 rfl ?_
  refine r_dup dX8_pass_1 rfl ?_
  refine r_getI (k := 1) dX8_pass_2 zf_X8_23 (zo_X8 (zs_X8 ht)) (zi_X8_4 (zs_X8 ht)) ?_
  refine r_iconst (v := (nI 1)) dX8_pass_5 (by decide) ?_
  refine r_iadd dX8_pass_6 ?_
  refine r_putI (k := 1) dX8_pass_7 zp_X8_23 (zo_X8 (zs_X8 ht)) (zi_X8_4 (zs_X8 ht)) rfl rfl (fun M1 eM1 => ?_)
  have h := zP_bd h eM1
  exact r_vret dX8_pass_10 rfl rfl rfl (kR (M1) h)
set_option maxHeartbeats 4000000 in
set_option maxRecDepth 100000 in
theorem c_X8_pass {G : zzG} {t : Nat} {Q : Option Value → zzMem → Prop}  (M : zzMem) (ht : 180 ≤ t)  (h : Q none (f_X8_pass  M)) : zz_S G m_X8_pass t t [.ref 1] M Q :=
  zz_S_of (by decide) (by decide) (Nat.le_of_ble_eq_true rfl) (w_X8_pass_0  M ht (P := fun r => Q none r) h (fun r p => p))
