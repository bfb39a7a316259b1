noncomputable def f_X8_hasRoom  (M : zzMem) : Bool :=
  if (nI 320) < ((M.1 1 1) + (nI 20)) then
  false
  else true
set_option maxHeartbeats 4000000 in
set_option maxRecDepth 100000 in
theorem w_X8_hasRoom_0 {G : zzG} {t : Nat} {Q : Option Value → zzMem → Prop}  (M : zzMem) (ht : 180 ≤ t)  {P : Bool → Prop} (h : P (f_X8_hasRoom  M)) (kR : ∀ r : Bool, P r → Q (some (.int (zb r))) M) : zz_W G m_X8_hasRoom t t t 0 [some (.ref 1)] [] M Q := by
  unfold f_X8_hasRoom at h
  refine r_aload_n dX8_hasRoom_0 rfl ?_
  refine r_getI (k := 1) dX8_hasRoom_1 zf_X8_13 (zo_X8 (zs_X8 ht)) (zi_X8_1 (zs_X8 ht)) ?_
  refine r_bipush (v := (nI 20)) dX8_hasRoom_4 (by decide) ?_
  refine r_iadd dX8_hasRoom_6 ?_
  refine r_sipush (v := (nI 320)) dX8_hasRoom_7 (by decide) ?_
  refine r_icmp_gt 17 dX8_hasRoom_10 (by decide) (fun c1 => ?_) (fun c1 => ?_)
  · have h := zP_pos h c1
    refine r_iconst (v := (nI 0)) dX8_hasRoom_17 (by decide) ?_
    exact r_zret (b := false) dX8_hasRoom_18 rfl rfl rfl (kR (false) h)
  · have h := zP_neg h c1
    refine r_iconst (v := (nI 1)) dX8_hasRoom_13 (by decide) ?_
    refine r_goto 18 dX8_hasRoom_14 (by decide) ?_
    exact r_zret (b := true) dX8_hasRoom_18 rfl rfl rfl (kR (true) h)
set_option maxHeartbeats 4000000 in
set_option maxRecDepth 100000 in
theorem c_X8_hasRoom {G : zzG} {t : Nat} {Q : Option Value → zzMem → Prop}  (M : zzMem) (ht : 180 ≤ t)  (h : Q (some (.int (zb (f_X8_hasRoom  M)))) M) : zz_S G m_X8_hasRoom t t [.ref 1] M Q :=
  zz_S_of (by decide) (by decide) (Nat.le_of_ble_eq_true rfl) (w_X8_hasRoom_0  M ht (P := fun r => Q (some (.int (zb r))) M) h (fun r p => p))
noncomputable def b_X8_append_3 (v1 : Int32) (v2 : Int32) (M : zzMem) : Option ((Int32 × zzMem) ⊕ zzMem) :=
  if v2 < 0 then
  (some ((.inr M)))
  else (if (nI 320) ≤ (M.1 1 1) then
  (some ((.inr M)))
  else (zgd (vp_in (M.1 1 1) 320) (
  zbd (zz_si M 2 ((M.1 1 1)).toNatClampNeg ((v1 >>> (v2 &&& 31)) &&& (nI 255))) (fun M4 =>
  zbd (zz_si M4 1 1 ((M4.1 1 1) + (nI 1))) (fun M5 =>
  zbd (v2 + (-8 : Int32)) (fun x6 =>
  some (.inl (x6, M5))))))))
set_option maxHeartbeats 4000000 in
set_option maxRecDepth 100000 in
theorem x_X8_append_3 {G : zzG} {t : Nat} {Q : Option Value → zzMem → Prop} (v1 : Int32) (v2 : Int32) (M : zzMem) (ht : 180 ≤ t)  {P : ((Int32 × zzMem) ⊕ zzMem) → Prop} (h : zK (b_X8_append_3 v1 v2 M) P) (k3 : ∀ s : (Int32 × zzMem), P (.inl s) → zz_W G m_X8_append t t t 3 [some (.ref 1), some (.int v1), some (.int s.1)] [] s.2 Q) (kR : ∀ r : zzMem, P (.inr r) → Q none r) : zz_W G m_X8_append t t t 3 [some (.ref 1), some (.int v1), some (.int v2)] [] M Q := by
  unfold b_X8_append_3 at h
  refine r_iload_n dX8_append_3 rfl ?_
  refine r_if_lt 49 dX8_append_4 (by decide) (fun c1 => ?_) (fun c1 => ?_)
  · have h := zK_pos h c1
    exact r_vret dX8_append_49 rfl rfl rfl (kR (M) (zK_some h))
  · have h := zK_neg h c1
    refine r_aload_n dX8_append_7 rfl ?_
    refine r_getI (k := 1) dX8_append_8 zf_X8_13 (zo_X8 (zs_X8 ht)) (zi_X8_1 (zs_X8 ht)) ?_
    refine r_sipush (v := (nI 320)) dX8_append_11 (by decide) ?_
    refine r_icmp_ge 49 dX8_append_14 (by decide) (fun c2 => ?_) (fun c2 => ?_)
    · have h := zK_pos h c2
      exact r_vret dX8_append_49 rfl rfl rfl (kR (M) (zK_some h))
    · have h := zK_neg h c2
      refine r_aload_n dX8_append_17 rfl ?_
      refine r_getR (k := 1) (q := 2) dX8_append_18 zf_X8_9 (zo_X8 (zs_X8 ht)) (zr_X8_0 (zs_X8 ht)).1 (zr_X8_0 (zs_X8 ht)).2.1 (zr_X8_0 (zs_X8 ht)).2.2 ?_
      refine r_aload_n dX8_append_21 rfl ?_
      refine r_getI (k := 1) dX8_append_22 zf_X8_13 (zo_X8 (zs_X8 ht)) (zi_X8_1 (zs_X8 ht)) ?_
      refine r_iload_n dX8_append_25 rfl ?_
      refine r_iload_n dX8_append_26 rfl ?_
      refine r_ishr dX8_append_27 ?_
      refine r_sipush (v := (nI 255)) dX8_append_28 (by decide) ?_
      refine r_iand dX8_append_31 ?_
      obtain ⟨g3, h⟩ := zK_gd h
      refine r_iast dX8_append_32 (za_X8_0 (zs_X8 ht)) g3 (fun M4 eM4 => ?_)
      have h := zK_bd h eM4
      refine r_aload_n dX8_append_33 rfl ?_
      refine r_dup dX8_append_34 rfl ?_
      refine r_getI (k := 1) dX8_append_35 zf_X8_13 (zo_X8 (zs_X8 ht)) (zi_X8_1 (zs_X8 ht)) ?_
      refine r_iconst (v := (nI 1)) dX8_append_38 (by decide) ?_
      refine r_iadd dX8_append_39 ?_
      refine r_putI (k := 1) dX8_append_40 zp_X8_13 (zo_X8 (zs_X8 ht)) (zi_X8_1 (zs_X8 ht)) rfl rfl (fun M5 eM5 => ?_)
      have h := zK_bd h eM5
      refine r_iinc (-8 : Int32) (fun x6 => [some (.ref 1), some (.int v1), some (.int x6)]) dX8_append_43 rfl (by decide) (by decide) rfl (fun _ => rfl) (fun x6 ex6 => ?_)
      have h := zK_bd h ex6
      refine r_goto 3 dX8_append_46 (by decide) ?_
      exact k3 ((x6, M5)) (zK_some h)
noncomputable def j_X8_append_3 (v1 : Int32) (v2 : Int32) (M : zzMem) : Option zzMem :=
  zlp (fun s : (Int32 × zzMem) => b_X8_append_3 v1 s.1 s.2) (v2, M)
set_option maxHeartbeats 4000000 in
set_option maxRecDepth 100000 in
theorem w_X8_append_3 {G : zzG} {t : Nat} {Q : Option Value → zzMem → Prop} (v1 : Int32) (v2 : Int32) (M : zzMem) (ht : 180 ≤ t)  {P : zzMem → Prop} (h : zK (j_X8_append_3 v1 v2 M) P) (kR : ∀ r : zzMem, P r → Q none r) : zz_W G m_X8_append t t t 3 [some (.ref 1), some (.int v1), some (.int v2)] [] M Q := by
  unfold j_X8_append_3 at h
  exact zK_lp h (fun s : (Int32 × zzMem) => zz_W G m_X8_append t t t 3 [some (.ref 1), some (.int v1), some (.int s.1)] [] s.2 Q) (fun s h => x_X8_append_3 v1 s.1 s.2 ht h (fun s p => p) kR)
noncomputable def f_X8_append (a1 : Int32) (M : zzMem) : Option zzMem :=
  j_X8_append_3 a1 (nI 24) M
set_option maxHeartbeats 4000000 in
set_option maxRecDepth 100000 in
theorem w_X8_append_0 {G : zzG} {t : Nat} {Q : Option Value → zzMem → Prop} (a1 : Int32) (M : zzMem) (ht : 180 ≤ t)  {P : zzMem → Prop} (h : zK (f_X8_append a1 M) P) (kR : ∀ r : zzMem, P r → Q none r) : zz_W G m_X8_append t t t 0 [some (.ref 1), some (.int a1), none] [] M Q := by
  unfold f_X8_append at h
  refine r_bipush (v := (nI 24)) dX8_append_0 (by decide) ?_
  refine s_istore_n ([some (.ref 1), some (.int a1), some (.int (nI 24))]) dX8_append_2 (by decide) rfl rfl ?_
  exact w_X8_append_3 (a1) ((nI 24)) M ht h kR
set_option maxHeartbeats 4000000 in
set_option maxRecDepth 100000 in
theorem c_X8_append {G : zzG} {t : Nat} {Q : Option Value → zzMem → Prop} (a1 : Int32) (M : zzMem) (ht : 180 ≤ t)  {P : zzMem → Prop} (h : zK (f_X8_append a1 M) P) (kR : ∀ r : zzMem, P r → Q none r) : zz_S G m_X8_append t t [.ref 1, .int a1] M Q :=
  zz_S_of (by decide) (by decide) (Nat.le_of_ble_eq_true rfl) (w_X8_append_0 a1 M ht h kR)
noncomputable def f_X8_has (a1 : Int32) (a2 : Int32) (a3 : Int32) (M : zzMem) : Bool :=
  if (f_X9_within a1 a2 a3) = true then
  (if (M.1 1 1) < a1 then
  false
  else true)
  else false
set_option maxHeartbeats 4000000 in
set_option maxRecDepth 100000 in
theorem w_X8_has_0 {G : zzG} {t : Nat} {Q : Option Value → zzMem → Prop} (a1 : Int32) (a2 : Int32) (a3 : Int32) (M : zzMem) (ht : 180 ≤ t)  {P : Bool → Prop} (h : P (f_X8_has a1 a2 a3 M)) (kR : ∀ r : Bool, P r → Q (some (.int (zb r))) M) : zz_W G m_X8_has t t t 0 [some (.ref 1), some (.int a1), some (.int a2), some (.int a3)] [] M Q := by
  unfold f_X8_has at h
  refine r_iload_n dX8_has_0 rfl ?_
  refine r_iload_n dX8_has_1 rfl ?_
  refine r_iload_n dX8_has_2 rfl ?_
  refine tN_zr (v := f_X9_within a1 a2 a3) (as := [.int a1, .int a2, .int a3]) (st := []) dX8_has_3 zM_X9_within zk_X8_26 ⟨Nat.le_of_ble_eq_true rfl, Nat.le_of_ble_eq_true rfl⟩ (Nat.le_of_ble_eq_true rfl) (zz_T0 rfl rfl) (fun Q' h => c_X9_within (a1) (a2) (a3) M h) ?_
  refine r_ifZ_eq 21 dX8_has_6 (by decide) (fun c1 => ?_) (fun c1 => ?_)
  · have h := zP_neg h c1
    refine r_iconst (v := (nI 0)) dX8_has_21 (by decide) ?_
    exact r_zret (b := false) dX8_has_22 rfl rfl rfl (kR (false) h)
  · have h := zP_pos h c1
    refine r_iload_n dX8_has_9 rfl ?_
    refine r_aload_n dX8_has_10 rfl ?_
    refine r_getI (k := 1) dX8_has_11 zf_X8_13 (zo_X8 (zs_X8 ht)) (zi_X8_1 (zs_X8 ht)) ?_
    refine r_icmp_gt 21 dX8_has_14 (by decide) (fun c2 => ?_) (fun c2 => ?_)
    · have h := zP_pos h c2
      refine r_iconst (v := (nI 0)) dX8_has_21 (by decide) ?_
      exact r_zret (b := false) dX8_has_22 rfl rfl rfl (kR (false) h)
    · have h := zP_neg h c2
      refine r_iconst (v := (nI 1)) dX8_has_17 (by decide) ?_
      refine r_goto 22 dX8_has_18 (by decide) ?_
      exact r_zret (b := true) dX8_has_22 rfl rfl rfl (kR (true) h)
set_option maxHeartbeats 4000000 in
set_option maxRecDepth 100000 in
theorem c_X8_has {G : zzG} {t : Nat} {Q : Option Value → zzMem → Prop} (a1 : Int32) (a2 : Int32) (a3 : Int32) (M : zzMem) (ht : 180 ≤ t)  (h : Q (some (.int (zb (f_X8_has a1 a2 a3 M)))) M) : zz_S G m_X8_has t t [.ref 1, .int a1, .int a2, .int a3] M Q :=
  zz_S_of (by decide) (by decide) (Nat.le_of_ble_eq_true rfl) (w_X8_has_0 a1 a2 a3 M ht (P := fun r => Q (some (.int (zb r))) M) h (fun r p => p))
noncomputable def f_X8_open (a1 : Int32) (M : zzMem) : zzMem :=
  zbd (zz_si M 1 3 a1) (fun M1 =>
  zbd (zz_si M1 1 4 (nI 0)) (fun M2 =>
  zbd (zz_si M2 1 2 (nI 0)) (fun M3 =>
  zbd (zz_si M3 1 1 (nI 0)) (fun M4 =>
  M4))))
set_option maxHeartbeats 4000000 in
set_option maxRecDepth 100000 in
theorem w_X8_open_0 {G : zzG} {t : Nat} {Q : Option Value → zzMem → Prop} (a1 : Int32) (M : zzMem) (ht : 180 ≤ t)  {P : zzMem → Prop} (h : P (f_X8_open a1 M)) (kR : ∀ r : zzMem, P r → Q none r) : zz_W G m_X8_open t t t 0 [some (.ref 1), some (.int a1)] [] M Q := by
  unfold f_X8_open at h
  refine r_aload_n dX8_open_0 rfl ?_
  refine r_iload_n dX8_open_1 rfl ?_
  refine r_putI (k := 1) dX8_open_2 zp_X8_20 (zo_X8 (zs_X8 ht)) (zi_X8_3 (zs_X8 ht)) rfl rfl (fun M1 eM1 => ?_)
  have h := zP_bd h eM1
  refine r_aload_n dX8_open_5 rfl ?_
  refine r_iconst (v := (nI 0)) dX8_open_6 (by decide) ?_
  refine r_putI (k := 1) dX8_open_7 zp_X8_23 (zo_X8 (zs_X8 ht)) (zi_X8_4 (zs_X8 ht)) rfl rfl (fun M2 eM2 => ?_)
  have h := zP_bd h eM2
  refine r_aload_n dX8_open_10 rfl ?_
  refine r_iconst (v := (nI 0)) dX8_open_11 (by decide) ?_
  refine r_putI (k := 1) dX8_open_12 zp_X8_17 (zo_X8 (zs_X8 ht)) (zi_X8_2 (zs_X8 ht)) rfl rfl (fun M3 eM3 => ?_)
  have h := zP_bd h eM3
  refine r_aload_n dX8_open_15 rfl ?_
  refine r_iconst (v := (nI 0)) dX8_open_16 (by decide) ?_
  refine r_putI (k := 1) dX8_open_17 zp_X8_13 (zo_X8 (zs_X8 ht)) (zi_X8_1 (zs_X8 ht)) rfl rfl (fun M4 eM4 => ?_)
  have h := zP_bd h eM4
  exact r_vret dX8_open_20 rfl rfl rfl (kR (M4) h)
set_option maxHeartbeats 4000000 in
set_option maxRecDepth 100000 in
theorem c_X8_open {G : zzG} {t : Nat} {Q : Option Value → zzMem → Prop} (a1 : Int32) (M : zzMem) (ht : 180 ≤ t)  (h : Q none (f_X8_open a1 M)) : zz_S G m_X8_open t t [.ref 1, .int a1] M Q :=
  zz_S_of (by decide) (by decide) (Nat.le_of_ble_eq_true rfl) (w_X8_open_0 a1 M ht (P := fun r => Q none r) h (fun r p => p))
noncomputable def f_X9_feed (a1 : Int32) (a2 : Int32) (a3 : Int32) (a4 : Int32) (a5 : Int32) (M : zzMem) : Option (Int32 × zzMem) :=
  if (f_X8_hasRoom M) = true then
  ((f_X8_append a1 M).bind (fun M2 =>
  (f_X8_append a2 M2).bind (fun M3 =>
  (f_X8_append a3 M3).bind (fun M4 =>
  (f_X8_append a4 M4).bind (fun M5 =>
  (f_X8_append a5 M5).bind (fun M6 =>
  some (((M6.1 1 1), M6))))))))
  else (some (((-1 : Int32), M)))
set_option maxHeartbeats 4000000 in
set_option maxRecDepth 100000 in
theorem w_X9_feed_0 {G : zzG} {t : Nat} {Q : Option Value → zzMem → Prop} (a1 : Int32) (a2 : Int32) (a3 : Int32) (a4 : Int32) (a5 : Int32) (M : zzMem) (ht : 180 ≤ t)  {P : (Int32 × zzMem) → Prop} (h : zK (f_X9_feed a1 a2 a3 a4 a5 M) P) (kR : ∀ r : (Int32 × zzMem), P r → Q (some (.int r.1)) r.2) : zz_W G m_X9_feed t t t 0 [some (.ref 0), some (.int a1), some (.int a2), some (.int a3), some (.int a4), some (.int a5)] [] M Q := by
  unfold f_X9_feed at h
  refine r_aload_n dX9_feed_0 rfl ?_
  refine r_getR (k := 0) (q := 1) dX9_feed_1 zf_X9_10 (zo_X9 (zs_X9 ht)) (zr_X9_0 (zs_X9 ht)).1 (zr_X9_0 (zs_X9 ht)).2.1 (zr_X9_0 (zs_X9 ht)).2.2 ?_
  refine tV_zr (v := f_X8_hasRoom M) (as := []) (st := []) (k := 1) dX9_feed_4 zM_X8_hasRoom zk_X9_51 (zo_X8 (zs_X8 ht)) (by decide) rfl ⟨Nat.le_of_ble_eq_true rfl, Nat.le_of_ble_eq_true rfl⟩ (Nat.le_of_ble_eq_true rfl) (zz_T0 rfl rfl) (fun Q' h => c_X8_hasRoom M ht h) ?_
  refine r_ifZ_ne 12 dX9_feed_7 (by decide) (fun c1 => ?_) (fun c1 => ?_)
  · have h := zK_pos h c1
    refine r_aload_n dX9_feed_12 rfl ?_
    refine r_getR (k := 0) (q := 1) dX9_feed_13 zf_X9_10 (zo_X9 (zs_X9 ht)) (zr_X9_0 (zs_X9 ht)).1 (zr_X9_0 (zs_X9 ht)).2.1 (zr_X9_0 (zs_X9 ht)).2.2 ?_
    refine r_iload_n dX9_feed_16 rfl ?_
    refine kV_vw (as := [.int a1]) (st := []) (k := 1) dX9_feed_17 zM_X8_append zk_X9_55 (zo_X8 (zs_X8 ht)) (by decide) rfl ⟨Nat.le_of_ble_eq_true rfl, Nat.le_of_ble_eq_true rfl⟩ (Nat.le_of_ble_eq_true rfl) (zz_T0 rfl rfl) (fun Q' P' k h => c_X8_append (a1) M ht h k) h (fun M2 h => ?_)
    refine r_aload_n dX9_feed_20 rfl ?_
    refine r_getR (k := 0) (q := 1) dX9_feed_21 zf_X9_10 (zo_X9 (zs_X9 ht)) (zr_X9_0 (zs_X9 ht)).1 (zr_X9_0 (zs_X9 ht)).2.1 (zr_X9_0 (zs_X9 ht)).2.2 ?_
    refine r_iload_n dX9_feed_24 rfl ?_
    refine kV_vw (as := [.int a2]) (st := []) (k := 1) dX9_feed_25 zM_X8_append zk_X9_55 (zo_X8 (zs_X8 ht)) (by decide) rfl ⟨Nat.le_of_ble_eq_true rfl, Nat.le_of_ble_eq_true rfl⟩ (Nat.le_of_ble_eq_true rfl) (zz_T0 rfl rfl) (fun Q' P' k h => c_X8_append (a2) M2 ht h k) h (fun M3 h => ?_)
    refine r_aload_n dX9_feed_28 rfl ?_
    refine r_getR (k := 0) (q := 1) dX9_feed_29 zf_X9_10 (zo_X9 (zs_X9 ht)) (zr_X9_0 (zs_X9 ht)).1 (zr_X9_0 (zs_X9 ht)).2.1 (zr_X9_0 (zs_X9 ht)).2.2 ?_
    refine r_iload_n dX9_feed_32 rfl ?_
    refine kV_vw (as := [.int a3]) (st := []) (k := 1) dX9_feed_33 zM_X8_append zk_X9_55 (zo_X8 (zs_X8 ht)) (by decide) rfl ⟨Nat.le_of_ble_eq_true rfl, Nat.le_of_ble_eq_true rfl⟩ (Nat.le_of_ble_eq_true rfl) (zz_T0 rfl rfl) (fun Q' P' k h => c_X8_append (a3) M3 ht h k) h (fun M4 h => ?_)
    refine r_aload_n dX9_feed_36 rfl ?_
    refine r_getR (k := 0) (q := 1) dX9_feed_37 zf_X9_10 (zo_X9 (zs_X9 ht)) (zr_X9_0 (zs_X9 ht)).1 (zr_X9_0 (zs_X9 ht)).2.1 (zr_X9_0 (zs_X9 ht)).2.2 ?_
    refine r_iload dX9_feed_40 rfl ?_
    refine kV_vw (as := [.int a4]) (st := []) (k := 1) dX9_feed_42 zM_X8_append zk_X9_55 (zo_X8 (zs_X8 ht)) (by decide) rfl ⟨Nat.le_of_ble_eq_true rfl, Nat.le_of_ble_eq_true rfl⟩ (Nat.le_of_ble_eq_true rfl) (zz_T0 rfl rfl) (fun Q' P' k h => c_X8_append (a4) M4 ht h k) h (fun M5 h => ?_)
    refine r_aload_n dX9_feed_45 rfl ?_
    refine r_getR (k := 0) (q := 1) dX9_feed_46 zf_X9_10 (zo_X9 (zs_X9 ht)) (zr_X9_0 (zs_X9 ht)).1 (zr_X9_0 (zs_X9 ht)).2.1 (zr_X9_0 (zs_X9 ht)).2.2 ?_
    refine r_iload dX9_feed_49 rfl ?_
    refine kV_vw (as := [.int a5]) (st := []) (k := 1) dX9_feed_51 zM_X8_append zk_X9_55 (zo_X8 (zs_X8 ht)) (by decide) rfl ⟨Nat.le_of_ble_eq_true rfl, Nat.le_of_ble_eq_true rfl⟩ (Nat.le_of_ble_eq_true rfl) (zz_T0 rfl rfl) (fun Q' P' k h => c_X8_append (a5) M5 ht h k) h (fun M6 h => ?_)
    refine r_aload_n dX9_feed_54 rfl ?_
    refine r_getR (k := 0) (q := 1) dX9_feed_55 zf_X9_10 (zo_X9 (zs_X9 ht)) (zr_X9_0 (zs_X9 ht)).1 (zr_X9_0 (zs_X9 ht)).2.1 (zr_X9_0 (zs_X9 ht)).2.2 ?_
    refine r_getI (k := 1) dX9_feed_58 zf_X9_59 (zo_X8 (zs_X8 ht)) (zi_X8_1 (zs_X8 ht)) ?_
    exact r_iret dX9_feed_61 rfl rfl rfl (kR (((M6.1 1 1), M6)) (zK_some h))
  · have h := zK_neg h c1
    refine r_iconst (v := (-1 : Int32)) dX9_feed_10 (by decide) ?_
    exact r_iret dX9_feed_11 rfl rfl rfl (kR (((-1 : Int32), M)) (zK_some h))
set_option maxHeartbeats 4000000 in
set_option maxRecDepth 100000 in
theorem c_X9_feed {G : zzG} {t : Nat} {Q : Option Value → zzMem → Prop} (a1 : Int32) (a2 : Int32) (a3 : Int32) (a4 : Int32) (a5 : Int32) (M : zzMem) (ht : 180 ≤ t)  {P : (Int32 × zzMem) → Prop} (h : zK (f_X9_feed a1 a2 a3 a4 a5 M) P) (kR : ∀ r : (Int32 × zzMem), P r → Q (some (.int r.1)) r.2) : zz_S G m_X9_feed t t [.ref 0, .int a1, .int a2, .int a3, .int a4, .int a5] M Q :=
  zz_S_of (by decide) (by decide) (Nat.le_of_ble_eq_true rfl) (w_X9_feed_0 a1 a2 a3 a4 a5 M ht h kR)
noncomputable def j_X9_shape_57 (v1 : Int32) (v2 : Int32) (v3 : Int32) (v4 : Int32) (v5 : Int32) (ws0 : Bool) (M : zzMem) : Option (Bool × zzMem) :=
  if ws0 = true then
  ((f_X2_reset 12 v1 v2 v3 v4 v5 M).bind (fun M2 =>
  some ((ws0, M2))))
  else (some ((ws0, M)))
set_option maxHeartbeats 4000000 in
set_option maxRecDepth 100000 in
theorem w_X9_shape_57 {G : zzG} {t : Nat} {Q : Option Value → zzMem → Prop} (v1 : Int32) (v2 : Int32) (v3 : Int32) (v4 : Int32) (v5 : Int32) (ws0 : Bool) (M : zzMem) (ht : 180 ≤ t)  {P : (Bool × zzMem) → Prop} (h : zK (j_X9_shape_57 v1 v2 v3 v4 v5 ws0 M) P) (kR : ∀ r : (Bool × zzMem), P r → Q (some (.int (zb r.1))) r.2) : zz_W G m_X9_shape t t t 57 [some (.ref 0), some (.int v1), some (.int v2), some (.int v3), some (.int v4), some (.int v5), none] [.int (zb ws0)] M Q := by
  unfold j_X9_shape_57 at h
  refine s_istore ([some (.ref 0), some (.int v1), some (.int v2), some (.int v3), some (.int v4), some (.int v5), some (.int (zb ws0))]) dX9_shape_57 (by decide) rfl rfl ?_
  refine r_iload dX9_shape_59 rfl ?_
  refine r_ifZ_eq 78 dX9_shape_61 (by decide) (fun c1 => ?_) (fun c1 => ?_)
  · have h := zK_neg h c1
    refine r_iload dX9_shape_78 rfl ?_
    exact r_zret (b := ws0) dX9_shape_80 rfl rfl rfl (kR ((ws0, M)) (zK_some h))
  · have h := zK_pos h c1
    refine r_aload_n dX9_shape_64 rfl ?_
    refine r_getR (k := 0) (q := 12) dX9_shape_65 zf_X9_33 (zo_X9 (zs_X9 ht)) (zr_X9_3 (zs_X9 ht)).1 (zr_X9_3 (zs_X9 ht)).2.1 (zr_X9_3 (zs_X9 ht)).2.2 ?_
    refine r_iload_n dX9_shape_68 rfl ?_
    refine r_iload_n dX9_shape_69 rfl ?_
    refine r_iload_n dX9_shape_70 rfl ?_
    refine r_iload dX9_shape_71 rfl ?_
    refine r_iload dX9_shape_73 rfl ?_
    refine kV_vw (as := [.int v1, .int v2, .int v3, .int v4, .int v5]) (st := []) (k := 12) dX9_shape_75 zM_X2_reset zk_X9_67 (zo_X2 (zc_X9_3 (zs_X9 ht))) (by decide) rfl ⟨Nat.le_of_ble_eq_true rfl, Nat.le_of_ble_eq_true rfl⟩ (Nat.le_of_ble_eq_true rfl) (zz_T0 rfl rfl) (fun Q' P' k h => c_X2_reset (12) (v1) (v2) (v3) (v4) (v5) M (zc_X9_3 (zs_X9 ht)) h k) h (fun M2 h => ?_)
    refine r_iload dX9_shape_78 rfl ?_
    exact r_zret (b := ws0) dX9_shape_80 rfl rfl rfl (kR ((ws0, M2)) (zK_some h))
noncomputable def j_X9_shape_56 (v1 : Int32) (v2 : Int32) (v3 : Int32) (v4 : Int32) (v5 : Int32) (M : zzMem) : Option (Bool × zzMem) :=
  j_X9_shape_57 v1 v2 v3 v4 v5 false M
set_option maxHeartbeats 4000000 in
set_option maxRecDepth 100000 in
theorem w_X9_shape_56 {G : zzG} {t : Nat} {Q : Option Value → zzMem → Prop} (v1 : Int32) (v2 : Int32) (v3 : Int32) (v4 : Int32) (v5 : Int32) (M : zzMem) (ht : 180 ≤ t)  {P : (Bool × zzMem) → Prop} (h : zK (j_X9_shape_56 v1 v2 v3 v4 v5 M) P) (kR : ∀ r : (Bool × zzMem), P r → Q (some (.int (zb r.1))) r.2) : zz_W G m_X9_shape t t t 56 [some (.ref 0), some (.int v1), some (.int v2), some (.int v3), some (.int v4), some (.int v5), none] [] M Q := by
  unfold j_X9_shape_56 at h
  refine r_iconst (v := (nI 0)) dX9_shape_56 (by decide) ?_
  exact w_X9_shape_57 (v1) (v2) (v3) (v4) (v5) (false) M ht h kR
noncomputable def f_X9_shape (a1 : Int32) (a2 : Int32) (a3 : Int32) (a4 : Int32) (a5 : Int32) (M : zzMem) : Option (Bool × zzMem) :=
  if (f_X9_within a1 (nI 1) (nI 4)) = true then
  (if (f_X9_within a2 (nI 2) (nI 6)) = true then
  (if (f_X9_within a3 (nI 50) (nI 300)) = true then
  (if (f_X9_within a4 (nI 0) (nI 49)) = true then
  (if (f_X9_within a5 (nI 0) (nI 2)) = true then
  (j_X9_shape_57 a1 a2 a3 a4 a5 true M)
  else (j_X9_shape_56 a1 a2 a3 a4 a5 M))
  else (j_X9_shape_56 a1 a2 a3 a4 a5 M))
  else (j_X9_shape_56 a1 a2 a3 a4 a5 M))
  else (j_X9_shape_56 a1 a2 a3 a4 a5 M))
  else (j_X9_shape_56 a1 a2 a3 a4 a5 M)
set_option maxHeartbeats 4000000 in
set_option maxRecDepth 100000 in
theorem w_X9_shape_0 {G : zzG} {t : Nat} {Q : Option Value → zzMem → Prop} (a1 : Int32) (a2 : Int32) (a3 : Int32) (a4 : Int32) (a5 : Int32) (M : zzMem) (ht : 180 ≤ t)  {P : (Bool × zzMem) → Prop} (h : zK (f_X9_shape a1 a2 a3 a4 a5 M) P) (kR : ∀ r : (Bool × zzMem), P r → Q (some (.int (zb r.1))) r.2) : zz_W G m_X9_shape t t t 0 [some (.ref 0), some (.int a1), some (.int a2), some (.int a3), some (.int a4), some (.int a5), none] [] M Q := by
  unfold f_X9_shape at h
  refine r_iload_n dX9_shape_0 rfl ?_
  refine r_iconst (v := (nI 1)) dX9_shape_1 (by decide) ?_
  refine r_iconst (v := (nI 4)) dX9_shape_2 (by decide) ?_
  refine tS_zr (v := f_X9_within a1 (nI 1) (nI 4)) (as := [.int a1, .int (nI 1), .int (nI 4)]) (st := []) dX9_shape_3 zM_X9_within zk_X9_63 ⟨Nat.le_of_ble_eq_true rfl, Nat.le_of_ble_eq_true rfl⟩ (Nat.le_of_ble_eq_true rfl) (zz_T0 rfl rfl) (fun Q' h => c_X9_within (a1) ((nI 1)) ((nI 4)) M h) ?_
  refine r_ifZ_eq 56 dX9_shape_6 (by decide) (fun c1 => ?_) (fun c1 => ?_)
  · have h := zK_neg h c1
    exact w_X9_shape_56 (a1) (a2) (a3) (a4) (a5) M ht h kR
  · have h := zK_pos h c1
    refine r_iload_n dX9_shape_9 rfl ?_
    refine r_iconst (v := (nI 2)) dX9_shape_10 (by decide) ?_
    refine r_bipush (v := (nI 6)) dX9_shape_11 (by decide) ?_
    refine tS_zr (v := f_X9_within a2 (nI 2) (nI 6)) (as := [.int a2, .int (nI 2), .int (nI 6)]) (st := []) dX9_shape_13 zM_X9_within zk_X9_63 ⟨Nat.le_of_ble_eq_true rfl, Nat.le_of_ble_eq_true rfl⟩ (Nat.le_of_ble_eq_true rfl) (zz_T0 rfl rfl) (fun Q' h => c_X9_within (a2) ((nI 2)) ((nI 6)) M h) ?_
    refine r_ifZ_eq 56 dX9_shape_16 (by decide) (fun c2 => ?_) (fun c2 => ?_)
    · have h := zK_neg h c2
      exact w_X9_shape_56 (a1) (a2) (a3) (a4) (a5) M ht h kR
    · have h := zK_pos h c2
      refine r_iload_n dX9_shape_19 rfl ?_
      refine r_bipush (v := (nI 50)) dX9_shape_20 (by decide) ?_
      refine r_sipush (v := (nI 300)) dX9_shape_22 (by decide) ?_
      refine tS_zr (v := f_X9_within a3 (nI 50) (nI 300)) (as := [.int a3, .int (nI 50), .int (nI 300)]) (st := []) dX9_shape_25 zM_X9_within zk_X9_63 ⟨Nat.le_of_ble_eq_true rfl, Nat.le_of_ble_eq_true rfl⟩ (Nat.le_of_ble_eq_true rfl) (zz_T0 rfl rfl) (fun Q' h => c_X9_within (a3) ((nI 50)) ((nI 300)) M h) ?_
      refine r_ifZ_eq 56 dX9_shape_28 (by decide) (fun c3 => ?_) (fun c3 => ?_)
      · have h := zK_neg h c3
        exact w_X9_shape_56 (a1) (a2) (a3) (a4) (a5) M ht h kR
      · have h := zK_pos h c3
        refine r_iload dX9_shape_31 rfl ?_
        refine r_iconst (v := (nI 0)) dX9_shape_33 (by decide) ?_
        refine r_bipush (v := (nI 49)) dX9_shape_34 (by decide) ?_
        refine tS_zr (v := f_X9_within a4 (nI 0) (nI 49)) (as := [.int a4, .int (nI 0), .int (nI 49)]) (st := []) dX9_shape_36 zM_X9_within zk_X9_63 ⟨Nat.le_of_ble_eq_true rfl, Nat.le_of_ble_eq_true rfl⟩ (Nat.le_of_ble_eq_true rfl) (zz_T0 rfl rfl) (fun Q' h => c_X9_within (a4) ((nI 0)) ((nI 49)) M h) ?_
        refine r_ifZ_eq 56 dX9_shape_39 (by decide) (fun c4 => ?_) (fun c4 => ?_)
        · have h := zK_neg h c4
          exact w_X9_shape_56 (a1) (a2) (a3) (a4) (a5) M ht h kR
        · have h := zK_pos h c4
          refine r_iload dX9_shape_42 rfl ?_
          refine r_iconst (v := (nI 0)) dX9_shape_44 (by decide) ?_
          refine r_iconst (v := (nI 2)) dX9_shape_45 (by decide) ?_
          refine tS_zr (v := f_X9_within a5 (nI 0) (nI 2)) (as := [.int a5, .int (nI 0), .int (nI 2)]) (st := []) dX9_shape_46 zM_X9_within zk_X9_63 ⟨Nat.le_of_ble_eq_true rfl, Nat.le_of_ble_eq_true rfl⟩ (Nat.le_of_ble_eq_true rfl) (zz_T0 rfl rfl) (fun Q' h => c_X9_within (a5) ((nI 0)) ((nI 2)) M h) ?_
          refine r_ifZ_eq 56 dX9_shape_49 (by decide) (fun c5 => ?_) (fun c5 => ?_)
          · have h := zK_neg h c5
            exact w_X9_shape_56 (a1) (a2) (a3) (a4) (a5) M ht h kR
          · have h := zK_pos h c5
            refine r_iconst (v := (nI 1)) dX9_shape_52 (by decide) ?_
            refine r_goto 57 dX9_shape_53 (by decide) ?_
            exact w_X9_shape_57 (a1) (a2) (a3) (a4) (a5) (true) M ht h kR
set_option maxHeartbeats 4000000 in
set_option maxRecDepth 100000 in
theorem c_X9_shape {G : zzG} {t : Nat} {Q : Option Value → zzMem → Prop} (a1 : Int32) (a2 : Int32) (a3 : Int32) (a4 : Int32) (a5 : Int32) (M : zzMem) (ht : 180 ≤ t)  {P : (Bool × zzMem) → Prop} (h : zK (f_X9_shape a1 a2 a3 a4 a5 M) P) (kR : ∀ r : (Bool × zzMem), P r → Q (some (.int (zb r.1))) r.2) : zz_S G m_X9_shape t t [.ref 0, .int a1, .int a2, .int a3, .int a4, .int a5] M Q :=
  zz_S_of (by decide) (by decide) (Nat.le_of_ble_eq_true rfl) (w_X9_shape_0 a1 a2 a3 a4 a5 M ht h kR)
noncomputable def f_X9_law (a1 : Int32) (M : zzMem) : Option (Int32 × zzMem) :=
  if (f_X8_has a1 (nI 1) (nI 60) M) = true then
  (zbd (f_X8_open a1 M) (fun M2 =>
  if (M2.1 27 1) ≤ 0 then
  ((f_X4_read M2).bind (fun q4 => zpr q4 (fun r5 M6 =>
  if r5 = 0 then
  ((f_X3_take 13 4 (M6.1 3 1) M6).bind (fun M8 =>
  some (((M8.1 27 1), M8))))
  else (some ((r5, M6))))))
  else (some (((-3 : Int32), M2)))))
  else (some (((-1 : Int32), M)))
set_option maxHeartbeats 4000000 in
set_option maxRecDepth 100000 in
theorem w_X9_law_0 {G : zzG} {t : Nat} {Q : Option Value → zzMem → Prop} (a1 : Int32) (M : zzMem) (ht : 180 ≤ t)  {P : (Int32 × zzMem) → Prop} (h : zK (f_X9_law a1 M) P) (kR : ∀ r : (Int32 × zzMem), P r → Q (some (.int r.1)) r.2) : zz_W G m_X9_law t t t 0 [some (.ref 0), some (.int a1), none] [] M Q := by
  unfold f_X9_law at h
  refine r_aload_n dX9_law_0 rfl ?_
  refine r_getR (k := 0) (q := 1) dX9_law_1 zf_X9_10 (zo_X9 (zs_X9 ht)) (zr_X9_0 (zs_X9 ht)).1 (zr_X9_0 (zs_X9 ht)).2.1 (zr_X9_0 (zs_X9 ht)).2.2 ?_
  refine r_iload_n dX9_law_4 rfl ?_
  refine r_iconst (v := (nI 1)) dX9_law_5 (by decide) ?_
  refine r_bipush (v := (nI 60)) dX9_law_6 (by decide) ?_
  refine tV_zr (v := f_X8_has a1 (nI 1) (nI 60) M) (as := [.int a1, .int (nI 1), .int (nI 60)]) (st := []) (k := 1) dX9_law_8 zM_X8_has zk_X9_71 (zo_X8 (zs_X8 ht)) (by decide) rfl ⟨Nat.le_of_ble_eq_true rfl, Nat.le_of_ble_eq_true rfl⟩ (Nat.le_of_ble_eq_true rfl) (zz_T0 rfl rfl) (fun Q' h => c_X8_has (a1) ((nI 1)) ((nI 60)) M ht h) ?_
  refine r_ifZ_ne 16 dX9_law_11 (by decide) (fun c1 => ?_) (fun c1 => ?_)
  · have h := zK_pos h c1
    refine r_aload_n dX9_law_16 rfl ?_
    refine r_getR (k := 0) (q := 1) dX9_law_17 zf_X9_10 (zo_X9 (zs_X9 ht)) (zr_X9_0 (zs_X9 ht)).1 (zr_X9_0 (zs_X9 ht)).2.1 (zr_X9_0 (zs_X9 ht)).2.2 ?_
    refine r_iload_n dX9_law_20 rfl ?_
    refine tV_vw (as := [.int a1]) (st := []) (k := 1) dX9_law_21 zM_X8_open zk_X9_74 (zo_X8 (zs_X8 ht)) (by decide) rfl ⟨Nat.le_of_ble_eq_true rfl, Nat.le_of_ble_eq_true rfl⟩ (Nat.le_of_ble_eq_true rfl) (zz_T0 rfl rfl) (fun Q' h => c_X8_open (a1) M ht h) (fun M2 eM2 => ?_)
    have h := zK_bd h eM2
    refine r_aload_n dX9_law_24 rfl ?_
    refine r_getR (k := 0) (q := 12) dX9_law_25 zf_X9_33 (zo_X9 (zs_X9 ht)) (zr_X9_3 (zs_X9 ht)).1 (zr_X9_3 (zs_X9 ht)).2.1 (zr_X9_3 (zs_X9 ht)).2.2 ?_
    refine r_getR (k := 12) (q := 27) dX9_law_28 zf_X9_77 (zo_X2 (zc_X9_3 (zs_X9 ht))) (zr_X2_2 (zc_X9_3 (zs_X9 ht))).1 (zr_X2_2 (zc_X9_3 (zs_X9 ht))).2.1 (zr_X2_2 (zc_X9_3 (zs_X9 ht))).2.2 ?_
    refine r_getI (k := 27) dX9_law_31 zf_X9_81 (zo_X5 (zc_X2_2 (zc_X9_3 (zs_X9 ht)))) (zi_X5_1 (zc_X2_2 (zc_X9_3 (zs_X9 ht)))) ?_
    refine r_if_le 40 dX9_law_34 (by decide) (fun c3 => ?_) (fun c3 => ?_)
    · have h := zK_pos h c3
      refine r_aload_n dX9_law_40 rfl ?_
      refine r_getR (k := 0) (q := 3) dX9_law_41 zf_X9_19 (zo_X9 (zs_X9 ht)) (zr_X9_1 (zs_X9 ht)).1 (zr_X9_1 (zs_X9 ht)).2.1 (zr_X9_1 (zs_X9 ht)).2.2 ?_
      refine r_aload_n dX9_law_44 rfl ?_
      refine r_getR (k := 0) (q := 1) dX9_law_45 zf_X9_10 (zo_X9 (zs_X9 ht)) (zr_X9_0 (zs_X9 ht)).1 (zr_X9_0 (zs_X9 ht)).2.1 (zr_X9_0 (zs_X9 ht)).2.2 ?_
      refine kV_iw (as := [.ref 1]) (st := []) (k := 3) dX9_law_48 zM_X4_read zk_X9_84 (zo_X4 (zs_X4 ht)) (by decide) rfl ⟨Nat.le_of_ble_eq_true rfl, Nat.le_of_ble_eq_true rfl⟩ (Nat.le_of_ble_eq_true rfl) (zz_T0 rfl rfl) (fun Q' P' k h => c_X4_read M2 ht h (fun r p => k r.1 r.2 p)) h (fun r5 M6 h => ?_)
      have h := zK_pr h
      refine s_istore_n ([some (.ref 0), some (.int a1), some (.int r5)]) dX9_law_51 (by decide) rfl rfl ?_
      refine r_iload_n dX9_law_52 rfl ?_
      refine r_if_eq 58 dX9_law_53 (by decide) (fun c7 => ?_) (fun c7 => ?_)
      · have h := zK_pos h c7
        refine r_aload_n dX9_law_58 rfl ?_
        refine r_getR (k := 0) (q := 12) dX9_law_59 zf_X9_33 (zo_X9 (zs_X9 ht)) (zr_X9_3 (zs_X9 ht)).1 (zr_X9_3 (zs_X9 ht)).2.1 (zr_X9_3 (zs_X9 ht)).2.2 ?_
        refine r_getR (k := 12) (q := 13) dX9_law_62 zf_X9_88 (zo_X2 (zc_X9_3 (zs_X9 ht))) (zr_X2_0 (zc_X9_3 (zs_X9 ht))).1 (zr_X2_0 (zc_X9_3 (zs_X9 ht))).2.1 (zr_X2_0 (zc_X9_3 (zs_X9 ht))).2.2 ?_
        refine r_aload_n dX9_law_65 rfl ?_
        refine r_getR (k := 0) (q := 3) dX9_law_66 zf_X9_19 (zo_X9 (zs_X9 ht)) (zr_X9_1 (zs_X9 ht)).1 (zr_X9_1 (zs_X9 ht)).2.1 (zr_X9_1 (zs_X9 ht)).2.2 ?_
        refine r_getR (k := 3) (q := 4) dX9_law_69 zf_X9_92 (zo_X4 (zs_X4 ht)) (zr_X4_0 (zs_X4 ht)).1 (zr_X4_0 (zs_X4 ht)).2.1 (zr_X4_0 (zs_X4 ht)).2.2 ?_
        refine r_aload_n dX9_law_72 rfl ?_
        refine r_getR (k := 0) (q := 3) dX9_law_73 zf_X9_19 (zo_X9 (zs_X9 ht)) (zr_X9_1 (zs_X9 ht)).1 (zr_X9_1 (zs_X9 ht)).2.1 (zr_X9_1 (zs_X9 ht)).2.2 ?_
        refine r_getI (k := 3) dX9_law_76 zf_X9_95 (zo_X4 (zs_X4 ht)) (zi_X4_1 (zs_X4 ht)) ?_
        refine kV_vw (as := [.ref 4, .int (M6.1 3 1)]) (st := []) (k := 13) dX9_law_79 zM_X3_take zk_X9_96 (zo_X3 (zc_X2_0 (zc_X9_3 (zs_X9 ht)))) (by decide) rfl ⟨Nat.le_of_ble_eq_true rfl, Nat.le_of_ble_eq_true rfl⟩ (Nat.le_of_ble_eq_true rfl) (zz_T0 rfl rfl) (fun Q' P' k h => c_X3_take (13) (4) ((M6.1 3 1)) M6 (zc_X2_0 (zc_X9_3 (zs_X9 ht))) (za_X4_0 (zs_X4 ht)) h k) h (fun M8 h => ?_)
        refine r_aload_n dX9_law_82 rfl ?_
        refine r_getR (k := 0) (q := 12) dX9_law_83 zf_X9_33 (zo_X9 (zs_X9 ht)) (zr_X9_3 (zs_X9 ht)).1 (zr_X9_3 (zs_X9 ht)).2.1 (zr_X9_3 (zs_X9 ht)).2.2 ?_
        refine r_getR (k := 12) (q := 27) dX9_law_86 zf_X9_77 (zo_X2 (zc_X9_3 (zs_X9 ht))) (zr_X2_2 (zc_X9_3 (zs_X9 ht))).1 (zr_X2_2 (zc_X9_3 (zs_X9 ht))).2.1 (zr_X2_2 (zc_X9_3 (zs_X9 ht))).2.2 ?_
        refine r_getI (k := 27) dX9_law_89 zf_X9_81 (zo_X5 (zc_X2_2 (zc_X9_3 (zs_X9 ht)))) (zi_X5_1 (zc_X2_2 (zc_X9_3 (zs_X9 ht)))) ?_
        exact r_iret dX9_law_92 rfl rfl rfl (kR (((M8.1 27 1), M8)) (zK_some h))
      · have h := zK_neg h c7
        refine r_iload_n dX9_law_56 rfl ?_
        exact r_iret dX9_law_57 rfl rfl rfl (kR ((r5, M6)) (zK_some h))
    · have h := zK_neg h c3
      refine r_bipush (v := (-3 : Int32)) dX9_law_37 (by decide) ?_
      exact r_iret dX9_law_39 rfl rfl rfl (kR (((-3 : Int32), M2)) (zK_some h))
  · have h := zK_neg h c1
    refine r_iconst (v := (-1 : Int32)) dX9_law_14 (by decide) ?_
    exact r_iret dX9_law_15 rfl rfl rfl (kR (((-1 : Int32), M)) (zK_some h))
set_option maxHeartbeats 4000000 in
set_option maxRecDepth 100000 in
theorem c_X9_law {G : zzG} {t : Nat} {Q : Option Value → zzMem → Prop} (a1 : Int32) (M : zzMem) (ht : 180 ≤ t)  {P : (Int32 × zzMem) → Prop} (h : zK (f_X9_law a1 M) P) (kR : ∀ r : (Int32 × zzMem), P r → Q (some (.int r.1)) r.2) : zz_S G m_X9_law t t [.ref 0, .int a1] M Q :=
  zz_S_of (by decide) (by decide) (Nat.le_of_ble_eq_true rfl) (w_X9_law_0 a1 M ht h kR)
noncomputable def b_X9_storeRow_3 (v1 : Int32) (v2 : Int32) (v3 : Int32) (v4 : Int32) (M : zzMem) : Option ((Int32 × zzMem) ⊕ zzMem) :=
  if v2 ≤ v4 then
  (some ((.inr M)))
  else (zbd (((v1 + (v4 * v3)) &&& (nI 65535))) (fun x2 =>
  (f_X2_store 12 x2 (x2 &&& (nI 255)) M).bind (fun q3 => zpr q3 (fun r4 M5 =>
  zbd (v4 + (nI 1)) (fun x6 =>
  some (.inl (x6, M5)))))))
set_option maxHeartbeats 4000000 in
set_option maxRecDepth 100000 in
theorem x_X9_storeRow_3 {G : zzG} {t : Nat} {Q : Option Value → zzMem → Prop} (v1 : Int32) (v2 : Int32) (v3 : Int32) (v4 : Int32) (M : zzMem) (ht : 180 ≤ t)  {P : ((Int32 × zzMem) ⊕ zzMem) → Prop} (h : zK (b_X9_storeRow_3 v1 v2 v3 v4 M) P) (k3 : ∀ s : (Int32 × zzMem), P (.inl s) → zz_W G m_X9_storeRow t t t 3 [some (.ref 0), some (.int v1), some (.int v2), some (.int v3), some (.int s.1), none] [] s.2 Q) (kR : ∀ r : zzMem, P (.inr r) → Q none r) : zz_W G m_X9_storeRow t t t 3 [some (.ref 0), some (.int v1), some (.int v2), some (.int v3), some (.int v4), none] [] M Q := by
  unfold b_X9_storeRow_3 at h
  refine r_iload dX9_storeRow_3 rfl ?_
  refine r_iload_n dX9_storeRow_5 rfl ?_
  refine r_icmp_ge 42 dX9_storeRow_6 (by decide) (fun c1 => ?_) (fun c1 => ?_)
  · have h := zK_pos h c1
    exact r_vret dX9_storeRow_42 rfl rfl rfl (kR (M) (zK_some h))
  · have h := zK_neg h c1
    refine r_iload_n dX9_storeRow_9 rfl ?_
    refine r_iload dX9_storeRow_10 rfl ?_
    refine r_iload_n dX9_storeRow_12 rfl ?_
    refine r_imul dX9_storeRow_13 ?_
    refine r_iadd dX9_storeRow_14 ?_
    refine r_ldc (v := (nI 65535)) dX9_storeRow_15 zd_X9_148 ?_
    refine r_iand dX9_storeRow_17 ?_
    refine r_istore (fun x2 => [some (.ref 0), some (.int v1), some (.int v2), some (.int v3), some (.int v4), some (.int x2)]) dX9_storeRow_18 (by decide) rfl (fun _ => rfl) (fun x2 ex2 => ?_)
    have h := zK_bd h ex2
    refine r_aload_n dX9_storeRow_20 rfl ?_
    refine r_getR (k := 0) (q := 12) dX9_storeRow_21 zf_X9_33 (zo_X9 (zs_X9 ht)) (zr_X9_3 (zs_X9 ht)).1 (zr_X9_3 (zs_X9 ht)).2.1 (zr_X9_3 (zs_X9 ht)).2.2 ?_
    refine r_iload dX9_storeRow_24 rfl ?_
    refine r_iload dX9_storeRow_26 rfl ?_
    refine r_sipush (v := (nI 255)) dX9_storeRow_28 (by decide) ?_
    refine r_iand dX9_storeRow_31 ?_
    refine kV_iw (as := [.int x2, .int (x2 &&& (nI 255))]) (st := []) (k := 12) dX9_storeRow_32 zM_X2_store zk_X9_120 (zo_X2 (zc_X9_3 (zs_X9 ht))) (by decide) rfl ⟨Nat.le_of_ble_eq_true rfl, Nat.le_of_ble_eq_true rfl⟩ (Nat.le_of_ble_eq_true rfl) (zz_T0 rfl rfl) (fun Q' P' k h => c_X2_store (12) (x2) ((x2 &&& (nI 255))) M (zc_X9_3 (zs_X9 ht)) h (fun r p => k r.1 r.2 p)) h (fun r4 M5 h => ?_)
    have h := zK_pr h
    refine r_pop dX9_storeRow_35 rfl ?_
    refine r_iinc (nI 1) (fun x6 => [some (.ref 0), some (.int v1), some (.int v2), some (.int v3), some (.int x6), some (.int x2)]) dX9_storeRow_36 rfl (by decide) (by decide) rfl (fun _ => rfl) (fun x6 ex6 => ?_)
    have h := zK_bd h ex6
    refine r_goto 3 dX9_storeRow_39 (by decide) ?_
    refine zz_mask [5] ?_
    exact k3 ((x6, M5)) (zK_some h)
noncomputable def j_X9_storeRow_3 (v1 : Int32) (v2 : Int32) (v3 : Int32) (v4 : Int32) (M : zzMem) : Option zzMem :=
  zlp (fun s : (Int32 × zzMem) => b_X9_storeRow_3 v1 v2 v3 s.1 s.2) (v4, M)
set_option maxHeartbeats 4000000 in
set_option maxRecDepth 100000 in
theorem w_X9_storeRow_3 {G : zzG} {t : Nat} {Q : Option Value → zzMem → Prop} (v1 : Int32) (v2 : Int32) (v3 : Int32) (v4 : Int32) (M : zzMem) (ht : 180 ≤ t)  {P : zzMem → Prop} (h : zK (j_X9_storeRow_3 v1 v2 v3 v4 M) P) (kR : ∀ r : zzMem, P r → Q none r) : zz_W G m_X9_storeRow t t t 3 [some (.ref 0), some (.int v1), some (.int v2), some (.int v3), some (.int v4), none] [] M Q := by
  unfold j_X9_storeRow_3 at h
  exact zK_lp h (fun s : (Int32 × zzMem) => zz_W G m_X9_storeRow t t t 3 [some (.ref 0), some (.int v1), some (.int v2), some (.int v3), some (.int s.1), none] [] s.2 Q) (fun s h => x_X9_storeRow_3 v1 v2 v3 s.1 s.2 ht h (fun s p => p) kR)
noncomputable def f_X9_storeRow (a1 : Int32) (a2 : Int32) (a3 : Int32) (M : zzMem) : Option zzMem :=
  j_X9_storeRow_3 a1 a2 a3 (nI 0) M
set_option maxHeartbeats 4000000 in
set_option maxRecDepth 100000 in
theorem w_X9_storeRow_0 {G : zzG} {t : Nat} {Q : Option Value → zzMem → Prop} (a1 : Int32) (a2 : Int32) (a3 : Int32) (M : zzMem) (ht : 180 ≤ t)  {P : zzMem → Prop} (h : zK (f_X9_storeRow a1 a2 a3 M) P) (kR : ∀ r : zzMem, P r → Q none r) : zz_W G m_X9_storeRow t t t 0 [some (.ref 0), some (.int a1), some (.int a2), some (.int a3), none, none] [] M Q := by
  unfold f_X9_storeRow at h
  refine r_iconst (v := (nI 0)) dX9_storeRow_0 (by decide) ?_
  refine s_istore ([some (.ref 0), some (.int a1), some (.int a2), some (.int a3), some (.int (nI 0)), none]) dX9_storeRow_1 (by decide) rfl rfl ?_
  exact w_X9_storeRow_3 (a1) (a2) (a3) ((nI 0)) M ht h kR
set_option maxHeartbeats 4000000 in
set_option maxRecDepth 100000 in
theorem c_X9_storeRow {G : zzG} {t : Nat} {Q : Option Value → zzMem → Prop} (a1 : Int32) (a2 : Int32) (a3 : Int32) (M : zzMem) (ht : 180 ≤ t)  {P : zzMem → Prop} (h : zK (f_X9_storeRow a1 a2 a3 M) P) (kR : ∀ r : zzMem, P r → Q none r) : zz_S G m_X9_storeRow t t [.ref 0, .int a1, .int a2, .int a3] M Q :=
  zz_S_of (by decide) (by decide) (Nat.le_of_ble_eq_true rfl) (w_X9_storeRow_0 a1 a2 a3 M ht h kR)
noncomputable def f_X9_doStep (a1 : Int32) (a2 : Int32) (a3 : Int32) (a4 : Int32) (M : zzMem) : Option zzMem :=
  if a1 = (nI 100) then
  ((f_X2_remove 12 a2 M).bind (fun q2 => zpr q2 (fun r3 M4 =>
  some M4)))
  else if a1 = (nI 103) then
  ((f_X2_look 12 a2 M).bind (fun q8 => zpr q8 (fun r9 M10 =>
  some M10)))
  else if a1 = (nI 106) then
  ((f_X2_unite 12 M).bind (fun q14 => zpr q14 (fun r15 M16 =>
  some M16)))
  else if a1 = (nI 110) then
  ((f_X9_storeRow a2 a3 a4 M).bind (fun M21 =>
  some M21))
  else if a1 = (nI 112) then
  ((f_X2_store 12 a2 a3 M).bind (fun q24 => zpr q24 (fun r25 M26 =>
  some M26)))
  else if a1 = (nI 115) then
  ((f_X2_divide 12 M).bind (fun q30 => zpr q30 (fun r31 M32 =>
  some M32)))
  else if a1 = (nI 120) then
  ((f_X2_storeDrawn 12 a2 M).bind (fun M38 =>
  some M38))
  else if a1 = (nI 121) then
  ((f_X2_removeDrawn 12 a2 M).bind (fun M40 =>
  some M40))
  else (some M)
set_option maxHeartbeats 4000000 in
set_option maxRecDepth 100000 in
theorem w_X9_doStep_0 {G : zzG} {t : Nat} {Q : Option Value → zzMem → Prop} (a1 : Int32) (a2 : Int32) (a3 : Int32) (a4 : Int32) (M : zzMem) (ht : 180 ≤ t)  {P : zzMem → Prop} (h : zK (f_X9_doStep a1 a2 a3 a4 M) P) (kR : ∀ r : zzMem, P r → Q none r) : zz_W G m_X9_doStep t t t 0 [some (.ref 0), some (.int a1), some (.int a2), some (.int a3), some (.int a4)] [] M Q := by
  unfold f_X9_doStep at h
  refine r_iload_n dX9_doStep_0 rfl ?_
  by_cases c1 : a1 = (nI 100)
  · have h := zK_pos h c1
    refine r_tabIn (off := 116) 117 dX9_doStep_1 (by rw [c1]; first | done | decide) (by rw [c1]; first | done | decide) (by rw [c1]; first | done | decide) (by decide) ?_
    refine r_aload_n dX9_doStep_117 rfl ?_
    refine r_getR (k := 0) (q := 12) dX9_doStep_118 zf_X9_33 (zo_X9 (zs_X9 ht)) (zr_X9_3 (zs_X9 ht)).1 (zr_X9_3 (zs_X9 ht)).2.1 (zr_X9_3 (zs_X9 ht)).2.2 ?_
    refine r_iload_n dX9_doStep_121 rfl ?_
    refine kV_iw (as := [.int a2]) (st := []) (k := 12) dX9_doStep_122 zM_X2_remove zk_X9_124 (zo_X2 (zc_X9_3 (zs_X9 ht))) (by decide) rfl ⟨Nat.le_of_ble_eq_true rfl, Nat.le_of_ble_eq_true rfl⟩ (Nat.le_of_ble_eq_true rfl) (zz_T0 rfl rfl) (fun Q' P' k h => c_X2_remove (12) (a2) M (zc_X9_3 (zs_X9 ht)) h (fun r p => k r.1 r.2 p)) h (fun r3 M4 h => ?_)
    have h := zK_pr h
    refine r_pop dX9_doStep_125 rfl ?_
    refine r_goto 196 dX9_doStep_126 (by decide) ?_
    exact r_vret dX9_doStep_196 rfl rfl rfl (kR (M4) (zK_some h))
  · have h := zK_neg h c1
    by_cases c7 : a1 = (nI 103)
    · have h := zK_pos h c7
      refine r_tabIn (off := 128) 129 dX9_doStep_1 (by rw [c7]; first | done | decide) (by rw [c7]; first | done | decide) (by rw [c7]; first | done | decide) (by decide) ?_
      refine r_aload_n dX9_doStep_129 rfl ?_
      refine r_getR (k := 0) (q := 12) dX9_doStep_130 zf_X9_33 (zo_X9 (zs_X9 ht)) (zr_X9_3 (zs_X9 ht)).1 (zr_X9_3 (zs_X9 ht)).2.1 (zr_X9_3 (zs_X9 ht)).2.2 ?_
      refine r_iload_n dX9_doStep_133 rfl ?_
      refine kV_iw (as := [.int a2]) (st := []) (k := 12) dX9_doStep_134 zM_X2_look zk_X9_128 (zo_X2 (zc_X9_3 (zs_X9 ht))) (by decide) rfl ⟨Nat.le_of_ble_eq_true rfl, Nat.le_of_ble_eq_true rfl⟩ (Nat.le_of_ble_eq_true rfl) (zz_T0 rfl rfl) (fun Q' P' k h => c_X2_look (12) (a2) M (zc_X9_3 (zs_X9 ht)) h (fun r p => k r.1 r.2 p)) h (fun r9 M10 h => ?_)
      have h := zK_pr h
      refine r_pop dX9_doStep_137 rfl ?_
      refine r_goto 196 dX9_doStep_138 (by decide) ?_
      exact r_vret dX9_doStep_196 rfl rfl rfl (kR (M10) (zK_some h))
    · have h := zK_neg h c7
      by_cases c13 : a1 = (nI 106)
      · have h := zK_pos h c13
        refine r_tabIn (off := 151) 152 dX9_doStep_1 (by rw [c13]; first | done | decide) (by rw [c13]; first | done | decide) (by rw [c13]; first | done | decide) (by decide) ?_
        refine r_aload_n dX9_doStep_152 rfl ?_
        refine r_getR (k := 0) (q := 12) dX9_doStep_153 zf_X9_33 (zo_X9 (zs_X9 ht)) (zr_X9_3 (zs_X9 ht)).1 (zr_X9_3 (zs_X9 ht)).2.1 (zr_X9_3 (zs_X9 ht)).2.2 ?_
        refine kV_iw (as := []) (st := []) (k := 12) dX9_doStep_156 zM_X2_unite zk_X9_135 (zo_X2 (zc_X9_3 (zs_X9 ht))) (by decide) rfl ⟨Nat.le_of_ble_eq_true rfl, Nat.le_of_ble_eq_true rfl⟩ (Nat.le_of_ble_eq_true rfl) (zz_T0 rfl rfl) (fun Q' P' k h => c_X2_unite (12) M (zc_X9_3 (zs_X9 ht)) h (fun r p => k r.1 r.2 p)) h (fun r15 M16 h => ?_)
        have h := zK_pr h
        refine r_pop dX9_doStep_159 rfl ?_
        refine r_goto 196 dX9_doStep_160 (by decide) ?_
        exact r_vret dX9_doStep_196 rfl rfl rfl (kR (M16) (zK_some h))
      · have h := zK_neg h c13
        by_cases c20 : a1 = (nI 110)
        · have h := zK_pos h c20
          refine r_tabIn (off := 162) 163 dX9_doStep_1 (by rw [c20]; first | done | decide) (by rw [c20]; first | done | decide) (by rw [c20]; first | done | decide) (by decide) ?_
          refine r_aload_n dX9_doStep_163 rfl ?_
          refine r_iload_n dX9_doStep_164 rfl ?_
          refine r_iload_n dX9_doStep_165 rfl ?_
          refine r_iload dX9_doStep_166 rfl ?_
          refine kV_vw (as := [.int a2, .int a3, .int a4]) (st := []) (k := 0) dX9_doStep_168 zM_X9_storeRow zk_X9_138 (zo_X9 (zs_X9 ht)) (by decide) rfl ⟨Nat.le_of_ble_eq_true rfl, Nat.le_of_ble_eq_true rfl⟩ (Nat.le_of_ble_eq_true rfl) (zz_T0 rfl rfl) (fun Q' P' k h => c_X9_storeRow (a2) (a3) (a4) M ht h k) h (fun M21 h => ?_)
          refine r_goto 196 dX9_doStep_171 (by decide) ?_
          exact r_vret dX9_doStep_196 rfl rfl rfl (kR (M21) (zK_some h))
        · have h := zK_neg h c20
          by_cases c23 : a1 = (nI 112)
          · have h := zK_pos h c23
            refine r_tabIn (off := 103) 104 dX9_doStep_1 (by rw [c23]; first | done | decide) (by rw [c23]; first | done | decide) (by rw [c23]; first | done | decide) (by decide) ?_
            refine r_aload_n dX9_doStep_104 rfl ?_
            refine r_getR (k := 0) (q := 12) dX9_doStep_105 zf_X9_33 (zo_X9 (zs_X9 ht)) (zr_X9_3 (zs_X9 ht)).1 (zr_X9_3 (zs_X9 ht)).2.1 (zr_X9_3 (zs_X9 ht)).2.2 ?_
            refine r_iload_n dX9_doStep_108 rfl ?_
            refine r_iload_n dX9_doStep_109 rfl ?_
            refine kV_iw (as := [.int a2, .int a3]) (st := []) (k := 12) dX9_doStep_110 zM_X2_store zk_X9_120 (zo_X2 (zc_X9_3 (zs_X9 ht))) (by decide) rfl ⟨Nat.le_of_ble_eq_true rfl, Nat.le_of_ble_eq_true rfl⟩ (Nat.le_of_ble_eq_true rfl) (zz_T0 rfl rfl) (fun Q' P' k h => c_X2_store (12) (a2) (a3) M (zc_X9_3 (zs_X9 ht)) h (fun r p => k r.1 r.2 p)) h (fun r25 M26 h => ?_)
            have h := zK_pr h
            refine r_pop dX9_doStep_113 rfl ?_
            refine r_goto 196 dX9_doStep_114 (by decide) ?_
            exact r_vret dX9_doStep_196 rfl rfl rfl (kR (M26) (zK_some h))
          · have h := zK_neg h c23
            by_cases c29 : a1 = (nI 115)
            · have h := zK_pos h c29
              refine r_tabIn (off := 140) 141 dX9_doStep_1 (by rw [c29]; first | done | decide) (by rw [c29]; first | done | decide) (by rw [c29]; first | done | decide) (by decide) ?_
              refine r_aload_n dX9_doStep_141 rfl ?_
              refine r_getR (k := 0) (q := 12) dX9_doStep_142 zf_X9_33 (zo_X9 (zs_X9 ht)) (zr_X9_3 (zs_X9 ht)).1 (zr_X9_3 (zs_X9 ht)).2.1 (zr_X9_3 (zs_X9 ht)).2.2 ?_
              refine kV_iw (as := []) (st := []) (k := 12) dX9_doStep_145 zM_X2_divide zk_X9_131 (zo_X2 (zc_X9_3 (zs_X9 ht))) (by decide) rfl ⟨Nat.le_of_ble_eq_true rfl, Nat.le_of_ble_eq_true rfl⟩ (Nat.le_of_ble_eq_true rfl) (zz_T0 rfl rfl) (fun Q' P' k h => c_X2_divide (12) M (zc_X9_3 (zs_X9 ht)) h (fun r p => k r.1 r.2 p)) h (fun r31 M32 h => ?_)
              have h := zK_pr h
              refine r_pop dX9_doStep_148 rfl ?_
              refine r_goto 196 dX9_doStep_149 (by decide) ?_
              exact r_vret dX9_doStep_196 rfl rfl rfl (kR (M32) (zK_some h))
            · have h := zK_neg h c29
              by_cases c37 : a1 = (nI 120)
              · have h := zK_pos h c37
                refine r_tabIn (off := 173) 174 dX9_doStep_1 (by rw [c37]; first | done | decide) (by rw [c37]; first | done | decide) (by rw [c37]; first | done | decide) (by decide) ?_
                refine r_aload_n dX9_doStep_174 rfl ?_
                refine r_getR (k := 0) (q := 12) dX9_doStep_175 zf_X9_33 (zo_X9 (zs_X9 ht)) (zr_X9_3 (zs_X9 ht)).1 (zr_X9_3 (zs_X9 ht)).2.1 (zr_X9_3 (zs_X9 ht)).2.2 ?_
                refine r_iload_n dX9_doStep_178 rfl ?_
                refine kV_vw (as := [.int a2]) (st := []) (k := 12) dX9_doStep_179 zM_X2_storeDrawn zk_X9_142 (zo_X2 (zc_X9_3 (zs_X9 ht))) (by decide) rfl ⟨Nat.le_of_ble_eq_true rfl, Nat.le_of_ble_eq_true rfl⟩ (Nat.le_of_ble_eq_true rfl) (zz_T0 rfl rfl) (fun Q' P' k h => c_X2_storeDrawn (12) (a2) M (zc_X9_3 (zs_X9 ht)) h k) h (fun M38 h => ?_)
                refine r_goto 196 dX9_doStep_182 (by decide) ?_
                exact r_vret dX9_doStep_196 rfl rfl rfl (kR (M38) (zK_some h))
              · have h := zK_neg h c37
                by_cases c39 : a1 = (nI 121)
                · have h := zK_pos h c39
                  refine r_tabIn (off := 184) 185 dX9_doStep_1 (by rw [c39]; first | done | decide) (by rw [c39]; first | done | decide) (by rw [c39]; first | done | decide) (by decide) ?_
                  refine r_aload_n dX9_doStep_185 rfl ?_
                  refine r_getR (k := 0) (q := 12) dX9_doStep_186 zf_X9_33 (zo_X9 (zs_X9 ht)) (zr_X9_3 (zs_X9 ht)).1 (zr_X9_3 (zs_X9 ht)).2.1 (zr_X9_3 (zs_X9 ht)).2.2 ?_
                  refine r_iload_n dX9_doStep_189 rfl ?_
                  refine kV_vw (as := [.int a2]) (st := []) (k := 12) dX9_doStep_190 zM_X2_removeDrawn zk_X9_145 (zo_X2 (zc_X9_3 (zs_X9 ht))) (by decide) rfl ⟨Nat.le_of_ble_eq_true rfl, Nat.le_of_ble_eq_true rfl⟩ (Nat.le_of_ble_eq_true rfl) (zz_T0 rfl rfl) (fun Q' P' k h => c_X2_removeDrawn (12) (a2) M (zc_X9_3 (zs_X9 ht)) h k) h (fun M40 h => ?_)
                  refine r_goto 196 dX9_doStep_193 (by decide) ?_
                  exact r_vret dX9_doStep_196 rfl rfl rfl (kR (M40) (zK_some h))
                · have h := zK_neg h c39
                  have hD : zz_W G m_X9_doStep t t t 196 [some (.ref 0), some (.int a1), some (.int a2), some (.int a3), some (.int a4)] [] M Q := by
                    exact r_vret dX9_doStep_196 rfl rfl rfl (kR (M) (zK_some h))
                  by_cases c5 : a1 = (nI 101)
                  · exact r_tabIn (off := 195) 196 dX9_doStep_1 (by rw [c5]; first | done | decide) (by rw [c5]; first | done | decide) (by rw [c5]; first | done | decide) (by decide) hD
                  by_cases c6 : a1 = (nI 102)
                  · exact r_tabIn (off := 195) 196 dX9_doStep_1 (by rw [c6]; first | done | decide) (by rw [c6]; first | done | decide) (by rw [c6]; first | done | decide) (by decide) hD
                  by_cases c11 : a1 = (nI 104)
                  · exact r_tabIn (off := 195) 196 dX9_doStep_1 (by rw [c11]; first | done | decide) (by rw [c11]; first | done | decide) (by rw [c11]; first | done | decide) (by decide) hD
                  by_cases c12 : a1 = (nI 105)
                  · exact r_tabIn (off := 195) 196 dX9_doStep_1 (by rw [c12]; first | done | decide) (by rw [c12]; first | done | decide) (by rw [c12]; first | done | decide) (by decide) hD
                  by_cases c17 : a1 = (nI 107)
                  · exact r_tabIn (off := 195) 196 dX9_doStep_1 (by rw [c17]; first | done | decide) (by rw [c17]; first | done | decide) (by rw [c17]; first | done | decide) (by decide) hD
                  by_cases c18 : a1 = (nI 108)
                  · exact r_tabIn (off := 195) 196 dX9_doStep_1 (by rw [c18]; first | done | decide) (by rw [c18]; first | done | decide) (by rw [c18]; first | done | decide) (by decide) hD
                  by_cases c19 : a1 = (nI 109)
                  · exact r_tabIn (off := 195) 196 dX9_doStep_1 (by rw [c19]; first | done | decide) (by rw [c19]; first | done | decide) (by rw [c19]; first | done | decide) (by decide) hD
                  by_cases c22 : a1 = (nI 111)
                  · exact r_tabIn (off := 195) 196 dX9_doStep_1 (by rw [c22]; first | done | decide) (by rw [c22]; first | done | decide) (by rw [c22]; first | done | decide) (by decide) hD
                  by_cases c27 : a1 = (nI 113)
                  · exact r_tabIn (off := 195) 196 dX9_doStep_1 (by rw [c27]; first | done | decide) (by rw [c27]; first | done | decide) (by rw [c27]; first | done | decide) (by decide) hD
                  by_cases c28 : a1 = (nI 114)
                  · exact r_tabIn (off := 195) 196 dX9_doStep_1 (by rw [c28]; first | done | decide) (by rw [c28]; first | done | decide) (by rw [c28]; first | done | decide) (by decide) hD
                  by_cases c33 : a1 = (nI 116)
                  · exact r_tabIn (off := 195) 196 dX9_doStep_1 (by rw [c33]; first | done | decide) (by rw [c33]; first | done | decide) (by rw [c33]; first | done | decide) (by decide) hD
                  by_cases c34 : a1 = (nI 117)
                  · exact r_tabIn (off := 195) 196 dX9_doStep_1 (by rw [c34]; first | done | decide) (by rw [c34]; first | done | decide) (by rw [c34]; first | done | decide) (by decide) hD
                  by_cases c35 : a1 = (nI 118)
                  · exact r_tabIn (off := 195) 196 dX9_doStep_1 (by rw [c35]; first | done | decide) (by rw [c35]; first | done | decide) (by rw [c35]; first | done | decide) (by decide) hD
                  by_cases c36 : a1 = (nI 119)
                  · exact r_tabIn (off := 195) 196 dX9_doStep_1 (by rw [c36]; first | done | decide) (by rw [c36]; first | done | decide) (by rw [c36]; first | done | decide) (by decide) hD
                  refine r_tabOut 196 dX9_doStep_1 (zz_tab_out (n := 22) (fun i hi => ?_) (by decide)) (by decide) hD
                  exact match i, hi with
                  | 0, _ => fun e => c1 (e.trans (by decide))
                  | 1, _ => fun e => c5 (e.trans (by decide))
                  | 2, _ => fun e => c6 (e.trans (by decide))
                  | 3, _ => fun e => c7 (e.trans (by decide))
                  | 4, _ => fun e => c11 (e.trans (by decide))
                  | 5, _ => fun e => c12 (e.trans (by decide))
                  | 6, _ => fun e => c13 (e.trans (by decide))
                  | 7, _ => fun e => c17 (e.trans (by decide))
                  | 8, _ => fun e => c18 (e.trans (by decide))
                  | 9, _ => fun e => c19 (e.trans (by decide))
                  | 10, _ => fun e => c20 (e.trans (by decide))
                  | 11, _ => fun e => c22 (e.trans (by decide))
                  | 12, _ => fun e => c23 (e.trans (by decide))
                  | 13, _ => fun e => c27 (e.trans (by decide))
                  | 14, _ => fun e => c28 (e.trans (by decide))
                  | 15, _ => fun e => c29 (e.trans (by decide))
                  | 16, _ => fun e => c33 (e.trans (by decide))
                  | 17, _ => fun e => c34 (e.trans (by decide))
                  | 18, _ => fun e => c35 (e.trans (by decide))
                  | 19, _ => fun e => c36 (e.trans (by decide))
                  | 20, _ => fun e => c37 (e.trans (by decide))
                  | 21, _ => fun e => c39 (e.trans (by decide))
                  | k + 22, hk => absurd hk (by omega)
set_option maxHeartbeats 4000000 in
set_option maxRecDepth 100000 in
theorem c_X9_doStep {G : zzG} {t : Nat} {Q : Option Value → zzMem → Prop} (a1 : Int32) (a2 : Int32) (a3 : Int32) (a4 : Int32) (M : zzMem) (ht : 180 ≤ t)  {P : zzMem → Prop} (h : zK (f_X9_doStep a1 a2 a3 a4 M) P) (kR : ∀ r : zzMem, P r → Q none r) : zz_S G m_X9_doStep t t [.ref 0, .int a1, .int a2, .int a3, .int a4] M Q :=
  zz_S_of (by decide) (by decide) (Nat.le_of_ble_eq_true rfl) (w_X9_doStep_0 a1 a2 a3 a4 M ht h kR)
noncomputable def b_X9_work_44 (v3 : Int32) (M : zzMem) : Option ((Int32 × zzMem) ⊕ (Int32 × zzMem)) :=
  if (M.1 7 4) ≤ v3 then
  (some ((.inr ((M.1 7 4), M))))
  else (zgd (vp_in v3 20) (
  (f_X9_doStep (M.1 8 (v3).toNatClampNeg) (M.1 9 (v3).toNatClampNeg) (M.1 10 (v3).toNatClampNeg) (M.1 11 (v3).toNatClampNeg) M).bind (fun M3 =>
  zbd (v3 + (nI 1)) (fun x4 =>
  some (.inl (x4, M3))))))
set_option maxHeartbeats 4000000 in
set_option maxRecDepth 100000 in
theorem x_X9_work_44 {G : zzG} {t : Nat} {Q : Option Value → zzMem → Prop} (v3 : Int32) (M : zzMem) (ht : 180 ≤ t)  {P : ((Int32 × zzMem) ⊕ (Int32 × zzMem)) → Prop} (h : zK (b_X9_work_44 v3 M) P) (k44 : ∀ s : (Int32 × zzMem), P (.inl s) → zz_W G m_X9_work t t t 44 [some (.ref 0), none, none, some (.int s.1)] [] s.2 Q) (kR : ∀ r : (Int32 × zzMem), P (.inr r) → Q (some (.int r.1)) r.2) : zz_W G m_X9_work t t t 44 [some (.ref 0), none, none, some (.int v3)] [] M Q := by
  unfold b_X9_work_44 at h
  refine r_iload_n dX9_work_44 rfl ?_
  refine r_aload_n dX9_work_45 rfl ?_
  refine r_getR (k := 0) (q := 7) dX9_work_46 zf_X9_26 (zo_X9 (zs_X9 ht)) (zr_X9_2 (zs_X9 ht)).1 (zr_X9_2 (zs_X9 ht)).2.1 (zr_X9_2 (zs_X9 ht)).2.2 ?_
  refine r_getI (k := 7) dX9_work_49 zf_X9_103 (zo_X7 (zs_X7 ht)) (zi_X7_4 (zs_X7 ht)) ?_
  refine r_icmp_ge 101 dX9_work_52 (by decide) (fun c1 => ?_) (fun c1 => ?_)
  · have h := zK_pos h c1
    refine r_aload_n dX9_work_101 rfl ?_
    refine r_getR (k := 0) (q := 7) dX9_work_102 zf_X9_26 (zo_X9 (zs_X9 ht)) (zr_X9_2 (zs_X9 ht)).1 (zr_X9_2 (zs_X9 ht)).2.1 (zr_X9_2 (zs_X9 ht)).2.2 ?_
    refine r_getI (k := 7) dX9_work_105 zf_X9_103 (zo_X7 (zs_X7 ht)) (zi_X7_4 (zs_X7 ht)) ?_
    exact r_iret dX9_work_108 rfl rfl rfl (kR (((M.1 7 4), M)) (zK_some h))
  · have h := zK_neg h c1
    refine r_aload_n dX9_work_55 rfl ?_
    refine r_aload_n dX9_work_56 rfl ?_
    refine r_getR (k := 0) (q := 7) dX9_work_57 zf_X9_26 (zo_X9 (zs_X9 ht)) (zr_X9_2 (zs_X9 ht)).1 (zr_X9_2 (zs_X9 ht)).2.1 (zr_X9_2 (zs_X9 ht)).2.2 ?_
    refine r_getR (k := 7) (q := 8) dX9_work_60 zf_X9_104 (zo_X7 (zs_X7 ht)) (zr_X7_0 (zs_X7 ht)).1 (zr_X7_0 (zs_X7 ht)).2.1 (zr_X7_0 (zs_X7 ht)).2.2 ?_
    refine r_iload_n dX9_work_63 rfl ?_
    obtain ⟨g2, h⟩ := zK_gd h
    refine r_iald dX9_work_64 (za_X7_0 (zs_X7 ht)) g2 ?_
    refine r_aload_n dX9_work_65 rfl ?_
    refine r_getR (k := 0) (q := 7) dX9_work_66 zf_X9_26 (zo_X9 (zs_X9 ht)) (zr_X9_2 (zs_X9 ht)).1 (zr_X9_2 (zs_X9 ht)).2.1 (zr_X9_2 (zs_X9 ht)).2.2 ?_
    refine r_getR (k := 7) (q := 9) dX9_work_69 zf_X9_107 (zo_X7 (zs_X7 ht)) (zr_X7_1 (zs_X7 ht)).1 (zr_X7_1 (zs_X7 ht)).2.1 (zr_X7_1 (zs_X7 ht)).2.2 ?_
    refine r_iload_n dX9_work_72 rfl ?_
    refine r_iald dX9_work_73 (za_X7_1 (zs_X7 ht)) g2 ?_
    refine r_aload_n dX9_work_74 rfl ?_
    refine r_getR (k := 0) (q := 7) dX9_work_75 zf_X9_26 (zo_X9 (zs_X9 ht)) (zr_X9_2 (zs_X9 ht)).1 (zr_X9_2 (zs_X9 ht)).2.1 (zr_X9_2 (zs_X9 ht)).2.2 ?_
    refine r_getR (k := 7) (q := 10) dX9_work_78 zf_X9_110 (zo_X7 (zs_X7 ht)) (zr_X7_2 (zs_X7 ht)).1 (zr_X7_2 (zs_X7 ht)).2.1 (zr_X7_2 (zs_X7 ht)).2.2 ?_
    refine r_iload_n dX9_work_81 rfl ?_
    refine r_iald dX9_work_82 (za_X7_2 (zs_X7 ht)) g2 ?_
    refine r_aload_n dX9_work_83 rfl ?_
    refine r_getR (k := 0) (q := 7) dX9_work_84 zf_X9_26 (zo_X9 (zs_X9 ht)) (zr_X9_2 (zs_X9 ht)).1 (zr_X9_2 (zs_X9 ht)).2.1 (zr_X9_2 (zs_X9 ht)).2.2 ?_
    refine r_getR (k := 7) (q := 11) dX9_work_87 zf_X9_113 (zo_X7 (zs_X7 ht)) (zr_X7_3 (zs_X7 ht)).1 (zr_X7_3 (zs_X7 ht)).2.1 (zr_X7_3 (zs_X7 ht)).2.2 ?_
    refine r_iload_n dX9_work_90 rfl ?_
    refine r_iald dX9_work_91 (za_X7_3 (zs_X7 ht)) g2 ?_
    refine kV_vw (as := [.int (M.1 8 (v3).toNatClampNeg), .int (M.1 9 (v3).toNatClampNeg), .int (M.1 10 (v3).toNatClampNeg), .int (M.1 11 (v3).toNatClampNeg)]) (st := []) (k := 0) dX9_work_92 zM_X9_doStep zk_X9_116 (zo_X9 (zs_X9 ht)) (by decide) rfl ⟨Nat.le_of_ble_eq_true rfl, Nat.le_of_ble_eq_true rfl⟩ (Nat.le_of_ble_eq_true rfl) (zz_T0 rfl rfl) (fun Q' P' k h => c_X9_doStep ((M.1 8 (v3).toNatClampNeg)) ((M.1 9 (v3).toNatClampNeg)) ((M.1 10 (v3).toNatClampNeg)) ((M.1 11 (v3).toNatClampNeg)) M ht h k) h (fun M3 h => ?_)
    refine r_iinc (nI 1) (fun x4 => [some (.ref 0), none, none, some (.int x4)]) dX9_work_95 rfl (by decide) (by decide) rfl (fun _ => rfl) (fun x4 ex4 => ?_)
    have h := zK_bd h ex4
    refine r_goto 44 dX9_work_98 (by decide) ?_
    exact k44 ((x4, M3)) (zK_some h)
noncomputable def j_X9_work_44 (v3 : Int32) (M : zzMem) : Option (Int32 × zzMem) :=
  zlp (fun s : (Int32 × zzMem) => b_X9_work_44 s.1 s.2) (v3, M)
set_option maxHeartbeats 4000000 in
set_option maxRecDepth 100000 in
theorem w_X9_work_44 {G : zzG} {t : Nat} {Q : Option Value → zzMem → Prop} (v3 : Int32) (M : zzMem) (ht : 180 ≤ t)  {P : (Int32 × zzMem) → Prop} (h : zK (j_X9_work_44 v3 M) P) (kR : ∀ r : (Int32 × zzMem), P r → Q (some (.int r.1)) r.2) : zz_W G m_X9_work t t t 44 [some (.ref 0), none, none, some (.int v3)] [] M Q := by
  unfold j_X9_work_44 at h
  exact zK_lp h (fun s : (Int32 × zzMem) => zz_W G m_X9_work t t t 44 [some (.ref 0), none, none, some (.int s.1)] [] s.2 Q) (fun s h => x_X9_work_44 s.1 s.2 ht h (fun s p => p) kR)
noncomputable def f_X9_work (a1 : Int32) (M : zzMem) : Option (Int32 × zzMem) :=
  if (f_X8_has a1 (nI 1) (nI 120) M) = true then
  (zbd (f_X8_open a1 M) (fun M2 =>
  (f_X7_read M2).bind (fun q3 => zpr q3 (fun r4 M5 =>
  if r4 = 0 then
  (j_X9_work_44 (nI 0) M5)
  else (some ((r4, M5)))))))
  else (some (((-1 : Int32), M)))
set_option maxHeartbeats 4000000 in
set_option maxRecDepth 100000 in
theorem w_X9_work_0 {G : zzG} {t : Nat} {Q : Option Value → zzMem → Prop} (a1 : Int32) (M : zzMem) (ht : 180 ≤ t)  {P : (Int32 × zzMem) → Prop} (h : zK (f_X9_work a1 M) P) (kR : ∀ r : (Int32 × zzMem), P r → Q (some (.int r.1)) r.2) : zz_W G m_X9_work t t t 0 [some (.ref 0), some (.int a1), none, none] [] M Q := by
  unfold f_X9_work at h
  refine r_aload_n dX9_work_0 rfl ?_
  refine r_getR (k := 0) (q := 1) dX9_work_1 zf_X9_10 (zo_X9 (zs_X9 ht)) (zr_X9_0 (zs_X9 ht)).1 (zr_X9_0 (zs_X9 ht)).2.1 (zr_X9_0 (zs_X9 ht)).2.2 ?_
  refine r_iload_n dX9_work_4 rfl ?_
  refine r_iconst (v := (nI 1)) dX9_work_5 (by decide) ?_
  refine r_bipush (v := (nI 120)) dX9_work_6 (by decide) ?_
  refine tV_zr (v := f_X8_has a1 (nI 1) (nI 120) M) (as := [.int a1, .int (nI 1), .int (nI 120)]) (st := []) (k := 1) dX9_work_8 zM_X8_has zk_X9_71 (zo_X8 (zs_X8 ht)) (by decide) rfl ⟨Nat.le_of_ble_eq_true rfl, Nat.le_of_ble_eq_true rfl⟩ (Nat.le_of_ble_eq_true rfl) (zz_T0 rfl rfl) (fun Q' h => c_X8_has (a1) ((nI 1)) ((nI 120)) M ht h) ?_
  refine r_ifZ_ne 16 dX9_work_11 (by decide) (fun c1 => ?_) (fun c1 => ?_)
  · have h := zK_pos h c1
    refine r_aload_n dX9_work_16 rfl ?_
    refine r_getR (k := 0) (q := 1) dX9_work_17 zf_X9_10 (zo_X9 (zs_X9 ht)) (zr_X9_0 (zs_X9 ht)).1 (zr_X9_0 (zs_X9 ht)).2.1 (zr_X9_0 (zs_X9 ht)).2.2 ?_
    refine r_iload_n dX9_work_20 rfl ?_
    refine tV_vw (as := [.int a1]) (st := []) (k := 1) dX9_work_21 zM_X8_open zk_X9_74 (zo_X8 (zs_X8 ht)) (by decide) rfl ⟨Nat.le_of_ble_eq_true rfl, Nat.le_of_ble_eq_true rfl⟩ (Nat.le_of_ble_eq_true rfl) (zz_T0 rfl rfl) (fun Q' h => c_X8_open (a1) M ht h) (fun M2 eM2 => ?_)
    have h := zK_bd h eM2
    refine r_aload_n dX9_work_24 rfl ?_
    refine r_getR (k := 0) (q := 7) dX9_work_25 zf_X9_26 (zo_X9 (zs_X9 ht)) (zr_X9_2 (zs_X9 ht)).1 (zr_X9_2 (zs_X9 ht)).2.1 (zr_X9_2 (zs_X9 ht)).2.2 ?_
    refine r_aload_n dX9_work_28 rfl ?_
    refine r_getR (k := 0) (q := 1) dX9_work_29 zf_X9_10 (zo_X9 (zs_X9 ht)) (zr_X9_0 (zs_X9 ht)).1 (zr_X9_0 (zs_X9 ht)).2.1 (zr_X9_0 (zs_X9 ht)).2.2 ?_
    refine kV_iw (as := [.ref 1]) (st := []) (k := 7) dX9_work_32 zM_X7_read zk_X9_102 (zo_X7 (zs_X7 ht)) (by decide) rfl ⟨Nat.le_of_ble_eq_true rfl, Nat.le_of_ble_eq_true rfl⟩ (Nat.le_of_ble_eq_true rfl) (zz_T0 rfl rfl) (fun Q' P' k h => c_X7_read M2 ht h (fun r p => k r.1 r.2 p)) h (fun r4 M5 h => ?_)
    have h := zK_pr h
    refine s_istore_n ([some (.ref 0), some (.int a1), some (.int r4), none]) dX9_work_35 (by decide) rfl rfl ?_
    refine r_iload_n dX9_work_36 rfl ?_
    refine r_if_eq 42 dX9_work_37 (by decide) (fun c6 => ?_) (fun c6 => ?_)
    · have h := zK_pos h c6
      refine r_iconst (v := (nI 0)) dX9_work_42 (by decide) ?_
      refine s_istore_n ([some (.ref 0), some (.int a1), some (.int r4), some (.int (nI 0))]) dX9_work_43 (by decide) rfl rfl ?_
      refine zz_mask [1, 2] ?_
      exact w_X9_work_44 ((nI 0)) M5 ht h kR
    · have h := zK_neg h c6
      refine r_iload_n dX9_work_40 rfl ?_
      exact r_iret dX9_work_41 rfl rfl rfl (kR ((r4, M5)) (zK_some h))
  · have h := zK_neg h c1
    refine r_iconst (v := (-1 : Int32)) dX9_work_14 (by decide) ?_
    exact r_iret dX9_work_15 rfl rfl rfl (kR (((-1 : Int32), M)) (zK_some h))
set_option maxHeartbeats 4000000 in
set_option maxRecDepth 100000 in
theorem c_X9_work {G : zzG} {t : Nat} {Q : Option Value → zzMem → Prop} (a1 : Int32) (M : zzMem) (ht : 180 ≤ t)  {P : (Int32 × zzMem) → Prop} (h : zK (f_X9_work a1 M) P) (kR : ∀ r : (Int32 × zzMem), P r → Q (some (.int r.1)) r.2) : zz_S G m_X9_work t t [.ref 0, .int a1] M Q :=
  zz_S_of (by decide) (by decide) (Nat.le_of_ble_eq_true rfl) (w_X9_work_0 a1 M ht h kR)
noncomputable def f_X9_isKey (a0 : Int32) : Bool :=
  (f_X9_within a0 (nI 0) (nI 65535))
set_option maxHeartbeats 4000000 in
set_option maxRecDepth 100000 in
theorem w_X9_isKey_0 {G : zzG} {t : Nat} {Q : Option Value → zzMem → Prop} (a0 : Int32) (M : zzMem)  {P : Bool → Prop} (h : P (f_X9_isKey a0)) (kR : ∀ r : Bool, P r → Q (some (.int (zb r))) M) : zz_W G m_X9_isKey t t t 0 [some (.int a0)] [] M Q := by
  unfold f_X9_isKey at h
  refine r_iload_n dX9_isKey_0 rfl ?_
  refine r_iconst (v := (nI 0)) dX9_isKey_1 (by decide) ?_
  refine r_ldc (v := (nI 65535)) dX9_isKey_2 zd_X9_148 ?_
  refine tS_zr (v := f_X9_within a0 (nI 0) (nI 65535)) (as := [.int a0, .int (nI 0), .int (nI 65535)]) (st := []) dX9_isKey_4 zM_X9_within zk_X9_63 ⟨Nat.le_of_ble_eq_true rfl, Nat.le_of_ble_eq_true rfl⟩ (Nat.le_of_ble_eq_true rfl) (zz_T0 rfl rfl) (fun Q' h => c_X9_within (a0) ((nI 0)) ((nI 65535)) M h) ?_
  exact r_zret (b := (f_X9_within a0 (nI 0) (nI 65535))) dX9_isKey_7 rfl rfl rfl (kR ((f_X9_within a0 (nI 0) (nI 65535))) h)
set_option maxHeartbeats 4000000 in
set_option maxRecDepth 100000 in
theorem c_X9_isKey {G : zzG} {t : Nat} {Q : Option Value → zzMem → Prop} (a0 : Int32) (M : zzMem)  (h : Q (some (.int (zb (f_X9_isKey a0)))) M) : zz_S G m_X9_isKey t t [.int a0] M Q :=
  zz_S_of (by decide) (by decide) (Nat.le_of_ble_eq_true rfl) (w_X9_isKey_0 a0 M  (P := fun r => Q (some (.int (zb r))) M) h (fun r p => p))
noncomputable def f_X9_put (a1 : Int32) (a2 : Int32) (M : zzMem) : Option (Int32 × zzMem) :=
  if (f_X9_isKey a1) = true then
  (if (f_X9_within a2 (nI 0) (nI 255)) = true then
  ((f_X2_store 12 a1 a2 M).bind (fun q3 => zpr q3 (fun r4 M5 =>
  some ((r4, M5)))))
  else (some (((-1 : Int32), M))))
  else (some (((-1 : Int32), M)))
set_option maxHeartbeats 4000000 in
set_option maxRecDepth 100000 in
theorem w_X9_put_0 {G : zzG} {t : Nat} {Q : Option Value → zzMem → Prop} (a1 : Int32) (a2 : Int32) (M : zzMem) (ht : 180 ≤ t)  {P : (Int32 × zzMem) → Prop} (h : zK (f_X9_put a1 a2 M) P) (kR : ∀ r : (Int32 × zzMem), P r → Q (some (.int r.1)) r.2) : zz_W G m_X9_put t t t 0 [some (.ref 0), some (.int a1), some (.int a2)] [] M Q := by
  unfold f_X9_put at h
  refine r_iload_n dX9_put_0 rfl ?_
  refine tS_zr (v := f_X9_isKey a1) (as := [.int a1]) (st := []) dX9_put_1 zM_X9_isKey zk_X9_149 ⟨Nat.le_of_ble_eq_true rfl, Nat.le_of_ble_eq_true rfl⟩ (Nat.le_of_ble_eq_true rfl) (zz_T0 rfl rfl) (fun Q' h => c_X9_isKey (a1) M h) ?_
  refine r_ifZ_eq 18 dX9_put_4 (by decide) (fun c1 => ?_) (fun c1 => ?_)
  · have h := zK_neg h c1
    refine r_iconst (v := (-1 : Int32)) dX9_put_18 (by decide) ?_
    exact r_iret dX9_put_19 rfl rfl rfl (kR (((-1 : Int32), M)) (zK_some h))
  · have h := zK_pos h c1
    refine r_iload_n dX9_put_7 rfl ?_
    refine r_iconst (v := (nI 0)) dX9_put_8 (by decide) ?_
    refine r_sipush (v := (nI 255)) dX9_put_9 (by decide) ?_
    refine tS_zr (v := f_X9_within a2 (nI 0) (nI 255)) (as := [.int a2, .int (nI 0), .int (nI 255)]) (st := []) dX9_put_12 zM_X9_within zk_X9_63 ⟨Nat.le_of_ble_eq_true rfl, Nat.le_of_ble_eq_true rfl⟩ (Nat.le_of_ble_eq_true rfl) (zz_T0 rfl rfl) (fun Q' h => c_X9_within (a2) ((nI 0)) ((nI 255)) M h) ?_
    refine r_ifZ_ne 20 dX9_put_15 (by decide) (fun c2 => ?_) (fun c2 => ?_)
    · have h := zK_pos h c2
      refine r_aload_n dX9_put_20 rfl ?_
      refine r_getR (k := 0) (q := 12) dX9_put_21 zf_X9_33 (zo_X9 (zs_X9 ht)) (zr_X9_3 (zs_X9 ht)).1 (zr_X9_3 (zs_X9 ht)).2.1 (zr_X9_3 (zs_X9 ht)).2.2 ?_
      refine r_iload_n dX9_put_24 rfl ?_
      refine r_iload_n dX9_put_25 rfl ?_
      refine kV_iw (as := [.int a1, .int a2]) (st := []) (k := 12) dX9_put_26 zM_X2_store zk_X9_120 (zo_X2 (zc_X9_3 (zs_X9 ht))) (by decide) rfl ⟨Nat.le_of_ble_eq_true rfl, Nat.le_of_ble_eq_true rfl⟩ (Nat.le_of_ble_eq_true rfl) (zz_T0 rfl rfl) (fun Q' P' k h => c_X2_store (12) (a1) (a2) M (zc_X9_3 (zs_X9 ht)) h (fun r p => k r.1 r.2 p)) h (fun r4 M5 h => ?_)
      have h := zK_pr h
      exact r_iret dX9_put_29 rfl rfl rfl (kR ((r4, M5)) (zK_some h))
    · have h := zK_neg h c2
      refine r_iconst (v := (-1 : Int32)) dX9_put_18 (by decide) ?_
      exact r_iret dX9_put_19 rfl rfl rfl (kR (((-1 : Int32), M)) (zK_some h))
set_option maxHeartbeats 4000000 in
set_option maxRecDepth 100000 in
theorem c_X9_put {G : zzG} {t : Nat} {Q : Option Value → zzMem → Prop} (a1 : Int32) (a2 : Int32) (M : zzMem) (ht : 180 ≤ t)  {P : (Int32 × zzMem) → Prop} (h : zK (f_X9_put a1 a2 M) P) (kR : ∀ r : (Int32 × zzMem), P r → Q (some (.int r.1)) r.2) : zz_S G m_X9_put t t [.ref 0, .int a1, .int a2] M Q :=
  zz_S_of (by decide) (by decide) (Nat.le_of_ble_eq_true rfl) (w_X9_put_0 a1 a2 M ht h kR)
noncomputable def f_X9_find (a1 : Int32) (M : zzMem) : Option (Int32 × zzMem) :=
  if (f_X9_isKey a1) = true then
  ((f_X2_look 12 a1 M).bind (fun q2 => zpr q2 (fun r3 M4 =>
  some ((r3, M4)))))
  else (some (((-1 : Int32), M)))
set_option maxHeartbeats 4000000 in
set_option maxRecDepth 100000 in
theorem w_X9_find_0 {G : zzG} {t : Nat} {Q : Option Value → zzMem → Prop} (a1 : Int32) (M : zzMem) (ht : 180 ≤ t)  {P : (Int32 × zzMem) → Prop} (h : zK (f_X9_find a1 M) P) (kR : ∀ r : (Int32 × zzMem), P r → Q (some (.int r.1)) r.2) : zz_W G m_X9_find t t t 0 [some (.ref 0), some (.int a1)] [] M Q := by
  unfold f_X9_find at h
  refine r_iload_n dX9_find_0 rfl ?_
  refine tS_zr (v := f_X9_isKey a1) (as := [.int a1]) (st := []) dX9_find_1 zM_X9_isKey zk_X9_149 ⟨Nat.le_of_ble_eq_true rfl, Nat.le_of_ble_eq_true rfl⟩ (Nat.le_of_ble_eq_true rfl) (zz_T0 rfl rfl) (fun Q' h => c_X9_isKey (a1) M h) ?_
  refine r_ifZ_eq 18 dX9_find_4 (by decide) (fun c1 => ?_) (fun c1 => ?_)
  · have h := zK_neg h c1
    refine r_iconst (v := (-1 : Int32)) dX9_find_18 (by decide) ?_
    exact r_iret dX9_find_19 rfl rfl rfl (kR (((-1 : Int32), M)) (zK_some h))
  · have h := zK_pos h c1
    refine r_aload_n dX9_find_7 rfl ?_
    refine r_getR (k := 0) (q := 12) dX9_find_8 zf_X9_33 (zo_X9 (zs_X9 ht)) (zr_X9_3 (zs_X9 ht)).1 (zr_X9_3 (zs_X9 ht)).2.1 (zr_X9_3 (zs_X9 ht)).2.2 ?_
    refine r_iload_n dX9_find_11 rfl ?_
    refine kV_iw (as := [.int a1]) (st := []) (k := 12) dX9_find_12 zM_X2_look zk_X9_128 (zo_X2 (zc_X9_3 (zs_X9 ht))) (by decide) rfl ⟨Nat.le_of_ble_eq_true rfl, Nat.le_of_ble_eq_true rfl⟩ (Nat.le_of_ble_eq_true rfl) (zz_T0 rfl rfl) (fun Q' P' k h => c_X2_look (12) (a1) M (zc_X9_3 (zs_X9 ht)) h (fun r p => k r.1 r.2 p)) h (fun r3 M4 h => ?_)
    have h := zK_pr h
    refine r_goto 19 dX9_find_15 (by decide) ?_
    exact r_iret dX9_find_19 rfl rfl rfl (kR ((r3, M4)) (zK_some h))
set_option maxHeartbeats 4000000 in
set_option maxRecDepth 100000 in
theorem c_X9_find {G : zzG} {t : Nat} {Q : Option Value → zzMem → Prop} (a1 : Int32) (M : zzMem) (ht : 180 ≤ t)  {P : (Int32 × zzMem) → Prop} (h : zK (f_X9_find a1 M) P) (kR : ∀ r : (Int32 × zzMem), P r → Q (some (.int r.1)) r.2) : zz_S G m_X9_find t t [.ref 0, .int a1] M Q :=
  zz_S_of (by decide) (by decide) (Nat.le_of_ble_eq_true rfl) (w_X9_find_0 a1 M ht h kR)
noncomputable def f_X9_drop (a1 : Int32) (M : zzMem) : Option (Int32 × zzMem) :=
  if (f_X9_isKey a1) = true then
  ((f_X2_remove 12 a1 M).bind (fun q2 => zpr q2 (fun r3 M4 =>
  some ((r3, M4)))))
  else (some (((-1 : Int32), M)))
set_option maxHeartbeats 4000000 in
set_option maxRecDepth 100000 in
theorem w_X9_drop_0 {G : zzG} {t : Nat} {Q : Option Value → zzMem → Prop} (a1 : Int32) (M : zzMem) (ht : 180 ≤ t)  {P : (Int32 × zzMem) → Prop} (h : zK (f_X9_drop a1 M) P) (kR : ∀ r : (Int32 × zzMem), P r → Q (some (.int r.1)) r.2) : zz_W G m_X9_drop t t t 0 [some (.ref 0), some (.int a1)] [] M Q := by
  unfold f_X9_drop at h
  refine r_iload_n dX9_drop_0 rfl ?_
  refine tS_zr (v := f_X9_isKey a1) (as := [.int a1]) (st := []) dX9_drop_1 zM_X9_isKey zk_X9_149 ⟨Nat.le_of_ble_eq_true rfl, Nat.le_of_ble_eq_true rfl⟩ (Nat.le_of_ble_eq_true rfl) (zz_T0 rfl rfl) (fun Q' h => c_X9_isKey (a1) M h) ?_
  refine r_ifZ_eq 18 dX9_drop_4 (by decide) (fun c1 => ?_) (fun c1 => ?_)
  · have h := zK_neg h c1
    refine r_iconst (v := (-1 : Int32)) dX9_drop_18 (by decide) ?_
    exact r_iret dX9_drop_19 rfl rfl rfl (kR (((-1 : Int32), M)) (zK_some h))
  · have h := zK_pos h c1
    refine r_aload_n dX9_drop_7 rfl ?_
    refine r_getR (k := 0) (q := 12) dX9_drop_8 zf_X9_33 (zo_X9 (zs_X9 ht)) (zr_X9_3 (zs_X9 ht)).1 (zr_X9_3 (zs_X9 ht)).2.1 (zr_X9_3 (zs_X9 ht)).2.2 ?_
    refine r_iload_n dX9_drop_11 rfl ?_
    refine kV_iw (as := [.int a1]) (st := []) (k := 12) dX9_drop_12 zM_X2_remove zk_X9_124 (zo_X2 (zc_X9_3 (zs_X9 ht))) (by decide) rfl ⟨Nat.le_of_ble_eq_true rfl, Nat.le_of_ble_eq_true rfl⟩ (Nat.le_of_ble_eq_true rfl) (zz_T0 rfl rfl) (fun Q' P' k h => c_X2_remove (12) (a1) M (zc_X9_3 (zs_X9 ht)) h (fun r p => k r.1 r.2 p)) h (fun r3 M4 h => ?_)
    have h := zK_pr h
    refine r_goto 19 dX9_drop_15 (by decide) ?_
    exact r_iret dX9_drop_19 rfl rfl rfl (kR ((r3, M4)) (zK_some h))
set_option maxHeartbeats 4000000 in
set_option maxRecDepth 100000 in
theorem c_X9_drop {G : zzG} {t : Nat} {Q : Option Value → zzMem → Prop} (a1 : Int32) (M : zzMem) (ht : 180 ≤ t)  {P : (Int32 × zzMem) → Prop} (h : zK (f_X9_drop a1 M) P) (kR : ∀ r : (Int32 × zzMem), P r → Q (some (.int r.1)) r.2) : zz_S G m_X9_drop t t [.ref 0, .int a1] M Q :=
  zz_S_of (by decide) (by decide) (Nat.le_of_ble_eq_true rfl) (w_X9_drop_0 a1 M ht h kR)
noncomputable def f_X9_split  (M : zzMem) : Option (Int32 × zzMem) :=
  (f_X2_divide 12 M).bind (fun q1 => zpr q1 (fun r2 M3 =>
  some ((r2, M3))))
set_option maxHeartbeats 4000000 in
set_option maxRecDepth 100000 in
theorem w_X9_split_0 {G : zzG} {t : Nat} {Q : Option Value → zzMem → Prop}  (M : zzMem) (ht : 180 ≤ t)  {P : (Int32 × zzMem) → Prop} (h : zK (f_X9_split  M) P) (kR : ∀ r : (Int32 × zzMem), P r → Q (some (.int r.1)) r.2) : zz_W G m_X9_split t t t 0 [some (.ref 0)] [] M Q := by
  unfold f_X9_split at h
  refine r_aload_n dX9_split_0 rfl ?_
  refine r_getR (k := 0) (q := 12) dX9_split_1 zf_X9_33 (zo_X9 (zs_X9 ht)) (zr_X9_3 (zs_X9 ht)).1 (zr_X9_3 (zs_X9 ht)).2.1 (zr_X9_3 (zs_X9 ht)).2.2 ?_
  refine kV_iw (as := []) (st := []) (k := 12) dX9_split_4 zM_X2_divide zk_X9_131 (zo_X2 (zc_X9_3 (zs_X9 ht))) (by decide) rfl ⟨Nat.le_of_ble_eq_true rfl, Nat.le_of_ble_eq_true rfl⟩ (Nat.le_of_ble_eq_true rfl) (zz_T0 rfl rfl) (fun Q' P' k h => c_X2_divide (12) M (zc_X9_3 (zs_X9 ht)) h (fun r p => k r.1 r.2 p)) h (fun r2 M3 h => ?_)
  have h := zK_pr h
  exact r_iret dX9_split_7 rfl rfl rfl (kR ((r2, M3)) (zK_some h))
set_option maxHeartbeats 4000000 in
set_option maxRecDepth 100000 in
theorem c_X9_split {G : zzG} {t : Nat} {Q : Option Value → zzMem → Prop}  (M : zzMem) (ht : 180 ≤ t)  {P : (Int32 × zzMem) → Prop} (h : zK (f_X9_split  M) P) (kR : ∀ r : (Int32 × zzMem), P r → Q (some (.int r.1)) r.2) : zz_S G m_X9_split t t [.ref 0] M Q :=
  zz_S_of (by decide) (by decide) (Nat.le_of_ble_eq_true rfl) (w_X9_split_0  M ht h kR)
noncomputable def f_X9_join  (M : zzMem) : Option (Int32 × zzMem) :=
  (f_X2_unite 12 M).bind (fun q1 => zpr q1 (fun r2 M3 =>
  some ((r2, M3))))
set_option maxHeartbeats 4000000 in
set_option maxRecDepth 100000 in
theorem w_X9_join_0 {G : zzG} {t : Nat} {Q : Option Value → zzMem → Prop}  (M : zzMem) (ht : 180 ≤ t)  {P : (Int32 × zzMem) → Prop} (h : zK (f_X9_join  M) P) (kR : ∀ r : (Int32 × zzMem), P r → Q (some (.int r.1)) r.2) : zz_W G m_X9_join t t t 0 [some (.ref 0)] [] M Q := by
  unfold f_X9_join at h
  refine r_aload_n dX9_join_0 rfl ?_
  refine r_getR (k := 0) (q := 12) dX9_join_1 zf_X9_33 (zo_X9 (zs_X9 ht)) (zr_X9_3 (zs_X9 ht)).1 (zr_X9_3 (zs_X9 ht)).2.1 (zr_X9_3 (zs_X9 ht)).2.2 ?_
  refine kV_iw (as := []) (st := []) (k := 12) dX9_join_4 zM_X2_unite zk_X9_135 (zo_X2 (zc_X9_3 (zs_X9 ht))) (by decide) rfl ⟨Nat.le_of_ble_eq_true rfl, Nat.le_of_ble_eq_true rfl⟩ (Nat.le_of_ble_eq_true rfl) (zz_T0 rfl rfl) (fun Q' P' k h => c_X2_unite (12) M (zc_X9_3 (zs_X9 ht)) h (fun r p => k r.1 r.2 p)) h (fun r2 M3 h => ?_)
  have h := zK_pr h
  exact r_iret dX9_join_7 rfl rfl rfl (kR ((r2, M3)) (zK_some h))
set_option maxHeartbeats 4000000 in
set_option maxRecDepth 100000 in
theorem c_X9_join {G : zzG} {t : Nat} {Q : Option Value → zzMem → Prop}  (M : zzMem) (ht : 180 ≤ t)  {P : (Int32 × zzMem) → Prop} (h : zK (f_X9_join  M) P) (kR : ∀ r : (Int32 × zzMem), P r → Q (some (.int r.1)) r.2) : zz_S G m_X9_join t t [.ref 0] M Q :=
  zz_S_of (by decide) (by decide) (Nat.le_of_ble_eq_true rfl) (w_X9_join_0  M ht h kR)
noncomputable def f_X9_fileIs (a1 : Int32) (M : zzMem) : Option Int32 :=
  if a1 = (nI 0) then
  (some ((M.1 12 4)))
  else if a1 = (nI 1) then
  (some ((M.1 16 11)))
  else if a1 = (nI 2) then
  (some ((M.1 12 5)))
  else if a1 = (nI 3) then
  (some ((M.1 12 6)))
  else if a1 = (nI 4) then
  (some ((M.1 12 7)))
  else if a1 = (nI 5) then
  (some ((M.1 12 8)))
  else if a1 = (nI 6) then
  (some ((M.1 12 9)))
  else if a1 = (nI 7) then
  (some ((f_X2_buckets 12 M)))
  else if a1 = (nI 8) then
  (some ((M.1 27 1)))
  else if a1 = (nI 9) then
  ((f_X0_usedPages 16 M).bind (fun r11 =>
  some r11))
  else if a1 = (nI 10) then
  ((f_X2_load 12 M).bind (fun r13 =>
  some r13))
  else if a1 = (nI 11) then
  (some ((M.1 12 10)))
  else if a1 = (nI 12) then
  (some ((M.1 12 11)))
  else if a1 = (nI 13) then
  ((f_X0_longest 16 (f_X2_buckets 12 M) M).bind (fun r17 =>
  some r17))
  else if a1 = (nI 14) then
  ((f_X0_withoutKeys 16 (f_X2_buckets 12 M) M).bind (fun r19 =>
  some r19))
  else if a1 = (nI 15) then
  (some ((M.1 12 12)))
  else if a1 = (nI 16) then
  (some ((M.1 12 13)))
  else (some ((-1 : Int32)))
set_option maxHeartbeats 4000000 in
set_option maxRecDepth 100000 in
theorem w_X9_fileIs_0 {G : zzG} {t : Nat} {Q : Option Value → zzMem → Prop} (a1 : Int32) (M : zzMem) (ht : 180 ≤ t)  {P : Int32 → Prop} (h : zK (f_X9_fileIs a1 M) P) (kR : ∀ r : Int32, P r → Q (some (.int r)) M) : zz_W G m_X9_fileIs t t t 0 [some (.ref 0), some (.int a1)] [] M Q := by
  unfold f_X9_fileIs at h
  refine r_iload_n dX9_fileIs_0 rfl ?_
  by_cases c1 : a1 = (nI 0)
  · have h := zK_pos h c1
    refine r_tabIn (off := 83) 84 dX9_fileIs_1 (by rw [c1]; first | done | decide) (by rw [c1]; first | done | decide) (by rw [c1]; first | done | decide) (by decide) ?_
    refine r_aload_n dX9_fileIs_84 rfl ?_
    refine r_getR (k := 0) (q := 12) dX9_fileIs_85 zf_X9_33 (zo_X9 (zs_X9 ht)) (zr_X9_3 (zs_X9 ht)).1 (zr_X9_3 (zs_X9 ht)).2.1 (zr_X9_3 (zs_X9 ht)).2.2 ?_
    refine r_getI (k := 12) dX9_fileIs_88 zf_X9_153 (zo_X2 (zc_X9_3 (zs_X9 ht))) (zi_X2_4 (zc_X9_3 (zs_X9 ht))) ?_
    exact r_iret dX9_fileIs_91 rfl rfl rfl (kR ((M.1 12 4)) (zK_some h))
  · have h := zK_neg h c1
    by_cases c2 : a1 = (nI 1)
    · have h := zK_pos h c2
      refine r_tabIn (off := 91) 92 dX9_fileIs_1 (by rw [c2]; first | done | decide) (by rw [c2]; first | done | decide) (by rw [c2]; first | done | decide) (by decide) ?_
      refine r_aload_n dX9_fileIs_92 rfl ?_
      refine r_getR (k := 0) (q := 12) dX9_fileIs_93 zf_X9_33 (zo_X9 (zs_X9 ht)) (zr_X9_3 (zs_X9 ht)).1 (zr_X9_3 (zs_X9 ht)).2.1 (zr_X9_3 (zs_X9 ht)).2.2 ?_
      refine r_getR (k := 12) (q := 16) dX9_fileIs_96 zf_X9_156 (zo_X2 (zc_X9_3 (zs_X9 ht))) (zr_X2_1 (zc_X9_3 (zs_X9 ht))).1 (zr_X2_1 (zc_X9_3 (zs_X9 ht))).2.1 (zr_X2_1 (zc_X9_3 (zs_X9 ht))).2.2 ?_
      refine r_getI (k := 16) dX9_fileIs_99 zf_X9_160 (zo_X0 (zc_X2_1 (zc_X9_3 (zs_X9 ht)))) (zi_X0_11 (zc_X2_1 (zc_X9_3 (zs_X9 ht)))) ?_
      exact r_iret dX9_fileIs_102 rfl rfl rfl (kR ((M.1 16 11)) (zK_some h))
    · have h := zK_neg h c2
      by_cases c3 : a1 = (nI 2)
      · have h := zK_pos h c3
        refine r_tabIn (off := 102) 103 dX9_fileIs_1 (by rw [c3]; first | done | decide) (by rw [c3]; first | done | decide) (by rw [c3]; first | done | decide) (by decide) ?_
        refine r_aload_n dX9_fileIs_103 rfl ?_
        refine r_getR (k := 0) (q := 12) dX9_fileIs_104 zf_X9_33 (zo_X9 (zs_X9 ht)) (zr_X9_3 (zs_X9 ht)).1 (zr_X9_3 (zs_X9 ht)).2.1 (zr_X9_3 (zs_X9 ht)).2.2 ?_
        refine r_getI (k := 12) dX9_fileIs_107 zf_X9_165 (zo_X2 (zc_X9_3 (zs_X9 ht))) (zi_X2_5 (zc_X9_3 (zs_X9 ht))) ?_
        exact r_iret dX9_fileIs_110 rfl rfl rfl (kR ((M.1 12 5)) (zK_some h))
      · have h := zK_neg h c3
        by_cases c4 : a1 = (nI 3)
        · have h := zK_pos h c4
          refine r_tabIn (off := 110) 111 dX9_fileIs_1 (by rw [c4]; first | done | decide) (by rw [c4]; first | done | decide) (by rw [c4]; first | done | decide) (by decide) ?_
          refine r_aload_n dX9_fileIs_111 rfl ?_
          refine r_getR (k := 0) (q := 12) dX9_fileIs_112 zf_X9_33 (zo_X9 (zs_X9 ht)) (zr_X9_3 (zs_X9 ht)).1 (zr_X9_3 (zs_X9 ht)).2.1 (zr_X9_3 (zs_X9 ht)).2.2 ?_
          refine r_getI (k := 12) dX9_fileIs_115 zf_X9_168 (zo_X2 (zc_X9_3 (zs_X9 ht))) (zi_X2_6 (zc_X9_3 (zs_X9 ht))) ?_
          exact r_iret dX9_fileIs_118 rfl rfl rfl (kR ((M.1 12 6)) (zK_some h))
        · have h := zK_neg h c4
          by_cases c5 : a1 = (nI 4)
          · have h := zK_pos h c5
            refine r_tabIn (off := 118) 119 dX9_fileIs_1 (by rw [c5]; first | done | decide) (by rw [c5]; first | done | decide) (by rw [c5]; first | done | decide) (by decide) ?_
            refine r_aload_n dX9_fileIs_119 rfl ?_
            refine r_getR (k := 0) (q := 12) dX9_fileIs_120 zf_X9_33 (zo_X9 (zs_X9 ht)) (zr_X9_3 (zs_X9 ht)).1 (zr_X9_3 (zs_X9 ht)).2.1 (zr_X9_3 (zs_X9 ht)).2.2 ?_
            refine r_getI (k := 12) dX9_fileIs_123 zf_X9_171 (zo_X2 (zc_X9_3 (zs_X9 ht))) (zi_X2_7 (zc_X9_3 (zs_X9 ht))) ?_
            exact r_iret dX9_fileIs_126 rfl rfl rfl (kR ((M.1 12 7)) (zK_some h))
          · have h := zK_neg h c5
            by_cases c6 : a1 = (nI 5)
            · have h := zK_pos h c6
              refine r_tabIn (off := 126) 127 dX9_fileIs_1 (by rw [c6]; first | done | decide) (by rw [c6]; first | done | decide) (by rw [c6]; first | done | decide) (by decide) ?_
              refine r_aload_n dX9_fileIs_127 rfl ?_
              refine r_getR (k := 0) (q := 12) dX9_fileIs_128 zf_X9_33 (zo_X9 (zs_X9 ht)) (zr_X9_3 (zs_X9 ht)).1 (zr_X9_3 (zs_X9 ht)).2.1 (zr_X9_3 (zs_X9 ht)).2.2 ?_
              refine r_getI (k := 12) dX9_fileIs_131 zf_X9_174 (zo_X2 (zc_X9_3 (zs_X9 ht))) (zi_X2_8 (zc_X9_3 (zs_X9 ht))) ?_
              exact r_iret dX9_fileIs_134 rfl rfl rfl (kR ((M.1 12 8)) (zK_some h))
            · have h := zK_neg h c6
              by_cases c7 : a1 = (nI 6)
              · have h := zK_pos h c7
                refine r_tabIn (off := 134) 135 dX9_fileIs_1 (by rw [c7]; first | done | decide) (by rw [c7]; first | done | decide) (by rw [c7]; first | done | decide) (by decide) ?_
                refine r_aload_n dX9_fileIs_135 rfl ?_
                refine r_getR (k := 0) (q := 12) dX9_fileIs_136 zf_X9_33 (zo_X9 (zs_X9 ht)) (zr_X9_3 (zs_X9 ht)).1 (zr_X9_3 (zs_X9 ht)).2.1 (zr_X9_3 (zs_X9 ht)).2.2 ?_
                refine r_getI (k := 12) dX9_fileIs_139 zf_X9_177 (zo_X2 (zc_X9_3 (zs_X9 ht))) (zi_X2_9 (zc_X9_3 (zs_X9 ht))) ?_
                exact r_iret dX9_fileIs_142 rfl rfl rfl (kR ((M.1 12 9)) (zK_some h))
              · have h := zK_neg h c7
                by_cases c8 : a1 = (nI 7)
                · have h := zK_pos h c8
                  refine r_tabIn (off := 142) 143 dX9_fileIs_1 (by rw [c8]; first | done | decide) (by rw [c8]; first | done | decide) (by rw [c8]; first | done | decide) (by decide) ?_
                  refine r_aload_n dX9_fileIs_143 rfl ?_
                  refine r_getR (k := 0) (q := 12) dX9_fileIs_144 zf_X9_33 (zo_X9 (zs_X9 ht)) (zr_X9_3 (zs_X9 ht)).1 (zr_X9_3 (zs_X9 ht)).2.1 (zr_X9_3 (zs_X9 ht)).2.2 ?_
                  refine tV_ir (v := f_X2_buckets 12 M) (as := []) (st := []) (k := 12) dX9_fileIs_147 zM_X2_buckets zk_X9_180 (zo_X2 (zc_X9_3 (zs_X9 ht))) (by decide) rfl ⟨Nat.le_of_ble_eq_true rfl, Nat.le_of_ble_eq_true rfl⟩ (Nat.le_of_ble_eq_true rfl) (zz_T0 rfl rfl) (fun Q' h => c_X2_buckets (12) M (zc_X9_3 (zs_X9 ht)) h) ?_
                  exact r_iret dX9_fileIs_150 rfl rfl rfl (kR ((f_X2_buckets 12 M)) (zK_some h))
                · have h := zK_neg h c8
                  by_cases c9 : a1 = (nI 8)
                  · have h := zK_pos h c9
                    refine r_tabIn (off := 150) 151 dX9_fileIs_1 (by rw [c9]; first | done | decide) (by rw [c9]; first | done | decide) (by rw [c9]; first | done | decide) (by decide) ?_
                    refine r_aload_n dX9_fileIs_151 rfl ?_
                    refine r_getR (k := 0) (q := 12) dX9_fileIs_152 zf_X9_33 (zo_X9 (zs_X9 ht)) (zr_X9_3 (zs_X9 ht)).1 (zr_X9_3 (zs_X9 ht)).2.1 (zr_X9_3 (zs_X9 ht)).2.2 ?_
                    refine r_getR (k := 12) (q := 27) dX9_fileIs_155 zf_X9_77 (zo_X2 (zc_X9_3 (zs_X9 ht))) (zr_X2_2 (zc_X9_3 (zs_X9 ht))).1 (zr_X2_2 (zc_X9_3 (zs_X9 ht))).2.1 (zr_X2_2 (zc_X9_3 (zs_X9 ht))).2.2 ?_
                    refine r_getI (k := 27) dX9_fileIs_158 zf_X9_81 (zo_X5 (zc_X2_2 (zc_X9_3 (zs_X9 ht)))) (zi_X5_1 (zc_X2_2 (zc_X9_3 (zs_X9 ht)))) ?_
                    exact r_iret dX9_fileIs_161 rfl rfl rfl (kR ((M.1 27 1)) (zK_some h))
                  · have h := zK_neg h c9
                    by_cases c10 : a1 = (nI 9)
                    · have h := zK_pos h c10
                      refine r_tabIn (off := 161) 162 dX9_fileIs_1 (by rw [c10]; first | done | decide) (by rw [c10]; first | done | decide) (by rw [c10]; first | done | decide) (by decide) ?_
                      refine r_aload_n dX9_fileIs_162 rfl ?_
                      refine r_getR (k := 0) (q := 12) dX9_fileIs_163 zf_X9_33 (zo_X9 (zs_X9 ht)) (zr_X9_3 (zs_X9 ht)).1 (zr_X9_3 (zs_X9 ht)).2.1 (zr_X9_3 (zs_X9 ht)).2.2 ?_
                      refine r_getR (k := 12) (q := 16) dX9_fileIs_166 zf_X9_156 (zo_X2 (zc_X9_3 (zs_X9 ht))) (zr_X2_1 (zc_X9_3 (zs_X9 ht))).1 (zr_X2_1 (zc_X9_3 (zs_X9 ht))).2.1 (zr_X2_1 (zc_X9_3 (zs_X9 ht))).2.2 ?_
                      refine kV_ir (as := []) (st := []) (k := 16) dX9_fileIs_169 zM_X0_usedPages zk_X9_183 (zo_X0 (zc_X2_1 (zc_X9_3 (zs_X9 ht)))) (by decide) rfl ⟨Nat.le_of_ble_eq_true rfl, Nat.le_of_ble_eq_true rfl⟩ (Nat.le_of_ble_eq_true rfl) (zz_T0 rfl rfl) (fun Q' P' k h => c_X0_usedPages (16) M (zc_X2_1 (zc_X9_3 (zs_X9 ht))) h k) h (fun r11 h => ?_)
                      exact r_iret dX9_fileIs_172 rfl rfl rfl (kR (r11) (zK_some h))
                    · have h := zK_neg h c10
                      by_cases c12 : a1 = (nI 10)
                      · have h := zK_pos h c12
                        refine r_tabIn (off := 172) 173 dX9_fileIs_1 (by rw [c12]; first | done | decide) (by rw [c12]; first | done | decide) (by rw [c12]; first | done | decide) (by decide) ?_
                        refine r_aload_n dX9_fileIs_173 rfl ?_
                        refine r_getR (k := 0) (q := 12) dX9_fileIs_174 zf_X9_33 (zo_X9 (zs_X9 ht)) (zr_X9_3 (zs_X9 ht)).1 (zr_X9_3 (zs_X9 ht)).2.1 (zr_X9_3 (zs_X9 ht)).2.2 ?_
                        refine kV_ir (as := []) (st := []) (k := 12) dX9_fileIs_177 zM_X2_load zk_X9_186 (zo_X2 (zc_X9_3 (zs_X9 ht))) (by decide) rfl ⟨Nat.le_of_ble_eq_true rfl, Nat.le_of_ble_eq_true rfl⟩ (Nat.le_of_ble_eq_true rfl) (zz_T0 rfl rfl) (fun Q' P' k h => c_X2_load (12) M (zc_X9_3 (zs_X9 ht)) h k) h (fun r13 h => ?_)
                        exact r_iret dX9_fileIs_180 rfl rfl rfl (kR (r13) (zK_some h))
                      · have h := zK_neg h c12
                        by_cases c14 : a1 = (nI 11)
                        · have h := zK_pos h c14
                          refine r_tabIn (off := 180) 181 dX9_fileIs_1 (by rw [c14]; first | done | decide) (by rw [c14]; first | done | decide) (by rw [c14]; first | done | decide) (by decide) ?_
                          refine r_aload_n dX9_fileIs_181 rfl ?_
                          refine r_getR (k := 0) (q := 12) dX9_fileIs_182 zf_X9_33 (zo_X9 (zs_X9 ht)) (zr_X9_3 (zs_X9 ht)).1 (zr_X9_3 (zs_X9 ht)).2.1 (zr_X9_3 (zs_X9 ht)).2.2 ?_
                          refine r_getI (k := 12) dX9_fileIs_185 zf_X9_189 (zo_X2 (zc_X9_3 (zs_X9 ht))) (zi_X2_10 (zc_X9_3 (zs_X9 ht))) ?_
                          exact r_iret dX9_fileIs_188 rfl rfl rfl (kR ((M.1 12 10)) (zK_some h))
                        · have h := zK_neg h c14
                          by_cases c15 : a1 = (nI 12)
                          · have h := zK_pos h c15
                            refine r_tabIn (off := 188) 189 dX9_fileIs_1 (by rw [c15]; first | done | decide) (by rw [c15]; first | done | decide) (by rw [c15]; first | done | decide) (by decide) ?_
                            refine r_aload_n dX9_fileIs_189 rfl ?_
                            refine r_getR (k := 0) (q := 12) dX9_fileIs_190 zf_X9_33 (zo_X9 (zs_X9 ht)) (zr_X9_3 (zs_X9 ht)).1 (zr_X9_3 (zs_X9 ht)).2.1 (zr_X9_3 (zs_X9 ht)).2.2 ?_
                            refine r_getI (k := 12) dX9_fileIs_193 zf_X9_192 (zo_X2 (zc_X9_3 (zs_X9 ht))) (zi_X2_11 (zc_X9_3 (zs_X9 ht))) ?_
                            exact r_iret dX9_fileIs_196 rfl rfl rfl (kR ((M.1 12 11)) (zK_some h))
                          · have h := zK_neg h c15
                            by_cases c16 : a1 = (nI 13)
                            · have h := zK_pos h c16
                              refine r_tabIn (off := 196) 197 dX9_fileIs_1 (by rw [c16]; first | done | decide) (by rw [c16]; first | done | decide) (by rw [c16]; first | done | decide) (by decide) ?_
                              refine r_aload_n dX9_fileIs_197 rfl ?_
                              refine r_getR (k := 0) (q := 12) dX9_fileIs_198 zf_X9_33 (zo_X9 (zs_X9 ht)) (zr_X9_3 (zs_X9 ht)).1 (zr_X9_3 (zs_X9 ht)).2.1 (zr_X9_3 (zs_X9 ht)).2.2 ?_
                              refine r_getR (k := 12) (q := 16) dX9_fileIs_201 zf_X9_156 (zo_X2 (zc_X9_3 (zs_X9 ht))) (zr_X2_1 (zc_X9_3 (zs_X9 ht))).1 (zr_X2_1 (zc_X9_3 (zs_X9 ht))).2.1 (zr_X2_1 (zc_X9_3 (zs_X9 ht))).2.2 ?_
                              refine r_aload_n dX9_fileIs_204 rfl ?_
                              refine r_getR (k := 0) (q := 12) dX9_fileIs_205 zf_X9_33 (zo_X9 (zs_X9 ht)) (zr_X9_3 (zs_X9 ht)).1 (zr_X9_3 (zs_X9 ht)).2.1 (zr_X9_3 (zs_X9 ht)).2.2 ?_
                              refine tV_ir (v := f_X2_buckets 12 M) (as := []) (st := [.ref 16]) (k := 12) dX9_fileIs_208 zM_X2_buckets zk_X9_180 (zo_X2 (zc_X9_3 (zs_X9 ht))) (by decide) rfl ⟨Nat.le_of_ble_eq_true rfl, Nat.le_of_ble_eq_true rfl⟩ (Nat.le_of_ble_eq_true rfl) (zz_T0 rfl rfl) (fun Q' h => c_X2_buckets (12) M (zc_X9_3 (zs_X9 ht)) h) ?_
                              refine kV_ir (as := [.int (f_X2_buckets 12 M)]) (st := []) (k := 16) dX9_fileIs_211 zM_X0_longest zk_X9_195 (zo_X0 (zc_X2_1 (zc_X9_3 (zs_X9 ht)))) (by decide) rfl ⟨Nat.le_of_ble_eq_true rfl, Nat.le_of_ble_eq_true rfl⟩ (Nat.le_of_ble_eq_true rfl) (zz_T0 rfl rfl) (fun Q' P' k h => c_X0_longest (16) ((f_X2_buckets 12 M)) M (zc_X2_1 (zc_X9_3 (zs_X9 ht))) h k) h (fun r17 h => ?_)
                              exact r_iret dX9_fileIs_214 rfl rfl rfl (kR (r17) (zK_some h))
                            · have h := zK_neg h c16
                              by_cases c18 : a1 = (nI 14)
                              · have h := zK_pos h c18
                                refine r_tabIn (off := 214) 215 dX9_fileIs_1 (by rw [c18]; first | done | decide) (by rw [c18]; first | done | decide) (by rw [c18]; first | done | decide) (by decide) ?_
                                refine r_aload_n dX9_fileIs_215 rfl ?_
                                refine r_getR (k := 0) (q := 12) dX9_fileIs_216 zf_X9_33 (zo_X9 (zs_X9 ht)) (zr_X9_3 (zs_X9 ht)).1 (zr_X9_3 (zs_X9 ht)).2.1 (zr_X9_3 (zs_X9 ht)).2.2 ?_
                                refine r_getR (k := 12) (q := 16) dX9_fileIs_219 zf_X9_156 (zo_X2 (zc_X9_3 (zs_X9 ht))) (zr_X2_1 (zc_X9_3 (zs_X9 ht))).1 (zr_X2_1 (zc_X9_3 (zs_X9 ht))).2.1 (zr_X2_1 (zc_X9_3 (zs_X9 ht))).2.2 ?_
                                refine r_aload_n dX9_fileIs_222 rfl ?_
                                refine r_getR (k := 0) (q := 12) dX9_fileIs_223 zf_X9_33 (zo_X9 (zs_X9 ht)) (zr_X9_3 (zs_X9 ht)).1 (zr_X9_3 (zs_X9 ht)).2.1 (zr_X9_3 (zs_X9 ht)).2.2 ?_
                                refine tV_ir (v := f_X2_buckets 12 M) (as := []) (st := [.ref 16]) (k := 12) dX9_fileIs_226 zM_X2_buckets zk_X9_180 (zo_X2 (zc_X9_3 (zs_X9 ht))) (by decide) rfl ⟨Nat.le_of_ble_eq_true rfl, Nat.le_of_ble_eq_true rfl⟩ (Nat.le_of_ble_eq_true rfl) (zz_T0 rfl rfl) (fun Q' h => c_X2_buckets (12) M (zc_X9_3 (zs_X9 ht)) h) ?_
                                refine kV_ir (as := [.int (f_X2_buckets 12 M)]) (st := []) (k := 16) dX9_fileIs_229 zM_X0_withoutKeys zk_X9_198 (zo_X0 (zc_X2_1 (zc_X9_3 (zs_X9 ht)))) (by decide) rfl ⟨Nat.le_of_ble_eq_true rfl, Nat.le_of_ble_eq_true rfl⟩ (Nat.le_of_ble_eq_true rfl) (zz_T0 rfl rfl) (fun Q' P' k h => c_X0_withoutKeys (16) ((f_X2_buckets 12 M)) M (zc_X2_1 (zc_X9_3 (zs_X9 ht))) h k) h (fun r19 h => ?_)
                                exact r_iret dX9_fileIs_232 rfl rfl rfl (kR (r19) (zK_some h))
                              · have h := zK_neg h c18
                                by_cases c20 : a1 = (nI 15)
                                · have h := zK_pos h c20
                                  refine r_tabIn (off := 232) 233 dX9_fileIs_1 (by rw [c20]; first | done | decide) (by rw [c20]; first | done | decide) (by rw [c20]; first | done | decide) (by decide) ?_
                                  refine r_aload_n dX9_fileIs_233 rfl ?_
                                  refine r_getR (k := 0) (q := 12) dX9_fileIs_234 zf_X9_33 (zo_X9 (zs_X9 ht)) (zr_X9_3 (zs_X9 ht)).1 (zr_X9_3 (zs_X9 ht)).2.1 (zr_X9_3 (zs_X9 ht)).2.2 ?_
                                  refine r_getI (k := 12) dX9_fileIs_237 zf_X9_201 (zo_X2 (zc_X9_3 (zs_X9 ht))) (zi_X2_12 (zc_X9_3 (zs_X9 ht))) ?_
                                  exact r_iret dX9_fileIs_240 rfl rfl rfl (kR ((M.1 12 12)) (zK_some h))
                                · have h := zK_neg h c20
                                  by_cases c21 : a1 = (nI 16)
                                  · have h := zK_pos h c21
                                    refine r_tabIn (off := 240) 241 dX9_fileIs_1 (by rw [c21]; first | done | decide) (by rw [c21]; first | done | decide) (by rw [c21]; first | done | decide) (by decide) ?_
                                    refine r_aload_n dX9_fileIs_241 rfl ?_
                                    refine r_getR (k := 0) (q := 12) dX9_fileIs_242 zf_X9_33 (zo_X9 (zs_X9 ht)) (zr_X9_3 (zs_X9 ht)).1 (zr_X9_3 (zs_X9 ht)).2.1 (zr_X9_3 (zs_X9 ht)).2.2 ?_
                                    refine r_getI (k := 12) dX9_fileIs_245 zf_X9_204 (zo_X2 (zc_X9_3 (zs_X9 ht))) (zi_X2_13 (zc_X9_3 (zs_X9 ht))) ?_
                                    exact r_iret dX9_fileIs_248 rfl rfl rfl (kR ((M.1 12 13)) (zK_some h))
                                  · have h := zK_neg h c21
                                    have hD : zz_W G m_X9_fileIs t t t 249 [some (.ref 0), some (.int a1)] [] M Q := by
                                      refine r_iconst (v := (-1 : Int32)) dX9_fileIs_249 (by decide) ?_
                                      exact r_iret dX9_fileIs_250 rfl rfl rfl (kR ((-1 : Int32)) (zK_some h))
                                    refine r_tabOut 249 dX9_fileIs_1 (zz_tab_out (n := 17) (fun i hi => ?_) (by decide)) (by decide) hD
                                    exact match i, hi with
                                    | 0, _ => fun e => c1 (e.trans (by decide))
                                    | 1, _ => fun e => c2 (e.trans (by decide))
                                    | 2, _ => fun e => c3 (e.trans (by decide))
                                    | 3, _ => fun e => c4 (e.trans (by decide))
                                    | 4, _ => fun e => c5 (e.trans (by decide))
                                    | 5, _ => fun e => c6 (e.trans (by decide))
                                    | 6, _ => fun e => c7 (e.trans (by decide))
                                    | 7, _ => fun e => c8 (e.trans (by decide))
                                    | 8, _ => fun e => c9 (e.trans (by decide))
                                    | 9, _ => fun e => c10 (e.trans (by decide))
                                    | 10, _ => fun e => c12 (e.trans (by decide))
                                    | 11, _ => fun e => c14 (e.trans (by decide))
                                    | 12, _ => fun e => c15 (e.trans (by decide))
                                    | 13, _ => fun e => c16 (e.trans (by decide))
                                    | 14, _ => fun e => c18 (e.trans (by decide))
                                    | 15, _ => fun e => c20 (e.trans (by decide))
                                    | 16, _ => fun e => c21 (e.trans (by decide))
                                    | k + 17, hk => absurd hk (by omega)
set_option maxHeartbeats 4000000 in
set_option maxRecDepth 100000 in
theorem c_X9_fileIs {G : zzG} {t : Nat} {Q : Option Value → zzMem → Prop} (a1 : Int32) (M : zzMem) (ht : 180 ≤ t)  {P : Int32 → Prop} (h : zK (f_X9_fileIs a1 M) P) (kR : ∀ r : Int32, P r → Q (some (.int r)) M) : zz_S G m_X9_fileIs t t [.ref 0, .int a1] M Q :=
  zz_S_of (by decide) (by decide) (Nat.le_of_ble_eq_true rfl) (w_X9_fileIs_0 a1 M ht h kR)
noncomputable def j_X9_movesOf_57 (v1 : Int32) (v2 : Int32) (v4 : Int32) (v5 : Int32) (M : zzMem) : Option ((Int32 × Int32 × Int32) ⊕ Int32) :=
  zbd (v4 + (nI 1)) (fun x1 =>
  some (.inl (v2, v5, x1)))
set_option maxHeartbeats 4000000 in
set_option maxRecDepth 100000 in
theorem w_X9_movesOf_57 {G : zzG} {t : Nat} {Q : Option Value → zzMem → Prop} (v1 : Int32) (v2 : Int32) (v4 : Int32) (v5 : Int32) (M : zzMem) (ht : 180 ≤ t)  {P : ((Int32 × Int32 × Int32) ⊕ Int32) → Prop} (h : zK (j_X9_movesOf_57 v1 v2 v4 v5 M) P) (k29 : ∀ s : (Int32 × Int32 × Int32), P (.inl s) → zz_W G m_X9_movesOf t t t 29 [some (.ref 0), some (.int v1), some (.int s.1), some (.int s.2.1), some (.int s.2.2), none] [] M Q) (kR : ∀ r : Int32, P (.inr r) → Q (some (.int r)) M) : zz_W G m_X9_movesOf t t t 57 [some (.ref 0), some (.int v1), some (.int v2), none, some (.int v4), some (.int v5)] [] M Q := by
  unfold j_X9_movesOf_57 at h
  refine r_iload dX9_movesOf_57 rfl ?_
  refine s_istore_n ([some (.ref 0), some (.int v1), some (.int v2), some (.int v5), some (.int v4), some (.int v5)]) dX9_movesOf_59 (by decide) rfl rfl ?_
  refine r_iinc (nI 1) (fun x1 => [some (.ref 0), some (.int v1), some (.int v2), some (.int v5), some (.int x1), some (.int v5)]) dX9_movesOf_60 rfl (by decide) (by decide) rfl (fun _ => rfl) (fun x1 ex1 => ?_)
  have h := zK_bd h ex1
  refine r_goto 29 dX9_movesOf_63 (by decide) ?_
  refine zz_mask [5] ?_
  exact k29 ((v2, v5, x1)) (zK_some h)
noncomputable def b_X9_movesOf_29 (v1 : Int32) (v2 : Int32) (v3 : Int32) (v4 : Int32) (M : zzMem) : Option ((Int32 × Int32 × Int32) ⊕ Int32) :=
  if (nI 64) < v4 then
  (some ((.inr v2)))
  else ((f_X2_addressAmong 12 v1 v4 M).bind (fun r2 =>
  if r2 = v3 then
  (j_X9_movesOf_57 v1 v2 v4 r2 M)
  else (zbd (v2 + (nI 1)) (fun x4 =>
  j_X9_movesOf_57 v1 x4 v4 r2 M))))
set_option maxHeartbeats 4000000 in
set_option maxRecDepth 100000 in
theorem x_X9_movesOf_29 {G : zzG} {t : Nat} {Q : Option Value → zzMem → Prop} (v1 : Int32) (v2 : Int32) (v3 : Int32) (v4 : Int32) (M : zzMem) (ht : 180 ≤ t)  {P : ((Int32 × Int32 × Int32) ⊕ Int32) → Prop} (h : zK (b_X9_movesOf_29 v1 v2 v3 v4 M) P) (k29 : ∀ s : (Int32 × Int32 × Int32), P (.inl s) → zz_W G m_X9_movesOf t t t 29 [some (.ref 0), some (.int v1), some (.int s.1), some (.int s.2.1), some (.int s.2.2), none] [] M Q) (kR : ∀ r : Int32, P (.inr r) → Q (some (.int r)) M) : zz_W G m_X9_movesOf t t t 29 [some (.ref 0), some (.int v1), some (.int v2), some (.int v3), some (.int v4), none] [] M Q := by
  unfold b_X9_movesOf_29 at h
  refine r_iload dX9_movesOf_29 rfl ?_
  refine r_bipush (v := (nI 64)) dX9_movesOf_31 (by decide) ?_
  refine r_icmp_gt 66 dX9_movesOf_33 (by decide) (fun c1 => ?_) (fun c1 => ?_)
  · have h := zK_pos h c1
    refine r_iload_n dX9_movesOf_66 rfl ?_
    exact r_iret dX9_movesOf_67 rfl rfl rfl (kR (v2) (zK_some h))
  · have h := zK_neg h c1
    refine r_aload_n dX9_movesOf_36 rfl ?_
    refine r_getR (k := 0) (q := 12) dX9_movesOf_37 zf_X9_33 (zo_X9 (zs_X9 ht)) (zr_X9_3 (zs_X9 ht)).1 (zr_X9_3 (zs_X9 ht)).2.1 (zr_X9_3 (zs_X9 ht)).2.2 ?_
    refine r_iload_n dX9_movesOf_40 rfl ?_
    refine r_iload dX9_movesOf_41 rfl ?_
    refine kV_ir (as := [.int v1, .int v4]) (st := []) (k := 12) dX9_movesOf_43 zM_X2_addressAmong zk_X9_222 (zo_X2 (zc_X9_3 (zs_X9 ht))) (by decide) rfl ⟨Nat.le_of_ble_eq_true rfl, Nat.le_of_ble_eq_true rfl⟩ (Nat.le_of_ble_eq_true rfl) (zz_T0 rfl rfl) (fun Q' P' k h => c_X2_addressAmong (12) (v1) (v4) M (zc_X9_3 (zs_X9 ht)) h k) h (fun r2 h => ?_)
    refine s_istore ([some (.ref 0), some (.int v1), some (.int v2), some (.int v3), some (.int v4), some (.int r2)]) dX9_movesOf_46 (by decide) rfl rfl ?_
    refine r_iload dX9_movesOf_48 rfl ?_
    refine r_iload_n dX9_movesOf_50 rfl ?_
    refine r_icmp_eq 57 dX9_movesOf_51 (by decide) (fun c3 => ?_) (fun c3 => ?_)
    · have h := zK_pos h c3
      refine zz_mask [3] ?_
      exact w_X9_movesOf_57 (v1) (v2) (v4) (r2) M ht h k29 kR
    · have h := zK_neg h c3
      refine r_iinc (nI 1) (fun x4 => [some (.ref 0), some (.int v1), some (.int x4), some (.int v3), some (.int v4), some (.int r2)]) dX9_movesOf_54 rfl (by decide) (by decide) rfl (fun _ => rfl) (fun x4 ex4 => ?_)
      have h := zK_bd h ex4
      refine zz_mask [3] ?_
      exact w_X9_movesOf_57 (v1) (x4) (v4) (r2) M ht h k29 kR
noncomputable def j_X9_movesOf_29 (v1 : Int32) (v2 : Int32) (v3 : Int32) (v4 : Int32) (M : zzMem) : Option Int32 :=
  zlp (fun s : (Int32 × Int32 × Int32) => b_X9_movesOf_29 v1 s.1 s.2.1 s.2.2 M) (v2, v3, v4)
set_option maxHeartbeats 4000000 in
set_option maxRecDepth 100000 in
theorem w_X9_movesOf_29 {G : zzG} {t : Nat} {Q : Option Value → zzMem → Prop} (v1 : Int32) (v2 : Int32) (v3 : Int32) (v4 : Int32) (M : zzMem) (ht : 180 ≤ t)  {P : Int32 → Prop} (h : zK (j_X9_movesOf_29 v1 v2 v3 v4 M) P) (kR : ∀ r : Int32, P r → Q (some (.int r)) M) : zz_W G m_X9_movesOf t t t 29 [some (.ref 0), some (.int v1), some (.int v2), some (.int v3), some (.int v4), none] [] M Q := by
  unfold j_X9_movesOf_29 at h
  exact zK_lp h (fun s : (Int32 × Int32 × Int32) => zz_W G m_X9_movesOf t t t 29 [some (.ref 0), some (.int v1), some (.int s.1), some (.int s.2.1), some (.int s.2.2), none] [] M Q) (fun s h => x_X9_movesOf_29 v1 s.1 s.2.1 s.2.2 M ht h (fun s p => p) kR)
noncomputable def f_X9_movesOf (a1 : Int32) (M : zzMem) : Option Int32 :=
  (f_X2_addressAmong 12 a1 (M.1 12 4) M).bind (fun r1 =>
  zbd (((M.1 12 4) + (nI 1))) (fun x2 =>
  j_X9_movesOf_29 a1 (nI 0) r1 x2 M))
set_option maxHeartbeats 4000000 in
set_option maxRecDepth 100000 in
theorem w_X9_movesOf_0 {G : zzG} {t : Nat} {Q : Option Value → zzMem → Prop} (a1 : Int32) (M : zzMem) (ht : 180 ≤ t)  {P : Int32 → Prop} (h : zK (f_X9_movesOf a1 M) P) (kR : ∀ r : Int32, P r → Q (some (.int r)) M) : zz_W G m_X9_movesOf t t t 0 [some (.ref 0), some (.int a1), none, none, none, none] [] M Q := by
  unfold f_X9_movesOf at h
  refine r_iconst (v := (nI 0)) dX9_movesOf_0 (by decide) ?_
  refine s_istore_n ([some (.ref 0), some (.int a1), some (.int (nI 0)), none, none, none]) dX9_movesOf_1 (by decide) rfl rfl ?_
  refine r_aload_n dX9_movesOf_2 rfl ?_
  refine r_getR (k := 0) (q := 12) dX9_movesOf_3 zf_X9_33 (zo_X9 (zs_X9 ht)) (zr_X9_3 (zs_X9 ht)).1 (zr_X9_3 (zs_X9 ht)).2.1 (zr_X9_3 (zs_X9 ht)).2.2 ?_
  refine r_iload_n dX9_movesOf_6 rfl ?_
  refine r_aload_n dX9_movesOf_7 rfl ?_
  refine r_getR (k := 0) (q := 12) dX9_movesOf_8 zf_X9_33 (zo_X9 (zs_X9 ht)) (zr_X9_3 (zs_X9 ht)).1 (zr_X9_3 (zs_X9 ht)).2.1 (zr_X9_3 (zs_X9 ht)).2.2 ?_
  refine r_getI (k := 12) dX9_movesOf_11 zf_X9_153 (zo_X2 (zc_X9_3 (zs_X9 ht))) (zi_X2_4 (zc_X9_3 (zs_X9 ht))) ?_
  refine kV_ir (as := [.int a1, .int (M.1 12 4)]) (st := []) (k := 12) dX9_movesOf_14 zM_X2_addressAmong zk_X9_222 (zo_X2 (zc_X9_3 (zs_X9 ht))) (by decide) rfl ⟨Nat.le_of_ble_eq_true rfl, Nat.le_of_ble_eq_true rfl⟩ (Nat.le_of_ble_eq_true rfl) (zz_T0 rfl rfl) (fun Q' P' k h => c_X2_addressAmong (12) (a1) ((M.1 12 4)) M (zc_X9_3 (zs_X9 ht)) h k) h (fun r1 h => ?_)
  refine s_istore_n ([some (.ref 0), some (.int a1), some (.int (nI 0)), some (.int r1), none, none]) dX9_movesOf_17 (by decide) rfl rfl ?_
  refine r_aload_n dX9_movesOf_18 rfl ?_
  refine r_getR (k := 0) (q := 12) dX9_movesOf_19 zf_X9_33 (zo_X9 (zs_X9 ht)) (zr_X9_3 (zs_X9 ht)).1 (zr_X9_3 (zs_X9 ht)).2.1 (zr_X9_3 (zs_X9 ht)).2.2 ?_
  refine r_getI (k := 12) dX9_movesOf_22 zf_X9_153 (zo_X2 (zc_X9_3 (zs_X9 ht))) (zi_X2_4 (zc_X9_3 (zs_X9 ht))) ?_
  refine r_iconst (v := (nI 1)) dX9_movesOf_25 (by decide) ?_
  refine r_iadd dX9_movesOf_26 ?_
  refine r_istore (fun x2 => [some (.ref 0), some (.int a1), some (.int (nI 0)), some (.int r1), some (.int x2), none]) dX9_movesOf_27 (by decide) rfl (fun _ => rfl) (fun x2 ex2 => ?_)
  have h := zK_bd h ex2
  exact w_X9_movesOf_29 (a1) ((nI 0)) (r1) (x2) M ht h kR
set_option maxHeartbeats 4000000 in
set_option maxRecDepth 100000 in
theorem c_X9_movesOf {G : zzG} {t : Nat} {Q : Option Value → zzMem → Prop} (a1 : Int32) (M : zzMem) (ht : 180 ≤ t)  {P : Int32 → Prop} (h : zK (f_X9_movesOf a1 M) P) (kR : ∀ r : Int32, P r → Q (some (.int r)) M) : zz_S G m_X9_movesOf t t [.ref 0, .int a1] M Q :=
  zz_S_of (by decide) (by decide) (Nat.le_of_ble_eq_true rfl) (w_X9_movesOf_0 a1 M ht h kR)
noncomputable def f_X9_keyIs (a1 : Int32) (a2 : Int32) (M : zzMem) : Option (Int32 × zzMem) :=
  if (f_X9_isKey a1) = true then
  ((f_X3_hashOf 13 a1 M).bind (fun q2 => zpr q2 (fun r3 M4 =>
  if a2 = (nI 0) then
  (some ((r3, M4)))
  else if a2 = (nI 1) then
  ((f_X2_addressOf 12 r3 M4).bind (fun r7 =>
  some ((r7, M4))))
  else if a2 = (nI 2) then
  ((f_X9_movesOf r3 M4).bind (fun r9 =>
  some ((r9, M4))))
  else if a2 = (nI 3) then
  ((f_X2_addressOf 12 r3 M4).bind (fun r11 =>
  (f_X2_readsFor 12 a1 r11 M4).bind (fun r12 =>
  some ((r12, M4)))))
  else if a2 = (nI 4) then
  (if (f_X2_isFull 12 M4) = true then
  (some (((-3 : Int32), M4)))
  else ((f_X2_addressAmong 12 r3 ((f_X2_buckets 12 M4) + (nI 1)) M4).bind (fun r15 =>
  some ((r15, M4)))))
  else (some (((-1 : Int32), M4))))))
  else (some (((-1 : Int32), M)))
set_option maxHeartbeats 4000000 in
set_option maxRecDepth 100000 in
theorem w_X9_keyIs_0 {G : zzG} {t : Nat} {Q : Option Value → zzMem → Prop} (a1 : Int32) (a2 : Int32) (M : zzMem) (ht : 180 ≤ t)  {P : (Int32 × zzMem) → Prop} (h : zK (f_X9_keyIs a1 a2 M) P) (kR : ∀ r : (Int32 × zzMem), P r → Q (some (.int r.1)) r.2) : zz_W G m_X9_keyIs t t t 0 [some (.ref 0), some (.int a1), some (.int a2), none] [] M Q := by
  unfold f_X9_keyIs at h
  refine r_iload_n dX9_keyIs_0 rfl ?_
  refine tS_zr (v := f_X9_isKey a1) (as := [.int a1]) (st := []) dX9_keyIs_1 zM_X9_isKey zk_X9_149 ⟨Nat.le_of_ble_eq_true rfl, Nat.le_of_ble_eq_true rfl⟩ (Nat.le_of_ble_eq_true rfl) (zz_T0 rfl rfl) (fun Q' h => c_X9_isKey (a1) M h) ?_
  refine r_ifZ_ne 9 dX9_keyIs_4 (by decide) (fun c1 => ?_) (fun c1 => ?_)
  · have h := zK_pos h c1
    refine r_aload_n dX9_keyIs_9 rfl ?_
    refine r_getR (k := 0) (q := 12) dX9_keyIs_10 zf_X9_33 (zo_X9 (zs_X9 ht)) (zr_X9_3 (zs_X9 ht)).1 (zr_X9_3 (zs_X9 ht)).2.1 (zr_X9_3 (zs_X9 ht)).2.2 ?_
    refine r_getR (k := 12) (q := 13) dX9_keyIs_13 zf_X9_88 (zo_X2 (zc_X9_3 (zs_X9 ht))) (zr_X2_0 (zc_X9_3 (zs_X9 ht))).1 (zr_X2_0 (zc_X9_3 (zs_X9 ht))).2.1 (zr_X2_0 (zc_X9_3 (zs_X9 ht))).2.2 ?_
    refine r_iload_n dX9_keyIs_16 rfl ?_
    refine kV_iw (as := [.int a1]) (st := []) (k := 13) dX9_keyIs_17 zM_X3_hashOf zk_X9_207 (zo_X3 (zc_X2_0 (zc_X9_3 (zs_X9 ht)))) (by decide) rfl ⟨Nat.le_of_ble_eq_true rfl, Nat.le_of_ble_eq_true rfl⟩ (Nat.le_of_ble_eq_true rfl) (zz_T0 rfl rfl) (fun Q' P' k h => c_X3_hashOf (13) (a1) M (zc_X2_0 (zc_X9_3 (zs_X9 ht))) h (fun r p => k r.1 r.2 p)) h (fun r3 M4 h => ?_)
    have h := zK_pr h
    refine s_istore_n ([some (.ref 0), some (.int a1), some (.int a2), some (.int r3)]) dX9_keyIs_20 (by decide) rfl rfl ?_
    refine r_iload_n dX9_keyIs_21 rfl ?_
    by_cases c5 : a2 = (nI 0)
    · have h := zK_pos h c5
      refine r_tabIn (off := 34) 56 dX9_keyIs_22 (by rw [c5]; first | done | decide) (by rw [c5]; first | done | decide) (by rw [c5]; first | done | decide) (by decide) ?_
      refine r_iload_n dX9_keyIs_56 rfl ?_
      exact r_iret dX9_keyIs_57 rfl rfl rfl (kR ((r3, M4)) (zK_some h))
    · have h := zK_neg h c5
      by_cases c6 : a2 = (nI 1)
      · have h := zK_pos h c6
        refine r_tabIn (off := 36) 58 dX9_keyIs_22 (by rw [c6]; first | done | decide) (by rw [c6]; first | done | decide) (by rw [c6]; first | done | decide) (by decide) ?_
        refine r_aload_n dX9_keyIs_58 rfl ?_
        refine r_getR (k := 0) (q := 12) dX9_keyIs_59 zf_X9_33 (zo_X9 (zs_X9 ht)) (zr_X9_3 (zs_X9 ht)).1 (zr_X9_3 (zs_X9 ht)).2.1 (zr_X9_3 (zs_X9 ht)).2.2 ?_
        refine r_iload_n dX9_keyIs_62 rfl ?_
        refine kV_ir (as := [.int r3]) (st := []) (k := 12) dX9_keyIs_63 zM_X2_addressOf zk_X9_210 (zo_X2 (zc_X9_3 (zs_X9 ht))) (by decide) rfl ⟨Nat.le_of_ble_eq_true rfl, Nat.le_of_ble_eq_true rfl⟩ (Nat.le_of_ble_eq_true rfl) (zz_T0 rfl rfl) (fun Q' P' k h => c_X2_addressOf (12) (r3) M4 (zc_X9_3 (zs_X9 ht)) h k) h (fun r7 h => ?_)
        exact r_iret dX9_keyIs_66 rfl rfl rfl (kR ((r7, M4)) (zK_some h))
      · have h := zK_neg h c6
        by_cases c8 : a2 = (nI 2)
        · have h := zK_pos h c8
          refine r_tabIn (off := 45) 67 dX9_keyIs_22 (by rw [c8]; first | done | decide) (by rw [c8]; first | done | decide) (by rw [c8]; first | done | decide) (by decide) ?_
          refine r_aload_n dX9_keyIs_67 rfl ?_
          refine r_iload_n dX9_keyIs_68 rfl ?_
          refine kV_ir (as := [.int r3]) (st := []) (k := 0) dX9_keyIs_69 zM_X9_movesOf zk_X9_213 (zo_X9 (zs_X9 ht)) (by decide) rfl ⟨Nat.le_of_ble_eq_true rfl, Nat.le_of_ble_eq_true rfl⟩ (Nat.le_of_ble_eq_true rfl) (zz_T0 rfl rfl) (fun Q' P' k h => c_X9_movesOf (r3) M4 ht h k) h (fun r9 h => ?_)
          exact r_iret dX9_keyIs_72 rfl rfl rfl (kR ((r9, M4)) (zK_some h))
        · have h := zK_neg h c8
          by_cases c10 : a2 = (nI 3)
          · have h := zK_pos h c10
            refine r_tabIn (off := 51) 73 dX9_keyIs_22 (by rw [c10]; first | done | decide) (by rw [c10]; first | done | decide) (by rw [c10]; first | done | decide) (by decide) ?_
            refine r_aload_n dX9_keyIs_73 rfl ?_
            refine r_getR (k := 0) (q := 12) dX9_keyIs_74 zf_X9_33 (zo_X9 (zs_X9 ht)) (zr_X9_3 (zs_X9 ht)).1 (zr_X9_3 (zs_X9 ht)).2.1 (zr_X9_3 (zs_X9 ht)).2.2 ?_
            refine r_iload_n dX9_keyIs_77 rfl ?_
            refine r_aload_n dX9_keyIs_78 rfl ?_
            refine r_getR (k := 0) (q := 12) dX9_keyIs_79 zf_X9_33 (zo_X9 (zs_X9 ht)) (zr_X9_3 (zs_X9 ht)).1 (zr_X9_3 (zs_X9 ht)).2.1 (zr_X9_3 (zs_X9 ht)).2.2 ?_
            refine r_iload_n dX9_keyIs_82 rfl ?_
            refine kV_ir (as := [.int r3]) (st := [.int a1, .ref 12]) (k := 12) dX9_keyIs_83 zM_X2_addressOf zk_X9_210 (zo_X2 (zc_X9_3 (zs_X9 ht))) (by decide) rfl ⟨Nat.le_of_ble_eq_true rfl, Nat.le_of_ble_eq_true rfl⟩ (Nat.le_of_ble_eq_true rfl) (zz_T0 rfl rfl) (fun Q' P' k h => c_X2_addressOf (12) (r3) M4 (zc_X9_3 (zs_X9 ht)) h k) h (fun r11 h => ?_)
            refine kV_ir (as := [.int a1, .int r11]) (st := []) (k := 12) dX9_keyIs_86 zM_X2_readsFor zk_X9_216 (zo_X2 (zc_X9_3 (zs_X9 ht))) (by decide) rfl ⟨Nat.le_of_ble_eq_true rfl, Nat.le_of_ble_eq_true rfl⟩ (Nat.le_of_ble_eq_true rfl) (zz_T0 rfl rfl) (fun Q' P' k h => c_X2_readsFor (12) (a1) (r11) M4 (zc_X9_3 (zs_X9 ht)) h k) h (fun r12 h => ?_)
            exact r_iret dX9_keyIs_89 rfl rfl rfl (kR ((r12, M4)) (zK_some h))
          · have h := zK_neg h c10
            by_cases c13 : a2 = (nI 4)
            · have h := zK_pos h c13
              refine r_tabIn (off := 68) 90 dX9_keyIs_22 (by rw [c13]; first | done | decide) (by rw [c13]; first | done | decide) (by rw [c13]; first | done | decide) (by decide) ?_
              refine r_aload_n dX9_keyIs_90 rfl ?_
              refine r_getR (k := 0) (q := 12) dX9_keyIs_91 zf_X9_33 (zo_X9 (zs_X9 ht)) (zr_X9_3 (zs_X9 ht)).1 (zr_X9_3 (zs_X9 ht)).2.1 (zr_X9_3 (zs_X9 ht)).2.2 ?_
              refine tV_zr (v := f_X2_isFull 12 M4) (as := []) (st := []) (k := 12) dX9_keyIs_94 zM_X2_isFull zk_X9_219 (zo_X2 (zc_X9_3 (zs_X9 ht))) (by decide) rfl ⟨Nat.le_of_ble_eq_true rfl, Nat.le_of_ble_eq_true rfl⟩ (Nat.le_of_ble_eq_true rfl) (zz_T0 rfl rfl) (fun Q' h => c_X2_isFull (12) M4 (zc_X9_3 (zs_X9 ht)) h) ?_
              refine r_ifZ_eq 105 dX9_keyIs_97 (by decide) (fun c14 => ?_) (fun c14 => ?_)
              · have h := zK_neg h c14
                refine r_aload_n dX9_keyIs_105 rfl ?_
                refine r_getR (k := 0) (q := 12) dX9_keyIs_106 zf_X9_33 (zo_X9 (zs_X9 ht)) (zr_X9_3 (zs_X9 ht)).1 (zr_X9_3 (zs_X9 ht)).2.1 (zr_X9_3 (zs_X9 ht)).2.2 ?_
                refine r_iload_n dX9_keyIs_109 rfl ?_
                refine r_aload_n dX9_keyIs_110 rfl ?_
                refine r_getR (k := 0) (q := 12) dX9_keyIs_111 zf_X9_33 (zo_X9 (zs_X9 ht)) (zr_X9_3 (zs_X9 ht)).1 (zr_X9_3 (zs_X9 ht)).2.1 (zr_X9_3 (zs_X9 ht)).2.2 ?_
                refine tV_ir (v := f_X2_buckets 12 M4) (as := []) (st := [.int r3, .ref 12]) (k := 12) dX9_keyIs_114 zM_X2_buckets zk_X9_180 (zo_X2 (zc_X9_3 (zs_X9 ht))) (by decide) rfl ⟨Nat.le_of_ble_eq_true rfl, Nat.le_of_ble_eq_true rfl⟩ (Nat.le_of_ble_eq_true rfl) (zz_T0 rfl rfl) (fun Q' h => c_X2_buckets (12) M4 (zc_X9_3 (zs_X9 ht)) h) ?_
                refine r_iconst (v := (nI 1)) dX9_keyIs_117 (by decide) ?_
                refine r_iadd dX9_keyIs_118 ?_
                refine kV_ir (as := [.int r3, .int ((f_X2_buckets 12 M4) + (nI 1))]) (st := []) (k := 12) dX9_keyIs_119 zM_X2_addressAmong zk_X9_222 (zo_X2 (zc_X9_3 (zs_X9 ht))) (by decide) rfl ⟨Nat.le_of_ble_eq_true rfl, Nat.le_of_ble_eq_true rfl⟩ (Nat.le_of_ble_eq_true rfl) (zz_T0 rfl rfl) (fun Q' P' k h => c_X2_addressAmong (12) (r3) (((f_X2_buckets 12 M4) + (nI 1))) M4 (zc_X9_3 (zs_X9 ht)) h k) h (fun r15 h => ?_)
                exact r_iret dX9_keyIs_122 rfl rfl rfl (kR ((r15, M4)) (zK_some h))
              · have h := zK_pos h c14
                refine r_bipush (v := (-3 : Int32)) dX9_keyIs_100 (by decide) ?_
                refine r_goto 122 dX9_keyIs_102 (by decide) ?_
                exact r_iret dX9_keyIs_122 rfl rfl rfl (kR (((-3 : Int32), M4)) (zK_some h))
            · have h := zK_neg h c13
              have hD : zz_W G m_X9_keyIs t t t 123 [some (.ref 0), some (.int a1), some (.int a2), some (.int r3)] [] M4 Q := by
                refine r_iconst (v := (-1 : Int32)) dX9_keyIs_123 (by decide) ?_
                exact r_iret dX9_keyIs_124 rfl rfl rfl (kR (((-1 : Int32), M4)) (zK_some h))
              refine r_tabOut 123 dX9_keyIs_22 (zz_tab_out (n := 5) (fun i hi => ?_) (by decide)) (by decide) hD
              exact match i, hi with
              | 0, _ => fun e => c5 (e.trans (by decide))
              | 1, _ => fun e => c6 (e.trans (by decide))
              | 2, _ => fun e => c8 (e.trans (by decide))
              | 3, _ => fun e => c10 (e.trans (by decide))
              | 4, _ => fun e => c13 (e.trans (by decide))
              | k + 5, hk => absurd hk (by omega)
  · have h := zK_neg h c1
    refine r_iconst (v := (-1 : Int32)) dX9_keyIs_7 (by decide) ?_
    exact r_iret dX9_keyIs_8 rfl rfl rfl (kR (((-1 : Int32), M)) (zK_some h))
set_option maxHeartbeats 4000000 in
set_option maxRecDepth 100000 in
theorem c_X9_keyIs {G : zzG} {t : Nat} {Q : Option Value → zzMem → Prop} (a1 : Int32) (a2 : Int32) (M : zzMem) (ht : 180 ≤ t)  {P : (Int32 × zzMem) → Prop} (h : zK (f_X9_keyIs a1 a2 M) P) (kR : ∀ r : (Int32 × zzMem), P r → Q (some (.int r.1)) r.2) : zz_S G m_X9_keyIs t t [.ref 0, .int a1, .int a2] M Q :=
  zz_S_of (by decide) (by decide) (Nat.le_of_ble_eq_true rfl) (w_X9_keyIs_0 a1 a2 M ht h kR)
noncomputable def f_X9_isAmount (a1 : Int32) (M : zzMem) : Bool :=
  (f_X9_within a1 (M.1 12 4) (nI 64))
set_option maxHeartbeats 4000000 in
set_option maxRecDepth 100000 in
theorem w_X9_isAmount_0 {G : zzG} {t : Nat} {Q : Option Value → zzMem → Prop} (a1 : Int32) (M : zzMem) (ht : 180 ≤ t)  {P : Bool → Prop} (h : P (f_X9_isAmount a1 M)) (kR : ∀ r : Bool, P r → Q (some (.int (zb r))) M) : zz_W G m_X9_isAmount t t t 0 [some (.ref 0), some (.int a1)] [] M Q := by
  unfold f_X9_isAmount at h
  refine r_iload_n dX9_isAmount_0 rfl ?_
  refine r_aload_n dX9_isAmount_1 rfl ?_
  refine r_getR (k := 0) (q := 12) dX9_isAmount_2 zf_X9_33 (zo_X9 (zs_X9 ht)) (zr_X9_3 (zs_X9 ht)).1 (zr_X9_3 (zs_X9 ht)).2.1 (zr_X9_3 (zs_X9 ht)).2.2 ?_
  refine r_getI (k := 12) dX9_isAmount_5 zf_X9_153 (zo_X2 (zc_X9_3 (zs_X9 ht))) (zi_X2_4 (zc_X9_3 (zs_X9 ht))) ?_
  refine r_bipush (v := (nI 64)) dX9_isAmount_8 (by decide) ?_
  refine tS_zr (v := f_X9_within a1 (M.1 12 4) (nI 64)) (as := [.int a1, .int (M.1 12 4), .int (nI 64)]) (st := []) dX9_isAmount_10 zM_X9_within zk_X9_63 ⟨Nat.le_of_ble_eq_true rfl, Nat.le_of_ble_eq_true rfl⟩ (Nat.le_of_ble_eq_true rfl) (zz_T0 rfl rfl) (fun Q' h => c_X9_within (a1) ((M.1 12 4)) ((nI 64)) M h) ?_
  exact r_zret (b := (f_X9_within a1 (M.1 12 4) (nI 64))) dX9_isAmount_13 rfl rfl rfl (kR ((f_X9_within a1 (M.1 12 4) (nI 64))) h)
set_option maxHeartbeats 4000000 in
set_option maxRecDepth 100000 in
theorem c_X9_isAmount {G : zzG} {t : Nat} {Q : Option Value → zzMem → Prop} (a1 : Int32) (M : zzMem) (ht : 180 ≤ t)  (h : Q (some (.int (zb (f_X9_isAmount a1 M)))) M) : zz_S G m_X9_isAmount t t [.ref 0, .int a1] M Q :=
  zz_S_of (by decide) (by decide) (Nat.le_of_ble_eq_true rfl) (w_X9_isAmount_0 a1 M ht (P := fun r => Q (some (.int (zb r))) M) h (fun r p => p))
noncomputable def f_X9_where (a1 : Int32) (a2 : Int32) (M : zzMem) : Option (Int32 × zzMem) :=
  if (f_X9_isKey a1) = true then
  (if (f_X9_isAmount a2 M) = true then
  ((f_X3_hashOf 13 a1 M).bind (fun q3 => zpr q3 (fun r4 M5 =>
  (f_X2_addressAmong 12 r4 a2 M5).bind (fun r6 =>
  some ((r6, M5))))))
  else (some (((-1 : Int32), M))))
  else (some (((-1 : Int32), M)))
set_option maxHeartbeats 4000000 in
set_option maxRecDepth 100000 in
theorem w_X9_where_0 {G : zzG} {t : Nat} {Q : Option Value → zzMem → Prop} (a1 : Int32) (a2 : Int32) (M : zzMem) (ht : 180 ≤ t)  {P : (Int32 × zzMem) → Prop} (h : zK (f_X9_where a1 a2 M) P) (kR : ∀ r : (Int32 × zzMem), P r → Q (some (.int r.1)) r.2) : zz_W G m_X9_where t t t 0 [some (.ref 0), some (.int a1), some (.int a2)] [] M Q := by
  unfold f_X9_where at h
  refine r_iload_n dX9_where_0 rfl ?_
  refine tS_zr (v := f_X9_isKey a1) (as := [.int a1]) (st := []) dX9_where_1 zM_X9_isKey zk_X9_149 ⟨Nat.le_of_ble_eq_true rfl, Nat.le_of_ble_eq_true rfl⟩ (Nat.le_of_ble_eq_true rfl) (zz_T0 rfl rfl) (fun Q' h => c_X9_isKey (a1) M h) ?_
  refine r_ifZ_eq 15 dX9_where_4 (by decide) (fun c1 => ?_) (fun c1 => ?_)
  · have h := zK_neg h c1
    refine r_iconst (v := (-1 : Int32)) dX9_where_15 (by decide) ?_
    exact r_iret dX9_where_16 rfl rfl rfl (kR (((-1 : Int32), M)) (zK_some h))
  · have h := zK_pos h c1
    refine r_aload_n dX9_where_7 rfl ?_
    refine r_iload_n dX9_where_8 rfl ?_
    refine tV_zr (v := f_X9_isAmount a2 M) (as := [.int a2]) (st := []) (k := 0) dX9_where_9 zM_X9_isAmount zk_X9_225 (zo_X9 (zs_X9 ht)) (by decide) rfl ⟨Nat.le_of_ble_eq_true rfl, Nat.le_of_ble_eq_true rfl⟩ (Nat.le_of_ble_eq_true rfl) (zz_T0 rfl rfl) (fun Q' h => c_X9_isAmount (a2) M ht h) ?_
    refine r_ifZ_ne 17 dX9_where_12 (by decide) (fun c2 => ?_) (fun c2 => ?_)
    · have h := zK_pos h c2
      refine r_aload_n dX9_where_17 rfl ?_
      refine r_getR (k := 0) (q := 12) dX9_where_18 zf_X9_33 (zo_X9 (zs_X9 ht)) (zr_X9_3 (zs_X9 ht)).1 (zr_X9_3 (zs_X9 ht)).2.1 (zr_X9_3 (zs_X9 ht)).2.2 ?_
      refine r_aload_n dX9_where_21 rfl ?_
      refine r_getR (k := 0) (q := 12) dX9_where_22 zf_X9_33 (zo_X9 (zs_X9 ht)) (zr_X9_3 (zs_X9 ht)).1 (zr_X9_3 (zs_X9 ht)).2.1 (zr_X9_3 (zs_X9 ht)).2.2 ?_
      refine r_getR (k := 12) (q := 13) dX9_where_25 zf_X9_88 (zo_X2 (zc_X9_3 (zs_X9 ht))) (zr_X2_0 (zc_X9_3 (zs_X9 ht))).1 (zr_X2_0 (zc_X9_3 (zs_X9 ht))).2.1 (zr_X2_0 (zc_X9_3 (zs_X9 ht))).2.2 ?_
      refine r_iload_n dX9_where_28 rfl ?_
      refine kV_iw (as := [.int a1]) (st := [.ref 12]) (k := 13) dX9_where_29 zM_X3_hashOf zk_X9_207 (zo_X3 (zc_X2_0 (zc_X9_3 (zs_X9 ht)))) (by decide) rfl ⟨Nat.le_of_ble_eq_true rfl, Nat.le_of_ble_eq_true rfl⟩ (Nat.le_of_ble_eq_true rfl) (zz_T0 rfl rfl) (fun Q' P' k h => c_X3_hashOf (13) (a1) M (zc_X2_0 (zc_X9_3 (zs_X9 ht))) h (fun r p => k r.1 r.2 p)) h (fun r4 M5 h => ?_)
      have h := zK_pr h
      refine r_iload_n dX9_where_32 rfl ?_
      refine kV_ir (as := [.int r4, .int a2]) (st := []) (k := 12) dX9_where_33 zM_X2_addressAmong zk_X9_222 (zo_X2 (zc_X9_3 (zs_X9 ht))) (by decide) rfl ⟨Nat.le_of_ble_eq_true rfl, Nat.le_of_ble_eq_true rfl⟩ (Nat.le_of_ble_eq_true rfl) (zz_T0 rfl rfl) (fun Q' P' k h => c_X2_addressAmong (12) (r4) (a2) M5 (zc_X9_3 (zs_X9 ht)) h k) h (fun r6 h => ?_)
      exact r_iret dX9_where_36 rfl rfl rfl (kR ((r6, M5)) (zK_some h))
    · have h := zK_neg h c2
      refine r_iconst (v := (-1 : Int32)) dX9_where_15 (by decide) ?_
      exact r_iret dX9_where_16 rfl rfl rfl (kR (((-1 : Int32), M)) (zK_some h))
set_option maxHeartbeats 4000000 in
set_option maxRecDepth 100000 in
theorem c_X9_where {G : zzG} {t : Nat} {Q : Option Value → zzMem → Prop} (a1 : Int32) (a2 : Int32) (M : zzMem) (ht : 180 ≤ t)  {P : (Int32 × zzMem) → Prop} (h : zK (f_X9_where a1 a2 M) P) (kR : ∀ r : (Int32 × zzMem), P r → Q (some (.int r.1)) r.2) : zz_S G m_X9_where t t [.ref 0, .int a1, .int a2] M Q :=
  zz_S_of (by decide) (by decide) (Nat.le_of_ble_eq_true rfl) (w_X9_where_0 a1 a2 M ht h kR)
noncomputable def f_X9_isBucket (a1 : Int32) (M : zzMem) : Bool :=
  (f_X9_within a1 (nI 0) ((f_X2_buckets 12 M) - (nI 1)))
set_option maxHeartbeats 4000000 in
set_option maxRecDepth 100000 in
theorem w_X9_isBucket_0 {G : zzG} {t : Nat} {Q : Option Value → zzMem → Prop} (a1 : Int32) (M : zzMem) (ht : 180 ≤ t)  {P : Bool → Prop} (h : P (f_X9_isBucket a1 M)) (kR : ∀ r : Bool, P r → Q (some (.int (zb r))) M) : zz_W G m_X9_isBucket t t t 0 [some (.ref 0), some (.int a1)] [] M Q := by
  unfold f_X9_isBucket at h
  refine r_iload_n dX9_isBucket_0 rfl ?_
  refine r_iconst (v := (nI 0)) dX9_isBucket_1 (by decide) ?_
  refine r_aload_n dX9_isBucket_2 rfl ?_
  refine r_getR (k := 0) (q := 12) dX9_isBucket_3 zf_X9_33 (zo_X9 (zs_X9 ht)) (zr_X9_3 (zs_X9 ht)).1 (zr_X9_3 (zs_X9 ht)).2.1 (zr_X9_3 (zs_X9 ht)).2.2 ?_
  refine tV_ir (v := f_X2_buckets 12 M) (as := []) (st := [.int (nI 0), .int a1]) (k := 12) dX9_isBucket_6 zM_X2_buckets zk_X9_180 (zo_X2 (zc_X9_3 (zs_X9 ht))) (by decide) rfl ⟨Nat.le_of_ble_eq_true rfl, Nat.le_of_ble_eq_true rfl⟩ (Nat.le_of_ble_eq_true rfl) (zz_T0 rfl rfl) (fun Q' h => c_X2_buckets (12) M (zc_X9_3 (zs_X9 ht)) h) ?_
  refine r_iconst (v := (nI 1)) dX9_isBucket_9 (by decide) ?_
  refine r_isub dX9_isBucket_10 ?_
  refine tS_zr (v := f_X9_within a1 (nI 0) ((f_X2_buckets 12 M) - (nI 1))) (as := [.int a1, .int (nI 0), .int ((f_X2_buckets 12 M) - (nI 1))]) (st := []) dX9_isBucket_11 zM_X9_within zk_X9_63 ⟨Nat.le_of_ble_eq_true rfl, Nat.le_of_ble_eq_true rfl⟩ (Nat.le_of_ble_eq_true rfl) (zz_T0 rfl rfl) (fun Q' h => c_X9_within (a1) ((nI 0)) (((f_X2_buckets 12 M) - (nI 1))) M h) ?_
  exact r_zret (b := (f_X9_within a1 (nI 0) ((f_X2_buckets 12 M) - (nI 1)))) dX9_isBucket_14 rfl rfl rfl (kR ((f_X9_within a1 (nI 0) ((f_X2_buckets 12 M) - (nI 1)))) h)
set_option maxHeartbeats 4000000 in
set_option maxRecDepth 100000 in
theorem c_X9_isBucket {G : zzG} {t : Nat} {Q : Option Value → zzMem → Prop} (a1 : Int32) (M : zzMem) (ht : 180 ≤ t)  (h : Q (some (.int (zb (f_X9_isBucket a1 M)))) M) : zz_S G m_X9_isBucket t t [.ref 0, .int a1] M Q :=
  zz_S_of (by decide) (by decide) (Nat.le_of_ble_eq_true rfl) (w_X9_isBucket_0 a1 M ht (P := fun r => Q (some (.int (zb r))) M) h (fun r p => p))
noncomputable def f_X9_bucket (a1 : Int32) (a2 : Int32) (M : zzMem) : Option Int32 :=
  if (f_X9_isBucket a1 M) = true then
  (if 0 ≤ a2 then
  (if a2 < (nI 1000) then
  (if a2 < (nI 100) then
  (if a2 = 0 then
  (zgd (vp_in a1 64) (
  some ((M.1 24 (a1).toNatClampNeg))))
  else (if a2 = (nI 1) then
  (zgd (vp_in a1 64) (
  some ((M.1 25 (a1).toNatClampNeg))))
  else (some ((-1 : Int32)))))
  else ((f_X0_pageAt 16 a1 (a2 - (nI 100)) M).bind (fun r9 =>
  if r9 = (-1 : Int32) then
  (some ((-4 : Int32)))
  else (some r9))))
  else ((f_X0_keyAt 16 a1 (a2 - (nI 1000)) M).bind (fun r11 =>
  some r11)))
  else (some ((-1 : Int32))))
  else (some ((-1 : Int32)))
set_option maxHeartbeats 4000000 in
set_option maxRecDepth 100000 in
theorem w_X9_bucket_0 {G : zzG} {t : Nat} {Q : Option Value → zzMem → Prop} (a1 : Int32) (a2 : Int32) (M : zzMem) (ht : 180 ≤ t)  {P : Int32 → Prop} (h : zK (f_X9_bucket a1 a2 M) P) (kR : ∀ r : Int32, P r → Q (some (.int r)) M) : zz_W G m_X9_bucket t t t 0 [some (.ref 0), some (.int a1), some (.int a2), none, none] [] M Q := by
  unfold f_X9_bucket at h
  refine r_aload_n dX9_bucket_0 rfl ?_
  refine r_iload_n dX9_bucket_1 rfl ?_
  refine tV_zr (v := f_X9_isBucket a1 M) (as := [.int a1]) (st := []) (k := 0) dX9_bucket_2 zM_X9_isBucket zk_X9_228 (zo_X9 (zs_X9 ht)) (by decide) rfl ⟨Nat.le_of_ble_eq_true rfl, Nat.le_of_ble_eq_true rfl⟩ (Nat.le_of_ble_eq_true rfl) (zz_T0 rfl rfl) (fun Q' h => c_X9_isBucket (a1) M ht h) ?_
  refine r_ifZ_eq 12 dX9_bucket_5 (by decide) (fun c1 => ?_) (fun c1 => ?_)
  · have h := zK_neg h c1
    refine r_iconst (v := (-1 : Int32)) dX9_bucket_12 (by decide) ?_
    exact r_iret dX9_bucket_13 rfl rfl rfl (kR ((-1 : Int32)) (zK_some h))
  · have h := zK_pos h c1
    refine r_iload_n dX9_bucket_8 rfl ?_
    refine r_if_ge 14 dX9_bucket_9 (by decide) (fun c2 => ?_) (fun c2 => ?_)
    · have h := zK_pos h c2
      refine r_aload_n dX9_bucket_14 rfl ?_
      refine r_getR (k := 0) (q := 12) dX9_bucket_15 zf_X9_33 (zo_X9 (zs_X9 ht)) (zr_X9_3 (zs_X9 ht)).1 (zr_X9_3 (zs_X9 ht)).2.1 (zr_X9_3 (zs_X9 ht)).2.2 ?_
      refine r_getR (k := 12) (q := 16) dX9_bucket_18 zf_X9_156 (zo_X2 (zc_X9_3 (zs_X9 ht))) (zr_X2_1 (zc_X9_3 (zs_X9 ht))).1 (zr_X2_1 (zc_X9_3 (zs_X9 ht))).2.1 (zr_X2_1 (zc_X9_3 (zs_X9 ht))).2.2 ?_
      refine s_astore_n ([some (.ref 0), some (.int a1), some (.int a2), some (.ref 16), none]) dX9_bucket_21 (by decide) rfl rfl ?_
      refine r_iload_n dX9_bucket_22 rfl ?_
      refine r_sipush (v := (nI 1000)) dX9_bucket_23 (by decide) ?_
      refine r_icmp_lt 40 dX9_bucket_26 (by decide) (fun c3 => ?_) (fun c3 => ?_)
      · have h := zK_pos h c3
        refine r_iload_n dX9_bucket_40 rfl ?_
        refine r_bipush (v := (nI 100)) dX9_bucket_41 (by decide) ?_
        refine r_icmp_lt 71 dX9_bucket_43 (by decide) (fun c4 => ?_) (fun c4 => ?_)
        · have h := zK_pos h c4
          refine r_iload_n dX9_bucket_71 rfl ?_
          refine r_if_ne 82 dX9_bucket_72 (by decide) (fun c5 => ?_) (fun c5 => ?_)
          · have h := zK_neg h c5
            refine r_iload_n dX9_bucket_82 rfl ?_
            refine r_iconst (v := (nI 1)) dX9_bucket_83 (by decide) ?_
            refine r_icmp_ne 96 dX9_bucket_84 (by decide) (fun c6 => ?_) (fun c6 => ?_)
            · have h := zK_neg h c6
              refine r_iconst (v := (-1 : Int32)) dX9_bucket_96 (by decide) ?_
              exact r_iret dX9_bucket_97 rfl rfl rfl (kR ((-1 : Int32)) (zK_some h))
            · have h := zK_pos h c6
              refine r_aload_n dX9_bucket_87 rfl ?_
              refine r_getR (k := 16) (q := 25) dX9_bucket_88 zf_X9_240 (zo_X0 (zc_X2_1 (zc_X9_3 (zs_X9 ht)))) (zr_X0_8 (zc_X2_1 (zc_X9_3 (zs_X9 ht)))).1 (zr_X0_8 (zc_X2_1 (zc_X9_3 (zs_X9 ht)))).2.1 (zr_X0_8 (zc_X2_1 (zc_X9_3 (zs_X9 ht)))).2.2 ?_
              refine r_iload_n dX9_bucket_91 rfl ?_
              obtain ⟨g7, h⟩ := zK_gd h
              refine r_iald dX9_bucket_92 (za_X0_8 (zc_X2_1 (zc_X9_3 (zs_X9 ht)))) g7 ?_
              refine r_goto 97 dX9_bucket_93 (by decide) ?_
              exact r_iret dX9_bucket_97 rfl rfl rfl (kR ((M.1 25 (a1).toNatClampNeg)) (zK_some h))
          · have h := zK_pos h c5
            refine r_aload_n dX9_bucket_75 rfl ?_
            refine r_getR (k := 16) (q := 24) dX9_bucket_76 zf_X9_237 (zo_X0 (zc_X2_1 (zc_X9_3 (zs_X9 ht)))) (zr_X0_7 (zc_X2_1 (zc_X9_3 (zs_X9 ht)))).1 (zr_X0_7 (zc_X2_1 (zc_X9_3 (zs_X9 ht)))).2.1 (zr_X0_7 (zc_X2_1 (zc_X9_3 (zs_X9 ht)))).2.2 ?_
            refine r_iload_n dX9_bucket_79 rfl ?_
            obtain ⟨g8, h⟩ := zK_gd h
            refine r_iald dX9_bucket_80 (za_X0_7 (zc_X2_1 (zc_X9_3 (zs_X9 ht)))) g8 ?_
            exact r_iret dX9_bucket_81 rfl rfl rfl (kR ((M.1 24 (a1).toNatClampNeg)) (zK_some h))
        · have h := zK_neg h c4
          refine r_aload_n dX9_bucket_46 rfl ?_
          refine r_iload_n dX9_bucket_47 rfl ?_
          refine r_iload_n dX9_bucket_48 rfl ?_
          refine r_bipush (v := (nI 100)) dX9_bucket_49 (by decide) ?_
          refine r_isub dX9_bucket_51 ?_
          refine kV_ir (as := [.int a1, .int (a2 - (nI 100))]) (st := []) (k := 16) dX9_bucket_52 zM_X0_pageAt zk_X9_234 (zo_X0 (zc_X2_1 (zc_X9_3 (zs_X9 ht)))) (by decide) rfl ⟨Nat.le_of_ble_eq_true rfl, Nat.le_of_ble_eq_true rfl⟩ (Nat.le_of_ble_eq_true rfl) (zz_T0 rfl rfl) (fun Q' P' k h => c_X0_pageAt (16) (a1) ((a2 - (nI 100))) M (zc_X2_1 (zc_X9_3 (zs_X9 ht))) h k) h (fun r9 h => ?_)
          refine s_istore ([some (.ref 0), some (.int a1), some (.int a2), some (.ref 16), some (.int r9)]) dX9_bucket_55 (by decide) rfl rfl ?_
          refine r_iload dX9_bucket_57 rfl ?_
          refine r_iconst (v := (-1 : Int32)) dX9_bucket_59 (by decide) ?_
          refine r_icmp_ne 68 dX9_bucket_60 (by decide) (fun c10 => ?_) (fun c10 => ?_)
          · have h := zK_neg h c10
            refine r_iload dX9_bucket_68 rfl ?_
            exact r_iret dX9_bucket_70 rfl rfl rfl (kR (r9) (zK_some h))
          · have h := zK_pos h c10
            refine r_bipush (v := (-4 : Int32)) dX9_bucket_63 (by decide) ?_
            refine r_goto 70 dX9_bucket_65 (by decide) ?_
            exact r_iret dX9_bucket_70 rfl rfl rfl (kR ((-4 : Int32)) (zK_some h))
      · have h := zK_neg h c3
        refine r_aload_n dX9_bucket_29 rfl ?_
        refine r_iload_n dX9_bucket_30 rfl ?_
        refine r_iload_n dX9_bucket_31 rfl ?_
        refine r_sipush (v := (nI 1000)) dX9_bucket_32 (by decide) ?_
        refine r_isub dX9_bucket_35 ?_
        refine kV_ir (as := [.int a1, .int (a2 - (nI 1000))]) (st := []) (k := 16) dX9_bucket_36 zM_X0_keyAt zk_X9_231 (zo_X0 (zc_X2_1 (zc_X9_3 (zs_X9 ht)))) (by decide) rfl ⟨Nat.le_of_ble_eq_true rfl, Nat.le_of_ble_eq_true rfl⟩ (Nat.le_of_ble_eq_true rfl) (zz_T0 rfl rfl) (fun Q' P' k h => c_X0_keyAt (16) (a1) ((a2 - (nI 1000))) M (zc_X2_1 (zc_X9_3 (zs_X9 ht))) h k) h (fun r11 h => ?_)
        exact r_iret dX9_bucket_39 rfl rfl rfl (kR (r11) (zK_some h))
    · have h := zK_neg h c2
      refine r_iconst (v := (-1 : Int32)) dX9_bucket_12 (by decide) ?_
      exact r_iret dX9_bucket_13 rfl rfl rfl (kR ((-1 : Int32)) (zK_some h))
set_option maxHeartbeats 4000000 in
set_option maxRecDepth 100000 in
theorem c_X9_bucket {G : zzG} {t : Nat} {Q : Option Value → zzMem → Prop} (a1 : Int32) (a2 : Int32) (M : zzMem) (ht : 180 ≤ t)  {P : Int32 → Prop} (h : zK (f_X9_bucket a1 a2 M) P) (kR : ∀ r : Int32, P r → Q (some (.int r)) M) : zz_S G m_X9_bucket t t [.ref 0, .int a1, .int a2] M Q :=
  zz_S_of (by decide) (by decide) (Nat.le_of_ble_eq_true rfl) (w_X9_bucket_0 a1 a2 M ht h kR)
noncomputable def j_X9_page_35 (v1 : Int32) (v2 : Int32) (w3 : Bool) (M : zzMem) : Option Int32 :=
  zgd (vp_in v1 256) (
  if (M.1 17 (v1).toNatClampNeg) = (-1 : Int32) then
  (some ((-2 : Int32)))
  else (if w3 = true then
  (zbd ((v2 - (nI 10))) (fun x6 =>
  if (M.1 19 (v1).toNatClampNeg) ≤ x6 then
  (some ((-4 : Int32)))
  else (zgd (vp_in ((v1 * (nI 6)) + x6) 1536) (
  some ((f_X1_keyOf (M.2 21 (((v1 * (nI 6)) + x6)).toNatClampNeg)))))))
  else (if v2 = 0 then
  (some ((M.1 17 (v1).toNatClampNeg)))
  else (if v2 = (nI 1) then
  (some ((M.1 18 (v1).toNatClampNeg)))
  else (some ((M.1 19 (v1).toNatClampNeg)))))))
set_option maxHeartbeats 4000000 in
set_option maxRecDepth 100000 in
theorem w_X9_page_35 {G : zzG} {t : Nat} {Q : Option Value → zzMem → Prop} (v1 : Int32) (v2 : Int32) (w3 : Bool) (M : zzMem) (ht : 180 ≤ t)  {P : Int32 → Prop} (h : zK (j_X9_page_35 v1 v2 w3 M) P) (kR : ∀ r : Int32, P r → Q (some (.int r)) M) : zz_W G m_X9_page t t t 35 [some (.ref 0), some (.int v1), some (.int v2), some (.int (zb w3)), none, none] [] M Q := by
  unfold j_X9_page_35 at h
  refine r_aload_n dX9_page_35 rfl ?_
  refine r_getR (k := 0) (q := 12) dX9_page_36 zf_X9_33 (zo_X9 (zs_X9 ht)) (zr_X9_3 (zs_X9 ht)).1 (zr_X9_3 (zs_X9 ht)).2.1 (zr_X9_3 (zs_X9 ht)).2.2 ?_
  refine r_getR (k := 12) (q := 16) dX9_page_39 zf_X9_156 (zo_X2 (zc_X9_3 (zs_X9 ht))) (zr_X2_1 (zc_X9_3 (zs_X9 ht))).1 (zr_X2_1 (zc_X9_3 (zs_X9 ht))).2.1 (zr_X2_1 (zc_X9_3 (zs_X9 ht))).2.2 ?_
  refine s_astore ([some (.ref 0), some (.int v1), some (.int v2), some (.int (zb w3)), some (.ref 16), none]) dX9_page_42 (by decide) rfl rfl ?_
  refine r_aload dX9_page_44 rfl ?_
  refine r_getR (k := 16) (q := 17) dX9_page_46 zf_X9_243 (zo_X0 (zc_X2_1 (zc_X9_3 (zs_X9 ht)))) (zr_X0_0 (zc_X2_1 (zc_X9_3 (zs_X9 ht)))).1 (zr_X0_0 (zc_X2_1 (zc_X9_3 (zs_X9 ht)))).2.1 (zr_X0_0 (zc_X2_1 (zc_X9_3 (zs_X9 ht)))).2.2 ?_
  refine r_iload_n dX9_page_49 rfl ?_
  obtain ⟨g1, h⟩ := zK_gd h
  refine r_iald dX9_page_50 (za_X0_0 (zc_X2_1 (zc_X9_3 (zs_X9 ht)))) g1 ?_
  refine r_iconst (v := (-1 : Int32)) dX9_page_51 (by decide) ?_
  refine r_icmp_ne 58 dX9_page_52 (by decide) (fun c2 => ?_) (fun c2 => ?_)
  · have h := zK_neg h c2
    refine r_iload_n dX9_page_58 rfl ?_
    refine r_ifZ_eq 102 dX9_page_59 (by decide) (fun c3 => ?_) (fun c3 => ?_)
    · have h := zK_neg h c3
      refine r_iload_n dX9_page_102 rfl ?_
      refine r_if_ne 114 dX9_page_103 (by decide) (fun c4 => ?_) (fun c4 => ?_)
      · have h := zK_neg h c4
        refine r_iload_n dX9_page_114 rfl ?_
        refine r_iconst (v := (nI 1)) dX9_page_115 (by decide) ?_
        refine r_icmp_ne 129 dX9_page_116 (by decide) (fun c5 => ?_) (fun c5 => ?_)
        · have h := zK_neg h c5
          refine r_aload dX9_page_129 rfl ?_
          refine r_getR (k := 16) (q := 19) dX9_page_131 zf_X9_246 (zo_X0 (zc_X2_1 (zc_X9_3 (zs_X9 ht)))) (zr_X0_2 (zc_X2_1 (zc_X9_3 (zs_X9 ht)))).1 (zr_X0_2 (zc_X2_1 (zc_X9_3 (zs_X9 ht)))).2.1 (zr_X0_2 (zc_X2_1 (zc_X9_3 (zs_X9 ht)))).2.2 ?_
          refine r_iload_n dX9_page_134 rfl ?_
          refine r_iald dX9_page_135 (za_X0_2 (zc_X2_1 (zc_X9_3 (zs_X9 ht)))) g1 ?_
          exact r_iret dX9_page_136 rfl rfl rfl (kR ((M.1 19 (v1).toNatClampNeg)) (zK_some h))
        · have h := zK_pos h c5
          refine r_aload dX9_page_119 rfl ?_
          refine r_getR (k := 16) (q := 18) dX9_page_121 zf_X9_259 (zo_X0 (zc_X2_1 (zc_X9_3 (zs_X9 ht)))) (zr_X0_1 (zc_X2_1 (zc_X9_3 (zs_X9 ht)))).1 (zr_X0_1 (zc_X2_1 (zc_X9_3 (zs_X9 ht)))).2.1 (zr_X0_1 (zc_X2_1 (zc_X9_3 (zs_X9 ht)))).2.2 ?_
          refine r_iload_n dX9_page_124 rfl ?_
          refine r_iald dX9_page_125 (za_X0_1 (zc_X2_1 (zc_X9_3 (zs_X9 ht)))) g1 ?_
          refine r_goto 136 dX9_page_126 (by decide) ?_
          exact r_iret dX9_page_136 rfl rfl rfl (kR ((M.1 18 (v1).toNatClampNeg)) (zK_some h))
      · have h := zK_pos h c4
        refine r_aload dX9_page_106 rfl ?_
        refine r_getR (k := 16) (q := 17) dX9_page_108 zf_X9_243 (zo_X0 (zc_X2_1 (zc_X9_3 (zs_X9 ht)))) (zr_X0_0 (zc_X2_1 (zc_X9_3 (zs_X9 ht)))).1 (zr_X0_0 (zc_X2_1 (zc_X9_3 (zs_X9 ht)))).2.1 (zr_X0_0 (zc_X2_1 (zc_X9_3 (zs_X9 ht)))).2.2 ?_
        refine r_iload_n dX9_page_111 rfl ?_
        refine r_iald dX9_page_112 (za_X0_0 (zc_X2_1 (zc_X9_3 (zs_X9 ht)))) g1 ?_
        exact r_iret dX9_page_113 rfl rfl rfl (kR ((M.1 17 (v1).toNatClampNeg)) (zK_some h))
    · have h := zK_pos h c3
      refine r_iload_n dX9_page_62 rfl ?_
      refine r_bipush (v := (nI 10)) dX9_page_63 (by decide) ?_
      refine r_isub dX9_page_65 ?_
      refine r_istore (fun x6 => [some (.ref 0), some (.int v1), some (.int v2), some (.int (zb w3)), some (.ref 16), some (.int x6)]) dX9_page_66 (by decide) rfl (fun _ => rfl) (fun x6 ex6 => ?_)
      have h := zK_bd h ex6
      refine r_iload dX9_page_68 rfl ?_
      refine r_aload dX9_page_70 rfl ?_
      refine r_getR (k := 16) (q := 19) dX9_page_72 zf_X9_246 (zo_X0 (zc_X2_1 (zc_X9_3 (zs_X9 ht)))) (zr_X0_2 (zc_X2_1 (zc_X9_3 (zs_X9 ht)))).1 (zr_X0_2 (zc_X2_1 (zc_X9_3 (zs_X9 ht)))).2.1 (zr_X0_2 (zc_X2_1 (zc_X9_3 (zs_X9 ht)))).2.2 ?_
      refine r_iload_n dX9_page_75 rfl ?_
      refine r_iald dX9_page_76 (za_X0_2 (zc_X2_1 (zc_X9_3 (zs_X9 ht)))) g1 ?_
      refine r_icmp_ge 99 dX9_page_77 (by decide) (fun c7 => ?_) (fun c7 => ?_)
      · have h := zK_pos h c7
        refine r_bipush (v := (-4 : Int32)) dX9_page_99 (by decide) ?_
        exact r_iret dX9_page_101 rfl rfl rfl (kR ((-4 : Int32)) (zK_some h))
      · have h := zK_neg h c7
        refine r_aload dX9_page_80 rfl ?_
        refine r_getR (k := 16) (q := 21) dX9_page_82 zf_X9_249 (zo_X0 (zc_X2_1 (zc_X9_3 (zs_X9 ht)))) (zr_X0_4 (zc_X2_1 (zc_X9_3 (zs_X9 ht)))).1 (zr_X0_4 (zc_X2_1 (zc_X9_3 (zs_X9 ht)))).2.1 (zr_X0_4 (zc_X2_1 (zc_X9_3 (zs_X9 ht)))).2.2 ?_
        refine r_iload_n dX9_page_85 rfl ?_
        refine r_bipush (v := (nI 6)) dX9_page_86 (by decide) ?_
        refine r_imul dX9_page_88 ?_
        refine r_iload dX9_page_89 rfl ?_
        refine r_iadd dX9_page_91 ?_
        obtain ⟨g8, h⟩ := zK_gd h
        refine r_lald dX9_page_92 (za_X0_4 (zc_X2_1 (zc_X9_3 (zs_X9 ht)))) g8 ?_
        refine tS_ir (v := f_X1_keyOf (M.2 21 (((v1 * (nI 6)) + x6)).toNatClampNeg)) (as := [.long (M.2 21 (((v1 * (nI 6)) + x6)).toNatClampNeg)]) (st := []) dX9_page_93 zM_X1_keyOf zk_X9_253 ⟨Nat.le_of_ble_eq_true rfl, Nat.le_of_ble_eq_true rfl⟩ (Nat.le_of_ble_eq_true rfl) (zz_T0 rfl rfl) (fun Q' h => c_X1_keyOf ((M.2 21 (((v1 * (nI 6)) + x6)).toNatClampNeg)) M h) ?_
        refine r_goto 101 dX9_page_96 (by decide) ?_
        exact r_iret dX9_page_101 rfl rfl rfl (kR ((f_X1_keyOf (M.2 21 (((v1 * (nI 6)) + x6)).toNatClampNeg))) (zK_some h))
  · have h := zK_pos h c2
    refine r_bipush (v := (-2 : Int32)) dX9_page_55 (by decide) ?_
    exact r_iret dX9_page_57 rfl rfl rfl (kR ((-2 : Int32)) (zK_some h))
noncomputable def f_X9_page (a1 : Int32) (a2 : Int32) (M : zzMem) : Option Int32 :=
  if (f_X9_within a1 (nI 0) (nI 255)) = true then
  (if (f_X9_within a2 (nI 0) (nI 2)) = true then
  (j_X9_page_35 a1 a2 (f_X9_within a2 (nI 10) (nI 15)) M)
  else (if (f_X9_within a2 (nI 10) (nI 15)) = true then
  (j_X9_page_35 a1 a2 (f_X9_within a2 (nI 10) (nI 15)) M)
  else (some ((-1 : Int32)))))
  else (some ((-1 : Int32)))
set_option maxHeartbeats 4000000 in
set_option maxRecDepth 100000 in
theorem w_X9_page_0 {G : zzG} {t : Nat} {Q : Option Value → zzMem → Prop} (a1 : Int32) (a2 : Int32) (M : zzMem) (ht : 180 ≤ t)  {P : Int32 → Prop} (h : zK (f_X9_page a1 a2 M) P) (kR : ∀ r : Int32, P r → Q (some (.int r)) M) : zz_W G m_X9_page t t t 0 [some (.ref 0), some (.int a1), some (.int a2), none, none, none] [] M Q := by
  unfold f_X9_page at h
  refine r_iload_n dX9_page_0 rfl ?_
  refine r_bipush (v := (nI 10)) dX9_page_1 (by decide) ?_
  refine r_bipush (v := (nI 15)) dX9_page_3 (by decide) ?_
  refine tS_zr (v := f_X9_within a2 (nI 10) (nI 15)) (as := [.int a2, .int (nI 10), .int (nI 15)]) (st := []) dX9_page_5 zM_X9_within zk_X9_63 ⟨Nat.le_of_ble_eq_true rfl, Nat.le_of_ble_eq_true rfl⟩ (Nat.le_of_ble_eq_true rfl) (zz_T0 rfl rfl) (fun Q' h => c_X9_within (a2) ((nI 10)) ((nI 15)) M h) ?_
  refine s_istore_n ([some (.ref 0), some (.int a1), some (.int a2), some (.int (zb (f_X9_within a2 (nI 10) (nI 15)))), none, none]) dX9_page_8 (by decide) rfl rfl ?_
  refine r_iload_n dX9_page_9 rfl ?_
  refine r_iconst (v := (nI 0)) dX9_page_10 (by decide) ?_
  refine r_sipush (v := (nI 255)) dX9_page_11 (by decide) ?_
  refine tS_zr (v := f_X9_within a1 (nI 0) (nI 255)) (as := [.int a1, .int (nI 0), .int (nI 255)]) (st := []) dX9_page_14 zM_X9_within zk_X9_63 ⟨Nat.le_of_ble_eq_true rfl, Nat.le_of_ble_eq_true rfl⟩ (Nat.le_of_ble_eq_true rfl) (zz_T0 rfl rfl) (fun Q' h => c_X9_within (a1) ((nI 0)) ((nI 255)) M h) ?_
  refine r_ifZ_eq 33 dX9_page_17 (by decide) (fun c1 => ?_) (fun c1 => ?_)
  · have h := zK_neg h c1
    refine r_iconst (v := (-1 : Int32)) dX9_page_33 (by decide) ?_
    exact r_iret dX9_page_34 rfl rfl rfl (kR ((-1 : Int32)) (zK_some h))
  · have h := zK_pos h c1
    refine r_iload_n dX9_page_20 rfl ?_
    refine r_iconst (v := (nI 0)) dX9_page_21 (by decide) ?_
    refine r_iconst (v := (nI 2)) dX9_page_22 (by decide) ?_
    refine tS_zr (v := f_X9_within a2 (nI 0) (nI 2)) (as := [.int a2, .int (nI 0), .int (nI 2)]) (st := []) dX9_page_23 zM_X9_within zk_X9_63 ⟨Nat.le_of_ble_eq_true rfl, Nat.le_of_ble_eq_true rfl⟩ (Nat.le_of_ble_eq_true rfl) (zz_T0 rfl rfl) (fun Q' h => c_X9_within (a2) ((nI 0)) ((nI 2)) M h) ?_
    refine r_ifZ_ne 35 dX9_page_26 (by decide) (fun c2 => ?_) (fun c2 => ?_)
    · have h := zK_pos h c2
      exact w_X9_page_35 (a1) (a2) ((f_X9_within a2 (nI 10) (nI 15))) M ht h kR
    · have h := zK_neg h c2
      refine r_iload_n dX9_page_29 rfl ?_
      refine r_ifZ_ne 35 dX9_page_30 (by decide) (fun c3 => ?_) (fun c3 => ?_)
      · have h := zK_pos h c3
        exact w_X9_page_35 (a1) (a2) ((f_X9_within a2 (nI 10) (nI 15))) M ht h kR
      · have h := zK_neg h c3
        refine r_iconst (v := (-1 : Int32)) dX9_page_33 (by decide) ?_
        exact r_iret dX9_page_34 rfl rfl rfl (kR ((-1 : Int32)) (zK_some h))
set_option maxHeartbeats 4000000 in
set_option maxRecDepth 100000 in
theorem c_X9_page {G : zzG} {t : Nat} {Q : Option Value → zzMem → Prop} (a1 : Int32) (a2 : Int32) (M : zzMem) (ht : 180 ≤ t)  {P : Int32 → Prop} (h : zK (f_X9_page a1 a2 M) P) (kR : ∀ r : Int32, P r → Q (some (.int r)) M) : zz_S G m_X9_page t t [.ref 0, .int a1, .int a2] M Q :=
  zz_S_of (by decide) (by decide) (Nat.le_of_ble_eq_true rfl) (w_X9_page_0 a1 a2 M ht h kR)
