noncomputable def b_X10_law_80 (v3 : Int32) (M : zzMem) : Option ((Int32 × zzMem) ⊕ (Int32 × zzMem)) :=
  if (M.1 73 11) ≤ v3 then
  (some ((.inr ((M.1 74 7), M))))
  else (zgd (vp_in v3 140) (
  zgd (vp_in ((nI 1752) + v3) 5676) (
  zbd (zz_si M 74 (((nI 1752) + v3)).toNatClampNeg (M.1 76 (v3).toNatClampNeg)) (fun M4 =>
  zbd (v3 + (nI 1)) (fun x5 =>
  some (.inl (x5, M4)))))))
set_option maxHeartbeats 4000000 in
set_option maxRecDepth 100000 in
theorem x_X10_law_80 {G : zzG} {t : Nat} {Q : Option Value → zzMem → Prop} (v3 : Int32) (M : zzMem) (ht : 180 ≤ t)  {P : ((Int32 × zzMem) ⊕ (Int32 × zzMem)) → Prop} (h : zK (b_X10_law_80 v3 M) P) (k80 : ∀ s : (Int32 × zzMem), P (.inl s) → zz_W G m_X10_law t t t 80 [some (.ref 73), none, none, some (.int s.1)] [] s.2 Q) (kR : ∀ r : (Int32 × zzMem), P (.inr r) → Q (some (.int r.1)) r.2) : zz_W G m_X10_law t t t 80 [some (.ref 73), none, none, some (.int v3)] [] M Q := by
  unfold b_X10_law_80 at h
  refine r_iload_n dX10_law_80 rfl ?_
  refine r_aload_n dX10_law_81 rfl ?_
  refine r_getI (k := 73) dX10_law_82 zf_X10_103 (zo_X10 (zs_X10 ht)) (zi_X10_11 (zs_X10 ht)) ?_
  refine r_icmp_ge 110 dX10_law_85 (by decide) (fun c1 => ?_) (fun c1 => ?_)
  · have h := zK_pos h c1
    refine r_aload_n dX10_law_110 rfl ?_
    refine r_getR (k := 73) (q := 74) dX10_law_111 zf_X10_7 (zo_X10 (zs_X10 ht)) (zr_X10_0 (zs_X10 ht)).1 (zr_X10_0 (zs_X10 ht)).2.1 (zr_X10_0 (zs_X10 ht)).2.2 ?_
    refine r_bipush (v := (nI 7)) dX10_law_114 (by decide) ?_
    refine r_ialdc (j := 7) dX10_law_116 (za_X10_0 (zs_X10 ht)) rfl rfl ?_
    exact r_iret dX10_law_117 rfl rfl rfl (kR (((M.1 74 7), M)) (zK_some h))
  · have h := zK_neg h c1
    refine r_aload_n dX10_law_88 rfl ?_
    refine r_getR (k := 73) (q := 74) dX10_law_89 zf_X10_7 (zo_X10 (zs_X10 ht)) (zr_X10_0 (zs_X10 ht)).1 (zr_X10_0 (zs_X10 ht)).2.1 (zr_X10_0 (zs_X10 ht)).2.2 ?_
    refine r_sipush (v := (nI 1752)) dX10_law_92 (by decide) ?_
    refine r_iload_n dX10_law_95 rfl ?_
    refine r_iadd dX10_law_96 ?_
    refine r_aload_n dX10_law_97 rfl ?_
    refine r_getR (k := 73) (q := 76) dX10_law_98 zf_X10_17 (zo_X10 (zs_X10 ht)) (zr_X10_3 (zs_X10 ht)).1 (zr_X10_3 (zs_X10 ht)).2.1 (zr_X10_3 (zs_X10 ht)).2.2 ?_
    refine r_iload_n dX10_law_101 rfl ?_
    obtain ⟨g2, h⟩ := zK_gd h
    refine r_iald dX10_law_102 (za_X10_3 (zs_X10 ht)) g2 ?_
    obtain ⟨g3, h⟩ := zK_gd h
    refine r_iast dX10_law_103 (za_X10_0 (zs_X10 ht)) g3 (fun M4 eM4 => ?_)
    have h := zK_bd h eM4
    refine r_iinc (nI 1) (fun x5 => [some (.ref 73), none, none, some (.int x5)]) dX10_law_104 rfl (by decide) (by decide) rfl (fun _ => rfl) (fun x5 ex5 => ?_)
    have h := zK_bd h ex5
    refine r_goto 80 dX10_law_107 (by decide) ?_
    exact k80 ((x5, M4)) (zK_some h)
noncomputable def j_X10_law_80 (v3 : Int32) (M : zzMem) : Option (Int32 × zzMem) :=
  zlp (fun s : (Int32 × zzMem) => b_X10_law_80 s.1 s.2) (v3, M)
set_option maxHeartbeats 4000000 in
set_option maxRecDepth 100000 in
theorem w_X10_law_80 {G : zzG} {t : Nat} {Q : Option Value → zzMem → Prop} (v3 : Int32) (M : zzMem) (ht : 180 ≤ t)  {P : (Int32 × zzMem) → Prop} (h : zK (j_X10_law_80 v3 M) P) (kR : ∀ r : (Int32 × zzMem), P r → Q (some (.int r.1)) r.2) : zz_W G m_X10_law t t t 80 [some (.ref 73), none, none, some (.int v3)] [] M Q := by
  unfold j_X10_law_80 at h
  exact zK_lp h (fun s : (Int32 × zzMem) => zz_W G m_X10_law t t t 80 [some (.ref 73), none, none, some (.int s.1)] [] s.2 Q) (fun s h => x_X10_law_80 s.1 s.2 ht h (fun s p => p) kR)
noncomputable def f_X10_law (a1 : Int32) (M : zzMem) : Option (Int32 × zzMem) :=
  if (f_X10_in a1 (nI 1) (nI 60)) = true then
  (if a1 ≤ (M.1 73 6) then
  (if (M.1 74 7) ≤ 0 then
  (zbd (zz_si M 73 7 (nI 0)) (fun M4 =>
  zbd (zz_si M4 73 8 a1) (fun M5 =>
  (f_X10_readsLaw M5).bind (fun q6 => zpr q6 (fun r7 M8 =>
  zbd (zz_si M8 73 6 (nI 0)) (fun M9 =>
  if r7 = true then
  (zbd (zz_si M9 74 23 (M9.1 73 11)) (fun M11 =>
  j_X10_law_80 (nI 0) M11))
  else (some (((M9.1 73 9), M9)))))))))
  else (zbd (zz_si M 73 6 (nI 0)) (fun M12 =>
  some (((-3 : Int32), M12)))))
  else (some (((-1 : Int32), M))))
  else (some (((-1 : Int32), M)))
set_option maxHeartbeats 4000000 in
set_option maxRecDepth 100000 in
theorem w_X10_law_0 {G : zzG} {t : Nat} {Q : Option Value → zzMem → Prop} (a1 : Int32) (M : zzMem) (ht : 180 ≤ t)  {P : (Int32 × zzMem) → Prop} (h : zK (f_X10_law a1 M) P) (kR : ∀ r : (Int32 × zzMem), P r → Q (some (.int r.1)) r.2) : zz_W G m_X10_law t t t 0 [some (.ref 73), some (.int a1), none, none] [] M Q := by
  unfold f_X10_law at h
  refine r_iload_n dX10_law_0 rfl ?_
  refine r_iconst (v := (nI 1)) dX10_law_1 (by decide) ?_
  refine r_bipush (v := (nI 60)) dX10_law_2 (by decide) ?_
  refine tS_zr (v := f_X10_in a1 (nI 1) (nI 60)) (as := [.int a1, .int (nI 1), .int (nI 60)]) (st := []) dX10_law_4 zM_X10_in zk_X10_67 ⟨Nat.le_of_ble_eq_true rfl, Nat.le_of_ble_eq_true rfl⟩ (Nat.le_of_ble_eq_true rfl) (zz_T0 rfl rfl) (fun Q' h => c_X10_in (a1) ((nI 1)) ((nI 60)) M h) ?_
  refine r_ifZ_eq 18 dX10_law_7 (by decide) (fun c1 => ?_) (fun c1 => ?_)
  · have h := zK_neg h c1
    refine r_iconst (v := (-1 : Int32)) dX10_law_18 (by decide) ?_
    exact r_iret dX10_law_19 rfl rfl rfl (kR (((-1 : Int32), M)) (zK_some h))
  · have h := zK_pos h c1
    refine r_iload_n dX10_law_10 rfl ?_
    refine r_aload_n dX10_law_11 rfl ?_
    refine r_getI (k := 73) dX10_law_12 zf_X10_71 (zo_X10 (zs_X10 ht)) (zi_X10_6 (zs_X10 ht)) ?_
    refine r_icmp_le 20 dX10_law_15 (by decide) (fun c2 => ?_) (fun c2 => ?_)
    · have h := zK_pos h c2
      refine r_aload_n dX10_law_20 rfl ?_
      refine r_getR (k := 73) (q := 74) dX10_law_21 zf_X10_7 (zo_X10 (zs_X10 ht)) (zr_X10_0 (zs_X10 ht)).1 (zr_X10_0 (zs_X10 ht)).2.1 (zr_X10_0 (zs_X10 ht)).2.2 ?_
      refine r_bipush (v := (nI 7)) dX10_law_24 (by decide) ?_
      refine r_ialdc (j := 7) dX10_law_26 (za_X10_0 (zs_X10 ht)) rfl rfl ?_
      refine r_if_le 38 dX10_law_27 (by decide) (fun c3 => ?_) (fun c3 => ?_)
      · have h := zK_pos h c3
        refine r_aload_n dX10_law_38 rfl ?_
        refine r_iconst (v := (nI 0)) dX10_law_39 (by decide) ?_
        refine r_putI (k := 73) dX10_law_40 zp_X10_79 (zo_X10 (zs_X10 ht)) (zi_X10_7 (zs_X10 ht)) rfl rfl (fun M4 eM4 => ?_)
        have h := zK_bd h eM4
        refine r_aload_n dX10_law_43 rfl ?_
        refine r_iload_n dX10_law_44 rfl ?_
        refine r_putI (k := 73) dX10_law_45 zp_X10_82 (zo_X10 (zs_X10 ht)) (zi_X10_8 (zs_X10 ht)) rfl rfl (fun M5 eM5 => ?_)
        have h := zK_bd h eM5
        refine r_aload_n dX10_law_48 rfl ?_
        refine kV_zw (as := []) (st := []) (k := 73) dX10_law_49 zM_X10_readsLaw zk_X10_146 (zo_X10 (zs_X10 ht)) (by decide) rfl ⟨Nat.le_of_ble_eq_true rfl, Nat.le_of_ble_eq_true rfl⟩ (Nat.le_of_ble_eq_true rfl) (zz_T0 rfl rfl) (fun Q' P' k h => c_X10_readsLaw M5 ht h (fun r p => k r.1 r.2 p)) h (fun r7 M8 h => ?_)
        have h := zK_pr h
        refine s_istore_n ([some (.ref 73), some (.int a1), some (.int (zb r7)), none]) dX10_law_52 (by decide) rfl rfl ?_
        refine r_aload_n dX10_law_53 rfl ?_
        refine r_iconst (v := (nI 0)) dX10_law_54 (by decide) ?_
        refine r_putI (k := 73) dX10_law_55 zp_X10_71 (zo_X10 (zs_X10 ht)) (zi_X10_6 (zs_X10 ht)) rfl rfl (fun M9 eM9 => ?_)
        have h := zK_bd h eM9
        refine r_iload_n dX10_law_58 rfl ?_
        refine r_ifZ_ne 67 dX10_law_59 (by decide) (fun c10 => ?_) (fun c10 => ?_)
        · have h := zK_pos h c10
          refine r_aload_n dX10_law_67 rfl ?_
          refine r_getR (k := 73) (q := 74) dX10_law_68 zf_X10_7 (zo_X10 (zs_X10 ht)) (zr_X10_0 (zs_X10 ht)).1 (zr_X10_0 (zs_X10 ht)).2.1 (zr_X10_0 (zs_X10 ht)).2.2 ?_
          refine r_bipush (v := (nI 23)) dX10_law_71 (by decide) ?_
          refine r_aload_n dX10_law_73 rfl ?_
          refine r_getI (k := 73) dX10_law_74 zf_X10_103 (zo_X10 (zs_X10 ht)) (zi_X10_11 (zs_X10 ht)) ?_
          refine r_iastc (j := 23) dX10_law_77 (za_X10_0 (zs_X10 ht)) rfl rfl (fun M11 eM11 => ?_)
          have h := zK_bd h eM11
          refine r_iconst (v := (nI 0)) dX10_law_78 (by decide) ?_
          refine s_istore_n ([some (.ref 73), some (.int a1), some (.int (zb r7)), some (.int (nI 0))]) dX10_law_79 (by decide) rfl rfl ?_
          refine zz_mask [1, 2] ?_
          exact w_X10_law_80 ((nI 0)) M11 ht h kR
        · have h := zK_neg h c10
          refine r_aload_n dX10_law_62 rfl ?_
          refine r_getI (k := 73) dX10_law_63 zf_X10_85 (zo_X10 (zs_X10 ht)) (zi_X10_9 (zs_X10 ht)) ?_
          exact r_iret dX10_law_66 rfl rfl rfl (kR (((M9.1 73 9), M9)) (zK_some h))
      · have h := zK_neg h c3
        refine r_aload_n dX10_law_30 rfl ?_
        refine r_iconst (v := (nI 0)) dX10_law_31 (by decide) ?_
        refine r_putI (k := 73) dX10_law_32 zp_X10_71 (zo_X10 (zs_X10 ht)) (zi_X10_6 (zs_X10 ht)) rfl rfl (fun M12 eM12 => ?_)
        have h := zK_bd h eM12
        refine r_bipush (v := (-3 : Int32)) dX10_law_35 (by decide) ?_
        exact r_iret dX10_law_37 rfl rfl rfl (kR (((-3 : Int32), M12)) (zK_some h))
    · have h := zK_neg h c2
      refine r_iconst (v := (-1 : Int32)) dX10_law_18 (by decide) ?_
      exact r_iret dX10_law_19 rfl rfl rfl (kR (((-1 : Int32), M)) (zK_some h))
set_option maxHeartbeats 4000000 in
set_option maxRecDepth 100000 in
theorem c_X10_law {G : zzG} {t : Nat} {Q : Option Value → zzMem → Prop} (a1 : Int32) (M : zzMem) (ht : 180 ≤ t)  {P : (Int32 × zzMem) → Prop} (h : zK (f_X10_law a1 M) P) (kR : ∀ r : (Int32 × zzMem), P r → Q (some (.int r.1)) r.2) : zz_S G m_X10_law t t [.ref 73, .int a1] M Q :=
  zz_S_of (by decide) (by decide) (Nat.le_of_ble_eq_true rfl) (w_X10_law_0 a1 M ht h kR)
noncomputable def b_X10_reversed_4 (v0 : Int32) (v1 : Int32) (v2 : Int32) : Option ((Int32 × Int32) ⊕ Int32) :=
  if (nI 16) ≤ v2 then
  (some ((.inr v1)))
  else (zbd ((((nI 2) * v1) + ((v0 >>> (v2 &&& 31)) &&& (nI 1)))) (fun x2 =>
  zbd (v2 + (nI 1)) (fun x3 =>
  some (.inl (x2, x3)))))
set_option maxHeartbeats 4000000 in
set_option maxRecDepth 100000 in
theorem x_X10_reversed_4 {G : zzG} {t : Nat} {Q : Option Value → zzMem → Prop} (v0 : Int32) (v1 : Int32) (v2 : Int32) (M : zzMem)  {P : ((Int32 × Int32) ⊕ Int32) → Prop} (h : zK (b_X10_reversed_4 v0 v1 v2) P) (k4 : ∀ s : (Int32 × Int32), P (.inl s) → zz_W G m_X10_reversed t t t 4 [some (.int v0), some (.int s.1), some (.int s.2)] [] M Q) (kR : ∀ r : Int32, P (.inr r) → Q (some (.int r)) M) : zz_W G m_X10_reversed t t t 4 [some (.int v0), some (.int v1), some (.int v2)] [] M Q := by
  unfold b_X10_reversed_4 at h
  refine r_iload_n dX10_reversed_4 rfl ?_
  refine r_bipush (v := (nI 16)) dX10_reversed_5 (by decide) ?_
  refine r_icmp_ge 26 dX10_reversed_7 (by decide) (fun c1 => ?_) (fun c1 => ?_)
  · have h := zK_pos h c1
    refine r_iload_n dX10_reversed_26 rfl ?_
    exact r_iret dX10_reversed_27 rfl rfl rfl (kR (v1) (zK_some h))
  · have h := zK_neg h c1
    refine r_iconst (v := (nI 2)) dX10_reversed_10 (by decide) ?_
    refine r_iload_n dX10_reversed_11 rfl ?_
    refine r_imul dX10_reversed_12 ?_
    refine r_iload_n dX10_reversed_13 rfl ?_
    refine r_iload_n dX10_reversed_14 rfl ?_
    refine r_ishr dX10_reversed_15 ?_
    refine r_iconst (v := (nI 1)) dX10_reversed_16 (by decide) ?_
    refine r_iand dX10_reversed_17 ?_
    refine r_iadd dX10_reversed_18 ?_
    refine r_istore_n (fun x2 => [some (.int v0), some (.int x2), some (.int v2)]) dX10_reversed_19 (by decide) rfl (fun _ => rfl) (fun x2 ex2 => ?_)
    have h := zK_bd h ex2
    refine r_iinc (nI 1) (fun x3 => [some (.int v0), some (.int x2), some (.int x3)]) dX10_reversed_20 rfl (by decide) (by decide) rfl (fun _ => rfl) (fun x3 ex3 => ?_)
    have h := zK_bd h ex3
    refine r_goto 4 dX10_reversed_23 (by decide) ?_
    exact k4 ((x2, x3)) (zK_some h)
noncomputable def j_X10_reversed_4 (v0 : Int32) (v1 : Int32) (v2 : Int32) : Option Int32 :=
  zlp (fun s : (Int32 × Int32) => b_X10_reversed_4 v0 s.1 s.2) (v1, v2)
set_option maxHeartbeats 4000000 in
set_option maxRecDepth 100000 in
theorem w_X10_reversed_4 {G : zzG} {t : Nat} {Q : Option Value → zzMem → Prop} (v0 : Int32) (v1 : Int32) (v2 : Int32) (M : zzMem)  {P : Int32 → Prop} (h : zK (j_X10_reversed_4 v0 v1 v2) P) (kR : ∀ r : Int32, P r → Q (some (.int r)) M) : zz_W G m_X10_reversed t t t 4 [some (.int v0), some (.int v1), some (.int v2)] [] M Q := by
  unfold j_X10_reversed_4 at h
  exact zK_lp h (fun s : (Int32 × Int32) => zz_W G m_X10_reversed t t t 4 [some (.int v0), some (.int s.1), some (.int s.2)] [] M Q) (fun s h => x_X10_reversed_4 v0 s.1 s.2 M  h (fun s p => p) kR)
noncomputable def f_X10_reversed (a0 : Int32) : Option Int32 :=
  j_X10_reversed_4 a0 (nI 0) (nI 0)
set_option maxHeartbeats 4000000 in
set_option maxRecDepth 100000 in
theorem w_X10_reversed_0 {G : zzG} {t : Nat} {Q : Option Value → zzMem → Prop} (a0 : Int32) (M : zzMem)  {P : Int32 → Prop} (h : zK (f_X10_reversed a0) P) (kR : ∀ r : Int32, P r → Q (some (.int r)) M) : zz_W G m_X10_reversed t t t 0 [some (.int a0), none, none] [] M Q := by
  unfold f_X10_reversed at h
  refine r_iconst (v := (nI 0)) dX10_reversed_0 (by decide) ?_
  refine s_istore_n ([some (.int a0), some (.int (nI 0)), none]) dX10_reversed_1 (by decide) rfl rfl ?_
  refine r_iconst (v := (nI 0)) dX10_reversed_2 (by decide) ?_
  refine s_istore_n ([some (.int a0), some (.int (nI 0)), some (.int (nI 0))]) dX10_reversed_3 (by decide) rfl rfl ?_
  exact w_X10_reversed_4 (a0) ((nI 0)) ((nI 0)) M  h kR
set_option maxHeartbeats 4000000 in
set_option maxRecDepth 100000 in
theorem c_X10_reversed {G : zzG} {t : Nat} {Q : Option Value → zzMem → Prop} (a0 : Int32) (M : zzMem)  {P : Int32 → Prop} (h : zK (f_X10_reversed a0) P) (kR : ∀ r : Int32, P r → Q (some (.int r)) M) : zz_S G m_X10_reversed t t [.int a0] M Q :=
  zz_S_of (by decide) (by decide) (Nat.le_of_ble_eq_true rfl) (w_X10_reversed_0 a0 M  h kR)
noncomputable def f_X10_joined (a0 : Int32) (a1 : Int32) (a2 : Int32) : Option Int32 :=
  if a0 = (nI 2) then
  (some ((a1 + a2)))
  else if a0 = (nI 3) then
  (some ((a1 - a2)))
  else if a0 = (nI 4) then
  (some ((a1 * a2)))
  else if a0 = (nI 5) then
  (if a2 = 0 then
  (some ((nI 0)))
  else (zgd (¬ a2 = 0) (
  some ((a1 / a2)))))
  else if a0 = (nI 6) then
  (if a2 = 0 then
  (some ((nI 0)))
  else (zgd (¬ a2 = 0) (
  some ((zrm a1 a2)))))
  else if a0 = (nI 7) then
  (some ((a1 ^^^ a2)))
  else if a0 = (nI 8) then
  (some ((a1 &&& a2)))
  else (some ((a1 ||| a2)))
set_option maxHeartbeats 4000000 in
set_option maxRecDepth 100000 in
theorem w_X10_joined_0 {G : zzG} {t : Nat} {Q : Option Value → zzMem → Prop} (a0 : Int32) (a1 : Int32) (a2 : Int32) (M : zzMem)  {P : Int32 → Prop} (h : zK (f_X10_joined a0 a1 a2) P) (kR : ∀ r : Int32, P r → Q (some (.int r)) M) : zz_W G m_X10_joined t t t 0 [some (.int a0), some (.int a1), some (.int a2)] [] M Q := by
  unfold f_X10_joined at h
  refine r_iload_n dX10_joined_0 rfl ?_
  by_cases c1 : a0 = (nI 2)
  · have h := zK_pos h c1
    refine r_tabIn (off := 43) 44 dX10_joined_1 (by rw [c1]; first | done | decide) (by rw [c1]; first | done | decide) (by rw [c1]; first | done | decide) (by decide) ?_
    refine r_iload_n dX10_joined_44 rfl ?_
    refine r_iload_n dX10_joined_45 rfl ?_
    refine r_iadd dX10_joined_46 ?_
    exact r_iret dX10_joined_47 rfl rfl rfl (kR ((a1 + a2)) (zK_some h))
  · have h := zK_neg h c1
    by_cases c2 : a0 = (nI 3)
    · have h := zK_pos h c2
      refine r_tabIn (off := 47) 48 dX10_joined_1 (by rw [c2]; first | done | decide) (by rw [c2]; first | done | decide) (by rw [c2]; first | done | decide) (by decide) ?_
      refine r_iload_n dX10_joined_48 rfl ?_
      refine r_iload_n dX10_joined_49 rfl ?_
      refine r_isub dX10_joined_50 ?_
      exact r_iret dX10_joined_51 rfl rfl rfl (kR ((a1 - a2)) (zK_some h))
    · have h := zK_neg h c2
      by_cases c3 : a0 = (nI 4)
      · have h := zK_pos h c3
        refine r_tabIn (off := 51) 52 dX10_joined_1 (by rw [c3]; first | done | decide) (by rw [c3]; first | done | decide) (by rw [c3]; first | done | decide) (by decide) ?_
        refine r_iload_n dX10_joined_52 rfl ?_
        refine r_iload_n dX10_joined_53 rfl ?_
        refine r_imul dX10_joined_54 ?_
        exact r_iret dX10_joined_55 rfl rfl rfl (kR ((a1 * a2)) (zK_some h))
      · have h := zK_neg h c3
        by_cases c4 : a0 = (nI 5)
        · have h := zK_pos h c4
          refine r_tabIn (off := 55) 56 dX10_joined_1 (by rw [c4]; first | done | decide) (by rw [c4]; first | done | decide) (by rw [c4]; first | done | decide) (by decide) ?_
          refine r_iload_n dX10_joined_56 rfl ?_
          refine r_if_ne 64 dX10_joined_57 (by decide) (fun c5 => ?_) (fun c5 => ?_)
          · have h := zK_neg h c5
            refine r_iload_n dX10_joined_64 rfl ?_
            refine r_iload_n dX10_joined_65 rfl ?_
            obtain ⟨g6, h⟩ := zK_gd h
            refine r_idiv dX10_joined_66 g6 ?_
            exact r_iret dX10_joined_67 rfl rfl rfl (kR ((a1 / a2)) (zK_some h))
          · have h := zK_pos h c5
            refine r_iconst (v := (nI 0)) dX10_joined_60 (by decide) ?_
            refine r_goto 67 dX10_joined_61 (by decide) ?_
            exact r_iret dX10_joined_67 rfl rfl rfl (kR ((nI 0)) (zK_some h))
        · have h := zK_neg h c4
          by_cases c7 : a0 = (nI 6)
          · have h := zK_pos h c7
            refine r_tabIn (off := 67) 68 dX10_joined_1 (by rw [c7]; first | done | decide) (by rw [c7]; first | done | decide) (by rw [c7]; first | done | decide) (by decide) ?_
            refine r_iload_n dX10_joined_68 rfl ?_
            refine r_if_ne 76 dX10_joined_69 (by decide) (fun c8 => ?_) (fun c8 => ?_)
            · have h := zK_neg h c8
              refine r_iload_n dX10_joined_76 rfl ?_
              refine r_iload_n dX10_joined_77 rfl ?_
              obtain ⟨g9, h⟩ := zK_gd h
              refine r_irem dX10_joined_78 g9 ?_
              exact r_iret dX10_joined_79 rfl rfl rfl (kR ((zrm a1 a2)) (zK_some h))
            · have h := zK_pos h c8
              refine r_iconst (v := (nI 0)) dX10_joined_72 (by decide) ?_
              refine r_goto 79 dX10_joined_73 (by decide) ?_
              exact r_iret dX10_joined_79 rfl rfl rfl (kR ((nI 0)) (zK_some h))
          · have h := zK_neg h c7
            by_cases c10 : a0 = (nI 7)
            · have h := zK_pos h c10
              refine r_tabIn (off := 79) 80 dX10_joined_1 (by rw [c10]; first | done | decide) (by rw [c10]; first | done | decide) (by rw [c10]; first | done | decide) (by decide) ?_
              refine r_iload_n dX10_joined_80 rfl ?_
              refine r_iload_n dX10_joined_81 rfl ?_
              refine r_ixor dX10_joined_82 ?_
              exact r_iret dX10_joined_83 rfl rfl rfl (kR ((a1 ^^^ a2)) (zK_some h))
            · have h := zK_neg h c10
              by_cases c11 : a0 = (nI 8)
              · have h := zK_pos h c11
                refine r_tabIn (off := 83) 84 dX10_joined_1 (by rw [c11]; first | done | decide) (by rw [c11]; first | done | decide) (by rw [c11]; first | done | decide) (by decide) ?_
                refine r_iload_n dX10_joined_84 rfl ?_
                refine r_iload_n dX10_joined_85 rfl ?_
                refine r_iand dX10_joined_86 ?_
                exact r_iret dX10_joined_87 rfl rfl rfl (kR ((a1 &&& a2)) (zK_some h))
              · have h := zK_neg h c11
                have hD : zz_W G m_X10_joined t t t 88 [some (.int a0), some (.int a1), some (.int a2)] [] M Q := by
                  refine r_iload_n dX10_joined_88 rfl ?_
                  refine r_iload_n dX10_joined_89 rfl ?_
                  refine r_ior dX10_joined_90 ?_
                  exact r_iret dX10_joined_91 rfl rfl rfl (kR ((a1 ||| a2)) (zK_some h))
                refine r_tabOut 88 dX10_joined_1 (zz_tab_out (n := 7) (fun i hi => ?_) (by decide)) (by decide) hD
                exact match i, hi with
                | 0, _ => fun e => c1 (e.trans (by decide))
                | 1, _ => fun e => c2 (e.trans (by decide))
                | 2, _ => fun e => c3 (e.trans (by decide))
                | 3, _ => fun e => c4 (e.trans (by decide))
                | 4, _ => fun e => c7 (e.trans (by decide))
                | 5, _ => fun e => c10 (e.trans (by decide))
                | 6, _ => fun e => c11 (e.trans (by decide))
                | k + 7, hk => absurd hk (by omega)
set_option maxHeartbeats 4000000 in
set_option maxRecDepth 100000 in
theorem c_X10_joined {G : zzG} {t : Nat} {Q : Option Value → zzMem → Prop} (a0 : Int32) (a1 : Int32) (a2 : Int32) (M : zzMem)  {P : Int32 → Prop} (h : zK (f_X10_joined a0 a1 a2) P) (kR : ∀ r : Int32, P r → Q (some (.int r)) M) : zz_S G m_X10_joined t t [.int a0, .int a1, .int a2] M Q :=
  zz_S_of (by decide) (by decide) (Nat.le_of_ble_eq_true rfl) (w_X10_joined_0 a0 a1 a2 M  h kR)
noncomputable def f_X10_turnedBy (a0 : Int32) (a1 : Int32) (a2 : Int32) : Option Int32 :=
  if a0 = (nI 10) then
  (some (((nI 65535) - a1)))
  else (if a0 = (nI 12) then
  ((f_X10_reversed a1).bind (fun r3 =>
  some r3))
  else (some (((a1 <<< (a2 &&& 31)) ||| (a1 >>> (((nI 16) - a2) &&& 31))))))
set_option maxHeartbeats 4000000 in
set_option maxRecDepth 100000 in
theorem w_X10_turnedBy_0 {G : zzG} {t : Nat} {Q : Option Value → zzMem → Prop} (a0 : Int32) (a1 : Int32) (a2 : Int32) (M : zzMem)  {P : Int32 → Prop} (h : zK (f_X10_turnedBy a0 a1 a2) P) (kR : ∀ r : Int32, P r → Q (some (.int r)) M) : zz_W G m_X10_turnedBy t t t 0 [some (.int a0), some (.int a1), some (.int a2)] [] M Q := by
  unfold f_X10_turnedBy at h
  refine r_iload_n dX10_turnedBy_0 rfl ?_
  refine r_bipush (v := (nI 10)) dX10_turnedBy_1 (by decide) ?_
  refine r_icmp_ne 13 dX10_turnedBy_3 (by decide) (fun c1 => ?_) (fun c1 => ?_)
  · have h := zK_neg h c1
    refine r_iload_n dX10_turnedBy_13 rfl ?_
    refine r_bipush (v := (nI 12)) dX10_turnedBy_14 (by decide) ?_
    refine r_icmp_ne 26 dX10_turnedBy_16 (by decide) (fun c2 => ?_) (fun c2 => ?_)
    · have h := zK_neg h c2
      refine r_iload_n dX10_turnedBy_26 rfl ?_
      refine r_iload_n dX10_turnedBy_27 rfl ?_
      refine r_ishl dX10_turnedBy_28 ?_
      refine r_iload_n dX10_turnedBy_29 rfl ?_
      refine r_bipush (v := (nI 16)) dX10_turnedBy_30 (by decide) ?_
      refine r_iload_n dX10_turnedBy_32 rfl ?_
      refine r_isub dX10_turnedBy_33 ?_
      refine r_ishr dX10_turnedBy_34 ?_
      refine r_ior dX10_turnedBy_35 ?_
      exact r_iret dX10_turnedBy_36 rfl rfl rfl (kR (((a1 <<< (a2 &&& 31)) ||| (a1 >>> (((nI 16) - a2) &&& 31)))) (zK_some h))
    · have h := zK_pos h c2
      refine r_iload_n dX10_turnedBy_19 rfl ?_
      refine kS_ir (as := [.int a1]) (st := []) dX10_turnedBy_20 zM_X10_reversed zk_X10_149 ⟨Nat.le_of_ble_eq_true rfl, Nat.le_of_ble_eq_true rfl⟩ (Nat.le_of_ble_eq_true rfl) (zz_T0 rfl rfl) (fun Q' P' k h => c_X10_reversed (a1) M h k) h (fun r3 h => ?_)
      refine r_goto 36 dX10_turnedBy_23 (by decide) ?_
      exact r_iret dX10_turnedBy_36 rfl rfl rfl (kR (r3) (zK_some h))
  · have h := zK_pos h c1
    refine r_ldc (v := (nI 65535)) dX10_turnedBy_6 zd_X10_129 ?_
    refine r_iload_n dX10_turnedBy_8 rfl ?_
    refine r_isub dX10_turnedBy_9 ?_
    refine r_goto 36 dX10_turnedBy_10 (by decide) ?_
    exact r_iret dX10_turnedBy_36 rfl rfl rfl (kR (((nI 65535) - a1)) (zK_some h))
set_option maxHeartbeats 4000000 in
set_option maxRecDepth 100000 in
theorem c_X10_turnedBy {G : zzG} {t : Nat} {Q : Option Value → zzMem → Prop} (a0 : Int32) (a1 : Int32) (a2 : Int32) (M : zzMem)  {P : Int32 → Prop} (h : zK (f_X10_turnedBy a0 a1 a2) P) (kR : ∀ r : Int32, P r → Q (some (.int r)) M) : zz_S G m_X10_turnedBy t t [.int a0, .int a1, .int a2] M Q :=
  zz_S_of (by decide) (by decide) (Nat.le_of_ble_eq_true rfl) (w_X10_turnedBy_0 a0 a1 a2 M  h kR)
noncomputable def j_X10_hashIn_85 (v2 : Int32) (v3 : Int32) (v4 : Int32) (v5 : Int32) (s1 : Int32) (s2 : Int32) (M : zzMem) : Option ((Int32 × Int32 × zzMem) ⊕ (Int32 × zzMem)) :=
  zgd (vp_in s1 70) (
  zbd (zz_si M 78 (s1).toNatClampNeg s2) (fun M2 =>
  zbd ((v4 + (nI 1))) (fun x3 =>
  zbd (v5 + (nI 1)) (fun x4 =>
  some (.inl (x3, x4, M2))))))
set_option maxHeartbeats 4000000 in
set_option maxRecDepth 100000 in
theorem w_X10_hashIn_85 {G : zzG} {t : Nat} {Q : Option Value → zzMem → Prop} (v2 : Int32) (v3 : Int32) (v4 : Int32) (v5 : Int32) (s1 : Int32) (s2 : Int32) (M : zzMem) (ht : 180 ≤ t)  {P : ((Int32 × Int32 × zzMem) ⊕ (Int32 × zzMem)) → Prop} (h : zK (j_X10_hashIn_85 v2 v3 v4 v5 s1 s2 M) P) (k12 : ∀ s : (Int32 × Int32 × zzMem), P (.inl s) → zz_W G m_X10_hashIn t t t 12 [some (.ref 73), none, some (.int v2), some (.int v3), some (.int s.1), some (.int s.2.1), none, none] [] s.2.2 Q) (kR : ∀ r : (Int32 × zzMem), P (.inr r) → Q (some (.int r.1)) r.2) : zz_W G m_X10_hashIn t t t 85 [some (.ref 73), none, some (.int v2), some (.int v3), some (.int v4), some (.int v5), none, none] [.int s2, .int s1, .ref 78] M Q := by
  unfold j_X10_hashIn_85 at h
  obtain ⟨g1, h⟩ := zK_gd h
  refine r_iast dX10_hashIn_85 (za_X10_5 (zs_X10 ht)) g1 (fun M2 eM2 => ?_)
  have h := zK_bd h eM2
  refine r_iload dX10_hashIn_86 rfl ?_
  refine r_iconst (v := (nI 1)) dX10_hashIn_88 (by decide) ?_
  refine r_iadd dX10_hashIn_89 ?_
  refine r_istore (fun x3 => [some (.ref 73), none, some (.int v2), some (.int v3), some (.int x3), some (.int v5), none, none]) dX10_hashIn_90 (by decide) rfl (fun _ => rfl) (fun x3 ex3 => ?_)
  have h := zK_bd h ex3
  refine r_goto 172 dX10_hashIn_92 (by decide) ?_
  refine r_iinc (nI 1) (fun x4 => [some (.ref 73), none, some (.int v2), some (.int v3), some (.int x3), some (.int x4), none, none]) dX10_hashIn_172 rfl (by decide) (by decide) rfl (fun _ => rfl) (fun x4 ex4 => ?_)
  have h := zK_bd h ex4
  refine r_goto 12 dX10_hashIn_175 (by decide) ?_
  exact k12 ((x3, x4, M2)) (zK_some h)
noncomputable def b_X10_hashIn_12 (v2 : Int32) (v3 : Int32) (v4 : Int32) (v5 : Int32) (M : zzMem) : Option ((Int32 × Int32 × zzMem) ⊕ (Int32 × zzMem)) :=
  zgd (vp_in (v3 + (nI 23)) 5676) (
  if (M.1 74 ((v3 + (nI 23))).toNatClampNeg) ≤ v5 then
  (some ((.inr ((M.1 78 0), M))))
  else (zgd (vp_in ((v3 + (nI 1752)) + v5) 5676) (
  zbd (((M.1 74 (((v3 + (nI 1752)) + v5)).toNatClampNeg) / (nI 65536))) (fun x4 =>
  zbd ((zrm (M.1 74 (((v3 + (nI 1752)) + v5)).toNatClampNeg) (nI 65536))) (fun x5 =>
  if (nI 1) < x4 then
  (if x4 < (nI 10) then
  (zbd ((v4 - (nI 1))) (fun x8 =>
  zgd (vp_in (x8 - (nI 1)) 70) (
  zgd (vp_in x8 70) (
  (f_X10_joined x4 (M.1 78 ((x8 - (nI 1))).toNatClampNeg) (M.1 78 (x8).toNatClampNeg)).bind (fun r11 =>
  zbd (zz_si M 78 ((x8 - (nI 1))).toNatClampNeg (r11 &&& (nI 65535))) (fun M12 =>
  zbd (v5 + (nI 1)) (fun x13 =>
  some (.inl (x8, x13, M12)))))))))
  else (zgd (vp_in (v4 - (nI 1)) 70) (
  (f_X10_turnedBy x4 (M.1 78 ((v4 - (nI 1))).toNatClampNeg) x5).bind (fun r15 =>
  zbd (zz_si M 78 ((v4 - (nI 1))).toNatClampNeg (r15 &&& (nI 65535))) (fun M16 =>
  zbd (v5 + (nI 1)) (fun x17 =>
  some (.inl (v4, x17, M16))))))))
  else (if x4 = 0 then
  (j_X10_hashIn_85 v2 v3 v4 v5 v4 x5 M)
  else (j_X10_hashIn_85 v2 v3 v4 v5 v4 v2 M)))))))
set_option maxHeartbeats 4000000 in
set_option maxRecDepth 100000 in
theorem x_X10_hashIn_12 {G : zzG} {t : Nat} {Q : Option Value → zzMem → Prop} (v2 : Int32) (v3 : Int32) (v4 : Int32) (v5 : Int32) (M : zzMem) (ht : 180 ≤ t)  {P : ((Int32 × Int32 × zzMem) ⊕ (Int32 × zzMem)) → Prop} (h : zK (b_X10_hashIn_12 v2 v3 v4 v5 M) P) (k12 : ∀ s : (Int32 × Int32 × zzMem), P (.inl s) → zz_W G m_X10_hashIn t t t 12 [some (.ref 73), none, some (.int v2), some (.int v3), some (.int s.1), some (.int s.2.1), none, none] [] s.2.2 Q) (kR : ∀ r : (Int32 × zzMem), P (.inr r) → Q (some (.int r.1)) r.2) : zz_W G m_X10_hashIn t t t 12 [some (.ref 73), none, some (.int v2), some (.int v3), some (.int v4), some (.int v5), none, none] [] M Q := by
  unfold b_X10_hashIn_12 at h
  refine r_iload dX10_hashIn_12 rfl ?_
  refine r_aload_n dX10_hashIn_14 rfl ?_
  refine r_getR (k := 73) (q := 74) dX10_hashIn_15 zf_X10_7 (zo_X10 (zs_X10 ht)) (zr_X10_0 (zs_X10 ht)).1 (zr_X10_0 (zs_X10 ht)).2.1 (zr_X10_0 (zs_X10 ht)).2.2 ?_
  refine r_iload_n dX10_hashIn_18 rfl ?_
  refine r_bipush (v := (nI 23)) dX10_hashIn_19 (by decide) ?_
  refine r_iadd dX10_hashIn_21 ?_
  obtain ⟨g1, h⟩ := zK_gd h
  refine r_iald dX10_hashIn_22 (za_X10_0 (zs_X10 ht)) g1 ?_
  refine r_icmp_ge 178 dX10_hashIn_23 (by decide) (fun c2 => ?_) (fun c2 => ?_)
  · have h := zK_pos h c2
    refine r_aload_n dX10_hashIn_178 rfl ?_
    refine r_getR (k := 73) (q := 78) dX10_hashIn_179 zf_X10_23 (zo_X10 (zs_X10 ht)) (zr_X10_5 (zs_X10 ht)).1 (zr_X10_5 (zs_X10 ht)).2.1 (zr_X10_5 (zs_X10 ht)).2.2 ?_
    refine r_iconst (v := (nI 0)) dX10_hashIn_182 (by decide) ?_
    refine r_ialdc (j := 0) dX10_hashIn_183 (za_X10_5 (zs_X10 ht)) rfl rfl ?_
    exact r_iret dX10_hashIn_184 rfl rfl rfl (kR (((M.1 78 0), M)) (zK_some h))
  · have h := zK_neg h c2
    refine r_aload_n dX10_hashIn_26 rfl ?_
    refine r_getR (k := 73) (q := 74) dX10_hashIn_27 zf_X10_7 (zo_X10 (zs_X10 ht)) (zr_X10_0 (zs_X10 ht)).1 (zr_X10_0 (zs_X10 ht)).2.1 (zr_X10_0 (zs_X10 ht)).2.2 ?_
    refine r_iload_n dX10_hashIn_30 rfl ?_
    refine r_sipush (v := (nI 1752)) dX10_hashIn_31 (by decide) ?_
    refine r_iadd dX10_hashIn_34 ?_
    refine r_iload dX10_hashIn_35 rfl ?_
    refine r_iadd dX10_hashIn_37 ?_
    obtain ⟨g3, h⟩ := zK_gd h
    refine r_iald dX10_hashIn_38 (za_X10_0 (zs_X10 ht)) g3 ?_
    refine r_ldc (v := (nI 65536)) dX10_hashIn_39 zd_X10_62 ?_
    refine r_idiv dX10_hashIn_41 (by decide) ?_
    refine r_istore (fun x4 => [some (.ref 73), none, some (.int v2), some (.int v3), some (.int v4), some (.int v5), some (.int x4), none]) dX10_hashIn_42 (by decide) rfl (fun _ => rfl) (fun x4 ex4 => ?_)
    have h := zK_bd h ex4
    refine r_aload_n dX10_hashIn_44 rfl ?_
    refine r_getR (k := 73) (q := 74) dX10_hashIn_45 zf_X10_7 (zo_X10 (zs_X10 ht)) (zr_X10_0 (zs_X10 ht)).1 (zr_X10_0 (zs_X10 ht)).2.1 (zr_X10_0 (zs_X10 ht)).2.2 ?_
    refine r_iload_n dX10_hashIn_48 rfl ?_
    refine r_sipush (v := (nI 1752)) dX10_hashIn_49 (by decide) ?_
    refine r_iadd dX10_hashIn_52 ?_
    refine r_iload dX10_hashIn_53 rfl ?_
    refine r_iadd dX10_hashIn_55 ?_
    refine r_iald dX10_hashIn_56 (za_X10_0 (zs_X10 ht)) g3 ?_
    refine r_ldc (v := (nI 65536)) dX10_hashIn_57 zd_X10_62 ?_
    refine r_irem dX10_hashIn_59 (by decide) ?_
    refine r_istore (fun x5 => [some (.ref 73), none, some (.int v2), some (.int v3), some (.int v4), some (.int v5), some (.int x4), some (.int x5)]) dX10_hashIn_60 (by decide) rfl (fun _ => rfl) (fun x5 ex5 => ?_)
    have h := zK_bd h ex5
    refine r_iload dX10_hashIn_62 rfl ?_
    refine r_iconst (v := (nI 1)) dX10_hashIn_64 (by decide) ?_
    refine r_icmp_gt 95 dX10_hashIn_65 (by decide) (fun c6 => ?_) (fun c6 => ?_)
    · have h := zK_pos h c6
      refine r_iload dX10_hashIn_95 rfl ?_
      refine r_bipush (v := (nI 10)) dX10_hashIn_97 (by decide) ?_
      refine r_icmp_lt 133 dX10_hashIn_99 (by decide) (fun c7 => ?_) (fun c7 => ?_)
      · have h := zK_pos h c7
        refine r_iload dX10_hashIn_133 rfl ?_
        refine r_iconst (v := (nI 1)) dX10_hashIn_135 (by decide) ?_
        refine r_isub dX10_hashIn_136 ?_
        refine r_istore (fun x8 => [some (.ref 73), none, some (.int v2), some (.int v3), some (.int x8), some (.int v5), some (.int x4), some (.int x5)]) dX10_hashIn_137 (by decide) rfl (fun _ => rfl) (fun x8 ex8 => ?_)
        have h := zK_bd h ex8
        refine r_aload_n dX10_hashIn_139 rfl ?_
        refine r_getR (k := 73) (q := 78) dX10_hashIn_140 zf_X10_23 (zo_X10 (zs_X10 ht)) (zr_X10_5 (zs_X10 ht)).1 (zr_X10_5 (zs_X10 ht)).2.1 (zr_X10_5 (zs_X10 ht)).2.2 ?_
        refine r_iload dX10_hashIn_143 rfl ?_
        refine r_iconst (v := (nI 1)) dX10_hashIn_145 (by decide) ?_
        refine r_isub dX10_hashIn_146 ?_
        refine r_iload dX10_hashIn_147 rfl ?_
        refine r_aload_n dX10_hashIn_149 rfl ?_
        refine r_getR (k := 73) (q := 78) dX10_hashIn_150 zf_X10_23 (zo_X10 (zs_X10 ht)) (zr_X10_5 (zs_X10 ht)).1 (zr_X10_5 (zs_X10 ht)).2.1 (zr_X10_5 (zs_X10 ht)).2.2 ?_
        refine r_iload dX10_hashIn_153 rfl ?_
        refine r_iconst (v := (nI 1)) dX10_hashIn_155 (by decide) ?_
        refine r_isub dX10_hashIn_156 ?_
        obtain ⟨g9, h⟩ := zK_gd h
        refine r_iald dX10_hashIn_157 (za_X10_5 (zs_X10 ht)) g9 ?_
        refine r_aload_n dX10_hashIn_158 rfl ?_
        refine r_getR (k := 73) (q := 78) dX10_hashIn_159 zf_X10_23 (zo_X10 (zs_X10 ht)) (zr_X10_5 (zs_X10 ht)).1 (zr_X10_5 (zs_X10 ht)).2.1 (zr_X10_5 (zs_X10 ht)).2.2 ?_
        refine r_iload dX10_hashIn_162 rfl ?_
        obtain ⟨g10, h⟩ := zK_gd h
        refine r_iald dX10_hashIn_164 (za_X10_5 (zs_X10 ht)) g10 ?_
        refine kS_ir (as := [.int x4, .int (M.1 78 ((x8 - (nI 1))).toNatClampNeg), .int (M.1 78 (x8).toNatClampNeg)]) (st := [.int (x8 - (nI 1)), .ref 78]) dX10_hashIn_165 zM_X10_joined zk_X10_156 ⟨Nat.le_of_ble_eq_true rfl, Nat.le_of_ble_eq_true rfl⟩ (Nat.le_of_ble_eq_true rfl) (zz_T0 rfl rfl) (fun Q' P' k h => c_X10_joined (x4) ((M.1 78 ((x8 - (nI 1))).toNatClampNeg)) ((M.1 78 (x8).toNatClampNeg)) M h k) h (fun r11 h => ?_)
        refine r_ldc (v := (nI 65535)) dX10_hashIn_168 zd_X10_129 ?_
        refine r_iand dX10_hashIn_170 ?_
        refine r_iast dX10_hashIn_171 (za_X10_5 (zs_X10 ht)) g9 (fun M12 eM12 => ?_)
        have h := zK_bd h eM12
        refine r_iinc (nI 1) (fun x13 => [some (.ref 73), none, some (.int v2), some (.int v3), some (.int x8), some (.int x13), some (.int x4), some (.int x5)]) dX10_hashIn_172 rfl (by decide) (by decide) rfl (fun _ => rfl) (fun x13 ex13 => ?_)
        have h := zK_bd h ex13
        refine r_goto 12 dX10_hashIn_175 (by decide) ?_
        refine zz_mask [6, 7] ?_
        exact k12 ((x8, x13, M12)) (zK_some h)
      · have h := zK_neg h c7
        refine r_aload_n dX10_hashIn_102 rfl ?_
        refine r_getR (k := 73) (q := 78) dX10_hashIn_103 zf_X10_23 (zo_X10 (zs_X10 ht)) (zr_X10_5 (zs_X10 ht)).1 (zr_X10_5 (zs_X10 ht)).2.1 (zr_X10_5 (zs_X10 ht)).2.2 ?_
        refine r_iload dX10_hashIn_106 rfl ?_
        refine r_iconst (v := (nI 1)) dX10_hashIn_108 (by decide) ?_
        refine r_isub dX10_hashIn_109 ?_
        refine r_iload dX10_hashIn_110 rfl ?_
        refine r_aload_n dX10_hashIn_112 rfl ?_
        refine r_getR (k := 73) (q := 78) dX10_hashIn_113 zf_X10_23 (zo_X10 (zs_X10 ht)) (zr_X10_5 (zs_X10 ht)).1 (zr_X10_5 (zs_X10 ht)).2.1 (zr_X10_5 (zs_X10 ht)).2.2 ?_
        refine r_iload dX10_hashIn_116 rfl ?_
        refine r_iconst (v := (nI 1)) dX10_hashIn_118 (by decide) ?_
        refine r_isub dX10_hashIn_119 ?_
        obtain ⟨g14, h⟩ := zK_gd h
        refine r_iald dX10_hashIn_120 (za_X10_5 (zs_X10 ht)) g14 ?_
        refine r_iload dX10_hashIn_121 rfl ?_
        refine kS_ir (as := [.int x4, .int (M.1 78 ((v4 - (nI 1))).toNatClampNeg), .int x5]) (st := [.int (v4 - (nI 1)), .ref 78]) dX10_hashIn_123 zM_X10_turnedBy zk_X10_152 ⟨Nat.le_of_ble_eq_true rfl, Nat.le_of_ble_eq_true rfl⟩ (Nat.le_of_ble_eq_true rfl) (zz_T0 rfl rfl) (fun Q' P' k h => c_X10_turnedBy (x4) ((M.1 78 ((v4 - (nI 1))).toNatClampNeg)) (x5) M h k) h (fun r15 h => ?_)
        refine r_ldc (v := (nI 65535)) dX10_hashIn_126 zd_X10_129 ?_
        refine r_iand dX10_hashIn_128 ?_
        refine r_iast dX10_hashIn_129 (za_X10_5 (zs_X10 ht)) g14 (fun M16 eM16 => ?_)
        have h := zK_bd h eM16
        refine r_goto 172 dX10_hashIn_130 (by decide) ?_
        refine r_iinc (nI 1) (fun x17 => [some (.ref 73), none, some (.int v2), some (.int v3), some (.int v4), some (.int x17), some (.int x4), some (.int x5)]) dX10_hashIn_172 rfl (by decide) (by decide) rfl (fun _ => rfl) (fun x17 ex17 => ?_)
        have h := zK_bd h ex17
        refine r_goto 12 dX10_hashIn_175 (by decide) ?_
        refine zz_mask [6, 7] ?_
        exact k12 ((v4, x17, M16)) (zK_some h)
    · have h := zK_neg h c6
      refine r_aload_n dX10_hashIn_68 rfl ?_
      refine r_getR (k := 73) (q := 78) dX10_hashIn_69 zf_X10_23 (zo_X10 (zs_X10 ht)) (zr_X10_5 (zs_X10 ht)).1 (zr_X10_5 (zs_X10 ht)).2.1 (zr_X10_5 (zs_X10 ht)).2.2 ?_
      refine r_iload dX10_hashIn_72 rfl ?_
      refine r_iload dX10_hashIn_74 rfl ?_
      refine r_if_ne 84 dX10_hashIn_76 (by decide) (fun c18 => ?_) (fun c18 => ?_)
      · have h := zK_neg h c18
        refine r_iload_n dX10_hashIn_84 rfl ?_
        refine zz_mask [6, 7] ?_
        exact w_X10_hashIn_85 (v2) (v3) (v4) (v5) (v4) (v2) M ht h k12 kR
      · have h := zK_pos h c18
        refine r_iload dX10_hashIn_79 rfl ?_
        refine r_goto 85 dX10_hashIn_81 (by decide) ?_
        refine zz_mask [6, 7] ?_
        exact w_X10_hashIn_85 (v2) (v3) (v4) (v5) (v4) (x5) M ht h k12 kR
noncomputable def j_X10_hashIn_12 (v2 : Int32) (v3 : Int32) (v4 : Int32) (v5 : Int32) (M : zzMem) : Option (Int32 × zzMem) :=
  zlp (fun s : (Int32 × Int32 × zzMem) => b_X10_hashIn_12 v2 v3 s.1 s.2.1 s.2.2) (v4, v5, M)
set_option maxHeartbeats 4000000 in
set_option maxRecDepth 100000 in
theorem w_X10_hashIn_12 {G : zzG} {t : Nat} {Q : Option Value → zzMem → Prop} (v2 : Int32) (v3 : Int32) (v4 : Int32) (v5 : Int32) (M : zzMem) (ht : 180 ≤ t)  {P : (Int32 × zzMem) → Prop} (h : zK (j_X10_hashIn_12 v2 v3 v4 v5 M) P) (kR : ∀ r : (Int32 × zzMem), P r → Q (some (.int r.1)) r.2) : zz_W G m_X10_hashIn t t t 12 [some (.ref 73), none, some (.int v2), some (.int v3), some (.int v4), some (.int v5), none, none] [] M Q := by
  unfold j_X10_hashIn_12 at h
  exact zK_lp h (fun s : (Int32 × Int32 × zzMem) => zz_W G m_X10_hashIn t t t 12 [some (.ref 73), none, some (.int v2), some (.int v3), some (.int s.1), some (.int s.2.1), none, none] [] s.2.2 Q) (fun s h => x_X10_hashIn_12 v2 v3 s.1 s.2.1 s.2.2 ht h (fun s p => p) kR)
noncomputable def f_X10_hashIn (a1 : Int32) (a2 : Int32) (M : zzMem) : Option (Int32 × zzMem) :=
  zbd (((nI 1892) * a1)) (fun x1 =>
  j_X10_hashIn_12 a2 x1 (nI 0) (nI 0) M)
set_option maxHeartbeats 4000000 in
set_option maxRecDepth 100000 in
theorem w_X10_hashIn_0 {G : zzG} {t : Nat} {Q : Option Value → zzMem → Prop} (a1 : Int32) (a2 : Int32) (M : zzMem) (ht : 180 ≤ t)  {P : (Int32 × zzMem) → Prop} (h : zK (f_X10_hashIn a1 a2 M) P) (kR : ∀ r : (Int32 × zzMem), P r → Q (some (.int r.1)) r.2) : zz_W G m_X10_hashIn t t t 0 [some (.ref 73), some (.int a1), some (.int a2), none, none, none, none, none] [] M Q := by
  unfold f_X10_hashIn at h
  refine r_sipush (v := (nI 1892)) dX10_hashIn_0 (by decide) ?_
  refine r_iload_n dX10_hashIn_3 rfl ?_
  refine r_imul dX10_hashIn_4 ?_
  refine r_istore_n (fun x1 => [some (.ref 73), some (.int a1), some (.int a2), some (.int x1), none, none, none, none]) dX10_hashIn_5 (by decide) rfl (fun _ => rfl) (fun x1 ex1 => ?_)
  have h := zK_bd h ex1
  refine r_iconst (v := (nI 0)) dX10_hashIn_6 (by decide) ?_
  refine s_istore ([some (.ref 73), some (.int a1), some (.int a2), some (.int x1), some (.int (nI 0)), none, none, none]) dX10_hashIn_7 (by decide) rfl rfl ?_
  refine r_iconst (v := (nI 0)) dX10_hashIn_9 (by decide) ?_
  refine s_istore ([some (.ref 73), some (.int a1), some (.int a2), some (.int x1), some (.int (nI 0)), some (.int (nI 0)), none, none]) dX10_hashIn_10 (by decide) rfl rfl ?_
  refine zz_mask [1] ?_
  exact w_X10_hashIn_12 (a2) (x1) ((nI 0)) ((nI 0)) M ht h kR
set_option maxHeartbeats 4000000 in
set_option maxRecDepth 100000 in
theorem c_X10_hashIn {G : zzG} {t : Nat} {Q : Option Value → zzMem → Prop} (a1 : Int32) (a2 : Int32) (M : zzMem) (ht : 180 ≤ t)  {P : (Int32 × zzMem) → Prop} (h : zK (f_X10_hashIn a1 a2 M) P) (kR : ∀ r : (Int32 × zzMem), P r → Q (some (.int r.1)) r.2) : zz_S G m_X10_hashIn t t [.ref 73, .int a1, .int a2] M Q :=
  zz_S_of (by decide) (by decide) (Nat.le_of_ble_eq_true rfl) (w_X10_hashIn_0 a1 a2 M ht h kR)
noncomputable def f_X10_hashOf (a1 : Int32) (M : zzMem) : Option (Int32 × zzMem) :=
  (f_X10_hashIn (nI 0) a1 M).bind (fun q1 => zpr q1 (fun r2 M3 =>
  some ((r2, M3))))
set_option maxHeartbeats 4000000 in
set_option maxRecDepth 100000 in
theorem w_X10_hashOf_0 {G : zzG} {t : Nat} {Q : Option Value → zzMem → Prop} (a1 : Int32) (M : zzMem) (ht : 180 ≤ t)  {P : (Int32 × zzMem) → Prop} (h : zK (f_X10_hashOf a1 M) P) (kR : ∀ r : (Int32 × zzMem), P r → Q (some (.int r.1)) r.2) : zz_W G m_X10_hashOf t t t 0 [some (.ref 73), some (.int a1)] [] M Q := by
  unfold f_X10_hashOf at h
  refine r_aload_n dX10_hashOf_0 rfl ?_
  refine r_iconst (v := (nI 0)) dX10_hashOf_1 (by decide) ?_
  refine r_iload_n dX10_hashOf_2 rfl ?_
  refine kV_iw (as := [.int (nI 0), .int a1]) (st := []) (k := 73) dX10_hashOf_3 zM_X10_hashIn zk_X10_159 (zo_X10 (zs_X10 ht)) (by decide) rfl ⟨Nat.le_of_ble_eq_true rfl, Nat.le_of_ble_eq_true rfl⟩ (Nat.le_of_ble_eq_true rfl) (zz_T0 rfl rfl) (fun Q' P' k h => c_X10_hashIn ((nI 0)) (a1) M ht h (fun r p => k r.1 r.2 p)) h (fun r2 M3 h => ?_)
  have h := zK_pr h
  exact r_iret dX10_hashOf_6 rfl rfl rfl (kR ((r2, M3)) (zK_some h))
set_option maxHeartbeats 4000000 in
set_option maxRecDepth 100000 in
theorem c_X10_hashOf {G : zzG} {t : Nat} {Q : Option Value → zzMem → Prop} (a1 : Int32) (M : zzMem) (ht : 180 ≤ t)  {P : (Int32 × zzMem) → Prop} (h : zK (f_X10_hashOf a1 M) P) (kR : ∀ r : (Int32 × zzMem), P r → Q (some (.int r.1)) r.2) : zz_S G m_X10_hashOf t t [.ref 73, .int a1] M Q :=
  zz_S_of (by decide) (by decide) (Nat.le_of_ble_eq_true rfl) (w_X10_hashOf_0 a1 M ht h kR)
noncomputable def f_X10_first (a1 : Int32) (M : zzMem) : Option Int32 :=
  zgd (vp_in (((nI 1892) * a1) + (nI 0)) 5676) (
  zgd (vp_in (((nI 1892) * a1) + (nI 5)) 5676) (
  some (((M.1 74 ((((nI 1892) * a1) + (nI 0))).toNatClampNeg) <<< ((M.1 74 ((((nI 1892) * a1) + (nI 5))).toNatClampNeg) &&& 31)))))
set_option maxHeartbeats 4000000 in
set_option maxRecDepth 100000 in
theorem w_X10_first_0 {G : zzG} {t : Nat} {Q : Option Value → zzMem → Prop} (a1 : Int32) (M : zzMem) (ht : 180 ≤ t)  {P : Int32 → Prop} (h : zK (f_X10_first a1 M) P) (kR : ∀ r : Int32, P r → Q (some (.int r)) M) : zz_W G m_X10_first t t t 0 [some (.ref 73), some (.int a1)] [] M Q := by
  unfold f_X10_first at h
  refine r_aload_n dX10_first_0 rfl ?_
  refine r_getR (k := 73) (q := 74) dX10_first_1 zf_X10_7 (zo_X10 (zs_X10 ht)) (zr_X10_0 (zs_X10 ht)).1 (zr_X10_0 (zs_X10 ht)).2.1 (zr_X10_0 (zs_X10 ht)).2.2 ?_
  refine r_sipush (v := (nI 1892)) dX10_first_4 (by decide) ?_
  refine r_iload_n dX10_first_7 rfl ?_
  refine r_imul dX10_first_8 ?_
  refine r_iconst (v := (nI 0)) dX10_first_9 (by decide) ?_
  refine r_iadd dX10_first_10 ?_
  obtain ⟨g1, h⟩ := zK_gd h
  refine r_iald dX10_first_11 (za_X10_0 (zs_X10 ht)) g1 ?_
  refine r_aload_n dX10_first_12 rfl ?_
  refine r_getR (k := 73) (q := 74) dX10_first_13 zf_X10_7 (zo_X10 (zs_X10 ht)) (zr_X10_0 (zs_X10 ht)).1 (zr_X10_0 (zs_X10 ht)).2.1 (zr_X10_0 (zs_X10 ht)).2.2 ?_
  refine r_sipush (v := (nI 1892)) dX10_first_16 (by decide) ?_
  refine r_iload_n dX10_first_19 rfl ?_
  refine r_imul dX10_first_20 ?_
  refine r_iconst (v := (nI 5)) dX10_first_21 (by decide) ?_
  refine r_iadd dX10_first_22 ?_
  obtain ⟨g2, h⟩ := zK_gd h
  refine r_iald dX10_first_23 (za_X10_0 (zs_X10 ht)) g2 ?_
  refine r_ishl dX10_first_24 ?_
  exact r_iret dX10_first_25 rfl rfl rfl (kR (((M.1 74 ((((nI 1892) * a1) + (nI 0))).toNatClampNeg) <<< ((M.1 74 ((((nI 1892) * a1) + (nI 5))).toNatClampNeg) &&& 31))) (zK_some h))
set_option maxHeartbeats 4000000 in
set_option maxRecDepth 100000 in
theorem c_X10_first {G : zzG} {t : Nat} {Q : Option Value → zzMem → Prop} (a1 : Int32) (M : zzMem) (ht : 180 ≤ t)  {P : Int32 → Prop} (h : zK (f_X10_first a1 M) P) (kR : ∀ r : Int32, P r → Q (some (.int r)) M) : zz_S G m_X10_first t t [.ref 73, .int a1] M Q :=
  zz_S_of (by decide) (by decide) (Nat.le_of_ble_eq_true rfl) (w_X10_first_0 a1 M ht h kR)
noncomputable def f_X10_buckets  (M : zzMem) : Option Int32 :=
  (f_X10_first (nI 0) M).bind (fun r1 =>
  some ((r1 + (M.1 74 6))))
set_option maxHeartbeats 4000000 in
set_option maxRecDepth 100000 in
theorem w_X10_buckets_0 {G : zzG} {t : Nat} {Q : Option Value → zzMem → Prop}  (M : zzMem) (ht : 180 ≤ t)  {P : Int32 → Prop} (h : zK (f_X10_buckets  M) P) (kR : ∀ r : Int32, P r → Q (some (.int r)) M) : zz_W G m_X10_buckets t t t 0 [some (.ref 73)] [] M Q := by
  unfold f_X10_buckets at h
  refine r_aload_n dX10_buckets_0 rfl ?_
  refine r_iconst (v := (nI 0)) dX10_buckets_1 (by decide) ?_
  refine kV_ir (as := [.int (nI 0)]) (st := []) (k := 73) dX10_buckets_2 zM_X10_first zk_X10_163 (zo_X10 (zs_X10 ht)) (by decide) rfl ⟨Nat.le_of_ble_eq_true rfl, Nat.le_of_ble_eq_true rfl⟩ (Nat.le_of_ble_eq_true rfl) (zz_T0 rfl rfl) (fun Q' P' k h => c_X10_first ((nI 0)) M ht h k) h (fun r1 h => ?_)
  refine r_aload_n dX10_buckets_5 rfl ?_
  refine r_getR (k := 73) (q := 74) dX10_buckets_6 zf_X10_7 (zo_X10 (zs_X10 ht)) (zr_X10_0 (zs_X10 ht)).1 (zr_X10_0 (zs_X10 ht)).2.1 (zr_X10_0 (zs_X10 ht)).2.2 ?_
  refine r_bipush (v := (nI 6)) dX10_buckets_9 (by decide) ?_
  refine r_ialdc (j := 6) dX10_buckets_11 (za_X10_0 (zs_X10 ht)) rfl rfl ?_
  refine r_iadd dX10_buckets_12 ?_
  exact r_iret dX10_buckets_13 rfl rfl rfl (kR ((r1 + (M.1 74 6))) (zK_some h))
set_option maxHeartbeats 4000000 in
set_option maxRecDepth 100000 in
theorem c_X10_buckets {G : zzG} {t : Nat} {Q : Option Value → zzMem → Prop}  (M : zzMem) (ht : 180 ≤ t)  {P : Int32 → Prop} (h : zK (f_X10_buckets  M) P) (kR : ∀ r : Int32, P r → Q (some (.int r)) M) : zz_S G m_X10_buckets t t [.ref 73] M Q :=
  zz_S_of (by decide) (by decide) (Nat.le_of_ble_eq_true rfl) (w_X10_buckets_0  M ht h kR)
noncomputable def f_X10_addressIn (a1 : Int32) (a2 : Int32) (M : zzMem) : Option (Int32 × zzMem) :=
  (f_X10_hashIn a1 a2 M).bind (fun q1 => zpr q1 (fun r2 M3 =>
  (f_X10_first a1 M3).bind (fun r4 =>
  zgd (¬ r4 = 0) (
  zgd (vp_in (((nI 1892) * a1) + (nI 6)) 5676) (
  if (M3.1 74 ((((nI 1892) * a1) + (nI 6))).toNatClampNeg) ≤ (zrm r2 r4) then
  (some (((zrm r2 r4), M3)))
  else (zgd (¬ ((nI 2) * r4) = 0) (
  some (((zrm r2 ((nI 2) * r4)), M3)))))))))
set_option maxHeartbeats 4000000 in
set_option maxRecDepth 100000 in
theorem w_X10_addressIn_0 {G : zzG} {t : Nat} {Q : Option Value → zzMem → Prop} (a1 : Int32) (a2 : Int32) (M : zzMem) (ht : 180 ≤ t)  {P : (Int32 × zzMem) → Prop} (h : zK (f_X10_addressIn a1 a2 M) P) (kR : ∀ r : (Int32 × zzMem), P r → Q (some (.int r.1)) r.2) : zz_W G m_X10_addressIn t t t 0 [some (.ref 73), some (.int a1), some (.int a2), none, none] [] M Q := by
  unfold f_X10_addressIn at h
  refine r_aload_n dX10_addressIn_0 rfl ?_
  refine r_iload_n dX10_addressIn_1 rfl ?_
  refine r_iload_n dX10_addressIn_2 rfl ?_
  refine kV_iw (as := [.int a1, .int a2]) (st := []) (k := 73) dX10_addressIn_3 zM_X10_hashIn zk_X10_159 (zo_X10 (zs_X10 ht)) (by decide) rfl ⟨Nat.le_of_ble_eq_true rfl, Nat.le_of_ble_eq_true rfl⟩ (Nat.le_of_ble_eq_true rfl) (zz_T0 rfl rfl) (fun Q' P' k h => c_X10_hashIn (a1) (a2) M ht h (fun r p => k r.1 r.2 p)) h (fun r2 M3 h => ?_)
  have h := zK_pr h
  refine s_istore_n ([some (.ref 73), some (.int a1), some (.int a2), some (.int r2), none]) dX10_addressIn_6 (by decide) rfl rfl ?_
  refine r_aload_n dX10_addressIn_7 rfl ?_
  refine r_iload_n dX10_addressIn_8 rfl ?_
  refine kV_ir (as := [.int a1]) (st := []) (k := 73) dX10_addressIn_9 zM_X10_first zk_X10_163 (zo_X10 (zs_X10 ht)) (by decide) rfl ⟨Nat.le_of_ble_eq_true rfl, Nat.le_of_ble_eq_true rfl⟩ (Nat.le_of_ble_eq_true rfl) (zz_T0 rfl rfl) (fun Q' P' k h => c_X10_first (a1) M3 ht h k) h (fun r4 h => ?_)
  refine s_istore ([some (.ref 73), some (.int a1), some (.int a2), some (.int r2), some (.int r4)]) dX10_addressIn_12 (by decide) rfl rfl ?_
  refine r_iload_n dX10_addressIn_14 rfl ?_
  refine r_iload dX10_addressIn_15 rfl ?_
  obtain ⟨g5, h⟩ := zK_gd h
  refine r_irem dX10_addressIn_17 g5 ?_
  refine r_aload_n dX10_addressIn_18 rfl ?_
  refine r_getR (k := 73) (q := 74) dX10_addressIn_19 zf_X10_7 (zo_X10 (zs_X10 ht)) (zr_X10_0 (zs_X10 ht)).1 (zr_X10_0 (zs_X10 ht)).2.1 (zr_X10_0 (zs_X10 ht)).2.2 ?_
  refine r_sipush (v := (nI 1892)) dX10_addressIn_22 (by decide) ?_
  refine r_iload_n dX10_addressIn_25 rfl ?_
  refine r_imul dX10_addressIn_26 ?_
  refine r_bipush (v := (nI 6)) dX10_addressIn_27 (by decide) ?_
  refine r_iadd dX10_addressIn_29 ?_
  obtain ⟨g6, h⟩ := zK_gd h
  refine r_iald dX10_addressIn_30 (za_X10_0 (zs_X10 ht)) g6 ?_
  refine r_icmp_ge 43 dX10_addressIn_31 (by decide) (fun c7 => ?_) (fun c7 => ?_)
  · have h := zK_pos h c7
    refine r_iload_n dX10_addressIn_43 rfl ?_
    refine r_iload dX10_addressIn_44 rfl ?_
    refine r_irem dX10_addressIn_46 g5 ?_
    exact r_iret dX10_addressIn_47 rfl rfl rfl (kR (((zrm r2 r4), M3)) (zK_some h))
  · have h := zK_neg h c7
    refine r_iload_n dX10_addressIn_34 rfl ?_
    refine r_iconst (v := (nI 2)) dX10_addressIn_35 (by decide) ?_
    refine r_iload dX10_addressIn_36 rfl ?_
    refine r_imul dX10_addressIn_38 ?_
    obtain ⟨g8, h⟩ := zK_gd h
    refine r_irem dX10_addressIn_39 g8 ?_
    refine r_goto 47 dX10_addressIn_40 (by decide) ?_
    exact r_iret dX10_addressIn_47 rfl rfl rfl (kR (((zrm r2 ((nI 2) * r4)), M3)) (zK_some h))
set_option maxHeartbeats 4000000 in
set_option maxRecDepth 100000 in
theorem c_X10_addressIn {G : zzG} {t : Nat} {Q : Option Value → zzMem → Prop} (a1 : Int32) (a2 : Int32) (M : zzMem) (ht : 180 ≤ t)  {P : (Int32 × zzMem) → Prop} (h : zK (f_X10_addressIn a1 a2 M) P) (kR : ∀ r : (Int32 × zzMem), P r → Q (some (.int r.1)) r.2) : zz_S G m_X10_addressIn t t [.ref 73, .int a1, .int a2] M Q :=
  zz_S_of (by decide) (by decide) (Nat.le_of_ble_eq_true rfl) (w_X10_addressIn_0 a1 a2 M ht h kR)
noncomputable def f_X10_addressOf (a1 : Int32) (M : zzMem) : Option (Int32 × zzMem) :=
  (f_X10_addressIn (nI 0) a1 M).bind (fun q1 => zpr q1 (fun r2 M3 =>
  some ((r2, M3))))
set_option maxHeartbeats 4000000 in
set_option maxRecDepth 100000 in
theorem w_X10_addressOf_0 {G : zzG} {t : Nat} {Q : Option Value → zzMem → Prop} (a1 : Int32) (M : zzMem) (ht : 180 ≤ t)  {P : (Int32 × zzMem) → Prop} (h : zK (f_X10_addressOf a1 M) P) (kR : ∀ r : (Int32 × zzMem), P r → Q (some (.int r.1)) r.2) : zz_W G m_X10_addressOf t t t 0 [some (.ref 73), some (.int a1)] [] M Q := by
  unfold f_X10_addressOf at h
  refine r_aload_n dX10_addressOf_0 rfl ?_
  refine r_iconst (v := (nI 0)) dX10_addressOf_1 (by decide) ?_
  refine r_iload_n dX10_addressOf_2 rfl ?_
  refine kV_iw (as := [.int (nI 0), .int a1]) (st := []) (k := 73) dX10_addressOf_3 zM_X10_addressIn zk_X10_166 (zo_X10 (zs_X10 ht)) (by decide) rfl ⟨Nat.le_of_ble_eq_true rfl, Nat.le_of_ble_eq_true rfl⟩ (Nat.le_of_ble_eq_true rfl) (zz_T0 rfl rfl) (fun Q' P' k h => c_X10_addressIn ((nI 0)) (a1) M ht h (fun r p => k r.1 r.2 p)) h (fun r2 M3 h => ?_)
  have h := zK_pr h
  exact r_iret dX10_addressOf_6 rfl rfl rfl (kR ((r2, M3)) (zK_some h))
set_option maxHeartbeats 4000000 in
set_option maxRecDepth 100000 in
theorem c_X10_addressOf {G : zzG} {t : Nat} {Q : Option Value → zzMem → Prop} (a1 : Int32) (M : zzMem) (ht : 180 ≤ t)  {P : (Int32 × zzMem) → Prop} (h : zK (f_X10_addressOf a1 M) P) (kR : ∀ r : (Int32 × zzMem), P r → Q (some (.int r.1)) r.2) : zz_S G m_X10_addressOf t t [.ref 73, .int a1] M Q :=
  zz_S_of (by decide) (by decide) (Nat.le_of_ble_eq_true rfl) (w_X10_addressOf_0 a1 M ht h kR)
noncomputable def b_X10_entryOf_2 (v1 : Int32) (v2 : Int32) (v3 : Int32) (M : zzMem) : Option (Int32 ⊕ Int32) :=
  zgd (vp_in (((nI 1892) * v1) + (nI 7)) 5676) (
  if (M.1 74 ((((nI 1892) * v1) + (nI 7))).toNatClampNeg) ≤ v3 then
  (some ((.inr (-1 : Int32))))
  else (zgd (vp_in ((((nI 1892) * v1) + (nI 40)) + v3) 5676) (
  if (M.1 74 (((((nI 1892) * v1) + (nI 40)) + v3)).toNatClampNeg) = v2 then
  (some ((.inr v3)))
  else (zbd (v3 + (nI 1)) (fun x5 =>
  some (.inl x5))))))
set_option maxHeartbeats 4000000 in
set_option maxRecDepth 100000 in
theorem x_X10_entryOf_2 {G : zzG} {t : Nat} {Q : Option Value → zzMem → Prop} (v1 : Int32) (v2 : Int32) (v3 : Int32) (M : zzMem) (ht : 180 ≤ t)  {P : (Int32 ⊕ Int32) → Prop} (h : zK (b_X10_entryOf_2 v1 v2 v3 M) P) (k2 : ∀ s : Int32, P (.inl s) → zz_W G m_X10_entryOf t t t 2 [some (.ref 73), some (.int v1), some (.int v2), some (.int s)] [] M Q) (kR : ∀ r : Int32, P (.inr r) → Q (some (.int r)) M) : zz_W G m_X10_entryOf t t t 2 [some (.ref 73), some (.int v1), some (.int v2), some (.int v3)] [] M Q := by
  unfold b_X10_entryOf_2 at h
  refine r_iload_n dX10_entryOf_2 rfl ?_
  refine r_aload_n dX10_entryOf_3 rfl ?_
  refine r_getR (k := 73) (q := 74) dX10_entryOf_4 zf_X10_7 (zo_X10 (zs_X10 ht)) (zr_X10_0 (zs_X10 ht)).1 (zr_X10_0 (zs_X10 ht)).2.1 (zr_X10_0 (zs_X10 ht)).2.2 ?_
  refine r_sipush (v := (nI 1892)) dX10_entryOf_7 (by decide) ?_
  refine r_iload_n dX10_entryOf_10 rfl ?_
  refine r_imul dX10_entryOf_11 ?_
  refine r_bipush (v := (nI 7)) dX10_entryOf_12 (by decide) ?_
  refine r_iadd dX10_entryOf_14 ?_
  obtain ⟨g1, h⟩ := zK_gd h
  refine r_iald dX10_entryOf_15 (za_X10_0 (zs_X10 ht)) g1 ?_
  refine r_icmp_ge 46 dX10_entryOf_16 (by decide) (fun c2 => ?_) (fun c2 => ?_)
  · have h := zK_pos h c2
    refine r_iconst (v := (-1 : Int32)) dX10_entryOf_46 (by decide) ?_
    exact r_iret dX10_entryOf_47 rfl rfl rfl (kR ((-1 : Int32)) (zK_some h))
  · have h := zK_neg h c2
    refine r_aload_n dX10_entryOf_19 rfl ?_
    refine r_getR (k := 73) (q := 74) dX10_entryOf_20 zf_X10_7 (zo_X10 (zs_X10 ht)) (zr_X10_0 (zs_X10 ht)).1 (zr_X10_0 (zs_X10 ht)).2.1 (zr_X10_0 (zs_X10 ht)).2.2 ?_
    refine r_sipush (v := (nI 1892)) dX10_entryOf_23 (by decide) ?_
    refine r_iload_n dX10_entryOf_26 rfl ?_
    refine r_imul dX10_entryOf_27 ?_
    refine r_bipush (v := (nI 40)) dX10_entryOf_28 (by decide) ?_
    refine r_iadd dX10_entryOf_30 ?_
    refine r_iload_n dX10_entryOf_31 rfl ?_
    refine r_iadd dX10_entryOf_32 ?_
    obtain ⟨g3, h⟩ := zK_gd h
    refine r_iald dX10_entryOf_33 (za_X10_0 (zs_X10 ht)) g3 ?_
    refine r_iload_n dX10_entryOf_34 rfl ?_
    refine r_icmp_ne 40 dX10_entryOf_35 (by decide) (fun c4 => ?_) (fun c4 => ?_)
    · have h := zK_neg h c4
      refine r_iinc (nI 1) (fun x5 => [some (.ref 73), some (.int v1), some (.int v2), some (.int x5)]) dX10_entryOf_40 rfl (by decide) (by decide) rfl (fun _ => rfl) (fun x5 ex5 => ?_)
      have h := zK_bd h ex5
      refine r_goto 2 dX10_entryOf_43 (by decide) ?_
      exact k2 (x5) (zK_some h)
    · have h := zK_pos h c4
      refine r_iload_n dX10_entryOf_38 rfl ?_
      exact r_iret dX10_entryOf_39 rfl rfl rfl (kR (v3) (zK_some h))
noncomputable def j_X10_entryOf_2 (v1 : Int32) (v2 : Int32) (v3 : Int32) (M : zzMem) : Option Int32 :=
  zlp (fun s : Int32 => b_X10_entryOf_2 v1 v2 s M) v3
set_option maxHeartbeats 4000000 in
set_option maxRecDepth 100000 in
theorem w_X10_entryOf_2 {G : zzG} {t : Nat} {Q : Option Value → zzMem → Prop} (v1 : Int32) (v2 : Int32) (v3 : Int32) (M : zzMem) (ht : 180 ≤ t)  {P : Int32 → Prop} (h : zK (j_X10_entryOf_2 v1 v2 v3 M) P) (kR : ∀ r : Int32, P r → Q (some (.int r)) M) : zz_W G m_X10_entryOf t t t 2 [some (.ref 73), some (.int v1), some (.int v2), some (.int v3)] [] M Q := by
  unfold j_X10_entryOf_2 at h
  exact zK_lp h (fun s : Int32 => zz_W G m_X10_entryOf t t t 2 [some (.ref 73), some (.int v1), some (.int v2), some (.int s)] [] M Q) (fun s h => x_X10_entryOf_2 v1 v2 s M ht h (fun s p => p) kR)
noncomputable def f_X10_entryOf (a1 : Int32) (a2 : Int32) (M : zzMem) : Option Int32 :=
  j_X10_entryOf_2 a1 a2 (nI 0) M
set_option maxHeartbeats 4000000 in
set_option maxRecDepth 100000 in
theorem w_X10_entryOf_0 {G : zzG} {t : Nat} {Q : Option Value → zzMem → Prop} (a1 : Int32) (a2 : Int32) (M : zzMem) (ht : 180 ≤ t)  {P : Int32 → Prop} (h : zK (f_X10_entryOf a1 a2 M) P) (kR : ∀ r : Int32, P r → Q (some (.int r)) M) : zz_W G m_X10_entryOf t t t 0 [some (.ref 73), some (.int a1), some (.int a2), none] [] M Q := by
  unfold f_X10_entryOf at h
  refine r_iconst (v := (nI 0)) dX10_entryOf_0 (by decide) ?_
  refine s_istore_n ([some (.ref 73), some (.int a1), some (.int a2), some (.int (nI 0))]) dX10_entryOf_1 (by decide) rfl rfl ?_
  exact w_X10_entryOf_2 (a1) (a2) ((nI 0)) M ht h kR
set_option maxHeartbeats 4000000 in
set_option maxRecDepth 100000 in
theorem c_X10_entryOf {G : zzG} {t : Nat} {Q : Option Value → zzMem → Prop} (a1 : Int32) (a2 : Int32) (M : zzMem) (ht : 180 ≤ t)  {P : Int32 → Prop} (h : zK (f_X10_entryOf a1 a2 M) P) (kR : ∀ r : Int32, P r → Q (some (.int r)) M) : zz_S G m_X10_entryOf t t [.ref 73, .int a1, .int a2] M Q :=
  zz_S_of (by decide) (by decide) (Nat.le_of_ble_eq_true rfl) (w_X10_entryOf_0 a1 a2 M ht h kR)
noncomputable def b_X10_keysIn_4 (v1 : Int32) (v2 : Int32) (v3 : Int32) (M : zzMem) : Option ((Int32 × Int32) ⊕ Int32) :=
  if (M.1 74 7) ≤ v3 then
  (some ((.inr v2)))
  else (zgd (vp_in ((nI 640) + v3) 5676) (
  if (M.1 74 (((nI 640) + v3)).toNatClampNeg) = v1 then
  (zbd ((v2 + (nI 1))) (fun x5 =>
  zbd (v3 + (nI 1)) (fun x6 =>
  some (.inl (x5, x6)))))
  else (zbd (v3 + (nI 1)) (fun x4 =>
  some (.inl (v2, x4))))))
set_option maxHeartbeats 4000000 in
set_option maxRecDepth 100000 in
theorem x_X10_keysIn_4 {G : zzG} {t : Nat} {Q : Option Value → zzMem → Prop} (v1 : Int32) (v2 : Int32) (v3 : Int32) (M : zzMem) (ht : 180 ≤ t)  {P : ((Int32 × Int32) ⊕ Int32) → Prop} (h : zK (b_X10_keysIn_4 v1 v2 v3 M) P) (k4 : ∀ s : (Int32 × Int32), P (.inl s) → zz_W G m_X10_keysIn t t t 4 [some (.ref 73), some (.int v1), some (.int s.1), some (.int s.2)] [] M Q) (kR : ∀ r : Int32, P (.inr r) → Q (some (.int r)) M) : zz_W G m_X10_keysIn t t t 4 [some (.ref 73), some (.int v1), some (.int v2), some (.int v3)] [] M Q := by
  unfold b_X10_keysIn_4 at h
  refine r_iload_n dX10_keysIn_4 rfl ?_
  refine r_aload_n dX10_keysIn_5 rfl ?_
  refine r_getR (k := 73) (q := 74) dX10_keysIn_6 zf_X10_7 (zo_X10 (zs_X10 ht)) (zr_X10_0 (zs_X10 ht)).1 (zr_X10_0 (zs_X10 ht)).2.1 (zr_X10_0 (zs_X10 ht)).2.2 ?_
  refine r_bipush (v := (nI 7)) dX10_keysIn_9 (by decide) ?_
  refine r_ialdc (j := 7) dX10_keysIn_11 (za_X10_0 (zs_X10 ht)) rfl rfl ?_
  refine r_icmp_ge 39 dX10_keysIn_12 (by decide) (fun c1 => ?_) (fun c1 => ?_)
  · have h := zK_pos h c1
    refine r_iload_n dX10_keysIn_39 rfl ?_
    exact r_iret dX10_keysIn_40 rfl rfl rfl (kR (v2) (zK_some h))
  · have h := zK_neg h c1
    refine r_aload_n dX10_keysIn_15 rfl ?_
    refine r_getR (k := 73) (q := 74) dX10_keysIn_16 zf_X10_7 (zo_X10 (zs_X10 ht)) (zr_X10_0 (zs_X10 ht)).1 (zr_X10_0 (zs_X10 ht)).2.1 (zr_X10_0 (zs_X10 ht)).2.2 ?_
    refine r_sipush (v := (nI 640)) dX10_keysIn_19 (by decide) ?_
    refine r_iload_n dX10_keysIn_22 rfl ?_
    refine r_iadd dX10_keysIn_23 ?_
    obtain ⟨g2, h⟩ := zK_gd h
    refine r_iald dX10_keysIn_24 (za_X10_0 (zs_X10 ht)) g2 ?_
    refine r_iload_n dX10_keysIn_25 rfl ?_
    refine r_icmp_ne 33 dX10_keysIn_26 (by decide) (fun c3 => ?_) (fun c3 => ?_)
    · have h := zK_neg h c3
      refine r_iinc (nI 1) (fun x4 => [some (.ref 73), some (.int v1), some (.int v2), some (.int x4)]) dX10_keysIn_33 rfl (by decide) (by decide) rfl (fun _ => rfl) (fun x4 ex4 => ?_)
      have h := zK_bd h ex4
      refine r_goto 4 dX10_keysIn_36 (by decide) ?_
      exact k4 ((v2, x4)) (zK_some h)
    · have h := zK_pos h c3
      refine r_iload_n dX10_keysIn_29 rfl ?_
      refine r_iconst (v := (nI 1)) dX10_keysIn_30 (by decide) ?_
      refine r_iadd dX10_keysIn_31 ?_
      refine r_istore_n (fun x5 => [some (.ref 73), some (.int v1), some (.int x5), some (.int v3)]) dX10_keysIn_32 (by decide) rfl (fun _ => rfl) (fun x5 ex5 => ?_)
      have h := zK_bd h ex5
      refine r_iinc (nI 1) (fun x6 => [some (.ref 73), some (.int v1), some (.int x5), some (.int x6)]) dX10_keysIn_33 rfl (by decide) (by decide) rfl (fun _ => rfl) (fun x6 ex6 => ?_)
      have h := zK_bd h ex6
      refine r_goto 4 dX10_keysIn_36 (by decide) ?_
      exact k4 ((x5, x6)) (zK_some h)
noncomputable def j_X10_keysIn_4 (v1 : Int32) (v2 : Int32) (v3 : Int32) (M : zzMem) : Option Int32 :=
  zlp (fun s : (Int32 × Int32) => b_X10_keysIn_4 v1 s.1 s.2 M) (v2, v3)
set_option maxHeartbeats 4000000 in
set_option maxRecDepth 100000 in
theorem w_X10_keysIn_4 {G : zzG} {t : Nat} {Q : Option Value → zzMem → Prop} (v1 : Int32) (v2 : Int32) (v3 : Int32) (M : zzMem) (ht : 180 ≤ t)  {P : Int32 → Prop} (h : zK (j_X10_keysIn_4 v1 v2 v3 M) P) (kR : ∀ r : Int32, P r → Q (some (.int r)) M) : zz_W G m_X10_keysIn t t t 4 [some (.ref 73), some (.int v1), some (.int v2), some (.int v3)] [] M Q := by
  unfold j_X10_keysIn_4 at h
  exact zK_lp h (fun s : (Int32 × Int32) => zz_W G m_X10_keysIn t t t 4 [some (.ref 73), some (.int v1), some (.int s.1), some (.int s.2)] [] M Q) (fun s h => x_X10_keysIn_4 v1 s.1 s.2 M ht h (fun s p => p) kR)
noncomputable def f_X10_keysIn (a1 : Int32) (M : zzMem) : Option Int32 :=
  j_X10_keysIn_4 a1 (nI 0) (nI 0) M
set_option maxHeartbeats 4000000 in
set_option maxRecDepth 100000 in
theorem w_X10_keysIn_0 {G : zzG} {t : Nat} {Q : Option Value → zzMem → Prop} (a1 : Int32) (M : zzMem) (ht : 180 ≤ t)  {P : Int32 → Prop} (h : zK (f_X10_keysIn a1 M) P) (kR : ∀ r : Int32, P r → Q (some (.int r)) M) : zz_W G m_X10_keysIn t t t 0 [some (.ref 73), some (.int a1), none, none] [] M Q := by
  unfold f_X10_keysIn at h
  refine r_iconst (v := (nI 0)) dX10_keysIn_0 (by decide) ?_
  refine s_istore_n ([some (.ref 73), some (.int a1), some (.int (nI 0)), none]) dX10_keysIn_1 (by decide) rfl rfl ?_
  refine r_iconst (v := (nI 0)) dX10_keysIn_2 (by decide) ?_
  refine s_istore_n ([some (.ref 73), some (.int a1), some (.int (nI 0)), some (.int (nI 0))]) dX10_keysIn_3 (by decide) rfl rfl ?_
  exact w_X10_keysIn_4 (a1) ((nI 0)) ((nI 0)) M ht h kR
set_option maxHeartbeats 4000000 in
set_option maxRecDepth 100000 in
theorem c_X10_keysIn {G : zzG} {t : Nat} {Q : Option Value → zzMem → Prop} (a1 : Int32) (M : zzMem) (ht : 180 ≤ t)  {P : Int32 → Prop} (h : zK (f_X10_keysIn a1 M) P) (kR : ∀ r : Int32, P r → Q (some (.int r)) M) : zz_S G m_X10_keysIn t t [.ref 73, .int a1] M Q :=
  zz_S_of (by decide) (by decide) (Nat.le_of_ble_eq_true rfl) (w_X10_keysIn_0 a1 M ht h kR)
noncomputable def b_X10_chainOf_4 (v1 : Int32) (v2 : Int32) (v3 : Int32) (M : zzMem) : Option ((Int32 × Int32) ⊕ Int32) :=
  if (nI 256) ≤ v3 then
  (some ((.inr v2)))
  else (zgd (vp_in ((nI 1240) + v3) 5676) (
  if (M.1 74 (((nI 1240) + v3)).toNatClampNeg) = v1 then
  (zbd ((v2 + (nI 1))) (fun x5 =>
  zbd (v3 + (nI 1)) (fun x6 =>
  some (.inl (x5, x6)))))
  else (zbd (v3 + (nI 1)) (fun x4 =>
  some (.inl (v2, x4))))))
set_option maxHeartbeats 4000000 in
set_option maxRecDepth 100000 in
theorem x_X10_chainOf_4 {G : zzG} {t : Nat} {Q : Option Value → zzMem → Prop} (v1 : Int32) (v2 : Int32) (v3 : Int32) (M : zzMem) (ht : 180 ≤ t)  {P : ((Int32 × Int32) ⊕ Int32) → Prop} (h : zK (b_X10_chainOf_4 v1 v2 v3 M) P) (k4 : ∀ s : (Int32 × Int32), P (.inl s) → zz_W G m_X10_chainOf t t t 4 [some (.ref 73), some (.int v1), some (.int s.1), some (.int s.2)] [] M Q) (kR : ∀ r : Int32, P (.inr r) → Q (some (.int r)) M) : zz_W G m_X10_chainOf t t t 4 [some (.ref 73), some (.int v1), some (.int v2), some (.int v3)] [] M Q := by
  unfold b_X10_chainOf_4 at h
  refine r_iload_n dX10_chainOf_4 rfl ?_
  refine r_sipush (v := (nI 256)) dX10_chainOf_5 (by decide) ?_
  refine r_icmp_ge 35 dX10_chainOf_8 (by decide) (fun c1 => ?_) (fun c1 => ?_)
  · have h := zK_pos h c1
    refine r_iload_n dX10_chainOf_35 rfl ?_
    exact r_iret dX10_chainOf_36 rfl rfl rfl (kR (v2) (zK_some h))
  · have h := zK_neg h c1
    refine r_aload_n dX10_chainOf_11 rfl ?_
    refine r_getR (k := 73) (q := 74) dX10_chainOf_12 zf_X10_7 (zo_X10 (zs_X10 ht)) (zr_X10_0 (zs_X10 ht)).1 (zr_X10_0 (zs_X10 ht)).2.1 (zr_X10_0 (zs_X10 ht)).2.2 ?_
    refine r_sipush (v := (nI 1240)) dX10_chainOf_15 (by decide) ?_
    refine r_iload_n dX10_chainOf_18 rfl ?_
    refine r_iadd dX10_chainOf_19 ?_
    obtain ⟨g2, h⟩ := zK_gd h
    refine r_iald dX10_chainOf_20 (za_X10_0 (zs_X10 ht)) g2 ?_
    refine r_iload_n dX10_chainOf_21 rfl ?_
    refine r_icmp_ne 29 dX10_chainOf_22 (by decide) (fun c3 => ?_) (fun c3 => ?_)
    · have h := zK_neg h c3
      refine r_iinc (nI 1) (fun x4 => [some (.ref 73), some (.int v1), some (.int v2), some (.int x4)]) dX10_chainOf_29 rfl (by decide) (by decide) rfl (fun _ => rfl) (fun x4 ex4 => ?_)
      have h := zK_bd h ex4
      refine r_goto 4 dX10_chainOf_32 (by decide) ?_
      exact k4 ((v2, x4)) (zK_some h)
    · have h := zK_pos h c3
      refine r_iload_n dX10_chainOf_25 rfl ?_
      refine r_iconst (v := (nI 1)) dX10_chainOf_26 (by decide) ?_
      refine r_iadd dX10_chainOf_27 ?_
      refine r_istore_n (fun x5 => [some (.ref 73), some (.int v1), some (.int x5), some (.int v3)]) dX10_chainOf_28 (by decide) rfl (fun _ => rfl) (fun x5 ex5 => ?_)
      have h := zK_bd h ex5
      refine r_iinc (nI 1) (fun x6 => [some (.ref 73), some (.int v1), some (.int x5), some (.int x6)]) dX10_chainOf_29 rfl (by decide) (by decide) rfl (fun _ => rfl) (fun x6 ex6 => ?_)
      have h := zK_bd h ex6
      refine r_goto 4 dX10_chainOf_32 (by decide) ?_
      exact k4 ((x5, x6)) (zK_some h)
noncomputable def j_X10_chainOf_4 (v1 : Int32) (v2 : Int32) (v3 : Int32) (M : zzMem) : Option Int32 :=
  zlp (fun s : (Int32 × Int32) => b_X10_chainOf_4 v1 s.1 s.2 M) (v2, v3)
set_option maxHeartbeats 4000000 in
set_option maxRecDepth 100000 in
theorem w_X10_chainOf_4 {G : zzG} {t : Nat} {Q : Option Value → zzMem → Prop} (v1 : Int32) (v2 : Int32) (v3 : Int32) (M : zzMem) (ht : 180 ≤ t)  {P : Int32 → Prop} (h : zK (j_X10_chainOf_4 v1 v2 v3 M) P) (kR : ∀ r : Int32, P r → Q (some (.int r)) M) : zz_W G m_X10_chainOf t t t 4 [some (.ref 73), some (.int v1), some (.int v2), some (.int v3)] [] M Q := by
  unfold j_X10_chainOf_4 at h
  exact zK_lp h (fun s : (Int32 × Int32) => zz_W G m_X10_chainOf t t t 4 [some (.ref 73), some (.int v1), some (.int s.1), some (.int s.2)] [] M Q) (fun s h => x_X10_chainOf_4 v1 s.1 s.2 M ht h (fun s p => p) kR)
noncomputable def f_X10_chainOf (a1 : Int32) (M : zzMem) : Option Int32 :=
  j_X10_chainOf_4 a1 (nI 0) (nI 0) M
set_option maxHeartbeats 4000000 in
set_option maxRecDepth 100000 in
theorem w_X10_chainOf_0 {G : zzG} {t : Nat} {Q : Option Value → zzMem → Prop} (a1 : Int32) (M : zzMem) (ht : 180 ≤ t)  {P : Int32 → Prop} (h : zK (f_X10_chainOf a1 M) P) (kR : ∀ r : Int32, P r → Q (some (.int r)) M) : zz_W G m_X10_chainOf t t t 0 [some (.ref 73), some (.int a1), none, none] [] M Q := by
  unfold f_X10_chainOf at h
  refine r_iconst (v := (nI 0)) dX10_chainOf_0 (by decide) ?_
  refine s_istore_n ([some (.ref 73), some (.int a1), some (.int (nI 0)), none]) dX10_chainOf_1 (by decide) rfl rfl ?_
  refine r_iconst (v := (nI 0)) dX10_chainOf_2 (by decide) ?_
  refine s_istore_n ([some (.ref 73), some (.int a1), some (.int (nI 0)), some (.int (nI 0))]) dX10_chainOf_3 (by decide) rfl rfl ?_
  exact w_X10_chainOf_4 (a1) ((nI 0)) ((nI 0)) M ht h kR
set_option maxHeartbeats 4000000 in
set_option maxRecDepth 100000 in
theorem c_X10_chainOf {G : zzG} {t : Nat} {Q : Option Value → zzMem → Prop} (a1 : Int32) (M : zzMem) (ht : 180 ≤ t)  {P : Int32 → Prop} (h : zK (f_X10_chainOf a1 M) P) (kR : ∀ r : Int32, P r → Q (some (.int r)) M) : zz_S G m_X10_chainOf t t [.ref 73, .int a1] M Q :=
  zz_S_of (by decide) (by decide) (Nat.le_of_ble_eq_true rfl) (w_X10_chainOf_0 a1 M ht h kR)
noncomputable def b_X10_pageAt_2 (v1 : Int32) (v2 : Int32) (v3 : Int32) (M : zzMem) : Option (Int32 ⊕ Int32) :=
  if (nI 256) ≤ v3 then
  (some ((.inr (-1 : Int32))))
  else (zgd (vp_in ((nI 1240) + v3) 5676) (
  if (M.1 74 (((nI 1240) + v3)).toNatClampNeg) = v1 then
  (zgd (vp_in ((nI 1496) + v3) 5676) (
  if (M.1 74 (((nI 1496) + v3)).toNatClampNeg) = v2 then
  (some ((.inr v3)))
  else (zbd (v3 + (nI 1)) (fun x7 =>
  some (.inl x7)))))
  else (zbd (v3 + (nI 1)) (fun x4 =>
  some (.inl x4)))))
set_option maxHeartbeats 4000000 in
set_option maxRecDepth 100000 in
theorem x_X10_pageAt_2 {G : zzG} {t : Nat} {Q : Option Value → zzMem → Prop} (v1 : Int32) (v2 : Int32) (v3 : Int32) (M : zzMem) (ht : 180 ≤ t)  {P : (Int32 ⊕ Int32) → Prop} (h : zK (b_X10_pageAt_2 v1 v2 v3 M) P) (k2 : ∀ s : Int32, P (.inl s) → zz_W G m_X10_pageAt t t t 2 [some (.ref 73), some (.int v1), some (.int v2), some (.int s)] [] M Q) (kR : ∀ r : Int32, P (.inr r) → Q (some (.int r)) M) : zz_W G m_X10_pageAt t t t 2 [some (.ref 73), some (.int v1), some (.int v2), some (.int v3)] [] M Q := by
  unfold b_X10_pageAt_2 at h
  refine r_iload_n dX10_pageAt_2 rfl ?_
  refine r_sipush (v := (nI 256)) dX10_pageAt_3 (by decide) ?_
  refine r_icmp_ge 45 dX10_pageAt_6 (by decide) (fun c1 => ?_) (fun c1 => ?_)
  · have h := zK_pos h c1
    refine r_iconst (v := (-1 : Int32)) dX10_pageAt_45 (by decide) ?_
    exact r_iret dX10_pageAt_46 rfl rfl rfl (kR ((-1 : Int32)) (zK_some h))
  · have h := zK_neg h c1
    refine r_aload_n dX10_pageAt_9 rfl ?_
    refine r_getR (k := 73) (q := 74) dX10_pageAt_10 zf_X10_7 (zo_X10 (zs_X10 ht)) (zr_X10_0 (zs_X10 ht)).1 (zr_X10_0 (zs_X10 ht)).2.1 (zr_X10_0 (zs_X10 ht)).2.2 ?_
    refine r_sipush (v := (nI 1240)) dX10_pageAt_13 (by decide) ?_
    refine r_iload_n dX10_pageAt_16 rfl ?_
    refine r_iadd dX10_pageAt_17 ?_
    obtain ⟨g2, h⟩ := zK_gd h
    refine r_iald dX10_pageAt_18 (za_X10_0 (zs_X10 ht)) g2 ?_
    refine r_iload_n dX10_pageAt_19 rfl ?_
    refine r_icmp_ne 39 dX10_pageAt_20 (by decide) (fun c3 => ?_) (fun c3 => ?_)
    · have h := zK_neg h c3
      refine r_iinc (nI 1) (fun x4 => [some (.ref 73), some (.int v1), some (.int v2), some (.int x4)]) dX10_pageAt_39 rfl (by decide) (by decide) rfl (fun _ => rfl) (fun x4 ex4 => ?_)
      have h := zK_bd h ex4
      refine r_goto 2 dX10_pageAt_42 (by decide) ?_
      exact k2 (x4) (zK_some h)
    · have h := zK_pos h c3
      refine r_aload_n dX10_pageAt_23 rfl ?_
      refine r_getR (k := 73) (q := 74) dX10_pageAt_24 zf_X10_7 (zo_X10 (zs_X10 ht)) (zr_X10_0 (zs_X10 ht)).1 (zr_X10_0 (zs_X10 ht)).2.1 (zr_X10_0 (zs_X10 ht)).2.2 ?_
      refine r_sipush (v := (nI 1496)) dX10_pageAt_27 (by decide) ?_
      refine r_iload_n dX10_pageAt_30 rfl ?_
      refine r_iadd dX10_pageAt_31 ?_
      obtain ⟨g5, h⟩ := zK_gd h
      refine r_iald dX10_pageAt_32 (za_X10_0 (zs_X10 ht)) g5 ?_
      refine r_iload_n dX10_pageAt_33 rfl ?_
      refine r_icmp_ne 39 dX10_pageAt_34 (by decide) (fun c6 => ?_) (fun c6 => ?_)
      · have h := zK_neg h c6
        refine r_iinc (nI 1) (fun x7 => [some (.ref 73), some (.int v1), some (.int v2), some (.int x7)]) dX10_pageAt_39 rfl (by decide) (by decide) rfl (fun _ => rfl) (fun x7 ex7 => ?_)
        have h := zK_bd h ex7
        refine r_goto 2 dX10_pageAt_42 (by decide) ?_
        exact k2 (x7) (zK_some h)
      · have h := zK_pos h c6
        refine r_iload_n dX10_pageAt_37 rfl ?_
        exact r_iret dX10_pageAt_38 rfl rfl rfl (kR (v3) (zK_some h))
noncomputable def j_X10_pageAt_2 (v1 : Int32) (v2 : Int32) (v3 : Int32) (M : zzMem) : Option Int32 :=
  zlp (fun s : Int32 => b_X10_pageAt_2 v1 v2 s M) v3
set_option maxHeartbeats 4000000 in
set_option maxRecDepth 100000 in
theorem w_X10_pageAt_2 {G : zzG} {t : Nat} {Q : Option Value → zzMem → Prop} (v1 : Int32) (v2 : Int32) (v3 : Int32) (M : zzMem) (ht : 180 ≤ t)  {P : Int32 → Prop} (h : zK (j_X10_pageAt_2 v1 v2 v3 M) P) (kR : ∀ r : Int32, P r → Q (some (.int r)) M) : zz_W G m_X10_pageAt t t t 2 [some (.ref 73), some (.int v1), some (.int v2), some (.int v3)] [] M Q := by
  unfold j_X10_pageAt_2 at h
  exact zK_lp h (fun s : Int32 => zz_W G m_X10_pageAt t t t 2 [some (.ref 73), some (.int v1), some (.int v2), some (.int s)] [] M Q) (fun s h => x_X10_pageAt_2 v1 v2 s M ht h (fun s p => p) kR)
noncomputable def f_X10_pageAt (a1 : Int32) (a2 : Int32) (M : zzMem) : Option Int32 :=
  j_X10_pageAt_2 a1 a2 (nI 0) M
set_option maxHeartbeats 4000000 in
set_option maxRecDepth 100000 in
theorem w_X10_pageAt_0 {G : zzG} {t : Nat} {Q : Option Value → zzMem → Prop} (a1 : Int32) (a2 : Int32) (M : zzMem) (ht : 180 ≤ t)  {P : Int32 → Prop} (h : zK (f_X10_pageAt a1 a2 M) P) (kR : ∀ r : Int32, P r → Q (some (.int r)) M) : zz_W G m_X10_pageAt t t t 0 [some (.ref 73), some (.int a1), some (.int a2), none] [] M Q := by
  unfold f_X10_pageAt at h
  refine r_iconst (v := (nI 0)) dX10_pageAt_0 (by decide) ?_
  refine s_istore_n ([some (.ref 73), some (.int a1), some (.int a2), some (.int (nI 0))]) dX10_pageAt_1 (by decide) rfl rfl ?_
  exact w_X10_pageAt_2 (a1) (a2) ((nI 0)) M ht h kR
set_option maxHeartbeats 4000000 in
set_option maxRecDepth 100000 in
theorem c_X10_pageAt {G : zzG} {t : Nat} {Q : Option Value → zzMem → Prop} (a1 : Int32) (a2 : Int32) (M : zzMem) (ht : 180 ≤ t)  {P : Int32 → Prop} (h : zK (f_X10_pageAt a1 a2 M) P) (kR : ∀ r : Int32, P r → Q (some (.int r)) M) : zz_S G m_X10_pageAt t t [.ref 73, .int a1, .int a2] M Q :=
  zz_S_of (by decide) (by decide) (Nat.le_of_ble_eq_true rfl) (w_X10_pageAt_0 a1 a2 M ht h kR)
noncomputable def b_X10_placeOf_4 (v1 : Int32) (v2 : Int32) (v3 : Int32) (M : zzMem) : Option ((Int32 × Int32) ⊕ Int32) :=
  if (M.1 74 7) ≤ v3 then
  (some ((.inr v2)))
  else (zgd (vp_in ((nI 640) + v3) 5676) (
  zgd (vp_in ((nI 640) + v1) 5676) (
  if (M.1 74 (((nI 640) + v3)).toNatClampNeg) = (M.1 74 (((nI 640) + v1)).toNatClampNeg) then
  (zgd (vp_in ((nI 940) + v3) 5676) (
  zgd (vp_in ((nI 940) + v1) 5676) (
  if (M.1 74 (((nI 940) + v1)).toNatClampNeg) ≤ (M.1 74 (((nI 940) + v3)).toNatClampNeg) then
  (zbd (v3 + (nI 1)) (fun x9 =>
  some (.inl (v2, x9))))
  else (zbd ((v2 + (nI 1))) (fun x10 =>
  zbd (v3 + (nI 1)) (fun x11 =>
  some (.inl (x10, x11))))))))
  else (zbd (v3 + (nI 1)) (fun x5 =>
  some (.inl (v2, x5)))))))
set_option maxHeartbeats 4000000 in
set_option maxRecDepth 100000 in
theorem x_X10_placeOf_4 {G : zzG} {t : Nat} {Q : Option Value → zzMem → Prop} (v1 : Int32) (v2 : Int32) (v3 : Int32) (M : zzMem) (ht : 180 ≤ t)  {P : ((Int32 × Int32) ⊕ Int32) → Prop} (h : zK (b_X10_placeOf_4 v1 v2 v3 M) P) (k4 : ∀ s : (Int32 × Int32), P (.inl s) → zz_W G m_X10_placeOf t t t 4 [some (.ref 73), some (.int v1), some (.int s.1), some (.int s.2)] [] M Q) (kR : ∀ r : Int32, P (.inr r) → Q (some (.int r)) M) : zz_W G m_X10_placeOf t t t 4 [some (.ref 73), some (.int v1), some (.int v2), some (.int v3)] [] M Q := by
  unfold b_X10_placeOf_4 at h
  refine r_iload_n dX10_placeOf_4 rfl ?_
  refine r_aload_n dX10_placeOf_5 rfl ?_
  refine r_getR (k := 73) (q := 74) dX10_placeOf_6 zf_X10_7 (zo_X10 (zs_X10 ht)) (zr_X10_0 (zs_X10 ht)).1 (zr_X10_0 (zs_X10 ht)).2.1 (zr_X10_0 (zs_X10 ht)).2.2 ?_
  refine r_bipush (v := (nI 7)) dX10_placeOf_9 (by decide) ?_
  refine r_ialdc (j := 7) dX10_placeOf_11 (za_X10_0 (zs_X10 ht)) rfl rfl ?_
  refine r_icmp_ge 71 dX10_placeOf_12 (by decide) (fun c1 => ?_) (fun c1 => ?_)
  · have h := zK_pos h c1
    refine r_iload_n dX10_placeOf_71 rfl ?_
    exact r_iret dX10_placeOf_72 rfl rfl rfl (kR (v2) (zK_some h))
  · have h := zK_neg h c1
    refine r_aload_n dX10_placeOf_15 rfl ?_
    refine r_getR (k := 73) (q := 74) dX10_placeOf_16 zf_X10_7 (zo_X10 (zs_X10 ht)) (zr_X10_0 (zs_X10 ht)).1 (zr_X10_0 (zs_X10 ht)).2.1 (zr_X10_0 (zs_X10 ht)).2.2 ?_
    refine r_sipush (v := (nI 640)) dX10_placeOf_19 (by decide) ?_
    refine r_iload_n dX10_placeOf_22 rfl ?_
    refine r_iadd dX10_placeOf_23 ?_
    obtain ⟨g2, h⟩ := zK_gd h
    refine r_iald dX10_placeOf_24 (za_X10_0 (zs_X10 ht)) g2 ?_
    refine r_aload_n dX10_placeOf_25 rfl ?_
    refine r_getR (k := 73) (q := 74) dX10_placeOf_26 zf_X10_7 (zo_X10 (zs_X10 ht)) (zr_X10_0 (zs_X10 ht)).1 (zr_X10_0 (zs_X10 ht)).2.1 (zr_X10_0 (zs_X10 ht)).2.2 ?_
    refine r_sipush (v := (nI 640)) dX10_placeOf_29 (by decide) ?_
    refine r_iload_n dX10_placeOf_32 rfl ?_
    refine r_iadd dX10_placeOf_33 ?_
    obtain ⟨g3, h⟩ := zK_gd h
    refine r_iald dX10_placeOf_34 (za_X10_0 (zs_X10 ht)) g3 ?_
    refine r_icmp_ne 65 dX10_placeOf_35 (by decide) (fun c4 => ?_) (fun c4 => ?_)
    · have h := zK_neg h c4
      refine r_iinc (nI 1) (fun x5 => [some (.ref 73), some (.int v1), some (.int v2), some (.int x5)]) dX10_placeOf_65 rfl (by decide) (by decide) rfl (fun _ => rfl) (fun x5 ex5 => ?_)
      have h := zK_bd h ex5
      refine r_goto 4 dX10_placeOf_68 (by decide) ?_
      exact k4 ((v2, x5)) (zK_some h)
    · have h := zK_pos h c4
      refine r_aload_n dX10_placeOf_38 rfl ?_
      refine r_getR (k := 73) (q := 74) dX10_placeOf_39 zf_X10_7 (zo_X10 (zs_X10 ht)) (zr_X10_0 (zs_X10 ht)).1 (zr_X10_0 (zs_X10 ht)).2.1 (zr_X10_0 (zs_X10 ht)).2.2 ?_
      refine r_sipush (v := (nI 940)) dX10_placeOf_42 (by decide) ?_
      refine r_iload_n dX10_placeOf_45 rfl ?_
      refine r_iadd dX10_placeOf_46 ?_
      obtain ⟨g6, h⟩ := zK_gd h
      refine r_iald dX10_placeOf_47 (za_X10_0 (zs_X10 ht)) g6 ?_
      refine r_aload_n dX10_placeOf_48 rfl ?_
      refine r_getR (k := 73) (q := 74) dX10_placeOf_49 zf_X10_7 (zo_X10 (zs_X10 ht)) (zr_X10_0 (zs_X10 ht)).1 (zr_X10_0 (zs_X10 ht)).2.1 (zr_X10_0 (zs_X10 ht)).2.2 ?_
      refine r_sipush (v := (nI 940)) dX10_placeOf_52 (by decide) ?_
      refine r_iload_n dX10_placeOf_55 rfl ?_
      refine r_iadd dX10_placeOf_56 ?_
      obtain ⟨g7, h⟩ := zK_gd h
      refine r_iald dX10_placeOf_57 (za_X10_0 (zs_X10 ht)) g7 ?_
      refine r_icmp_ge 65 dX10_placeOf_58 (by decide) (fun c8 => ?_) (fun c8 => ?_)
      · have h := zK_pos h c8
        refine r_iinc (nI 1) (fun x9 => [some (.ref 73), some (.int v1), some (.int v2), some (.int x9)]) dX10_placeOf_65 rfl (by decide) (by decide) rfl (fun _ => rfl) (fun x9 ex9 => ?_)
        have h := zK_bd h ex9
        refine r_goto 4 dX10_placeOf_68 (by decide) ?_
        exact k4 ((v2, x9)) (zK_some h)
      · have h := zK_neg h c8
        refine r_iload_n dX10_placeOf_61 rfl ?_
        refine r_iconst (v := (nI 1)) dX10_placeOf_62 (by decide) ?_
        refine r_iadd dX10_placeOf_63 ?_
        refine r_istore_n (fun x10 => [some (.ref 73), some (.int v1), some (.int x10), some (.int v3)]) dX10_placeOf_64 (by decide) rfl (fun _ => rfl) (fun x10 ex10 => ?_)
        have h := zK_bd h ex10
        refine r_iinc (nI 1) (fun x11 => [some (.ref 73), some (.int v1), some (.int x10), some (.int x11)]) dX10_placeOf_65 rfl (by decide) (by decide) rfl (fun _ => rfl) (fun x11 ex11 => ?_)
        have h := zK_bd h ex11
        refine r_goto 4 dX10_placeOf_68 (by decide) ?_
        exact k4 ((x10, x11)) (zK_some h)
noncomputable def j_X10_placeOf_4 (v1 : Int32) (v2 : Int32) (v3 : Int32) (M : zzMem) : Option Int32 :=
  zlp (fun s : (Int32 × Int32) => b_X10_placeOf_4 v1 s.1 s.2 M) (v2, v3)
set_option maxHeartbeats 4000000 in
set_option maxRecDepth 100000 in
theorem w_X10_placeOf_4 {G : zzG} {t : Nat} {Q : Option Value → zzMem → Prop} (v1 : Int32) (v2 : Int32) (v3 : Int32) (M : zzMem) (ht : 180 ≤ t)  {P : Int32 → Prop} (h : zK (j_X10_placeOf_4 v1 v2 v3 M) P) (kR : ∀ r : Int32, P r → Q (some (.int r)) M) : zz_W G m_X10_placeOf t t t 4 [some (.ref 73), some (.int v1), some (.int v2), some (.int v3)] [] M Q := by
  unfold j_X10_placeOf_4 at h
  exact zK_lp h (fun s : (Int32 × Int32) => zz_W G m_X10_placeOf t t t 4 [some (.ref 73), some (.int v1), some (.int s.1), some (.int s.2)] [] M Q) (fun s h => x_X10_placeOf_4 v1 s.1 s.2 M ht h (fun s p => p) kR)
noncomputable def f_X10_placeOf (a1 : Int32) (M : zzMem) : Option Int32 :=
  j_X10_placeOf_4 a1 (nI 0) (nI 0) M
set_option maxHeartbeats 4000000 in
set_option maxRecDepth 100000 in
theorem w_X10_placeOf_0 {G : zzG} {t : Nat} {Q : Option Value → zzMem → Prop} (a1 : Int32) (M : zzMem) (ht : 180 ≤ t)  {P : Int32 → Prop} (h : zK (f_X10_placeOf a1 M) P) (kR : ∀ r : Int32, P r → Q (some (.int r)) M) : zz_W G m_X10_placeOf t t t 0 [some (.ref 73), some (.int a1), none, none] [] M Q := by
  unfold f_X10_placeOf at h
  refine r_iconst (v := (nI 0)) dX10_placeOf_0 (by decide) ?_
  refine s_istore_n ([some (.ref 73), some (.int a1), some (.int (nI 0)), none]) dX10_placeOf_1 (by decide) rfl rfl ?_
  refine r_iconst (v := (nI 0)) dX10_placeOf_2 (by decide) ?_
  refine s_istore_n ([some (.ref 73), some (.int a1), some (.int (nI 0)), some (.int (nI 0))]) dX10_placeOf_3 (by decide) rfl rfl ?_
  exact w_X10_placeOf_4 (a1) ((nI 0)) ((nI 0)) M ht h kR
set_option maxHeartbeats 4000000 in
set_option maxRecDepth 100000 in
theorem c_X10_placeOf {G : zzG} {t : Nat} {Q : Option Value → zzMem → Prop} (a1 : Int32) (M : zzMem) (ht : 180 ≤ t)  {P : Int32 → Prop} (h : zK (f_X10_placeOf a1 M) P) (kR : ∀ r : Int32, P r → Q (some (.int r)) M) : zz_S G m_X10_placeOf t t [.ref 73, .int a1] M Q :=
  zz_S_of (by decide) (by decide) (Nat.le_of_ble_eq_true rfl) (w_X10_placeOf_0 a1 M ht h kR)
noncomputable def b_X10_entryAt_2 (v1 : Int32) (v2 : Int32) (v3 : Int32) (M : zzMem) : Option (Int32 ⊕ Int32) :=
  if (M.1 74 7) ≤ v3 then
  (some ((.inr (-1 : Int32))))
  else (zgd (vp_in ((nI 640) + v3) 5676) (
  if (M.1 74 (((nI 640) + v3)).toNatClampNeg) = v1 then
  ((f_X10_placeOf v3 M).bind (fun r5 =>
  if r5 = v2 then
  (some ((.inr v3)))
  else (zbd (v3 + (nI 1)) (fun x7 =>
  some (.inl x7)))))
  else (zbd (v3 + (nI 1)) (fun x4 =>
  some (.inl x4)))))
set_option maxHeartbeats 4000000 in
set_option maxRecDepth 100000 in
theorem x_X10_entryAt_2 {G : zzG} {t : Nat} {Q : Option Value → zzMem → Prop} (v1 : Int32) (v2 : Int32) (v3 : Int32) (M : zzMem) (ht : 180 ≤ t)  {P : (Int32 ⊕ Int32) → Prop} (h : zK (b_X10_entryAt_2 v1 v2 v3 M) P) (k2 : ∀ s : Int32, P (.inl s) → zz_W G m_X10_entryAt t t t 2 [some (.ref 73), some (.int v1), some (.int v2), some (.int s)] [] M Q) (kR : ∀ r : Int32, P (.inr r) → Q (some (.int r)) M) : zz_W G m_X10_entryAt t t t 2 [some (.ref 73), some (.int v1), some (.int v2), some (.int v3)] [] M Q := by
  unfold b_X10_entryAt_2 at h
  refine r_iload_n dX10_entryAt_2 rfl ?_
  refine r_aload_n dX10_entryAt_3 rfl ?_
  refine r_getR (k := 73) (q := 74) dX10_entryAt_4 zf_X10_7 (zo_X10 (zs_X10 ht)) (zr_X10_0 (zs_X10 ht)).1 (zr_X10_0 (zs_X10 ht)).2.1 (zr_X10_0 (zs_X10 ht)).2.2 ?_
  refine r_bipush (v := (nI 7)) dX10_entryAt_7 (by decide) ?_
  refine r_ialdc (j := 7) dX10_entryAt_9 (za_X10_0 (zs_X10 ht)) rfl rfl ?_
  refine r_icmp_ge 44 dX10_entryAt_10 (by decide) (fun c1 => ?_) (fun c1 => ?_)
  · have h := zK_pos h c1
    refine r_iconst (v := (-1 : Int32)) dX10_entryAt_44 (by decide) ?_
    exact r_iret dX10_entryAt_45 rfl rfl rfl (kR ((-1 : Int32)) (zK_some h))
  · have h := zK_neg h c1
    refine r_aload_n dX10_entryAt_13 rfl ?_
    refine r_getR (k := 73) (q := 74) dX10_entryAt_14 zf_X10_7 (zo_X10 (zs_X10 ht)) (zr_X10_0 (zs_X10 ht)).1 (zr_X10_0 (zs_X10 ht)).2.1 (zr_X10_0 (zs_X10 ht)).2.2 ?_
    refine r_sipush (v := (nI 640)) dX10_entryAt_17 (by decide) ?_
    refine r_iload_n dX10_entryAt_20 rfl ?_
    refine r_iadd dX10_entryAt_21 ?_
    obtain ⟨g2, h⟩ := zK_gd h
    refine r_iald dX10_entryAt_22 (za_X10_0 (zs_X10 ht)) g2 ?_
    refine r_iload_n dX10_entryAt_23 rfl ?_
    refine r_icmp_ne 38 dX10_entryAt_24 (by decide) (fun c3 => ?_) (fun c3 => ?_)
    · have h := zK_neg h c3
      refine r_iinc (nI 1) (fun x4 => [some (.ref 73), some (.int v1), some (.int v2), some (.int x4)]) dX10_entryAt_38 rfl (by decide) (by decide) rfl (fun _ => rfl) (fun x4 ex4 => ?_)
      have h := zK_bd h ex4
      refine r_goto 2 dX10_entryAt_41 (by decide) ?_
      exact k2 (x4) (zK_some h)
    · have h := zK_pos h c3
      refine r_aload_n dX10_entryAt_27 rfl ?_
      refine r_iload_n dX10_entryAt_28 rfl ?_
      refine kV_ir (as := [.int v3]) (st := []) (k := 73) dX10_entryAt_29 zM_X10_placeOf zk_X10_169 (zo_X10 (zs_X10 ht)) (by decide) rfl ⟨Nat.le_of_ble_eq_true rfl, Nat.le_of_ble_eq_true rfl⟩ (Nat.le_of_ble_eq_true rfl) (zz_T0 rfl rfl) (fun Q' P' k h => c_X10_placeOf (v3) M ht h k) h (fun r5 h => ?_)
      refine r_iload_n dX10_entryAt_32 rfl ?_
      refine r_icmp_ne 38 dX10_entryAt_33 (by decide) (fun c6 => ?_) (fun c6 => ?_)
      · have h := zK_neg h c6
        refine r_iinc (nI 1) (fun x7 => [some (.ref 73), some (.int v1), some (.int v2), some (.int x7)]) dX10_entryAt_38 rfl (by decide) (by decide) rfl (fun _ => rfl) (fun x7 ex7 => ?_)
        have h := zK_bd h ex7
        refine r_goto 2 dX10_entryAt_41 (by decide) ?_
        exact k2 (x7) (zK_some h)
      · have h := zK_pos h c6
        refine r_iload_n dX10_entryAt_36 rfl ?_
        exact r_iret dX10_entryAt_37 rfl rfl rfl (kR (v3) (zK_some h))
noncomputable def j_X10_entryAt_2 (v1 : Int32) (v2 : Int32) (v3 : Int32) (M : zzMem) : Option Int32 :=
  zlp (fun s : Int32 => b_X10_entryAt_2 v1 v2 s M) v3
set_option maxHeartbeats 4000000 in
set_option maxRecDepth 100000 in
theorem w_X10_entryAt_2 {G : zzG} {t : Nat} {Q : Option Value → zzMem → Prop} (v1 : Int32) (v2 : Int32) (v3 : Int32) (M : zzMem) (ht : 180 ≤ t)  {P : Int32 → Prop} (h : zK (j_X10_entryAt_2 v1 v2 v3 M) P) (kR : ∀ r : Int32, P r → Q (some (.int r)) M) : zz_W G m_X10_entryAt t t t 2 [some (.ref 73), some (.int v1), some (.int v2), some (.int v3)] [] M Q := by
  unfold j_X10_entryAt_2 at h
  exact zK_lp h (fun s : Int32 => zz_W G m_X10_entryAt t t t 2 [some (.ref 73), some (.int v1), some (.int v2), some (.int s)] [] M Q) (fun s h => x_X10_entryAt_2 v1 v2 s M ht h (fun s p => p) kR)
noncomputable def f_X10_entryAt (a1 : Int32) (a2 : Int32) (M : zzMem) : Option Int32 :=
  j_X10_entryAt_2 a1 a2 (nI 0) M
set_option maxHeartbeats 4000000 in
set_option maxRecDepth 100000 in
theorem w_X10_entryAt_0 {G : zzG} {t : Nat} {Q : Option Value → zzMem → Prop} (a1 : Int32) (a2 : Int32) (M : zzMem) (ht : 180 ≤ t)  {P : Int32 → Prop} (h : zK (f_X10_entryAt a1 a2 M) P) (kR : ∀ r : Int32, P r → Q (some (.int r)) M) : zz_W G m_X10_entryAt t t t 0 [some (.ref 73), some (.int a1), some (.int a2), none] [] M Q := by
  unfold f_X10_entryAt at h
  refine r_iconst (v := (nI 0)) dX10_entryAt_0 (by decide) ?_
  refine s_istore_n ([some (.ref 73), some (.int a1), some (.int a2), some (.int (nI 0))]) dX10_entryAt_1 (by decide) rfl rfl ?_
  exact w_X10_entryAt_2 (a1) (a2) ((nI 0)) M ht h kR
set_option maxHeartbeats 4000000 in
set_option maxRecDepth 100000 in
theorem c_X10_entryAt {G : zzG} {t : Nat} {Q : Option Value → zzMem → Prop} (a1 : Int32) (a2 : Int32) (M : zzMem) (ht : 180 ≤ t)  {P : Int32 → Prop} (h : zK (f_X10_entryAt a1 a2 M) P) (kR : ∀ r : Int32, P r → Q (some (.int r)) M) : zz_S G m_X10_entryAt t t [.ref 73, .int a1, .int a2] M Q :=
  zz_S_of (by decide) (by decide) (Nat.le_of_ble_eq_true rfl) (w_X10_entryAt_0 a1 a2 M ht h kR)
noncomputable def b_X10_takesPage_2 (v1 : Int32) (v2 : Int32) (v3 : Int32) (M : zzMem) : Option (Int32 ⊕ zzMem) :=
  zgd (vp_in ((nI 1240) + v3) 5676) (
  if (M.1 74 (((nI 1240) + v3)).toNatClampNeg) = (-1 : Int32) then
  (zbd (zz_si M 74 (((nI 1240) + v3)).toNatClampNeg v1) (fun M3 =>
  zgd (vp_in ((nI 1496) + v3) 5676) (
  zbd (zz_si M3 74 (((nI 1496) + v3)).toNatClampNeg v2) (fun M5 =>
  some ((.inr M5))))))
  else (zbd ((v3 + (nI 1))) (fun x6 =>
  some (.inl x6))))
set_option maxHeartbeats 4000000 in
set_option maxRecDepth 100000 in
theorem x_X10_takesPage_2 {G : zzG} {t : Nat} {Q : Option Value → zzMem → Prop} (v1 : Int32) (v2 : Int32) (v3 : Int32) (M : zzMem) (ht : 180 ≤ t)  {P : (Int32 ⊕ zzMem) → Prop} (h : zK (b_X10_takesPage_2 v1 v2 v3 M) P) (k2 : ∀ s : Int32, P (.inl s) → zz_W G m_X10_takesPage t t t 2 [some (.ref 73), some (.int v1), some (.int v2), some (.int s)] [] M Q) (kR : ∀ r : zzMem, P (.inr r) → Q none r) : zz_W G m_X10_takesPage t t t 2 [some (.ref 73), some (.int v1), some (.int v2), some (.int v3)] [] M Q := by
  unfold b_X10_takesPage_2 at h
  refine r_aload_n dX10_takesPage_2 rfl ?_
  refine r_getR (k := 73) (q := 74) dX10_takesPage_3 zf_X10_7 (zo_X10 (zs_X10 ht)) (zr_X10_0 (zs_X10 ht)).1 (zr_X10_0 (zs_X10 ht)).2.1 (zr_X10_0 (zs_X10 ht)).2.2 ?_
  refine r_sipush (v := (nI 1240)) dX10_takesPage_6 (by decide) ?_
  refine r_iload_n dX10_takesPage_9 rfl ?_
  refine r_iadd dX10_takesPage_10 ?_
  obtain ⟨g1, h⟩ := zK_gd h
  refine r_iald dX10_takesPage_11 (za_X10_0 (zs_X10 ht)) g1 ?_
  refine r_iconst (v := (-1 : Int32)) dX10_takesPage_12 (by decide) ?_
  refine r_icmp_eq 23 dX10_takesPage_13 (by decide) (fun c2 => ?_) (fun c2 => ?_)
  · have h := zK_pos h c2
    refine r_aload_n dX10_takesPage_23 rfl ?_
    refine r_getR (k := 73) (q := 74) dX10_takesPage_24 zf_X10_7 (zo_X10 (zs_X10 ht)) (zr_X10_0 (zs_X10 ht)).1 (zr_X10_0 (zs_X10 ht)).2.1 (zr_X10_0 (zs_X10 ht)).2.2 ?_
    refine r_sipush (v := (nI 1240)) dX10_takesPage_27 (by decide) ?_
    refine r_iload_n dX10_takesPage_30 rfl ?_
    refine r_iadd dX10_takesPage_31 ?_
    refine r_iload_n dX10_takesPage_32 rfl ?_
    refine r_iast dX10_takesPage_33 (za_X10_0 (zs_X10 ht)) g1 (fun M3 eM3 => ?_)
    have h := zK_bd h eM3
    refine r_aload_n dX10_takesPage_34 rfl ?_
    refine r_getR (k := 73) (q := 74) dX10_takesPage_35 zf_X10_7 (zo_X10 (zs_X10 ht)) (zr_X10_0 (zs_X10 ht)).1 (zr_X10_0 (zs_X10 ht)).2.1 (zr_X10_0 (zs_X10 ht)).2.2 ?_
    refine r_sipush (v := (nI 1496)) dX10_takesPage_38 (by decide) ?_
    refine r_iload_n dX10_takesPage_41 rfl ?_
    refine r_iadd dX10_takesPage_42 ?_
    refine r_iload_n dX10_takesPage_43 rfl ?_
    obtain ⟨g4, h⟩ := zK_gd h
    refine r_iast dX10_takesPage_44 (za_X10_0 (zs_X10 ht)) g4 (fun M5 eM5 => ?_)
    have h := zK_bd h eM5
    exact r_vret dX10_takesPage_45 rfl rfl rfl (kR (M5) (zK_some h))
  · have h := zK_neg h c2
    refine r_iload_n dX10_takesPage_16 rfl ?_
    refine r_iconst (v := (nI 1)) dX10_takesPage_17 (by decide) ?_
    refine r_iadd dX10_takesPage_18 ?_
    refine r_istore_n (fun x6 => [some (.ref 73), some (.int v1), some (.int v2), some (.int x6)]) dX10_takesPage_19 (by decide) rfl (fun _ => rfl) (fun x6 ex6 => ?_)
    have h := zK_bd h ex6
    refine r_goto 2 dX10_takesPage_20 (by decide) ?_
    exact k2 (x6) (zK_some h)
noncomputable def j_X10_takesPage_2 (v1 : Int32) (v2 : Int32) (v3 : Int32) (M : zzMem) : Option zzMem :=
  zlp (fun s : Int32 => b_X10_takesPage_2 v1 v2 s M) v3
set_option maxHeartbeats 4000000 in
set_option maxRecDepth 100000 in
theorem w_X10_takesPage_2 {G : zzG} {t : Nat} {Q : Option Value → zzMem → Prop} (v1 : Int32) (v2 : Int32) (v3 : Int32) (M : zzMem) (ht : 180 ≤ t)  {P : zzMem → Prop} (h : zK (j_X10_takesPage_2 v1 v2 v3 M) P) (kR : ∀ r : zzMem, P r → Q none r) : zz_W G m_X10_takesPage t t t 2 [some (.ref 73), some (.int v1), some (.int v2), some (.int v3)] [] M Q := by
  unfold j_X10_takesPage_2 at h
  exact zK_lp h (fun s : Int32 => zz_W G m_X10_takesPage t t t 2 [some (.ref 73), some (.int v1), some (.int v2), some (.int s)] [] M Q) (fun s h => x_X10_takesPage_2 v1 v2 s M ht h (fun s p => p) kR)
noncomputable def f_X10_takesPage (a1 : Int32) (a2 : Int32) (M : zzMem) : Option zzMem :=
  j_X10_takesPage_2 a1 a2 (nI 0) M
set_option maxHeartbeats 4000000 in
set_option maxRecDepth 100000 in
theorem w_X10_takesPage_0 {G : zzG} {t : Nat} {Q : Option Value → zzMem → Prop} (a1 : Int32) (a2 : Int32) (M : zzMem) (ht : 180 ≤ t)  {P : zzMem → Prop} (h : zK (f_X10_takesPage a1 a2 M) P) (kR : ∀ r : zzMem, P r → Q none r) : zz_W G m_X10_takesPage t t t 0 [some (.ref 73), some (.int a1), some (.int a2), none] [] M Q := by
  unfold f_X10_takesPage at h
  refine r_iconst (v := (nI 0)) dX10_takesPage_0 (by decide) ?_
  refine s_istore_n ([some (.ref 73), some (.int a1), some (.int a2), some (.int (nI 0))]) dX10_takesPage_1 (by decide) rfl rfl ?_
  exact w_X10_takesPage_2 (a1) (a2) ((nI 0)) M ht h kR
set_option maxHeartbeats 4000000 in
set_option maxRecDepth 100000 in
theorem c_X10_takesPage {G : zzG} {t : Nat} {Q : Option Value → zzMem → Prop} (a1 : Int32) (a2 : Int32) (M : zzMem) (ht : 180 ≤ t)  {P : zzMem → Prop} (h : zK (f_X10_takesPage a1 a2 M) P) (kR : ∀ r : zzMem, P r → Q none r) : zz_S G m_X10_takesPage t t [.ref 73, .int a1, .int a2] M Q :=
  zz_S_of (by decide) (by decide) (Nat.le_of_ble_eq_true rfl) (w_X10_takesPage_0 a1 a2 M ht h kR)
noncomputable def b_X10_freesPages_2 (v1 : Int32) (v2 : Int32) (v3 : Int32) (M : zzMem) : Option ((Int32 × zzMem) ⊕ zzMem) :=
  if (nI 256) ≤ v3 then
  (some ((.inr M)))
  else (zgd (vp_in ((nI 1240) + v3) 5676) (
  if (M.1 74 (((nI 1240) + v3)).toNatClampNeg) = v1 then
  (zgd (vp_in ((nI 1496) + v3) 5676) (
  if (M.1 74 (((nI 1496) + v3)).toNatClampNeg) < v2 then
  (zbd (v3 + (nI 1)) (fun x7 =>
  some (.inl (x7, M))))
  else (zbd (zz_si M 74 (((nI 1240) + v3)).toNatClampNeg (-1 : Int32)) (fun M8 =>
  zbd (v3 + (nI 1)) (fun x9 =>
  some (.inl (x9, M8)))))))
  else (zbd (v3 + (nI 1)) (fun x4 =>
  some (.inl (x4, M))))))
set_option maxHeartbeats 4000000 in
set_option maxRecDepth 100000 in
theorem x_X10_freesPages_2 {G : zzG} {t : Nat} {Q : Option Value → zzMem → Prop} (v1 : Int32) (v2 : Int32) (v3 : Int32) (M : zzMem) (ht : 180 ≤ t)  {P : ((Int32 × zzMem) ⊕ zzMem) → Prop} (h : zK (b_X10_freesPages_2 v1 v2 v3 M) P) (k2 : ∀ s : (Int32 × zzMem), P (.inl s) → zz_W G m_X10_freesPages t t t 2 [some (.ref 73), some (.int v1), some (.int v2), some (.int s.1)] [] s.2 Q) (kR : ∀ r : zzMem, P (.inr r) → Q none r) : zz_W G m_X10_freesPages t t t 2 [some (.ref 73), some (.int v1), some (.int v2), some (.int v3)] [] M Q := by
  unfold b_X10_freesPages_2 at h
  refine r_iload_n dX10_freesPages_2 rfl ?_
  refine r_sipush (v := (nI 256)) dX10_freesPages_3 (by decide) ?_
  refine r_icmp_ge 54 dX10_freesPages_6 (by decide) (fun c1 => ?_) (fun c1 => ?_)
  · have h := zK_pos h c1
    exact r_vret dX10_freesPages_54 rfl rfl rfl (kR (M) (zK_some h))
  · have h := zK_neg h c1
    refine r_aload_n dX10_freesPages_9 rfl ?_
    refine r_getR (k := 73) (q := 74) dX10_freesPages_10 zf_X10_7 (zo_X10 (zs_X10 ht)) (zr_X10_0 (zs_X10 ht)).1 (zr_X10_0 (zs_X10 ht)).2.1 (zr_X10_0 (zs_X10 ht)).2.2 ?_
    refine r_sipush (v := (nI 1240)) dX10_freesPages_13 (by decide) ?_
    refine r_iload_n dX10_freesPages_16 rfl ?_
    refine r_iadd dX10_freesPages_17 ?_
    obtain ⟨g2, h⟩ := zK_gd h
    refine r_iald dX10_freesPages_18 (za_X10_0 (zs_X10 ht)) g2 ?_
    refine r_iload_n dX10_freesPages_19 rfl ?_
    refine r_icmp_ne 48 dX10_freesPages_20 (by decide) (fun c3 => ?_) (fun c3 => ?_)
    · have h := zK_neg h c3
      refine r_iinc (nI 1) (fun x4 => [some (.ref 73), some (.int v1), some (.int v2), some (.int x4)]) dX10_freesPages_48 rfl (by decide) (by decide) rfl (fun _ => rfl) (fun x4 ex4 => ?_)
      have h := zK_bd h ex4
      refine r_goto 2 dX10_freesPages_51 (by decide) ?_
      exact k2 ((x4, M)) (zK_some h)
    · have h := zK_pos h c3
      refine r_aload_n dX10_freesPages_23 rfl ?_
      refine r_getR (k := 73) (q := 74) dX10_freesPages_24 zf_X10_7 (zo_X10 (zs_X10 ht)) (zr_X10_0 (zs_X10 ht)).1 (zr_X10_0 (zs_X10 ht)).2.1 (zr_X10_0 (zs_X10 ht)).2.2 ?_
      refine r_sipush (v := (nI 1496)) dX10_freesPages_27 (by decide) ?_
      refine r_iload_n dX10_freesPages_30 rfl ?_
      refine r_iadd dX10_freesPages_31 ?_
      obtain ⟨g5, h⟩ := zK_gd h
      refine r_iald dX10_freesPages_32 (za_X10_0 (zs_X10 ht)) g5 ?_
      refine r_iload_n dX10_freesPages_33 rfl ?_
      refine r_icmp_lt 48 dX10_freesPages_34 (by decide) (fun c6 => ?_) (fun c6 => ?_)
      · have h := zK_pos h c6
        refine r_iinc (nI 1) (fun x7 => [some (.ref 73), some (.int v1), some (.int v2), some (.int x7)]) dX10_freesPages_48 rfl (by decide) (by decide) rfl (fun _ => rfl) (fun x7 ex7 => ?_)
        have h := zK_bd h ex7
        refine r_goto 2 dX10_freesPages_51 (by decide) ?_
        exact k2 ((x7, M)) (zK_some h)
      · have h := zK_neg h c6
        refine r_aload_n dX10_freesPages_37 rfl ?_
        refine r_getR (k := 73) (q := 74) dX10_freesPages_38 zf_X10_7 (zo_X10 (zs_X10 ht)) (zr_X10_0 (zs_X10 ht)).1 (zr_X10_0 (zs_X10 ht)).2.1 (zr_X10_0 (zs_X10 ht)).2.2 ?_
        refine r_sipush (v := (nI 1240)) dX10_freesPages_41 (by decide) ?_
        refine r_iload_n dX10_freesPages_44 rfl ?_
        refine r_iadd dX10_freesPages_45 ?_
        refine r_iconst (v := (-1 : Int32)) dX10_freesPages_46 (by decide) ?_
        refine r_iast dX10_freesPages_47 (za_X10_0 (zs_X10 ht)) g2 (fun M8 eM8 => ?_)
        have h := zK_bd h eM8
        refine r_iinc (nI 1) (fun x9 => [some (.ref 73), some (.int v1), some (.int v2), some (.int x9)]) dX10_freesPages_48 rfl (by decide) (by decide) rfl (fun _ => rfl) (fun x9 ex9 => ?_)
        have h := zK_bd h ex9
        refine r_goto 2 dX10_freesPages_51 (by decide) ?_
        exact k2 ((x9, M8)) (zK_some h)
noncomputable def j_X10_freesPages_2 (v1 : Int32) (v2 : Int32) (v3 : Int32) (M : zzMem) : Option zzMem :=
  zlp (fun s : (Int32 × zzMem) => b_X10_freesPages_2 v1 v2 s.1 s.2) (v3, M)
set_option maxHeartbeats 4000000 in
set_option maxRecDepth 100000 in
theorem w_X10_freesPages_2 {G : zzG} {t : Nat} {Q : Option Value → zzMem → Prop} (v1 : Int32) (v2 : Int32) (v3 : Int32) (M : zzMem) (ht : 180 ≤ t)  {P : zzMem → Prop} (h : zK (j_X10_freesPages_2 v1 v2 v3 M) P) (kR : ∀ r : zzMem, P r → Q none r) : zz_W G m_X10_freesPages t t t 2 [some (.ref 73), some (.int v1), some (.int v2), some (.int v3)] [] M Q := by
  unfold j_X10_freesPages_2 at h
  exact zK_lp h (fun s : (Int32 × zzMem) => zz_W G m_X10_freesPages t t t 2 [some (.ref 73), some (.int v1), some (.int v2), some (.int s.1)] [] s.2 Q) (fun s h => x_X10_freesPages_2 v1 v2 s.1 s.2 ht h (fun s p => p) kR)
noncomputable def f_X10_freesPages (a1 : Int32) (a2 : Int32) (M : zzMem) : Option zzMem :=
  j_X10_freesPages_2 a1 a2 (nI 0) M
set_option maxHeartbeats 4000000 in
set_option maxRecDepth 100000 in
theorem w_X10_freesPages_0 {G : zzG} {t : Nat} {Q : Option Value → zzMem → Prop} (a1 : Int32) (a2 : Int32) (M : zzMem) (ht : 180 ≤ t)  {P : zzMem → Prop} (h : zK (f_X10_freesPages a1 a2 M) P) (kR : ∀ r : zzMem, P r → Q none r) : zz_W G m_X10_freesPages t t t 0 [some (.ref 73), some (.int a1), some (.int a2), none] [] M Q := by
  unfold f_X10_freesPages at h
  refine r_iconst (v := (nI 0)) dX10_freesPages_0 (by decide) ?_
  refine s_istore_n ([some (.ref 73), some (.int a1), some (.int a2), some (.int (nI 0))]) dX10_freesPages_1 (by decide) rfl rfl ?_
  exact w_X10_freesPages_2 (a1) (a2) ((nI 0)) M ht h kR
set_option maxHeartbeats 4000000 in
set_option maxRecDepth 100000 in
theorem c_X10_freesPages {G : zzG} {t : Nat} {Q : Option Value → zzMem → Prop} (a1 : Int32) (a2 : Int32) (M : zzMem) (ht : 180 ≤ t)  {P : zzMem → Prop} (h : zK (f_X10_freesPages a1 a2 M) P) (kR : ∀ r : zzMem, P r → Q none r) : zz_S G m_X10_freesPages t t [.ref 73, .int a1, .int a2] M Q :=
  zz_S_of (by decide) (by decide) (Nat.le_of_ble_eq_true rfl) (w_X10_freesPages_0 a1 a2 M ht h kR)
noncomputable def b_X10_needsPages_6 (v1 : Int32) (v2 : Int32) (v3 : Int32) (M : zzMem) : Option ((Int32 × zzMem) ⊕ zzMem) :=
  if v2 ≤ (v3 * (M.1 74 1)) then
  (some ((.inr M)))
  else ((f_X10_takesPage v1 v3 M).bind (fun M2 =>
  zbd ((v3 + (nI 1))) (fun x3 =>
  some (.inl (x3, M2)))))
set_option maxHeartbeats 4000000 in
set_option maxRecDepth 100000 in
theorem x_X10_needsPages_6 {G : zzG} {t : Nat} {Q : Option Value → zzMem → Prop} (v1 : Int32) (v2 : Int32) (v3 : Int32) (M : zzMem) (ht : 180 ≤ t)  {P : ((Int32 × zzMem) ⊕ zzMem) → Prop} (h : zK (b_X10_needsPages_6 v1 v2 v3 M) P) (k6 : ∀ s : (Int32 × zzMem), P (.inl s) → zz_W G m_X10_needsPages t t t 6 [some (.ref 73), some (.int v1), some (.int v2), some (.int s.1)] [] s.2 Q) (kR : ∀ r : zzMem, P (.inr r) → Q none r) : zz_W G m_X10_needsPages t t t 6 [some (.ref 73), some (.int v1), some (.int v2), some (.int v3)] [] M Q := by
  unfold b_X10_needsPages_6 at h
  refine r_iload_n dX10_needsPages_6 rfl ?_
  refine r_aload_n dX10_needsPages_7 rfl ?_
  refine r_getR (k := 73) (q := 74) dX10_needsPages_8 zf_X10_7 (zo_X10 (zs_X10 ht)) (zr_X10_0 (zs_X10 ht)).1 (zr_X10_0 (zs_X10 ht)).2.1 (zr_X10_0 (zs_X10 ht)).2.2 ?_
  refine r_iconst (v := (nI 1)) dX10_needsPages_11 (by decide) ?_
  refine r_ialdc (j := 1) dX10_needsPages_12 (za_X10_0 (zs_X10 ht)) rfl rfl ?_
  refine r_imul dX10_needsPages_13 ?_
  refine r_iload_n dX10_needsPages_14 rfl ?_
  refine r_icmp_ge 31 dX10_needsPages_15 (by decide) (fun c1 => ?_) (fun c1 => ?_)
  · have h := zK_pos h c1
    exact r_vret dX10_needsPages_31 rfl rfl rfl (kR (M) (zK_some h))
  · have h := zK_neg h c1
    refine r_aload_n dX10_needsPages_18 rfl ?_
    refine r_iload_n dX10_needsPages_19 rfl ?_
    refine r_iload_n dX10_needsPages_20 rfl ?_
    refine kV_vw (as := [.int v1, .int v3]) (st := []) (k := 73) dX10_needsPages_21 zM_X10_takesPage zk_X10_175 (zo_X10 (zs_X10 ht)) (by decide) rfl ⟨Nat.le_of_ble_eq_true rfl, Nat.le_of_ble_eq_true rfl⟩ (Nat.le_of_ble_eq_true rfl) (zz_T0 rfl rfl) (fun Q' P' k h => c_X10_takesPage (v1) (v3) M ht h k) h (fun M2 h => ?_)
    refine r_iload_n dX10_needsPages_24 rfl ?_
    refine r_iconst (v := (nI 1)) dX10_needsPages_25 (by decide) ?_
    refine r_iadd dX10_needsPages_26 ?_
    refine r_istore_n (fun x3 => [some (.ref 73), some (.int v1), some (.int v2), some (.int x3)]) dX10_needsPages_27 (by decide) rfl (fun _ => rfl) (fun x3 ex3 => ?_)
    have h := zK_bd h ex3
    refine r_goto 6 dX10_needsPages_28 (by decide) ?_
    exact k6 ((x3, M2)) (zK_some h)
noncomputable def j_X10_needsPages_6 (v1 : Int32) (v2 : Int32) (v3 : Int32) (M : zzMem) : Option zzMem :=
  zlp (fun s : (Int32 × zzMem) => b_X10_needsPages_6 v1 v2 s.1 s.2) (v3, M)
set_option maxHeartbeats 4000000 in
set_option maxRecDepth 100000 in
theorem w_X10_needsPages_6 {G : zzG} {t : Nat} {Q : Option Value → zzMem → Prop} (v1 : Int32) (v2 : Int32) (v3 : Int32) (M : zzMem) (ht : 180 ≤ t)  {P : zzMem → Prop} (h : zK (j_X10_needsPages_6 v1 v2 v3 M) P) (kR : ∀ r : zzMem, P r → Q none r) : zz_W G m_X10_needsPages t t t 6 [some (.ref 73), some (.int v1), some (.int v2), some (.int v3)] [] M Q := by
  unfold j_X10_needsPages_6 at h
  exact zK_lp h (fun s : (Int32 × zzMem) => zz_W G m_X10_needsPages t t t 6 [some (.ref 73), some (.int v1), some (.int v2), some (.int s.1)] [] s.2 Q) (fun s h => x_X10_needsPages_6 v1 v2 s.1 s.2 ht h (fun s p => p) kR)
noncomputable def f_X10_needsPages (a1 : Int32) (a2 : Int32) (M : zzMem) : Option zzMem :=
  (f_X10_chainOf a1 M).bind (fun r1 =>
  j_X10_needsPages_6 a1 a2 r1 M)
set_option maxHeartbeats 4000000 in
set_option maxRecDepth 100000 in
theorem w_X10_needsPages_0 {G : zzG} {t : Nat} {Q : Option Value → zzMem → Prop} (a1 : Int32) (a2 : Int32) (M : zzMem) (ht : 180 ≤ t)  {P : zzMem → Prop} (h : zK (f_X10_needsPages a1 a2 M) P) (kR : ∀ r : zzMem, P r → Q none r) : zz_W G m_X10_needsPages t t t 0 [some (.ref 73), some (.int a1), some (.int a2), none] [] M Q := by
  unfold f_X10_needsPages at h
  refine r_aload_n dX10_needsPages_0 rfl ?_
  refine r_iload_n dX10_needsPages_1 rfl ?_
  refine kV_ir (as := [.int a1]) (st := []) (k := 73) dX10_needsPages_2 zM_X10_chainOf zk_X10_172 (zo_X10 (zs_X10 ht)) (by decide) rfl ⟨Nat.le_of_ble_eq_true rfl, Nat.le_of_ble_eq_true rfl⟩ (Nat.le_of_ble_eq_true rfl) (zz_T0 rfl rfl) (fun Q' P' k h => c_X10_chainOf (a1) M ht h k) h (fun r1 h => ?_)
  refine s_istore_n ([some (.ref 73), some (.int a1), some (.int a2), some (.int r1)]) dX10_needsPages_5 (by decide) rfl rfl ?_
  exact w_X10_needsPages_6 (a1) (a2) (r1) M ht h kR
set_option maxHeartbeats 4000000 in
set_option maxRecDepth 100000 in
theorem c_X10_needsPages {G : zzG} {t : Nat} {Q : Option Value → zzMem → Prop} (a1 : Int32) (a2 : Int32) (M : zzMem) (ht : 180 ≤ t)  {P : zzMem → Prop} (h : zK (f_X10_needsPages a1 a2 M) P) (kR : ∀ r : zzMem, P r → Q none r) : zz_S G m_X10_needsPages t t [.ref 73, .int a1, .int a2] M Q :=
  zz_S_of (by decide) (by decide) (Nat.le_of_ble_eq_true rfl) (w_X10_needsPages_0 a1 a2 M ht h kR)
noncomputable def f_X10_comesBehind (a1 : Int32) (a2 : Int32) (M : zzMem) : Option zzMem :=
  zgd (vp_in ((nI 640) + a1) 5676) (
  zbd (zz_si M 74 (((nI 640) + a1)).toNatClampNeg a2) (fun M2 =>
  zgd (vp_in ((nI 940) + a1) 5676) (
  zbd (zz_si M2 74 (((nI 940) + a1)).toNatClampNeg (M2.1 74 13)) (fun M4 =>
  zbd (zz_si M4 74 13 ((M4.1 74 13) + (nI 1))) (fun M5 =>
  some M5)))))
set_option maxHeartbeats 4000000 in
set_option maxRecDepth 100000 in
theorem w_X10_comesBehind_0 {G : zzG} {t : Nat} {Q : Option Value → zzMem → Prop} (a1 : Int32) (a2 : Int32) (M : zzMem) (ht : 180 ≤ t)  {P : zzMem → Prop} (h : zK (f_X10_comesBehind a1 a2 M) P) (kR : ∀ r : zzMem, P r → Q none r) : zz_W G m_X10_comesBehind t t t 0 [some (.ref 73), some (.int a1), some (.int a2)] [] M Q := by
  unfold f_X10_comesBehind at h
  refine r_aload_n dX10_comesBehind_0 rfl ?_
  refine r_getR (k := 73) (q := 74) dX10_comesBehind_1 zf_X10_7 (zo_X10 (zs_X10 ht)) (zr_X10_0 (zs_X10 ht)).1 (zr_X10_0 (zs_X10 ht)).2.1 (zr_X10_0 (zs_X10 ht)).2.2 ?_
  refine r_sipush (v := (nI 640)) dX10_comesBehind_4 (by decide) ?_
  refine r_iload_n dX10_comesBehind_7 rfl ?_
  refine r_iadd dX10_comesBehind_8 ?_
  refine r_iload_n dX10_comesBehind_9 rfl ?_
  obtain ⟨g1, h⟩ := zK_gd h
  refine r_iast dX10_comesBehind_10 (za_X10_0 (zs_X10 ht)) g1 (fun M2 eM2 => ?_)
  have h := zK_bd h eM2
  refine r_aload_n dX10_comesBehind_11 rfl ?_
  refine r_getR (k := 73) (q := 74) dX10_comesBehind_12 zf_X10_7 (zo_X10 (zs_X10 ht)) (zr_X10_0 (zs_X10 ht)).1 (zr_X10_0 (zs_X10 ht)).2.1 (zr_X10_0 (zs_X10 ht)).2.2 ?_
  refine r_sipush (v := (nI 940)) dX10_comesBehind_15 (by decide) ?_
  refine r_iload_n dX10_comesBehind_18 rfl ?_
  refine r_iadd dX10_comesBehind_19 ?_
  refine r_aload_n dX10_comesBehind_20 rfl ?_
  refine r_getR (k := 73) (q := 74) dX10_comesBehind_21 zf_X10_7 (zo_X10 (zs_X10 ht)) (zr_X10_0 (zs_X10 ht)).1 (zr_X10_0 (zs_X10 ht)).2.1 (zr_X10_0 (zs_X10 ht)).2.2 ?_
  refine r_bipush (v := (nI 13)) dX10_comesBehind_24 (by decide) ?_
  refine r_ialdc (j := 13) dX10_comesBehind_26 (za_X10_0 (zs_X10 ht)) rfl rfl ?_
  obtain ⟨g3, h⟩ := zK_gd h
  refine r_iast dX10_comesBehind_27 (za_X10_0 (zs_X10 ht)) g3 (fun M4 eM4 => ?_)
  have h := zK_bd h eM4
  refine r_aload_n dX10_comesBehind_28 rfl ?_
  refine r_getR (k := 73) (q := 74) dX10_comesBehind_29 zf_X10_7 (zo_X10 (zs_X10 ht)) (zr_X10_0 (zs_X10 ht)).1 (zr_X10_0 (zs_X10 ht)).2.1 (zr_X10_0 (zs_X10 ht)).2.2 ?_
  refine r_bipush (v := (nI 13)) dX10_comesBehind_32 (by decide) ?_
  refine r_aload_n dX10_comesBehind_34 rfl ?_
  refine r_getR (k := 73) (q := 74) dX10_comesBehind_35 zf_X10_7 (zo_X10 (zs_X10 ht)) (zr_X10_0 (zs_X10 ht)).1 (zr_X10_0 (zs_X10 ht)).2.1 (zr_X10_0 (zs_X10 ht)).2.2 ?_
  refine r_bipush (v := (nI 13)) dX10_comesBehind_38 (by decide) ?_
  refine r_ialdc (j := 13) dX10_comesBehind_40 (za_X10_0 (zs_X10 ht)) rfl rfl ?_
  refine r_iconst (v := (nI 1)) dX10_comesBehind_41 (by decide) ?_
  refine r_iadd dX10_comesBehind_42 ?_
  refine r_iastc (j := 13) dX10_comesBehind_43 (za_X10_0 (zs_X10 ht)) rfl rfl (fun M5 eM5 => ?_)
  have h := zK_bd h eM5
  exact r_vret dX10_comesBehind_44 rfl rfl rfl (kR (M5) (zK_some h))
set_option maxHeartbeats 4000000 in
set_option maxRecDepth 100000 in
theorem c_X10_comesBehind {G : zzG} {t : Nat} {Q : Option Value → zzMem → Prop} (a1 : Int32) (a2 : Int32) (M : zzMem) (ht : 180 ≤ t)  {P : zzMem → Prop} (h : zK (f_X10_comesBehind a1 a2 M) P) (kR : ∀ r : zzMem, P r → Q none r) : zz_S G m_X10_comesBehind t t [.ref 73, .int a1, .int a2] M Q :=
  zz_S_of (by decide) (by decide) (Nat.le_of_ble_eq_true rfl) (w_X10_comesBehind_0 a1 a2 M ht h kR)
noncomputable def f_X10_load  (M : zzMem) : Option Int32 :=
  (f_X10_buckets M).bind (fun r1 =>
  zgd (¬ (r1 * (M.1 74 1)) = 0) (
  some ((((nI 100) * (M.1 74 7)) / (r1 * (M.1 74 1))))))
set_option maxHeartbeats 4000000 in
set_option maxRecDepth 100000 in
theorem w_X10_load_0 {G : zzG} {t : Nat} {Q : Option Value → zzMem → Prop}  (M : zzMem) (ht : 180 ≤ t)  {P : Int32 → Prop} (h : zK (f_X10_load  M) P) (kR : ∀ r : Int32, P r → Q (some (.int r)) M) : zz_W G m_X10_load t t t 0 [some (.ref 73)] [] M Q := by
  unfold f_X10_load at h
  refine r_bipush (v := (nI 100)) dX10_load_0 (by decide) ?_
  refine r_aload_n dX10_load_2 rfl ?_
  refine r_getR (k := 73) (q := 74) dX10_load_3 zf_X10_7 (zo_X10 (zs_X10 ht)) (zr_X10_0 (zs_X10 ht)).1 (zr_X10_0 (zs_X10 ht)).2.1 (zr_X10_0 (zs_X10 ht)).2.2 ?_
  refine r_bipush (v := (nI 7)) dX10_load_6 (by decide) ?_
  refine r_ialdc (j := 7) dX10_load_8 (za_X10_0 (zs_X10 ht)) rfl rfl ?_
  refine r_imul dX10_load_9 ?_
  refine r_aload_n dX10_load_10 rfl ?_
  refine kV_ir (as := []) (st := [.int ((nI 100) * (M.1 74 7))]) (k := 73) dX10_load_11 zM_X10_buckets zk_X10_178 (zo_X10 (zs_X10 ht)) (by decide) rfl ⟨Nat.le_of_ble_eq_true rfl, Nat.le_of_ble_eq_true rfl⟩ (Nat.le_of_ble_eq_true rfl) (zz_T0 rfl rfl) (fun Q' P' k h => c_X10_buckets M ht h k) h (fun r1 h => ?_)
  refine r_aload_n dX10_load_14 rfl ?_
  refine r_getR (k := 73) (q := 74) dX10_load_15 zf_X10_7 (zo_X10 (zs_X10 ht)) (zr_X10_0 (zs_X10 ht)).1 (zr_X10_0 (zs_X10 ht)).2.1 (zr_X10_0 (zs_X10 ht)).2.2 ?_
  refine r_iconst (v := (nI 1)) dX10_load_18 (by decide) ?_
  refine r_ialdc (j := 1) dX10_load_19 (za_X10_0 (zs_X10 ht)) rfl rfl ?_
  refine r_imul dX10_load_20 ?_
  obtain ⟨g2, h⟩ := zK_gd h
  refine r_idiv dX10_load_21 g2 ?_
  exact r_iret dX10_load_22 rfl rfl rfl (kR ((((nI 100) * (M.1 74 7)) / (r1 * (M.1 74 1)))) (zK_some h))
set_option maxHeartbeats 4000000 in
set_option maxRecDepth 100000 in
theorem c_X10_load {G : zzG} {t : Nat} {Q : Option Value → zzMem → Prop}  (M : zzMem) (ht : 180 ≤ t)  {P : Int32 → Prop} (h : zK (f_X10_load  M) P) (kR : ∀ r : Int32, P r → Q (some (.int r)) M) : zz_S G m_X10_load t t [.ref 73] M Q :=
  zz_S_of (by decide) (by decide) (Nat.le_of_ble_eq_true rfl) (w_X10_load_0  M ht h kR)
