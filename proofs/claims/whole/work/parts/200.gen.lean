noncomputable def b_J7_fill_53178_5 (p0 : Nat) (n0 : Nat) (v1 : Int32) (v2 : Int32) (v3 : Int32) (M : zzMem) : Option ((Int32 × zzMem) ⊕ zzMem) :=
  if v3 ≤ v2 then
  (some ((.inr M)))
  else (zgd (vp_in v2 n0) (
  zbd (zz_si M p0 (v2).toNatClampNeg v1) (fun M3 =>
  zbd (v2 + (nI 1)) (fun x4 =>
  some (.inl (x4, M3))))))
set_option maxHeartbeats 4000000 in
set_option maxRecDepth 100000 in
theorem x_J7_fill_53178_5 {G : zzG} {t : Nat} {Q : Option Value → zzMem → Prop} (p0 : Nat) (n0 : Nat) (v1 : Int32) (v2 : Int32) (v3 : Int32) (M : zzMem) (hp0 : zz_O t p0 20 n0) {P : ((Int32 × zzMem) ⊕ zzMem) → Prop} (h : zK (b_J7_fill_53178_5 p0 n0 v1 v2 v3 M) P) (k5 : ∀ s : (Int32 × zzMem), P (.inl s) → zz_W G m_J7_fill_53178 t t t 5 [some (.ref p0), some (.int v1), some (.int s.1), some (.int v3)] [] s.2 Q) (kR : ∀ r : zzMem, P (.inr r) → Q none r) : zz_W G m_J7_fill_53178 t t t 5 [some (.ref p0), some (.int v1), some (.int v2), some (.int v3)] [] M Q := by
  unfold b_J7_fill_53178_5 at h
  refine r_iload_n dJ7_fill_53178_5 rfl ?_
  refine r_iload_n dJ7_fill_53178_6 rfl ?_
  refine r_icmp_ge 20 dJ7_fill_53178_7 (by decide) (fun c1 => ?_) (fun c1 => ?_)
  · have h := zK_pos h c1
    exact r_vret dJ7_fill_53178_20 rfl rfl rfl (kR (M) (zK_some h))
  · have h := zK_neg h c1
    refine r_aload_n dJ7_fill_53178_10 rfl ?_
    refine r_iload_n dJ7_fill_53178_11 rfl ?_
    refine r_iload_n dJ7_fill_53178_12 rfl ?_
    obtain ⟨g2, h⟩ := zK_gd h
    refine r_iast dJ7_fill_53178_13 hp0 g2 (fun M3 eM3 => ?_)
    have h := zK_bd h eM3
    refine r_iinc (nI 1) (fun x4 => [some (.ref p0), some (.int v1), some (.int x4), some (.int v3)]) dJ7_fill_53178_14 rfl (by decide) (by decide) rfl (fun _ => rfl) (fun x4 ex4 => ?_)
    have h := zK_bd h ex4
    refine r_goto 5 dJ7_fill_53178_17 (by decide) ?_
    exact k5 ((x4, M3)) (zK_some h)
noncomputable def j_J7_fill_53178_5 (p0 : Nat) (n0 : Nat) (v1 : Int32) (v2 : Int32) (v3 : Int32) (M : zzMem) : Option zzMem :=
  zlp (fun s : (Int32 × zzMem) => b_J7_fill_53178_5 p0 n0 v1 s.1 v3 s.2) (v2, M)
set_option maxHeartbeats 4000000 in
set_option maxRecDepth 100000 in
theorem w_J7_fill_53178_5 {G : zzG} {t : Nat} {Q : Option Value → zzMem → Prop} (p0 : Nat) (n0 : Nat) (v1 : Int32) (v2 : Int32) (v3 : Int32) (M : zzMem) (hp0 : zz_O t p0 20 n0) {P : zzMem → Prop} (h : zK (j_J7_fill_53178_5 p0 n0 v1 v2 v3 M) P) (kR : ∀ r : zzMem, P r → Q none r) : zz_W G m_J7_fill_53178 t t t 5 [some (.ref p0), some (.int v1), some (.int v2), some (.int v3)] [] M Q := by
  unfold j_J7_fill_53178_5 at h
  exact zK_lp h (fun s : (Int32 × zzMem) => zz_W G m_J7_fill_53178 t t t 5 [some (.ref p0), some (.int v1), some (.int s.1), some (.int v3)] [] s.2 Q) (fun s h => x_J7_fill_53178_5 p0 n0 v1 s.1 v3 s.2 hp0 h (fun s p => p) kR)
noncomputable def f_J7_fill_53178 (p0 : Nat) (n0 : Nat) (a1 : Int32) (M : zzMem) : Option zzMem :=
  zbd ((Int32.ofNat n0)) (fun x1 =>
  j_J7_fill_53178_5 p0 n0 a1 (nI 0) x1 M)
set_option maxHeartbeats 4000000 in
set_option maxRecDepth 100000 in
theorem w_J7_fill_53178_0 {G : zzG} {t : Nat} {Q : Option Value → zzMem → Prop} (p0 : Nat) (n0 : Nat) (a1 : Int32) (M : zzMem) (hp0 : zz_O t p0 20 n0) {P : zzMem → Prop} (h : zK (f_J7_fill_53178 p0 n0 a1 M) P) (kR : ∀ r : zzMem, P r → Q none r) : zz_W G m_J7_fill_53178 t t t 0 [some (.ref p0), some (.int a1), none, none] [] M Q := by
  unfold f_J7_fill_53178 at h
  refine r_iconst (v := (nI 0)) dJ7_fill_53178_0 (by decide) ?_
  refine s_istore_n ([some (.ref p0), some (.int a1), some (.int (nI 0)), none]) dJ7_fill_53178_1 (by decide) rfl rfl ?_
  refine r_aload_n dJ7_fill_53178_2 rfl ?_
  refine r_alen dJ7_fill_53178_3 hp0 rfl ?_
  refine r_istore_n (fun x1 => [some (.ref p0), some (.int a1), some (.int (nI 0)), some (.int x1)]) dJ7_fill_53178_4 (by decide) rfl (fun _ => rfl) (fun x1 ex1 => ?_)
  have h := zK_bd h ex1
  exact w_J7_fill_53178_5 (p0) (n0) (a1) ((nI 0)) (x1) M hp0 h kR
set_option maxHeartbeats 4000000 in
set_option maxRecDepth 100000 in
theorem c_J7_fill_53178 {G : zzG} {t : Nat} {Q : Option Value → zzMem → Prop} (p0 : Nat) (n0 : Nat) (a1 : Int32) (M : zzMem) (hp0 : zz_O t p0 20 n0) {P : zzMem → Prop} (h : zK (f_J7_fill_53178 p0 n0 a1 M) P) (kR : ∀ r : zzMem, P r → Q none r) : zz_S G m_J7_fill_53178 t t [.ref p0, .int a1] M Q :=
  zz_S_of (by decide) (by decide) (Nat.le_of_ble_eq_true rfl) (w_J7_fill_53178_0 p0 n0 a1 M hp0 h kR)
noncomputable def j_X0_addPage_98 (o : Nat) (v1 : Int32) (v2 : Int32) (M : zzMem) : Option (Int32 × zzMem) :=
  zgd (vp_in v1 64) (
  zbd (zz_si M (o + 7) (v1).toNatClampNeg v2) (fun M2 =>
  zbd (zz_si M2 (o + 9) (v1).toNatClampNeg ((M2.1 (o + 9) (v1).toNatClampNeg) + (nI 1))) (fun M3 =>
  some ((v2, M3)))))
set_option maxHeartbeats 4000000 in
set_option maxRecDepth 100000 in
theorem w_X0_addPage_98 {G : zzG} {t : Nat} {Q : Option Value → zzMem → Prop} (o : Nat) (v1 : Int32) (v2 : Int32) (M : zzMem) (ho : zI_X0 t o) {P : (Int32 × zzMem) → Prop} (h : zK (j_X0_addPage_98 o v1 v2 M) P) (kR : ∀ r : (Int32 × zzMem), P r → Q (some (.int r.1)) r.2) : zz_W G m_X0_addPage t t t 98 [some (.ref o), some (.int v1), some (.int v2)] [] M Q := by
  unfold j_X0_addPage_98 at h
  refine r_aload_n dX0_addPage_98 rfl ?_
  refine r_getR (k := o) (q := (o + 7)) dX0_addPage_99 zf_X0_31 (zo_X0 ho) (zr_X0_6 ho).1 (zr_X0_6 ho).2.1 (zr_X0_6 ho).2.2 ?_
  refine r_iload_n dX0_addPage_102 rfl ?_
  refine r_iload_n dX0_addPage_103 rfl ?_
  obtain ⟨g1, h⟩ := zK_gd h
  refine r_iast dX0_addPage_104 (za_X0_6 ho) g1 (fun M2 eM2 => ?_)
  have h := zK_bd h eM2
  refine r_aload_n dX0_addPage_105 rfl ?_
  refine r_getR (k := o) (q := (o + 9)) dX0_addPage_106 zf_X0_37 (zo_X0 ho) (zr_X0_8 ho).1 (zr_X0_8 ho).2.1 (zr_X0_8 ho).2.2 ?_
  refine r_iload_n dX0_addPage_109 rfl ?_
  refine r_dup2 dX0_addPage_110 rfl rfl ?_
  refine r_iald dX0_addPage_111 (za_X0_8 ho) g1 ?_
  refine r_iconst (v := (nI 1)) dX0_addPage_112 (by decide) ?_
  refine r_iadd dX0_addPage_113 ?_
  refine r_iast dX0_addPage_114 (za_X0_8 ho) g1 (fun M3 eM3 => ?_)
  have h := zK_bd h eM3
  refine r_iload_n dX0_addPage_115 rfl ?_
  exact r_iret dX0_addPage_116 rfl rfl rfl (kR ((v2, M3)) (zK_some h))
noncomputable def j_X0_addPage_25 (o : Nat) (v1 : Int32) (v2 : Int32) (M : zzMem) : Option (Int32 × zzMem) :=
  if v2 = (nI 256) then
  (some (((-1 : Int32), M)))
  else (zgd (vp_in v2 256) (
  zbd (zz_si M (o + 1) (v2).toNatClampNeg v1) (fun M3 =>
  zgd (vp_in v1 64) (
  zbd (zz_si M3 (o + 2) (v2).toNatClampNeg (M3.1 (o + 9) (v1).toNatClampNeg)) (fun M5 =>
  zbd (zz_si M5 (o + 3) (v2).toNatClampNeg (nI 0)) (fun M6 =>
  zbd (zz_si M6 (o + 4) (v2).toNatClampNeg (-1 : Int32)) (fun M7 =>
  if (M7.1 (o + 9) (v1).toNatClampNeg) = 0 then
  (zbd (zz_si M7 (o + 6) (v1).toNatClampNeg v2) (fun M11 =>
  j_X0_addPage_98 o v1 v2 M11))
  else (zgd (vp_in (M7.1 (o + 7) (v1).toNatClampNeg) 256) (
  zbd (zz_si M7 (o + 4) ((M7.1 (o + 7) (v1).toNatClampNeg)).toNatClampNeg v2) (fun M10 =>
  j_X0_addPage_98 o v1 v2 M10))))))))))
set_option maxHeartbeats 4000000 in
set_option maxRecDepth 100000 in
theorem w_X0_addPage_25 {G : zzG} {t : Nat} {Q : Option Value → zzMem → Prop} (o : Nat) (v1 : Int32) (v2 : Int32) (M : zzMem) (ho : zI_X0 t o) {P : (Int32 × zzMem) → Prop} (h : zK (j_X0_addPage_25 o v1 v2 M) P) (kR : ∀ r : (Int32 × zzMem), P r → Q (some (.int r.1)) r.2) : zz_W G m_X0_addPage t t t 25 [some (.ref o), some (.int v1), some (.int v2)] [] M Q := by
  unfold j_X0_addPage_25 at h
  refine r_iload_n dX0_addPage_25 rfl ?_
  refine r_sipush (v := (nI 256)) dX0_addPage_26 (by decide) ?_
  refine r_icmp_ne 34 dX0_addPage_29 (by decide) (fun c1 => ?_) (fun c1 => ?_)
  · have h := zK_neg h c1
    refine r_aload_n dX0_addPage_34 rfl ?_
    refine r_getR (k := o) (q := (o + 1)) dX0_addPage_35 zf_X0_9 (zo_X0 ho) (zr_X0_0 ho).1 (zr_X0_0 ho).2.1 (zr_X0_0 ho).2.2 ?_
    refine r_iload_n dX0_addPage_38 rfl ?_
    refine r_iload_n dX0_addPage_39 rfl ?_
    obtain ⟨g2, h⟩ := zK_gd h
    refine r_iast dX0_addPage_40 (za_X0_0 ho) g2 (fun M3 eM3 => ?_)
    have h := zK_bd h eM3
    refine r_aload_n dX0_addPage_41 rfl ?_
    refine r_getR (k := o) (q := (o + 2)) dX0_addPage_42 zf_X0_15 (zo_X0 ho) (zr_X0_1 ho).1 (zr_X0_1 ho).2.1 (zr_X0_1 ho).2.2 ?_
    refine r_iload_n dX0_addPage_45 rfl ?_
    refine r_aload_n dX0_addPage_46 rfl ?_
    refine r_getR (k := o) (q := (o + 9)) dX0_addPage_47 zf_X0_37 (zo_X0 ho) (zr_X0_8 ho).1 (zr_X0_8 ho).2.1 (zr_X0_8 ho).2.2 ?_
    refine r_iload_n dX0_addPage_50 rfl ?_
    obtain ⟨g4, h⟩ := zK_gd h
    refine r_iald dX0_addPage_51 (za_X0_8 ho) g4 ?_
    refine r_iast dX0_addPage_52 (za_X0_1 ho) g2 (fun M5 eM5 => ?_)
    have h := zK_bd h eM5
    refine r_aload_n dX0_addPage_53 rfl ?_
    refine r_getR (k := o) (q := (o + 3)) dX0_addPage_54 zf_X0_18 (zo_X0 ho) (zr_X0_2 ho).1 (zr_X0_2 ho).2.1 (zr_X0_2 ho).2.2 ?_
    refine r_iload_n dX0_addPage_57 rfl ?_
    refine r_iconst (v := (nI 0)) dX0_addPage_58 (by decide) ?_
    refine r_iast dX0_addPage_59 (za_X0_2 ho) g2 (fun M6 eM6 => ?_)
    have h := zK_bd h eM6
    refine r_aload_n dX0_addPage_60 rfl ?_
    refine r_getR (k := o) (q := (o + 4)) dX0_addPage_61 zf_X0_21 (zo_X0 ho) (zr_X0_3 ho).1 (zr_X0_3 ho).2.1 (zr_X0_3 ho).2.2 ?_
    refine r_iload_n dX0_addPage_64 rfl ?_
    refine r_iconst (v := (-1 : Int32)) dX0_addPage_65 (by decide) ?_
    refine r_iast dX0_addPage_66 (za_X0_3 ho) g2 (fun M7 eM7 => ?_)
    have h := zK_bd h eM7
    refine r_aload_n dX0_addPage_67 rfl ?_
    refine r_getR (k := o) (q := (o + 9)) dX0_addPage_68 zf_X0_37 (zo_X0 ho) (zr_X0_8 ho).1 (zr_X0_8 ho).2.1 (zr_X0_8 ho).2.2 ?_
    refine r_iload_n dX0_addPage_71 rfl ?_
    refine r_iald dX0_addPage_72 (za_X0_8 ho) g4 ?_
    refine r_if_ne 86 dX0_addPage_73 (by decide) (fun c8 => ?_) (fun c8 => ?_)
    · have h := zK_neg h c8
      refine r_aload_n dX0_addPage_86 rfl ?_
      refine r_getR (k := o) (q := (o + 4)) dX0_addPage_87 zf_X0_21 (zo_X0 ho) (zr_X0_3 ho).1 (zr_X0_3 ho).2.1 (zr_X0_3 ho).2.2 ?_
      refine r_aload_n dX0_addPage_90 rfl ?_
      refine r_getR (k := o) (q := (o + 7)) dX0_addPage_91 zf_X0_31 (zo_X0 ho) (zr_X0_6 ho).1 (zr_X0_6 ho).2.1 (zr_X0_6 ho).2.2 ?_
      refine r_iload_n dX0_addPage_94 rfl ?_
      refine r_iald dX0_addPage_95 (za_X0_6 ho) g4 ?_
      refine r_iload_n dX0_addPage_96 rfl ?_
      obtain ⟨g9, h⟩ := zK_gd h
      refine r_iast dX0_addPage_97 (za_X0_3 ho) g9 (fun M10 eM10 => ?_)
      have h := zK_bd h eM10
      exact w_X0_addPage_98 (o) (v1) (v2) M10 ho h kR
    · have h := zK_pos h c8
      refine r_aload_n dX0_addPage_76 rfl ?_
      refine r_getR (k := o) (q := (o + 6)) dX0_addPage_77 zf_X0_28 (zo_X0 ho) (zr_X0_5 ho).1 (zr_X0_5 ho).2.1 (zr_X0_5 ho).2.2 ?_
      refine r_iload_n dX0_addPage_80 rfl ?_
      refine r_iload_n dX0_addPage_81 rfl ?_
      refine r_iast dX0_addPage_82 (za_X0_5 ho) g4 (fun M11 eM11 => ?_)
      have h := zK_bd h eM11
      refine r_goto 98 dX0_addPage_83 (by decide) ?_
      exact w_X0_addPage_98 (o) (v1) (v2) M11 ho h kR
  · have h := zK_pos h c1
    refine r_iconst (v := (-1 : Int32)) dX0_addPage_32 (by decide) ?_
    exact r_iret dX0_addPage_33 rfl rfl rfl (kR (((-1 : Int32), M)) (zK_some h))
noncomputable def b_X0_addPage_2 (o : Nat) (v1 : Int32) (v2 : Int32) (M : zzMem) : Option (Int32 ⊕ (Int32 × zzMem)) :=
  if (nI 256) ≤ v2 then
  (zup (j_X0_addPage_25 o v1 v2 M))
  else (zgd (vp_in v2 256) (
  if (M.1 (o + 1) (v2).toNatClampNeg) = (-1 : Int32) then
  (zup (j_X0_addPage_25 o v1 v2 M))
  else (zbd (v2 + (nI 1)) (fun x4 =>
  some (.inl x4)))))
set_option maxHeartbeats 4000000 in
set_option maxRecDepth 100000 in
theorem x_X0_addPage_2 {G : zzG} {t : Nat} {Q : Option Value → zzMem → Prop} (o : Nat) (v1 : Int32) (v2 : Int32) (M : zzMem) (ho : zI_X0 t o) {P : (Int32 ⊕ (Int32 × zzMem)) → Prop} (h : zK (b_X0_addPage_2 o v1 v2 M) P) (k2 : ∀ s : Int32, P (.inl s) → zz_W G m_X0_addPage t t t 2 [some (.ref o), some (.int v1), some (.int s)] [] M Q) (kR : ∀ r : (Int32 × zzMem), P (.inr r) → Q (some (.int r.1)) r.2) : zz_W G m_X0_addPage t t t 2 [some (.ref o), some (.int v1), some (.int v2)] [] M Q := by
  unfold b_X0_addPage_2 at h
  refine r_iload_n dX0_addPage_2 rfl ?_
  refine r_sipush (v := (nI 256)) dX0_addPage_3 (by decide) ?_
  refine r_icmp_ge 25 dX0_addPage_6 (by decide) (fun c1 => ?_) (fun c1 => ?_)
  · have h := zK_pos h c1
    exact w_X0_addPage_25 (o) (v1) (v2) M ho (zK_up h) kR
  · have h := zK_neg h c1
    refine r_aload_n dX0_addPage_9 rfl ?_
    refine r_getR (k := o) (q := (o + 1)) dX0_addPage_10 zf_X0_9 (zo_X0 ho) (zr_X0_0 ho).1 (zr_X0_0 ho).2.1 (zr_X0_0 ho).2.2 ?_
    refine r_iload_n dX0_addPage_13 rfl ?_
    obtain ⟨g2, h⟩ := zK_gd h
    refine r_iald dX0_addPage_14 (za_X0_0 ho) g2 ?_
    refine r_iconst (v := (-1 : Int32)) dX0_addPage_15 (by decide) ?_
    refine r_icmp_eq 25 dX0_addPage_16 (by decide) (fun c3 => ?_) (fun c3 => ?_)
    · have h := zK_pos h c3
      exact w_X0_addPage_25 (o) (v1) (v2) M ho (zK_up h) kR
    · have h := zK_neg h c3
      refine r_iinc (nI 1) (fun x4 => [some (.ref o), some (.int v1), some (.int x4)]) dX0_addPage_19 rfl (by decide) (by decide) rfl (fun _ => rfl) (fun x4 ex4 => ?_)
      have h := zK_bd h ex4
      refine r_goto 2 dX0_addPage_22 (by decide) ?_
      exact k2 (x4) (zK_some h)
noncomputable def j_X0_addPage_2 (o : Nat) (v1 : Int32) (v2 : Int32) (M : zzMem) : Option (Int32 × zzMem) :=
  zlp (fun s : Int32 => b_X0_addPage_2 o v1 s M) v2
set_option maxHeartbeats 4000000 in
set_option maxRecDepth 100000 in
theorem w_X0_addPage_2 {G : zzG} {t : Nat} {Q : Option Value → zzMem → Prop} (o : Nat) (v1 : Int32) (v2 : Int32) (M : zzMem) (ho : zI_X0 t o) {P : (Int32 × zzMem) → Prop} (h : zK (j_X0_addPage_2 o v1 v2 M) P) (kR : ∀ r : (Int32 × zzMem), P r → Q (some (.int r.1)) r.2) : zz_W G m_X0_addPage t t t 2 [some (.ref o), some (.int v1), some (.int v2)] [] M Q := by
  unfold j_X0_addPage_2 at h
  exact zK_lp h (fun s : Int32 => zz_W G m_X0_addPage t t t 2 [some (.ref o), some (.int v1), some (.int s)] [] M Q) (fun s h => x_X0_addPage_2 o v1 s M ho h (fun s p => p) kR)
noncomputable def f_X0_addPage (o : Nat) (a1 : Int32) (M : zzMem) : Option (Int32 × zzMem) :=
  j_X0_addPage_2 o a1 (nI 0) M
set_option maxHeartbeats 4000000 in
set_option maxRecDepth 100000 in
theorem w_X0_addPage_0 {G : zzG} {t : Nat} {Q : Option Value → zzMem → Prop} (o : Nat) (a1 : Int32) (M : zzMem) (ho : zI_X0 t o) {P : (Int32 × zzMem) → Prop} (h : zK (f_X0_addPage o a1 M) P) (kR : ∀ r : (Int32 × zzMem), P r → Q (some (.int r.1)) r.2) : zz_W G m_X0_addPage t t t 0 [some (.ref o), some (.int a1), none] [] M Q := by
  unfold f_X0_addPage at h
  refine r_iconst (v := (nI 0)) dX0_addPage_0 (by decide) ?_
  refine s_istore_n ([some (.ref o), some (.int a1), some (.int (nI 0))]) dX0_addPage_1 (by decide) rfl rfl ?_
  exact w_X0_addPage_2 (o) (a1) ((nI 0)) M ho h kR
set_option maxHeartbeats 4000000 in
set_option maxRecDepth 100000 in
theorem c_X0_addPage {G : zzG} {t : Nat} {Q : Option Value → zzMem → Prop} (o : Nat) (a1 : Int32) (M : zzMem) (ho : zI_X0 t o) {P : (Int32 × zzMem) → Prop} (h : zK (f_X0_addPage o a1 M) P) (kR : ∀ r : (Int32 × zzMem), P r → Q (some (.int r.1)) r.2) : zz_S G m_X0_addPage t t [.ref o, .int a1] M Q :=
  zz_S_of (by decide) (by decide) (Nat.le_of_ble_eq_true rfl) (w_X0_addPage_0 o a1 M ho h kR)
noncomputable def b_X0_clear_47 (o : Nat) (v2 : Int32) (v3 : Int32) (M : zzMem) : Option ((Int32 × zzMem) ⊕ zzMem) :=
  if v2 ≤ v3 then
  (some ((.inr M)))
  else ((f_X0_addPage o v3 M).bind (fun q2 => zpr q2 (fun r3 M4 =>
  zbd (v3 + (nI 1)) (fun x5 =>
  some (.inl (x5, M4))))))
set_option maxHeartbeats 4000000 in
set_option maxRecDepth 100000 in
theorem x_X0_clear_47 {G : zzG} {t : Nat} {Q : Option Value → zzMem → Prop} (o : Nat) (v2 : Int32) (v3 : Int32) (M : zzMem) (ho : zI_X0 t o) {P : ((Int32 × zzMem) ⊕ zzMem) → Prop} (h : zK (b_X0_clear_47 o v2 v3 M) P) (k47 : ∀ s : (Int32 × zzMem), P (.inl s) → zz_W G m_X0_clear t t t 47 [some (.ref o), none, some (.int v2), some (.int s.1)] [] s.2 Q) (kR : ∀ r : zzMem, P (.inr r) → Q none r) : zz_W G m_X0_clear t t t 47 [some (.ref o), none, some (.int v2), some (.int v3)] [] M Q := by
  unfold b_X0_clear_47 at h
  refine r_iload_n dX0_clear_47 rfl ?_
  refine r_iload_n dX0_clear_48 rfl ?_
  refine r_icmp_ge 64 dX0_clear_49 (by decide) (fun c1 => ?_) (fun c1 => ?_)
  · have h := zK_pos h c1
    exact r_vret dX0_clear_64 rfl rfl rfl (kR (M) (zK_some h))
  · have h := zK_neg h c1
    refine r_aload_n dX0_clear_52 rfl ?_
    refine r_iload_n dX0_clear_53 rfl ?_
    refine kV_iw (as := [.int v3]) (st := []) (k := o) dX0_clear_54 zM_X0_addPage zk_X0_56 (zo_X0 ho) (by decide) rfl ⟨Nat.le_of_ble_eq_true rfl, Nat.le_of_ble_eq_true rfl⟩ (Nat.le_of_ble_eq_true rfl) (zz_T0 rfl rfl) (fun Q' P' k h => c_X0_addPage (o) (v3) M ho h (fun r p => k r.1 r.2 p)) h (fun r3 M4 h => ?_)
    have h := zK_pr h
    refine r_pop dX0_clear_57 rfl ?_
    refine r_iinc (nI 1) (fun x5 => [some (.ref o), none, some (.int v2), some (.int x5)]) dX0_clear_58 rfl (by decide) (by decide) rfl (fun _ => rfl) (fun x5 ex5 => ?_)
    have h := zK_bd h ex5
    refine r_goto 47 dX0_clear_61 (by decide) ?_
    exact k47 ((x5, M4)) (zK_some h)
noncomputable def j_X0_clear_47 (o : Nat) (v2 : Int32) (v3 : Int32) (M : zzMem) : Option zzMem :=
  zlp (fun s : (Int32 × zzMem) => b_X0_clear_47 o v2 s.1 s.2) (v3, M)
set_option maxHeartbeats 4000000 in
set_option maxRecDepth 100000 in
theorem w_X0_clear_47 {G : zzG} {t : Nat} {Q : Option Value → zzMem → Prop} (o : Nat) (v2 : Int32) (v3 : Int32) (M : zzMem) (ho : zI_X0 t o) {P : zzMem → Prop} (h : zK (j_X0_clear_47 o v2 v3 M) P) (kR : ∀ r : zzMem, P r → Q none r) : zz_W G m_X0_clear t t t 47 [some (.ref o), none, some (.int v2), some (.int v3)] [] M Q := by
  unfold j_X0_clear_47 at h
  exact zK_lp h (fun s : (Int32 × zzMem) => zz_W G m_X0_clear t t t 47 [some (.ref o), none, some (.int v2), some (.int s.1)] [] s.2 Q) (fun s h => x_X0_clear_47 o v2 s.1 s.2 ho h (fun s p => p) kR)
noncomputable def f_X0_clear (o : Nat) (a1 : Int32) (a2 : Int32) (M : zzMem) : Option zzMem :=
  zbd (zz_si M o 11 a1) (fun M1 =>
  (f_J7_fill_53178 (o + 1) 256 (-1 : Int32) M1).bind (fun M2 =>
  (f_J7_fill_53178 (o + 8) 64 (nI 0) M2).bind (fun M3 =>
  (f_J7_fill_53178 (o + 9) 64 (nI 0) M3).bind (fun M4 =>
  (f_J7_fill_53178 (o + 6) 64 (-1 : Int32) M4).bind (fun M5 =>
  (f_J7_fill_53178 (o + 7) 64 (-1 : Int32) M5).bind (fun M6 =>
  j_X0_clear_47 o a2 (nI 0) M6))))))
set_option maxHeartbeats 4000000 in
set_option maxRecDepth 100000 in
theorem w_X0_clear_0 {G : zzG} {t : Nat} {Q : Option Value → zzMem → Prop} (o : Nat) (a1 : Int32) (a2 : Int32) (M : zzMem) (ho : zI_X0 t o) {P : zzMem → Prop} (h : zK (f_X0_clear o a1 a2 M) P) (kR : ∀ r : zzMem, P r → Q none r) : zz_W G m_X0_clear t t t 0 [some (.ref o), some (.int a1), some (.int a2), none] [] M Q := by
  unfold f_X0_clear at h
  refine r_aload_n dX0_clear_0 rfl ?_
  refine r_iload_n dX0_clear_1 rfl ?_
  refine r_putI (k := o) dX0_clear_2 zp_X0_47 (zo_X0 ho) (zi_X0_11 ho) rfl rfl (fun M1 eM1 => ?_)
  have h := zK_bd h eM1
  refine r_aload_n dX0_clear_5 rfl ?_
  refine r_getR (k := o) (q := (o + 1)) dX0_clear_6 zf_X0_9 (zo_X0 ho) (zr_X0_0 ho).1 (zr_X0_0 ho).2.1 (zr_X0_0 ho).2.2 ?_
  refine r_iconst (v := (-1 : Int32)) dX0_clear_9 (by decide) ?_
  refine kS_vw (as := [.ref (o + 1), .int (-1 : Int32)]) (st := []) dX0_clear_10 zM_J7_fill_53178 zk_X0_50 ⟨Nat.le_of_ble_eq_true rfl, Nat.le_of_ble_eq_true rfl⟩ (Nat.le_of_ble_eq_true rfl) (zz_T0 rfl rfl) (fun Q' P' k h => c_J7_fill_53178 ((o + 1)) (256) ((-1 : Int32)) M1 (za_X0_0 ho) h k) h (fun M2 h => ?_)
  refine r_aload_n dX0_clear_13 rfl ?_
  refine r_getR (k := o) (q := (o + 8)) dX0_clear_14 zf_X0_34 (zo_X0 ho) (zr_X0_7 ho).1 (zr_X0_7 ho).2.1 (zr_X0_7 ho).2.2 ?_
  refine r_iconst (v := (nI 0)) dX0_clear_17 (by decide) ?_
  refine kS_vw (as := [.ref (o + 8), .int (nI 0)]) (st := []) dX0_clear_18 zM_J7_fill_53178 zk_X0_50 ⟨Nat.le_of_ble_eq_true rfl, Nat.le_of_ble_eq_true rfl⟩ (Nat.le_of_ble_eq_true rfl) (zz_T0 rfl rfl) (fun Q' P' k h => c_J7_fill_53178 ((o + 8)) (64) ((nI 0)) M2 (za_X0_7 ho) h k) h (fun M3 h => ?_)
  refine r_aload_n dX0_clear_21 rfl ?_
  refine r_getR (k := o) (q := (o + 9)) dX0_clear_22 zf_X0_37 (zo_X0 ho) (zr_X0_8 ho).1 (zr_X0_8 ho).2.1 (zr_X0_8 ho).2.2 ?_
  refine r_iconst (v := (nI 0)) dX0_clear_25 (by decide) ?_
  refine kS_vw (as := [.ref (o + 9), .int (nI 0)]) (st := []) dX0_clear_26 zM_J7_fill_53178 zk_X0_50 ⟨Nat.le_of_ble_eq_true rfl, Nat.le_of_ble_eq_true rfl⟩ (Nat.le_of_ble_eq_true rfl) (zz_T0 rfl rfl) (fun Q' P' k h => c_J7_fill_53178 ((o + 9)) (64) ((nI 0)) M3 (za_X0_8 ho) h k) h (fun M4 h => ?_)
  refine r_aload_n dX0_clear_29 rfl ?_
  refine r_getR (k := o) (q := (o + 6)) dX0_clear_30 zf_X0_28 (zo_X0 ho) (zr_X0_5 ho).1 (zr_X0_5 ho).2.1 (zr_X0_5 ho).2.2 ?_
  refine r_iconst (v := (-1 : Int32)) dX0_clear_33 (by decide) ?_
  refine kS_vw (as := [.ref (o + 6), .int (-1 : Int32)]) (st := []) dX0_clear_34 zM_J7_fill_53178 zk_X0_50 ⟨Nat.le_of_ble_eq_true rfl, Nat.le_of_ble_eq_true rfl⟩ (Nat.le_of_ble_eq_true rfl) (zz_T0 rfl rfl) (fun Q' P' k h => c_J7_fill_53178 ((o + 6)) (64) ((-1 : Int32)) M4 (za_X0_5 ho) h k) h (fun M5 h => ?_)
  refine r_aload_n dX0_clear_37 rfl ?_
  refine r_getR (k := o) (q := (o + 7)) dX0_clear_38 zf_X0_31 (zo_X0 ho) (zr_X0_6 ho).1 (zr_X0_6 ho).2.1 (zr_X0_6 ho).2.2 ?_
  refine r_iconst (v := (-1 : Int32)) dX0_clear_41 (by decide) ?_
  refine kS_vw (as := [.ref (o + 7), .int (-1 : Int32)]) (st := []) dX0_clear_42 zM_J7_fill_53178 zk_X0_50 ⟨Nat.le_of_ble_eq_true rfl, Nat.le_of_ble_eq_true rfl⟩ (Nat.le_of_ble_eq_true rfl) (zz_T0 rfl rfl) (fun Q' P' k h => c_J7_fill_53178 ((o + 7)) (64) ((-1 : Int32)) M5 (za_X0_6 ho) h k) h (fun M6 h => ?_)
  refine r_iconst (v := (nI 0)) dX0_clear_45 (by decide) ?_
  refine s_istore_n ([some (.ref o), some (.int a1), some (.int a2), some (.int (nI 0))]) dX0_clear_46 (by decide) rfl rfl ?_
  refine zz_mask [1] ?_
  exact w_X0_clear_47 (o) (a2) ((nI 0)) M6 ho h kR
set_option maxHeartbeats 4000000 in
set_option maxRecDepth 100000 in
theorem c_X0_clear {G : zzG} {t : Nat} {Q : Option Value → zzMem → Prop} (o : Nat) (a1 : Int32) (a2 : Int32) (M : zzMem) (ho : zI_X0 t o) {P : zzMem → Prop} (h : zK (f_X0_clear o a1 a2 M) P) (kR : ∀ r : zzMem, P r → Q none r) : zz_S G m_X0_clear t t [.ref o, .int a1, .int a2] M Q :=
  zz_S_of (by decide) (by decide) (Nat.le_of_ble_eq_true rfl) (w_X0_clear_0 o a1 a2 M ho h kR)
noncomputable def f_X0_copyFrom (o : Nat) (p1 : Nat) (M : zzMem) : Option zzMem :=
  zbd (zz_si M o 11 (M.1 p1 11)) (fun M1 =>
  zgd (zz_cpok 256 256 (nI 0) (nI 0) (nI 256)) (
  zbd (zz_ci M1 (p1 + 1) (nI 0) (o + 1) (nI 0) (nI 256)) (fun M3 =>
  zbd (zz_ci M3 (p1 + 2) (nI 0) (o + 2) (nI 0) (nI 256)) (fun M4 =>
  zbd (zz_ci M4 (p1 + 3) (nI 0) (o + 3) (nI 0) (nI 256)) (fun M5 =>
  zbd (zz_ci M5 (p1 + 4) (nI 0) (o + 4) (nI 0) (nI 256)) (fun M6 =>
  zgd (zz_cpok 1536 1536 (nI 0) (nI 0) (nI 1536)) (
  zbd (zz_cl M6 (p1 + 5) (nI 0) (o + 5) (nI 0) (nI 1536)) (fun M8 =>
  zgd (zz_cpok 64 64 (nI 0) (nI 0) (nI 64)) (
  zbd (zz_ci M8 (p1 + 6) (nI 0) (o + 6) (nI 0) (nI 64)) (fun M10 =>
  zbd (zz_ci M10 (p1 + 7) (nI 0) (o + 7) (nI 0) (nI 64)) (fun M11 =>
  zbd (zz_ci M11 (p1 + 8) (nI 0) (o + 8) (nI 0) (nI 64)) (fun M12 =>
  zbd (zz_ci M12 (p1 + 9) (nI 0) (o + 9) (nI 0) (nI 64)) (fun M13 =>
  some M13)))))))))))))
set_option maxHeartbeats 4000000 in
set_option maxRecDepth 100000 in
theorem w_X0_copyFrom_0 {G : zzG} {t : Nat} {Q : Option Value → zzMem → Prop} (o : Nat) (p1 : Nat) (M : zzMem) (ho : zI_X0 t o) (hp1 : zI_X0 t p1) {P : zzMem → Prop} (h : zK (f_X0_copyFrom o p1 M) P) (kR : ∀ r : zzMem, P r → Q none r) : zz_W G m_X0_copyFrom t t t 0 [some (.ref o), some (.ref p1)] [] M Q := by
  unfold f_X0_copyFrom at h
  refine r_aload_n dX0_copyFrom_0 rfl ?_
  refine r_aload_n dX0_copyFrom_1 rfl ?_
  refine r_getI (k := p1) dX0_copyFrom_2 zf_X0_47 (zo_X0 hp1) (zi_X0_11 hp1) ?_
  refine r_putI (k := o) dX0_copyFrom_5 zp_X0_47 (zo_X0 ho) (zi_X0_11 ho) rfl rfl (fun M1 eM1 => ?_)
  have h := zK_bd h eM1
  refine r_aload_n dX0_copyFrom_8 rfl ?_
  refine r_getR (k := p1) (q := (p1 + 1)) dX0_copyFrom_9 zf_X0_9 (zo_X0 hp1) (zr_X0_0 hp1).1 (zr_X0_0 hp1).2.1 (zr_X0_0 hp1).2.2 ?_
  refine r_iconst (v := (nI 0)) dX0_copyFrom_12 (by decide) ?_
  refine r_aload_n dX0_copyFrom_13 rfl ?_
  refine r_getR (k := o) (q := (o + 1)) dX0_copyFrom_14 zf_X0_9 (zo_X0 ho) (zr_X0_0 ho).1 (zr_X0_0 ho).2.1 (zr_X0_0 ho).2.2 ?_
  refine r_iconst (v := (nI 0)) dX0_copyFrom_17 (by decide) ?_
  refine r_sipush (v := (nI 256)) dX0_copyFrom_18 (by decide) ?_
  obtain ⟨g2, h⟩ := zK_gd h
  refine r_copyi (k0 := (p1 + 1)) (k1 := (o + 1)) dX0_copyFrom_21 zk_X0_60 zw_copy (za_X0_0 hp1) (za_X0_0 ho) g2 (Nat.le_of_ble_eq_true rfl) (by decide) (fun M3 eM3 => ?_)
  have h := zK_bd h eM3
  refine r_aload_n dX0_copyFrom_24 rfl ?_
  refine r_getR (k := p1) (q := (p1 + 2)) dX0_copyFrom_25 zf_X0_15 (zo_X0 hp1) (zr_X0_1 hp1).1 (zr_X0_1 hp1).2.1 (zr_X0_1 hp1).2.2 ?_
  refine r_iconst (v := (nI 0)) dX0_copyFrom_28 (by decide) ?_
  refine r_aload_n dX0_copyFrom_29 rfl ?_
  refine r_getR (k := o) (q := (o + 2)) dX0_copyFrom_30 zf_X0_15 (zo_X0 ho) (zr_X0_1 ho).1 (zr_X0_1 ho).2.1 (zr_X0_1 ho).2.2 ?_
  refine r_iconst (v := (nI 0)) dX0_copyFrom_33 (by decide) ?_
  refine r_sipush (v := (nI 256)) dX0_copyFrom_34 (by decide) ?_
  refine r_copyi (k0 := (p1 + 2)) (k1 := (o + 2)) dX0_copyFrom_37 zk_X0_60 zw_copy (za_X0_1 hp1) (za_X0_1 ho) g2 (Nat.le_of_ble_eq_true rfl) (by decide) (fun M4 eM4 => ?_)
  have h := zK_bd h eM4
  refine r_aload_n dX0_copyFrom_40 rfl ?_
  refine r_getR (k := p1) (q := (p1 + 3)) dX0_copyFrom_41 zf_X0_18 (zo_X0 hp1) (zr_X0_2 hp1).1 (zr_X0_2 hp1).2.1 (zr_X0_2 hp1).2.2 ?_
  refine r_iconst (v := (nI 0)) dX0_copyFrom_44 (by decide) ?_
  refine r_aload_n dX0_copyFrom_45 rfl ?_
  refine r_getR (k := o) (q := (o + 3)) dX0_copyFrom_46 zf_X0_18 (zo_X0 ho) (zr_X0_2 ho).1 (zr_X0_2 ho).2.1 (zr_X0_2 ho).2.2 ?_
  refine r_iconst (v := (nI 0)) dX0_copyFrom_49 (by decide) ?_
  refine r_sipush (v := (nI 256)) dX0_copyFrom_50 (by decide) ?_
  refine r_copyi (k0 := (p1 + 3)) (k1 := (o + 3)) dX0_copyFrom_53 zk_X0_60 zw_copy (za_X0_2 hp1) (za_X0_2 ho) g2 (Nat.le_of_ble_eq_true rfl) (by decide) (fun M5 eM5 => ?_)
  have h := zK_bd h eM5
  refine r_aload_n dX0_copyFrom_56 rfl ?_
  refine r_getR (k := p1) (q := (p1 + 4)) dX0_copyFrom_57 zf_X0_21 (zo_X0 hp1) (zr_X0_3 hp1).1 (zr_X0_3 hp1).2.1 (zr_X0_3 hp1).2.2 ?_
  refine r_iconst (v := (nI 0)) dX0_copyFrom_60 (by decide) ?_
  refine r_aload_n dX0_copyFrom_61 rfl ?_
  refine r_getR (k := o) (q := (o + 4)) dX0_copyFrom_62 zf_X0_21 (zo_X0 ho) (zr_X0_3 ho).1 (zr_X0_3 ho).2.1 (zr_X0_3 ho).2.2 ?_
  refine r_iconst (v := (nI 0)) dX0_copyFrom_65 (by decide) ?_
  refine r_sipush (v := (nI 256)) dX0_copyFrom_66 (by decide) ?_
  refine r_copyi (k0 := (p1 + 4)) (k1 := (o + 4)) dX0_copyFrom_69 zk_X0_60 zw_copy (za_X0_3 hp1) (za_X0_3 ho) g2 (Nat.le_of_ble_eq_true rfl) (by decide) (fun M6 eM6 => ?_)
  have h := zK_bd h eM6
  refine r_aload_n dX0_copyFrom_72 rfl ?_
  refine r_getR (k := p1) (q := (p1 + 5)) dX0_copyFrom_73 zf_X0_24 (zo_X0 hp1) (zr_X0_4 hp1).1 (zr_X0_4 hp1).2.1 (zr_X0_4 hp1).2.2 ?_
  refine r_iconst (v := (nI 0)) dX0_copyFrom_76 (by decide) ?_
  refine r_aload_n dX0_copyFrom_77 rfl ?_
  refine r_getR (k := o) (q := (o + 5)) dX0_copyFrom_78 zf_X0_24 (zo_X0 ho) (zr_X0_4 ho).1 (zr_X0_4 ho).2.1 (zr_X0_4 ho).2.2 ?_
  refine r_iconst (v := (nI 0)) dX0_copyFrom_81 (by decide) ?_
  refine r_sipush (v := (nI 1536)) dX0_copyFrom_82 (by decide) ?_
  obtain ⟨g7, h⟩ := zK_gd h
  refine r_copyl (k0 := (p1 + 5)) (k1 := (o + 5)) dX0_copyFrom_85 zk_X0_60 zw_copy (za_X0_4 hp1) (za_X0_4 ho) g7 (Nat.le_of_ble_eq_true rfl) (by decide) (fun M8 eM8 => ?_)
  have h := zK_bd h eM8
  refine r_aload_n dX0_copyFrom_88 rfl ?_
  refine r_getR (k := p1) (q := (p1 + 6)) dX0_copyFrom_89 zf_X0_28 (zo_X0 hp1) (zr_X0_5 hp1).1 (zr_X0_5 hp1).2.1 (zr_X0_5 hp1).2.2 ?_
  refine r_iconst (v := (nI 0)) dX0_copyFrom_92 (by decide) ?_
  refine r_aload_n dX0_copyFrom_93 rfl ?_
  refine r_getR (k := o) (q := (o + 6)) dX0_copyFrom_94 zf_X0_28 (zo_X0 ho) (zr_X0_5 ho).1 (zr_X0_5 ho).2.1 (zr_X0_5 ho).2.2 ?_
  refine r_iconst (v := (nI 0)) dX0_copyFrom_97 (by decide) ?_
  refine r_bipush (v := (nI 64)) dX0_copyFrom_98 (by decide) ?_
  obtain ⟨g9, h⟩ := zK_gd h
  refine r_copyi (k0 := (p1 + 6)) (k1 := (o + 6)) dX0_copyFrom_100 zk_X0_60 zw_copy (za_X0_5 hp1) (za_X0_5 ho) g9 (Nat.le_of_ble_eq_true rfl) (by decide) (fun M10 eM10 => ?_)
  have h := zK_bd h eM10
  refine r_aload_n dX0_copyFrom_103 rfl ?_
  refine r_getR (k := p1) (q := (p1 + 7)) dX0_copyFrom_104 zf_X0_31 (zo_X0 hp1) (zr_X0_6 hp1).1 (zr_X0_6 hp1).2.1 (zr_X0_6 hp1).2.2 ?_
  refine r_iconst (v := (nI 0)) dX0_copyFrom_107 (by decide) ?_
  refine r_aload_n dX0_copyFrom_108 rfl ?_
  refine r_getR (k := o) (q := (o + 7)) dX0_copyFrom_109 zf_X0_31 (zo_X0 ho) (zr_X0_6 ho).1 (zr_X0_6 ho).2.1 (zr_X0_6 ho).2.2 ?_
  refine r_iconst (v := (nI 0)) dX0_copyFrom_112 (by decide) ?_
  refine r_bipush (v := (nI 64)) dX0_copyFrom_113 (by decide) ?_
  refine r_copyi (k0 := (p1 + 7)) (k1 := (o + 7)) dX0_copyFrom_115 zk_X0_60 zw_copy (za_X0_6 hp1) (za_X0_6 ho) g9 (Nat.le_of_ble_eq_true rfl) (by decide) (fun M11 eM11 => ?_)
  have h := zK_bd h eM11
  refine r_aload_n dX0_copyFrom_118 rfl ?_
  refine r_getR (k := p1) (q := (p1 + 8)) dX0_copyFrom_119 zf_X0_34 (zo_X0 hp1) (zr_X0_7 hp1).1 (zr_X0_7 hp1).2.1 (zr_X0_7 hp1).2.2 ?_
  refine r_iconst (v := (nI 0)) dX0_copyFrom_122 (by decide) ?_
  refine r_aload_n dX0_copyFrom_123 rfl ?_
  refine r_getR (k := o) (q := (o + 8)) dX0_copyFrom_124 zf_X0_34 (zo_X0 ho) (zr_X0_7 ho).1 (zr_X0_7 ho).2.1 (zr_X0_7 ho).2.2 ?_
  refine r_iconst (v := (nI 0)) dX0_copyFrom_127 (by decide) ?_
  refine r_bipush (v := (nI 64)) dX0_copyFrom_128 (by decide) ?_
  refine r_copyi (k0 := (p1 + 8)) (k1 := (o + 8)) dX0_copyFrom_130 zk_X0_60 zw_copy (za_X0_7 hp1) (za_X0_7 ho) g9 (Nat.le_of_ble_eq_true rfl) (by decide) (fun M12 eM12 => ?_)
  have h := zK_bd h eM12
  refine r_aload_n dX0_copyFrom_133 rfl ?_
  refine r_getR (k := p1) (q := (p1 + 9)) dX0_copyFrom_134 zf_X0_37 (zo_X0 hp1) (zr_X0_8 hp1).1 (zr_X0_8 hp1).2.1 (zr_X0_8 hp1).2.2 ?_
  refine r_iconst (v := (nI 0)) dX0_copyFrom_137 (by decide) ?_
  refine r_aload_n dX0_copyFrom_138 rfl ?_
  refine r_getR (k := o) (q := (o + 9)) dX0_copyFrom_139 zf_X0_37 (zo_X0 ho) (zr_X0_8 ho).1 (zr_X0_8 ho).2.1 (zr_X0_8 ho).2.2 ?_
  refine r_iconst (v := (nI 0)) dX0_copyFrom_142 (by decide) ?_
  refine r_bipush (v := (nI 64)) dX0_copyFrom_143 (by decide) ?_
  refine r_copyi (k0 := (p1 + 9)) (k1 := (o + 9)) dX0_copyFrom_145 zk_X0_60 zw_copy (za_X0_8 hp1) (za_X0_8 ho) g9 (Nat.le_of_ble_eq_true rfl) (by decide) (fun M13 eM13 => ?_)
  have h := zK_bd h eM13
  exact r_vret dX0_copyFrom_148 rfl rfl rfl (kR (M13) (zK_some h))
set_option maxHeartbeats 4000000 in
set_option maxRecDepth 100000 in
theorem c_X0_copyFrom {G : zzG} {t : Nat} {Q : Option Value → zzMem → Prop} (o : Nat) (p1 : Nat) (M : zzMem) (ho : zI_X0 t o) (hp1 : zI_X0 t p1) {P : zzMem → Prop} (h : zK (f_X0_copyFrom o p1 M) P) (kR : ∀ r : zzMem, P r → Q none r) : zz_S G m_X0_copyFrom t t [.ref o, .ref p1] M Q :=
  zz_S_of (by decide) (by decide) (Nat.le_of_ble_eq_true rfl) (w_X0_copyFrom_0 o p1 M ho hp1 h kR)
noncomputable def j_X0_append_47 (o : Nat) (v1 : Int32) (v2 : Int64) (v4 : Int32) (w5 : Bool) (M : zzMem) : Option (Bool × zzMem) :=
  if v4 = (-1 : Int32) then
  (some ((false, M)))
  else (zgd (vp_in v4 256) (
  zgd (vp_in ((v4 * (nI 6)) + (M.1 (o + 3) (v4).toNatClampNeg)) 1536) (
  zbd (zz_sl M (o + 5) (((v4 * (nI 6)) + (M.1 (o + 3) (v4).toNatClampNeg))).toNatClampNeg v2) (fun M4 =>
  zbd (zz_si M4 (o + 3) (v4).toNatClampNeg ((M4.1 (o + 3) (v4).toNatClampNeg) + (nI 1))) (fun M5 =>
  zgd (vp_in v1 64) (
  zbd (zz_si M5 (o + 8) (v1).toNatClampNeg ((M5.1 (o + 8) (v1).toNatClampNeg) + (nI 1))) (fun M7 =>
  some ((w5, M7)))))))))
set_option maxHeartbeats 4000000 in
set_option maxRecDepth 100000 in
theorem w_X0_append_47 {G : zzG} {t : Nat} {Q : Option Value → zzMem → Prop} (o : Nat) (v1 : Int32) (v2 : Int64) (v4 : Int32) (w5 : Bool) (M : zzMem) (ho : zI_X0 t o) {P : (Bool × zzMem) → Prop} (h : zK (j_X0_append_47 o v1 v2 v4 w5 M) P) (kR : ∀ r : (Bool × zzMem), P r → Q (some (.int (zb r.1))) r.2) : zz_W G m_X0_append t t t 47 [some (.ref o), some (.int v1), some (.long v2), none, some (.int v4), some (.int (zb w5))] [] M Q := by
  unfold j_X0_append_47 at h
  refine r_iload dX0_append_47 rfl ?_
  refine r_iconst (v := (-1 : Int32)) dX0_append_49 (by decide) ?_
  refine r_icmp_ne 55 dX0_append_50 (by decide) (fun c1 => ?_) (fun c1 => ?_)
  · have h := zK_neg h c1
    refine r_aload_n dX0_append_55 rfl ?_
    refine r_getR (k := o) (q := (o + 5)) dX0_append_56 zf_X0_24 (zo_X0 ho) (zr_X0_4 ho).1 (zr_X0_4 ho).2.1 (zr_X0_4 ho).2.2 ?_
    refine r_iload dX0_append_59 rfl ?_
    refine r_bipush (v := (nI 6)) dX0_append_61 (by decide) ?_
    refine r_imul dX0_append_63 ?_
    refine r_aload_n dX0_append_64 rfl ?_
    refine r_getR (k := o) (q := (o + 3)) dX0_append_65 zf_X0_18 (zo_X0 ho) (zr_X0_2 ho).1 (zr_X0_2 ho).2.1 (zr_X0_2 ho).2.2 ?_
    refine r_iload dX0_append_68 rfl ?_
    obtain ⟨g2, h⟩ := zK_gd h
    refine r_iald dX0_append_70 (za_X0_2 ho) g2 ?_
    refine r_iadd dX0_append_71 ?_
    refine r_lload_n dX0_append_72 rfl ?_
    obtain ⟨g3, h⟩ := zK_gd h
    refine r_last dX0_append_73 (za_X0_4 ho) g3 (fun M4 eM4 => ?_)
    have h := zK_bd h eM4
    refine r_aload_n dX0_append_74 rfl ?_
    refine r_getR (k := o) (q := (o + 3)) dX0_append_75 zf_X0_18 (zo_X0 ho) (zr_X0_2 ho).1 (zr_X0_2 ho).2.1 (zr_X0_2 ho).2.2 ?_
    refine r_iload dX0_append_78 rfl ?_
    refine r_dup2 dX0_append_80 rfl rfl ?_
    refine r_iald dX0_append_81 (za_X0_2 ho) g2 ?_
    refine r_iconst (v := (nI 1)) dX0_append_82 (by decide) ?_
    refine r_iadd dX0_append_83 ?_
    refine r_iast dX0_append_84 (za_X0_2 ho) g2 (fun M5 eM5 => ?_)
    have h := zK_bd h eM5
    refine r_aload_n dX0_append_85 rfl ?_
    refine r_getR (k := o) (q := (o + 8)) dX0_append_86 zf_X0_34 (zo_X0 ho) (zr_X0_7 ho).1 (zr_X0_7 ho).2.1 (zr_X0_7 ho).2.2 ?_
    refine r_iload_n dX0_append_89 rfl ?_
    refine r_dup2 dX0_append_90 rfl rfl ?_
    obtain ⟨g6, h⟩ := zK_gd h
    refine r_iald dX0_append_91 (za_X0_7 ho) g6 ?_
    refine r_iconst (v := (nI 1)) dX0_append_92 (by decide) ?_
    refine r_iadd dX0_append_93 ?_
    refine r_iast dX0_append_94 (za_X0_7 ho) g6 (fun M7 eM7 => ?_)
    have h := zK_bd h eM7
    refine r_iload dX0_append_95 rfl ?_
    exact r_zret (b := w5) dX0_append_97 rfl rfl rfl (kR ((w5, M7)) (zK_some h))
  · have h := zK_pos h c1
    refine r_iconst (v := (nI 0)) dX0_append_53 (by decide) ?_
    exact r_zret (b := false) dX0_append_54 rfl rfl rfl (kR ((false, M)) (zK_some h))
noncomputable def j_X0_append_33 (o : Nat) (v1 : Int32) (v2 : Int64) (v4 : Int32) (ws0 : Bool) (M : zzMem) : Option (Bool × zzMem) :=
  if ws0 = true then
  ((f_X0_addPage o v1 M).bind (fun q2 => zpr q2 (fun r3 M4 =>
  j_X0_append_47 o v1 v2 r3 ws0 M4)))
  else (j_X0_append_47 o v1 v2 v4 ws0 M)
set_option maxHeartbeats 4000000 in
set_option maxRecDepth 100000 in
theorem w_X0_append_33 {G : zzG} {t : Nat} {Q : Option Value → zzMem → Prop} (o : Nat) (v1 : Int32) (v2 : Int64) (v4 : Int32) (ws0 : Bool) (M : zzMem) (ho : zI_X0 t o) {P : (Bool × zzMem) → Prop} (h : zK (j_X0_append_33 o v1 v2 v4 ws0 M) P) (kR : ∀ r : (Bool × zzMem), P r → Q (some (.int (zb r.1))) r.2) : zz_W G m_X0_append t t t 33 [some (.ref o), some (.int v1), some (.long v2), none, some (.int v4), none] [.int (zb ws0)] M Q := by
  unfold j_X0_append_33 at h
  refine s_istore ([some (.ref o), some (.int v1), some (.long v2), none, some (.int v4), some (.int (zb ws0))]) dX0_append_33 (by decide) rfl rfl ?_
  refine r_iload dX0_append_35 rfl ?_
  refine r_ifZ_eq 47 dX0_append_37 (by decide) (fun c1 => ?_) (fun c1 => ?_)
  · have h := zK_neg h c1
    exact w_X0_append_47 (o) (v1) (v2) (v4) (ws0) M ho h kR
  · have h := zK_pos h c1
    refine r_aload_n dX0_append_40 rfl ?_
    refine r_iload_n dX0_append_41 rfl ?_
    refine kV_iw (as := [.int v1]) (st := []) (k := o) dX0_append_42 zM_X0_addPage zk_X0_56 (zo_X0 ho) (by decide) rfl ⟨Nat.le_of_ble_eq_true rfl, Nat.le_of_ble_eq_true rfl⟩ (Nat.le_of_ble_eq_true rfl) (zz_T0 rfl rfl) (fun Q' P' k h => c_X0_addPage (o) (v1) M ho h (fun r p => k r.1 r.2 p)) h (fun r3 M4 h => ?_)
    have h := zK_pr h
    refine s_istore ([some (.ref o), some (.int v1), some (.long v2), none, some (.int r3), some (.int (zb ws0))]) dX0_append_45 (by decide) rfl rfl ?_
    exact w_X0_append_47 (o) (v1) (v2) (r3) (ws0) M4 ho h kR
noncomputable def j_X0_append_28 (o : Nat) (v1 : Int32) (v2 : Int64) (v4 : Int32) (M : zzMem) : Option (Bool × zzMem) :=
  j_X0_append_33 o v1 v2 v4 true M
set_option maxHeartbeats 4000000 in
set_option maxRecDepth 100000 in
theorem w_X0_append_28 {G : zzG} {t : Nat} {Q : Option Value → zzMem → Prop} (o : Nat) (v1 : Int32) (v2 : Int64) (v4 : Int32) (M : zzMem) (ho : zI_X0 t o) {P : (Bool × zzMem) → Prop} (h : zK (j_X0_append_28 o v1 v2 v4 M) P) (kR : ∀ r : (Bool × zzMem), P r → Q (some (.int (zb r.1))) r.2) : zz_W G m_X0_append t t t 28 [some (.ref o), some (.int v1), some (.long v2), none, some (.int v4), none] [] M Q := by
  unfold j_X0_append_28 at h
  refine r_iconst (v := (nI 1)) dX0_append_28 (by decide) ?_
  refine r_goto 33 dX0_append_29 (by decide) ?_
  exact w_X0_append_33 (o) (v1) (v2) (v4) (true) M ho h kR
noncomputable def f_X0_append (o : Nat) (a1 : Int32) (a2 : Int64) (M : zzMem) : Option (Bool × zzMem) :=
  zgd (vp_in a1 64) (
  zbd ((M.1 (o + 7) (a1).toNatClampNeg)) (fun x2 =>
  if x2 = (-1 : Int32) then
  (j_X0_append_28 o a1 a2 x2 M)
  else (zgd (vp_in x2 256) (
  if (M.1 (o + 3) (x2).toNatClampNeg) < (M.1 o 11) then
  (j_X0_append_33 o a1 a2 x2 false M)
  else (j_X0_append_28 o a1 a2 x2 M)))))
set_option maxHeartbeats 4000000 in
set_option maxRecDepth 100000 in
theorem w_X0_append_0 {G : zzG} {t : Nat} {Q : Option Value → zzMem → Prop} (o : Nat) (a1 : Int32) (a2 : Int64) (M : zzMem) (ho : zI_X0 t o) {P : (Bool × zzMem) → Prop} (h : zK (f_X0_append o a1 a2 M) P) (kR : ∀ r : (Bool × zzMem), P r → Q (some (.int (zb r.1))) r.2) : zz_W G m_X0_append t t t 0 [some (.ref o), some (.int a1), some (.long a2), none, none, none] [] M Q := by
  unfold f_X0_append at h
  refine r_aload_n dX0_append_0 rfl ?_
  refine r_getR (k := o) (q := (o + 7)) dX0_append_1 zf_X0_31 (zo_X0 ho) (zr_X0_6 ho).1 (zr_X0_6 ho).2.1 (zr_X0_6 ho).2.2 ?_
  refine r_iload_n dX0_append_4 rfl ?_
  obtain ⟨g1, h⟩ := zK_gd h
  refine r_iald dX0_append_5 (za_X0_6 ho) g1 ?_
  refine r_istore (fun x2 => [some (.ref o), some (.int a1), some (.long a2), none, some (.int x2), none]) dX0_append_6 (by decide) rfl (fun _ => rfl) (fun x2 ex2 => ?_)
  have h := zK_bd h ex2
  refine r_iload dX0_append_8 rfl ?_
  refine r_iconst (v := (-1 : Int32)) dX0_append_10 (by decide) ?_
  refine r_icmp_eq 28 dX0_append_11 (by decide) (fun c3 => ?_) (fun c3 => ?_)
  · have h := zK_pos h c3
    exact w_X0_append_28 (o) (a1) (a2) (x2) M ho h kR
  · have h := zK_neg h c3
    refine r_aload_n dX0_append_14 rfl ?_
    refine r_getR (k := o) (q := (o + 3)) dX0_append_15 zf_X0_18 (zo_X0 ho) (zr_X0_2 ho).1 (zr_X0_2 ho).2.1 (zr_X0_2 ho).2.2 ?_
    refine r_iload dX0_append_18 rfl ?_
    obtain ⟨g4, h⟩ := zK_gd h
    refine r_iald dX0_append_20 (za_X0_2 ho) g4 ?_
    refine r_aload_n dX0_append_21 rfl ?_
    refine r_getI (k := o) dX0_append_22 zf_X0_47 (zo_X0 ho) (zi_X0_11 ho) ?_
    refine r_icmp_lt 32 dX0_append_25 (by decide) (fun c5 => ?_) (fun c5 => ?_)
    · have h := zK_pos h c5
      refine r_iconst (v := (nI 0)) dX0_append_32 (by decide) ?_
      exact w_X0_append_33 (o) (a1) (a2) (x2) (false) M ho h kR
    · have h := zK_neg h c5
      exact w_X0_append_28 (o) (a1) (a2) (x2) M ho h kR
set_option maxHeartbeats 4000000 in
set_option maxRecDepth 100000 in
theorem c_X0_append {G : zzG} {t : Nat} {Q : Option Value → zzMem → Prop} (o : Nat) (a1 : Int32) (a2 : Int64) (M : zzMem) (ho : zI_X0 t o) {P : (Bool × zzMem) → Prop} (h : zK (f_X0_append o a1 a2 M) P) (kR : ∀ r : (Bool × zzMem), P r → Q (some (.int (zb r.1))) r.2) : zz_S G m_X0_append t t [.ref o, .int a1, .long a2] M Q :=
  zz_S_of (by decide) (by decide) (Nat.le_of_ble_eq_true rfl) (w_X0_append_0 o a1 a2 M ho h kR)
noncomputable def f_X1_keyOf (a0 : Int64) : Int32 :=
  ((((a0 >>> (((nI 8)).toInt64 &&& 63)) &&& (65535 : Int64))).toInt32)
set_option maxHeartbeats 4000000 in
set_option maxRecDepth 100000 in
theorem w_X1_keyOf_0 {G : zzG} {t : Nat} {Q : Option Value → zzMem → Prop} (a0 : Int64) (M : zzMem)  {P : Int32 → Prop} (h : P (f_X1_keyOf a0)) (kR : ∀ r : Int32, P r → Q (some (.int r)) M) : zz_W G m_X1_keyOf t t t 0 [some (.long a0), none] [] M Q := by
  unfold f_X1_keyOf at h
  refine r_lload_n dX1_keyOf_0 rfl ?_
  refine r_bipush (v := (nI 8)) dX1_keyOf_1 (by decide) ?_
  refine r_lshr dX1_keyOf_3 ?_
  refine r_ldc2 (v := (65535 : Int64)) dX1_keyOf_4 zd_X1_9 ?_
  refine r_land dX1_keyOf_7 ?_
  refine r_l2i dX1_keyOf_8 ?_
  exact r_iret dX1_keyOf_9 rfl rfl rfl (kR (((((a0 >>> (((nI 8)).toInt64 &&& 63)) &&& (65535 : Int64))).toInt32)) h)
set_option maxHeartbeats 4000000 in
set_option maxRecDepth 100000 in
theorem c_X1_keyOf {G : zzG} {t : Nat} {Q : Option Value → zzMem → Prop} (a0 : Int64) (M : zzMem)  (h : Q (some (.int (f_X1_keyOf a0))) M) : zz_S G m_X1_keyOf t t [.long a0] M Q :=
  zz_S_of (by decide) (by decide) (Nat.le_of_ble_eq_true rfl) (w_X1_keyOf_0 a0 M  (P := fun r => Q (some (.int r)) M) h (fun r p => p))
noncomputable def b_X0_slotOf_36 (o : Nat) (v1 : Int32) (v2 : Int32) (v3 : Int32) (v4 : Int32) (v5 : Int32) (v6 : Int32) (M : zzMem) : Option (Int32 ⊕ ((Int32 × Int32) ⊕ Int32)) :=
  zgd (vp_in v3 256) (
  if (v5 + (M.1 (o + 3) (v3).toNatClampNeg)) ≤ v6 then
  (zbd ((M.1 (o + 4) (v3).toNatClampNeg)) (fun x3 =>
  zbd (v4 + (nI 1)) (fun x4 =>
  some (.inr (.inl (x3, x4))))))
  else (zgd (vp_in v6 1536) (
  if (f_X1_keyOf (M.2 (o + 5) (v6).toNatClampNeg)) = v2 then
  (some ((.inr (.inr v6))))
  else (zbd (v6 + (nI 1)) (fun x7 =>
  some (.inl x7))))))
set_option maxHeartbeats 4000000 in
set_option maxRecDepth 100000 in
theorem x_X0_slotOf_36 {G : zzG} {t : Nat} {Q : Option Value → zzMem → Prop} (o : Nat) (v1 : Int32) (v2 : Int32) (v3 : Int32) (v4 : Int32) (v5 : Int32) (v6 : Int32) (M : zzMem) (ho : zI_X0 t o) {P : (Int32 ⊕ ((Int32 × Int32) ⊕ Int32)) → Prop} (h : zK (b_X0_slotOf_36 o v1 v2 v3 v4 v5 v6 M) P) (k36 : ∀ s : Int32, P (.inl s) → zz_W G m_X0_slotOf t t t 36 [some (.ref o), some (.int v1), some (.int v2), some (.int v3), some (.int v4), some (.int v5), some (.int s)] [] M Q) (k10 : ∀ s : (Int32 × Int32), P (.inr (.inl s)) → zz_W G m_X0_slotOf t t t 10 [some (.ref o), some (.int v1), some (.int v2), some (.int s.1), some (.int s.2), none, none] [] M Q) (kR : ∀ r : Int32, P (.inr (.inr r)) → Q (some (.int r)) M) : zz_W G m_X0_slotOf t t t 36 [some (.ref o), some (.int v1), some (.int v2), some (.int v3), some (.int v4), some (.int v5), some (.int v6)] [] M Q := by
  unfold b_X0_slotOf_36 at h
  refine r_iload dX0_slotOf_36 rfl ?_
  refine r_iload dX0_slotOf_38 rfl ?_
  refine r_aload_n dX0_slotOf_40 rfl ?_
  refine r_getR (k := o) (q := (o + 3)) dX0_slotOf_41 zf_X0_18 (zo_X0 ho) (zr_X0_2 ho).1 (zr_X0_2 ho).2.1 (zr_X0_2 ho).2.2 ?_
  refine r_iload_n dX0_slotOf_44 rfl ?_
  obtain ⟨g1, h⟩ := zK_gd h
  refine r_iald dX0_slotOf_45 (za_X0_2 ho) g1 ?_
  refine r_iadd dX0_slotOf_46 ?_
  refine r_icmp_ge 73 dX0_slotOf_47 (by decide) (fun c2 => ?_) (fun c2 => ?_)
  · have h := zK_pos h c2
    refine r_aload_n dX0_slotOf_73 rfl ?_
    refine r_getR (k := o) (q := (o + 4)) dX0_slotOf_74 zf_X0_21 (zo_X0 ho) (zr_X0_3 ho).1 (zr_X0_3 ho).2.1 (zr_X0_3 ho).2.2 ?_
    refine r_iload_n dX0_slotOf_77 rfl ?_
    refine r_iald dX0_slotOf_78 (za_X0_3 ho) g1 ?_
    refine r_istore_n (fun x3 => [some (.ref o), some (.int v1), some (.int v2), some (.int x3), some (.int v4), some (.int v5), some (.int v6)]) dX0_slotOf_79 (by decide) rfl (fun _ => rfl) (fun x3 ex3 => ?_)
    have h := zK_bd h ex3
    refine r_iinc (nI 1) (fun x4 => [some (.ref o), some (.int v1), some (.int v2), some (.int x3), some (.int x4), some (.int v5), some (.int v6)]) dX0_slotOf_80 rfl (by decide) (by decide) rfl (fun _ => rfl) (fun x4 ex4 => ?_)
    have h := zK_bd h ex4
    refine r_goto 10 dX0_slotOf_83 (by decide) ?_
    refine zz_mask [5, 6] ?_
    exact k10 ((x3, x4)) (zK_some h)
  · have h := zK_neg h c2
    refine r_aload_n dX0_slotOf_50 rfl ?_
    refine r_getR (k := o) (q := (o + 5)) dX0_slotOf_51 zf_X0_24 (zo_X0 ho) (zr_X0_4 ho).1 (zr_X0_4 ho).2.1 (zr_X0_4 ho).2.2 ?_
    refine r_iload dX0_slotOf_54 rfl ?_
    obtain ⟨g5, h⟩ := zK_gd h
    refine r_lald dX0_slotOf_56 (za_X0_4 ho) g5 ?_
    refine tS_ir (v := f_X1_keyOf (M.2 (o + 5) (v6).toNatClampNeg)) (as := [.long (M.2 (o + 5) (v6).toNatClampNeg)]) (st := []) dX0_slotOf_57 zM_X1_keyOf zk_X0_66 ⟨Nat.le_of_ble_eq_true rfl, Nat.le_of_ble_eq_true rfl⟩ (Nat.le_of_ble_eq_true rfl) (zz_T0 rfl rfl) (fun Q' h => c_X1_keyOf ((M.2 (o + 5) (v6).toNatClampNeg)) M h) ?_
    refine r_iload_n dX0_slotOf_60 rfl ?_
    refine r_icmp_ne 67 dX0_slotOf_61 (by decide) (fun c6 => ?_) (fun c6 => ?_)
    · have h := zK_neg h c6
      refine r_iinc (nI 1) (fun x7 => [some (.ref o), some (.int v1), some (.int v2), some (.int v3), some (.int v4), some (.int v5), some (.int x7)]) dX0_slotOf_67 rfl (by decide) (by decide) rfl (fun _ => rfl) (fun x7 ex7 => ?_)
      have h := zK_bd h ex7
      refine r_goto 36 dX0_slotOf_70 (by decide) ?_
      exact k36 (x7) (zK_some h)
    · have h := zK_pos h c6
      refine r_iload dX0_slotOf_64 rfl ?_
      exact r_iret dX0_slotOf_66 rfl rfl rfl (kR (v6) (zK_some h))
noncomputable def j_X0_slotOf_36 (o : Nat) (v1 : Int32) (v2 : Int32) (v3 : Int32) (v4 : Int32) (v5 : Int32) (v6 : Int32) (M : zzMem) : Option ((Int32 × Int32) ⊕ Int32) :=
  zlp (fun s : Int32 => b_X0_slotOf_36 o v1 v2 v3 v4 v5 s M) v6
set_option maxHeartbeats 4000000 in
set_option maxRecDepth 100000 in
theorem w_X0_slotOf_36 {G : zzG} {t : Nat} {Q : Option Value → zzMem → Prop} (o : Nat) (v1 : Int32) (v2 : Int32) (v3 : Int32) (v4 : Int32) (v5 : Int32) (v6 : Int32) (M : zzMem) (ho : zI_X0 t o) {P : ((Int32 × Int32) ⊕ Int32) → Prop} (h : zK (j_X0_slotOf_36 o v1 v2 v3 v4 v5 v6 M) P) (k10 : ∀ s : (Int32 × Int32), P (.inl s) → zz_W G m_X0_slotOf t t t 10 [some (.ref o), some (.int v1), some (.int v2), some (.int s.1), some (.int s.2), none, none] [] M Q) (kR : ∀ r : Int32, P (.inr r) → Q (some (.int r)) M) : zz_W G m_X0_slotOf t t t 36 [some (.ref o), some (.int v1), some (.int v2), some (.int v3), some (.int v4), some (.int v5), some (.int v6)] [] M Q := by
  unfold j_X0_slotOf_36 at h
  exact zK_lp h (fun s : Int32 => zz_W G m_X0_slotOf t t t 36 [some (.ref o), some (.int v1), some (.int v2), some (.int v3), some (.int v4), some (.int v5), some (.int s)] [] M Q) (fun s h => x_X0_slotOf_36 o v1 v2 v3 v4 v5 s M ho h (fun s p => p) k10 kR)
noncomputable def b_X0_slotOf_10 (o : Nat) (v1 : Int32) (v2 : Int32) (v3 : Int32) (v4 : Int32) (M : zzMem) : Option ((Int32 × Int32) ⊕ Int32) :=
  zgd (vp_in v1 64) (
  if (M.1 (o + 9) (v1).toNatClampNeg) ≤ v4 then
  (some ((.inr (-1 : Int32))))
  else (if v3 = (-1 : Int32) then
  (some ((.inr (-1 : Int32))))
  else (zbd ((v3 * (nI 6))) (fun x4 =>
  j_X0_slotOf_36 o v1 v2 v3 v4 x4 x4 M))))
set_option maxHeartbeats 4000000 in
set_option maxRecDepth 100000 in
theorem x_X0_slotOf_10 {G : zzG} {t : Nat} {Q : Option Value → zzMem → Prop} (o : Nat) (v1 : Int32) (v2 : Int32) (v3 : Int32) (v4 : Int32) (M : zzMem) (ho : zI_X0 t o) {P : ((Int32 × Int32) ⊕ Int32) → Prop} (h : zK (b_X0_slotOf_10 o v1 v2 v3 v4 M) P) (k10 : ∀ s : (Int32 × Int32), P (.inl s) → zz_W G m_X0_slotOf t t t 10 [some (.ref o), some (.int v1), some (.int v2), some (.int s.1), some (.int s.2), none, none] [] M Q) (kR : ∀ r : Int32, P (.inr r) → Q (some (.int r)) M) : zz_W G m_X0_slotOf t t t 10 [some (.ref o), some (.int v1), some (.int v2), some (.int v3), some (.int v4), none, none] [] M Q := by
  unfold b_X0_slotOf_10 at h
  refine r_iload dX0_slotOf_10 rfl ?_
  refine r_aload_n dX0_slotOf_12 rfl ?_
  refine r_getR (k := o) (q := (o + 9)) dX0_slotOf_13 zf_X0_37 (zo_X0 ho) (zr_X0_8 ho).1 (zr_X0_8 ho).2.1 (zr_X0_8 ho).2.2 ?_
  refine r_iload_n dX0_slotOf_16 rfl ?_
  obtain ⟨g1, h⟩ := zK_gd h
  refine r_iald dX0_slotOf_17 (za_X0_8 ho) g1 ?_
  refine r_icmp_ge 86 dX0_slotOf_18 (by decide) (fun c2 => ?_) (fun c2 => ?_)
  · have h := zK_pos h c2
    refine r_iconst (v := (-1 : Int32)) dX0_slotOf_86 (by decide) ?_
    exact r_iret dX0_slotOf_87 rfl rfl rfl (kR ((-1 : Int32)) (zK_some h))
  · have h := zK_neg h c2
    refine r_iload_n dX0_slotOf_21 rfl ?_
    refine r_iconst (v := (-1 : Int32)) dX0_slotOf_22 (by decide) ?_
    refine r_icmp_eq 86 dX0_slotOf_23 (by decide) (fun c3 => ?_) (fun c3 => ?_)
    · have h := zK_pos h c3
      refine r_iconst (v := (-1 : Int32)) dX0_slotOf_86 (by decide) ?_
      exact r_iret dX0_slotOf_87 rfl rfl rfl (kR ((-1 : Int32)) (zK_some h))
    · have h := zK_neg h c3
      refine r_iload_n dX0_slotOf_26 rfl ?_
      refine r_bipush (v := (nI 6)) dX0_slotOf_27 (by decide) ?_
      refine r_imul dX0_slotOf_29 ?_
      refine r_istore (fun x4 => [some (.ref o), some (.int v1), some (.int v2), some (.int v3), some (.int v4), some (.int x4), none]) dX0_slotOf_30 (by decide) rfl (fun _ => rfl) (fun x4 ex4 => ?_)
      have h := zK_bd h ex4
      refine r_iload dX0_slotOf_32 rfl ?_
      refine s_istore ([some (.ref o), some (.int v1), some (.int v2), some (.int v3), some (.int v4), some (.int x4), some (.int x4)]) dX0_slotOf_34 (by decide) rfl rfl ?_
      exact w_X0_slotOf_36 (o) (v1) (v2) (v3) (v4) (x4) (x4) M ho h k10 kR
noncomputable def j_X0_slotOf_10 (o : Nat) (v1 : Int32) (v2 : Int32) (v3 : Int32) (v4 : Int32) (M : zzMem) : Option Int32 :=
  zlp (fun s : (Int32 × Int32) => b_X0_slotOf_10 o v1 v2 s.1 s.2 M) (v3, v4)
set_option maxHeartbeats 4000000 in
set_option maxRecDepth 100000 in
theorem w_X0_slotOf_10 {G : zzG} {t : Nat} {Q : Option Value → zzMem → Prop} (o : Nat) (v1 : Int32) (v2 : Int32) (v3 : Int32) (v4 : Int32) (M : zzMem) (ho : zI_X0 t o) {P : Int32 → Prop} (h : zK (j_X0_slotOf_10 o v1 v2 v3 v4 M) P) (kR : ∀ r : Int32, P r → Q (some (.int r)) M) : zz_W G m_X0_slotOf t t t 10 [some (.ref o), some (.int v1), some (.int v2), some (.int v3), some (.int v4), none, none] [] M Q := by
  unfold j_X0_slotOf_10 at h
  exact zK_lp h (fun s : (Int32 × Int32) => zz_W G m_X0_slotOf t t t 10 [some (.ref o), some (.int v1), some (.int v2), some (.int s.1), some (.int s.2), none, none] [] M Q) (fun s h => x_X0_slotOf_10 o v1 v2 s.1 s.2 M ho h (fun s p => p) kR)
noncomputable def f_X0_slotOf (o : Nat) (a1 : Int32) (a2 : Int32) (M : zzMem) : Option Int32 :=
  zgd (vp_in a1 64) (
  zbd ((M.1 (o + 6) (a1).toNatClampNeg)) (fun x2 =>
  j_X0_slotOf_10 o a1 a2 x2 (nI 0) M))
set_option maxHeartbeats 4000000 in
set_option maxRecDepth 100000 in
theorem w_X0_slotOf_0 {G : zzG} {t : Nat} {Q : Option Value → zzMem → Prop} (o : Nat) (a1 : Int32) (a2 : Int32) (M : zzMem) (ho : zI_X0 t o) {P : Int32 → Prop} (h : zK (f_X0_slotOf o a1 a2 M) P) (kR : ∀ r : Int32, P r → Q (some (.int r)) M) : zz_W G m_X0_slotOf t t t 0 [some (.ref o), some (.int a1), some (.int a2), none, none, none, none] [] M Q := by
  unfold f_X0_slotOf at h
  refine r_aload_n dX0_slotOf_0 rfl ?_
  refine r_getR (k := o) (q := (o + 6)) dX0_slotOf_1 zf_X0_28 (zo_X0 ho) (zr_X0_5 ho).1 (zr_X0_5 ho).2.1 (zr_X0_5 ho).2.2 ?_
  refine r_iload_n dX0_slotOf_4 rfl ?_
  obtain ⟨g1, h⟩ := zK_gd h
  refine r_iald dX0_slotOf_5 (za_X0_5 ho) g1 ?_
  refine r_istore_n (fun x2 => [some (.ref o), some (.int a1), some (.int a2), some (.int x2), none, none, none]) dX0_slotOf_6 (by decide) rfl (fun _ => rfl) (fun x2 ex2 => ?_)
  have h := zK_bd h ex2
  refine r_iconst (v := (nI 0)) dX0_slotOf_7 (by decide) ?_
  refine s_istore ([some (.ref o), some (.int a1), some (.int a2), some (.int x2), some (.int (nI 0)), none, none]) dX0_slotOf_8 (by decide) rfl rfl ?_
  exact w_X0_slotOf_10 (o) (a1) (a2) (x2) ((nI 0)) M ho h kR
set_option maxHeartbeats 4000000 in
set_option maxRecDepth 100000 in
theorem c_X0_slotOf {G : zzG} {t : Nat} {Q : Option Value → zzMem → Prop} (o : Nat) (a1 : Int32) (a2 : Int32) (M : zzMem) (ho : zI_X0 t o) {P : Int32 → Prop} (h : zK (f_X0_slotOf o a1 a2 M) P) (kR : ∀ r : Int32, P r → Q (some (.int r)) M) : zz_S G m_X0_slotOf t t [.ref o, .int a1, .int a2] M Q :=
  zz_S_of (by decide) (by decide) (Nat.le_of_ble_eq_true rfl) (w_X0_slotOf_0 o a1 a2 M ho h kR)
noncomputable def b_X0_pageAt_26 (o : Nat) (v2 : Int32) (v3 : Int32) (v4 : Int32) (M : zzMem) : Option ((Int32 × Int32) ⊕ Int32) :=
  if v2 ≤ v4 then
  (some ((.inr v3)))
  else (if v3 = (-1 : Int32) then
  (some ((.inr v3)))
  else (zgd (vp_in v3 256) (
  zbd ((M.1 (o + 4) (v3).toNatClampNeg)) (fun x4 =>
  zbd (v4 + (nI 1)) (fun x5 =>
  some (.inl (x4, x5)))))))
set_option maxHeartbeats 4000000 in
set_option maxRecDepth 100000 in
theorem x_X0_pageAt_26 {G : zzG} {t : Nat} {Q : Option Value → zzMem → Prop} (o : Nat) (v2 : Int32) (v3 : Int32) (v4 : Int32) (M : zzMem) (ho : zI_X0 t o) {P : ((Int32 × Int32) ⊕ Int32) → Prop} (h : zK (b_X0_pageAt_26 o v2 v3 v4 M) P) (k26 : ∀ s : (Int32 × Int32), P (.inl s) → zz_W G m_X0_pageAt t t t 26 [some (.ref o), none, some (.int v2), some (.int s.1), some (.int s.2)] [] M Q) (kR : ∀ r : Int32, P (.inr r) → Q (some (.int r)) M) : zz_W G m_X0_pageAt t t t 26 [some (.ref o), none, some (.int v2), some (.int v3), some (.int v4)] [] M Q := by
  unfold b_X0_pageAt_26 at h
  refine r_iload dX0_pageAt_26 rfl ?_
  refine r_iload_n dX0_pageAt_28 rfl ?_
  refine r_icmp_ge 50 dX0_pageAt_29 (by decide) (fun c1 => ?_) (fun c1 => ?_)
  · have h := zK_pos h c1
    refine r_iload_n dX0_pageAt_50 rfl ?_
    exact r_iret dX0_pageAt_51 rfl rfl rfl (kR (v3) (zK_some h))
  · have h := zK_neg h c1
    refine r_iload_n dX0_pageAt_32 rfl ?_
    refine r_iconst (v := (-1 : Int32)) dX0_pageAt_33 (by decide) ?_
    refine r_icmp_eq 50 dX0_pageAt_34 (by decide) (fun c2 => ?_) (fun c2 => ?_)
    · have h := zK_pos h c2
      refine r_iload_n dX0_pageAt_50 rfl ?_
      exact r_iret dX0_pageAt_51 rfl rfl rfl (kR (v3) (zK_some h))
    · have h := zK_neg h c2
      refine r_aload_n dX0_pageAt_37 rfl ?_
      refine r_getR (k := o) (q := (o + 4)) dX0_pageAt_38 zf_X0_21 (zo_X0 ho) (zr_X0_3 ho).1 (zr_X0_3 ho).2.1 (zr_X0_3 ho).2.2 ?_
      refine r_iload_n dX0_pageAt_41 rfl ?_
      obtain ⟨g3, h⟩ := zK_gd h
      refine r_iald dX0_pageAt_42 (za_X0_3 ho) g3 ?_
      refine r_istore_n (fun x4 => [some (.ref o), none, some (.int v2), some (.int x4), some (.int v4)]) dX0_pageAt_43 (by decide) rfl (fun _ => rfl) (fun x4 ex4 => ?_)
      have h := zK_bd h ex4
      refine r_iinc (nI 1) (fun x5 => [some (.ref o), none, some (.int v2), some (.int x4), some (.int x5)]) dX0_pageAt_44 rfl (by decide) (by decide) rfl (fun _ => rfl) (fun x5 ex5 => ?_)
      have h := zK_bd h ex5
      refine r_goto 26 dX0_pageAt_47 (by decide) ?_
      exact k26 ((x4, x5)) (zK_some h)
noncomputable def j_X0_pageAt_26 (o : Nat) (v2 : Int32) (v3 : Int32) (v4 : Int32) (M : zzMem) : Option Int32 :=
  zlp (fun s : (Int32 × Int32) => b_X0_pageAt_26 o v2 s.1 s.2 M) (v3, v4)
set_option maxHeartbeats 4000000 in
set_option maxRecDepth 100000 in
theorem w_X0_pageAt_26 {G : zzG} {t : Nat} {Q : Option Value → zzMem → Prop} (o : Nat) (v2 : Int32) (v3 : Int32) (v4 : Int32) (M : zzMem) (ho : zI_X0 t o) {P : Int32 → Prop} (h : zK (j_X0_pageAt_26 o v2 v3 v4 M) P) (kR : ∀ r : Int32, P r → Q (some (.int r)) M) : zz_W G m_X0_pageAt t t t 26 [some (.ref o), none, some (.int v2), some (.int v3), some (.int v4)] [] M Q := by
  unfold j_X0_pageAt_26 at h
  exact zK_lp h (fun s : (Int32 × Int32) => zz_W G m_X0_pageAt t t t 26 [some (.ref o), none, some (.int v2), some (.int s.1), some (.int s.2)] [] M Q) (fun s h => x_X0_pageAt_26 o v2 s.1 s.2 M ho h (fun s p => p) kR)
noncomputable def f_X0_pageAt (o : Nat) (a1 : Int32) (a2 : Int32) (M : zzMem) : Option Int32 :=
  if a2 < 0 then
  (some ((-1 : Int32)))
  else (zgd (vp_in a1 64) (
  if a2 < (M.1 (o + 9) (a1).toNatClampNeg) then
  (zbd ((M.1 (o + 6) (a1).toNatClampNeg)) (fun x4 =>
  j_X0_pageAt_26 o a2 x4 (nI 0) M))
  else (some ((-1 : Int32)))))
set_option maxHeartbeats 4000000 in
set_option maxRecDepth 100000 in
theorem w_X0_pageAt_0 {G : zzG} {t : Nat} {Q : Option Value → zzMem → Prop} (o : Nat) (a1 : Int32) (a2 : Int32) (M : zzMem) (ho : zI_X0 t o) {P : Int32 → Prop} (h : zK (f_X0_pageAt o a1 a2 M) P) (kR : ∀ r : Int32, P r → Q (some (.int r)) M) : zz_W G m_X0_pageAt t t t 0 [some (.ref o), some (.int a1), some (.int a2), none, none] [] M Q := by
  unfold f_X0_pageAt at h
  refine r_iload_n dX0_pageAt_0 rfl ?_
  refine r_if_lt 14 dX0_pageAt_1 (by decide) (fun c1 => ?_) (fun c1 => ?_)
  · have h := zK_pos h c1
    refine r_iconst (v := (-1 : Int32)) dX0_pageAt_14 (by decide) ?_
    exact r_iret dX0_pageAt_15 rfl rfl rfl (kR ((-1 : Int32)) (zK_some h))
  · have h := zK_neg h c1
    refine r_iload_n dX0_pageAt_4 rfl ?_
    refine r_aload_n dX0_pageAt_5 rfl ?_
    refine r_getR (k := o) (q := (o + 9)) dX0_pageAt_6 zf_X0_37 (zo_X0 ho) (zr_X0_8 ho).1 (zr_X0_8 ho).2.1 (zr_X0_8 ho).2.2 ?_
    refine r_iload_n dX0_pageAt_9 rfl ?_
    obtain ⟨g2, h⟩ := zK_gd h
    refine r_iald dX0_pageAt_10 (za_X0_8 ho) g2 ?_
    refine r_icmp_lt 16 dX0_pageAt_11 (by decide) (fun c3 => ?_) (fun c3 => ?_)
    · have h := zK_pos h c3
      refine r_aload_n dX0_pageAt_16 rfl ?_
      refine r_getR (k := o) (q := (o + 6)) dX0_pageAt_17 zf_X0_28 (zo_X0 ho) (zr_X0_5 ho).1 (zr_X0_5 ho).2.1 (zr_X0_5 ho).2.2 ?_
      refine r_iload_n dX0_pageAt_20 rfl ?_
      refine r_iald dX0_pageAt_21 (za_X0_5 ho) g2 ?_
      refine r_istore_n (fun x4 => [some (.ref o), some (.int a1), some (.int a2), some (.int x4), none]) dX0_pageAt_22 (by decide) rfl (fun _ => rfl) (fun x4 ex4 => ?_)
      have h := zK_bd h ex4
      refine r_iconst (v := (nI 0)) dX0_pageAt_23 (by decide) ?_
      refine s_istore ([some (.ref o), some (.int a1), some (.int a2), some (.int x4), some (.int (nI 0))]) dX0_pageAt_24 (by decide) rfl rfl ?_
      refine zz_mask [1] ?_
      exact w_X0_pageAt_26 (o) (a2) (x4) ((nI 0)) M ho h kR
    · have h := zK_neg h c3
      refine r_iconst (v := (-1 : Int32)) dX0_pageAt_14 (by decide) ?_
      exact r_iret dX0_pageAt_15 rfl rfl rfl (kR ((-1 : Int32)) (zK_some h))
set_option maxHeartbeats 4000000 in
set_option maxRecDepth 100000 in
theorem c_X0_pageAt {G : zzG} {t : Nat} {Q : Option Value → zzMem → Prop} (o : Nat) (a1 : Int32) (a2 : Int32) (M : zzMem) (ho : zI_X0 t o) {P : Int32 → Prop} (h : zK (f_X0_pageAt o a1 a2 M) P) (kR : ∀ r : Int32, P r → Q (some (.int r)) M) : zz_S G m_X0_pageAt t t [.ref o, .int a1, .int a2] M Q :=
  zz_S_of (by decide) (by decide) (Nat.le_of_ble_eq_true rfl) (w_X0_pageAt_0 o a1 a2 M ho h kR)
noncomputable def j_X0_pageOfKey_22 (o : Nat) (M : zzMem) : Option Int32 :=
  some ((-1 : Int32))
set_option maxHeartbeats 4000000 in
set_option maxRecDepth 100000 in
theorem w_X0_pageOfKey_22 {G : zzG} {t : Nat} {Q : Option Value → zzMem → Prop} (o : Nat) (M : zzMem) (ho : zI_X0 t o) {P : Int32 → Prop} (h : zK (j_X0_pageOfKey_22 o M) P) (kR : ∀ r : Int32, P r → Q (some (.int r)) M) : zz_W G m_X0_pageOfKey t t t 22 [none, none, none] [] M Q := by
  unfold j_X0_pageOfKey_22 at h
  refine r_iconst (v := (-1 : Int32)) dX0_pageOfKey_22 (by decide) ?_
  refine r_goto 37 dX0_pageOfKey_23 (by decide) ?_
  exact r_iret dX0_pageOfKey_37 rfl rfl rfl (kR ((-1 : Int32)) (zK_some h))
noncomputable def f_X0_pageOfKey (o : Nat) (a1 : Int32) (a2 : Int32) (M : zzMem) : Option Int32 :=
  if a2 < 0 then
  (j_X0_pageOfKey_22 o M)
  else (zgd (vp_in a1 64) (
  if (M.1 (o + 8) (a1).toNatClampNeg) ≤ a2 then
  (j_X0_pageOfKey_22 o M)
  else (if (nI 1) ≤ (M.1 o 11) then
  (zgd (¬ (M.1 o 11) = 0) (
  (f_X0_pageAt o a1 (a2 / (M.1 o 11)) M).bind (fun r6 =>
  some r6)))
  else (j_X0_pageOfKey_22 o M))))
set_option maxHeartbeats 4000000 in
set_option maxRecDepth 100000 in
theorem w_X0_pageOfKey_0 {G : zzG} {t : Nat} {Q : Option Value → zzMem → Prop} (o : Nat) (a1 : Int32) (a2 : Int32) (M : zzMem) (ho : zI_X0 t o) {P : Int32 → Prop} (h : zK (f_X0_pageOfKey o a1 a2 M) P) (kR : ∀ r : Int32, P r → Q (some (.int r)) M) : zz_W G m_X0_pageOfKey t t t 0 [some (.ref o), some (.int a1), some (.int a2)] [] M Q := by
  unfold f_X0_pageOfKey at h
  refine r_iload_n dX0_pageOfKey_0 rfl ?_
  refine r_if_lt 22 dX0_pageOfKey_1 (by decide) (fun c1 => ?_) (fun c1 => ?_)
  · have h := zK_pos h c1
    refine zz_mask [0, 1, 2] ?_
    exact w_X0_pageOfKey_22 (o) M ho h kR
  · have h := zK_neg h c1
    refine r_iload_n dX0_pageOfKey_4 rfl ?_
    refine r_aload_n dX0_pageOfKey_5 rfl ?_
    refine r_getR (k := o) (q := (o + 8)) dX0_pageOfKey_6 zf_X0_34 (zo_X0 ho) (zr_X0_7 ho).1 (zr_X0_7 ho).2.1 (zr_X0_7 ho).2.2 ?_
    refine r_iload_n dX0_pageOfKey_9 rfl ?_
    obtain ⟨g2, h⟩ := zK_gd h
    refine r_iald dX0_pageOfKey_10 (za_X0_7 ho) g2 ?_
    refine r_icmp_ge 22 dX0_pageOfKey_11 (by decide) (fun c3 => ?_) (fun c3 => ?_)
    · have h := zK_pos h c3
      refine zz_mask [0, 1, 2] ?_
      exact w_X0_pageOfKey_22 (o) M ho h kR
    · have h := zK_neg h c3
      refine r_aload_n dX0_pageOfKey_14 rfl ?_
      refine r_getI (k := o) dX0_pageOfKey_15 zf_X0_47 (zo_X0 ho) (zi_X0_11 ho) ?_
      refine r_iconst (v := (nI 1)) dX0_pageOfKey_18 (by decide) ?_
      refine r_icmp_ge 26 dX0_pageOfKey_19 (by decide) (fun c4 => ?_) (fun c4 => ?_)
      · have h := zK_pos h c4
        refine r_aload_n dX0_pageOfKey_26 rfl ?_
        refine r_iload_n dX0_pageOfKey_27 rfl ?_
        refine r_iload_n dX0_pageOfKey_28 rfl ?_
        refine r_aload_n dX0_pageOfKey_29 rfl ?_
        refine r_getI (k := o) dX0_pageOfKey_30 zf_X0_47 (zo_X0 ho) (zi_X0_11 ho) ?_
        obtain ⟨g5, h⟩ := zK_gd h
        refine r_idiv dX0_pageOfKey_33 g5 ?_
        refine kV_ir (as := [.int a1, .int (a2 / (M.1 o 11))]) (st := []) (k := o) dX0_pageOfKey_34 zM_X0_pageAt zk_X0_72 (zo_X0 ho) (by decide) rfl ⟨Nat.le_of_ble_eq_true rfl, Nat.le_of_ble_eq_true rfl⟩ (Nat.le_of_ble_eq_true rfl) (zz_T0 rfl rfl) (fun Q' P' k h => c_X0_pageAt (o) (a1) ((a2 / (M.1 o 11))) M ho h k) h (fun r6 h => ?_)
        exact r_iret dX0_pageOfKey_37 rfl rfl rfl (kR (r6) (zK_some h))
      · have h := zK_neg h c4
        refine zz_mask [0, 1, 2] ?_
        exact w_X0_pageOfKey_22 (o) M ho h kR
set_option maxHeartbeats 4000000 in
set_option maxRecDepth 100000 in
theorem c_X0_pageOfKey {G : zzG} {t : Nat} {Q : Option Value → zzMem → Prop} (o : Nat) (a1 : Int32) (a2 : Int32) (M : zzMem) (ho : zI_X0 t o) {P : Int32 → Prop} (h : zK (f_X0_pageOfKey o a1 a2 M) P) (kR : ∀ r : Int32, P r → Q (some (.int r)) M) : zz_S G m_X0_pageOfKey t t [.ref o, .int a1, .int a2] M Q :=
  zz_S_of (by decide) (by decide) (Nat.le_of_ble_eq_true rfl) (w_X0_pageOfKey_0 o a1 a2 M ho h kR)
noncomputable def f_X0_keyAt (o : Nat) (a1 : Int32) (a2 : Int32) (M : zzMem) : Option Int32 :=
  (f_X0_pageOfKey o a1 a2 M).bind (fun r1 =>
  if r1 = (-1 : Int32) then
  (some ((-4 : Int32)))
  else (zgd (¬ (M.1 o 11) = 0) (
  zgd (vp_in ((r1 * (nI 6)) + (zrm a2 (M.1 o 11))) 1536) (
  some ((f_X1_keyOf (M.2 (o + 5) (((r1 * (nI 6)) + (zrm a2 (M.1 o 11)))).toNatClampNeg)))))))
set_option maxHeartbeats 4000000 in
set_option maxRecDepth 100000 in
theorem w_X0_keyAt_0 {G : zzG} {t : Nat} {Q : Option Value → zzMem → Prop} (o : Nat) (a1 : Int32) (a2 : Int32) (M : zzMem) (ho : zI_X0 t o) {P : Int32 → Prop} (h : zK (f_X0_keyAt o a1 a2 M) P) (kR : ∀ r : Int32, P r → Q (some (.int r)) M) : zz_W G m_X0_keyAt t t t 0 [some (.ref o), some (.int a1), some (.int a2), none] [] M Q := by
  unfold f_X0_keyAt at h
  refine r_aload_n dX0_keyAt_0 rfl ?_
  refine r_iload_n dX0_keyAt_1 rfl ?_
  refine r_iload_n dX0_keyAt_2 rfl ?_
  refine kV_ir (as := [.int a1, .int a2]) (st := []) (k := o) dX0_keyAt_3 zM_X0_pageOfKey zk_X0_76 (zo_X0 ho) (by decide) rfl ⟨Nat.le_of_ble_eq_true rfl, Nat.le_of_ble_eq_true rfl⟩ (Nat.le_of_ble_eq_true rfl) (zz_T0 rfl rfl) (fun Q' P' k h => c_X0_pageOfKey (o) (a1) (a2) M ho h k) h (fun r1 h => ?_)
  refine s_istore_n ([some (.ref o), some (.int a1), some (.int a2), some (.int r1)]) dX0_keyAt_6 (by decide) rfl rfl ?_
  refine r_iload_n dX0_keyAt_7 rfl ?_
  refine r_iconst (v := (-1 : Int32)) dX0_keyAt_8 (by decide) ?_
  refine r_icmp_ne 17 dX0_keyAt_9 (by decide) (fun c2 => ?_) (fun c2 => ?_)
  · have h := zK_neg h c2
    refine r_aload_n dX0_keyAt_17 rfl ?_
    refine r_getR (k := o) (q := (o + 5)) dX0_keyAt_18 zf_X0_24 (zo_X0 ho) (zr_X0_4 ho).1 (zr_X0_4 ho).2.1 (zr_X0_4 ho).2.2 ?_
    refine r_iload_n dX0_keyAt_21 rfl ?_
    refine r_bipush (v := (nI 6)) dX0_keyAt_22 (by decide) ?_
    refine r_imul dX0_keyAt_24 ?_
    refine r_iload_n dX0_keyAt_25 rfl ?_
    refine r_aload_n dX0_keyAt_26 rfl ?_
    refine r_getI (k := o) dX0_keyAt_27 zf_X0_47 (zo_X0 ho) (zi_X0_11 ho) ?_
    obtain ⟨g3, h⟩ := zK_gd h
    refine r_irem dX0_keyAt_30 g3 ?_
    refine r_iadd dX0_keyAt_31 ?_
    obtain ⟨g4, h⟩ := zK_gd h
    refine r_lald dX0_keyAt_32 (za_X0_4 ho) g4 ?_
    refine tS_ir (v := f_X1_keyOf (M.2 (o + 5) (((r1 * (nI 6)) + (zrm a2 (M.1 o 11)))).toNatClampNeg)) (as := [.long (M.2 (o + 5) (((r1 * (nI 6)) + (zrm a2 (M.1 o 11)))).toNatClampNeg)]) (st := []) dX0_keyAt_33 zM_X1_keyOf zk_X0_66 ⟨Nat.le_of_ble_eq_true rfl, Nat.le_of_ble_eq_true rfl⟩ (Nat.le_of_ble_eq_true rfl) (zz_T0 rfl rfl) (fun Q' h => c_X1_keyOf ((M.2 (o + 5) (((r1 * (nI 6)) + (zrm a2 (M.1 o 11)))).toNatClampNeg)) M h) ?_
    exact r_iret dX0_keyAt_36 rfl rfl rfl (kR ((f_X1_keyOf (M.2 (o + 5) (((r1 * (nI 6)) + (zrm a2 (M.1 o 11)))).toNatClampNeg))) (zK_some h))
  · have h := zK_pos h c2
    refine r_bipush (v := (-4 : Int32)) dX0_keyAt_12 (by decide) ?_
    refine r_goto 36 dX0_keyAt_14 (by decide) ?_
    exact r_iret dX0_keyAt_36 rfl rfl rfl (kR ((-4 : Int32)) (zK_some h))
set_option maxHeartbeats 4000000 in
set_option maxRecDepth 100000 in
theorem c_X0_keyAt {G : zzG} {t : Nat} {Q : Option Value → zzMem → Prop} (o : Nat) (a1 : Int32) (a2 : Int32) (M : zzMem) (ho : zI_X0 t o) {P : Int32 → Prop} (h : zK (f_X0_keyAt o a1 a2 M) P) (kR : ∀ r : Int32, P r → Q (some (.int r)) M) : zz_S G m_X0_keyAt t t [.ref o, .int a1, .int a2] M Q :=
  zz_S_of (by decide) (by decide) (Nat.le_of_ble_eq_true rfl) (w_X0_keyAt_0 o a1 a2 M ho h kR)
noncomputable def f_X0_dropLastPage (o : Nat) (a1 : Int32) (M : zzMem) : Option zzMem :=
  zgd (vp_in a1 64) (
  (f_X0_pageAt o a1 ((M.1 (o + 9) (a1).toNatClampNeg) - (nI 2)) M).bind (fun r2 =>
  if r2 = (-1 : Int32) then
  (some M)
  else (zgd (vp_in (M.1 (o + 7) (a1).toNatClampNeg) 256) (
  zbd (zz_si M (o + 1) ((M.1 (o + 7) (a1).toNatClampNeg)).toNatClampNeg (-1 : Int32)) (fun M5 =>
  zgd (vp_in r2 256) (
  zbd (zz_si M5 (o + 4) (r2).toNatClampNeg (-1 : Int32)) (fun M7 =>
  zbd (zz_si M7 (o + 7) (a1).toNatClampNeg r2) (fun M8 =>
  zbd (zz_si M8 (o + 9) (a1).toNatClampNeg ((M8.1 (o + 9) (a1).toNatClampNeg) - (nI 1))) (fun M9 =>
  some M9)))))))))
set_option maxHeartbeats 4000000 in
set_option maxRecDepth 100000 in
theorem w_X0_dropLastPage_0 {G : zzG} {t : Nat} {Q : Option Value → zzMem → Prop} (o : Nat) (a1 : Int32) (M : zzMem) (ho : zI_X0 t o) {P : zzMem → Prop} (h : zK (f_X0_dropLastPage o a1 M) P) (kR : ∀ r : zzMem, P r → Q none r) : zz_W G m_X0_dropLastPage t t t 0 [some (.ref o), some (.int a1), none] [] M Q := by
  unfold f_X0_dropLastPage at h
  refine r_aload_n dX0_dropLastPage_0 rfl ?_
  refine r_iload_n dX0_dropLastPage_1 rfl ?_
  refine r_aload_n dX0_dropLastPage_2 rfl ?_
  refine r_getR (k := o) (q := (o + 9)) dX0_dropLastPage_3 zf_X0_37 (zo_X0 ho) (zr_X0_8 ho).1 (zr_X0_8 ho).2.1 (zr_X0_8 ho).2.2 ?_
  refine r_iload_n dX0_dropLastPage_6 rfl ?_
  obtain ⟨g1, h⟩ := zK_gd h
  refine r_iald dX0_dropLastPage_7 (za_X0_8 ho) g1 ?_
  refine r_iconst (v := (nI 2)) dX0_dropLastPage_8 (by decide) ?_
  refine r_isub dX0_dropLastPage_9 ?_
  refine kV_ir (as := [.int a1, .int ((M.1 (o + 9) (a1).toNatClampNeg) - (nI 2))]) (st := []) (k := o) dX0_dropLastPage_10 zM_X0_pageAt zk_X0_72 (zo_X0 ho) (by decide) rfl ⟨Nat.le_of_ble_eq_true rfl, Nat.le_of_ble_eq_true rfl⟩ (Nat.le_of_ble_eq_true rfl) (zz_T0 rfl rfl) (fun Q' P' k h => c_X0_pageAt (o) (a1) (((M.1 (o + 9) (a1).toNatClampNeg) - (nI 2))) M ho h k) h (fun r2 h => ?_)
  refine s_istore_n ([some (.ref o), some (.int a1), some (.int r2)]) dX0_dropLastPage_13 (by decide) rfl rfl ?_
  refine r_iload_n dX0_dropLastPage_14 rfl ?_
  refine r_iconst (v := (-1 : Int32)) dX0_dropLastPage_15 (by decide) ?_
  refine r_icmp_ne 20 dX0_dropLastPage_16 (by decide) (fun c3 => ?_) (fun c3 => ?_)
  · have h := zK_neg h c3
    refine r_aload_n dX0_dropLastPage_20 rfl ?_
    refine r_getR (k := o) (q := (o + 1)) dX0_dropLastPage_21 zf_X0_9 (zo_X0 ho) (zr_X0_0 ho).1 (zr_X0_0 ho).2.1 (zr_X0_0 ho).2.2 ?_
    refine r_aload_n dX0_dropLastPage_24 rfl ?_
    refine r_getR (k := o) (q := (o + 7)) dX0_dropLastPage_25 zf_X0_31 (zo_X0 ho) (zr_X0_6 ho).1 (zr_X0_6 ho).2.1 (zr_X0_6 ho).2.2 ?_
    refine r_iload_n dX0_dropLastPage_28 rfl ?_
    refine r_iald dX0_dropLastPage_29 (za_X0_6 ho) g1 ?_
    refine r_iconst (v := (-1 : Int32)) dX0_dropLastPage_30 (by decide) ?_
    obtain ⟨g4, h⟩ := zK_gd h
    refine r_iast dX0_dropLastPage_31 (za_X0_0 ho) g4 (fun M5 eM5 => ?_)
    have h := zK_bd h eM5
    refine r_aload_n dX0_dropLastPage_32 rfl ?_
    refine r_getR (k := o) (q := (o + 4)) dX0_dropLastPage_33 zf_X0_21 (zo_X0 ho) (zr_X0_3 ho).1 (zr_X0_3 ho).2.1 (zr_X0_3 ho).2.2 ?_
    refine r_iload_n dX0_dropLastPage_36 rfl ?_
    refine r_iconst (v := (-1 : Int32)) dX0_dropLastPage_37 (by decide) ?_
    obtain ⟨g6, h⟩ := zK_gd h
    refine r_iast dX0_dropLastPage_38 (za_X0_3 ho) g6 (fun M7 eM7 => ?_)
    have h := zK_bd h eM7
    refine r_aload_n dX0_dropLastPage_39 rfl ?_
    refine r_getR (k := o) (q := (o + 7)) dX0_dropLastPage_40 zf_X0_31 (zo_X0 ho) (zr_X0_6 ho).1 (zr_X0_6 ho).2.1 (zr_X0_6 ho).2.2 ?_
    refine r_iload_n dX0_dropLastPage_43 rfl ?_
    refine r_iload_n dX0_dropLastPage_44 rfl ?_
    refine r_iast dX0_dropLastPage_45 (za_X0_6 ho) g1 (fun M8 eM8 => ?_)
    have h := zK_bd h eM8
    refine r_aload_n dX0_dropLastPage_46 rfl ?_
    refine r_getR (k := o) (q := (o + 9)) dX0_dropLastPage_47 zf_X0_37 (zo_X0 ho) (zr_X0_8 ho).1 (zr_X0_8 ho).2.1 (zr_X0_8 ho).2.2 ?_
    refine r_iload_n dX0_dropLastPage_50 rfl ?_
    refine r_dup2 dX0_dropLastPage_51 rfl rfl ?_
    refine r_iald dX0_dropLastPage_52 (za_X0_8 ho) g1 ?_
    refine r_iconst (v := (nI 1)) dX0_dropLastPage_53 (by decide) ?_
    refine r_isub dX0_dropLastPage_54 ?_
    refine r_iast dX0_dropLastPage_55 (za_X0_8 ho) g1 (fun M9 eM9 => ?_)
    have h := zK_bd h eM9
    exact r_vret dX0_dropLastPage_56 rfl rfl rfl (kR (M9) (zK_some h))
  · have h := zK_pos h c3
    exact r_vret dX0_dropLastPage_19 rfl rfl rfl (kR (M) (zK_some h))
set_option maxHeartbeats 4000000 in
set_option maxRecDepth 100000 in
theorem c_X0_dropLastPage {G : zzG} {t : Nat} {Q : Option Value → zzMem → Prop} (o : Nat) (a1 : Int32) (M : zzMem) (ho : zI_X0 t o) {P : zzMem → Prop} (h : zK (f_X0_dropLastPage o a1 M) P) (kR : ∀ r : zzMem, P r → Q none r) : zz_S G m_X0_dropLastPage t t [.ref o, .int a1] M Q :=
  zz_S_of (by decide) (by decide) (Nat.le_of_ble_eq_true rfl) (w_X0_dropLastPage_0 o a1 M ho h kR)
noncomputable def j_X0_fillFromLast_91 (o : Nat) (v2 : Int32) (v3 : Int32) (M : zzMem) : Option (Bool × zzMem) :=
  if (v2 / (nI 6)) = v3 then
  (some ((false, M)))
  else (some ((true, M)))
set_option maxHeartbeats 4000000 in
set_option maxRecDepth 100000 in
theorem w_X0_fillFromLast_91 {G : zzG} {t : Nat} {Q : Option Value → zzMem → Prop} (o : Nat) (v2 : Int32) (v3 : Int32) (M : zzMem) (ho : zI_X0 t o) {P : (Bool × zzMem) → Prop} (h : zK (j_X0_fillFromLast_91 o v2 v3 M) P) (kR : ∀ r : (Bool × zzMem), P r → Q (some (.int (zb r.1))) r.2) : zz_W G m_X0_fillFromLast t t t 91 [none, none, some (.int v2), some (.int v3)] [] M Q := by
  unfold j_X0_fillFromLast_91 at h
  refine r_iload_n dX0_fillFromLast_91 rfl ?_
  refine r_bipush (v := (nI 6)) dX0_fillFromLast_92 (by decide) ?_
  refine r_idiv dX0_fillFromLast_94 (by decide) ?_
  refine r_iload_n dX0_fillFromLast_95 rfl ?_
  refine r_icmp_eq 103 dX0_fillFromLast_96 (by decide) (fun c1 => ?_) (fun c1 => ?_)
  · have h := zK_pos h c1
    refine r_iconst (v := (nI 0)) dX0_fillFromLast_103 (by decide) ?_
    exact r_zret (b := false) dX0_fillFromLast_104 rfl rfl rfl (kR ((false, M)) (zK_some h))
  · have h := zK_neg h c1
    refine r_iconst (v := (nI 1)) dX0_fillFromLast_99 (by decide) ?_
    refine r_goto 104 dX0_fillFromLast_100 (by decide) ?_
    exact r_zret (b := true) dX0_fillFromLast_104 rfl rfl rfl (kR ((true, M)) (zK_some h))
noncomputable def f_X0_fillFromLast (o : Nat) (a1 : Int32) (a2 : Int32) (M : zzMem) : Option (Bool × zzMem) :=
  zgd (vp_in a1 64) (
  zbd ((M.1 (o + 7) (a1).toNatClampNeg)) (fun x2 =>
  if x2 = (-1 : Int32) then
  (some ((false, M)))
  else (zgd (vp_in x2 256) (
  if (M.1 (o + 3) (x2).toNatClampNeg) = 0 then
  (some ((false, M)))
  else (zgd (vp_in (((x2 * (nI 6)) + (M.1 (o + 3) (x2).toNatClampNeg)) - (nI 1)) 1536) (
  zgd (vp_in a2 1536) (
  zbd (zz_sl M (o + 5) (a2).toNatClampNeg (M.2 (o + 5) ((((x2 * (nI 6)) + (M.1 (o + 3) (x2).toNatClampNeg)) - (nI 1))).toNatClampNeg)) (fun M8 =>
  zbd (zz_si M8 (o + 3) (x2).toNatClampNeg ((M8.1 (o + 3) (x2).toNatClampNeg) - (nI 1))) (fun M9 =>
  zbd (zz_si M9 (o + 8) (a1).toNatClampNeg ((M9.1 (o + 8) (a1).toNatClampNeg) - (nI 1))) (fun M10 =>
  if (M10.1 (o + 3) (x2).toNatClampNeg) = 0 then
  (if (M10.1 (o + 9) (a1).toNatClampNeg) ≤ (nI 1) then
  (j_X0_fillFromLast_91 o a2 x2 M10)
  else ((f_X0_dropLastPage o a1 M10).bind (fun M13 =>
  j_X0_fillFromLast_91 o a2 x2 M13)))
  else (j_X0_fillFromLast_91 o a2 x2 M10)))))))))))
set_option maxHeartbeats 4000000 in
set_option maxRecDepth 100000 in
theorem w_X0_fillFromLast_0 {G : zzG} {t : Nat} {Q : Option Value → zzMem → Prop} (o : Nat) (a1 : Int32) (a2 : Int32) (M : zzMem) (ho : zI_X0 t o) {P : (Bool × zzMem) → Prop} (h : zK (f_X0_fillFromLast o a1 a2 M) P) (kR : ∀ r : (Bool × zzMem), P r → Q (some (.int (zb r.1))) r.2) : zz_W G m_X0_fillFromLast t t t 0 [some (.ref o), some (.int a1), some (.int a2), none] [] M Q := by
  unfold f_X0_fillFromLast at h
  refine r_aload_n dX0_fillFromLast_0 rfl ?_
  refine r_getR (k := o) (q := (o + 7)) dX0_fillFromLast_1 zf_X0_31 (zo_X0 ho) (zr_X0_6 ho).1 (zr_X0_6 ho).2.1 (zr_X0_6 ho).2.2 ?_
  refine r_iload_n dX0_fillFromLast_4 rfl ?_
  obtain ⟨g1, h⟩ := zK_gd h
  refine r_iald dX0_fillFromLast_5 (za_X0_6 ho) g1 ?_
  refine r_istore_n (fun x2 => [some (.ref o), some (.int a1), some (.int a2), some (.int x2)]) dX0_fillFromLast_6 (by decide) rfl (fun _ => rfl) (fun x2 ex2 => ?_)
  have h := zK_bd h ex2
  refine r_iload_n dX0_fillFromLast_7 rfl ?_
  refine r_iconst (v := (-1 : Int32)) dX0_fillFromLast_8 (by decide) ?_
  refine r_icmp_eq 21 dX0_fillFromLast_9 (by decide) (fun c3 => ?_) (fun c3 => ?_)
  · have h := zK_pos h c3
    refine r_iconst (v := (nI 0)) dX0_fillFromLast_21 (by decide) ?_
    exact r_zret (b := false) dX0_fillFromLast_22 rfl rfl rfl (kR ((false, M)) (zK_some h))
  · have h := zK_neg h c3
    refine r_aload_n dX0_fillFromLast_12 rfl ?_
    refine r_getR (k := o) (q := (o + 3)) dX0_fillFromLast_13 zf_X0_18 (zo_X0 ho) (zr_X0_2 ho).1 (zr_X0_2 ho).2.1 (zr_X0_2 ho).2.2 ?_
    refine r_iload_n dX0_fillFromLast_16 rfl ?_
    obtain ⟨g4, h⟩ := zK_gd h
    refine r_iald dX0_fillFromLast_17 (za_X0_2 ho) g4 ?_
    refine r_if_ne 23 dX0_fillFromLast_18 (by decide) (fun c5 => ?_) (fun c5 => ?_)
    · have h := zK_neg h c5
      refine r_aload_n dX0_fillFromLast_23 rfl ?_
      refine r_getR (k := o) (q := (o + 5)) dX0_fillFromLast_24 zf_X0_24 (zo_X0 ho) (zr_X0_4 ho).1 (zr_X0_4 ho).2.1 (zr_X0_4 ho).2.2 ?_
      refine r_iload_n dX0_fillFromLast_27 rfl ?_
      refine r_aload_n dX0_fillFromLast_28 rfl ?_
      refine r_getR (k := o) (q := (o + 5)) dX0_fillFromLast_29 zf_X0_24 (zo_X0 ho) (zr_X0_4 ho).1 (zr_X0_4 ho).2.1 (zr_X0_4 ho).2.2 ?_
      refine r_iload_n dX0_fillFromLast_32 rfl ?_
      refine r_bipush (v := (nI 6)) dX0_fillFromLast_33 (by decide) ?_
      refine r_imul dX0_fillFromLast_35 ?_
      refine r_aload_n dX0_fillFromLast_36 rfl ?_
      refine r_getR (k := o) (q := (o + 3)) dX0_fillFromLast_37 zf_X0_18 (zo_X0 ho) (zr_X0_2 ho).1 (zr_X0_2 ho).2.1 (zr_X0_2 ho).2.2 ?_
      refine r_iload_n dX0_fillFromLast_40 rfl ?_
      refine r_iald dX0_fillFromLast_41 (za_X0_2 ho) g4 ?_
      refine r_iadd dX0_fillFromLast_42 ?_
      refine r_iconst (v := (nI 1)) dX0_fillFromLast_43 (by decide) ?_
      refine r_isub dX0_fillFromLast_44 ?_
      obtain ⟨g6, h⟩ := zK_gd h
      refine r_lald dX0_fillFromLast_45 (za_X0_4 ho) g6 ?_
      obtain ⟨g7, h⟩ := zK_gd h
      refine r_last dX0_fillFromLast_46 (za_X0_4 ho) g7 (fun M8 eM8 => ?_)
      have h := zK_bd h eM8
      refine r_aload_n dX0_fillFromLast_47 rfl ?_
      refine r_getR (k := o) (q := (o + 3)) dX0_fillFromLast_48 zf_X0_18 (zo_X0 ho) (zr_X0_2 ho).1 (zr_X0_2 ho).2.1 (zr_X0_2 ho).2.2 ?_
      refine r_iload_n dX0_fillFromLast_51 rfl ?_
      refine r_dup2 dX0_fillFromLast_52 rfl rfl ?_
      refine r_iald dX0_fillFromLast_53 (za_X0_2 ho) g4 ?_
      refine r_iconst (v := (nI 1)) dX0_fillFromLast_54 (by decide) ?_
      refine r_isub dX0_fillFromLast_55 ?_
      refine r_iast dX0_fillFromLast_56 (za_X0_2 ho) g4 (fun M9 eM9 => ?_)
      have h := zK_bd h eM9
      refine r_aload_n dX0_fillFromLast_57 rfl ?_
      refine r_getR (k := o) (q := (o + 8)) dX0_fillFromLast_58 zf_X0_34 (zo_X0 ho) (zr_X0_7 ho).1 (zr_X0_7 ho).2.1 (zr_X0_7 ho).2.2 ?_
      refine r_iload_n dX0_fillFromLast_61 rfl ?_
      refine r_dup2 dX0_fillFromLast_62 rfl rfl ?_
      refine r_iald dX0_fillFromLast_63 (za_X0_7 ho) g1 ?_
      refine r_iconst (v := (nI 1)) dX0_fillFromLast_64 (by decide) ?_
      refine r_isub dX0_fillFromLast_65 ?_
      refine r_iast dX0_fillFromLast_66 (za_X0_7 ho) g1 (fun M10 eM10 => ?_)
      have h := zK_bd h eM10
      refine r_aload_n dX0_fillFromLast_67 rfl ?_
      refine r_getR (k := o) (q := (o + 3)) dX0_fillFromLast_68 zf_X0_18 (zo_X0 ho) (zr_X0_2 ho).1 (zr_X0_2 ho).2.1 (zr_X0_2 ho).2.2 ?_
      refine r_iload_n dX0_fillFromLast_71 rfl ?_
      refine r_iald dX0_fillFromLast_72 (za_X0_2 ho) g4 ?_
      refine r_if_ne 91 dX0_fillFromLast_73 (by decide) (fun c11 => ?_) (fun c11 => ?_)
      · have h := zK_neg h c11
        refine zz_mask [0, 1] ?_
        exact w_X0_fillFromLast_91 (o) (a2) (x2) M10 ho h kR
      · have h := zK_pos h c11
        refine r_aload_n dX0_fillFromLast_76 rfl ?_
        refine r_getR (k := o) (q := (o + 9)) dX0_fillFromLast_77 zf_X0_37 (zo_X0 ho) (zr_X0_8 ho).1 (zr_X0_8 ho).2.1 (zr_X0_8 ho).2.2 ?_
        refine r_iload_n dX0_fillFromLast_80 rfl ?_
        refine r_iald dX0_fillFromLast_81 (za_X0_8 ho) g1 ?_
        refine r_iconst (v := (nI 1)) dX0_fillFromLast_82 (by decide) ?_
        refine r_icmp_le 91 dX0_fillFromLast_83 (by decide) (fun c12 => ?_) (fun c12 => ?_)
        · have h := zK_pos h c12
          refine zz_mask [0, 1] ?_
          exact w_X0_fillFromLast_91 (o) (a2) (x2) M10 ho h kR
        · have h := zK_neg h c12
          refine r_aload_n dX0_fillFromLast_86 rfl ?_
          refine r_iload_n dX0_fillFromLast_87 rfl ?_
          refine kV_vw (as := [.int a1]) (st := []) (k := o) dX0_fillFromLast_88 zM_X0_dropLastPage zk_X0_79 (zo_X0 ho) (by decide) rfl ⟨Nat.le_of_ble_eq_true rfl, Nat.le_of_ble_eq_true rfl⟩ (Nat.le_of_ble_eq_true rfl) (zz_T0 rfl rfl) (fun Q' P' k h => c_X0_dropLastPage (o) (a1) M10 ho h k) h (fun M13 h => ?_)
          refine zz_mask [0, 1] ?_
          exact w_X0_fillFromLast_91 (o) (a2) (x2) M13 ho h kR
    · have h := zK_pos h c5
      refine r_iconst (v := (nI 0)) dX0_fillFromLast_21 (by decide) ?_
      exact r_zret (b := false) dX0_fillFromLast_22 rfl rfl rfl (kR ((false, M)) (zK_some h))
set_option maxHeartbeats 4000000 in
set_option maxRecDepth 100000 in
theorem c_X0_fillFromLast {G : zzG} {t : Nat} {Q : Option Value → zzMem → Prop} (o : Nat) (a1 : Int32) (a2 : Int32) (M : zzMem) (ho : zI_X0 t o) {P : (Bool × zzMem) → Prop} (h : zK (f_X0_fillFromLast o a1 a2 M) P) (kR : ∀ r : (Bool × zzMem), P r → Q (some (.int (zb r.1))) r.2) : zz_S G m_X0_fillFromLast t t [.ref o, .int a1, .int a2] M Q :=
  zz_S_of (by decide) (by decide) (Nat.le_of_ble_eq_true rfl) (w_X0_fillFromLast_0 o a1 a2 M ho h kR)
noncomputable def b_X0_gather_14 (o : Nat) (v1 : Int32) (v2 : Int32) (v3 : Int32) (M : zzMem) : Option ((Int32 × Int32 × zzMem) ⊕ zzMem) :=
  zgd (vp_in v1 64) (
  if (M.1 (o + 9) (v1).toNatClampNeg) ≤ v3 then
  (some ((.inr M)))
  else (if v2 = (-1 : Int32) then
  (some ((.inr M)))
  else (zgd (vp_in v2 256) (
  zbd ((zmn (M.1 (o + 3) (v2).toNatClampNeg) ((nI 300) - (M.1 o 10)))) (fun x5 =>
  zgd (zz_cpok 1536 300 (v2 * (nI 6)) (M.1 o 10) x5) (
  zbd (zz_cl M (o + 5) (v2 * (nI 6)) (o + 10) (M.1 o 10) x5) (fun M7 =>
  zbd (zz_si M7 o 10 ((M7.1 o 10) + x5)) (fun M8 =>
  zbd ((M8.1 (o + 4) (v2).toNatClampNeg)) (fun x9 =>
  zbd (v3 + (nI 1)) (fun x10 =>
  some (.inl (x9, x10, M8))))))))))))
set_option maxHeartbeats 4000000 in
set_option maxRecDepth 100000 in
theorem x_X0_gather_14 {G : zzG} {t : Nat} {Q : Option Value → zzMem → Prop} (o : Nat) (v1 : Int32) (v2 : Int32) (v3 : Int32) (M : zzMem) (ho : zI_X0 t o) {P : ((Int32 × Int32 × zzMem) ⊕ zzMem) → Prop} (h : zK (b_X0_gather_14 o v1 v2 v3 M) P) (k14 : ∀ s : (Int32 × Int32 × zzMem), P (.inl s) → zz_W G m_X0_gather t t t 14 [some (.ref o), some (.int v1), some (.int s.1), some (.int s.2.1), none] [] s.2.2 Q) (kR : ∀ r : zzMem, P (.inr r) → Q none r) : zz_W G m_X0_gather t t t 14 [some (.ref o), some (.int v1), some (.int v2), some (.int v3), none] [] M Q := by
  unfold b_X0_gather_14 at h
  refine r_iload_n dX0_gather_14 rfl ?_
  refine r_aload_n dX0_gather_15 rfl ?_
  refine r_getR (k := o) (q := (o + 9)) dX0_gather_16 zf_X0_37 (zo_X0 ho) (zr_X0_8 ho).1 (zr_X0_8 ho).2.1 (zr_X0_8 ho).2.2 ?_
  refine r_iload_n dX0_gather_19 rfl ?_
  obtain ⟨g1, h⟩ := zK_gd h
  refine r_iald dX0_gather_20 (za_X0_8 ho) g1 ?_
  refine r_icmp_ge 93 dX0_gather_21 (by decide) (fun c2 => ?_) (fun c2 => ?_)
  · have h := zK_pos h c2
    exact r_vret dX0_gather_93 rfl rfl rfl (kR (M) (zK_some h))
  · have h := zK_neg h c2
    refine r_iload_n dX0_gather_24 rfl ?_
    refine r_iconst (v := (-1 : Int32)) dX0_gather_25 (by decide) ?_
    refine r_icmp_eq 93 dX0_gather_26 (by decide) (fun c3 => ?_) (fun c3 => ?_)
    · have h := zK_pos h c3
      exact r_vret dX0_gather_93 rfl rfl rfl (kR (M) (zK_some h))
    · have h := zK_neg h c3
      refine r_aload_n dX0_gather_29 rfl ?_
      refine r_getR (k := o) (q := (o + 3)) dX0_gather_30 zf_X0_18 (zo_X0 ho) (zr_X0_2 ho).1 (zr_X0_2 ho).2.1 (zr_X0_2 ho).2.2 ?_
      refine r_iload_n dX0_gather_33 rfl ?_
      obtain ⟨g4, h⟩ := zK_gd h
      refine r_iald dX0_gather_34 (za_X0_2 ho) g4 ?_
      refine r_sipush (v := (nI 300)) dX0_gather_35 (by decide) ?_
      refine r_aload_n dX0_gather_38 rfl ?_
      refine r_getI (k := o) dX0_gather_39 zf_X0_43 (zo_X0 ho) (zi_X0_10 ho) ?_
      refine r_isub dX0_gather_42 ?_
      refine r_mmin dX0_gather_43 zk_X0_83 (Nat.le_of_ble_eq_true rfl) (Nat.le_of_ble_eq_true rfl) ?_
      refine r_istore (fun x5 => [some (.ref o), some (.int v1), some (.int v2), some (.int v3), some (.int x5)]) dX0_gather_46 (by decide) rfl (fun _ => rfl) (fun x5 ex5 => ?_)
      have h := zK_bd h ex5
      refine r_aload_n dX0_gather_48 rfl ?_
      refine r_getR (k := o) (q := (o + 5)) dX0_gather_49 zf_X0_24 (zo_X0 ho) (zr_X0_4 ho).1 (zr_X0_4 ho).2.1 (zr_X0_4 ho).2.2 ?_
      refine r_iload_n dX0_gather_52 rfl ?_
      refine r_bipush (v := (nI 6)) dX0_gather_53 (by decide) ?_
      refine r_imul dX0_gather_55 ?_
      refine r_aload_n dX0_gather_56 rfl ?_
      refine r_getR (k := o) (q := (o + 10)) dX0_gather_57 zf_X0_40 (zo_X0 ho) (zr_X0_9 ho).1 (zr_X0_9 ho).2.1 (zr_X0_9 ho).2.2 ?_
      refine r_aload_n dX0_gather_60 rfl ?_
      refine r_getI (k := o) dX0_gather_61 zf_X0_43 (zo_X0 ho) (zi_X0_10 ho) ?_
      refine r_iload dX0_gather_64 rfl ?_
      obtain ⟨g6, h⟩ := zK_gd h
      refine r_copyl (k0 := (o + 5)) (k1 := (o + 10)) dX0_gather_66 zk_X0_60 zw_copy (za_X0_4 ho) (za_X0_9 ho) g6 (Nat.le_of_ble_eq_true rfl) (by decide) (fun M7 eM7 => ?_)
      have h := zK_bd h eM7
      refine r_aload_n dX0_gather_69 rfl ?_
      refine r_dup dX0_gather_70 rfl ?_
      refine r_getI (k := o) dX0_gather_71 zf_X0_43 (zo_X0 ho) (zi_X0_10 ho) ?_
      refine r_iload dX0_gather_74 rfl ?_
      refine r_iadd dX0_gather_76 ?_
      refine r_putI (k := o) dX0_gather_77 zp_X0_43 (zo_X0 ho) (zi_X0_10 ho) rfl rfl (fun M8 eM8 => ?_)
      have h := zK_bd h eM8
      refine r_aload_n dX0_gather_80 rfl ?_
      refine r_getR (k := o) (q := (o + 4)) dX0_gather_81 zf_X0_21 (zo_X0 ho) (zr_X0_3 ho).1 (zr_X0_3 ho).2.1 (zr_X0_3 ho).2.2 ?_
      refine r_iload_n dX0_gather_84 rfl ?_
      refine r_iald dX0_gather_85 (za_X0_3 ho) g4 ?_
      refine r_istore_n (fun x9 => [some (.ref o), some (.int v1), some (.int x9), some (.int v3), some (.int x5)]) dX0_gather_86 (by decide) rfl (fun _ => rfl) (fun x9 ex9 => ?_)
      have h := zK_bd h ex9
      refine r_iinc (nI 1) (fun x10 => [some (.ref o), some (.int v1), some (.int x9), some (.int x10), some (.int x5)]) dX0_gather_87 rfl (by decide) (by decide) rfl (fun _ => rfl) (fun x10 ex10 => ?_)
      have h := zK_bd h ex10
      refine r_goto 14 dX0_gather_90 (by decide) ?_
      refine zz_mask [4] ?_
      exact k14 ((x9, x10, M8)) (zK_some h)
noncomputable def j_X0_gather_14 (o : Nat) (v1 : Int32) (v2 : Int32) (v3 : Int32) (M : zzMem) : Option zzMem :=
  zlp (fun s : (Int32 × Int32 × zzMem) => b_X0_gather_14 o v1 s.1 s.2.1 s.2.2) (v2, v3, M)
set_option maxHeartbeats 4000000 in
set_option maxRecDepth 100000 in
theorem w_X0_gather_14 {G : zzG} {t : Nat} {Q : Option Value → zzMem → Prop} (o : Nat) (v1 : Int32) (v2 : Int32) (v3 : Int32) (M : zzMem) (ho : zI_X0 t o) {P : zzMem → Prop} (h : zK (j_X0_gather_14 o v1 v2 v3 M) P) (kR : ∀ r : zzMem, P r → Q none r) : zz_W G m_X0_gather t t t 14 [some (.ref o), some (.int v1), some (.int v2), some (.int v3), none] [] M Q := by
  unfold j_X0_gather_14 at h
  exact zK_lp h (fun s : (Int32 × Int32 × zzMem) => zz_W G m_X0_gather t t t 14 [some (.ref o), some (.int v1), some (.int s.1), some (.int s.2.1), none] [] s.2.2 Q) (fun s h => x_X0_gather_14 o v1 s.1 s.2.1 s.2.2 ho h (fun s p => p) kR)
noncomputable def f_X0_gather (o : Nat) (a1 : Int32) (M : zzMem) : Option zzMem :=
  zbd (zz_si M o 10 (nI 0)) (fun M1 =>
  zgd (vp_in a1 64) (
  zbd ((M1.1 (o + 6) (a1).toNatClampNeg)) (fun x3 =>
  j_X0_gather_14 o a1 x3 (nI 0) M1)))
set_option maxHeartbeats 4000000 in
set_option maxRecDepth 100000 in
theorem w_X0_gather_0 {G : zzG} {t : Nat} {Q : Option Value → zzMem → Prop} (o : Nat) (a1 : Int32) (M : zzMem) (ho : zI_X0 t o) {P : zzMem → Prop} (h : zK (f_X0_gather o a1 M) P) (kR : ∀ r : zzMem, P r → Q none r) : zz_W G m_X0_gather t t t 0 [some (.ref o), some (.int a1), none, none, none] [] M Q := by
  unfold f_X0_gather at h
  refine r_aload_n dX0_gather_0 rfl ?_
  refine r_iconst (v := (nI 0)) dX0_gather_1 (by decide) ?_
  refine r_putI (k := o) dX0_gather_2 zp_X0_43 (zo_X0 ho) (zi_X0_10 ho) rfl rfl (fun M1 eM1 => ?_)
  have h := zK_bd h eM1
  refine r_aload_n dX0_gather_5 rfl ?_
  refine r_getR (k := o) (q := (o + 6)) dX0_gather_6 zf_X0_28 (zo_X0 ho) (zr_X0_5 ho).1 (zr_X0_5 ho).2.1 (zr_X0_5 ho).2.2 ?_
  refine r_iload_n dX0_gather_9 rfl ?_
  obtain ⟨g2, h⟩ := zK_gd h
  refine r_iald dX0_gather_10 (za_X0_5 ho) g2 ?_
  refine r_istore_n (fun x3 => [some (.ref o), some (.int a1), some (.int x3), none, none]) dX0_gather_11 (by decide) rfl (fun _ => rfl) (fun x3 ex3 => ?_)
  have h := zK_bd h ex3
  refine r_iconst (v := (nI 0)) dX0_gather_12 (by decide) ?_
  refine s_istore_n ([some (.ref o), some (.int a1), some (.int x3), some (.int (nI 0)), none]) dX0_gather_13 (by decide) rfl rfl ?_
  exact w_X0_gather_14 (o) (a1) (x3) ((nI 0)) M1 ho h kR
set_option maxHeartbeats 4000000 in
set_option maxRecDepth 100000 in
theorem c_X0_gather {G : zzG} {t : Nat} {Q : Option Value → zzMem → Prop} (o : Nat) (a1 : Int32) (M : zzMem) (ho : zI_X0 t o) {P : zzMem → Prop} (h : zK (f_X0_gather o a1 M) P) (kR : ∀ r : zzMem, P r → Q none r) : zz_S G m_X0_gather t t [.ref o, .int a1] M Q :=
  zz_S_of (by decide) (by decide) (Nat.le_of_ble_eq_true rfl) (w_X0_gather_0 o a1 M ho h kR)
noncomputable def j_X0_empty_53 (o : Nat) (v1 : Int32) (w2 : Bool) (v3 : Int32) (M : zzMem) : Option zzMem :=
  zgd (vp_in v1 64) (
  zbd (zz_si M (o + 8) (v1).toNatClampNeg (nI 0)) (fun M2 =>
  zbd (zz_si M2 (o + 9) (v1).toNatClampNeg (nI 0)) (fun M3 =>
  zbd (zz_si M3 (o + 6) (v1).toNatClampNeg (-1 : Int32)) (fun M4 =>
  zbd (zz_si M4 (o + 7) (v1).toNatClampNeg (-1 : Int32)) (fun M5 =>
  if w2 = true then
  (if v3 = (-1 : Int32) then
  (some M5)
  else (zgd (vp_in v3 256) (
  zbd (zz_si M5 (o + 1) (v3).toNatClampNeg v1) (fun M9 =>
  zbd (zz_si M9 (o + 3) (v3).toNatClampNeg (nI 0)) (fun M10 =>
  zbd (zz_si M10 (o + 4) (v3).toNatClampNeg (-1 : Int32)) (fun M11 =>
  zbd (zz_si M11 (o + 6) (v1).toNatClampNeg v3) (fun M12 =>
  zbd (zz_si M12 (o + 7) (v1).toNatClampNeg v3) (fun M13 =>
  zbd (zz_si M13 (o + 9) (v1).toNatClampNeg (nI 1)) (fun M14 =>
  some M14)))))))))
  else (some M5))))))
set_option maxHeartbeats 4000000 in
set_option maxRecDepth 100000 in
theorem w_X0_empty_53 {G : zzG} {t : Nat} {Q : Option Value → zzMem → Prop} (o : Nat) (v1 : Int32) (w2 : Bool) (v3 : Int32) (M : zzMem) (ho : zI_X0 t o) {P : zzMem → Prop} (h : zK (j_X0_empty_53 o v1 w2 v3 M) P) (kR : ∀ r : zzMem, P r → Q none r) : zz_W G m_X0_empty t t t 53 [some (.ref o), some (.int v1), some (.int (zb w2)), some (.int v3), none, none] [] M Q := by
  unfold j_X0_empty_53 at h
  refine r_aload_n dX0_empty_53 rfl ?_
  refine r_getR (k := o) (q := (o + 8)) dX0_empty_54 zf_X0_34 (zo_X0 ho) (zr_X0_7 ho).1 (zr_X0_7 ho).2.1 (zr_X0_7 ho).2.2 ?_
  refine r_iload_n dX0_empty_57 rfl ?_
  refine r_iconst (v := (nI 0)) dX0_empty_58 (by decide) ?_
  obtain ⟨g1, h⟩ := zK_gd h
  refine r_iast dX0_empty_59 (za_X0_7 ho) g1 (fun M2 eM2 => ?_)
  have h := zK_bd h eM2
  refine r_aload_n dX0_empty_60 rfl ?_
  refine r_getR (k := o) (q := (o + 9)) dX0_empty_61 zf_X0_37 (zo_X0 ho) (zr_X0_8 ho).1 (zr_X0_8 ho).2.1 (zr_X0_8 ho).2.2 ?_
  refine r_iload_n dX0_empty_64 rfl ?_
  refine r_iconst (v := (nI 0)) dX0_empty_65 (by decide) ?_
  refine r_iast dX0_empty_66 (za_X0_8 ho) g1 (fun M3 eM3 => ?_)
  have h := zK_bd h eM3
  refine r_aload_n dX0_empty_67 rfl ?_
  refine r_getR (k := o) (q := (o + 6)) dX0_empty_68 zf_X0_28 (zo_X0 ho) (zr_X0_5 ho).1 (zr_X0_5 ho).2.1 (zr_X0_5 ho).2.2 ?_
  refine r_iload_n dX0_empty_71 rfl ?_
  refine r_iconst (v := (-1 : Int32)) dX0_empty_72 (by decide) ?_
  refine r_iast dX0_empty_73 (za_X0_5 ho) g1 (fun M4 eM4 => ?_)
  have h := zK_bd h eM4
  refine r_aload_n dX0_empty_74 rfl ?_
  refine r_getR (k := o) (q := (o + 7)) dX0_empty_75 zf_X0_31 (zo_X0 ho) (zr_X0_6 ho).1 (zr_X0_6 ho).2.1 (zr_X0_6 ho).2.2 ?_
  refine r_iload_n dX0_empty_78 rfl ?_
  refine r_iconst (v := (-1 : Int32)) dX0_empty_79 (by decide) ?_
  refine r_iast dX0_empty_80 (za_X0_6 ho) g1 (fun M5 eM5 => ?_)
  have h := zK_bd h eM5
  refine r_iload_n dX0_empty_81 rfl ?_
  refine r_ifZ_eq 132 dX0_empty_82 (by decide) (fun c6 => ?_) (fun c6 => ?_)
  · have h := zK_neg h c6
    exact r_vret dX0_empty_132 rfl rfl rfl (kR (M5) (zK_some h))
  · have h := zK_pos h c6
    refine r_iload_n dX0_empty_85 rfl ?_
    refine r_iconst (v := (-1 : Int32)) dX0_empty_86 (by decide) ?_
    refine r_icmp_eq 132 dX0_empty_87 (by decide) (fun c7 => ?_) (fun c7 => ?_)
    · have h := zK_pos h c7
      exact r_vret dX0_empty_132 rfl rfl rfl (kR (M5) (zK_some h))
    · have h := zK_neg h c7
      refine r_aload_n dX0_empty_90 rfl ?_
      refine r_getR (k := o) (q := (o + 1)) dX0_empty_91 zf_X0_9 (zo_X0 ho) (zr_X0_0 ho).1 (zr_X0_0 ho).2.1 (zr_X0_0 ho).2.2 ?_
      refine r_iload_n dX0_empty_94 rfl ?_
      refine r_iload_n dX0_empty_95 rfl ?_
      obtain ⟨g8, h⟩ := zK_gd h
      refine r_iast dX0_empty_96 (za_X0_0 ho) g8 (fun M9 eM9 => ?_)
      have h := zK_bd h eM9
      refine r_aload_n dX0_empty_97 rfl ?_
      refine r_getR (k := o) (q := (o + 3)) dX0_empty_98 zf_X0_18 (zo_X0 ho) (zr_X0_2 ho).1 (zr_X0_2 ho).2.1 (zr_X0_2 ho).2.2 ?_
      refine r_iload_n dX0_empty_101 rfl ?_
      refine r_iconst (v := (nI 0)) dX0_empty_102 (by decide) ?_
      refine r_iast dX0_empty_103 (za_X0_2 ho) g8 (fun M10 eM10 => ?_)
      have h := zK_bd h eM10
      refine r_aload_n dX0_empty_104 rfl ?_
      refine r_getR (k := o) (q := (o + 4)) dX0_empty_105 zf_X0_21 (zo_X0 ho) (zr_X0_3 ho).1 (zr_X0_3 ho).2.1 (zr_X0_3 ho).2.2 ?_
      refine r_iload_n dX0_empty_108 rfl ?_
      refine r_iconst (v := (-1 : Int32)) dX0_empty_109 (by decide) ?_
      refine r_iast dX0_empty_110 (za_X0_3 ho) g8 (fun M11 eM11 => ?_)
      have h := zK_bd h eM11
      refine r_aload_n dX0_empty_111 rfl ?_
      refine r_getR (k := o) (q := (o + 6)) dX0_empty_112 zf_X0_28 (zo_X0 ho) (zr_X0_5 ho).1 (zr_X0_5 ho).2.1 (zr_X0_5 ho).2.2 ?_
      refine r_iload_n dX0_empty_115 rfl ?_
      refine r_iload_n dX0_empty_116 rfl ?_
      refine r_iast dX0_empty_117 (za_X0_5 ho) g1 (fun M12 eM12 => ?_)
      have h := zK_bd h eM12
      refine r_aload_n dX0_empty_118 rfl ?_
      refine r_getR (k := o) (q := (o + 7)) dX0_empty_119 zf_X0_31 (zo_X0 ho) (zr_X0_6 ho).1 (zr_X0_6 ho).2.1 (zr_X0_6 ho).2.2 ?_
      refine r_iload_n dX0_empty_122 rfl ?_
      refine r_iload_n dX0_empty_123 rfl ?_
      refine r_iast dX0_empty_124 (za_X0_6 ho) g1 (fun M13 eM13 => ?_)
      have h := zK_bd h eM13
      refine r_aload_n dX0_empty_125 rfl ?_
      refine r_getR (k := o) (q := (o + 9)) dX0_empty_126 zf_X0_37 (zo_X0 ho) (zr_X0_8 ho).1 (zr_X0_8 ho).2.1 (zr_X0_8 ho).2.2 ?_
      refine r_iload_n dX0_empty_129 rfl ?_
      refine r_iconst (v := (nI 1)) dX0_empty_130 (by decide) ?_
      refine r_iast dX0_empty_131 (za_X0_8 ho) g1 (fun M14 eM14 => ?_)
      have h := zK_bd h eM14
      exact r_vret dX0_empty_132 rfl rfl rfl (kR (M14) (zK_some h))
noncomputable def b_X0_empty_13 (o : Nat) (v1 : Int32) (w2 : Bool) (v3 : Int32) (v4 : Int32) (v5 : Int32) (M : zzMem) : Option ((Int32 × Int32 × zzMem) ⊕ zzMem) :=
  zgd (vp_in v1 64) (
  if (M.1 (o + 9) (v1).toNatClampNeg) ≤ v5 then
  (zup (j_X0_empty_53 o v1 w2 v3 M))
  else (if v4 = (-1 : Int32) then
  (zup (j_X0_empty_53 o v1 w2 v3 M))
  else (zgd (vp_in v4 256) (
  zbd (zz_si M (o + 1) (v4).toNatClampNeg (-1 : Int32)) (fun M5 =>
  zbd ((M5.1 (o + 4) (v4).toNatClampNeg)) (fun x6 =>
  zbd (v5 + (nI 1)) (fun x7 =>
  some (.inl (x6, x7, M5)))))))))
set_option maxHeartbeats 4000000 in
set_option maxRecDepth 100000 in
theorem x_X0_empty_13 {G : zzG} {t : Nat} {Q : Option Value → zzMem → Prop} (o : Nat) (v1 : Int32) (w2 : Bool) (v3 : Int32) (v4 : Int32) (v5 : Int32) (M : zzMem) (ho : zI_X0 t o) {P : ((Int32 × Int32 × zzMem) ⊕ zzMem) → Prop} (h : zK (b_X0_empty_13 o v1 w2 v3 v4 v5 M) P) (k13 : ∀ s : (Int32 × Int32 × zzMem), P (.inl s) → zz_W G m_X0_empty t t t 13 [some (.ref o), some (.int v1), some (.int (zb w2)), some (.int v3), some (.int s.1), some (.int s.2.1)] [] s.2.2 Q) (kR : ∀ r : zzMem, P (.inr r) → Q none r) : zz_W G m_X0_empty t t t 13 [some (.ref o), some (.int v1), some (.int (zb w2)), some (.int v3), some (.int v4), some (.int v5)] [] M Q := by
  unfold b_X0_empty_13 at h
  refine r_iload dX0_empty_13 rfl ?_
  refine r_aload_n dX0_empty_15 rfl ?_
  refine r_getR (k := o) (q := (o + 9)) dX0_empty_16 zf_X0_37 (zo_X0 ho) (zr_X0_8 ho).1 (zr_X0_8 ho).2.1 (zr_X0_8 ho).2.2 ?_
  refine r_iload_n dX0_empty_19 rfl ?_
  obtain ⟨g1, h⟩ := zK_gd h
  refine r_iald dX0_empty_20 (za_X0_8 ho) g1 ?_
  refine r_icmp_ge 53 dX0_empty_21 (by decide) (fun c2 => ?_) (fun c2 => ?_)
  · have h := zK_pos h c2
    refine zz_mask [4, 5] ?_
    exact w_X0_empty_53 (o) (v1) (w2) (v3) M ho (zK_up h) kR
  · have h := zK_neg h c2
    refine r_iload dX0_empty_24 rfl ?_
    refine r_iconst (v := (-1 : Int32)) dX0_empty_26 (by decide) ?_
    refine r_icmp_eq 53 dX0_empty_27 (by decide) (fun c3 => ?_) (fun c3 => ?_)
    · have h := zK_pos h c3
      refine zz_mask [4, 5] ?_
      exact w_X0_empty_53 (o) (v1) (w2) (v3) M ho (zK_up h) kR
    · have h := zK_neg h c3
      refine r_aload_n dX0_empty_30 rfl ?_
      refine r_getR (k := o) (q := (o + 1)) dX0_empty_31 zf_X0_9 (zo_X0 ho) (zr_X0_0 ho).1 (zr_X0_0 ho).2.1 (zr_X0_0 ho).2.2 ?_
      refine r_iload dX0_empty_34 rfl ?_
      refine r_iconst (v := (-1 : Int32)) dX0_empty_36 (by decide) ?_
      obtain ⟨g4, h⟩ := zK_gd h
      refine r_iast dX0_empty_37 (za_X0_0 ho) g4 (fun M5 eM5 => ?_)
      have h := zK_bd h eM5
      refine r_aload_n dX0_empty_38 rfl ?_
      refine r_getR (k := o) (q := (o + 4)) dX0_empty_39 zf_X0_21 (zo_X0 ho) (zr_X0_3 ho).1 (zr_X0_3 ho).2.1 (zr_X0_3 ho).2.2 ?_
      refine r_iload dX0_empty_42 rfl ?_
      refine r_iald dX0_empty_44 (za_X0_3 ho) g4 ?_
      refine r_istore (fun x6 => [some (.ref o), some (.int v1), some (.int (zb w2)), some (.int v3), some (.int x6), some (.int v5)]) dX0_empty_45 (by decide) rfl (fun _ => rfl) (fun x6 ex6 => ?_)
      have h := zK_bd h ex6
      refine r_iinc (nI 1) (fun x7 => [some (.ref o), some (.int v1), some (.int (zb w2)), some (.int v3), some (.int x6), some (.int x7)]) dX0_empty_47 rfl (by decide) (by decide) rfl (fun _ => rfl) (fun x7 ex7 => ?_)
      have h := zK_bd h ex7
      refine r_goto 13 dX0_empty_50 (by decide) ?_
      exact k13 ((x6, x7, M5)) (zK_some h)
noncomputable def j_X0_empty_13 (o : Nat) (v1 : Int32) (w2 : Bool) (v3 : Int32) (v4 : Int32) (v5 : Int32) (M : zzMem) : Option zzMem :=
  zlp (fun s : (Int32 × Int32 × zzMem) => b_X0_empty_13 o v1 w2 v3 s.1 s.2.1 s.2.2) (v4, v5, M)
set_option maxHeartbeats 4000000 in
set_option maxRecDepth 100000 in
theorem w_X0_empty_13 {G : zzG} {t : Nat} {Q : Option Value → zzMem → Prop} (o : Nat) (v1 : Int32) (w2 : Bool) (v3 : Int32) (v4 : Int32) (v5 : Int32) (M : zzMem) (ho : zI_X0 t o) {P : zzMem → Prop} (h : zK (j_X0_empty_13 o v1 w2 v3 v4 v5 M) P) (kR : ∀ r : zzMem, P r → Q none r) : zz_W G m_X0_empty t t t 13 [some (.ref o), some (.int v1), some (.int (zb w2)), some (.int v3), some (.int v4), some (.int v5)] [] M Q := by
  unfold j_X0_empty_13 at h
  exact zK_lp h (fun s : (Int32 × Int32 × zzMem) => zz_W G m_X0_empty t t t 13 [some (.ref o), some (.int v1), some (.int (zb w2)), some (.int v3), some (.int s.1), some (.int s.2.1)] [] s.2.2 Q) (fun s h => x_X0_empty_13 o v1 w2 v3 s.1 s.2.1 s.2.2 ho h (fun s p => p) kR)
noncomputable def f_X0_empty (o : Nat) (a1 : Int32) (b2 : Bool) (M : zzMem) : Option zzMem :=
  zgd (vp_in a1 64) (
  zbd ((M.1 (o + 6) (a1).toNatClampNeg)) (fun x2 =>
  j_X0_empty_13 o a1 b2 x2 x2 (nI 0) M))
set_option maxHeartbeats 4000000 in
set_option maxRecDepth 100000 in
theorem w_X0_empty_0 {G : zzG} {t : Nat} {Q : Option Value → zzMem → Prop} (o : Nat) (a1 : Int32) (b2 : Bool) (M : zzMem) (ho : zI_X0 t o) {P : zzMem → Prop} (h : zK (f_X0_empty o a1 b2 M) P) (kR : ∀ r : zzMem, P r → Q none r) : zz_W G m_X0_empty t t t 0 [some (.ref o), some (.int a1), some (.int (zb b2)), none, none, none] [] M Q := by
  unfold f_X0_empty at h
  refine r_aload_n dX0_empty_0 rfl ?_
  refine r_getR (k := o) (q := (o + 6)) dX0_empty_1 zf_X0_28 (zo_X0 ho) (zr_X0_5 ho).1 (zr_X0_5 ho).2.1 (zr_X0_5 ho).2.2 ?_
  refine r_iload_n dX0_empty_4 rfl ?_
  obtain ⟨g1, h⟩ := zK_gd h
  refine r_iald dX0_empty_5 (za_X0_5 ho) g1 ?_
  refine r_istore_n (fun x2 => [some (.ref o), some (.int a1), some (.int (zb b2)), some (.int x2), none, none]) dX0_empty_6 (by decide) rfl (fun _ => rfl) (fun x2 ex2 => ?_)
  have h := zK_bd h ex2
  refine r_iload_n dX0_empty_7 rfl ?_
  refine s_istore ([some (.ref o), some (.int a1), some (.int (zb b2)), some (.int x2), some (.int x2), none]) dX0_empty_8 (by decide) rfl rfl ?_
  refine r_iconst (v := (nI 0)) dX0_empty_10 (by decide) ?_
  refine s_istore ([some (.ref o), some (.int a1), some (.int (zb b2)), some (.int x2), some (.int x2), some (.int (nI 0))]) dX0_empty_11 (by decide) rfl rfl ?_
  exact w_X0_empty_13 (o) (a1) (b2) (x2) (x2) ((nI 0)) M ho h kR
set_option maxHeartbeats 4000000 in
set_option maxRecDepth 100000 in
theorem c_X0_empty {G : zzG} {t : Nat} {Q : Option Value → zzMem → Prop} (o : Nat) (a1 : Int32) (b2 : Bool) (M : zzMem) (ho : zI_X0 t o) {P : zzMem → Prop} (h : zK (f_X0_empty o a1 b2 M) P) (kR : ∀ r : zzMem, P r → Q none r) : zz_S G m_X0_empty t t [.ref o, .int a1, .int (zb b2)] M Q :=
  zz_S_of (by decide) (by decide) (Nat.le_of_ble_eq_true rfl) (w_X0_empty_0 o a1 b2 M ho h kR)
noncomputable def b_X0_usedPages_4 (o : Nat) (v1 : Int32) (v2 : Int32) (M : zzMem) : Option ((Int32 × Int32) ⊕ Int32) :=
  if (nI 256) ≤ v2 then
  (some ((.inr v1)))
  else (zgd (vp_in v2 256) (
  if (M.1 (o + 1) (v2).toNatClampNeg) = (-1 : Int32) then
  (zbd (v2 + (nI 1)) (fun x4 =>
  some (.inl (v1, x4))))
  else (zbd (v1 + (nI 1)) (fun x5 =>
  zbd (v2 + (nI 1)) (fun x6 =>
  some (.inl (x5, x6)))))))
set_option maxHeartbeats 4000000 in
set_option maxRecDepth 100000 in
theorem x_X0_usedPages_4 {G : zzG} {t : Nat} {Q : Option Value → zzMem → Prop} (o : Nat) (v1 : Int32) (v2 : Int32) (M : zzMem) (ho : zI_X0 t o) {P : ((Int32 × Int32) ⊕ Int32) → Prop} (h : zK (b_X0_usedPages_4 o v1 v2 M) P) (k4 : ∀ s : (Int32 × Int32), P (.inl s) → zz_W G m_X0_usedPages t t t 4 [some (.ref o), some (.int s.1), some (.int s.2)] [] M Q) (kR : ∀ r : Int32, P (.inr r) → Q (some (.int r)) M) : zz_W G m_X0_usedPages t t t 4 [some (.ref o), some (.int v1), some (.int v2)] [] M Q := by
  unfold b_X0_usedPages_4 at h
  refine r_iload_n dX0_usedPages_4 rfl ?_
  refine r_sipush (v := (nI 256)) dX0_usedPages_5 (by decide) ?_
  refine r_icmp_ge 30 dX0_usedPages_8 (by decide) (fun c1 => ?_) (fun c1 => ?_)
  · have h := zK_pos h c1
    refine r_iload_n dX0_usedPages_30 rfl ?_
    exact r_iret dX0_usedPages_31 rfl rfl rfl (kR (v1) (zK_some h))
  · have h := zK_neg h c1
    refine r_aload_n dX0_usedPages_11 rfl ?_
    refine r_getR (k := o) (q := (o + 1)) dX0_usedPages_12 zf_X0_9 (zo_X0 ho) (zr_X0_0 ho).1 (zr_X0_0 ho).2.1 (zr_X0_0 ho).2.2 ?_
    refine r_iload_n dX0_usedPages_15 rfl ?_
    obtain ⟨g2, h⟩ := zK_gd h
    refine r_iald dX0_usedPages_16 (za_X0_0 ho) g2 ?_
    refine r_iconst (v := (-1 : Int32)) dX0_usedPages_17 (by decide) ?_
    refine r_icmp_eq 24 dX0_usedPages_18 (by decide) (fun c3 => ?_) (fun c3 => ?_)
    · have h := zK_pos h c3
      refine r_iinc (nI 1) (fun x4 => [some (.ref o), some (.int v1), some (.int x4)]) dX0_usedPages_24 rfl (by decide) (by decide) rfl (fun _ => rfl) (fun x4 ex4 => ?_)
      have h := zK_bd h ex4
      refine r_goto 4 dX0_usedPages_27 (by decide) ?_
      exact k4 ((v1, x4)) (zK_some h)
    · have h := zK_neg h c3
      refine r_iinc (nI 1) (fun x5 => [some (.ref o), some (.int x5), some (.int v2)]) dX0_usedPages_21 rfl (by decide) (by decide) rfl (fun _ => rfl) (fun x5 ex5 => ?_)
      have h := zK_bd h ex5
      refine r_iinc (nI 1) (fun x6 => [some (.ref o), some (.int x5), some (.int x6)]) dX0_usedPages_24 rfl (by decide) (by decide) rfl (fun _ => rfl) (fun x6 ex6 => ?_)
      have h := zK_bd h ex6
      refine r_goto 4 dX0_usedPages_27 (by decide) ?_
      exact k4 ((x5, x6)) (zK_some h)
noncomputable def j_X0_usedPages_4 (o : Nat) (v1 : Int32) (v2 : Int32) (M : zzMem) : Option Int32 :=
  zlp (fun s : (Int32 × Int32) => b_X0_usedPages_4 o s.1 s.2 M) (v1, v2)
set_option maxHeartbeats 4000000 in
set_option maxRecDepth 100000 in
theorem w_X0_usedPages_4 {G : zzG} {t : Nat} {Q : Option Value → zzMem → Prop} (o : Nat) (v1 : Int32) (v2 : Int32) (M : zzMem) (ho : zI_X0 t o) {P : Int32 → Prop} (h : zK (j_X0_usedPages_4 o v1 v2 M) P) (kR : ∀ r : Int32, P r → Q (some (.int r)) M) : zz_W G m_X0_usedPages t t t 4 [some (.ref o), some (.int v1), some (.int v2)] [] M Q := by
  unfold j_X0_usedPages_4 at h
  exact zK_lp h (fun s : (Int32 × Int32) => zz_W G m_X0_usedPages t t t 4 [some (.ref o), some (.int s.1), some (.int s.2)] [] M Q) (fun s h => x_X0_usedPages_4 o s.1 s.2 M ho h (fun s p => p) kR)
noncomputable def f_X0_usedPages (o : Nat) (M : zzMem) : Option Int32 :=
  j_X0_usedPages_4 o (nI 0) (nI 0) M
set_option maxHeartbeats 4000000 in
set_option maxRecDepth 100000 in
theorem w_X0_usedPages_0 {G : zzG} {t : Nat} {Q : Option Value → zzMem → Prop} (o : Nat) (M : zzMem) (ho : zI_X0 t o) {P : Int32 → Prop} (h : zK (f_X0_usedPages o M) P) (kR : ∀ r : Int32, P r → Q (some (.int r)) M) : zz_W G m_X0_usedPages t t t 0 [some (.ref o), none, none] [] M Q := by
  unfold f_X0_usedPages at h
  refine r_iconst (v := (nI 0)) dX0_usedPages_0 (by decide) ?_
  refine s_istore_n ([some (.ref o), some (.int (nI 0)), none]) dX0_usedPages_1 (by decide) rfl rfl ?_
  refine r_iconst (v := (nI 0)) dX0_usedPages_2 (by decide) ?_
  refine s_istore_n ([some (.ref o), some (.int (nI 0)), some (.int (nI 0))]) dX0_usedPages_3 (by decide) rfl rfl ?_
  exact w_X0_usedPages_4 (o) ((nI 0)) ((nI 0)) M ho h kR
set_option maxHeartbeats 4000000 in
set_option maxRecDepth 100000 in
theorem c_X0_usedPages {G : zzG} {t : Nat} {Q : Option Value → zzMem → Prop} (o : Nat) (M : zzMem) (ho : zI_X0 t o) {P : Int32 → Prop} (h : zK (f_X0_usedPages o M) P) (kR : ∀ r : Int32, P r → Q (some (.int r)) M) : zz_S G m_X0_usedPages t t [.ref o] M Q :=
  zz_S_of (by decide) (by decide) (Nat.le_of_ble_eq_true rfl) (w_X0_usedPages_0 o M ho h kR)
noncomputable def b_X0_longest_4 (o : Nat) (v1 : Int32) (v2 : Int32) (v3 : Int32) (M : zzMem) : Option ((Int32 × Int32) ⊕ Int32) :=
  if v1 ≤ v3 then
  (some ((.inr v2)))
  else (zgd (vp_in v3 64) (
  zbd ((zmx v2 (M.1 (o + 9) (v3).toNatClampNeg))) (fun x3 =>
  zbd (v3 + (nI 1)) (fun x4 =>
  some (.inl (x3, x4))))))
set_option maxHeartbeats 4000000 in
set_option maxRecDepth 100000 in
theorem x_X0_longest_4 {G : zzG} {t : Nat} {Q : Option Value → zzMem → Prop} (o : Nat) (v1 : Int32) (v2 : Int32) (v3 : Int32) (M : zzMem) (ho : zI_X0 t o) {P : ((Int32 × Int32) ⊕ Int32) → Prop} (h : zK (b_X0_longest_4 o v1 v2 v3 M) P) (k4 : ∀ s : (Int32 × Int32), P (.inl s) → zz_W G m_X0_longest t t t 4 [some (.ref o), some (.int v1), some (.int s.1), some (.int s.2)] [] M Q) (kR : ∀ r : Int32, P (.inr r) → Q (some (.int r)) M) : zz_W G m_X0_longest t t t 4 [some (.ref o), some (.int v1), some (.int v2), some (.int v3)] [] M Q := by
  unfold b_X0_longest_4 at h
  refine r_iload_n dX0_longest_4 rfl ?_
  refine r_iload_n dX0_longest_5 rfl ?_
  refine r_icmp_ge 26 dX0_longest_6 (by decide) (fun c1 => ?_) (fun c1 => ?_)
  · have h := zK_pos h c1
    refine r_iload_n dX0_longest_26 rfl ?_
    exact r_iret dX0_longest_27 rfl rfl rfl (kR (v2) (zK_some h))
  · have h := zK_neg h c1
    refine r_iload_n dX0_longest_9 rfl ?_
    refine r_aload_n dX0_longest_10 rfl ?_
    refine r_getR (k := o) (q := (o + 9)) dX0_longest_11 zf_X0_37 (zo_X0 ho) (zr_X0_8 ho).1 (zr_X0_8 ho).2.1 (zr_X0_8 ho).2.2 ?_
    refine r_iload_n dX0_longest_14 rfl ?_
    obtain ⟨g2, h⟩ := zK_gd h
    refine r_iald dX0_longest_15 (za_X0_8 ho) g2 ?_
    refine r_mmax dX0_longest_16 zk_X0_88 (Nat.le_of_ble_eq_true rfl) (Nat.le_of_ble_eq_true rfl) ?_
    refine r_istore_n (fun x3 => [some (.ref o), some (.int v1), some (.int x3), some (.int v3)]) dX0_longest_19 (by decide) rfl (fun _ => rfl) (fun x3 ex3 => ?_)
    have h := zK_bd h ex3
    refine r_iinc (nI 1) (fun x4 => [some (.ref o), some (.int v1), some (.int x3), some (.int x4)]) dX0_longest_20 rfl (by decide) (by decide) rfl (fun _ => rfl) (fun x4 ex4 => ?_)
    have h := zK_bd h ex4
    refine r_goto 4 dX0_longest_23 (by decide) ?_
    exact k4 ((x3, x4)) (zK_some h)
noncomputable def j_X0_longest_4 (o : Nat) (v1 : Int32) (v2 : Int32) (v3 : Int32) (M : zzMem) : Option Int32 :=
  zlp (fun s : (Int32 × Int32) => b_X0_longest_4 o v1 s.1 s.2 M) (v2, v3)
set_option maxHeartbeats 4000000 in
set_option maxRecDepth 100000 in
theorem w_X0_longest_4 {G : zzG} {t : Nat} {Q : Option Value → zzMem → Prop} (o : Nat) (v1 : Int32) (v2 : Int32) (v3 : Int32) (M : zzMem) (ho : zI_X0 t o) {P : Int32 → Prop} (h : zK (j_X0_longest_4 o v1 v2 v3 M) P) (kR : ∀ r : Int32, P r → Q (some (.int r)) M) : zz_W G m_X0_longest t t t 4 [some (.ref o), some (.int v1), some (.int v2), some (.int v3)] [] M Q := by
  unfold j_X0_longest_4 at h
  exact zK_lp h (fun s : (Int32 × Int32) => zz_W G m_X0_longest t t t 4 [some (.ref o), some (.int v1), some (.int s.1), some (.int s.2)] [] M Q) (fun s h => x_X0_longest_4 o v1 s.1 s.2 M ho h (fun s p => p) kR)
noncomputable def f_X0_longest (o : Nat) (a1 : Int32) (M : zzMem) : Option Int32 :=
  j_X0_longest_4 o a1 (nI 0) (nI 0) M
set_option maxHeartbeats 4000000 in
set_option maxRecDepth 100000 in
theorem w_X0_longest_0 {G : zzG} {t : Nat} {Q : Option Value → zzMem → Prop} (o : Nat) (a1 : Int32) (M : zzMem) (ho : zI_X0 t o) {P : Int32 → Prop} (h : zK (f_X0_longest o a1 M) P) (kR : ∀ r : Int32, P r → Q (some (.int r)) M) : zz_W G m_X0_longest t t t 0 [some (.ref o), some (.int a1), none, none] [] M Q := by
  unfold f_X0_longest at h
  refine r_iconst (v := (nI 0)) dX0_longest_0 (by decide) ?_
  refine s_istore_n ([some (.ref o), some (.int a1), some (.int (nI 0)), none]) dX0_longest_1 (by decide) rfl rfl ?_
  refine r_iconst (v := (nI 0)) dX0_longest_2 (by decide) ?_
  refine s_istore_n ([some (.ref o), some (.int a1), some (.int (nI 0)), some (.int (nI 0))]) dX0_longest_3 (by decide) rfl rfl ?_
  exact w_X0_longest_4 (o) (a1) ((nI 0)) ((nI 0)) M ho h kR
set_option maxHeartbeats 4000000 in
set_option maxRecDepth 100000 in
theorem c_X0_longest {G : zzG} {t : Nat} {Q : Option Value → zzMem → Prop} (o : Nat) (a1 : Int32) (M : zzMem) (ho : zI_X0 t o) {P : Int32 → Prop} (h : zK (f_X0_longest o a1 M) P) (kR : ∀ r : Int32, P r → Q (some (.int r)) M) : zz_S G m_X0_longest t t [.ref o, .int a1] M Q :=
  zz_S_of (by decide) (by decide) (Nat.le_of_ble_eq_true rfl) (w_X0_longest_0 o a1 M ho h kR)
noncomputable def b_X0_withoutKeys_4 (o : Nat) (v1 : Int32) (v2 : Int32) (v3 : Int32) (M : zzMem) : Option ((Int32 × Int32) ⊕ Int32) :=
  if v1 ≤ v3 then
  (some ((.inr v2)))
  else (zgd (vp_in v3 64) (
  if (M.1 (o + 8) (v3).toNatClampNeg) = 0 then
  (zbd (v2 + (nI 1)) (fun x5 =>
  zbd (v3 + (nI 1)) (fun x6 =>
  some (.inl (x5, x6)))))
  else (zbd (v3 + (nI 1)) (fun x4 =>
  some (.inl (v2, x4))))))
set_option maxHeartbeats 4000000 in
set_option maxRecDepth 100000 in
theorem x_X0_withoutKeys_4 {G : zzG} {t : Nat} {Q : Option Value → zzMem → Prop} (o : Nat) (v1 : Int32) (v2 : Int32) (v3 : Int32) (M : zzMem) (ho : zI_X0 t o) {P : ((Int32 × Int32) ⊕ Int32) → Prop} (h : zK (b_X0_withoutKeys_4 o v1 v2 v3 M) P) (k4 : ∀ s : (Int32 × Int32), P (.inl s) → zz_W G m_X0_withoutKeys t t t 4 [some (.ref o), some (.int v1), some (.int s.1), some (.int s.2)] [] M Q) (kR : ∀ r : Int32, P (.inr r) → Q (some (.int r)) M) : zz_W G m_X0_withoutKeys t t t 4 [some (.ref o), some (.int v1), some (.int v2), some (.int v3)] [] M Q := by
  unfold b_X0_withoutKeys_4 at h
  refine r_iload_n dX0_withoutKeys_4 rfl ?_
  refine r_iload_n dX0_withoutKeys_5 rfl ?_
  refine r_icmp_ge 27 dX0_withoutKeys_6 (by decide) (fun c1 => ?_) (fun c1 => ?_)
  · have h := zK_pos h c1
    refine r_iload_n dX0_withoutKeys_27 rfl ?_
    exact r_iret dX0_withoutKeys_28 rfl rfl rfl (kR (v2) (zK_some h))
  · have h := zK_neg h c1
    refine r_aload_n dX0_withoutKeys_9 rfl ?_
    refine r_getR (k := o) (q := (o + 8)) dX0_withoutKeys_10 zf_X0_34 (zo_X0 ho) (zr_X0_7 ho).1 (zr_X0_7 ho).2.1 (zr_X0_7 ho).2.2 ?_
    refine r_iload_n dX0_withoutKeys_13 rfl ?_
    obtain ⟨g2, h⟩ := zK_gd h
    refine r_iald dX0_withoutKeys_14 (za_X0_7 ho) g2 ?_
    refine r_if_ne 21 dX0_withoutKeys_15 (by decide) (fun c3 => ?_) (fun c3 => ?_)
    · have h := zK_neg h c3
      refine r_iinc (nI 1) (fun x4 => [some (.ref o), some (.int v1), some (.int v2), some (.int x4)]) dX0_withoutKeys_21 rfl (by decide) (by decide) rfl (fun _ => rfl) (fun x4 ex4 => ?_)
      have h := zK_bd h ex4
      refine r_goto 4 dX0_withoutKeys_24 (by decide) ?_
      exact k4 ((v2, x4)) (zK_some h)
    · have h := zK_pos h c3
      refine r_iinc (nI 1) (fun x5 => [some (.ref o), some (.int v1), some (.int x5), some (.int v3)]) dX0_withoutKeys_18 rfl (by decide) (by decide) rfl (fun _ => rfl) (fun x5 ex5 => ?_)
      have h := zK_bd h ex5
      refine r_iinc (nI 1) (fun x6 => [some (.ref o), some (.int v1), some (.int x5), some (.int x6)]) dX0_withoutKeys_21 rfl (by decide) (by decide) rfl (fun _ => rfl) (fun x6 ex6 => ?_)
      have h := zK_bd h ex6
      refine r_goto 4 dX0_withoutKeys_24 (by decide) ?_
      exact k4 ((x5, x6)) (zK_some h)
noncomputable def j_X0_withoutKeys_4 (o : Nat) (v1 : Int32) (v2 : Int32) (v3 : Int32) (M : zzMem) : Option Int32 :=
  zlp (fun s : (Int32 × Int32) => b_X0_withoutKeys_4 o v1 s.1 s.2 M) (v2, v3)
set_option maxHeartbeats 4000000 in
set_option maxRecDepth 100000 in
theorem w_X0_withoutKeys_4 {G : zzG} {t : Nat} {Q : Option Value → zzMem → Prop} (o : Nat) (v1 : Int32) (v2 : Int32) (v3 : Int32) (M : zzMem) (ho : zI_X0 t o) {P : Int32 → Prop} (h : zK (j_X0_withoutKeys_4 o v1 v2 v3 M) P) (kR : ∀ r : Int32, P r → Q (some (.int r)) M) : zz_W G m_X0_withoutKeys t t t 4 [some (.ref o), some (.int v1), some (.int v2), some (.int v3)] [] M Q := by
  unfold j_X0_withoutKeys_4 at h
  exact zK_lp h (fun s : (Int32 × Int32) => zz_W G m_X0_withoutKeys t t t 4 [some (.ref o), some (.int v1), some (.int s.1), some (.int s.2)] [] M Q) (fun s h => x_X0_withoutKeys_4 o v1 s.1 s.2 M ho h (fun s p => p) kR)
noncomputable def f_X0_withoutKeys (o : Nat) (a1 : Int32) (M : zzMem) : Option Int32 :=
  j_X0_withoutKeys_4 o a1 (nI 0) (nI 0) M
set_option maxHeartbeats 4000000 in
set_option maxRecDepth 100000 in
theorem w_X0_withoutKeys_0 {G : zzG} {t : Nat} {Q : Option Value → zzMem → Prop} (o : Nat) (a1 : Int32) (M : zzMem) (ho : zI_X0 t o) {P : Int32 → Prop} (h : zK (f_X0_withoutKeys o a1 M) P) (kR : ∀ r : Int32, P r → Q (some (.int r)) M) : zz_W G m_X0_withoutKeys t t t 0 [some (.ref o), some (.int a1), none, none] [] M Q := by
  unfold f_X0_withoutKeys at h
  refine r_iconst (v := (nI 0)) dX0_withoutKeys_0 (by decide) ?_
  refine s_istore_n ([some (.ref o), some (.int a1), some (.int (nI 0)), none]) dX0_withoutKeys_1 (by decide) rfl rfl ?_
  refine r_iconst (v := (nI 0)) dX0_withoutKeys_2 (by decide) ?_
  refine s_istore_n ([some (.ref o), some (.int a1), some (.int (nI 0)), some (.int (nI 0))]) dX0_withoutKeys_3 (by decide) rfl rfl ?_
  exact w_X0_withoutKeys_4 (o) (a1) ((nI 0)) ((nI 0)) M ho h kR
set_option maxHeartbeats 4000000 in
set_option maxRecDepth 100000 in
theorem c_X0_withoutKeys {G : zzG} {t : Nat} {Q : Option Value → zzMem → Prop} (o : Nat) (a1 : Int32) (M : zzMem) (ho : zI_X0 t o) {P : Int32 → Prop} (h : zK (f_X0_withoutKeys o a1 M) P) (kR : ∀ r : Int32, P r → Q (some (.int r)) M) : zz_S G m_X0_withoutKeys t t [.ref o, .int a1] M Q :=
  zz_S_of (by decide) (by decide) (Nat.le_of_ble_eq_true rfl) (w_X0_withoutKeys_0 o a1 M ho h kR)
