noncomputable def b_X0_allReads_4 (o : Nat) (v1 : Int32) (v2 : Int32) (M : zzMem) : Option ((Int32 × Int32) ⊕ Int32) :=
  if (nI 256) ≤ v2 then
  (some ((.inr v1)))
  else (zgd (vp_in v2 256) (
  if (M.1 (o + 1) (v2).toNatClampNeg) = (-1 : Int32) then
  (zbd (v2 + (nI 1)) (fun x4 =>
  some (.inl (v1, x4))))
  else (zbd ((v1 + ((M.1 (o + 3) (v2).toNatClampNeg) * ((M.1 (o + 2) (v2).toNatClampNeg) + (nI 1))))) (fun x5 =>
  zbd (v2 + (nI 1)) (fun x6 =>
  some (.inl (x5, x6)))))))
set_option maxHeartbeats 4000000 in
set_option maxRecDepth 100000 in
theorem x_X0_allReads_4 {G : zzG} {t : Nat} {Q : Option Value → zzMem → Prop} (o : Nat) (v1 : Int32) (v2 : Int32) (M : zzMem) (ho : zI_X0 t o) {P : ((Int32 × Int32) ⊕ Int32) → Prop} (h : zK (b_X0_allReads_4 o v1 v2 M) P) (k4 : ∀ s : (Int32 × Int32), P (.inl s) → zz_W G m_X0_allReads t t t 4 [some (.ref o), some (.int s.1), some (.int s.2)] [] M Q) (kR : ∀ r : Int32, P (.inr r) → Q (some (.int r)) M) : zz_W G m_X0_allReads t t t 4 [some (.ref o), some (.int v1), some (.int v2)] [] M Q := by
  unfold b_X0_allReads_4 at h
  refine r_iload_n dX0_allReads_4 rfl ?_
  refine r_sipush (v := (nI 256)) dX0_allReads_5 (by decide) ?_
  refine r_icmp_ge 45 dX0_allReads_8 (by decide) (fun c1 => ?_) (fun c1 => ?_)
  · have h := zK_pos h c1
    refine r_iload_n dX0_allReads_45 rfl ?_
    exact r_iret dX0_allReads_46 rfl rfl rfl (kR (v1) (zK_some h))
  · have h := zK_neg h c1
    refine r_aload_n dX0_allReads_11 rfl ?_
    refine r_getR (k := o) (q := (o + 1)) dX0_allReads_12 zf_X0_9 (zo_X0 ho) (zr_X0_0 ho).1 (zr_X0_0 ho).2.1 (zr_X0_0 ho).2.2 ?_
    refine r_iload_n dX0_allReads_15 rfl ?_
    obtain ⟨g2, h⟩ := zK_gd h
    refine r_iald dX0_allReads_16 (za_X0_0 ho) g2 ?_
    refine r_iconst (v := (-1 : Int32)) dX0_allReads_17 (by decide) ?_
    refine r_icmp_eq 39 dX0_allReads_18 (by decide) (fun c3 => ?_) (fun c3 => ?_)
    · have h := zK_pos h c3
      refine r_iinc (nI 1) (fun x4 => [some (.ref o), some (.int v1), some (.int x4)]) dX0_allReads_39 rfl (by decide) (by decide) rfl (fun _ => rfl) (fun x4 ex4 => ?_)
      have h := zK_bd h ex4
      refine r_goto 4 dX0_allReads_42 (by decide) ?_
      exact k4 ((v1, x4)) (zK_some h)
    · have h := zK_neg h c3
      refine r_iload_n dX0_allReads_21 rfl ?_
      refine r_aload_n dX0_allReads_22 rfl ?_
      refine r_getR (k := o) (q := (o + 3)) dX0_allReads_23 zf_X0_18 (zo_X0 ho) (zr_X0_2 ho).1 (zr_X0_2 ho).2.1 (zr_X0_2 ho).2.2 ?_
      refine r_iload_n dX0_allReads_26 rfl ?_
      refine r_iald dX0_allReads_27 (za_X0_2 ho) g2 ?_
      refine r_aload_n dX0_allReads_28 rfl ?_
      refine r_getR (k := o) (q := (o + 2)) dX0_allReads_29 zf_X0_15 (zo_X0 ho) (zr_X0_1 ho).1 (zr_X0_1 ho).2.1 (zr_X0_1 ho).2.2 ?_
      refine r_iload_n dX0_allReads_32 rfl ?_
      refine r_iald dX0_allReads_33 (za_X0_1 ho) g2 ?_
      refine r_iconst (v := (nI 1)) dX0_allReads_34 (by decide) ?_
      refine r_iadd dX0_allReads_35 ?_
      refine r_imul dX0_allReads_36 ?_
      refine r_iadd dX0_allReads_37 ?_
      refine r_istore_n (fun x5 => [some (.ref o), some (.int x5), some (.int v2)]) dX0_allReads_38 (by decide) rfl (fun _ => rfl) (fun x5 ex5 => ?_)
      have h := zK_bd h ex5
      refine r_iinc (nI 1) (fun x6 => [some (.ref o), some (.int x5), some (.int x6)]) dX0_allReads_39 rfl (by decide) (by decide) rfl (fun _ => rfl) (fun x6 ex6 => ?_)
      have h := zK_bd h ex6
      refine r_goto 4 dX0_allReads_42 (by decide) ?_
      exact k4 ((x5, x6)) (zK_some h)
noncomputable def j_X0_allReads_4 (o : Nat) (v1 : Int32) (v2 : Int32) (M : zzMem) : Option Int32 :=
  zlp (fun s : (Int32 × Int32) => b_X0_allReads_4 o s.1 s.2 M) (v1, v2)
set_option maxHeartbeats 4000000 in
set_option maxRecDepth 100000 in
theorem w_X0_allReads_4 {G : zzG} {t : Nat} {Q : Option Value → zzMem → Prop} (o : Nat) (v1 : Int32) (v2 : Int32) (M : zzMem) (ho : zI_X0 t o) {P : Int32 → Prop} (h : zK (j_X0_allReads_4 o v1 v2 M) P) (kR : ∀ r : Int32, P r → Q (some (.int r)) M) : zz_W G m_X0_allReads t t t 4 [some (.ref o), some (.int v1), some (.int v2)] [] M Q := by
  unfold j_X0_allReads_4 at h
  exact zK_lp h (fun s : (Int32 × Int32) => zz_W G m_X0_allReads t t t 4 [some (.ref o), some (.int s.1), some (.int s.2)] [] M Q) (fun s h => x_X0_allReads_4 o s.1 s.2 M ho h (fun s p => p) kR)
noncomputable def f_X0_allReads (o : Nat) (M : zzMem) : Option Int32 :=
  j_X0_allReads_4 o (nI 0) (nI 0) M
set_option maxHeartbeats 4000000 in
set_option maxRecDepth 100000 in
theorem w_X0_allReads_0 {G : zzG} {t : Nat} {Q : Option Value → zzMem → Prop} (o : Nat) (M : zzMem) (ho : zI_X0 t o) {P : Int32 → Prop} (h : zK (f_X0_allReads o M) P) (kR : ∀ r : Int32, P r → Q (some (.int r)) M) : zz_W G m_X0_allReads t t t 0 [some (.ref o), none, none] [] M Q := by
  unfold f_X0_allReads at h
  refine r_iconst (v := (nI 0)) dX0_allReads_0 (by decide) ?_
  refine s_istore_n ([some (.ref o), some (.int (nI 0)), none]) dX0_allReads_1 (by decide) rfl rfl ?_
  refine r_iconst (v := (nI 0)) dX0_allReads_2 (by decide) ?_
  refine s_istore_n ([some (.ref o), some (.int (nI 0)), some (.int (nI 0))]) dX0_allReads_3 (by decide) rfl rfl ?_
  exact w_X0_allReads_4 (o) ((nI 0)) ((nI 0)) M ho h kR
set_option maxHeartbeats 4000000 in
set_option maxRecDepth 100000 in
theorem c_X0_allReads {G : zzG} {t : Nat} {Q : Option Value → zzMem → Prop} (o : Nat) (M : zzMem) (ho : zI_X0 t o) {P : Int32 → Prop} (h : zK (f_X0_allReads o M) P) (kR : ∀ r : Int32, P r → Q (some (.int r)) M) : zz_S G m_X0_allReads t t [.ref o] M Q :=
  zz_S_of (by decide) (by decide) (Nat.le_of_ble_eq_true rfl) (w_X0_allReads_0 o M ho h kR)
noncomputable def b_X0_mostReads_4 (o : Nat) (v1 : Int32) (v2 : Int32) (M : zzMem) : Option ((Int32 × Int32) ⊕ Int32) :=
  if (nI 256) ≤ v2 then
  (some ((.inr v1)))
  else (zgd (vp_in v2 256) (
  if (M.1 (o + 1) (v2).toNatClampNeg) = (-1 : Int32) then
  (zbd (v2 + (nI 1)) (fun x4 =>
  some (.inl (v1, x4))))
  else (if (M.1 (o + 3) (v2).toNatClampNeg) ≤ 0 then
  (zbd (v2 + (nI 1)) (fun x6 =>
  some (.inl (v1, x6))))
  else (zbd ((zmx v1 ((M.1 (o + 2) (v2).toNatClampNeg) + (nI 1)))) (fun x7 =>
  zbd (v2 + (nI 1)) (fun x8 =>
  some (.inl (x7, x8))))))))
set_option maxHeartbeats 4000000 in
set_option maxRecDepth 100000 in
theorem x_X0_mostReads_4 {G : zzG} {t : Nat} {Q : Option Value → zzMem → Prop} (o : Nat) (v1 : Int32) (v2 : Int32) (M : zzMem) (ho : zI_X0 t o) {P : ((Int32 × Int32) ⊕ Int32) → Prop} (h : zK (b_X0_mostReads_4 o v1 v2 M) P) (k4 : ∀ s : (Int32 × Int32), P (.inl s) → zz_W G m_X0_mostReads t t t 4 [some (.ref o), some (.int s.1), some (.int s.2)] [] M Q) (kR : ∀ r : Int32, P (.inr r) → Q (some (.int r)) M) : zz_W G m_X0_mostReads t t t 4 [some (.ref o), some (.int v1), some (.int v2)] [] M Q := by
  unfold b_X0_mostReads_4 at h
  refine r_iload_n dX0_mostReads_4 rfl ?_
  refine r_sipush (v := (nI 256)) dX0_mostReads_5 (by decide) ?_
  refine r_icmp_ge 49 dX0_mostReads_8 (by decide) (fun c1 => ?_) (fun c1 => ?_)
  · have h := zK_pos h c1
    refine r_iload_n dX0_mostReads_49 rfl ?_
    exact r_iret dX0_mostReads_50 rfl rfl rfl (kR (v1) (zK_some h))
  · have h := zK_neg h c1
    refine r_aload_n dX0_mostReads_11 rfl ?_
    refine r_getR (k := o) (q := (o + 1)) dX0_mostReads_12 zf_X0_9 (zo_X0 ho) (zr_X0_0 ho).1 (zr_X0_0 ho).2.1 (zr_X0_0 ho).2.2 ?_
    refine r_iload_n dX0_mostReads_15 rfl ?_
    obtain ⟨g2, h⟩ := zK_gd h
    refine r_iald dX0_mostReads_16 (za_X0_0 ho) g2 ?_
    refine r_iconst (v := (-1 : Int32)) dX0_mostReads_17 (by decide) ?_
    refine r_icmp_eq 43 dX0_mostReads_18 (by decide) (fun c3 => ?_) (fun c3 => ?_)
    · have h := zK_pos h c3
      refine r_iinc (nI 1) (fun x4 => [some (.ref o), some (.int v1), some (.int x4)]) dX0_mostReads_43 rfl (by decide) (by decide) rfl (fun _ => rfl) (fun x4 ex4 => ?_)
      have h := zK_bd h ex4
      refine r_goto 4 dX0_mostReads_46 (by decide) ?_
      exact k4 ((v1, x4)) (zK_some h)
    · have h := zK_neg h c3
      refine r_aload_n dX0_mostReads_21 rfl ?_
      refine r_getR (k := o) (q := (o + 3)) dX0_mostReads_22 zf_X0_18 (zo_X0 ho) (zr_X0_2 ho).1 (zr_X0_2 ho).2.1 (zr_X0_2 ho).2.2 ?_
      refine r_iload_n dX0_mostReads_25 rfl ?_
      refine r_iald dX0_mostReads_26 (za_X0_2 ho) g2 ?_
      refine r_if_le 43 dX0_mostReads_27 (by decide) (fun c5 => ?_) (fun c5 => ?_)
      · have h := zK_pos h c5
        refine r_iinc (nI 1) (fun x6 => [some (.ref o), some (.int v1), some (.int x6)]) dX0_mostReads_43 rfl (by decide) (by decide) rfl (fun _ => rfl) (fun x6 ex6 => ?_)
        have h := zK_bd h ex6
        refine r_goto 4 dX0_mostReads_46 (by decide) ?_
        exact k4 ((v1, x6)) (zK_some h)
      · have h := zK_neg h c5
        refine r_iload_n dX0_mostReads_30 rfl ?_
        refine r_aload_n dX0_mostReads_31 rfl ?_
        refine r_getR (k := o) (q := (o + 2)) dX0_mostReads_32 zf_X0_15 (zo_X0 ho) (zr_X0_1 ho).1 (zr_X0_1 ho).2.1 (zr_X0_1 ho).2.2 ?_
        refine r_iload_n dX0_mostReads_35 rfl ?_
        refine r_iald dX0_mostReads_36 (za_X0_1 ho) g2 ?_
        refine r_iconst (v := (nI 1)) dX0_mostReads_37 (by decide) ?_
        refine r_iadd dX0_mostReads_38 ?_
        refine r_mmax dX0_mostReads_39 zk_X0_88 (Nat.le_of_ble_eq_true rfl) (Nat.le_of_ble_eq_true rfl) ?_
        refine r_istore_n (fun x7 => [some (.ref o), some (.int x7), some (.int v2)]) dX0_mostReads_42 (by decide) rfl (fun _ => rfl) (fun x7 ex7 => ?_)
        have h := zK_bd h ex7
        refine r_iinc (nI 1) (fun x8 => [some (.ref o), some (.int x7), some (.int x8)]) dX0_mostReads_43 rfl (by decide) (by decide) rfl (fun _ => rfl) (fun x8 ex8 => ?_)
        have h := zK_bd h ex8
        refine r_goto 4 dX0_mostReads_46 (by decide) ?_
        exact k4 ((x7, x8)) (zK_some h)
noncomputable def j_X0_mostReads_4 (o : Nat) (v1 : Int32) (v2 : Int32) (M : zzMem) : Option Int32 :=
  zlp (fun s : (Int32 × Int32) => b_X0_mostReads_4 o s.1 s.2 M) (v1, v2)
set_option maxHeartbeats 4000000 in
set_option maxRecDepth 100000 in
theorem w_X0_mostReads_4 {G : zzG} {t : Nat} {Q : Option Value → zzMem → Prop} (o : Nat) (v1 : Int32) (v2 : Int32) (M : zzMem) (ho : zI_X0 t o) {P : Int32 → Prop} (h : zK (j_X0_mostReads_4 o v1 v2 M) P) (kR : ∀ r : Int32, P r → Q (some (.int r)) M) : zz_W G m_X0_mostReads t t t 4 [some (.ref o), some (.int v1), some (.int v2)] [] M Q := by
  unfold j_X0_mostReads_4 at h
  exact zK_lp h (fun s : (Int32 × Int32) => zz_W G m_X0_mostReads t t t 4 [some (.ref o), some (.int s.1), some (.int s.2)] [] M Q) (fun s h => x_X0_mostReads_4 o s.1 s.2 M ho h (fun s p => p) kR)
noncomputable def f_X0_mostReads (o : Nat) (M : zzMem) : Option Int32 :=
  j_X0_mostReads_4 o (nI 0) (nI 0) M
set_option maxHeartbeats 4000000 in
set_option maxRecDepth 100000 in
theorem w_X0_mostReads_0 {G : zzG} {t : Nat} {Q : Option Value → zzMem → Prop} (o : Nat) (M : zzMem) (ho : zI_X0 t o) {P : Int32 → Prop} (h : zK (f_X0_mostReads o M) P) (kR : ∀ r : Int32, P r → Q (some (.int r)) M) : zz_W G m_X0_mostReads t t t 0 [some (.ref o), none, none] [] M Q := by
  unfold f_X0_mostReads at h
  refine r_iconst (v := (nI 0)) dX0_mostReads_0 (by decide) ?_
  refine s_istore_n ([some (.ref o), some (.int (nI 0)), none]) dX0_mostReads_1 (by decide) rfl rfl ?_
  refine r_iconst (v := (nI 0)) dX0_mostReads_2 (by decide) ?_
  refine s_istore_n ([some (.ref o), some (.int (nI 0)), some (.int (nI 0))]) dX0_mostReads_3 (by decide) rfl rfl ?_
  exact w_X0_mostReads_4 (o) ((nI 0)) ((nI 0)) M ho h kR
set_option maxHeartbeats 4000000 in
set_option maxRecDepth 100000 in
theorem c_X0_mostReads {G : zzG} {t : Nat} {Q : Option Value → zzMem → Prop} (o : Nat) (M : zzMem) (ho : zI_X0 t o) {P : Int32 → Prop} (h : zK (f_X0_mostReads o M) P) (kR : ∀ r : Int32, P r → Q (some (.int r)) M) : zz_S G m_X0_mostReads t t [.ref o] M Q :=
  zz_S_of (by decide) (by decide) (Nat.le_of_ble_eq_true rfl) (w_X0_mostReads_0 o M ho h kR)
noncomputable def b_X0_keysCosting_4 (o : Nat) (v1 : Int32) (v2 : Int32) (v3 : Int32) (M : zzMem) : Option ((Int32 × Int32) ⊕ Int32) :=
  if (nI 256) ≤ v3 then
  (some ((.inr v2)))
  else (zgd (vp_in v3 256) (
  if (M.1 (o + 1) (v3).toNatClampNeg) = (-1 : Int32) then
  (zbd (v3 + (nI 1)) (fun x4 =>
  some (.inl (v2, x4))))
  else (if ((M.1 (o + 2) (v3).toNatClampNeg) + (nI 1)) = v1 then
  (zbd ((v2 + (M.1 (o + 3) (v3).toNatClampNeg))) (fun x7 =>
  zbd (v3 + (nI 1)) (fun x8 =>
  some (.inl (x7, x8)))))
  else (zbd (v3 + (nI 1)) (fun x6 =>
  some (.inl (v2, x6)))))))
set_option maxHeartbeats 4000000 in
set_option maxRecDepth 100000 in
theorem x_X0_keysCosting_4 {G : zzG} {t : Nat} {Q : Option Value → zzMem → Prop} (o : Nat) (v1 : Int32) (v2 : Int32) (v3 : Int32) (M : zzMem) (ho : zI_X0 t o) {P : ((Int32 × Int32) ⊕ Int32) → Prop} (h : zK (b_X0_keysCosting_4 o v1 v2 v3 M) P) (k4 : ∀ s : (Int32 × Int32), P (.inl s) → zz_W G m_X0_keysCosting t t t 4 [some (.ref o), some (.int v1), some (.int s.1), some (.int s.2)] [] M Q) (kR : ∀ r : Int32, P (.inr r) → Q (some (.int r)) M) : zz_W G m_X0_keysCosting t t t 4 [some (.ref o), some (.int v1), some (.int v2), some (.int v3)] [] M Q := by
  unfold b_X0_keysCosting_4 at h
  refine r_iload_n dX0_keysCosting_4 rfl ?_
  refine r_sipush (v := (nI 256)) dX0_keysCosting_5 (by decide) ?_
  refine r_icmp_ge 48 dX0_keysCosting_8 (by decide) (fun c1 => ?_) (fun c1 => ?_)
  · have h := zK_pos h c1
    refine r_iload_n dX0_keysCosting_48 rfl ?_
    exact r_iret dX0_keysCosting_49 rfl rfl rfl (kR (v2) (zK_some h))
  · have h := zK_neg h c1
    refine r_aload_n dX0_keysCosting_11 rfl ?_
    refine r_getR (k := o) (q := (o + 1)) dX0_keysCosting_12 zf_X0_9 (zo_X0 ho) (zr_X0_0 ho).1 (zr_X0_0 ho).2.1 (zr_X0_0 ho).2.2 ?_
    refine r_iload_n dX0_keysCosting_15 rfl ?_
    obtain ⟨g2, h⟩ := zK_gd h
    refine r_iald dX0_keysCosting_16 (za_X0_0 ho) g2 ?_
    refine r_iconst (v := (-1 : Int32)) dX0_keysCosting_17 (by decide) ?_
    refine r_icmp_eq 42 dX0_keysCosting_18 (by decide) (fun c3 => ?_) (fun c3 => ?_)
    · have h := zK_pos h c3
      refine r_iinc (nI 1) (fun x4 => [some (.ref o), some (.int v1), some (.int v2), some (.int x4)]) dX0_keysCosting_42 rfl (by decide) (by decide) rfl (fun _ => rfl) (fun x4 ex4 => ?_)
      have h := zK_bd h ex4
      refine r_goto 4 dX0_keysCosting_45 (by decide) ?_
      exact k4 ((v2, x4)) (zK_some h)
    · have h := zK_neg h c3
      refine r_aload_n dX0_keysCosting_21 rfl ?_
      refine r_getR (k := o) (q := (o + 2)) dX0_keysCosting_22 zf_X0_15 (zo_X0 ho) (zr_X0_1 ho).1 (zr_X0_1 ho).2.1 (zr_X0_1 ho).2.2 ?_
      refine r_iload_n dX0_keysCosting_25 rfl ?_
      refine r_iald dX0_keysCosting_26 (za_X0_1 ho) g2 ?_
      refine r_iconst (v := (nI 1)) dX0_keysCosting_27 (by decide) ?_
      refine r_iadd dX0_keysCosting_28 ?_
      refine r_iload_n dX0_keysCosting_29 rfl ?_
      refine r_icmp_ne 42 dX0_keysCosting_30 (by decide) (fun c5 => ?_) (fun c5 => ?_)
      · have h := zK_neg h c5
        refine r_iinc (nI 1) (fun x6 => [some (.ref o), some (.int v1), some (.int v2), some (.int x6)]) dX0_keysCosting_42 rfl (by decide) (by decide) rfl (fun _ => rfl) (fun x6 ex6 => ?_)
        have h := zK_bd h ex6
        refine r_goto 4 dX0_keysCosting_45 (by decide) ?_
        exact k4 ((v2, x6)) (zK_some h)
      · have h := zK_pos h c5
        refine r_iload_n dX0_keysCosting_33 rfl ?_
        refine r_aload_n dX0_keysCosting_34 rfl ?_
        refine r_getR (k := o) (q := (o + 3)) dX0_keysCosting_35 zf_X0_18 (zo_X0 ho) (zr_X0_2 ho).1 (zr_X0_2 ho).2.1 (zr_X0_2 ho).2.2 ?_
        refine r_iload_n dX0_keysCosting_38 rfl ?_
        refine r_iald dX0_keysCosting_39 (za_X0_2 ho) g2 ?_
        refine r_iadd dX0_keysCosting_40 ?_
        refine r_istore_n (fun x7 => [some (.ref o), some (.int v1), some (.int x7), some (.int v3)]) dX0_keysCosting_41 (by decide) rfl (fun _ => rfl) (fun x7 ex7 => ?_)
        have h := zK_bd h ex7
        refine r_iinc (nI 1) (fun x8 => [some (.ref o), some (.int v1), some (.int x7), some (.int x8)]) dX0_keysCosting_42 rfl (by decide) (by decide) rfl (fun _ => rfl) (fun x8 ex8 => ?_)
        have h := zK_bd h ex8
        refine r_goto 4 dX0_keysCosting_45 (by decide) ?_
        exact k4 ((x7, x8)) (zK_some h)
noncomputable def j_X0_keysCosting_4 (o : Nat) (v1 : Int32) (v2 : Int32) (v3 : Int32) (M : zzMem) : Option Int32 :=
  zlp (fun s : (Int32 × Int32) => b_X0_keysCosting_4 o v1 s.1 s.2 M) (v2, v3)
set_option maxHeartbeats 4000000 in
set_option maxRecDepth 100000 in
theorem w_X0_keysCosting_4 {G : zzG} {t : Nat} {Q : Option Value → zzMem → Prop} (o : Nat) (v1 : Int32) (v2 : Int32) (v3 : Int32) (M : zzMem) (ho : zI_X0 t o) {P : Int32 → Prop} (h : zK (j_X0_keysCosting_4 o v1 v2 v3 M) P) (kR : ∀ r : Int32, P r → Q (some (.int r)) M) : zz_W G m_X0_keysCosting t t t 4 [some (.ref o), some (.int v1), some (.int v2), some (.int v3)] [] M Q := by
  unfold j_X0_keysCosting_4 at h
  exact zK_lp h (fun s : (Int32 × Int32) => zz_W G m_X0_keysCosting t t t 4 [some (.ref o), some (.int v1), some (.int s.1), some (.int s.2)] [] M Q) (fun s h => x_X0_keysCosting_4 o v1 s.1 s.2 M ho h (fun s p => p) kR)
noncomputable def f_X0_keysCosting (o : Nat) (a1 : Int32) (M : zzMem) : Option Int32 :=
  j_X0_keysCosting_4 o a1 (nI 0) (nI 0) M
set_option maxHeartbeats 4000000 in
set_option maxRecDepth 100000 in
theorem w_X0_keysCosting_0 {G : zzG} {t : Nat} {Q : Option Value → zzMem → Prop} (o : Nat) (a1 : Int32) (M : zzMem) (ho : zI_X0 t o) {P : Int32 → Prop} (h : zK (f_X0_keysCosting o a1 M) P) (kR : ∀ r : Int32, P r → Q (some (.int r)) M) : zz_W G m_X0_keysCosting t t t 0 [some (.ref o), some (.int a1), none, none] [] M Q := by
  unfold f_X0_keysCosting at h
  refine r_iconst (v := (nI 0)) dX0_keysCosting_0 (by decide) ?_
  refine s_istore_n ([some (.ref o), some (.int a1), some (.int (nI 0)), none]) dX0_keysCosting_1 (by decide) rfl rfl ?_
  refine r_iconst (v := (nI 0)) dX0_keysCosting_2 (by decide) ?_
  refine s_istore_n ([some (.ref o), some (.int a1), some (.int (nI 0)), some (.int (nI 0))]) dX0_keysCosting_3 (by decide) rfl rfl ?_
  exact w_X0_keysCosting_4 (o) (a1) ((nI 0)) ((nI 0)) M ho h kR
set_option maxHeartbeats 4000000 in
set_option maxRecDepth 100000 in
theorem c_X0_keysCosting {G : zzG} {t : Nat} {Q : Option Value → zzMem → Prop} (o : Nat) (a1 : Int32) (M : zzMem) (ho : zI_X0 t o) {P : Int32 → Prop} (h : zK (f_X0_keysCosting o a1 M) P) (kR : ∀ r : Int32, P r → Q (some (.int r)) M) : zz_S G m_X0_keysCosting t t [.ref o, .int a1] M Q :=
  zz_S_of (by decide) (by decide) (Nat.le_of_ble_eq_true rfl) (w_X0_keysCosting_0 o a1 M ho h kR)
noncomputable def f_X1_of (a0 : Int32) (a1 : Int32) (a2 : Int32) : Int64 :=
  ((((a2).toInt64 <<< (((nI 24)).toInt64 &&& 63)) ||| ((a0).toInt64 <<< (((nI 8)).toInt64 &&& 63))) ||| (a1).toInt64)
set_option maxHeartbeats 4000000 in
set_option maxRecDepth 100000 in
theorem w_X1_of_0 {G : zzG} {t : Nat} {Q : Option Value → zzMem → Prop} (a0 : Int32) (a1 : Int32) (a2 : Int32) (M : zzMem)  {P : Int64 → Prop} (h : P (f_X1_of a0 a1 a2)) (kR : ∀ r : Int64, P r → Q (some (.long r)) M) : zz_W G m_X1_of t t t 0 [some (.int a0), some (.int a1), some (.int a2)] [] M Q := by
  unfold f_X1_of at h
  refine r_iload_n dX1_of_0 rfl ?_
  refine r_i2l dX1_of_1 ?_
  refine r_bipush (v := (nI 24)) dX1_of_2 (by decide) ?_
  refine r_lshl dX1_of_4 ?_
  refine r_iload_n dX1_of_5 rfl ?_
  refine r_i2l dX1_of_6 ?_
  refine r_bipush (v := (nI 8)) dX1_of_7 (by decide) ?_
  refine r_lshl dX1_of_9 ?_
  refine r_lor dX1_of_10 ?_
  refine r_iload_n dX1_of_11 rfl ?_
  refine r_i2l dX1_of_12 ?_
  refine r_lor dX1_of_13 ?_
  exact r_lret dX1_of_14 rfl rfl rfl (kR (((((a2).toInt64 <<< (((nI 24)).toInt64 &&& 63)) ||| ((a0).toInt64 <<< (((nI 8)).toInt64 &&& 63))) ||| (a1).toInt64)) h)
set_option maxHeartbeats 4000000 in
set_option maxRecDepth 100000 in
theorem c_X1_of {G : zzG} {t : Nat} {Q : Option Value → zzMem → Prop} (a0 : Int32) (a1 : Int32) (a2 : Int32) (M : zzMem)  (h : Q (some (.long (f_X1_of a0 a1 a2))) M) : zz_S G m_X1_of t t [.int a0, .int a1, .int a2] M Q :=
  zz_S_of (by decide) (by decide) (Nat.le_of_ble_eq_true rfl) (w_X1_of_0 a0 a1 a2 M  (P := fun r => Q (some (.long r)) M) h (fun r p => p))
noncomputable def f_X1_valueOf (a0 : Int64) : Int32 :=
  (((a0 &&& (255 : Int64))).toInt32)
set_option maxHeartbeats 4000000 in
set_option maxRecDepth 100000 in
theorem w_X1_valueOf_0 {G : zzG} {t : Nat} {Q : Option Value → zzMem → Prop} (a0 : Int64) (M : zzMem)  {P : Int32 → Prop} (h : P (f_X1_valueOf a0)) (kR : ∀ r : Int32, P r → Q (some (.int r)) M) : zz_W G m_X1_valueOf t t t 0 [some (.long a0), none] [] M Q := by
  unfold f_X1_valueOf at h
  refine r_lload_n dX1_valueOf_0 rfl ?_
  refine r_ldc2 (v := (255 : Int64)) dX1_valueOf_1 zd_X1_11 ?_
  refine r_land dX1_valueOf_4 ?_
  refine r_l2i dX1_valueOf_5 ?_
  exact r_iret dX1_valueOf_6 rfl rfl rfl (kR ((((a0 &&& (255 : Int64))).toInt32)) h)
set_option maxHeartbeats 4000000 in
set_option maxRecDepth 100000 in
theorem c_X1_valueOf {G : zzG} {t : Nat} {Q : Option Value → zzMem → Prop} (a0 : Int64) (M : zzMem)  (h : Q (some (.int (f_X1_valueOf a0))) M) : zz_S G m_X1_valueOf t t [.long a0] M Q :=
  zz_S_of (by decide) (by decide) (Nat.le_of_ble_eq_true rfl) (w_X1_valueOf_0 a0 M  (P := fun r => Q (some (.int r)) M) h (fun r p => p))
noncomputable def f_X1_hashOf (a0 : Int64) : Int32 :=
  ((((a0 >>> (((nI 24)).toInt64 &&& 63)) &&& (65535 : Int64))).toInt32)
set_option maxHeartbeats 4000000 in
set_option maxRecDepth 100000 in
theorem w_X1_hashOf_0 {G : zzG} {t : Nat} {Q : Option Value → zzMem → Prop} (a0 : Int64) (M : zzMem)  {P : Int32 → Prop} (h : P (f_X1_hashOf a0)) (kR : ∀ r : Int32, P r → Q (some (.int r)) M) : zz_W G m_X1_hashOf t t t 0 [some (.long a0), none] [] M Q := by
  unfold f_X1_hashOf at h
  refine r_lload_n dX1_hashOf_0 rfl ?_
  refine r_bipush (v := (nI 24)) dX1_hashOf_1 (by decide) ?_
  refine r_lshr dX1_hashOf_3 ?_
  refine r_ldc2 (v := (65535 : Int64)) dX1_hashOf_4 zd_X1_9 ?_
  refine r_land dX1_hashOf_7 ?_
  refine r_l2i dX1_hashOf_8 ?_
  exact r_iret dX1_hashOf_9 rfl rfl rfl (kR (((((a0 >>> (((nI 24)).toInt64 &&& 63)) &&& (65535 : Int64))).toInt32)) h)
set_option maxHeartbeats 4000000 in
set_option maxRecDepth 100000 in
theorem c_X1_hashOf {G : zzG} {t : Nat} {Q : Option Value → zzMem → Prop} (a0 : Int64) (M : zzMem)  (h : Q (some (.int (f_X1_hashOf a0))) M) : zz_S G m_X1_hashOf t t [.long a0] M Q :=
  zz_S_of (by decide) (by decide) (Nat.le_of_ble_eq_true rfl) (w_X1_hashOf_0 a0 M  (P := fun r => Q (some (.int r)) M) h (fun r p => p))
noncomputable def f_X6_closeAll (o : Nat) (M : zzMem) : Option zzMem :=
  (f_J7_fill_53178 (o + 1) 4 (-1 : Int32) M).bind (fun M1 =>
  some M1)
set_option maxHeartbeats 4000000 in
set_option maxRecDepth 100000 in
theorem w_X6_closeAll_0 {G : zzG} {t : Nat} {Q : Option Value → zzMem → Prop} (o : Nat) (M : zzMem) (ho : zI_X6 t o) {P : zzMem → Prop} (h : zK (f_X6_closeAll o M) P) (kR : ∀ r : zzMem, P r → Q none r) : zz_W G m_X6_closeAll t t t 0 [some (.ref o)] [] M Q := by
  unfold f_X6_closeAll at h
  refine r_aload_n dX6_closeAll_0 rfl ?_
  refine r_getR (k := o) (q := (o + 1)) dX6_closeAll_1 zf_X6_9 (zo_X6 ho) (zr_X6_0 ho).1 (zr_X6_0 ho).2.1 (zr_X6_0 ho).2.2 ?_
  refine r_iconst (v := (-1 : Int32)) dX6_closeAll_4 (by decide) ?_
  refine kS_vw (as := [.ref (o + 1), .int (-1 : Int32)]) (st := []) dX6_closeAll_5 zM_J7_fill_53178 zk_X6_18 ⟨Nat.le_of_ble_eq_true rfl, Nat.le_of_ble_eq_true rfl⟩ (Nat.le_of_ble_eq_true rfl) (zz_T0 rfl rfl) (fun Q' P' k h => c_J7_fill_53178 ((o + 1)) (4) ((-1 : Int32)) M (za_X6_0 ho) h k) h (fun M1 h => ?_)
  exact r_vret dX6_closeAll_8 rfl rfl rfl (kR (M1) (zK_some h))
set_option maxHeartbeats 4000000 in
set_option maxRecDepth 100000 in
theorem c_X6_closeAll {G : zzG} {t : Nat} {Q : Option Value → zzMem → Prop} (o : Nat) (M : zzMem) (ho : zI_X6 t o) {P : zzMem → Prop} (h : zK (f_X6_closeAll o M) P) (kR : ∀ r : zzMem, P r → Q none r) : zz_S G m_X6_closeAll t t [.ref o] M Q :=
  zz_S_of (by decide) (by decide) (Nat.le_of_ble_eq_true rfl) (w_X6_closeAll_0 o M ho h kR)
noncomputable def f_X2_reset (o : Nat) (a1 : Int32) (a2 : Int32) (a3 : Int32) (a4 : Int32) (a5 : Int32) (M : zzMem) : Option zzMem :=
  zbd (zz_si M o 4 a1) (fun M1 =>
  zbd (zz_si M1 o 5 a3) (fun M2 =>
  zbd (zz_si M2 o 6 a4) (fun M3 =>
  zbd (zz_si M3 o 7 a5) (fun M4 =>
  zbd (zz_si M4 o 8 (nI 0)) (fun M5 =>
  zbd (zz_si M5 o 9 (nI 0)) (fun M6 =>
  zbd (zz_si M6 o 10 (nI 0)) (fun M7 =>
  zbd (zz_si M7 o 11 (nI 0)) (fun M8 =>
  zbd (zz_si M8 o 12 (nI 0)) (fun M9 =>
  zbd (zz_si M9 o 13 (nI 0)) (fun M10 =>
  zbd (zz_si M10 (o + 15) 1 (nI 0)) (fun M11 =>
  (f_X0_clear (o + 4) a2 (M11.1 o 4) M11).bind (fun M12 =>
  (f_X6_closeAll (o + 17) M12).bind (fun M13 =>
  some M13)))))))))))))
set_option maxHeartbeats 4000000 in
set_option maxRecDepth 100000 in
theorem w_X2_reset_0 {G : zzG} {t : Nat} {Q : Option Value → zzMem → Prop} (o : Nat) (a1 : Int32) (a2 : Int32) (a3 : Int32) (a4 : Int32) (a5 : Int32) (M : zzMem) (ho : zI_X2 t o) {P : zzMem → Prop} (h : zK (f_X2_reset o a1 a2 a3 a4 a5 M) P) (kR : ∀ r : zzMem, P r → Q none r) : zz_W G m_X2_reset t t t 0 [some (.ref o), some (.int a1), some (.int a2), some (.int a3), some (.int a4), some (.int a5)] [] M Q := by
  unfold f_X2_reset at h
  refine r_aload_n dX2_reset_0 rfl ?_
  refine r_iload_n dX2_reset_1 rfl ?_
  refine r_putI (k := o) dX2_reset_2 zp_X2_39 (zo_X2 ho) (zi_X2_4 ho) rfl rfl (fun M1 eM1 => ?_)
  have h := zK_bd h eM1
  refine r_aload_n dX2_reset_5 rfl ?_
  refine r_iload_n dX2_reset_6 rfl ?_
  refine r_putI (k := o) dX2_reset_7 zp_X2_43 (zo_X2 ho) (zi_X2_5 ho) rfl rfl (fun M2 eM2 => ?_)
  have h := zK_bd h eM2
  refine r_aload_n dX2_reset_10 rfl ?_
  refine r_iload dX2_reset_11 rfl ?_
  refine r_putI (k := o) dX2_reset_13 zp_X2_46 (zo_X2 ho) (zi_X2_6 ho) rfl rfl (fun M3 eM3 => ?_)
  have h := zK_bd h eM3
  refine r_aload_n dX2_reset_16 rfl ?_
  refine r_iload dX2_reset_17 rfl ?_
  refine r_putI (k := o) dX2_reset_19 zp_X2_49 (zo_X2 ho) (zi_X2_7 ho) rfl rfl (fun M4 eM4 => ?_)
  have h := zK_bd h eM4
  refine r_aload_n dX2_reset_22 rfl ?_
  refine r_iconst (v := (nI 0)) dX2_reset_23 (by decide) ?_
  refine r_putI (k := o) dX2_reset_24 zp_X2_52 (zo_X2 ho) (zi_X2_8 ho) rfl rfl (fun M5 eM5 => ?_)
  have h := zK_bd h eM5
  refine r_aload_n dX2_reset_27 rfl ?_
  refine r_iconst (v := (nI 0)) dX2_reset_28 (by decide) ?_
  refine r_putI (k := o) dX2_reset_29 zp_X2_55 (zo_X2 ho) (zi_X2_9 ho) rfl rfl (fun M6 eM6 => ?_)
  have h := zK_bd h eM6
  refine r_aload_n dX2_reset_32 rfl ?_
  refine r_iconst (v := (nI 0)) dX2_reset_33 (by decide) ?_
  refine r_putI (k := o) dX2_reset_34 zp_X2_58 (zo_X2 ho) (zi_X2_10 ho) rfl rfl (fun M7 eM7 => ?_)
  have h := zK_bd h eM7
  refine r_aload_n dX2_reset_37 rfl ?_
  refine r_iconst (v := (nI 0)) dX2_reset_38 (by decide) ?_
  refine r_putI (k := o) dX2_reset_39 zp_X2_61 (zo_X2 ho) (zi_X2_11 ho) rfl rfl (fun M8 eM8 => ?_)
  have h := zK_bd h eM8
  refine r_aload_n dX2_reset_42 rfl ?_
  refine r_iconst (v := (nI 0)) dX2_reset_43 (by decide) ?_
  refine r_putI (k := o) dX2_reset_44 zp_X2_64 (zo_X2 ho) (zi_X2_12 ho) rfl rfl (fun M9 eM9 => ?_)
  have h := zK_bd h eM9
  refine r_aload_n dX2_reset_47 rfl ?_
  refine r_iconst (v := (nI 0)) dX2_reset_48 (by decide) ?_
  refine r_putI (k := o) dX2_reset_49 zp_X2_67 (zo_X2 ho) (zi_X2_13 ho) rfl rfl (fun M10 eM10 => ?_)
  have h := zK_bd h eM10
  refine r_aload_n dX2_reset_52 rfl ?_
  refine r_getR (k := o) (q := (o + 15)) dX2_reset_53 zf_X2_28 (zo_X2 ho) (zr_X2_2 ho).1 (zr_X2_2 ho).2.1 (zr_X2_2 ho).2.2 ?_
  refine r_iconst (v := (nI 0)) dX2_reset_56 (by decide) ?_
  refine r_putQ (k := (o + 15)) dX2_reset_57 zp_X2_77 (zo_X5 (zc_X2_2 ho)) (zi_X5_1 (zc_X2_2 ho)) rfl rfl (fun M11 eM11 => ?_)
  have h := zK_bd h eM11
  refine r_aload_n dX2_reset_60 rfl ?_
  refine r_getR (k := o) (q := (o + 4)) dX2_reset_61 zf_X2_21 (zo_X2 ho) (zr_X2_1 ho).1 (zr_X2_1 ho).2.1 (zr_X2_1 ho).2.2 ?_
  refine r_iload_n dX2_reset_64 rfl ?_
  refine r_aload_n dX2_reset_65 rfl ?_
  refine r_getI (k := o) dX2_reset_66 zf_X2_39 (zo_X2 ho) (zi_X2_4 ho) ?_
  refine kV_vw (as := [.int a2, .int (M11.1 o 4)]) (st := []) (k := (o + 4)) dX2_reset_69 zM_X0_clear zk_X2_73 (zo_X0 (zc_X2_1 ho)) (by decide) rfl ⟨Nat.le_of_ble_eq_true rfl, Nat.le_of_ble_eq_true rfl⟩ (Nat.le_of_ble_eq_true rfl) (zz_T0 rfl rfl) (fun Q' P' k h => c_X0_clear ((o + 4)) (a2) ((M11.1 o 4)) M11 (zc_X2_1 ho) h k) h (fun M12 h => ?_)
  refine r_aload_n dX2_reset_72 rfl ?_
  refine r_getR (k := o) (q := (o + 17)) dX2_reset_73 zf_X2_35 (zo_X2 ho) (zr_X2_3 ho).1 (zr_X2_3 ho).2.1 (zr_X2_3 ho).2.2 ?_
  refine kV_vw (as := []) (st := []) (k := (o + 17)) dX2_reset_76 zM_X6_closeAll zk_X2_80 (zo_X6 (zc_X2_3 ho)) (by decide) rfl ⟨Nat.le_of_ble_eq_true rfl, Nat.le_of_ble_eq_true rfl⟩ (Nat.le_of_ble_eq_true rfl) (zz_T0 rfl rfl) (fun Q' P' k h => c_X6_closeAll ((o + 17)) M12 (zc_X2_3 ho) h k) h (fun M13 h => ?_)
  exact r_vret dX2_reset_79 rfl rfl rfl (kR (M13) (zK_some h))
set_option maxHeartbeats 4000000 in
set_option maxRecDepth 100000 in
theorem c_X2_reset {G : zzG} {t : Nat} {Q : Option Value → zzMem → Prop} (o : Nat) (a1 : Int32) (a2 : Int32) (a3 : Int32) (a4 : Int32) (a5 : Int32) (M : zzMem) (ho : zI_X2 t o) {P : zzMem → Prop} (h : zK (f_X2_reset o a1 a2 a3 a4 a5 M) P) (kR : ∀ r : zzMem, P r → Q none r) : zz_S G m_X2_reset t t [.ref o, .int a1, .int a2, .int a3, .int a4, .int a5] M Q :=
  zz_S_of (by decide) (by decide) (Nat.le_of_ble_eq_true rfl) (w_X2_reset_0 o a1 a2 a3 a4 a5 M ho h kR)
noncomputable def f_X3_take (o : Nat) (p1 : Nat) (a2 : Int32) (M : zzMem) : Option zzMem :=
  zbd (zz_si M o 2 (zmn a2 (zmn (nI 60) (nI 60)))) (fun M1 =>
  zgd (zz_cpok 60 60 (nI 0) (nI 0) (M1.1 o 2)) (
  zbd (zz_ci M1 p1 (nI 0) (o + 1) (nI 0) (M1.1 o 2)) (fun M3 =>
  some M3)))
set_option maxHeartbeats 4000000 in
set_option maxRecDepth 100000 in
theorem w_X3_take_0 {G : zzG} {t : Nat} {Q : Option Value → zzMem → Prop} (o : Nat) (p1 : Nat) (a2 : Int32) (M : zzMem) (ho : zI_X3 t o) (hp1 : zz_O t p1 20 60) {P : zzMem → Prop} (h : zK (f_X3_take o p1 a2 M) P) (kR : ∀ r : zzMem, P r → Q none r) : zz_W G m_X3_take t t t 0 [some (.ref o), some (.ref p1), some (.int a2)] [] M Q := by
  unfold f_X3_take at h
  refine r_aload_n dX3_take_0 rfl ?_
  refine r_iload_n dX3_take_1 rfl ?_
  refine r_aload_n dX3_take_2 rfl ?_
  refine r_getR (k := o) (q := (o + 1)) dX3_take_3 zf_X3_11 (zo_X3 ho) (zr_X3_0 ho).1 (zr_X3_0 ho).2.1 (zr_X3_0 ho).2.2 ?_
  refine r_alen (v := (nI 60)) dX3_take_6 (za_X3_0 ho) (by decide) ?_
  refine r_aload_n dX3_take_7 rfl ?_
  refine r_alen (v := (nI 60)) dX3_take_8 hp1 (by decide) ?_
  refine r_mmin dX3_take_9 zk_X3_24 (Nat.le_of_ble_eq_true rfl) (Nat.le_of_ble_eq_true rfl) ?_
  refine r_mmin dX3_take_12 zk_X3_24 (Nat.le_of_ble_eq_true rfl) (Nat.le_of_ble_eq_true rfl) ?_
  refine r_putI (k := o) dX3_take_15 zp_X3_20 (zo_X3 ho) (zi_X3_2 ho) rfl rfl (fun M1 eM1 => ?_)
  have h := zK_bd h eM1
  refine r_aload_n dX3_take_18 rfl ?_
  refine r_iconst (v := (nI 0)) dX3_take_19 (by decide) ?_
  refine r_aload_n dX3_take_20 rfl ?_
  refine r_getR (k := o) (q := (o + 1)) dX3_take_21 zf_X3_11 (zo_X3 ho) (zr_X3_0 ho).1 (zr_X3_0 ho).2.1 (zr_X3_0 ho).2.2 ?_
  refine r_iconst (v := (nI 0)) dX3_take_24 (by decide) ?_
  refine r_aload_n dX3_take_25 rfl ?_
  refine r_getI (k := o) dX3_take_26 zf_X3_20 (zo_X3 ho) (zi_X3_2 ho) ?_
  obtain ⟨g2, h⟩ := zK_gd h
  refine r_copyi (k0 := p1) (k1 := (o + 1)) dX3_take_29 zk_X3_30 zw_copy hp1 (za_X3_0 ho) g2 (Nat.le_of_ble_eq_true rfl) (by decide) (fun M3 eM3 => ?_)
  have h := zK_bd h eM3
  exact r_vret dX3_take_32 rfl rfl rfl (kR (M3) (zK_some h))
set_option maxHeartbeats 4000000 in
set_option maxRecDepth 100000 in
theorem c_X3_take {G : zzG} {t : Nat} {Q : Option Value → zzMem → Prop} (o : Nat) (p1 : Nat) (a2 : Int32) (M : zzMem) (ho : zI_X3 t o) (hp1 : zz_O t p1 20 60) {P : zzMem → Prop} (h : zK (f_X3_take o p1 a2 M) P) (kR : ∀ r : zzMem, P r → Q none r) : zz_S G m_X3_take t t [.ref o, .ref p1, .int a2] M Q :=
  zz_S_of (by decide) (by decide) (Nat.le_of_ble_eq_true rfl) (w_X3_take_0 o p1 a2 M ho hp1 h kR)
noncomputable def f_X3_copyFrom (o : Nat) (p1 : Nat) (M : zzMem) : Option zzMem :=
  (f_X3_take o (p1 + 1) (M.1 p1 2) M).bind (fun M1 =>
  some M1)
set_option maxHeartbeats 4000000 in
set_option maxRecDepth 100000 in
theorem w_X3_copyFrom_0 {G : zzG} {t : Nat} {Q : Option Value → zzMem → Prop} (o : Nat) (p1 : Nat) (M : zzMem) (ho : zI_X3 t o) (hp1 : zI_X3 t p1) {P : zzMem → Prop} (h : zK (f_X3_copyFrom o p1 M) P) (kR : ∀ r : zzMem, P r → Q none r) : zz_W G m_X3_copyFrom t t t 0 [some (.ref o), some (.ref p1)] [] M Q := by
  unfold f_X3_copyFrom at h
  refine r_aload_n dX3_copyFrom_0 rfl ?_
  refine r_aload_n dX3_copyFrom_1 rfl ?_
  refine r_getR (k := p1) (q := (p1 + 1)) dX3_copyFrom_2 zf_X3_11 (zo_X3 hp1) (zr_X3_0 hp1).1 (zr_X3_0 hp1).2.1 (zr_X3_0 hp1).2.2 ?_
  refine r_aload_n dX3_copyFrom_5 rfl ?_
  refine r_getI (k := p1) dX3_copyFrom_6 zf_X3_20 (zo_X3 hp1) (zi_X3_2 hp1) ?_
  refine kV_vw (as := [.ref (p1 + 1), .int (M.1 p1 2)]) (st := []) (k := o) dX3_copyFrom_9 zM_X3_take zk_X3_36 (zo_X3 ho) (by decide) rfl ⟨Nat.le_of_ble_eq_true rfl, Nat.le_of_ble_eq_true rfl⟩ (Nat.le_of_ble_eq_true rfl) (zz_T0 rfl rfl) (fun Q' P' k h => c_X3_take (o) ((p1 + 1)) ((M.1 p1 2)) M ho (za_X3_0 hp1) h k) h (fun M1 h => ?_)
  exact r_vret dX3_copyFrom_12 rfl rfl rfl (kR (M1) (zK_some h))
set_option maxHeartbeats 4000000 in
set_option maxRecDepth 100000 in
theorem c_X3_copyFrom {G : zzG} {t : Nat} {Q : Option Value → zzMem → Prop} (o : Nat) (p1 : Nat) (M : zzMem) (ho : zI_X3 t o) (hp1 : zI_X3 t p1) {P : zzMem → Prop} (h : zK (f_X3_copyFrom o p1 M) P) (kR : ∀ r : zzMem, P r → Q none r) : zz_S G m_X3_copyFrom t t [.ref o, .ref p1] M Q :=
  zz_S_of (by decide) (by decide) (Nat.le_of_ble_eq_true rfl) (w_X3_copyFrom_0 o p1 M ho hp1 h kR)
noncomputable def f_X5_copyFrom (o : Nat) (p1 : Nat) (M : zzMem) : Option zzMem :=
  zbd (zz_si M o 1 (M.1 p1 1)) (fun M1 =>
  zgd (zz_cpok 300 300 (nI 0) (nI 0) (nI 300)) (
  zbd (zz_cl M1 (p1 + 1) (nI 0) (o + 1) (nI 0) (nI 300)) (fun M3 =>
  some M3)))
set_option maxHeartbeats 4000000 in
set_option maxRecDepth 100000 in
theorem w_X5_copyFrom_0 {G : zzG} {t : Nat} {Q : Option Value → zzMem → Prop} (o : Nat) (p1 : Nat) (M : zzMem) (ho : zI_X5 t o) (hp1 : zI_X5 t p1) {P : zzMem → Prop} (h : zK (f_X5_copyFrom o p1 M) P) (kR : ∀ r : zzMem, P r → Q none r) : zz_W G m_X5_copyFrom t t t 0 [some (.ref o), some (.ref p1)] [] M Q := by
  unfold f_X5_copyFrom at h
  refine r_aload_n dX5_copyFrom_0 rfl ?_
  refine r_aload_n dX5_copyFrom_1 rfl ?_
  refine r_getI (k := p1) dX5_copyFrom_2 zf_X5_15 (zo_X5 hp1) (zi_X5_1 hp1) ?_
  refine r_putI (k := o) dX5_copyFrom_5 zp_X5_15 (zo_X5 ho) (zi_X5_1 ho) rfl rfl (fun M1 eM1 => ?_)
  have h := zK_bd h eM1
  refine r_aload_n dX5_copyFrom_8 rfl ?_
  refine r_getR (k := p1) (q := (p1 + 1)) dX5_copyFrom_9 zf_X5_9 (zo_X5 hp1) (zr_X5_0 hp1).1 (zr_X5_0 hp1).2.1 (zr_X5_0 hp1).2.2 ?_
  refine r_iconst (v := (nI 0)) dX5_copyFrom_12 (by decide) ?_
  refine r_aload_n dX5_copyFrom_13 rfl ?_
  refine r_getR (k := o) (q := (o + 1)) dX5_copyFrom_14 zf_X5_9 (zo_X5 ho) (zr_X5_0 ho).1 (zr_X5_0 ho).2.1 (zr_X5_0 ho).2.2 ?_
  refine r_iconst (v := (nI 0)) dX5_copyFrom_17 (by decide) ?_
  refine r_sipush (v := (nI 300)) dX5_copyFrom_18 (by decide) ?_
  obtain ⟨g2, h⟩ := zK_gd h
  refine r_copyl (k0 := (p1 + 1)) (k1 := (o + 1)) dX5_copyFrom_21 zk_X5_23 zw_copy (za_X5_0 hp1) (za_X5_0 ho) g2 (Nat.le_of_ble_eq_true rfl) (by decide) (fun M3 eM3 => ?_)
  have h := zK_bd h eM3
  exact r_vret dX5_copyFrom_24 rfl rfl rfl (kR (M3) (zK_some h))
set_option maxHeartbeats 4000000 in
set_option maxRecDepth 100000 in
theorem c_X5_copyFrom {G : zzG} {t : Nat} {Q : Option Value → zzMem → Prop} (o : Nat) (p1 : Nat) (M : zzMem) (ho : zI_X5 t o) (hp1 : zI_X5 t p1) {P : zzMem → Prop} (h : zK (f_X5_copyFrom o p1 M) P) (kR : ∀ r : zzMem, P r → Q none r) : zz_S G m_X5_copyFrom t t [.ref o, .ref p1] M Q :=
  zz_S_of (by decide) (by decide) (Nat.le_of_ble_eq_true rfl) (w_X5_copyFrom_0 o p1 M ho hp1 h kR)
noncomputable def f_X6_copyFrom (o : Nat) (p1 : Nat) (M : zzMem) : Option zzMem :=
  zgd (zz_cpok 4 4 (nI 0) (nI 0) (nI 4)) (
  zbd (zz_ci M (p1 + 1) (nI 0) (o + 1) (nI 0) (nI 4)) (fun M2 =>
  zbd (zz_ci M2 (p1 + 2) (nI 0) (o + 2) (nI 0) (nI 4)) (fun M3 =>
  some M3)))
set_option maxHeartbeats 4000000 in
set_option maxRecDepth 100000 in
theorem w_X6_copyFrom_0 {G : zzG} {t : Nat} {Q : Option Value → zzMem → Prop} (o : Nat) (p1 : Nat) (M : zzMem) (ho : zI_X6 t o) (hp1 : zI_X6 t p1) {P : zzMem → Prop} (h : zK (f_X6_copyFrom o p1 M) P) (kR : ∀ r : zzMem, P r → Q none r) : zz_W G m_X6_copyFrom t t t 0 [some (.ref o), some (.ref p1)] [] M Q := by
  unfold f_X6_copyFrom at h
  refine r_aload_n dX6_copyFrom_0 rfl ?_
  refine r_getR (k := p1) (q := (p1 + 1)) dX6_copyFrom_1 zf_X6_9 (zo_X6 hp1) (zr_X6_0 hp1).1 (zr_X6_0 hp1).2.1 (zr_X6_0 hp1).2.2 ?_
  refine r_iconst (v := (nI 0)) dX6_copyFrom_4 (by decide) ?_
  refine r_aload_n dX6_copyFrom_5 rfl ?_
  refine r_getR (k := o) (q := (o + 1)) dX6_copyFrom_6 zf_X6_9 (zo_X6 ho) (zr_X6_0 ho).1 (zr_X6_0 ho).2.1 (zr_X6_0 ho).2.2 ?_
  refine r_iconst (v := (nI 0)) dX6_copyFrom_9 (by decide) ?_
  refine r_iconst (v := (nI 4)) dX6_copyFrom_10 (by decide) ?_
  obtain ⟨g1, h⟩ := zK_gd h
  refine r_copyi (k0 := (p1 + 1)) (k1 := (o + 1)) dX6_copyFrom_11 zk_X6_24 zw_copy (za_X6_0 hp1) (za_X6_0 ho) g1 (Nat.le_of_ble_eq_true rfl) (by decide) (fun M2 eM2 => ?_)
  have h := zK_bd h eM2
  refine r_aload_n dX6_copyFrom_14 rfl ?_
  refine r_getR (k := p1) (q := (p1 + 2)) dX6_copyFrom_15 zf_X6_15 (zo_X6 hp1) (zr_X6_1 hp1).1 (zr_X6_1 hp1).2.1 (zr_X6_1 hp1).2.2 ?_
  refine r_iconst (v := (nI 0)) dX6_copyFrom_18 (by decide) ?_
  refine r_aload_n dX6_copyFrom_19 rfl ?_
  refine r_getR (k := o) (q := (o + 2)) dX6_copyFrom_20 zf_X6_15 (zo_X6 ho) (zr_X6_1 ho).1 (zr_X6_1 ho).2.1 (zr_X6_1 ho).2.2 ?_
  refine r_iconst (v := (nI 0)) dX6_copyFrom_23 (by decide) ?_
  refine r_iconst (v := (nI 4)) dX6_copyFrom_24 (by decide) ?_
  refine r_copyi (k0 := (p1 + 2)) (k1 := (o + 2)) dX6_copyFrom_25 zk_X6_24 zw_copy (za_X6_1 hp1) (za_X6_1 ho) g1 (Nat.le_of_ble_eq_true rfl) (by decide) (fun M3 eM3 => ?_)
  have h := zK_bd h eM3
  exact r_vret dX6_copyFrom_28 rfl rfl rfl (kR (M3) (zK_some h))
set_option maxHeartbeats 4000000 in
set_option maxRecDepth 100000 in
theorem c_X6_copyFrom {G : zzG} {t : Nat} {Q : Option Value → zzMem → Prop} (o : Nat) (p1 : Nat) (M : zzMem) (ho : zI_X6 t o) (hp1 : zI_X6 t p1) {P : zzMem → Prop} (h : zK (f_X6_copyFrom o p1 M) P) (kR : ∀ r : zzMem, P r → Q none r) : zz_S G m_X6_copyFrom t t [.ref o, .ref p1] M Q :=
  zz_S_of (by decide) (by decide) (Nat.le_of_ble_eq_true rfl) (w_X6_copyFrom_0 o p1 M ho hp1 h kR)
noncomputable def f_X2_copyFrom (o : Nat) (p1 : Nat) (M : zzMem) : Option zzMem :=
  zbd (zz_si M o 4 (M.1 p1 4)) (fun M1 =>
  zbd (zz_si M1 o 5 (M1.1 p1 5)) (fun M2 =>
  zbd (zz_si M2 o 6 (M2.1 p1 6)) (fun M3 =>
  zbd (zz_si M3 o 7 (M3.1 p1 7)) (fun M4 =>
  zbd (zz_si M4 o 8 (M4.1 p1 8)) (fun M5 =>
  zbd (zz_si M5 o 9 (M5.1 p1 9)) (fun M6 =>
  zbd (zz_si M6 o 10 (M6.1 p1 10)) (fun M7 =>
  zbd (zz_si M7 o 11 (M7.1 p1 11)) (fun M8 =>
  zbd (zz_si M8 o 12 (M8.1 p1 12)) (fun M9 =>
  zbd (zz_si M9 o 13 (M9.1 p1 13)) (fun M10 =>
  zbd (zz_si M10 o 14 (M10.1 p1 14)) (fun M11 =>
  (f_X3_copyFrom (o + 1) (p1 + 1) M11).bind (fun M12 =>
  (f_X0_copyFrom (o + 4) (p1 + 4) M12).bind (fun M13 =>
  (f_X5_copyFrom (o + 15) (p1 + 15) M13).bind (fun M14 =>
  (f_X6_copyFrom (o + 17) (p1 + 17) M14).bind (fun M15 =>
  some M15)))))))))))))))
set_option maxHeartbeats 4000000 in
set_option maxRecDepth 100000 in
theorem w_X2_copyFrom_0 {G : zzG} {t : Nat} {Q : Option Value → zzMem → Prop} (o : Nat) (p1 : Nat) (M : zzMem) (ho : zI_X2 t o) (hp1 : zI_X2 t p1) {P : zzMem → Prop} (h : zK (f_X2_copyFrom o p1 M) P) (kR : ∀ r : zzMem, P r → Q none r) : zz_W G m_X2_copyFrom t t t 0 [some (.ref o), some (.ref p1)] [] M Q := by
  unfold f_X2_copyFrom at h
  refine r_aload_n dX2_copyFrom_0 rfl ?_
  refine r_aload_n dX2_copyFrom_1 rfl ?_
  refine r_getI (k := p1) dX2_copyFrom_2 zf_X2_39 (zo_X2 hp1) (zi_X2_4 hp1) ?_
  refine r_putI (k := o) dX2_copyFrom_5 zp_X2_39 (zo_X2 ho) (zi_X2_4 ho) rfl rfl (fun M1 eM1 => ?_)
  have h := zK_bd h eM1
  refine r_aload_n dX2_copyFrom_8 rfl ?_
  refine r_aload_n dX2_copyFrom_9 rfl ?_
  refine r_getI (k := p1) dX2_copyFrom_10 zf_X2_43 (zo_X2 hp1) (zi_X2_5 hp1) ?_
  refine r_putI (k := o) dX2_copyFrom_13 zp_X2_43 (zo_X2 ho) (zi_X2_5 ho) rfl rfl (fun M2 eM2 => ?_)
  have h := zK_bd h eM2
  refine r_aload_n dX2_copyFrom_16 rfl ?_
  refine r_aload_n dX2_copyFrom_17 rfl ?_
  refine r_getI (k := p1) dX2_copyFrom_18 zf_X2_46 (zo_X2 hp1) (zi_X2_6 hp1) ?_
  refine r_putI (k := o) dX2_copyFrom_21 zp_X2_46 (zo_X2 ho) (zi_X2_6 ho) rfl rfl (fun M3 eM3 => ?_)
  have h := zK_bd h eM3
  refine r_aload_n dX2_copyFrom_24 rfl ?_
  refine r_aload_n dX2_copyFrom_25 rfl ?_
  refine r_getI (k := p1) dX2_copyFrom_26 zf_X2_49 (zo_X2 hp1) (zi_X2_7 hp1) ?_
  refine r_putI (k := o) dX2_copyFrom_29 zp_X2_49 (zo_X2 ho) (zi_X2_7 ho) rfl rfl (fun M4 eM4 => ?_)
  have h := zK_bd h eM4
  refine r_aload_n dX2_copyFrom_32 rfl ?_
  refine r_aload_n dX2_copyFrom_33 rfl ?_
  refine r_getI (k := p1) dX2_copyFrom_34 zf_X2_52 (zo_X2 hp1) (zi_X2_8 hp1) ?_
  refine r_putI (k := o) dX2_copyFrom_37 zp_X2_52 (zo_X2 ho) (zi_X2_8 ho) rfl rfl (fun M5 eM5 => ?_)
  have h := zK_bd h eM5
  refine r_aload_n dX2_copyFrom_40 rfl ?_
  refine r_aload_n dX2_copyFrom_41 rfl ?_
  refine r_getI (k := p1) dX2_copyFrom_42 zf_X2_55 (zo_X2 hp1) (zi_X2_9 hp1) ?_
  refine r_putI (k := o) dX2_copyFrom_45 zp_X2_55 (zo_X2 ho) (zi_X2_9 ho) rfl rfl (fun M6 eM6 => ?_)
  have h := zK_bd h eM6
  refine r_aload_n dX2_copyFrom_48 rfl ?_
  refine r_aload_n dX2_copyFrom_49 rfl ?_
  refine r_getI (k := p1) dX2_copyFrom_50 zf_X2_58 (zo_X2 hp1) (zi_X2_10 hp1) ?_
  refine r_putI (k := o) dX2_copyFrom_53 zp_X2_58 (zo_X2 ho) (zi_X2_10 ho) rfl rfl (fun M7 eM7 => ?_)
  have h := zK_bd h eM7
  refine r_aload_n dX2_copyFrom_56 rfl ?_
  refine r_aload_n dX2_copyFrom_57 rfl ?_
  refine r_getI (k := p1) dX2_copyFrom_58 zf_X2_61 (zo_X2 hp1) (zi_X2_11 hp1) ?_
  refine r_putI (k := o) dX2_copyFrom_61 zp_X2_61 (zo_X2 ho) (zi_X2_11 ho) rfl rfl (fun M8 eM8 => ?_)
  have h := zK_bd h eM8
  refine r_aload_n dX2_copyFrom_64 rfl ?_
  refine r_aload_n dX2_copyFrom_65 rfl ?_
  refine r_getI (k := p1) dX2_copyFrom_66 zf_X2_64 (zo_X2 hp1) (zi_X2_12 hp1) ?_
  refine r_putI (k := o) dX2_copyFrom_69 zp_X2_64 (zo_X2 ho) (zi_X2_12 ho) rfl rfl (fun M9 eM9 => ?_)
  have h := zK_bd h eM9
  refine r_aload_n dX2_copyFrom_72 rfl ?_
  refine r_aload_n dX2_copyFrom_73 rfl ?_
  refine r_getI (k := p1) dX2_copyFrom_74 zf_X2_67 (zo_X2 hp1) (zi_X2_13 hp1) ?_
  refine r_putI (k := o) dX2_copyFrom_77 zp_X2_67 (zo_X2 ho) (zi_X2_13 ho) rfl rfl (fun M10 eM10 => ?_)
  have h := zK_bd h eM10
  refine r_aload_n dX2_copyFrom_80 rfl ?_
  refine r_aload_n dX2_copyFrom_81 rfl ?_
  refine r_getI (k := p1) dX2_copyFrom_82 zf_X2_70 (zo_X2 hp1) (zi_X2_14 hp1) ?_
  refine r_putI (k := o) dX2_copyFrom_85 zp_X2_70 (zo_X2 ho) (zi_X2_14 ho) rfl rfl (fun M11 eM11 => ?_)
  have h := zK_bd h eM11
  refine r_aload_n dX2_copyFrom_88 rfl ?_
  refine r_getR (k := o) (q := (o + 1)) dX2_copyFrom_89 zf_X2_12 (zo_X2 ho) (zr_X2_0 ho).1 (zr_X2_0 ho).2.1 (zr_X2_0 ho).2.2 ?_
  refine r_aload_n dX2_copyFrom_92 rfl ?_
  refine r_getR (k := p1) (q := (p1 + 1)) dX2_copyFrom_93 zf_X2_12 (zo_X2 hp1) (zr_X2_0 hp1).1 (zr_X2_0 hp1).2.1 (zr_X2_0 hp1).2.2 ?_
  refine kV_vw (as := [.ref (p1 + 1)]) (st := []) (k := (o + 1)) dX2_copyFrom_96 zM_X3_copyFrom zk_X2_83 (zo_X3 (zc_X2_0 ho)) (by decide) rfl ⟨Nat.le_of_ble_eq_true rfl, Nat.le_of_ble_eq_true rfl⟩ (Nat.le_of_ble_eq_true rfl) (zz_T0 rfl rfl) (fun Q' P' k h => c_X3_copyFrom ((o + 1)) ((p1 + 1)) M11 (zc_X2_0 ho) (zc_X2_0 hp1) h k) h (fun M12 h => ?_)
  refine r_aload_n dX2_copyFrom_99 rfl ?_
  refine r_getR (k := o) (q := (o + 4)) dX2_copyFrom_100 zf_X2_21 (zo_X2 ho) (zr_X2_1 ho).1 (zr_X2_1 ho).2.1 (zr_X2_1 ho).2.2 ?_
  refine r_aload_n dX2_copyFrom_103 rfl ?_
  refine r_getR (k := p1) (q := (p1 + 4)) dX2_copyFrom_104 zf_X2_21 (zo_X2 hp1) (zr_X2_1 hp1).1 (zr_X2_1 hp1).2.1 (zr_X2_1 hp1).2.2 ?_
  refine kV_vw (as := [.ref (p1 + 4)]) (st := []) (k := (o + 4)) dX2_copyFrom_107 zM_X0_copyFrom zk_X2_87 (zo_X0 (zc_X2_1 ho)) (by decide) rfl ⟨Nat.le_of_ble_eq_true rfl, Nat.le_of_ble_eq_true rfl⟩ (Nat.le_of_ble_eq_true rfl) (zz_T0 rfl rfl) (fun Q' P' k h => c_X0_copyFrom ((o + 4)) ((p1 + 4)) M12 (zc_X2_1 ho) (zc_X2_1 hp1) h k) h (fun M13 h => ?_)
  refine r_aload_n dX2_copyFrom_110 rfl ?_
  refine r_getR (k := o) (q := (o + 15)) dX2_copyFrom_111 zf_X2_28 (zo_X2 ho) (zr_X2_2 ho).1 (zr_X2_2 ho).2.1 (zr_X2_2 ho).2.2 ?_
  refine r_aload_n dX2_copyFrom_114 rfl ?_
  refine r_getR (k := p1) (q := (p1 + 15)) dX2_copyFrom_115 zf_X2_28 (zo_X2 hp1) (zr_X2_2 hp1).1 (zr_X2_2 hp1).2.1 (zr_X2_2 hp1).2.2 ?_
  refine kV_vw (as := [.ref (p1 + 15)]) (st := []) (k := (o + 15)) dX2_copyFrom_118 zM_X5_copyFrom zk_X2_90 (zo_X5 (zc_X2_2 ho)) (by decide) rfl ⟨Nat.le_of_ble_eq_true rfl, Nat.le_of_ble_eq_true rfl⟩ (Nat.le_of_ble_eq_true rfl) (zz_T0 rfl rfl) (fun Q' P' k h => c_X5_copyFrom ((o + 15)) ((p1 + 15)) M13 (zc_X2_2 ho) (zc_X2_2 hp1) h k) h (fun M14 h => ?_)
  refine r_aload_n dX2_copyFrom_121 rfl ?_
  refine r_getR (k := o) (q := (o + 17)) dX2_copyFrom_122 zf_X2_35 (zo_X2 ho) (zr_X2_3 ho).1 (zr_X2_3 ho).2.1 (zr_X2_3 ho).2.2 ?_
  refine r_aload_n dX2_copyFrom_125 rfl ?_
  refine r_getR (k := p1) (q := (p1 + 17)) dX2_copyFrom_126 zf_X2_35 (zo_X2 hp1) (zr_X2_3 hp1).1 (zr_X2_3 hp1).2.1 (zr_X2_3 hp1).2.2 ?_
  refine kV_vw (as := [.ref (p1 + 17)]) (st := []) (k := (o + 17)) dX2_copyFrom_129 zM_X6_copyFrom zk_X2_93 (zo_X6 (zc_X2_3 ho)) (by decide) rfl ⟨Nat.le_of_ble_eq_true rfl, Nat.le_of_ble_eq_true rfl⟩ (Nat.le_of_ble_eq_true rfl) (zz_T0 rfl rfl) (fun Q' P' k h => c_X6_copyFrom ((o + 17)) ((p1 + 17)) M14 (zc_X2_3 ho) (zc_X2_3 hp1) h k) h (fun M15 h => ?_)
  exact r_vret dX2_copyFrom_132 rfl rfl rfl (kR (M15) (zK_some h))
set_option maxHeartbeats 4000000 in
set_option maxRecDepth 100000 in
theorem c_X2_copyFrom {G : zzG} {t : Nat} {Q : Option Value → zzMem → Prop} (o : Nat) (p1 : Nat) (M : zzMem) (ho : zI_X2 t o) (hp1 : zI_X2 t p1) {P : zzMem → Prop} (h : zK (f_X2_copyFrom o p1 M) P) (kR : ∀ r : zzMem, P r → Q none r) : zz_S G m_X2_copyFrom t t [.ref o, .ref p1] M Q :=
  zz_S_of (by decide) (by decide) (Nat.le_of_ble_eq_true rfl) (w_X2_copyFrom_0 o p1 M ho hp1 h kR)
noncomputable def f_X2_span (o : Nat) (M : zzMem) : Int32 :=
  ((M.1 o 4) <<< ((M.1 o 8) &&& 31))
set_option maxHeartbeats 4000000 in
set_option maxRecDepth 100000 in
theorem w_X2_span_0 {G : zzG} {t : Nat} {Q : Option Value → zzMem → Prop} (o : Nat) (M : zzMem) (ho : zI_X2 t o) {P : Int32 → Prop} (h : P (f_X2_span o M)) (kR : ∀ r : Int32, P r → Q (some (.int r)) M) : zz_W G m_X2_span t t t 0 [some (.ref o)] [] M Q := by
  unfold f_X2_span at h
  refine r_aload_n dX2_span_0 rfl ?_
  refine r_getI (k := o) dX2_span_1 zf_X2_39 (zo_X2 ho) (zi_X2_4 ho) ?_
  refine r_aload_n dX2_span_4 rfl ?_
  refine r_getI (k := o) dX2_span_5 zf_X2_52 (zo_X2 ho) (zi_X2_8 ho) ?_
  refine r_ishl dX2_span_8 ?_
  exact r_iret dX2_span_9 rfl rfl rfl (kR (((M.1 o 4) <<< ((M.1 o 8) &&& 31))) h)
set_option maxHeartbeats 4000000 in
set_option maxRecDepth 100000 in
theorem c_X2_span {G : zzG} {t : Nat} {Q : Option Value → zzMem → Prop} (o : Nat) (M : zzMem) (ho : zI_X2 t o) (h : Q (some (.int (f_X2_span o M))) M) : zz_S G m_X2_span t t [.ref o] M Q :=
  zz_S_of (by decide) (by decide) (Nat.le_of_ble_eq_true rfl) (w_X2_span_0 o M ho (P := fun r => Q (some (.int r)) M) h (fun r p => p))
noncomputable def f_X2_buckets (o : Nat) (M : zzMem) : Int32 :=
  (((M.1 o 4) <<< ((M.1 o 8) &&& 31)) + (M.1 o 9))
set_option maxHeartbeats 4000000 in
set_option maxRecDepth 100000 in
theorem w_X2_buckets_0 {G : zzG} {t : Nat} {Q : Option Value → zzMem → Prop} (o : Nat) (M : zzMem) (ho : zI_X2 t o) {P : Int32 → Prop} (h : P (f_X2_buckets o M)) (kR : ∀ r : Int32, P r → Q (some (.int r)) M) : zz_W G m_X2_buckets t t t 0 [some (.ref o)] [] M Q := by
  unfold f_X2_buckets at h
  refine r_aload_n dX2_buckets_0 rfl ?_
  refine r_getI (k := o) dX2_buckets_1 zf_X2_39 (zo_X2 ho) (zi_X2_4 ho) ?_
  refine r_aload_n dX2_buckets_4 rfl ?_
  refine r_getI (k := o) dX2_buckets_5 zf_X2_52 (zo_X2 ho) (zi_X2_8 ho) ?_
  refine r_ishl dX2_buckets_8 ?_
  refine r_aload_n dX2_buckets_9 rfl ?_
  refine r_getI (k := o) dX2_buckets_10 zf_X2_55 (zo_X2 ho) (zi_X2_9 ho) ?_
  refine r_iadd dX2_buckets_13 ?_
  exact r_iret dX2_buckets_14 rfl rfl rfl (kR ((((M.1 o 4) <<< ((M.1 o 8) &&& 31)) + (M.1 o 9))) h)
set_option maxHeartbeats 4000000 in
set_option maxRecDepth 100000 in
theorem c_X2_buckets {G : zzG} {t : Nat} {Q : Option Value → zzMem → Prop} (o : Nat) (M : zzMem) (ho : zI_X2 t o) (h : Q (some (.int (f_X2_buckets o M))) M) : zz_S G m_X2_buckets t t [.ref o] M Q :=
  zz_S_of (by decide) (by decide) (Nat.le_of_ble_eq_true rfl) (w_X2_buckets_0 o M ho (P := fun r => Q (some (.int r)) M) h (fun r p => p))
noncomputable def f_X2_isFull (o : Nat) (M : zzMem) : Bool :=
  if (f_X2_buckets o M) < (nI 64) then
  false
  else true
set_option maxHeartbeats 4000000 in
set_option maxRecDepth 100000 in
theorem w_X2_isFull_0 {G : zzG} {t : Nat} {Q : Option Value → zzMem → Prop} (o : Nat) (M : zzMem) (ho : zI_X2 t o) {P : Bool → Prop} (h : P (f_X2_isFull o M)) (kR : ∀ r : Bool, P r → Q (some (.int (zb r))) M) : zz_W G m_X2_isFull t t t 0 [some (.ref o)] [] M Q := by
  unfold f_X2_isFull at h
  refine r_aload_n dX2_isFull_0 rfl ?_
  refine tV_ir (v := f_X2_buckets o M) (as := []) (st := []) (k := o) dX2_isFull_1 zM_X2_buckets zk_X2_96 (zo_X2 ho) (by decide) rfl ⟨Nat.le_of_ble_eq_true rfl, Nat.le_of_ble_eq_true rfl⟩ (Nat.le_of_ble_eq_true rfl) (zz_T0 rfl rfl) (fun Q' h => c_X2_buckets (o) M ho h) ?_
  refine r_bipush (v := (nI 64)) dX2_isFull_4 (by decide) ?_
  refine r_icmp_lt 13 dX2_isFull_6 (by decide) (fun c1 => ?_) (fun c1 => ?_)
  · have h := zP_pos h c1
    refine r_iconst (v := (nI 0)) dX2_isFull_13 (by decide) ?_
    exact r_zret (b := false) dX2_isFull_14 rfl rfl rfl (kR (false) h)
  · have h := zP_neg h c1
    refine r_iconst (v := (nI 1)) dX2_isFull_9 (by decide) ?_
    refine r_goto 14 dX2_isFull_10 (by decide) ?_
    exact r_zret (b := true) dX2_isFull_14 rfl rfl rfl (kR (true) h)
set_option maxHeartbeats 4000000 in
set_option maxRecDepth 100000 in
theorem c_X2_isFull {G : zzG} {t : Nat} {Q : Option Value → zzMem → Prop} (o : Nat) (M : zzMem) (ho : zI_X2 t o) (h : Q (some (.int (zb (f_X2_isFull o M)))) M) : zz_S G m_X2_isFull t t [.ref o] M Q :=
  zz_S_of (by decide) (by decide) (Nat.le_of_ble_eq_true rfl) (w_X2_isFull_0 o M ho (P := fun r => Q (some (.int (zb r))) M) h (fun r p => p))
noncomputable def f_X2_load (o : Nat) (M : zzMem) : Option Int32 :=
  zbd (((f_X2_buckets o M) * (M.1 (o + 4) 11))) (fun x1 =>
  if (nI 1) ≤ x1 then
  (zgd (¬ x1 = 0) (
  some ((((nI 100) * (M.1 (o + 15) 1)) / x1))))
  else (some ((nI 0))))
set_option maxHeartbeats 4000000 in
set_option maxRecDepth 100000 in
theorem w_X2_load_0 {G : zzG} {t : Nat} {Q : Option Value → zzMem → Prop} (o : Nat) (M : zzMem) (ho : zI_X2 t o) {P : Int32 → Prop} (h : zK (f_X2_load o M) P) (kR : ∀ r : Int32, P r → Q (some (.int r)) M) : zz_W G m_X2_load t t t 0 [some (.ref o), none] [] M Q := by
  unfold f_X2_load at h
  refine r_aload_n dX2_load_0 rfl ?_
  refine tV_ir (v := f_X2_buckets o M) (as := []) (st := []) (k := o) dX2_load_1 zM_X2_buckets zk_X2_96 (zo_X2 ho) (by decide) rfl ⟨Nat.le_of_ble_eq_true rfl, Nat.le_of_ble_eq_true rfl⟩ (Nat.le_of_ble_eq_true rfl) (zz_T0 rfl rfl) (fun Q' h => c_X2_buckets (o) M ho h) ?_
  refine r_aload_n dX2_load_4 rfl ?_
  refine r_getR (k := o) (q := (o + 4)) dX2_load_5 zf_X2_21 (zo_X2 ho) (zr_X2_1 ho).1 (zr_X2_1 ho).2.1 (zr_X2_1 ho).2.2 ?_
  refine r_getI (k := (o + 4)) dX2_load_8 zf_X2_100 (zo_X0 (zc_X2_1 ho)) (zi_X0_11 (zc_X2_1 ho)) ?_
  refine r_imul dX2_load_11 ?_
  refine r_istore_n (fun x1 => [some (.ref o), some (.int x1)]) dX2_load_12 (by decide) rfl (fun _ => rfl) (fun x1 ex1 => ?_)
  have h := zK_bd h ex1
  refine r_iload_n dX2_load_13 rfl ?_
  refine r_iconst (v := (nI 1)) dX2_load_14 (by decide) ?_
  refine r_icmp_ge 22 dX2_load_15 (by decide) (fun c2 => ?_) (fun c2 => ?_)
  · have h := zK_pos h c2
    refine r_bipush (v := (nI 100)) dX2_load_22 (by decide) ?_
    refine r_aload_n dX2_load_24 rfl ?_
    refine r_getR (k := o) (q := (o + 15)) dX2_load_25 zf_X2_28 (zo_X2 ho) (zr_X2_2 ho).1 (zr_X2_2 ho).2.1 (zr_X2_2 ho).2.2 ?_
    refine r_getI (k := (o + 15)) dX2_load_28 zf_X2_77 (zo_X5 (zc_X2_2 ho)) (zi_X5_1 (zc_X2_2 ho)) ?_
    refine r_imul dX2_load_31 ?_
    refine r_iload_n dX2_load_32 rfl ?_
    obtain ⟨g3, h⟩ := zK_gd h
    refine r_idiv dX2_load_33 g3 ?_
    exact r_iret dX2_load_34 rfl rfl rfl (kR ((((nI 100) * (M.1 (o + 15) 1)) / x1)) (zK_some h))
  · have h := zK_neg h c2
    refine r_iconst (v := (nI 0)) dX2_load_18 (by decide) ?_
    refine r_goto 34 dX2_load_19 (by decide) ?_
    exact r_iret dX2_load_34 rfl rfl rfl (kR ((nI 0)) (zK_some h))
set_option maxHeartbeats 4000000 in
set_option maxRecDepth 100000 in
theorem c_X2_load {G : zzG} {t : Nat} {Q : Option Value → zzMem → Prop} (o : Nat) (M : zzMem) (ho : zI_X2 t o) {P : Int32 → Prop} (h : zK (f_X2_load o M) P) (kR : ∀ r : Int32, P r → Q (some (.int r)) M) : zz_S G m_X2_load t t [.ref o] M Q :=
  zz_S_of (by decide) (by decide) (Nat.le_of_ble_eq_true rfl) (w_X2_load_0 o M ho h kR)
noncomputable def f_X2_address (a0 : Int32) (a1 : Int32) (a2 : Int32) : Option Int32 :=
  if (nI 1) ≤ a1 then
  (zgd (¬ a1 = 0) (
  zbd ((zrm a0 a1)) (fun x3 =>
  if a2 ≤ x3 then
  (some x3)
  else (zgd (¬ ((nI 2) * a1) = 0) (
  some ((zrm a0 ((nI 2) * a1))))))))
  else (some ((nI 0)))
set_option maxHeartbeats 4000000 in
set_option maxRecDepth 100000 in
theorem w_X2_address_0 {G : zzG} {t : Nat} {Q : Option Value → zzMem → Prop} (a0 : Int32) (a1 : Int32) (a2 : Int32) (M : zzMem)  {P : Int32 → Prop} (h : zK (f_X2_address a0 a1 a2) P) (kR : ∀ r : Int32, P r → Q (some (.int r)) M) : zz_W G m_X2_address t t t 0 [some (.int a0), some (.int a1), some (.int a2), none] [] M Q := by
  unfold f_X2_address at h
  refine r_iload_n dX2_address_0 rfl ?_
  refine r_iconst (v := (nI 1)) dX2_address_1 (by decide) ?_
  refine r_icmp_ge 7 dX2_address_2 (by decide) (fun c1 => ?_) (fun c1 => ?_)
  · have h := zK_pos h c1
    refine r_iload_n dX2_address_7 rfl ?_
    refine r_iload_n dX2_address_8 rfl ?_
    obtain ⟨g2, h⟩ := zK_gd h
    refine r_irem dX2_address_9 g2 ?_
    refine r_istore_n (fun x3 => [some (.int a0), some (.int a1), some (.int a2), some (.int x3)]) dX2_address_10 (by decide) rfl (fun _ => rfl) (fun x3 ex3 => ?_)
    have h := zK_bd h ex3
    refine r_iload_n dX2_address_11 rfl ?_
    refine r_iload_n dX2_address_12 rfl ?_
    refine r_icmp_ge 24 dX2_address_13 (by decide) (fun c4 => ?_) (fun c4 => ?_)
    · have h := zK_pos h c4
      refine r_iload_n dX2_address_24 rfl ?_
      exact r_iret dX2_address_25 rfl rfl rfl (kR (x3) (zK_some h))
    · have h := zK_neg h c4
      refine r_iload_n dX2_address_16 rfl ?_
      refine r_iconst (v := (nI 2)) dX2_address_17 (by decide) ?_
      refine r_iload_n dX2_address_18 rfl ?_
      refine r_imul dX2_address_19 ?_
      obtain ⟨g5, h⟩ := zK_gd h
      refine r_irem dX2_address_20 g5 ?_
      refine r_goto 25 dX2_address_21 (by decide) ?_
      exact r_iret dX2_address_25 rfl rfl rfl (kR ((zrm a0 ((nI 2) * a1))) (zK_some h))
  · have h := zK_neg h c1
    refine r_iconst (v := (nI 0)) dX2_address_5 (by decide) ?_
    exact r_iret dX2_address_6 rfl rfl rfl (kR ((nI 0)) (zK_some h))
set_option maxHeartbeats 4000000 in
set_option maxRecDepth 100000 in
theorem c_X2_address {G : zzG} {t : Nat} {Q : Option Value → zzMem → Prop} (a0 : Int32) (a1 : Int32) (a2 : Int32) (M : zzMem)  {P : Int32 → Prop} (h : zK (f_X2_address a0 a1 a2) P) (kR : ∀ r : Int32, P r → Q (some (.int r)) M) : zz_S G m_X2_address t t [.int a0, .int a1, .int a2] M Q :=
  zz_S_of (by decide) (by decide) (Nat.le_of_ble_eq_true rfl) (w_X2_address_0 a0 a1 a2 M  h kR)
noncomputable def f_X2_addressOf (o : Nat) (a1 : Int32) (M : zzMem) : Option Int32 :=
  (f_X2_address a1 (f_X2_span o M) (M.1 o 9)).bind (fun r1 =>
  some r1)
set_option maxHeartbeats 4000000 in
set_option maxRecDepth 100000 in
theorem w_X2_addressOf_0 {G : zzG} {t : Nat} {Q : Option Value → zzMem → Prop} (o : Nat) (a1 : Int32) (M : zzMem) (ho : zI_X2 t o) {P : Int32 → Prop} (h : zK (f_X2_addressOf o a1 M) P) (kR : ∀ r : Int32, P r → Q (some (.int r)) M) : zz_W G m_X2_addressOf t t t 0 [some (.ref o), some (.int a1)] [] M Q := by
  unfold f_X2_addressOf at h
  refine r_iload_n dX2_addressOf_0 rfl ?_
  refine r_aload_n dX2_addressOf_1 rfl ?_
  refine tV_ir (v := f_X2_span o M) (as := []) (st := [.int a1]) (k := o) dX2_addressOf_2 zM_X2_span zk_X2_103 (zo_X2 ho) (by decide) rfl ⟨Nat.le_of_ble_eq_true rfl, Nat.le_of_ble_eq_true rfl⟩ (Nat.le_of_ble_eq_true rfl) (zz_T0 rfl rfl) (fun Q' h => c_X2_span (o) M ho h) ?_
  refine r_aload_n dX2_addressOf_5 rfl ?_
  refine r_getI (k := o) dX2_addressOf_6 zf_X2_55 (zo_X2 ho) (zi_X2_9 ho) ?_
  refine kS_ir (as := [.int a1, .int (f_X2_span o M), .int (M.1 o 9)]) (st := []) dX2_addressOf_9 zM_X2_address zk_X2_106 ⟨Nat.le_of_ble_eq_true rfl, Nat.le_of_ble_eq_true rfl⟩ (Nat.le_of_ble_eq_true rfl) (zz_T0 rfl rfl) (fun Q' P' k h => c_X2_address (a1) ((f_X2_span o M)) ((M.1 o 9)) M h k) h (fun r1 h => ?_)
  exact r_iret dX2_addressOf_12 rfl rfl rfl (kR (r1) (zK_some h))
set_option maxHeartbeats 4000000 in
set_option maxRecDepth 100000 in
theorem c_X2_addressOf {G : zzG} {t : Nat} {Q : Option Value → zzMem → Prop} (o : Nat) (a1 : Int32) (M : zzMem) (ho : zI_X2 t o) {P : Int32 → Prop} (h : zK (f_X2_addressOf o a1 M) P) (kR : ∀ r : Int32, P r → Q (some (.int r)) M) : zz_S G m_X2_addressOf t t [.ref o, .int a1] M Q :=
  zz_S_of (by decide) (by decide) (Nat.le_of_ble_eq_true rfl) (w_X2_addressOf_0 o a1 M ho h kR)
noncomputable def b_X2_spanAmong_7 (o : Nat) (v1 : Int32) (v2 : Int32) (v3 : Int32) (M : zzMem) : Option ((Int32 × Int32) ⊕ Int32) :=
  if (nI 64) ≤ v3 then
  (some ((.inr v2)))
  else (if v1 < (v2 * (nI 2)) then
  (some ((.inr v2)))
  else (zbd ((v2 * (nI 2))) (fun x3 =>
  zbd (v3 + (nI 1)) (fun x4 =>
  some (.inl (x3, x4))))))
set_option maxHeartbeats 4000000 in
set_option maxRecDepth 100000 in
theorem x_X2_spanAmong_7 {G : zzG} {t : Nat} {Q : Option Value → zzMem → Prop} (o : Nat) (v1 : Int32) (v2 : Int32) (v3 : Int32) (M : zzMem) (ho : zI_X2 t o) {P : ((Int32 × Int32) ⊕ Int32) → Prop} (h : zK (b_X2_spanAmong_7 o v1 v2 v3 M) P) (k7 : ∀ s : (Int32 × Int32), P (.inl s) → zz_W G m_X2_spanAmong t t t 7 [none, some (.int v1), some (.int s.1), some (.int s.2)] [] M Q) (kR : ∀ r : Int32, P (.inr r) → Q (some (.int r)) M) : zz_W G m_X2_spanAmong t t t 7 [none, some (.int v1), some (.int v2), some (.int v3)] [] M Q := by
  unfold b_X2_spanAmong_7 at h
  refine r_iload_n dX2_spanAmong_7 rfl ?_
  refine r_bipush (v := (nI 64)) dX2_spanAmong_8 (by decide) ?_
  refine r_icmp_ge 30 dX2_spanAmong_10 (by decide) (fun c1 => ?_) (fun c1 => ?_)
  · have h := zK_pos h c1
    refine r_iload_n dX2_spanAmong_30 rfl ?_
    exact r_iret dX2_spanAmong_31 rfl rfl rfl (kR (v2) (zK_some h))
  · have h := zK_neg h c1
    refine r_iload_n dX2_spanAmong_13 rfl ?_
    refine r_iconst (v := (nI 2)) dX2_spanAmong_14 (by decide) ?_
    refine r_imul dX2_spanAmong_15 ?_
    refine r_iload_n dX2_spanAmong_16 rfl ?_
    refine r_icmp_gt 30 dX2_spanAmong_17 (by decide) (fun c2 => ?_) (fun c2 => ?_)
    · have h := zK_pos h c2
      refine r_iload_n dX2_spanAmong_30 rfl ?_
      exact r_iret dX2_spanAmong_31 rfl rfl rfl (kR (v2) (zK_some h))
    · have h := zK_neg h c2
      refine r_iload_n dX2_spanAmong_20 rfl ?_
      refine r_iconst (v := (nI 2)) dX2_spanAmong_21 (by decide) ?_
      refine r_imul dX2_spanAmong_22 ?_
      refine r_istore_n (fun x3 => [none, some (.int v1), some (.int x3), some (.int v3)]) dX2_spanAmong_23 (by decide) rfl (fun _ => rfl) (fun x3 ex3 => ?_)
      have h := zK_bd h ex3
      refine r_iinc (nI 1) (fun x4 => [none, some (.int v1), some (.int x3), some (.int x4)]) dX2_spanAmong_24 rfl (by decide) (by decide) rfl (fun _ => rfl) (fun x4 ex4 => ?_)
      have h := zK_bd h ex4
      refine r_goto 7 dX2_spanAmong_27 (by decide) ?_
      exact k7 ((x3, x4)) (zK_some h)
noncomputable def j_X2_spanAmong_7 (o : Nat) (v1 : Int32) (v2 : Int32) (v3 : Int32) (M : zzMem) : Option Int32 :=
  zlp (fun s : (Int32 × Int32) => b_X2_spanAmong_7 o v1 s.1 s.2 M) (v2, v3)
set_option maxHeartbeats 4000000 in
set_option maxRecDepth 100000 in
theorem w_X2_spanAmong_7 {G : zzG} {t : Nat} {Q : Option Value → zzMem → Prop} (o : Nat) (v1 : Int32) (v2 : Int32) (v3 : Int32) (M : zzMem) (ho : zI_X2 t o) {P : Int32 → Prop} (h : zK (j_X2_spanAmong_7 o v1 v2 v3 M) P) (kR : ∀ r : Int32, P r → Q (some (.int r)) M) : zz_W G m_X2_spanAmong t t t 7 [none, some (.int v1), some (.int v2), some (.int v3)] [] M Q := by
  unfold j_X2_spanAmong_7 at h
  exact zK_lp h (fun s : (Int32 × Int32) => zz_W G m_X2_spanAmong t t t 7 [none, some (.int v1), some (.int s.1), some (.int s.2)] [] M Q) (fun s h => x_X2_spanAmong_7 o v1 s.1 s.2 M ho h (fun s p => p) kR)
noncomputable def f_X2_spanAmong (o : Nat) (a1 : Int32) (M : zzMem) : Option Int32 :=
  zbd ((M.1 o 4)) (fun x1 =>
  j_X2_spanAmong_7 o a1 x1 (nI 0) M)
set_option maxHeartbeats 4000000 in
set_option maxRecDepth 100000 in
theorem w_X2_spanAmong_0 {G : zzG} {t : Nat} {Q : Option Value → zzMem → Prop} (o : Nat) (a1 : Int32) (M : zzMem) (ho : zI_X2 t o) {P : Int32 → Prop} (h : zK (f_X2_spanAmong o a1 M) P) (kR : ∀ r : Int32, P r → Q (some (.int r)) M) : zz_W G m_X2_spanAmong t t t 0 [some (.ref o), some (.int a1), none, none] [] M Q := by
  unfold f_X2_spanAmong at h
  refine r_aload_n dX2_spanAmong_0 rfl ?_
  refine r_getI (k := o) dX2_spanAmong_1 zf_X2_39 (zo_X2 ho) (zi_X2_4 ho) ?_
  refine r_istore_n (fun x1 => [some (.ref o), some (.int a1), some (.int x1), none]) dX2_spanAmong_4 (by decide) rfl (fun _ => rfl) (fun x1 ex1 => ?_)
  have h := zK_bd h ex1
  refine r_iconst (v := (nI 0)) dX2_spanAmong_5 (by decide) ?_
  refine s_istore_n ([some (.ref o), some (.int a1), some (.int x1), some (.int (nI 0))]) dX2_spanAmong_6 (by decide) rfl rfl ?_
  refine zz_mask [0] ?_
  exact w_X2_spanAmong_7 (o) (a1) (x1) ((nI 0)) M ho h kR
set_option maxHeartbeats 4000000 in
set_option maxRecDepth 100000 in
theorem c_X2_spanAmong {G : zzG} {t : Nat} {Q : Option Value → zzMem → Prop} (o : Nat) (a1 : Int32) (M : zzMem) (ho : zI_X2 t o) {P : Int32 → Prop} (h : zK (f_X2_spanAmong o a1 M) P) (kR : ∀ r : Int32, P r → Q (some (.int r)) M) : zz_S G m_X2_spanAmong t t [.ref o, .int a1] M Q :=
  zz_S_of (by decide) (by decide) (Nat.le_of_ble_eq_true rfl) (w_X2_spanAmong_0 o a1 M ho h kR)
noncomputable def f_X2_addressAmong (o : Nat) (a1 : Int32) (a2 : Int32) (M : zzMem) : Option Int32 :=
  (f_X2_spanAmong o a2 M).bind (fun r1 =>
  (f_X2_address a1 r1 (a2 - r1)).bind (fun r2 =>
  some r2))
set_option maxHeartbeats 4000000 in
set_option maxRecDepth 100000 in
theorem w_X2_addressAmong_0 {G : zzG} {t : Nat} {Q : Option Value → zzMem → Prop} (o : Nat) (a1 : Int32) (a2 : Int32) (M : zzMem) (ho : zI_X2 t o) {P : Int32 → Prop} (h : zK (f_X2_addressAmong o a1 a2 M) P) (kR : ∀ r : Int32, P r → Q (some (.int r)) M) : zz_W G m_X2_addressAmong t t t 0 [some (.ref o), some (.int a1), some (.int a2), none] [] M Q := by
  unfold f_X2_addressAmong at h
  refine r_aload_n dX2_addressAmong_0 rfl ?_
  refine r_iload_n dX2_addressAmong_1 rfl ?_
  refine kV_ir (as := [.int a2]) (st := []) (k := o) dX2_addressAmong_2 zM_X2_spanAmong zk_X2_110 (zo_X2 ho) (by decide) rfl ⟨Nat.le_of_ble_eq_true rfl, Nat.le_of_ble_eq_true rfl⟩ (Nat.le_of_ble_eq_true rfl) (zz_T0 rfl rfl) (fun Q' P' k h => c_X2_spanAmong (o) (a2) M ho h k) h (fun r1 h => ?_)
  refine s_istore_n ([some (.ref o), some (.int a1), some (.int a2), some (.int r1)]) dX2_addressAmong_5 (by decide) rfl rfl ?_
  refine r_iload_n dX2_addressAmong_6 rfl ?_
  refine r_iload_n dX2_addressAmong_7 rfl ?_
  refine r_iload_n dX2_addressAmong_8 rfl ?_
  refine r_iload_n dX2_addressAmong_9 rfl ?_
  refine r_isub dX2_addressAmong_10 ?_
  refine kS_ir (as := [.int a1, .int r1, .int (a2 - r1)]) (st := []) dX2_addressAmong_11 zM_X2_address zk_X2_106 ⟨Nat.le_of_ble_eq_true rfl, Nat.le_of_ble_eq_true rfl⟩ (Nat.le_of_ble_eq_true rfl) (zz_T0 rfl rfl) (fun Q' P' k h => c_X2_address (a1) (r1) ((a2 - r1)) M h k) h (fun r2 h => ?_)
  exact r_iret dX2_addressAmong_14 rfl rfl rfl (kR (r2) (zK_some h))
set_option maxHeartbeats 4000000 in
set_option maxRecDepth 100000 in
theorem c_X2_addressAmong {G : zzG} {t : Nat} {Q : Option Value → zzMem → Prop} (o : Nat) (a1 : Int32) (a2 : Int32) (M : zzMem) (ho : zI_X2 t o) {P : Int32 → Prop} (h : zK (f_X2_addressAmong o a1 a2 M) P) (kR : ∀ r : Int32, P r → Q (some (.int r)) M) : zz_S G m_X2_addressAmong t t [.ref o, .int a1, .int a2] M Q :=
  zz_S_of (by decide) (by decide) (Nat.le_of_ble_eq_true rfl) (w_X2_addressAmong_0 o a1 a2 M ho h kR)
noncomputable def f_X9_reversed (a0 : Int32) : Int32 :=
  zbd ((((a0 &&& (nI 21845)) <<< ((nI 1) &&& 31)) ||| ((a0 >>> ((nI 1) &&& 31)) &&& (nI 21845)))) (fun x1 =>
  zbd ((((x1 &&& (nI 13107)) <<< ((nI 2) &&& 31)) ||| ((x1 >>> ((nI 2) &&& 31)) &&& (nI 13107)))) (fun x2 =>
  zbd ((((x2 &&& (nI 3855)) <<< ((nI 4) &&& 31)) ||| ((x2 >>> ((nI 4) &&& 31)) &&& (nI 3855)))) (fun x3 =>
  (((x3 &&& (nI 255)) <<< ((nI 8) &&& 31)) ||| ((x3 >>> ((nI 8) &&& 31)) &&& (nI 255))))))
set_option maxHeartbeats 4000000 in
set_option maxRecDepth 100000 in
theorem w_X9_reversed_0 {G : zzG} {t : Nat} {Q : Option Value → zzMem → Prop} (a0 : Int32) (M : zzMem)  {P : Int32 → Prop} (h : P (f_X9_reversed a0)) (kR : ∀ r : Int32, P r → Q (some (.int r)) M) : zz_W G m_X9_reversed t t t 0 [some (.int a0), none] [] M Q := by
  unfold f_X9_reversed at h
  refine r_iload_n dX9_reversed_0 rfl ?_
  refine r_sipush (v := (nI 21845)) dX9_reversed_1 (by decide) ?_
  refine r_iand dX9_reversed_4 ?_
  refine r_iconst (v := (nI 1)) dX9_reversed_5 (by decide) ?_
  refine r_ishl dX9_reversed_6 ?_
  refine r_iload_n dX9_reversed_7 rfl ?_
  refine r_iconst (v := (nI 1)) dX9_reversed_8 (by decide) ?_
  refine r_ishr dX9_reversed_9 ?_
  refine r_sipush (v := (nI 21845)) dX9_reversed_10 (by decide) ?_
  refine r_iand dX9_reversed_13 ?_
  refine r_ior dX9_reversed_14 ?_
  refine r_istore_n (fun x1 => [some (.int a0), some (.int x1)]) dX9_reversed_15 (by decide) rfl (fun _ => rfl) (fun x1 ex1 => ?_)
  have h := zP_bd h ex1
  refine r_iload_n dX9_reversed_16 rfl ?_
  refine r_sipush (v := (nI 13107)) dX9_reversed_17 (by decide) ?_
  refine r_iand dX9_reversed_20 ?_
  refine r_iconst (v := (nI 2)) dX9_reversed_21 (by decide) ?_
  refine r_ishl dX9_reversed_22 ?_
  refine r_iload_n dX9_reversed_23 rfl ?_
  refine r_iconst (v := (nI 2)) dX9_reversed_24 (by decide) ?_
  refine r_ishr dX9_reversed_25 ?_
  refine r_sipush (v := (nI 13107)) dX9_reversed_26 (by decide) ?_
  refine r_iand dX9_reversed_29 ?_
  refine r_ior dX9_reversed_30 ?_
  refine r_istore_n (fun x2 => [some (.int a0), some (.int x2)]) dX9_reversed_31 (by decide) rfl (fun _ => rfl) (fun x2 ex2 => ?_)
  have h := zP_bd h ex2
  refine r_iload_n dX9_reversed_32 rfl ?_
  refine r_sipush (v := (nI 3855)) dX9_reversed_33 (by decide) ?_
  refine r_iand dX9_reversed_36 ?_
  refine r_iconst (v := (nI 4)) dX9_reversed_37 (by decide) ?_
  refine r_ishl dX9_reversed_38 ?_
  refine r_iload_n dX9_reversed_39 rfl ?_
  refine r_iconst (v := (nI 4)) dX9_reversed_40 (by decide) ?_
  refine r_ishr dX9_reversed_41 ?_
  refine r_sipush (v := (nI 3855)) dX9_reversed_42 (by decide) ?_
  refine r_iand dX9_reversed_45 ?_
  refine r_ior dX9_reversed_46 ?_
  refine r_istore_n (fun x3 => [some (.int a0), some (.int x3)]) dX9_reversed_47 (by decide) rfl (fun _ => rfl) (fun x3 ex3 => ?_)
  have h := zP_bd h ex3
  refine r_iload_n dX9_reversed_48 rfl ?_
  refine r_sipush (v := (nI 255)) dX9_reversed_49 (by decide) ?_
  refine r_iand dX9_reversed_52 ?_
  refine r_bipush (v := (nI 8)) dX9_reversed_53 (by decide) ?_
  refine r_ishl dX9_reversed_55 ?_
  refine r_iload_n dX9_reversed_56 rfl ?_
  refine r_bipush (v := (nI 8)) dX9_reversed_57 (by decide) ?_
  refine r_ishr dX9_reversed_59 ?_
  refine r_sipush (v := (nI 255)) dX9_reversed_60 (by decide) ?_
  refine r_iand dX9_reversed_63 ?_
  refine r_ior dX9_reversed_64 ?_
  exact r_iret dX9_reversed_65 rfl rfl rfl (kR ((((x3 &&& (nI 255)) <<< ((nI 8) &&& 31)) ||| ((x3 >>> ((nI 8) &&& 31)) &&& (nI 255)))) h)
set_option maxHeartbeats 4000000 in
set_option maxRecDepth 100000 in
theorem c_X9_reversed {G : zzG} {t : Nat} {Q : Option Value → zzMem → Prop} (a0 : Int32) (M : zzMem)  (h : Q (some (.int (f_X9_reversed a0))) M) : zz_S G m_X9_reversed t t [.int a0] M Q :=
  zz_S_of (by decide) (by decide) (Nat.le_of_ble_eq_true rfl) (w_X9_reversed_0 a0 M  (P := fun r => Q (some (.int r)) M) h (fun r p => p))
noncomputable def f_X5_hashAt (o : Nat) (a1 : Int32) (a2 : Int32) (M : zzMem) : Option Int32 :=
  if a1 < 0 then
  (some ((nI 0)))
  else (if a1 < (M.1 o 1) then
  (zgd (vp_in a1 300) (
  zbd ((M.2 (o + 1) (a1).toNatClampNeg)) (fun x4 =>
  some ((((f_X9_reversed ((((x4 >>> (((nI 16)).toInt64 &&& 63)) &&& (65535 : Int64))).toInt32)) * a2) + (((x4 >>> (((nI 32)).toInt64 &&& 63))).toInt32))))))
  else (some ((nI 0))))
set_option maxHeartbeats 4000000 in
set_option maxRecDepth 100000 in
theorem w_X5_hashAt_0 {G : zzG} {t : Nat} {Q : Option Value → zzMem → Prop} (o : Nat) (a1 : Int32) (a2 : Int32) (M : zzMem) (ho : zI_X5 t o) {P : Int32 → Prop} (h : zK (f_X5_hashAt o a1 a2 M) P) (kR : ∀ r : Int32, P r → Q (some (.int r)) M) : zz_W G m_X5_hashAt t t t 0 [some (.ref o), some (.int a1), some (.int a2), none, none] [] M Q := by
  unfold f_X5_hashAt at h
  refine r_iload_n dX5_hashAt_0 rfl ?_
  refine r_if_lt 12 dX5_hashAt_1 (by decide) (fun c1 => ?_) (fun c1 => ?_)
  · have h := zK_pos h c1
    refine r_iconst (v := (nI 0)) dX5_hashAt_12 (by decide) ?_
    exact r_iret dX5_hashAt_13 rfl rfl rfl (kR ((nI 0)) (zK_some h))
  · have h := zK_neg h c1
    refine r_iload_n dX5_hashAt_4 rfl ?_
    refine r_aload_n dX5_hashAt_5 rfl ?_
    refine r_getI (k := o) dX5_hashAt_6 zf_X5_15 (zo_X5 ho) (zi_X5_1 ho) ?_
    refine r_icmp_lt 14 dX5_hashAt_9 (by decide) (fun c2 => ?_) (fun c2 => ?_)
    · have h := zK_pos h c2
      refine r_aload_n dX5_hashAt_14 rfl ?_
      refine r_getR (k := o) (q := (o + 1)) dX5_hashAt_15 zf_X5_9 (zo_X5 ho) (zr_X5_0 ho).1 (zr_X5_0 ho).2.1 (zr_X5_0 ho).2.2 ?_
      refine r_iload_n dX5_hashAt_18 rfl ?_
      obtain ⟨g3, h⟩ := zK_gd h
      refine r_lald dX5_hashAt_19 (za_X5_0 ho) g3 ?_
      refine r_lstore_n (fun x4 => [some (.ref o), some (.int a1), some (.int a2), some (.long x4), none]) dX5_hashAt_20 (by decide) rfl (fun _ => rfl) (fun x4 ex4 => ?_)
      have h := zK_bd h ex4
      refine r_lload_n dX5_hashAt_21 rfl ?_
      refine r_bipush (v := (nI 16)) dX5_hashAt_22 (by decide) ?_
      refine r_lshr dX5_hashAt_24 ?_
      refine r_ldc2 (v := (65535 : Int64)) dX5_hashAt_25 zd_X5_33 ?_
      refine r_land dX5_hashAt_28 ?_
      refine r_l2i dX5_hashAt_29 ?_
      refine tN_ir (v := f_X9_reversed ((((x4 >>> (((nI 16)).toInt64 &&& 63)) &&& (65535 : Int64))).toInt32)) (as := [.int ((((x4 >>> (((nI 16)).toInt64 &&& 63)) &&& (65535 : Int64))).toInt32)]) (st := []) dX5_hashAt_30 zM_X9_reversed zk_X5_19 ⟨Nat.le_of_ble_eq_true rfl, Nat.le_of_ble_eq_true rfl⟩ (Nat.le_of_ble_eq_true rfl) (zz_T0 rfl rfl) (fun Q' h => c_X9_reversed (((((x4 >>> (((nI 16)).toInt64 &&& 63)) &&& (65535 : Int64))).toInt32)) M h) ?_
      refine r_iload_n dX5_hashAt_33 rfl ?_
      refine r_imul dX5_hashAt_34 ?_
      refine r_lload_n dX5_hashAt_35 rfl ?_
      refine r_bipush (v := (nI 32)) dX5_hashAt_36 (by decide) ?_
      refine r_lshr dX5_hashAt_38 ?_
      refine r_l2i dX5_hashAt_39 ?_
      refine r_iadd dX5_hashAt_40 ?_
      exact r_iret dX5_hashAt_41 rfl rfl rfl (kR ((((f_X9_reversed ((((x4 >>> (((nI 16)).toInt64 &&& 63)) &&& (65535 : Int64))).toInt32)) * a2) + (((x4 >>> (((nI 32)).toInt64 &&& 63))).toInt32))) (zK_some h))
    · have h := zK_neg h c2
      refine r_iconst (v := (nI 0)) dX5_hashAt_12 (by decide) ?_
      exact r_iret dX5_hashAt_13 rfl rfl rfl (kR ((nI 0)) (zK_some h))
set_option maxHeartbeats 4000000 in
set_option maxRecDepth 100000 in
theorem c_X5_hashAt {G : zzG} {t : Nat} {Q : Option Value → zzMem → Prop} (o : Nat) (a1 : Int32) (a2 : Int32) (M : zzMem) (ho : zI_X5 t o) {P : Int32 → Prop} (h : zK (f_X5_hashAt o a1 a2 M) P) (kR : ∀ r : Int32, P r → Q (some (.int r)) M) : zz_S G m_X5_hashAt t t [.ref o, .int a1, .int a2] M Q :=
  zz_S_of (by decide) (by decide) (Nat.le_of_ble_eq_true rfl) (w_X5_hashAt_0 o a1 a2 M ho h kR)
noncomputable def f_X2_hashAt (o : Nat) (a1 : Int32) (M : zzMem) : Option Int32 :=
  (f_X5_hashAt (o + 15) a1 (M.1 o 4) M).bind (fun r1 =>
  some r1)
set_option maxHeartbeats 4000000 in
set_option maxRecDepth 100000 in
theorem w_X2_hashAt_0 {G : zzG} {t : Nat} {Q : Option Value → zzMem → Prop} (o : Nat) (a1 : Int32) (M : zzMem) (ho : zI_X2 t o) {P : Int32 → Prop} (h : zK (f_X2_hashAt o a1 M) P) (kR : ∀ r : Int32, P r → Q (some (.int r)) M) : zz_W G m_X2_hashAt t t t 0 [some (.ref o), some (.int a1)] [] M Q := by
  unfold f_X2_hashAt at h
  refine r_aload_n dX2_hashAt_0 rfl ?_
  refine r_getR (k := o) (q := (o + 15)) dX2_hashAt_1 zf_X2_28 (zo_X2 ho) (zr_X2_2 ho).1 (zr_X2_2 ho).2.1 (zr_X2_2 ho).2.2 ?_
  refine r_iload_n dX2_hashAt_4 rfl ?_
  refine r_aload_n dX2_hashAt_5 rfl ?_
  refine r_getI (k := o) dX2_hashAt_6 zf_X2_39 (zo_X2 ho) (zi_X2_4 ho) ?_
  refine kV_ir (as := [.int a1, .int (M.1 o 4)]) (st := []) (k := (o + 15)) dX2_hashAt_9 zM_X5_hashAt zk_X2_114 (zo_X5 (zc_X2_2 ho)) (by decide) rfl ⟨Nat.le_of_ble_eq_true rfl, Nat.le_of_ble_eq_true rfl⟩ (Nat.le_of_ble_eq_true rfl) (zz_T0 rfl rfl) (fun Q' P' k h => c_X5_hashAt ((o + 15)) (a1) ((M.1 o 4)) M (zc_X2_2 ho) h k) h (fun r1 h => ?_)
  exact r_iret dX2_hashAt_12 rfl rfl rfl (kR (r1) (zK_some h))
set_option maxHeartbeats 4000000 in
set_option maxRecDepth 100000 in
theorem c_X2_hashAt {G : zzG} {t : Nat} {Q : Option Value → zzMem → Prop} (o : Nat) (a1 : Int32) (M : zzMem) (ho : zI_X2 t o) {P : Int32 → Prop} (h : zK (f_X2_hashAt o a1 M) P) (kR : ∀ r : Int32, P r → Q (some (.int r)) M) : zz_S G m_X2_hashAt t t [.ref o, .int a1] M Q :=
  zz_S_of (by decide) (by decide) (Nat.le_of_ble_eq_true rfl) (w_X2_hashAt_0 o a1 M ho h kR)
noncomputable def f_X5_codeOf (a0 : Int32) (a1 : Int32) (a2 : Int32) : Option Int64 :=
  if (nI 1) ≤ a2 then
  (zgd (¬ a2 = 0) (
  some ((((((zrm a1 a2)).toInt64 <<< (((nI 32)).toInt64 &&& 63)) ||| (((f_X9_reversed (a1 / a2))).toInt64 <<< (((nI 16)).toInt64 &&& 63))) ||| (a0).toInt64))))
  else (some ((a0).toInt64))
set_option maxHeartbeats 4000000 in
set_option maxRecDepth 100000 in
theorem w_X5_codeOf_0 {G : zzG} {t : Nat} {Q : Option Value → zzMem → Prop} (a0 : Int32) (a1 : Int32) (a2 : Int32) (M : zzMem)  {P : Int64 → Prop} (h : zK (f_X5_codeOf a0 a1 a2) P) (kR : ∀ r : Int64, P r → Q (some (.long r)) M) : zz_W G m_X5_codeOf t t t 0 [some (.int a0), some (.int a1), some (.int a2)] [] M Q := by
  unfold f_X5_codeOf at h
  refine r_iload_n dX5_codeOf_0 rfl ?_
  refine r_iconst (v := (nI 1)) dX5_codeOf_1 (by decide) ?_
  refine r_icmp_ge 10 dX5_codeOf_2 (by decide) (fun c1 => ?_) (fun c1 => ?_)
  · have h := zK_pos h c1
    refine r_iload_n dX5_codeOf_10 rfl ?_
    refine r_iload_n dX5_codeOf_11 rfl ?_
    obtain ⟨g2, h⟩ := zK_gd h
    refine r_irem dX5_codeOf_12 g2 ?_
    refine r_i2l dX5_codeOf_13 ?_
    refine r_bipush (v := (nI 32)) dX5_codeOf_14 (by decide) ?_
    refine r_lshl dX5_codeOf_16 ?_
    refine r_iload_n dX5_codeOf_17 rfl ?_
    refine r_iload_n dX5_codeOf_18 rfl ?_
    refine r_idiv dX5_codeOf_19 g2 ?_
    refine tN_ir (v := f_X9_reversed (a1 / a2)) (as := [.int (a1 / a2)]) (st := [.long (((zrm a1 a2)).toInt64 <<< (((nI 32)).toInt64 &&& 63))]) dX5_codeOf_20 zM_X9_reversed zk_X5_19 ⟨Nat.le_of_ble_eq_true rfl, Nat.le_of_ble_eq_true rfl⟩ (Nat.le_of_ble_eq_true rfl) (zz_T0 rfl rfl) (fun Q' h => c_X9_reversed ((a1 / a2)) M h) ?_
    refine r_i2l dX5_codeOf_23 ?_
    refine r_bipush (v := (nI 16)) dX5_codeOf_24 (by decide) ?_
    refine r_lshl dX5_codeOf_26 ?_
    refine r_lor dX5_codeOf_27 ?_
    refine r_iload_n dX5_codeOf_28 rfl ?_
    refine r_i2l dX5_codeOf_29 ?_
    refine r_lor dX5_codeOf_30 ?_
    exact r_lret dX5_codeOf_31 rfl rfl rfl (kR ((((((zrm a1 a2)).toInt64 <<< (((nI 32)).toInt64 &&& 63)) ||| (((f_X9_reversed (a1 / a2))).toInt64 <<< (((nI 16)).toInt64 &&& 63))) ||| (a0).toInt64)) (zK_some h))
  · have h := zK_neg h c1
    refine r_iload_n dX5_codeOf_5 rfl ?_
    refine r_i2l dX5_codeOf_6 ?_
    refine r_goto 31 dX5_codeOf_7 (by decide) ?_
    exact r_lret dX5_codeOf_31 rfl rfl rfl (kR ((a0).toInt64) (zK_some h))
set_option maxHeartbeats 4000000 in
set_option maxRecDepth 100000 in
theorem c_X5_codeOf {G : zzG} {t : Nat} {Q : Option Value → zzMem → Prop} (a0 : Int32) (a1 : Int32) (a2 : Int32) (M : zzMem)  {P : Int64 → Prop} (h : zK (f_X5_codeOf a0 a1 a2) P) (kR : ∀ r : Int64, P r → Q (some (.long r)) M) : zz_S G m_X5_codeOf t t [.int a0, .int a1, .int a2] M Q :=
  zz_S_of (by decide) (by decide) (Nat.le_of_ble_eq_true rfl) (w_X5_codeOf_0 a0 a1 a2 M  h kR)
noncomputable def b_X5_placeFrom_11 (o : Nat) (v1 : Int64) (v3 : Int32) (v4 : Int32) (v5 : Int32) (M : zzMem) : Option ((Int32 × Int32 × Int32) ⊕ Int32) :=
  if (nI 300) ≤ v5 then
  (some ((.inr v3)))
  else (if v4 ≤ v3 then
  (some ((.inr v3)))
  else (zbd (((v3 + v4) / (nI 2))) (fun x3 =>
  zgd (vp_in x3 300) (
  if 0 ≤ (lg_cmp (M.2 (o + 1) (x3).toNatClampNeg) v1) then
  (zbd (v5 + (nI 1)) (fun x6 =>
  some (.inl (v3, x3, x6))))
  else (zbd ((x3 + (nI 1))) (fun x7 =>
  zbd (v5 + (nI 1)) (fun x8 =>
  some (.inl (x7, v4, x8)))))))))
set_option maxHeartbeats 4000000 in
set_option maxRecDepth 100000 in
theorem x_X5_placeFrom_11 {G : zzG} {t : Nat} {Q : Option Value → zzMem → Prop} (o : Nat) (v1 : Int64) (v3 : Int32) (v4 : Int32) (v5 : Int32) (M : zzMem) (ho : zI_X5 t o) {P : ((Int32 × Int32 × Int32) ⊕ Int32) → Prop} (h : zK (b_X5_placeFrom_11 o v1 v3 v4 v5 M) P) (k11 : ∀ s : (Int32 × Int32 × Int32), P (.inl s) → zz_W G m_X5_placeFrom t t t 11 [some (.ref o), some (.long v1), none, some (.int s.1), some (.int s.2.1), some (.int s.2.2), none] [] M Q) (kR : ∀ r : Int32, P (.inr r) → Q (some (.int r)) M) : zz_W G m_X5_placeFrom t t t 11 [some (.ref o), some (.long v1), none, some (.int v3), some (.int v4), some (.int v5), none] [] M Q := by
  unfold b_X5_placeFrom_11 at h
  refine r_iload dX5_placeFrom_11 rfl ?_
  refine r_sipush (v := (nI 300)) dX5_placeFrom_13 (by decide) ?_
  refine r_icmp_ge 63 dX5_placeFrom_16 (by decide) (fun c1 => ?_) (fun c1 => ?_)
  · have h := zK_pos h c1
    refine r_iload_n dX5_placeFrom_63 rfl ?_
    exact r_iret dX5_placeFrom_64 rfl rfl rfl (kR (v3) (zK_some h))
  · have h := zK_neg h c1
    refine r_iload_n dX5_placeFrom_19 rfl ?_
    refine r_iload dX5_placeFrom_20 rfl ?_
    refine r_icmp_ge 63 dX5_placeFrom_22 (by decide) (fun c2 => ?_) (fun c2 => ?_)
    · have h := zK_pos h c2
      refine r_iload_n dX5_placeFrom_63 rfl ?_
      exact r_iret dX5_placeFrom_64 rfl rfl rfl (kR (v3) (zK_some h))
    · have h := zK_neg h c2
      refine r_iload_n dX5_placeFrom_25 rfl ?_
      refine r_iload dX5_placeFrom_26 rfl ?_
      refine r_iadd dX5_placeFrom_28 ?_
      refine r_iconst (v := (nI 2)) dX5_placeFrom_29 (by decide) ?_
      refine r_idiv dX5_placeFrom_30 (by decide) ?_
      refine r_istore (fun x3 => [some (.ref o), some (.long v1), none, some (.int v3), some (.int v4), some (.int v5), some (.int x3)]) dX5_placeFrom_31 (by decide) rfl (fun _ => rfl) (fun x3 ex3 => ?_)
      have h := zK_bd h ex3
      refine r_aload_n dX5_placeFrom_33 rfl ?_
      refine r_getR (k := o) (q := (o + 1)) dX5_placeFrom_34 zf_X5_9 (zo_X5 ho) (zr_X5_0 ho).1 (zr_X5_0 ho).2.1 (zr_X5_0 ho).2.2 ?_
      refine r_iload dX5_placeFrom_37 rfl ?_
      obtain ⟨g4, h⟩ := zK_gd h
      refine r_lald dX5_placeFrom_39 (za_X5_0 ho) g4 ?_
      refine r_lload_n dX5_placeFrom_40 rfl ?_
      refine r_lcmp dX5_placeFrom_41 ?_
      refine r_if_ge 53 dX5_placeFrom_42 (by decide) (fun c5 => ?_) (fun c5 => ?_)
      · have h := zK_pos h c5
        refine r_iload dX5_placeFrom_53 rfl ?_
        refine s_istore ([some (.ref o), some (.long v1), none, some (.int v3), some (.int x3), some (.int v5), some (.int x3)]) dX5_placeFrom_55 (by decide) rfl rfl ?_
        refine r_iinc (nI 1) (fun x6 => [some (.ref o), some (.long v1), none, some (.int v3), some (.int x3), some (.int x6), some (.int x3)]) dX5_placeFrom_57 rfl (by decide) (by decide) rfl (fun _ => rfl) (fun x6 ex6 => ?_)
        have h := zK_bd h ex6
        refine r_goto 11 dX5_placeFrom_60 (by decide) ?_
        refine zz_mask [6] ?_
        exact k11 ((v3, x3, x6)) (zK_some h)
      · have h := zK_neg h c5
        refine r_iload dX5_placeFrom_45 rfl ?_
        refine r_iconst (v := (nI 1)) dX5_placeFrom_47 (by decide) ?_
        refine r_iadd dX5_placeFrom_48 ?_
        refine r_istore_n (fun x7 => [some (.ref o), some (.long v1), none, some (.int x7), some (.int v4), some (.int v5), some (.int x3)]) dX5_placeFrom_49 (by decide) rfl (fun _ => rfl) (fun x7 ex7 => ?_)
        have h := zK_bd h ex7
        refine r_goto 57 dX5_placeFrom_50 (by decide) ?_
        refine r_iinc (nI 1) (fun x8 => [some (.ref o), some (.long v1), none, some (.int x7), some (.int v4), some (.int x8), some (.int x3)]) dX5_placeFrom_57 rfl (by decide) (by decide) rfl (fun _ => rfl) (fun x8 ex8 => ?_)
        have h := zK_bd h ex8
        refine r_goto 11 dX5_placeFrom_60 (by decide) ?_
        refine zz_mask [6] ?_
        exact k11 ((x7, v4, x8)) (zK_some h)
noncomputable def j_X5_placeFrom_11 (o : Nat) (v1 : Int64) (v3 : Int32) (v4 : Int32) (v5 : Int32) (M : zzMem) : Option Int32 :=
  zlp (fun s : (Int32 × Int32 × Int32) => b_X5_placeFrom_11 o v1 s.1 s.2.1 s.2.2 M) (v3, v4, v5)
set_option maxHeartbeats 4000000 in
set_option maxRecDepth 100000 in
theorem w_X5_placeFrom_11 {G : zzG} {t : Nat} {Q : Option Value → zzMem → Prop} (o : Nat) (v1 : Int64) (v3 : Int32) (v4 : Int32) (v5 : Int32) (M : zzMem) (ho : zI_X5 t o) {P : Int32 → Prop} (h : zK (j_X5_placeFrom_11 o v1 v3 v4 v5 M) P) (kR : ∀ r : Int32, P r → Q (some (.int r)) M) : zz_W G m_X5_placeFrom t t t 11 [some (.ref o), some (.long v1), none, some (.int v3), some (.int v4), some (.int v5), none] [] M Q := by
  unfold j_X5_placeFrom_11 at h
  exact zK_lp h (fun s : (Int32 × Int32 × Int32) => zz_W G m_X5_placeFrom t t t 11 [some (.ref o), some (.long v1), none, some (.int s.1), some (.int s.2.1), some (.int s.2.2), none] [] M Q) (fun s h => x_X5_placeFrom_11 o v1 s.1 s.2.1 s.2.2 M ho h (fun s p => p) kR)
noncomputable def f_X5_placeFrom (o : Nat) (a1 : Int64) (M : zzMem) : Option Int32 :=
  zbd ((M.1 o 1)) (fun x1 =>
  j_X5_placeFrom_11 o a1 (nI 0) x1 (nI 0) M)
set_option maxHeartbeats 4000000 in
set_option maxRecDepth 100000 in
theorem w_X5_placeFrom_0 {G : zzG} {t : Nat} {Q : Option Value → zzMem → Prop} (o : Nat) (a1 : Int64) (M : zzMem) (ho : zI_X5 t o) {P : Int32 → Prop} (h : zK (f_X5_placeFrom o a1 M) P) (kR : ∀ r : Int32, P r → Q (some (.int r)) M) : zz_W G m_X5_placeFrom t t t 0 [some (.ref o), some (.long a1), none, none, none, none, none] [] M Q := by
  unfold f_X5_placeFrom at h
  refine r_iconst (v := (nI 0)) dX5_placeFrom_0 (by decide) ?_
  refine s_istore_n ([some (.ref o), some (.long a1), none, some (.int (nI 0)), none, none, none]) dX5_placeFrom_1 (by decide) rfl rfl ?_
  refine r_aload_n dX5_placeFrom_2 rfl ?_
  refine r_getI (k := o) dX5_placeFrom_3 zf_X5_15 (zo_X5 ho) (zi_X5_1 ho) ?_
  refine r_istore (fun x1 => [some (.ref o), some (.long a1), none, some (.int (nI 0)), some (.int x1), none, none]) dX5_placeFrom_6 (by decide) rfl (fun _ => rfl) (fun x1 ex1 => ?_)
  have h := zK_bd h ex1
  refine r_iconst (v := (nI 0)) dX5_placeFrom_8 (by decide) ?_
  refine s_istore ([some (.ref o), some (.long a1), none, some (.int (nI 0)), some (.int x1), some (.int (nI 0)), none]) dX5_placeFrom_9 (by decide) rfl rfl ?_
  exact w_X5_placeFrom_11 (o) (a1) ((nI 0)) (x1) ((nI 0)) M ho h kR
set_option maxHeartbeats 4000000 in
set_option maxRecDepth 100000 in
theorem c_X5_placeFrom {G : zzG} {t : Nat} {Q : Option Value → zzMem → Prop} (o : Nat) (a1 : Int64) (M : zzMem) (ho : zI_X5 t o) {P : Int32 → Prop} (h : zK (f_X5_placeFrom o a1 M) P) (kR : ∀ r : Int32, P r → Q (some (.int r)) M) : zz_S G m_X5_placeFrom t t [.ref o, .long a1] M Q :=
  zz_S_of (by decide) (by decide) (Nat.le_of_ble_eq_true rfl) (w_X5_placeFrom_0 o a1 M ho h kR)
noncomputable def f_X5_has (o : Nat) (a1 : Int64) (M : zzMem) : Option Bool :=
  (f_X5_placeFrom o a1 M).bind (fun r1 =>
  if (M.1 o 1) ≤ r1 then
  (some false)
  else (zgd (vp_in r1 300) (
  if (lg_cmp (M.2 (o + 1) (r1).toNatClampNeg) a1) = 0 then
  (some true)
  else (some false))))
set_option maxHeartbeats 4000000 in
set_option maxRecDepth 100000 in
theorem w_X5_has_0 {G : zzG} {t : Nat} {Q : Option Value → zzMem → Prop} (o : Nat) (a1 : Int64) (M : zzMem) (ho : zI_X5 t o) {P : Bool → Prop} (h : zK (f_X5_has o a1 M) P) (kR : ∀ r : Bool, P r → Q (some (.int (zb r))) M) : zz_W G m_X5_has t t t 0 [some (.ref o), some (.long a1), none, none] [] M Q := by
  unfold f_X5_has at h
  refine r_aload_n dX5_has_0 rfl ?_
  refine r_lload_n dX5_has_1 rfl ?_
  refine kV_ir (as := [.long a1]) (st := []) (k := o) dX5_has_2 zM_X5_placeFrom zk_X5_29 (zo_X5 ho) (by decide) rfl ⟨Nat.le_of_ble_eq_true rfl, Nat.le_of_ble_eq_true rfl⟩ (Nat.le_of_ble_eq_true rfl) (zz_T0 rfl rfl) (fun Q' P' k h => c_X5_placeFrom (o) (a1) M ho h k) h (fun r1 h => ?_)
  refine s_istore_n ([some (.ref o), some (.long a1), none, some (.int r1)]) dX5_has_5 (by decide) rfl rfl ?_
  refine r_iload_n dX5_has_6 rfl ?_
  refine r_aload_n dX5_has_7 rfl ?_
  refine r_getI (k := o) dX5_has_8 zf_X5_15 (zo_X5 ho) (zi_X5_1 ho) ?_
  refine r_icmp_ge 29 dX5_has_11 (by decide) (fun c2 => ?_) (fun c2 => ?_)
  · have h := zK_pos h c2
    refine r_iconst (v := (nI 0)) dX5_has_29 (by decide) ?_
    exact r_zret (b := false) dX5_has_30 rfl rfl rfl (kR (false) (zK_some h))
  · have h := zK_neg h c2
    refine r_aload_n dX5_has_14 rfl ?_
    refine r_getR (k := o) (q := (o + 1)) dX5_has_15 zf_X5_9 (zo_X5 ho) (zr_X5_0 ho).1 (zr_X5_0 ho).2.1 (zr_X5_0 ho).2.2 ?_
    refine r_iload_n dX5_has_18 rfl ?_
    obtain ⟨g3, h⟩ := zK_gd h
    refine r_lald dX5_has_19 (za_X5_0 ho) g3 ?_
    refine r_lload_n dX5_has_20 rfl ?_
    refine r_lcmp dX5_has_21 ?_
    refine r_if_ne 29 dX5_has_22 (by decide) (fun c4 => ?_) (fun c4 => ?_)
    · have h := zK_neg h c4
      refine r_iconst (v := (nI 0)) dX5_has_29 (by decide) ?_
      exact r_zret (b := false) dX5_has_30 rfl rfl rfl (kR (false) (zK_some h))
    · have h := zK_pos h c4
      refine r_iconst (v := (nI 1)) dX5_has_25 (by decide) ?_
      refine r_goto 30 dX5_has_26 (by decide) ?_
      exact r_zret (b := true) dX5_has_30 rfl rfl rfl (kR (true) (zK_some h))
set_option maxHeartbeats 4000000 in
set_option maxRecDepth 100000 in
theorem c_X5_has {G : zzG} {t : Nat} {Q : Option Value → zzMem → Prop} (o : Nat) (a1 : Int64) (M : zzMem) (ho : zI_X5 t o) {P : Bool → Prop} (h : zK (f_X5_has o a1 M) P) (kR : ∀ r : Bool, P r → Q (some (.int (zb r))) M) : zz_S G m_X5_has t t [.ref o, .long a1] M Q :=
  zz_S_of (by decide) (by decide) (Nat.le_of_ble_eq_true rfl) (w_X5_has_0 o a1 M ho h kR)
noncomputable def f_X2_holds (o : Nat) (a1 : Int32) (a2 : Int32) (M : zzMem) : Option Bool :=
  (f_X5_codeOf a1 a2 (M.1 o 4)).bind (fun r1 =>
  (f_X5_has (o + 15) r1 M).bind (fun r2 =>
  some r2))
set_option maxHeartbeats 4000000 in
set_option maxRecDepth 100000 in
theorem w_X2_holds_0 {G : zzG} {t : Nat} {Q : Option Value → zzMem → Prop} (o : Nat) (a1 : Int32) (a2 : Int32) (M : zzMem) (ho : zI_X2 t o) {P : Bool → Prop} (h : zK (f_X2_holds o a1 a2 M) P) (kR : ∀ r : Bool, P r → Q (some (.int (zb r))) M) : zz_W G m_X2_holds t t t 0 [some (.ref o), some (.int a1), some (.int a2)] [] M Q := by
  unfold f_X2_holds at h
  refine r_aload_n dX2_holds_0 rfl ?_
  refine r_getR (k := o) (q := (o + 15)) dX2_holds_1 zf_X2_28 (zo_X2 ho) (zr_X2_2 ho).1 (zr_X2_2 ho).2.1 (zr_X2_2 ho).2.2 ?_
  refine r_iload_n dX2_holds_4 rfl ?_
  refine r_iload_n dX2_holds_5 rfl ?_
  refine r_aload_n dX2_holds_6 rfl ?_
  refine r_getI (k := o) dX2_holds_7 zf_X2_39 (zo_X2 ho) (zi_X2_4 ho) ?_
  refine kS_lr (as := [.int a1, .int a2, .int (M.1 o 4)]) (st := [.ref (o + 15)]) dX2_holds_10 zM_X5_codeOf zk_X2_118 ⟨Nat.le_of_ble_eq_true rfl, Nat.le_of_ble_eq_true rfl⟩ (Nat.le_of_ble_eq_true rfl) (zz_T0 rfl rfl) (fun Q' P' k h => c_X5_codeOf (a1) (a2) ((M.1 o 4)) M h k) h (fun r1 h => ?_)
  refine kV_zr (as := [.long r1]) (st := []) (k := (o + 15)) dX2_holds_13 zM_X5_has zk_X2_122 (zo_X5 (zc_X2_2 ho)) (by decide) rfl ⟨Nat.le_of_ble_eq_true rfl, Nat.le_of_ble_eq_true rfl⟩ (Nat.le_of_ble_eq_true rfl) (zz_T0 rfl rfl) (fun Q' P' k h => c_X5_has ((o + 15)) (r1) M (zc_X2_2 ho) h k) h (fun r2 h => ?_)
  exact r_zret (b := r2) dX2_holds_16 rfl rfl rfl (kR (r2) (zK_some h))
set_option maxHeartbeats 4000000 in
set_option maxRecDepth 100000 in
theorem c_X2_holds {G : zzG} {t : Nat} {Q : Option Value → zzMem → Prop} (o : Nat) (a1 : Int32) (a2 : Int32) (M : zzMem) (ho : zI_X2 t o) {P : Bool → Prop} (h : zK (f_X2_holds o a1 a2 M) P) (kR : ∀ r : Bool, P r → Q (some (.int (zb r))) M) : zz_S G m_X2_holds t t [.ref o, .int a1, .int a2] M Q :=
  zz_S_of (by decide) (by decide) (Nat.le_of_ble_eq_true rfl) (w_X2_holds_0 o a1 a2 M ho h kR)
noncomputable def f_X3_changed (a0 : Int32) (a1 : Int32) : Int32 :=
  if a0 = (-2 : Int32) then
  (((a1 ^^^ (-1 : Int32)) &&& (nI 65535)))
  else (if a0 = (-3 : Int32) then
  ((f_X9_reversed a1))
  else (zbd (((-10 : Int32) - a0)) (fun x3 =>
  (((a1 <<< (x3 &&& 31)) ||| (a1 >>> (((nI 16) - x3) &&& 31))) &&& (nI 65535)))))
set_option maxHeartbeats 4000000 in
set_option maxRecDepth 100000 in
theorem w_X3_changed_0 {G : zzG} {t : Nat} {Q : Option Value → zzMem → Prop} (a0 : Int32) (a1 : Int32) (M : zzMem)  {P : Int32 → Prop} (h : P (f_X3_changed a0 a1)) (kR : ∀ r : Int32, P r → Q (some (.int r)) M) : zz_W G m_X3_changed t t t 0 [some (.int a0), some (.int a1), none] [] M Q := by
  unfold f_X3_changed at h
  refine r_iload_n dX3_changed_0 rfl ?_
  refine r_bipush (v := (-2 : Int32)) dX3_changed_1 (by decide) ?_
  refine r_icmp_ne 13 dX3_changed_3 (by decide) (fun c1 => ?_) (fun c1 => ?_)
  · have h := zP_neg h c1
    refine r_iload_n dX3_changed_13 rfl ?_
    refine r_bipush (v := (-3 : Int32)) dX3_changed_14 (by decide) ?_
    refine r_icmp_ne 24 dX3_changed_16 (by decide) (fun c2 => ?_) (fun c2 => ?_)
    · have h := zP_neg h c2
      refine r_bipush (v := (-10 : Int32)) dX3_changed_24 (by decide) ?_
      refine r_iload_n dX3_changed_26 rfl ?_
      refine r_isub dX3_changed_27 ?_
      refine r_istore_n (fun x3 => [some (.int a0), some (.int a1), some (.int x3)]) dX3_changed_28 (by decide) rfl (fun _ => rfl) (fun x3 ex3 => ?_)
      have h := zP_bd h ex3
      refine r_iload_n dX3_changed_29 rfl ?_
      refine r_iload_n dX3_changed_30 rfl ?_
      refine r_ishl dX3_changed_31 ?_
      refine r_iload_n dX3_changed_32 rfl ?_
      refine r_bipush (v := (nI 16)) dX3_changed_33 (by decide) ?_
      refine r_iload_n dX3_changed_35 rfl ?_
      refine r_isub dX3_changed_36 ?_
      refine r_ishr dX3_changed_37 ?_
      refine r_ior dX3_changed_38 ?_
      refine r_ldc (v := (nI 65535)) dX3_changed_39 zd_X3_47 ?_
      refine r_iand dX3_changed_41 ?_
      exact r_iret dX3_changed_42 rfl rfl rfl (kR ((((a1 <<< (x3 &&& 31)) ||| (a1 >>> (((nI 16) - x3) &&& 31))) &&& (nI 65535))) h)
    · have h := zP_pos h c2
      refine r_iload_n dX3_changed_19 rfl ?_
      refine tN_ir (v := f_X9_reversed a1) (as := [.int a1]) (st := []) dX3_changed_20 zM_X9_reversed zk_X3_48 ⟨Nat.le_of_ble_eq_true rfl, Nat.le_of_ble_eq_true rfl⟩ (Nat.le_of_ble_eq_true rfl) (zz_T0 rfl rfl) (fun Q' h => c_X9_reversed (a1) M h) ?_
      exact r_iret dX3_changed_23 rfl rfl rfl (kR ((f_X9_reversed a1)) h)
  · have h := zP_pos h c1
    refine r_iload_n dX3_changed_6 rfl ?_
    refine r_iconst (v := (-1 : Int32)) dX3_changed_7 (by decide) ?_
    refine r_ixor dX3_changed_8 ?_
    refine r_ldc (v := (nI 65535)) dX3_changed_9 zd_X3_47 ?_
    refine r_iand dX3_changed_11 ?_
    exact r_iret dX3_changed_12 rfl rfl rfl (kR (((a1 ^^^ (-1 : Int32)) &&& (nI 65535))) h)
set_option maxHeartbeats 4000000 in
set_option maxRecDepth 100000 in
theorem c_X3_changed {G : zzG} {t : Nat} {Q : Option Value → zzMem → Prop} (a0 : Int32) (a1 : Int32) (M : zzMem)  (h : Q (some (.int (f_X3_changed a0 a1))) M) : zz_S G m_X3_changed t t [.int a0, .int a1] M Q :=
  zz_S_of (by decide) (by decide) (Nat.le_of_ble_eq_true rfl) (w_X3_changed_0 a0 a1 M  (P := fun r => Q (some (.int r)) M) h (fun r p => p))
noncomputable def f_X3_joined (a0 : Int32) (a1 : Int32) (a2 : Int32) : Option Int32 :=
  if a0 = (nI 37) then
  (if a2 = 0 then
  (some ((nI 0)))
  else (zgd (¬ a2 = 0) (
  some ((zrm a1 a2)))))
  else if a0 = (nI 38) then
  (some ((a1 &&& a2)))
  else if a0 = (nI 42) then
  (some ((a1 * a2)))
  else if a0 = (nI 43) then
  (some ((a1 + a2)))
  else if a0 = (nI 45) then
  (some ((a1 - a2)))
  else if a0 = (nI 47) then
  (if a2 = 0 then
  (some ((nI 0)))
  else (zgd (¬ a2 = 0) (
  some ((a1 / a2)))))
  else if a0 = (nI 94) then
  (some ((a1 ^^^ a2)))
  else (some ((a1 ||| a2)))
set_option maxHeartbeats 4000000 in
set_option maxRecDepth 100000 in
theorem w_X3_joined_0 {G : zzG} {t : Nat} {Q : Option Value → zzMem → Prop} (a0 : Int32) (a1 : Int32) (a2 : Int32) (M : zzMem)  {P : Int32 → Prop} (h : zK (f_X3_joined a0 a1 a2) P) (kR : ∀ r : Int32, P r → Q (some (.int r)) M) : zz_W G m_X3_joined t t t 0 [some (.int a0), some (.int a1), some (.int a2)] [] M Q := by
  unfold f_X3_joined at h
  refine r_iload_n dX3_joined_0 rfl ?_
  by_cases c1 : a0 = (nI 37)
  · have h := zK_pos h c1
    refine r_lookup (off := 91) 92 dX3_joined_1 (by decide) (by rw [c1]; first | done | decide) (by decide) ?_
    refine r_iload_n dX3_joined_92 rfl ?_
    refine r_if_ne 100 dX3_joined_93 (by decide) (fun c2 => ?_) (fun c2 => ?_)
    · have h := zK_neg h c2
      refine r_iload_n dX3_joined_100 rfl ?_
      refine r_iload_n dX3_joined_101 rfl ?_
      obtain ⟨g3, h⟩ := zK_gd h
      refine r_irem dX3_joined_102 g3 ?_
      exact r_iret dX3_joined_103 rfl rfl rfl (kR ((zrm a1 a2)) (zK_some h))
    · have h := zK_pos h c2
      refine r_iconst (v := (nI 0)) dX3_joined_96 (by decide) ?_
      refine r_goto 103 dX3_joined_97 (by decide) ?_
      exact r_iret dX3_joined_103 rfl rfl rfl (kR ((nI 0)) (zK_some h))
  · have h := zK_neg h c1
    by_cases c4 : a0 = (nI 38)
    · have h := zK_pos h c4
      refine r_lookup (off := 107) 108 dX3_joined_1 (by decide) (by rw [c4]; first | done | decide) (by decide) ?_
      refine r_iload_n dX3_joined_108 rfl ?_
      refine r_iload_n dX3_joined_109 rfl ?_
      refine r_iand dX3_joined_110 ?_
      exact r_iret dX3_joined_111 rfl rfl rfl (kR ((a1 &&& a2)) (zK_some h))
    · have h := zK_neg h c4
      by_cases c5 : a0 = (nI 42)
      · have h := zK_pos h c5
        refine r_lookup (off := 75) 76 dX3_joined_1 (by decide) (by rw [c5]; first | done | decide) (by decide) ?_
        refine r_iload_n dX3_joined_76 rfl ?_
        refine r_iload_n dX3_joined_77 rfl ?_
        refine r_imul dX3_joined_78 ?_
        exact r_iret dX3_joined_79 rfl rfl rfl (kR ((a1 * a2)) (zK_some h))
      · have h := zK_neg h c5
        by_cases c6 : a0 = (nI 43)
        · have h := zK_pos h c6
          refine r_lookup (off := 67) 68 dX3_joined_1 (by decide) (by rw [c6]; first | done | decide) (by decide) ?_
          refine r_iload_n dX3_joined_68 rfl ?_
          refine r_iload_n dX3_joined_69 rfl ?_
          refine r_iadd dX3_joined_70 ?_
          exact r_iret dX3_joined_71 rfl rfl rfl (kR ((a1 + a2)) (zK_some h))
        · have h := zK_neg h c6
          by_cases c7 : a0 = (nI 45)
          · have h := zK_pos h c7
            refine r_lookup (off := 71) 72 dX3_joined_1 (by decide) (by rw [c7]; first | done | decide) (by decide) ?_
            refine r_iload_n dX3_joined_72 rfl ?_
            refine r_iload_n dX3_joined_73 rfl ?_
            refine r_isub dX3_joined_74 ?_
            exact r_iret dX3_joined_75 rfl rfl rfl (kR ((a1 - a2)) (zK_some h))
          · have h := zK_neg h c7
            by_cases c8 : a0 = (nI 47)
            · have h := zK_pos h c8
              refine r_lookup (off := 79) 80 dX3_joined_1 (by decide) (by rw [c8]; first | done | decide) (by decide) ?_
              refine r_iload_n dX3_joined_80 rfl ?_
              refine r_if_ne 88 dX3_joined_81 (by decide) (fun c9 => ?_) (fun c9 => ?_)
              · have h := zK_neg h c9
                refine r_iload_n dX3_joined_88 rfl ?_
                refine r_iload_n dX3_joined_89 rfl ?_
                obtain ⟨g10, h⟩ := zK_gd h
                refine r_idiv dX3_joined_90 g10 ?_
                exact r_iret dX3_joined_91 rfl rfl rfl (kR ((a1 / a2)) (zK_some h))
              · have h := zK_pos h c9
                refine r_iconst (v := (nI 0)) dX3_joined_84 (by decide) ?_
                refine r_goto 91 dX3_joined_85 (by decide) ?_
                exact r_iret dX3_joined_91 rfl rfl rfl (kR ((nI 0)) (zK_some h))
            · have h := zK_neg h c8
              by_cases c11 : a0 = (nI 94)
              · have h := zK_pos h c11
                refine r_lookup (off := 103) 104 dX3_joined_1 (by decide) (by rw [c11]; first | done | decide) (by decide) ?_
                refine r_iload_n dX3_joined_104 rfl ?_
                refine r_iload_n dX3_joined_105 rfl ?_
                refine r_ixor dX3_joined_106 ?_
                exact r_iret dX3_joined_107 rfl rfl rfl (kR ((a1 ^^^ a2)) (zK_some h))
              · have h := zK_neg h c11
                have hD : zz_W G m_X3_joined t t t 112 [some (.int a0), some (.int a1), some (.int a2)] [] M Q := by
                  refine r_iload_n dX3_joined_112 rfl ?_
                  refine r_iload_n dX3_joined_113 rfl ?_
                  refine r_ior dX3_joined_114 ?_
                  exact r_iret dX3_joined_115 rfl rfl rfl (kR ((a1 ||| a2)) (zK_some h))
                exact r_lookup 112 dX3_joined_1 (by decide) (zz_lk_out (List.forall_mem_cons.mpr ⟨fun e => c1 (Int32.toInt_inj.mp (e.trans (by decide))), (List.forall_mem_cons.mpr ⟨fun e => c4 (Int32.toInt_inj.mp (e.trans (by decide))), (List.forall_mem_cons.mpr ⟨fun e => c5 (Int32.toInt_inj.mp (e.trans (by decide))), (List.forall_mem_cons.mpr ⟨fun e => c6 (Int32.toInt_inj.mp (e.trans (by decide))), (List.forall_mem_cons.mpr ⟨fun e => c7 (Int32.toInt_inj.mp (e.trans (by decide))), (List.forall_mem_cons.mpr ⟨fun e => c8 (Int32.toInt_inj.mp (e.trans (by decide))), (List.forall_mem_cons.mpr ⟨fun e => c11 (Int32.toInt_inj.mp (e.trans (by decide))), (fun _ hq => absurd hq List.not_mem_nil)⟩)⟩)⟩)⟩)⟩)⟩)⟩)) (by decide) hD
set_option maxHeartbeats 4000000 in
set_option maxRecDepth 100000 in
theorem c_X3_joined {G : zzG} {t : Nat} {Q : Option Value → zzMem → Prop} (a0 : Int32) (a1 : Int32) (a2 : Int32) (M : zzMem)  {P : Int32 → Prop} (h : zK (f_X3_joined a0 a1 a2) P) (kR : ∀ r : Int32, P r → Q (some (.int r)) M) : zz_S G m_X3_joined t t [.int a0, .int a1, .int a2] M Q :=
  zz_S_of (by decide) (by decide) (Nat.le_of_ble_eq_true rfl) (w_X3_joined_0 a0 a1 a2 M  h kR)
noncomputable def j_X3_hashOf_49 (o : Nat) (v1 : Int32) (v2 : Int32) (v3 : Int32) (s1 : Int32) (s2 : Int32) (M : zzMem) : Option ((Int32 × Int32 × zzMem) ⊕ (Int32 × zzMem)) :=
  zgd (vp_in s1 8) (
  zbd (zz_si M (o + 2) (s1).toNatClampNeg s2) (fun M2 =>
  zbd (v2 + (nI 1)) (fun x3 =>
  zbd (v3 + (nI 1)) (fun x4 =>
  some (.inl (x3, x4, M2))))))
set_option maxHeartbeats 4000000 in
set_option maxRecDepth 100000 in
theorem w_X3_hashOf_49 {G : zzG} {t : Nat} {Q : Option Value → zzMem → Prop} (o : Nat) (v1 : Int32) (v2 : Int32) (v3 : Int32) (s1 : Int32) (s2 : Int32) (M : zzMem) (ho : zI_X3 t o) {P : ((Int32 × Int32 × zzMem) ⊕ (Int32 × zzMem)) → Prop} (h : zK (j_X3_hashOf_49 o v1 v2 v3 s1 s2 M) P) (k4 : ∀ s : (Int32 × Int32 × zzMem), P (.inl s) → zz_W G m_X3_hashOf t t t 4 [some (.ref o), some (.int v1), some (.int s.1), some (.int s.2.1), none] [] s.2.2 Q) (kR : ∀ r : (Int32 × zzMem), P (.inr r) → Q (some (.int r.1)) r.2) : zz_W G m_X3_hashOf t t t 49 [some (.ref o), some (.int v1), some (.int v2), some (.int v3), none] [.int s2, .int s1, .ref (o + 2)] M Q := by
  unfold j_X3_hashOf_49 at h
  obtain ⟨g1, h⟩ := zK_gd h
  refine r_iast dX3_hashOf_49 (za_X3_1 ho) g1 (fun M2 eM2 => ?_)
  have h := zK_bd h eM2
  refine r_iinc (nI 1) (fun x3 => [some (.ref o), some (.int v1), some (.int x3), some (.int v3), none]) dX3_hashOf_50 rfl (by decide) (by decide) rfl (fun _ => rfl) (fun x3 ex3 => ?_)
  have h := zK_bd h ex3
  refine r_goto 130 dX3_hashOf_53 (by decide) ?_
  refine r_iinc (nI 1) (fun x4 => [some (.ref o), some (.int v1), some (.int x3), some (.int x4), none]) dX3_hashOf_130 rfl (by decide) (by decide) rfl (fun _ => rfl) (fun x4 ex4 => ?_)
  have h := zK_bd h ex4
  refine r_goto 4 dX3_hashOf_133 (by decide) ?_
  exact k4 ((x3, x4, M2)) (zK_some h)
noncomputable def b_X3_hashOf_4 (o : Nat) (v1 : Int32) (v2 : Int32) (v3 : Int32) (M : zzMem) : Option ((Int32 × Int32 × zzMem) ⊕ (Int32 × zzMem)) :=
  if (M.1 o 2) ≤ v3 then
  (some ((.inr ((M.1 (o + 2) 0), M))))
  else (zgd (vp_in v3 60) (
  zbd ((M.1 (o + 1) (v3).toNatClampNeg)) (fun x3 =>
  if x3 < (-1 : Int32) then
  (if x3 < (-19 : Int32) then
  (if v2 ≤ (nI 1) then
  (zbd (v3 + (nI 1)) (fun x7 =>
  some (.inl (v2, x7, M))))
  else (zbd (v2 + (-1 : Int32)) (fun x8 =>
  zgd (vp_in (x8 - (nI 1)) 8) (
  zgd (vp_in x8 8) (
  (f_X3_joined (-x3) (M.1 (o + 2) ((x8 - (nI 1))).toNatClampNeg) (M.1 (o + 2) (x8).toNatClampNeg)).bind (fun r11 =>
  zbd (zz_si M (o + 2) ((x8 - (nI 1))).toNatClampNeg (r11 &&& (nI 65535))) (fun M12 =>
  zbd (v3 + (nI 1)) (fun x13 =>
  some (.inl (x8, x13, M12))))))))))
  else (if v2 ≤ 0 then
  (zbd (v3 + (nI 1)) (fun x15 =>
  some (.inl (v2, x15, M))))
  else (zgd (vp_in (v2 - (nI 1)) 8) (
  zbd (zz_si M (o + 2) ((v2 - (nI 1))).toNatClampNeg (f_X3_changed x3 (M.1 (o + 2) ((v2 - (nI 1))).toNatClampNeg))) (fun M17 =>
  zbd (v3 + (nI 1)) (fun x18 =>
  some (.inl (v2, x18, M17))))))))
  else (if (nI 8) ≤ v2 then
  (zbd (v3 + (nI 1)) (fun x20 =>
  some (.inl (v2, x20, M))))
  else (if x3 = (-1 : Int32) then
  (j_X3_hashOf_49 o v1 v2 v3 v2 v1 M)
  else (j_X3_hashOf_49 o v1 v2 v3 v2 x3 M))))))
set_option maxHeartbeats 4000000 in
set_option maxRecDepth 100000 in
theorem x_X3_hashOf_4 {G : zzG} {t : Nat} {Q : Option Value → zzMem → Prop} (o : Nat) (v1 : Int32) (v2 : Int32) (v3 : Int32) (M : zzMem) (ho : zI_X3 t o) {P : ((Int32 × Int32 × zzMem) ⊕ (Int32 × zzMem)) → Prop} (h : zK (b_X3_hashOf_4 o v1 v2 v3 M) P) (k4 : ∀ s : (Int32 × Int32 × zzMem), P (.inl s) → zz_W G m_X3_hashOf t t t 4 [some (.ref o), some (.int v1), some (.int s.1), some (.int s.2.1), none] [] s.2.2 Q) (kR : ∀ r : (Int32 × zzMem), P (.inr r) → Q (some (.int r.1)) r.2) : zz_W G m_X3_hashOf t t t 4 [some (.ref o), some (.int v1), some (.int v2), some (.int v3), none] [] M Q := by
  unfold b_X3_hashOf_4 at h
  refine r_iload_n dX3_hashOf_4 rfl ?_
  refine r_aload_n dX3_hashOf_5 rfl ?_
  refine r_getI (k := o) dX3_hashOf_6 zf_X3_20 (zo_X3 ho) (zi_X3_2 ho) ?_
  refine r_icmp_ge 136 dX3_hashOf_9 (by decide) (fun c1 => ?_) (fun c1 => ?_)
  · have h := zK_pos h c1
    refine r_aload_n dX3_hashOf_136 rfl ?_
    refine r_getR (k := o) (q := (o + 2)) dX3_hashOf_137 zf_X3_17 (zo_X3 ho) (zr_X3_1 ho).1 (zr_X3_1 ho).2.1 (zr_X3_1 ho).2.2 ?_
    refine r_iconst (v := (nI 0)) dX3_hashOf_140 (by decide) ?_
    refine r_ialdc (j := 0) dX3_hashOf_141 (za_X3_1 ho) rfl rfl ?_
    exact r_iret dX3_hashOf_142 rfl rfl rfl (kR (((M.1 (o + 2) 0), M)) (zK_some h))
  · have h := zK_neg h c1
    refine r_aload_n dX3_hashOf_12 rfl ?_
    refine r_getR (k := o) (q := (o + 1)) dX3_hashOf_13 zf_X3_11 (zo_X3 ho) (zr_X3_0 ho).1 (zr_X3_0 ho).2.1 (zr_X3_0 ho).2.2 ?_
    refine r_iload_n dX3_hashOf_16 rfl ?_
    obtain ⟨g2, h⟩ := zK_gd h
    refine r_iald dX3_hashOf_17 (za_X3_0 ho) g2 ?_
    refine r_istore (fun x3 => [some (.ref o), some (.int v1), some (.int v2), some (.int v3), some (.int x3)]) dX3_hashOf_18 (by decide) rfl (fun _ => rfl) (fun x3 ex3 => ?_)
    have h := zK_bd h ex3
    refine r_iload dX3_hashOf_20 rfl ?_
    refine r_iconst (v := (-1 : Int32)) dX3_hashOf_22 (by decide) ?_
    refine r_icmp_lt 56 dX3_hashOf_23 (by decide) (fun c4 => ?_) (fun c4 => ?_)
    · have h := zK_pos h c4
      refine r_iload dX3_hashOf_56 rfl ?_
      refine r_bipush (v := (-19 : Int32)) dX3_hashOf_58 (by decide) ?_
      refine r_icmp_lt 91 dX3_hashOf_60 (by decide) (fun c5 => ?_) (fun c5 => ?_)
      · have h := zK_pos h c5
        refine r_iload_n dX3_hashOf_91 rfl ?_
        refine r_iconst (v := (nI 1)) dX3_hashOf_92 (by decide) ?_
        refine r_icmp_le 130 dX3_hashOf_93 (by decide) (fun c6 => ?_) (fun c6 => ?_)
        · have h := zK_pos h c6
          refine r_iinc (nI 1) (fun x7 => [some (.ref o), some (.int v1), some (.int v2), some (.int x7), some (.int x3)]) dX3_hashOf_130 rfl (by decide) (by decide) rfl (fun _ => rfl) (fun x7 ex7 => ?_)
          have h := zK_bd h ex7
          refine r_goto 4 dX3_hashOf_133 (by decide) ?_
          refine zz_mask [4] ?_
          exact k4 ((v2, x7, M)) (zK_some h)
        · have h := zK_neg h c6
          refine r_iinc (-1 : Int32) (fun x8 => [some (.ref o), some (.int v1), some (.int x8), some (.int v3), some (.int x3)]) dX3_hashOf_96 rfl (by decide) (by decide) rfl (fun _ => rfl) (fun x8 ex8 => ?_)
          have h := zK_bd h ex8
          refine r_aload_n dX3_hashOf_99 rfl ?_
          refine r_getR (k := o) (q := (o + 2)) dX3_hashOf_100 zf_X3_17 (zo_X3 ho) (zr_X3_1 ho).1 (zr_X3_1 ho).2.1 (zr_X3_1 ho).2.2 ?_
          refine r_iload_n dX3_hashOf_103 rfl ?_
          refine r_iconst (v := (nI 1)) dX3_hashOf_104 (by decide) ?_
          refine r_isub dX3_hashOf_105 ?_
          refine r_iload dX3_hashOf_106 rfl ?_
          refine r_ineg dX3_hashOf_108 ?_
          refine r_aload_n dX3_hashOf_109 rfl ?_
          refine r_getR (k := o) (q := (o + 2)) dX3_hashOf_110 zf_X3_17 (zo_X3 ho) (zr_X3_1 ho).1 (zr_X3_1 ho).2.1 (zr_X3_1 ho).2.2 ?_
          refine r_iload_n dX3_hashOf_113 rfl ?_
          refine r_iconst (v := (nI 1)) dX3_hashOf_114 (by decide) ?_
          refine r_isub dX3_hashOf_115 ?_
          obtain ⟨g9, h⟩ := zK_gd h
          refine r_iald dX3_hashOf_116 (za_X3_1 ho) g9 ?_
          refine r_aload_n dX3_hashOf_117 rfl ?_
          refine r_getR (k := o) (q := (o + 2)) dX3_hashOf_118 zf_X3_17 (zo_X3 ho) (zr_X3_1 ho).1 (zr_X3_1 ho).2.1 (zr_X3_1 ho).2.2 ?_
          refine r_iload_n dX3_hashOf_121 rfl ?_
          obtain ⟨g10, h⟩ := zK_gd h
          refine r_iald dX3_hashOf_122 (za_X3_1 ho) g10 ?_
          refine kS_ir (as := [.int (-x3), .int (M.1 (o + 2) ((x8 - (nI 1))).toNatClampNeg), .int (M.1 (o + 2) (x8).toNatClampNeg)]) (st := [.int (x8 - (nI 1)), .ref (o + 2)]) dX3_hashOf_123 zM_X3_joined zk_X3_43 ⟨Nat.le_of_ble_eq_true rfl, Nat.le_of_ble_eq_true rfl⟩ (Nat.le_of_ble_eq_true rfl) (zz_T0 rfl rfl) (fun Q' P' k h => c_X3_joined ((-x3)) ((M.1 (o + 2) ((x8 - (nI 1))).toNatClampNeg)) ((M.1 (o + 2) (x8).toNatClampNeg)) M h k) h (fun r11 h => ?_)
          refine r_ldc (v := (nI 65535)) dX3_hashOf_126 zd_X3_47 ?_
          refine r_iand dX3_hashOf_128 ?_
          refine r_iast dX3_hashOf_129 (za_X3_1 ho) g9 (fun M12 eM12 => ?_)
          have h := zK_bd h eM12
          refine r_iinc (nI 1) (fun x13 => [some (.ref o), some (.int v1), some (.int x8), some (.int x13), some (.int x3)]) dX3_hashOf_130 rfl (by decide) (by decide) rfl (fun _ => rfl) (fun x13 ex13 => ?_)
          have h := zK_bd h ex13
          refine r_goto 4 dX3_hashOf_133 (by decide) ?_
          refine zz_mask [4] ?_
          exact k4 ((x8, x13, M12)) (zK_some h)
      · have h := zK_neg h c5
        refine r_iload_n dX3_hashOf_63 rfl ?_
        refine r_if_le 130 dX3_hashOf_64 (by decide) (fun c14 => ?_) (fun c14 => ?_)
        · have h := zK_pos h c14
          refine r_iinc (nI 1) (fun x15 => [some (.ref o), some (.int v1), some (.int v2), some (.int x15), some (.int x3)]) dX3_hashOf_130 rfl (by decide) (by decide) rfl (fun _ => rfl) (fun x15 ex15 => ?_)
          have h := zK_bd h ex15
          refine r_goto 4 dX3_hashOf_133 (by decide) ?_
          refine zz_mask [4] ?_
          exact k4 ((v2, x15, M)) (zK_some h)
        · have h := zK_neg h c14
          refine r_aload_n dX3_hashOf_67 rfl ?_
          refine r_getR (k := o) (q := (o + 2)) dX3_hashOf_68 zf_X3_17 (zo_X3 ho) (zr_X3_1 ho).1 (zr_X3_1 ho).2.1 (zr_X3_1 ho).2.2 ?_
          refine r_iload_n dX3_hashOf_71 rfl ?_
          refine r_iconst (v := (nI 1)) dX3_hashOf_72 (by decide) ?_
          refine r_isub dX3_hashOf_73 ?_
          refine r_iload dX3_hashOf_74 rfl ?_
          refine r_aload_n dX3_hashOf_76 rfl ?_
          refine r_getR (k := o) (q := (o + 2)) dX3_hashOf_77 zf_X3_17 (zo_X3 ho) (zr_X3_1 ho).1 (zr_X3_1 ho).2.1 (zr_X3_1 ho).2.2 ?_
          refine r_iload_n dX3_hashOf_80 rfl ?_
          refine r_iconst (v := (nI 1)) dX3_hashOf_81 (by decide) ?_
          refine r_isub dX3_hashOf_82 ?_
          obtain ⟨g16, h⟩ := zK_gd h
          refine r_iald dX3_hashOf_83 (za_X3_1 ho) g16 ?_
          refine tS_ir (v := f_X3_changed x3 (M.1 (o + 2) ((v2 - (nI 1))).toNatClampNeg)) (as := [.int x3, .int (M.1 (o + 2) ((v2 - (nI 1))).toNatClampNeg)]) (st := [.int (v2 - (nI 1)), .ref (o + 2)]) dX3_hashOf_84 zM_X3_changed zk_X3_40 ⟨Nat.le_of_ble_eq_true rfl, Nat.le_of_ble_eq_true rfl⟩ (Nat.le_of_ble_eq_true rfl) (zz_T0 rfl rfl) (fun Q' h => c_X3_changed (x3) ((M.1 (o + 2) ((v2 - (nI 1))).toNatClampNeg)) M h) ?_
          refine r_iast dX3_hashOf_87 (za_X3_1 ho) g16 (fun M17 eM17 => ?_)
          have h := zK_bd h eM17
          refine r_goto 130 dX3_hashOf_88 (by decide) ?_
          refine r_iinc (nI 1) (fun x18 => [some (.ref o), some (.int v1), some (.int v2), some (.int x18), some (.int x3)]) dX3_hashOf_130 rfl (by decide) (by decide) rfl (fun _ => rfl) (fun x18 ex18 => ?_)
          have h := zK_bd h ex18
          refine r_goto 4 dX3_hashOf_133 (by decide) ?_
          refine zz_mask [4] ?_
          exact k4 ((v2, x18, M17)) (zK_some h)
    · have h := zK_neg h c4
      refine r_iload_n dX3_hashOf_26 rfl ?_
      refine r_bipush (v := (nI 8)) dX3_hashOf_27 (by decide) ?_
      refine r_icmp_ge 130 dX3_hashOf_29 (by decide) (fun c19 => ?_) (fun c19 => ?_)
      · have h := zK_pos h c19
        refine r_iinc (nI 1) (fun x20 => [some (.ref o), some (.int v1), some (.int v2), some (.int x20), some (.int x3)]) dX3_hashOf_130 rfl (by decide) (by decide) rfl (fun _ => rfl) (fun x20 ex20 => ?_)
        have h := zK_bd h ex20
        refine r_goto 4 dX3_hashOf_133 (by decide) ?_
        refine zz_mask [4] ?_
        exact k4 ((v2, x20, M)) (zK_some h)
      · have h := zK_neg h c19
        refine r_aload_n dX3_hashOf_32 rfl ?_
        refine r_getR (k := o) (q := (o + 2)) dX3_hashOf_33 zf_X3_17 (zo_X3 ho) (zr_X3_1 ho).1 (zr_X3_1 ho).2.1 (zr_X3_1 ho).2.2 ?_
        refine r_iload_n dX3_hashOf_36 rfl ?_
        refine r_iload dX3_hashOf_37 rfl ?_
        refine r_iconst (v := (-1 : Int32)) dX3_hashOf_39 (by decide) ?_
        refine r_icmp_ne 47 dX3_hashOf_40 (by decide) (fun c21 => ?_) (fun c21 => ?_)
        · have h := zK_neg h c21
          refine r_iload dX3_hashOf_47 rfl ?_
          refine zz_mask [4] ?_
          exact w_X3_hashOf_49 (o) (v1) (v2) (v3) (v2) (x3) M ho h k4 kR
        · have h := zK_pos h c21
          refine r_iload_n dX3_hashOf_43 rfl ?_
          refine r_goto 49 dX3_hashOf_44 (by decide) ?_
          refine zz_mask [4] ?_
          exact w_X3_hashOf_49 (o) (v1) (v2) (v3) (v2) (v1) M ho h k4 kR
noncomputable def j_X3_hashOf_4 (o : Nat) (v1 : Int32) (v2 : Int32) (v3 : Int32) (M : zzMem) : Option (Int32 × zzMem) :=
  zlp (fun s : (Int32 × Int32 × zzMem) => b_X3_hashOf_4 o v1 s.1 s.2.1 s.2.2) (v2, v3, M)
set_option maxHeartbeats 4000000 in
set_option maxRecDepth 100000 in
theorem w_X3_hashOf_4 {G : zzG} {t : Nat} {Q : Option Value → zzMem → Prop} (o : Nat) (v1 : Int32) (v2 : Int32) (v3 : Int32) (M : zzMem) (ho : zI_X3 t o) {P : (Int32 × zzMem) → Prop} (h : zK (j_X3_hashOf_4 o v1 v2 v3 M) P) (kR : ∀ r : (Int32 × zzMem), P r → Q (some (.int r.1)) r.2) : zz_W G m_X3_hashOf t t t 4 [some (.ref o), some (.int v1), some (.int v2), some (.int v3), none] [] M Q := by
  unfold j_X3_hashOf_4 at h
  exact zK_lp h (fun s : (Int32 × Int32 × zzMem) => zz_W G m_X3_hashOf t t t 4 [some (.ref o), some (.int v1), some (.int s.1), some (.int s.2.1), none] [] s.2.2 Q) (fun s h => x_X3_hashOf_4 o v1 s.1 s.2.1 s.2.2 ho h (fun s p => p) kR)
noncomputable def f_X3_hashOf (o : Nat) (a1 : Int32) (M : zzMem) : Option (Int32 × zzMem) :=
  j_X3_hashOf_4 o a1 (nI 0) (nI 0) M
set_option maxHeartbeats 4000000 in
set_option maxRecDepth 100000 in
theorem w_X3_hashOf_0 {G : zzG} {t : Nat} {Q : Option Value → zzMem → Prop} (o : Nat) (a1 : Int32) (M : zzMem) (ho : zI_X3 t o) {P : (Int32 × zzMem) → Prop} (h : zK (f_X3_hashOf o a1 M) P) (kR : ∀ r : (Int32 × zzMem), P r → Q (some (.int r.1)) r.2) : zz_W G m_X3_hashOf t t t 0 [some (.ref o), some (.int a1), none, none, none] [] M Q := by
  unfold f_X3_hashOf at h
  refine r_iconst (v := (nI 0)) dX3_hashOf_0 (by decide) ?_
  refine s_istore_n ([some (.ref o), some (.int a1), some (.int (nI 0)), none, none]) dX3_hashOf_1 (by decide) rfl rfl ?_
  refine r_iconst (v := (nI 0)) dX3_hashOf_2 (by decide) ?_
  refine s_istore_n ([some (.ref o), some (.int a1), some (.int (nI 0)), some (.int (nI 0)), none]) dX3_hashOf_3 (by decide) rfl rfl ?_
  exact w_X3_hashOf_4 (o) (a1) ((nI 0)) ((nI 0)) M ho h kR
set_option maxHeartbeats 4000000 in
set_option maxRecDepth 100000 in
theorem c_X3_hashOf {G : zzG} {t : Nat} {Q : Option Value → zzMem → Prop} (o : Nat) (a1 : Int32) (M : zzMem) (ho : zI_X3 t o) {P : (Int32 × zzMem) → Prop} (h : zK (f_X3_hashOf o a1 M) P) (kR : ∀ r : (Int32 × zzMem), P r → Q (some (.int r.1)) r.2) : zz_S G m_X3_hashOf t t [.ref o, .int a1] M Q :=
  zz_S_of (by decide) (by decide) (Nat.le_of_ble_eq_true rfl) (w_X3_hashOf_0 o a1 M ho h kR)
noncomputable def f_X2_valueOf (o : Nat) (a1 : Int32) (M : zzMem) : Option (Int32 × zzMem) :=
  (f_X3_hashOf (o + 1) a1 M).bind (fun q1 => zpr q1 (fun r2 M3 =>
  (f_X2_addressOf o r2 M3).bind (fun r4 =>
  (f_X0_slotOf (o + 4) r4 a1 M3).bind (fun r5 =>
  if r5 = (-1 : Int32) then
  (some (((-2 : Int32), M3)))
  else (zgd (vp_in r5 1536) (
  some (((f_X1_valueOf (M3.2 (o + 9) (r5).toNatClampNeg)), M3))))))))
set_option maxHeartbeats 4000000 in
set_option maxRecDepth 100000 in
theorem w_X2_valueOf_0 {G : zzG} {t : Nat} {Q : Option Value → zzMem → Prop} (o : Nat) (a1 : Int32) (M : zzMem) (ho : zI_X2 t o) {P : (Int32 × zzMem) → Prop} (h : zK (f_X2_valueOf o a1 M) P) (kR : ∀ r : (Int32 × zzMem), P r → Q (some (.int r.1)) r.2) : zz_W G m_X2_valueOf t t t 0 [some (.ref o), some (.int a1), none] [] M Q := by
  unfold f_X2_valueOf at h
  refine r_aload_n dX2_valueOf_0 rfl ?_
  refine r_getR (k := o) (q := (o + 4)) dX2_valueOf_1 zf_X2_21 (zo_X2 ho) (zr_X2_1 ho).1 (zr_X2_1 ho).2.1 (zr_X2_1 ho).2.2 ?_
  refine r_aload_n dX2_valueOf_4 rfl ?_
  refine r_aload_n dX2_valueOf_5 rfl ?_
  refine r_getR (k := o) (q := (o + 1)) dX2_valueOf_6 zf_X2_12 (zo_X2 ho) (zr_X2_0 ho).1 (zr_X2_0 ho).2.1 (zr_X2_0 ho).2.2 ?_
  refine r_iload_n dX2_valueOf_9 rfl ?_
  refine kV_iw (as := [.int a1]) (st := [.ref o, .ref (o + 4)]) (k := (o + 1)) dX2_valueOf_10 zM_X3_hashOf zk_X2_126 (zo_X3 (zc_X2_0 ho)) (by decide) rfl ⟨Nat.le_of_ble_eq_true rfl, Nat.le_of_ble_eq_true rfl⟩ (Nat.le_of_ble_eq_true rfl) (zz_T0 rfl rfl) (fun Q' P' k h => c_X3_hashOf ((o + 1)) (a1) M (zc_X2_0 ho) h (fun r p => k r.1 r.2 p)) h (fun r2 M3 h => ?_)
  have h := zK_pr h
  refine kV_ir (as := [.int r2]) (st := [.ref (o + 4)]) (k := o) dX2_valueOf_13 zM_X2_addressOf zk_X2_129 (zo_X2 ho) (by decide) rfl ⟨Nat.le_of_ble_eq_true rfl, Nat.le_of_ble_eq_true rfl⟩ (Nat.le_of_ble_eq_true rfl) (zz_T0 rfl rfl) (fun Q' P' k h => c_X2_addressOf (o) (r2) M3 ho h k) h (fun r4 h => ?_)
  refine r_iload_n dX2_valueOf_16 rfl ?_
  refine kV_ir (as := [.int r4, .int a1]) (st := []) (k := (o + 4)) dX2_valueOf_17 zM_X0_slotOf zk_X2_132 (zo_X0 (zc_X2_1 ho)) (by decide) rfl ⟨Nat.le_of_ble_eq_true rfl, Nat.le_of_ble_eq_true rfl⟩ (Nat.le_of_ble_eq_true rfl) (zz_T0 rfl rfl) (fun Q' P' k h => c_X0_slotOf ((o + 4)) (r4) (a1) M3 (zc_X2_1 ho) h k) h (fun r5 h => ?_)
  refine s_istore_n ([some (.ref o), some (.int a1), some (.int r5)]) dX2_valueOf_20 (by decide) rfl rfl ?_
  refine r_iload_n dX2_valueOf_21 rfl ?_
  refine r_iconst (v := (-1 : Int32)) dX2_valueOf_22 (by decide) ?_
  refine r_icmp_ne 31 dX2_valueOf_23 (by decide) (fun c6 => ?_) (fun c6 => ?_)
  · have h := zK_neg h c6
    refine r_aload_n dX2_valueOf_31 rfl ?_
    refine r_getR (k := o) (q := (o + 4)) dX2_valueOf_32 zf_X2_21 (zo_X2 ho) (zr_X2_1 ho).1 (zr_X2_1 ho).2.1 (zr_X2_1 ho).2.2 ?_
    refine r_getR (k := (o + 4)) (q := (o + 9)) dX2_valueOf_35 zf_X2_135 (zo_X0 (zc_X2_1 ho)) (zr_X0_4 (zc_X2_1 ho)).1 (zr_X0_4 (zc_X2_1 ho)).2.1 (zr_X0_4 (zc_X2_1 ho)).2.2 ?_
    refine r_iload_n dX2_valueOf_38 rfl ?_
    obtain ⟨g7, h⟩ := zK_gd h
    refine r_lald dX2_valueOf_39 (za_X0_4 (zc_X2_1 ho)) g7 ?_
    refine tS_ir (v := f_X1_valueOf (M3.2 (o + 9) (r5).toNatClampNeg)) (as := [.long (M3.2 (o + 9) (r5).toNatClampNeg)]) (st := []) dX2_valueOf_40 zM_X1_valueOf zk_X2_139 ⟨Nat.le_of_ble_eq_true rfl, Nat.le_of_ble_eq_true rfl⟩ (Nat.le_of_ble_eq_true rfl) (zz_T0 rfl rfl) (fun Q' h => c_X1_valueOf ((M3.2 (o + 9) (r5).toNatClampNeg)) M3 h) ?_
    exact r_iret dX2_valueOf_43 rfl rfl rfl (kR (((f_X1_valueOf (M3.2 (o + 9) (r5).toNatClampNeg)), M3)) (zK_some h))
  · have h := zK_pos h c6
    refine r_bipush (v := (-2 : Int32)) dX2_valueOf_26 (by decide) ?_
    refine r_goto 43 dX2_valueOf_28 (by decide) ?_
    exact r_iret dX2_valueOf_43 rfl rfl rfl (kR (((-2 : Int32), M3)) (zK_some h))
set_option maxHeartbeats 4000000 in
set_option maxRecDepth 100000 in
theorem c_X2_valueOf {G : zzG} {t : Nat} {Q : Option Value → zzMem → Prop} (o : Nat) (a1 : Int32) (M : zzMem) (ho : zI_X2 t o) {P : (Int32 × zzMem) → Prop} (h : zK (f_X2_valueOf o a1 M) P) (kR : ∀ r : (Int32 × zzMem), P r → Q (some (.int r.1)) r.2) : zz_S G m_X2_valueOf t t [.ref o, .int a1] M Q :=
  zz_S_of (by decide) (by decide) (Nat.le_of_ble_eq_true rfl) (w_X2_valueOf_0 o a1 M ho h kR)
