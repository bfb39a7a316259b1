noncomputable def b_X10_chains_17 (v1 : Int32) (v2 : Int32) (v3 : Int32) (M : zzMem) : Option ((Int32 × Int32) ⊕ Int32) :=
  (f_X10_buckets M).bind (fun r1 =>
  if r1 ≤ v3 then
  (some ((.inr v2)))
  else ((f_X10_chainOf v3 M).bind (fun r3 =>
  if r3 = v1 then
  (zbd ((v2 + (nI 1))) (fun x6 =>
  zbd (v3 + (nI 1)) (fun x7 =>
  some (.inl (x6, x7)))))
  else (zbd (v3 + (nI 1)) (fun x5 =>
  some (.inl (v2, x5)))))))
set_option maxHeartbeats 4000000 in
set_option maxRecDepth 100000 in
theorem x_X10_chains_17 {G : zzG} {t : Nat} {Q : Option Value → zzMem → Prop} (v1 : Int32) (v2 : Int32) (v3 : Int32) (M : zzMem) (ht : 180 ≤ t)  {P : ((Int32 × Int32) ⊕ Int32) → Prop} (h : zK (b_X10_chains_17 v1 v2 v3 M) P) (k17 : ∀ s : (Int32 × Int32), P (.inl s) → zz_W G m_X10_chains t t t 17 [some (.ref 73), some (.int v1), some (.int s.1), some (.int s.2)] [] M Q) (kR : ∀ r : Int32, P (.inr r) → Q (some (.int r)) M) : zz_W G m_X10_chains t t t 17 [some (.ref 73), some (.int v1), some (.int v2), some (.int v3)] [] M Q := by
  unfold b_X10_chains_17 at h
  refine r_iload_n dX10_chains_17 rfl ?_
  refine r_aload_n dX10_chains_18 rfl ?_
  refine kV_ir (as := []) (st := [.int v3]) (k := 73) dX10_chains_19 zM_X10_buckets zk_X10_178 (zo_X10 (zs_X10 ht)) (by decide) rfl ⟨Nat.le_of_ble_eq_true rfl, Nat.le_of_ble_eq_true rfl⟩ (Nat.le_of_ble_eq_true rfl) (zz_T0 rfl rfl) (fun Q' P' k h => c_X10_buckets M ht h k) h (fun r1 h => ?_)
  refine r_icmp_ge 44 dX10_chains_22 (by decide) (fun c2 => ?_) (fun c2 => ?_)
  · have h := zK_pos h c2
    refine r_iload_n dX10_chains_44 rfl ?_
    exact r_iret dX10_chains_45 rfl rfl rfl (kR (v2) (zK_some h))
  · have h := zK_neg h c2
    refine r_aload_n dX10_chains_25 rfl ?_
    refine r_iload_n dX10_chains_26 rfl ?_
    refine kV_ir (as := [.int v3]) (st := []) (k := 73) dX10_chains_27 zM_X10_chainOf zk_X10_172 (zo_X10 (zs_X10 ht)) (by decide) rfl ⟨Nat.le_of_ble_eq_true rfl, Nat.le_of_ble_eq_true rfl⟩ (Nat.le_of_ble_eq_true rfl) (zz_T0 rfl rfl) (fun Q' P' k h => c_X10_chainOf (v3) M ht h k) h (fun r3 h => ?_)
    refine r_iload_n dX10_chains_30 rfl ?_
    refine r_icmp_ne 38 dX10_chains_31 (by decide) (fun c4 => ?_) (fun c4 => ?_)
    · have h := zK_neg h c4
      refine r_iinc (nI 1) (fun x5 => [some (.ref 73), some (.int v1), some (.int v2), some (.int x5)]) dX10_chains_38 rfl (by decide) (by decide) rfl (fun _ => rfl) (fun x5 ex5 => ?_)
      have h := zK_bd h ex5
      refine r_goto 17 dX10_chains_41 (by decide) ?_
      exact k17 ((v2, x5)) (zK_some h)
    · have h := zK_pos h c4
      refine r_iload_n dX10_chains_34 rfl ?_
      refine r_iconst (v := (nI 1)) dX10_chains_35 (by decide) ?_
      refine r_iadd dX10_chains_36 ?_
      refine r_istore_n (fun x6 => [some (.ref 73), some (.int v1), some (.int x6), some (.int v3)]) dX10_chains_37 (by decide) rfl (fun _ => rfl) (fun x6 ex6 => ?_)
      have h := zK_bd h ex6
      refine r_iinc (nI 1) (fun x7 => [some (.ref 73), some (.int v1), some (.int x6), some (.int x7)]) dX10_chains_38 rfl (by decide) (by decide) rfl (fun _ => rfl) (fun x7 ex7 => ?_)
      have h := zK_bd h ex7
      refine r_goto 17 dX10_chains_41 (by decide) ?_
      exact k17 ((x6, x7)) (zK_some h)
noncomputable def j_X10_chains_17 (v1 : Int32) (v2 : Int32) (v3 : Int32) (M : zzMem) : Option Int32 :=
  zlp (fun s : (Int32 × Int32) => b_X10_chains_17 v1 s.1 s.2 M) (v2, v3)
set_option maxHeartbeats 4000000 in
set_option maxRecDepth 100000 in
theorem w_X10_chains_17 {G : zzG} {t : Nat} {Q : Option Value → zzMem → Prop} (v1 : Int32) (v2 : Int32) (v3 : Int32) (M : zzMem) (ht : 180 ≤ t)  {P : Int32 → Prop} (h : zK (j_X10_chains_17 v1 v2 v3 M) P) (kR : ∀ r : Int32, P r → Q (some (.int r)) M) : zz_W G m_X10_chains t t t 17 [some (.ref 73), some (.int v1), some (.int v2), some (.int v3)] [] M Q := by
  unfold j_X10_chains_17 at h
  exact zK_lp h (fun s : (Int32 × Int32) => zz_W G m_X10_chains t t t 17 [some (.ref 73), some (.int v1), some (.int s.1), some (.int s.2)] [] M Q) (fun s h => x_X10_chains_17 v1 s.1 s.2 M ht h (fun s p => p) kR)
noncomputable def f_X10_chains (a1 : Int32) (M : zzMem) : Option Int32 :=
  if (f_X10_in a1 (nI 1) (nI 150)) = true then
  (j_X10_chains_17 a1 (nI 0) (nI 0) M)
  else (some ((-1 : Int32)))
set_option maxHeartbeats 4000000 in
set_option maxRecDepth 100000 in
theorem w_X10_chains_0 {G : zzG} {t : Nat} {Q : Option Value → zzMem → Prop} (a1 : Int32) (M : zzMem) (ht : 180 ≤ t)  {P : Int32 → Prop} (h : zK (f_X10_chains a1 M) P) (kR : ∀ r : Int32, P r → Q (some (.int r)) M) : zz_W G m_X10_chains t t t 0 [some (.ref 73), some (.int a1), none, none] [] M Q := by
  unfold f_X10_chains at h
  refine r_iload_n dX10_chains_0 rfl ?_
  refine r_iconst (v := (nI 1)) dX10_chains_1 (by decide) ?_
  refine r_sipush (v := (nI 150)) dX10_chains_2 (by decide) ?_
  refine tS_zr (v := f_X10_in a1 (nI 1) (nI 150)) (as := [.int a1, .int (nI 1), .int (nI 150)]) (st := []) dX10_chains_5 zM_X10_in zk_X10_67 ⟨Nat.le_of_ble_eq_true rfl, Nat.le_of_ble_eq_true rfl⟩ (Nat.le_of_ble_eq_true rfl) (zz_T0 rfl rfl) (fun Q' h => c_X10_in (a1) ((nI 1)) ((nI 150)) M h) ?_
  refine r_ifZ_ne 13 dX10_chains_8 (by decide) (fun c1 => ?_) (fun c1 => ?_)
  · have h := zK_pos h c1
    refine r_iconst (v := (nI 0)) dX10_chains_13 (by decide) ?_
    refine s_istore_n ([some (.ref 73), some (.int a1), some (.int (nI 0)), none]) dX10_chains_14 (by decide) rfl rfl ?_
    refine r_iconst (v := (nI 0)) dX10_chains_15 (by decide) ?_
    refine s_istore_n ([some (.ref 73), some (.int a1), some (.int (nI 0)), some (.int (nI 0))]) dX10_chains_16 (by decide) rfl rfl ?_
    exact w_X10_chains_17 (a1) ((nI 0)) ((nI 0)) M ht h kR
  · have h := zK_neg h c1
    refine r_iconst (v := (-1 : Int32)) dX10_chains_11 (by decide) ?_
    exact r_iret dX10_chains_12 rfl rfl rfl (kR ((-1 : Int32)) (zK_some h))
set_option maxHeartbeats 4000000 in
set_option maxRecDepth 100000 in
theorem c_X10_chains {G : zzG} {t : Nat} {Q : Option Value → zzMem → Prop} (a1 : Int32) (M : zzMem) (ht : 180 ≤ t)  {P : Int32 → Prop} (h : zK (f_X10_chains a1 M) P) (kR : ∀ r : Int32, P r → Q (some (.int r)) M) : zz_S G m_X10_chains t t [.ref 73, .int a1] M Q :=
  zz_S_of (by decide) (by decide) (Nat.le_of_ble_eq_true rfl) (w_X10_chains_0 a1 M ht h kR)
noncomputable def b_X10_allReads_4 (v1 : Int32) (v2 : Int32) (M : zzMem) : Option ((Int32 × Int32) ⊕ Int32) :=
  if (M.1 74 7) ≤ v2 then
  (some ((.inr v1)))
  else ((f_X10_readsOf v2 M).bind (fun r2 =>
  zbd ((v1 + r2)) (fun x3 =>
  zbd (v2 + (nI 1)) (fun x4 =>
  some (.inl (x3, x4))))))
set_option maxHeartbeats 4000000 in
set_option maxRecDepth 100000 in
theorem x_X10_allReads_4 {G : zzG} {t : Nat} {Q : Option Value → zzMem → Prop} (v1 : Int32) (v2 : Int32) (M : zzMem) (ht : 180 ≤ t)  {P : ((Int32 × Int32) ⊕ Int32) → Prop} (h : zK (b_X10_allReads_4 v1 v2 M) P) (k4 : ∀ s : (Int32 × Int32), P (.inl s) → zz_W G m_X10_allReads t t t 4 [some (.ref 73), some (.int s.1), some (.int s.2)] [] M Q) (kR : ∀ r : Int32, P (.inr r) → Q (some (.int r)) M) : zz_W G m_X10_allReads t t t 4 [some (.ref 73), some (.int v1), some (.int v2)] [] M Q := by
  unfold b_X10_allReads_4 at h
  refine r_iload_n dX10_allReads_4 rfl ?_
  refine r_aload_n dX10_allReads_5 rfl ?_
  refine r_getR (k := 73) (q := 74) dX10_allReads_6 zf_X10_7 (zo_X10 (zs_X10 ht)) (zr_X10_0 (zs_X10 ht)).1 (zr_X10_0 (zs_X10 ht)).2.1 (zr_X10_0 (zs_X10 ht)).2.2 ?_
  refine r_bipush (v := (nI 7)) dX10_allReads_9 (by decide) ?_
  refine r_ialdc (j := 7) dX10_allReads_11 (za_X10_0 (zs_X10 ht)) rfl rfl ?_
  refine r_icmp_ge 29 dX10_allReads_12 (by decide) (fun c1 => ?_) (fun c1 => ?_)
  · have h := zK_pos h c1
    refine r_iload_n dX10_allReads_29 rfl ?_
    exact r_iret dX10_allReads_30 rfl rfl rfl (kR (v1) (zK_some h))
  · have h := zK_neg h c1
    refine r_iload_n dX10_allReads_15 rfl ?_
    refine r_aload_n dX10_allReads_16 rfl ?_
    refine r_iload_n dX10_allReads_17 rfl ?_
    refine kV_ir (as := [.int v2]) (st := [.int v1]) (k := 73) dX10_allReads_18 zM_X10_readsOf zk_X10_217 (zo_X10 (zs_X10 ht)) (by decide) rfl ⟨Nat.le_of_ble_eq_true rfl, Nat.le_of_ble_eq_true rfl⟩ (Nat.le_of_ble_eq_true rfl) (zz_T0 rfl rfl) (fun Q' P' k h => c_X10_readsOf (v2) M ht h k) h (fun r2 h => ?_)
    refine r_iadd dX10_allReads_21 ?_
    refine r_istore_n (fun x3 => [some (.ref 73), some (.int x3), some (.int v2)]) dX10_allReads_22 (by decide) rfl (fun _ => rfl) (fun x3 ex3 => ?_)
    have h := zK_bd h ex3
    refine r_iinc (nI 1) (fun x4 => [some (.ref 73), some (.int x3), some (.int x4)]) dX10_allReads_23 rfl (by decide) (by decide) rfl (fun _ => rfl) (fun x4 ex4 => ?_)
    have h := zK_bd h ex4
    refine r_goto 4 dX10_allReads_26 (by decide) ?_
    exact k4 ((x3, x4)) (zK_some h)
noncomputable def j_X10_allReads_4 (v1 : Int32) (v2 : Int32) (M : zzMem) : Option Int32 :=
  zlp (fun s : (Int32 × Int32) => b_X10_allReads_4 s.1 s.2 M) (v1, v2)
set_option maxHeartbeats 4000000 in
set_option maxRecDepth 100000 in
theorem w_X10_allReads_4 {G : zzG} {t : Nat} {Q : Option Value → zzMem → Prop} (v1 : Int32) (v2 : Int32) (M : zzMem) (ht : 180 ≤ t)  {P : Int32 → Prop} (h : zK (j_X10_allReads_4 v1 v2 M) P) (kR : ∀ r : Int32, P r → Q (some (.int r)) M) : zz_W G m_X10_allReads t t t 4 [some (.ref 73), some (.int v1), some (.int v2)] [] M Q := by
  unfold j_X10_allReads_4 at h
  exact zK_lp h (fun s : (Int32 × Int32) => zz_W G m_X10_allReads t t t 4 [some (.ref 73), some (.int s.1), some (.int s.2)] [] M Q) (fun s h => x_X10_allReads_4 s.1 s.2 M ht h (fun s p => p) kR)
noncomputable def f_X10_allReads  (M : zzMem) : Option Int32 :=
  j_X10_allReads_4 (nI 0) (nI 0) M
set_option maxHeartbeats 4000000 in
set_option maxRecDepth 100000 in
theorem w_X10_allReads_0 {G : zzG} {t : Nat} {Q : Option Value → zzMem → Prop}  (M : zzMem) (ht : 180 ≤ t)  {P : Int32 → Prop} (h : zK (f_X10_allReads  M) P) (kR : ∀ r : Int32, P r → Q (some (.int r)) M) : zz_W G m_X10_allReads t t t 0 [some (.ref 73), none, none] [] M Q := by
  unfold f_X10_allReads at h
  refine r_iconst (v := (nI 0)) dX10_allReads_0 (by decide) ?_
  refine s_istore_n ([some (.ref 73), some (.int (nI 0)), none]) dX10_allReads_1 (by decide) rfl rfl ?_
  refine r_iconst (v := (nI 0)) dX10_allReads_2 (by decide) ?_
  refine s_istore_n ([some (.ref 73), some (.int (nI 0)), some (.int (nI 0))]) dX10_allReads_3 (by decide) rfl rfl ?_
  exact w_X10_allReads_4 ((nI 0)) ((nI 0)) M ht h kR
set_option maxHeartbeats 4000000 in
set_option maxRecDepth 100000 in
theorem c_X10_allReads {G : zzG} {t : Nat} {Q : Option Value → zzMem → Prop}  (M : zzMem) (ht : 180 ≤ t)  {P : Int32 → Prop} (h : zK (f_X10_allReads  M) P) (kR : ∀ r : Int32, P r → Q (some (.int r)) M) : zz_S G m_X10_allReads t t [.ref 73] M Q :=
  zz_S_of (by decide) (by decide) (Nat.le_of_ble_eq_true rfl) (w_X10_allReads_0  M ht h kR)
noncomputable def b_X10_finds_36 (v2 : Int32) (v3 : Int32) (M : zzMem) : Option ((Int32 × Int32) ⊕ Int32) :=
  if (M.1 74 7) ≤ v3 then
  (some ((.inr v2)))
  else ((f_X10_readsOf v3 M).bind (fun r2 =>
  zbd ((f_X10_max v2 r2)) (fun x3 =>
  zbd (v3 + (nI 1)) (fun x4 =>
  some (.inl (x3, x4))))))
set_option maxHeartbeats 4000000 in
set_option maxRecDepth 100000 in
theorem x_X10_finds_36 {G : zzG} {t : Nat} {Q : Option Value → zzMem → Prop} (v2 : Int32) (v3 : Int32) (M : zzMem) (ht : 180 ≤ t)  {P : ((Int32 × Int32) ⊕ Int32) → Prop} (h : zK (b_X10_finds_36 v2 v3 M) P) (k36 : ∀ s : (Int32 × Int32), P (.inl s) → zz_W G m_X10_finds t t t 36 [some (.ref 73), none, some (.int s.1), some (.int s.2)] [] M Q) (kR : ∀ r : Int32, P (.inr r) → Q (some (.int r)) M) : zz_W G m_X10_finds t t t 36 [some (.ref 73), none, some (.int v2), some (.int v3)] [] M Q := by
  unfold b_X10_finds_36 at h
  refine r_iload_n dX10_finds_36 rfl ?_
  refine r_aload_n dX10_finds_37 rfl ?_
  refine r_getR (k := 73) (q := 74) dX10_finds_38 zf_X10_7 (zo_X10 (zs_X10 ht)) (zr_X10_0 (zs_X10 ht)).1 (zr_X10_0 (zs_X10 ht)).2.1 (zr_X10_0 (zs_X10 ht)).2.2 ?_
  refine r_bipush (v := (nI 7)) dX10_finds_41 (by decide) ?_
  refine r_ialdc (j := 7) dX10_finds_43 (za_X10_0 (zs_X10 ht)) rfl rfl ?_
  refine r_icmp_ge 63 dX10_finds_44 (by decide) (fun c1 => ?_) (fun c1 => ?_)
  · have h := zK_pos h c1
    refine r_iload_n dX10_finds_63 rfl ?_
    exact r_iret dX10_finds_64 rfl rfl rfl (kR (v2) (zK_some h))
  · have h := zK_neg h c1
    refine r_iload_n dX10_finds_47 rfl ?_
    refine r_aload_n dX10_finds_48 rfl ?_
    refine r_iload_n dX10_finds_49 rfl ?_
    refine kV_ir (as := [.int v3]) (st := [.int v2]) (k := 73) dX10_finds_50 zM_X10_readsOf zk_X10_217 (zo_X10 (zs_X10 ht)) (by decide) rfl ⟨Nat.le_of_ble_eq_true rfl, Nat.le_of_ble_eq_true rfl⟩ (Nat.le_of_ble_eq_true rfl) (zz_T0 rfl rfl) (fun Q' P' k h => c_X10_readsOf (v3) M ht h k) h (fun r2 h => ?_)
    refine tS_ir (v := f_X10_max v2 r2) (as := [.int v2, .int r2]) (st := []) dX10_finds_53 zM_X10_max zk_X10_293 ⟨Nat.le_of_ble_eq_true rfl, Nat.le_of_ble_eq_true rfl⟩ (Nat.le_of_ble_eq_true rfl) (zz_T0 rfl rfl) (fun Q' h => c_X10_max (v2) (r2) M h) ?_
    refine r_istore_n (fun x3 => [some (.ref 73), none, some (.int x3), some (.int v3)]) dX10_finds_56 (by decide) rfl (fun _ => rfl) (fun x3 ex3 => ?_)
    have h := zK_bd h ex3
    refine r_iinc (nI 1) (fun x4 => [some (.ref 73), none, some (.int x3), some (.int x4)]) dX10_finds_57 rfl (by decide) (by decide) rfl (fun _ => rfl) (fun x4 ex4 => ?_)
    have h := zK_bd h ex4
    refine r_goto 36 dX10_finds_60 (by decide) ?_
    exact k36 ((x3, x4)) (zK_some h)
noncomputable def j_X10_finds_36 (v2 : Int32) (v3 : Int32) (M : zzMem) : Option Int32 :=
  zlp (fun s : (Int32 × Int32) => b_X10_finds_36 s.1 s.2 M) (v2, v3)
set_option maxHeartbeats 4000000 in
set_option maxRecDepth 100000 in
theorem w_X10_finds_36 {G : zzG} {t : Nat} {Q : Option Value → zzMem → Prop} (v2 : Int32) (v3 : Int32) (M : zzMem) (ht : 180 ≤ t)  {P : Int32 → Prop} (h : zK (j_X10_finds_36 v2 v3 M) P) (kR : ∀ r : Int32, P r → Q (some (.int r)) M) : zz_W G m_X10_finds t t t 36 [some (.ref 73), none, some (.int v2), some (.int v3)] [] M Q := by
  unfold j_X10_finds_36 at h
  exact zK_lp h (fun s : (Int32 × Int32) => zz_W G m_X10_finds t t t 36 [some (.ref 73), none, some (.int s.1), some (.int s.2)] [] M Q) (fun s h => x_X10_finds_36 s.1 s.2 M ht h (fun s p => p) kR)
noncomputable def f_X10_finds (a1 : Int32) (M : zzMem) : Option Int32 :=
  if (f_X10_in a1 (nI 0) (nI 2)) = true then
  (if a1 = (nI 1) then
  (j_X10_finds_36 (nI 0) (nI 0) M)
  else (if a1 = 0 then
  ((f_X10_allReads M).bind (fun r5 =>
  some r5))
  else ((f_X10_pagesTaken M).bind (fun r4 =>
  some r4))))
  else (some ((-1 : Int32)))
set_option maxHeartbeats 4000000 in
set_option maxRecDepth 100000 in
theorem w_X10_finds_0 {G : zzG} {t : Nat} {Q : Option Value → zzMem → Prop} (a1 : Int32) (M : zzMem) (ht : 180 ≤ t)  {P : Int32 → Prop} (h : zK (f_X10_finds a1 M) P) (kR : ∀ r : Int32, P r → Q (some (.int r)) M) : zz_W G m_X10_finds t t t 0 [some (.ref 73), some (.int a1), none, none] [] M Q := by
  unfold f_X10_finds at h
  refine r_iload_n dX10_finds_0 rfl ?_
  refine r_iconst (v := (nI 0)) dX10_finds_1 (by decide) ?_
  refine r_iconst (v := (nI 2)) dX10_finds_2 (by decide) ?_
  refine tS_zr (v := f_X10_in a1 (nI 0) (nI 2)) (as := [.int a1, .int (nI 0), .int (nI 2)]) (st := []) dX10_finds_3 zM_X10_in zk_X10_67 ⟨Nat.le_of_ble_eq_true rfl, Nat.le_of_ble_eq_true rfl⟩ (Nat.le_of_ble_eq_true rfl) (zz_T0 rfl rfl) (fun Q' h => c_X10_in (a1) ((nI 0)) ((nI 2)) M h) ?_
  refine r_ifZ_ne 11 dX10_finds_6 (by decide) (fun c1 => ?_) (fun c1 => ?_)
  · have h := zK_pos h c1
    refine r_iload_n dX10_finds_11 rfl ?_
    refine r_iconst (v := (nI 1)) dX10_finds_12 (by decide) ?_
    refine r_icmp_eq 32 dX10_finds_13 (by decide) (fun c2 => ?_) (fun c2 => ?_)
    · have h := zK_pos h c2
      refine r_iconst (v := (nI 0)) dX10_finds_32 (by decide) ?_
      refine s_istore_n ([some (.ref 73), some (.int a1), some (.int (nI 0)), none]) dX10_finds_33 (by decide) rfl rfl ?_
      refine r_iconst (v := (nI 0)) dX10_finds_34 (by decide) ?_
      refine s_istore_n ([some (.ref 73), some (.int a1), some (.int (nI 0)), some (.int (nI 0))]) dX10_finds_35 (by decide) rfl rfl ?_
      refine zz_mask [1] ?_
      exact w_X10_finds_36 ((nI 0)) ((nI 0)) M ht h kR
    · have h := zK_neg h c2
      refine r_iload_n dX10_finds_16 rfl ?_
      refine r_if_ne 27 dX10_finds_17 (by decide) (fun c3 => ?_) (fun c3 => ?_)
      · have h := zK_neg h c3
        refine r_aload_n dX10_finds_27 rfl ?_
        refine kV_ir (as := []) (st := []) (k := 73) dX10_finds_28 zM_X10_pagesTaken zk_X10_296 (zo_X10 (zs_X10 ht)) (by decide) rfl ⟨Nat.le_of_ble_eq_true rfl, Nat.le_of_ble_eq_true rfl⟩ (Nat.le_of_ble_eq_true rfl) (zz_T0 rfl rfl) (fun Q' P' k h => c_X10_pagesTaken M ht h k) h (fun r4 h => ?_)
        exact r_iret dX10_finds_31 rfl rfl rfl (kR (r4) (zK_some h))
      · have h := zK_pos h c3
        refine r_aload_n dX10_finds_20 rfl ?_
        refine kV_ir (as := []) (st := []) (k := 73) dX10_finds_21 zM_X10_allReads zk_X10_323 (zo_X10 (zs_X10 ht)) (by decide) rfl ⟨Nat.le_of_ble_eq_true rfl, Nat.le_of_ble_eq_true rfl⟩ (Nat.le_of_ble_eq_true rfl) (zz_T0 rfl rfl) (fun Q' P' k h => c_X10_allReads M ht h k) h (fun r5 h => ?_)
        refine r_goto 31 dX10_finds_24 (by decide) ?_
        exact r_iret dX10_finds_31 rfl rfl rfl (kR (r5) (zK_some h))
  · have h := zK_neg h c1
    refine r_iconst (v := (-1 : Int32)) dX10_finds_9 (by decide) ?_
    exact r_iret dX10_finds_10 rfl rfl rfl (kR ((-1 : Int32)) (zK_some h))
set_option maxHeartbeats 4000000 in
set_option maxRecDepth 100000 in
theorem c_X10_finds {G : zzG} {t : Nat} {Q : Option Value → zzMem → Prop} (a1 : Int32) (M : zzMem) (ht : 180 ≤ t)  {P : Int32 → Prop} (h : zK (f_X10_finds a1 M) P) (kR : ∀ r : Int32, P r → Q (some (.int r)) M) : zz_S G m_X10_finds t t [.ref 73, .int a1] M Q :=
  zz_S_of (by decide) (by decide) (Nat.le_of_ble_eq_true rfl) (w_X10_finds_0 a1 M ht h kR)
noncomputable def b_X10_costing_17 (v1 : Int32) (v2 : Int32) (v3 : Int32) (M : zzMem) : Option ((Int32 × Int32) ⊕ Int32) :=
  if (M.1 74 7) ≤ v3 then
  (some ((.inr v2)))
  else ((f_X10_readsOf v3 M).bind (fun r2 =>
  if r2 = v1 then
  (zbd ((v2 + (nI 1))) (fun x5 =>
  zbd (v3 + (nI 1)) (fun x6 =>
  some (.inl (x5, x6)))))
  else (zbd (v3 + (nI 1)) (fun x4 =>
  some (.inl (v2, x4))))))
set_option maxHeartbeats 4000000 in
set_option maxRecDepth 100000 in
theorem x_X10_costing_17 {G : zzG} {t : Nat} {Q : Option Value → zzMem → Prop} (v1 : Int32) (v2 : Int32) (v3 : Int32) (M : zzMem) (ht : 180 ≤ t)  {P : ((Int32 × Int32) ⊕ Int32) → Prop} (h : zK (b_X10_costing_17 v1 v2 v3 M) P) (k17 : ∀ s : (Int32 × Int32), P (.inl s) → zz_W G m_X10_costing t t t 17 [some (.ref 73), some (.int v1), some (.int s.1), some (.int s.2)] [] M Q) (kR : ∀ r : Int32, P (.inr r) → Q (some (.int r)) M) : zz_W G m_X10_costing t t t 17 [some (.ref 73), some (.int v1), some (.int v2), some (.int v3)] [] M Q := by
  unfold b_X10_costing_17 at h
  refine r_iload_n dX10_costing_17 rfl ?_
  refine r_aload_n dX10_costing_18 rfl ?_
  refine r_getR (k := 73) (q := 74) dX10_costing_19 zf_X10_7 (zo_X10 (zs_X10 ht)) (zr_X10_0 (zs_X10 ht)).1 (zr_X10_0 (zs_X10 ht)).2.1 (zr_X10_0 (zs_X10 ht)).2.2 ?_
  refine r_bipush (v := (nI 7)) dX10_costing_22 (by decide) ?_
  refine r_ialdc (j := 7) dX10_costing_24 (za_X10_0 (zs_X10 ht)) rfl rfl ?_
  refine r_icmp_ge 47 dX10_costing_25 (by decide) (fun c1 => ?_) (fun c1 => ?_)
  · have h := zK_pos h c1
    refine r_iload_n dX10_costing_47 rfl ?_
    exact r_iret dX10_costing_48 rfl rfl rfl (kR (v2) (zK_some h))
  · have h := zK_neg h c1
    refine r_aload_n dX10_costing_28 rfl ?_
    refine r_iload_n dX10_costing_29 rfl ?_
    refine kV_ir (as := [.int v3]) (st := []) (k := 73) dX10_costing_30 zM_X10_readsOf zk_X10_217 (zo_X10 (zs_X10 ht)) (by decide) rfl ⟨Nat.le_of_ble_eq_true rfl, Nat.le_of_ble_eq_true rfl⟩ (Nat.le_of_ble_eq_true rfl) (zz_T0 rfl rfl) (fun Q' P' k h => c_X10_readsOf (v3) M ht h k) h (fun r2 h => ?_)
    refine r_iload_n dX10_costing_33 rfl ?_
    refine r_icmp_ne 41 dX10_costing_34 (by decide) (fun c3 => ?_) (fun c3 => ?_)
    · have h := zK_neg h c3
      refine r_iinc (nI 1) (fun x4 => [some (.ref 73), some (.int v1), some (.int v2), some (.int x4)]) dX10_costing_41 rfl (by decide) (by decide) rfl (fun _ => rfl) (fun x4 ex4 => ?_)
      have h := zK_bd h ex4
      refine r_goto 17 dX10_costing_44 (by decide) ?_
      exact k17 ((v2, x4)) (zK_some h)
    · have h := zK_pos h c3
      refine r_iload_n dX10_costing_37 rfl ?_
      refine r_iconst (v := (nI 1)) dX10_costing_38 (by decide) ?_
      refine r_iadd dX10_costing_39 ?_
      refine r_istore_n (fun x5 => [some (.ref 73), some (.int v1), some (.int x5), some (.int v3)]) dX10_costing_40 (by decide) rfl (fun _ => rfl) (fun x5 ex5 => ?_)
      have h := zK_bd h ex5
      refine r_iinc (nI 1) (fun x6 => [some (.ref 73), some (.int v1), some (.int x5), some (.int x6)]) dX10_costing_41 rfl (by decide) (by decide) rfl (fun _ => rfl) (fun x6 ex6 => ?_)
      have h := zK_bd h ex6
      refine r_goto 17 dX10_costing_44 (by decide) ?_
      exact k17 ((x5, x6)) (zK_some h)
noncomputable def j_X10_costing_17 (v1 : Int32) (v2 : Int32) (v3 : Int32) (M : zzMem) : Option Int32 :=
  zlp (fun s : (Int32 × Int32) => b_X10_costing_17 v1 s.1 s.2 M) (v2, v3)
set_option maxHeartbeats 4000000 in
set_option maxRecDepth 100000 in
theorem w_X10_costing_17 {G : zzG} {t : Nat} {Q : Option Value → zzMem → Prop} (v1 : Int32) (v2 : Int32) (v3 : Int32) (M : zzMem) (ht : 180 ≤ t)  {P : Int32 → Prop} (h : zK (j_X10_costing_17 v1 v2 v3 M) P) (kR : ∀ r : Int32, P r → Q (some (.int r)) M) : zz_W G m_X10_costing t t t 17 [some (.ref 73), some (.int v1), some (.int v2), some (.int v3)] [] M Q := by
  unfold j_X10_costing_17 at h
  exact zK_lp h (fun s : (Int32 × Int32) => zz_W G m_X10_costing t t t 17 [some (.ref 73), some (.int v1), some (.int s.1), some (.int s.2)] [] M Q) (fun s h => x_X10_costing_17 v1 s.1 s.2 M ht h (fun s p => p) kR)
noncomputable def f_X10_costing (a1 : Int32) (M : zzMem) : Option Int32 :=
  if (f_X10_in a1 (nI 1) (nI 150)) = true then
  (j_X10_costing_17 a1 (nI 0) (nI 0) M)
  else (some ((-1 : Int32)))
set_option maxHeartbeats 4000000 in
set_option maxRecDepth 100000 in
theorem w_X10_costing_0 {G : zzG} {t : Nat} {Q : Option Value → zzMem → Prop} (a1 : Int32) (M : zzMem) (ht : 180 ≤ t)  {P : Int32 → Prop} (h : zK (f_X10_costing a1 M) P) (kR : ∀ r : Int32, P r → Q (some (.int r)) M) : zz_W G m_X10_costing t t t 0 [some (.ref 73), some (.int a1), none, none] [] M Q := by
  unfold f_X10_costing at h
  refine r_iload_n dX10_costing_0 rfl ?_
  refine r_iconst (v := (nI 1)) dX10_costing_1 (by decide) ?_
  refine r_sipush (v := (nI 150)) dX10_costing_2 (by decide) ?_
  refine tS_zr (v := f_X10_in a1 (nI 1) (nI 150)) (as := [.int a1, .int (nI 1), .int (nI 150)]) (st := []) dX10_costing_5 zM_X10_in zk_X10_67 ⟨Nat.le_of_ble_eq_true rfl, Nat.le_of_ble_eq_true rfl⟩ (Nat.le_of_ble_eq_true rfl) (zz_T0 rfl rfl) (fun Q' h => c_X10_in (a1) ((nI 1)) ((nI 150)) M h) ?_
  refine r_ifZ_ne 13 dX10_costing_8 (by decide) (fun c1 => ?_) (fun c1 => ?_)
  · have h := zK_pos h c1
    refine r_iconst (v := (nI 0)) dX10_costing_13 (by decide) ?_
    refine s_istore_n ([some (.ref 73), some (.int a1), some (.int (nI 0)), none]) dX10_costing_14 (by decide) rfl rfl ?_
    refine r_iconst (v := (nI 0)) dX10_costing_15 (by decide) ?_
    refine s_istore_n ([some (.ref 73), some (.int a1), some (.int (nI 0)), some (.int (nI 0))]) dX10_costing_16 (by decide) rfl rfl ?_
    exact w_X10_costing_17 (a1) ((nI 0)) ((nI 0)) M ht h kR
  · have h := zK_neg h c1
    refine r_iconst (v := (-1 : Int32)) dX10_costing_11 (by decide) ?_
    exact r_iret dX10_costing_12 rfl rfl rfl (kR ((-1 : Int32)) (zK_some h))
set_option maxHeartbeats 4000000 in
set_option maxRecDepth 100000 in
theorem c_X10_costing {G : zzG} {t : Nat} {Q : Option Value → zzMem → Prop} (a1 : Int32) (M : zzMem) (ht : 180 ≤ t)  {P : Int32 → Prop} (h : zK (f_X10_costing a1 M) P) (kR : ∀ r : Int32, P r → Q (some (.int r)) M) : zz_S G m_X10_costing t t [.ref 73, .int a1] M Q :=
  zz_S_of (by decide) (by decide) (Nat.le_of_ble_eq_true rfl) (w_X10_costing_0 a1 M ht h kR)
noncomputable def b_X10_next_35 (v1 : Int32) (v2 : Int32) (v3 : Int32) (M : zzMem) : Option ((Int32 × Int32 × zzMem) ⊕ (Int32 × zzMem)) :=
  if (M.1 73 15) ≤ v3 then
  (if v1 = (-1 : Int32) then
  (some ((.inr (v2, M))))
  else (some ((.inr ((-4 : Int32), M)))))
  else (zgd (vp_in v3 300) (
  (f_X10_goesOver (M.1 79 (v3).toNatClampNeg) M).bind (fun q4 => zpr q4 (fun r5 M6 =>
  if r5 = true then
  (if v2 = v1 then
  (zgd (vp_in ((nI 40) + (M6.1 79 (v3).toNatClampNeg)) 5676) (
  some ((.inr ((M6.1 74 (((nI 40) + (M6.1 79 (v3).toNatClampNeg))).toNatClampNeg), M6)))))
  else (zbd ((v2 + (nI 1))) (fun x9 =>
  zbd (v3 + (nI 1)) (fun x10 =>
  some (.inl (x9, x10, M6))))))
  else (zbd (v3 + (nI 1)) (fun x12 =>
  some (.inl (v2, x12, M6))))))))
set_option maxHeartbeats 4000000 in
set_option maxRecDepth 100000 in
theorem x_X10_next_35 {G : zzG} {t : Nat} {Q : Option Value → zzMem → Prop} (v1 : Int32) (v2 : Int32) (v3 : Int32) (M : zzMem) (ht : 180 ≤ t)  {P : ((Int32 × Int32 × zzMem) ⊕ (Int32 × zzMem)) → Prop} (h : zK (b_X10_next_35 v1 v2 v3 M) P) (k35 : ∀ s : (Int32 × Int32 × zzMem), P (.inl s) → zz_W G m_X10_next t t t 35 [some (.ref 73), some (.int v1), some (.int s.1), some (.int s.2.1)] [] s.2.2 Q) (kR : ∀ r : (Int32 × zzMem), P (.inr r) → Q (some (.int r.1)) r.2) : zz_W G m_X10_next t t t 35 [some (.ref 73), some (.int v1), some (.int v2), some (.int v3)] [] M Q := by
  unfold b_X10_next_35 at h
  refine r_iload_n dX10_next_35 rfl ?_
  refine r_aload_n dX10_next_36 rfl ?_
  refine r_getI (k := 73) dX10_next_37 zf_X10_181 (zo_X10 (zs_X10 ht)) (zi_X10_15 (zs_X10 ht)) ?_
  refine r_icmp_ge 89 dX10_next_40 (by decide) (fun c1 => ?_) (fun c1 => ?_)
  · have h := zK_pos h c1
    refine r_iload_n dX10_next_89 rfl ?_
    refine r_iconst (v := (-1 : Int32)) dX10_next_90 (by decide) ?_
    refine r_icmp_ne 98 dX10_next_91 (by decide) (fun c2 => ?_) (fun c2 => ?_)
    · have h := zK_neg h c2
      refine r_bipush (v := (-4 : Int32)) dX10_next_98 (by decide) ?_
      exact r_iret dX10_next_100 rfl rfl rfl (kR (((-4 : Int32), M)) (zK_some h))
    · have h := zK_pos h c2
      refine r_iload_n dX10_next_94 rfl ?_
      refine r_goto 100 dX10_next_95 (by decide) ?_
      exact r_iret dX10_next_100 rfl rfl rfl (kR ((v2, M)) (zK_some h))
  · have h := zK_neg h c1
    refine r_aload_n dX10_next_43 rfl ?_
    refine r_aload_n dX10_next_44 rfl ?_
    refine r_getR (k := 73) (q := 79) dX10_next_45 zf_X10_26 (zo_X10 (zs_X10 ht)) (zr_X10_14 (zs_X10 ht)).1 (zr_X10_14 (zs_X10 ht)).2.1 (zr_X10_14 (zs_X10 ht)).2.2 ?_
    refine r_iload_n dX10_next_48 rfl ?_
    obtain ⟨g3, h⟩ := zK_gd h
    refine r_iald dX10_next_49 (za_X10_14 (zs_X10 ht)) g3 ?_
    refine kV_zw (as := [.int (M.1 79 (v3).toNatClampNeg)]) (st := []) (k := 73) dX10_next_50 zM_X10_goesOver zk_X10_193 (zo_X10 (zs_X10 ht)) (by decide) rfl ⟨Nat.le_of_ble_eq_true rfl, Nat.le_of_ble_eq_true rfl⟩ (Nat.le_of_ble_eq_true rfl) (zz_T0 rfl rfl) (fun Q' P' k h => c_X10_goesOver ((M.1 79 (v3).toNatClampNeg)) M ht h (fun r p => k r.1 r.2 p)) h (fun r5 M6 h => ?_)
    have h := zK_pr h
    refine r_ifZ_ne 59 dX10_next_53 (by decide) (fun c7 => ?_) (fun c7 => ?_)
    · have h := zK_pos h c7
      refine r_iload_n dX10_next_59 rfl ?_
      refine r_iload_n dX10_next_60 rfl ?_
      refine r_icmp_ne 79 dX10_next_61 (by decide) (fun c8 => ?_) (fun c8 => ?_)
      · have h := zK_neg h c8
        refine r_iload_n dX10_next_79 rfl ?_
        refine r_iconst (v := (nI 1)) dX10_next_80 (by decide) ?_
        refine r_iadd dX10_next_81 ?_
        refine r_istore_n (fun x9 => [some (.ref 73), some (.int v1), some (.int x9), some (.int v3)]) dX10_next_82 (by decide) rfl (fun _ => rfl) (fun x9 ex9 => ?_)
        have h := zK_bd h ex9
        refine r_iinc (nI 1) (fun x10 => [some (.ref 73), some (.int v1), some (.int x9), some (.int x10)]) dX10_next_83 rfl (by decide) (by decide) rfl (fun _ => rfl) (fun x10 ex10 => ?_)
        have h := zK_bd h ex10
        refine r_goto 35 dX10_next_86 (by decide) ?_
        exact k35 ((x9, x10, M6)) (zK_some h)
      · have h := zK_pos h c8
        refine r_aload_n dX10_next_64 rfl ?_
        refine r_getR (k := 73) (q := 74) dX10_next_65 zf_X10_7 (zo_X10 (zs_X10 ht)) (zr_X10_0 (zs_X10 ht)).1 (zr_X10_0 (zs_X10 ht)).2.1 (zr_X10_0 (zs_X10 ht)).2.2 ?_
        refine r_bipush (v := (nI 40)) dX10_next_68 (by decide) ?_
        refine r_aload_n dX10_next_70 rfl ?_
        refine r_getR (k := 73) (q := 79) dX10_next_71 zf_X10_26 (zo_X10 (zs_X10 ht)) (zr_X10_14 (zs_X10 ht)).1 (zr_X10_14 (zs_X10 ht)).2.1 (zr_X10_14 (zs_X10 ht)).2.2 ?_
        refine r_iload_n dX10_next_74 rfl ?_
        refine r_iald dX10_next_75 (za_X10_14 (zs_X10 ht)) g3 ?_
        refine r_iadd dX10_next_76 ?_
        obtain ⟨g11, h⟩ := zK_gd h
        refine r_iald dX10_next_77 (za_X10_0 (zs_X10 ht)) g11 ?_
        exact r_iret dX10_next_78 rfl rfl rfl (kR (((M6.1 74 (((nI 40) + (M6.1 79 (v3).toNatClampNeg))).toNatClampNeg), M6)) (zK_some h))
    · have h := zK_neg h c7
      refine r_goto 83 dX10_next_56 (by decide) ?_
      refine r_iinc (nI 1) (fun x12 => [some (.ref 73), some (.int v1), some (.int v2), some (.int x12)]) dX10_next_83 rfl (by decide) (by decide) rfl (fun _ => rfl) (fun x12 ex12 => ?_)
      have h := zK_bd h ex12
      refine r_goto 35 dX10_next_86 (by decide) ?_
      exact k35 ((v2, x12, M6)) (zK_some h)
noncomputable def j_X10_next_35 (v1 : Int32) (v2 : Int32) (v3 : Int32) (M : zzMem) : Option (Int32 × zzMem) :=
  zlp (fun s : (Int32 × Int32 × zzMem) => b_X10_next_35 v1 s.1 s.2.1 s.2.2) (v2, v3, M)
set_option maxHeartbeats 4000000 in
set_option maxRecDepth 100000 in
theorem w_X10_next_35 {G : zzG} {t : Nat} {Q : Option Value → zzMem → Prop} (v1 : Int32) (v2 : Int32) (v3 : Int32) (M : zzMem) (ht : 180 ≤ t)  {P : (Int32 × zzMem) → Prop} (h : zK (j_X10_next_35 v1 v2 v3 M) P) (kR : ∀ r : (Int32 × zzMem), P r → Q (some (.int r.1)) r.2) : zz_W G m_X10_next t t t 35 [some (.ref 73), some (.int v1), some (.int v2), some (.int v3)] [] M Q := by
  unfold j_X10_next_35 at h
  exact zK_lp h (fun s : (Int32 × Int32 × zzMem) => zz_W G m_X10_next t t t 35 [some (.ref 73), some (.int v1), some (.int s.1), some (.int s.2.1)] [] s.2.2 Q) (fun s h => x_X10_next_35 v1 s.1 s.2.1 s.2.2 ht h (fun s p => p) kR)
noncomputable def f_X10_next (a1 : Int32) (M : zzMem) : Option (Int32 × zzMem) :=
  if (-1 : Int32) ≤ a1 then
  ((f_X10_buckets M).bind (fun r2 =>
  if r2 = (nI 64) then
  (some (((-3 : Int32), M)))
  else ((f_X10_lists (M.1 74 6) M).bind (fun M4 =>
  j_X10_next_35 a1 (nI 0) (nI 0) M4))))
  else (some (((-9 : Int32), M)))
set_option maxHeartbeats 4000000 in
set_option maxRecDepth 100000 in
theorem w_X10_next_0 {G : zzG} {t : Nat} {Q : Option Value → zzMem → Prop} (a1 : Int32) (M : zzMem) (ht : 180 ≤ t)  {P : (Int32 × zzMem) → Prop} (h : zK (f_X10_next a1 M) P) (kR : ∀ r : (Int32 × zzMem), P r → Q (some (.int r.1)) r.2) : zz_W G m_X10_next t t t 0 [some (.ref 73), some (.int a1), none, none] [] M Q := by
  unfold f_X10_next at h
  refine r_iload_n dX10_next_0 rfl ?_
  refine r_iconst (v := (-1 : Int32)) dX10_next_1 (by decide) ?_
  refine r_icmp_ge 8 dX10_next_2 (by decide) (fun c1 => ?_) (fun c1 => ?_)
  · have h := zK_pos h c1
    refine r_aload_n dX10_next_8 rfl ?_
    refine kV_ir (as := []) (st := []) (k := 73) dX10_next_9 zM_X10_buckets zk_X10_178 (zo_X10 (zs_X10 ht)) (by decide) rfl ⟨Nat.le_of_ble_eq_true rfl, Nat.le_of_ble_eq_true rfl⟩ (Nat.le_of_ble_eq_true rfl) (zz_T0 rfl rfl) (fun Q' P' k h => c_X10_buckets M ht h k) h (fun r2 h => ?_)
    refine r_bipush (v := (nI 64)) dX10_next_12 (by decide) ?_
    refine r_icmp_ne 20 dX10_next_14 (by decide) (fun c3 => ?_) (fun c3 => ?_)
    · have h := zK_neg h c3
      refine r_aload_n dX10_next_20 rfl ?_
      refine r_aload_n dX10_next_21 rfl ?_
      refine r_getR (k := 73) (q := 74) dX10_next_22 zf_X10_7 (zo_X10 (zs_X10 ht)) (zr_X10_0 (zs_X10 ht)).1 (zr_X10_0 (zs_X10 ht)).2.1 (zr_X10_0 (zs_X10 ht)).2.2 ?_
      refine r_bipush (v := (nI 6)) dX10_next_25 (by decide) ?_
      refine r_ialdc (j := 6) dX10_next_27 (za_X10_0 (zs_X10 ht)) rfl rfl ?_
      refine kV_vw (as := [.int (M.1 74 6)]) (st := []) (k := 73) dX10_next_28 zM_X10_lists zk_X10_187 (zo_X10 (zs_X10 ht)) (by decide) rfl ⟨Nat.le_of_ble_eq_true rfl, Nat.le_of_ble_eq_true rfl⟩ (Nat.le_of_ble_eq_true rfl) (zz_T0 rfl rfl) (fun Q' P' k h => c_X10_lists ((M.1 74 6)) M ht h k) h (fun M4 h => ?_)
      refine r_iconst (v := (nI 0)) dX10_next_31 (by decide) ?_
      refine s_istore_n ([some (.ref 73), some (.int a1), some (.int (nI 0)), none]) dX10_next_32 (by decide) rfl rfl ?_
      refine r_iconst (v := (nI 0)) dX10_next_33 (by decide) ?_
      refine s_istore_n ([some (.ref 73), some (.int a1), some (.int (nI 0)), some (.int (nI 0))]) dX10_next_34 (by decide) rfl rfl ?_
      exact w_X10_next_35 (a1) ((nI 0)) ((nI 0)) M4 ht h kR
    · have h := zK_pos h c3
      refine r_bipush (v := (-3 : Int32)) dX10_next_17 (by decide) ?_
      exact r_iret dX10_next_19 rfl rfl rfl (kR (((-3 : Int32), M)) (zK_some h))
  · have h := zK_neg h c1
    refine r_bipush (v := (-9 : Int32)) dX10_next_5 (by decide) ?_
    exact r_iret dX10_next_7 rfl rfl rfl (kR (((-9 : Int32), M)) (zK_some h))
set_option maxHeartbeats 4000000 in
set_option maxRecDepth 100000 in
theorem c_X10_next {G : zzG} {t : Nat} {Q : Option Value → zzMem → Prop} (a1 : Int32) (M : zzMem) (ht : 180 ≤ t)  {P : (Int32 × zzMem) → Prop} (h : zK (f_X10_next a1 M) P) (kR : ∀ r : (Int32 × zzMem), P r → Q (some (.int r.1)) r.2) : zz_S G m_X10_next t t [.ref 73, .int a1] M Q :=
  zz_S_of (by decide) (by decide) (Nat.le_of_ble_eq_true rfl) (w_X10_next_0 a1 M ht h kR)
noncomputable def b_X10_parted_28 (v1 : Int32) (v2 : Int32) (v3 : Int32) (M : zzMem) : Option ((Int32 × zzMem) ⊕ (Int32 × zzMem)) :=
  if (nI 64) < v3 then
  (some ((.inr ((-2 : Int32), M))))
  else ((f_X10_whereIn v1 v3 M).bind (fun q2 => zpr q2 (fun r3 M4 =>
  (f_X10_whereIn v2 v3 M4).bind (fun q5 => zpr q5 (fun r6 M7 =>
  if r3 = r6 then
  (zbd (v3 + (nI 1)) (fun x9 =>
  some (.inl (x9, M7))))
  else (some ((.inr (v3, M7)))))))))
set_option maxHeartbeats 4000000 in
set_option maxRecDepth 100000 in
theorem x_X10_parted_28 {G : zzG} {t : Nat} {Q : Option Value → zzMem → Prop} (v1 : Int32) (v2 : Int32) (v3 : Int32) (M : zzMem) (ht : 180 ≤ t)  {P : ((Int32 × zzMem) ⊕ (Int32 × zzMem)) → Prop} (h : zK (b_X10_parted_28 v1 v2 v3 M) P) (k28 : ∀ s : (Int32 × zzMem), P (.inl s) → zz_W G m_X10_parted t t t 28 [some (.ref 73), some (.int v1), some (.int v2), some (.int s.1)] [] s.2 Q) (kR : ∀ r : (Int32 × zzMem), P (.inr r) → Q (some (.int r.1)) r.2) : zz_W G m_X10_parted t t t 28 [some (.ref 73), some (.int v1), some (.int v2), some (.int v3)] [] M Q := by
  unfold b_X10_parted_28 at h
  refine r_iload_n dX10_parted_28 rfl ?_
  refine r_bipush (v := (nI 64)) dX10_parted_29 (by decide) ?_
  refine r_icmp_gt 57 dX10_parted_31 (by decide) (fun c1 => ?_) (fun c1 => ?_)
  · have h := zK_pos h c1
    refine r_bipush (v := (-2 : Int32)) dX10_parted_57 (by decide) ?_
    exact r_iret dX10_parted_59 rfl rfl rfl (kR (((-2 : Int32), M)) (zK_some h))
  · have h := zK_neg h c1
    refine r_aload_n dX10_parted_34 rfl ?_
    refine r_iload_n dX10_parted_35 rfl ?_
    refine r_iload_n dX10_parted_36 rfl ?_
    refine kV_iw (as := [.int v1, .int v3]) (st := []) (k := 73) dX10_parted_37 zM_X10_whereIn zk_X10_305 (zo_X10 (zs_X10 ht)) (by decide) rfl ⟨Nat.le_of_ble_eq_true rfl, Nat.le_of_ble_eq_true rfl⟩ (Nat.le_of_ble_eq_true rfl) (zz_T0 rfl rfl) (fun Q' P' k h => c_X10_whereIn (v1) (v3) M ht h (fun r p => k r.1 r.2 p)) h (fun r3 M4 h => ?_)
    have h := zK_pr h
    refine r_aload_n dX10_parted_40 rfl ?_
    refine r_iload_n dX10_parted_41 rfl ?_
    refine r_iload_n dX10_parted_42 rfl ?_
    refine kV_iw (as := [.int v2, .int v3]) (st := [.int r3]) (k := 73) dX10_parted_43 zM_X10_whereIn zk_X10_305 (zo_X10 (zs_X10 ht)) (by decide) rfl ⟨Nat.le_of_ble_eq_true rfl, Nat.le_of_ble_eq_true rfl⟩ (Nat.le_of_ble_eq_true rfl) (zz_T0 rfl rfl) (fun Q' P' k h => c_X10_whereIn (v2) (v3) M4 ht h (fun r p => k r.1 r.2 p)) h (fun r6 M7 h => ?_)
    have h := zK_pr h
    refine r_icmp_eq 51 dX10_parted_46 (by decide) (fun c8 => ?_) (fun c8 => ?_)
    · have h := zK_pos h c8
      refine r_iinc (nI 1) (fun x9 => [some (.ref 73), some (.int v1), some (.int v2), some (.int x9)]) dX10_parted_51 rfl (by decide) (by decide) rfl (fun _ => rfl) (fun x9 ex9 => ?_)
      have h := zK_bd h ex9
      refine r_goto 28 dX10_parted_54 (by decide) ?_
      exact k28 ((x9, M7)) (zK_some h)
    · have h := zK_neg h c8
      refine r_iload_n dX10_parted_49 rfl ?_
      exact r_iret dX10_parted_50 rfl rfl rfl (kR ((v3, M7)) (zK_some h))
noncomputable def j_X10_parted_28 (v1 : Int32) (v2 : Int32) (v3 : Int32) (M : zzMem) : Option (Int32 × zzMem) :=
  zlp (fun s : (Int32 × zzMem) => b_X10_parted_28 v1 v2 s.1 s.2) (v3, M)
set_option maxHeartbeats 4000000 in
set_option maxRecDepth 100000 in
theorem w_X10_parted_28 {G : zzG} {t : Nat} {Q : Option Value → zzMem → Prop} (v1 : Int32) (v2 : Int32) (v3 : Int32) (M : zzMem) (ht : 180 ≤ t)  {P : (Int32 × zzMem) → Prop} (h : zK (j_X10_parted_28 v1 v2 v3 M) P) (kR : ∀ r : (Int32 × zzMem), P r → Q (some (.int r.1)) r.2) : zz_W G m_X10_parted t t t 28 [some (.ref 73), some (.int v1), some (.int v2), some (.int v3)] [] M Q := by
  unfold j_X10_parted_28 at h
  exact zK_lp h (fun s : (Int32 × zzMem) => zz_W G m_X10_parted t t t 28 [some (.ref 73), some (.int v1), some (.int v2), some (.int s.1)] [] s.2 Q) (fun s h => x_X10_parted_28 v1 v2 s.1 s.2 ht h (fun s p => p) kR)
noncomputable def f_X10_parted (a1 : Int32) (a2 : Int32) (M : zzMem) : Option (Int32 × zzMem) :=
  if (f_X10_isKey a1) = true then
  (if (f_X10_isKey a2) = true then
  (if a1 = a2 then
  (some (((-1 : Int32), M)))
  else (zbd ((M.1 74 0)) (fun x4 =>
  j_X10_parted_28 a1 a2 x4 M)))
  else (some (((-1 : Int32), M))))
  else (some (((-1 : Int32), M)))
set_option maxHeartbeats 4000000 in
set_option maxRecDepth 100000 in
theorem w_X10_parted_0 {G : zzG} {t : Nat} {Q : Option Value → zzMem → Prop} (a1 : Int32) (a2 : Int32) (M : zzMem) (ht : 180 ≤ t)  {P : (Int32 × zzMem) → Prop} (h : zK (f_X10_parted a1 a2 M) P) (kR : ∀ r : (Int32 × zzMem), P r → Q (some (.int r.1)) r.2) : zz_W G m_X10_parted t t t 0 [some (.ref 73), some (.int a1), some (.int a2), none] [] M Q := by
  unfold f_X10_parted at h
  refine r_iload_n dX10_parted_0 rfl ?_
  refine tS_zr (v := f_X10_isKey a1) (as := [.int a1]) (st := []) dX10_parted_1 zM_X10_isKey zk_X10_226 ⟨Nat.le_of_ble_eq_true rfl, Nat.le_of_ble_eq_true rfl⟩ (Nat.le_of_ble_eq_true rfl) (zz_T0 rfl rfl) (fun Q' h => c_X10_isKey (a1) M h) ?_
  refine r_ifZ_eq 19 dX10_parted_4 (by decide) (fun c1 => ?_) (fun c1 => ?_)
  · have h := zK_neg h c1
    refine r_iconst (v := (-1 : Int32)) dX10_parted_19 (by decide) ?_
    exact r_iret dX10_parted_20 rfl rfl rfl (kR (((-1 : Int32), M)) (zK_some h))
  · have h := zK_pos h c1
    refine r_iload_n dX10_parted_7 rfl ?_
    refine tS_zr (v := f_X10_isKey a2) (as := [.int a2]) (st := []) dX10_parted_8 zM_X10_isKey zk_X10_226 ⟨Nat.le_of_ble_eq_true rfl, Nat.le_of_ble_eq_true rfl⟩ (Nat.le_of_ble_eq_true rfl) (zz_T0 rfl rfl) (fun Q' h => c_X10_isKey (a2) M h) ?_
    refine r_ifZ_eq 19 dX10_parted_11 (by decide) (fun c2 => ?_) (fun c2 => ?_)
    · have h := zK_neg h c2
      refine r_iconst (v := (-1 : Int32)) dX10_parted_19 (by decide) ?_
      exact r_iret dX10_parted_20 rfl rfl rfl (kR (((-1 : Int32), M)) (zK_some h))
    · have h := zK_pos h c2
      refine r_iload_n dX10_parted_14 rfl ?_
      refine r_iload_n dX10_parted_15 rfl ?_
      refine r_icmp_ne 21 dX10_parted_16 (by decide) (fun c3 => ?_) (fun c3 => ?_)
      · have h := zK_neg h c3
        refine r_aload_n dX10_parted_21 rfl ?_
        refine r_getR (k := 73) (q := 74) dX10_parted_22 zf_X10_7 (zo_X10 (zs_X10 ht)) (zr_X10_0 (zs_X10 ht)).1 (zr_X10_0 (zs_X10 ht)).2.1 (zr_X10_0 (zs_X10 ht)).2.2 ?_
        refine r_iconst (v := (nI 0)) dX10_parted_25 (by decide) ?_
        refine r_ialdc (j := 0) dX10_parted_26 (za_X10_0 (zs_X10 ht)) rfl rfl ?_
        refine r_istore_n (fun x4 => [some (.ref 73), some (.int a1), some (.int a2), some (.int x4)]) dX10_parted_27 (by decide) rfl (fun _ => rfl) (fun x4 ex4 => ?_)
        have h := zK_bd h ex4
        exact w_X10_parted_28 (a1) (a2) (x4) M ht h kR
      · have h := zK_pos h c3
        refine r_iconst (v := (-1 : Int32)) dX10_parted_19 (by decide) ?_
        exact r_iret dX10_parted_20 rfl rfl rfl (kR (((-1 : Int32), M)) (zK_some h))
set_option maxHeartbeats 4000000 in
set_option maxRecDepth 100000 in
theorem c_X10_parted {G : zzG} {t : Nat} {Q : Option Value → zzMem → Prop} (a1 : Int32) (a2 : Int32) (M : zzMem) (ht : 180 ≤ t)  {P : (Int32 × zzMem) → Prop} (h : zK (f_X10_parted a1 a2 M) P) (kR : ∀ r : (Int32 × zzMem), P r → Q (some (.int r.1)) r.2) : zz_S G m_X10_parted t t [.ref 73, .int a1, .int a2] M Q :=
  zz_S_of (by decide) (by decide) (Nat.le_of_ble_eq_true rfl) (w_X10_parted_0 a1 a2 M ht h kR)
noncomputable def b_X10_countsIn_23 (v1 : Int32) (v2 : Int32) (M : zzMem) : Option ((Int32 × zzMem) ⊕ zzMem) :=
  if (M.1 74 7) ≤ v2 then
  (some ((.inr M)))
  else (zgd (vp_in ((nI 40) + v2) 5676) (
  (f_X10_whereIn (M.1 74 (((nI 40) + v2)).toNatClampNeg) v1 M).bind (fun q3 => zpr q3 (fun r4 M5 =>
  zgd (vp_in r4 64) (
  zbd (zz_si M5 86 (r4).toNatClampNeg ((M5.1 86 (r4).toNatClampNeg) + (nI 1))) (fun M7 =>
  zbd (v2 + (nI 1)) (fun x8 =>
  some (.inl (x8, M7)))))))))
set_option maxHeartbeats 4000000 in
set_option maxRecDepth 100000 in
theorem x_X10_countsIn_23 {G : zzG} {t : Nat} {Q : Option Value → zzMem → Prop} (v1 : Int32) (v2 : Int32) (M : zzMem) (ht : 180 ≤ t)  {P : ((Int32 × zzMem) ⊕ zzMem) → Prop} (h : zK (b_X10_countsIn_23 v1 v2 M) P) (k23 : ∀ s : (Int32 × zzMem), P (.inl s) → zz_W G m_X10_countsIn t t t 23 [some (.ref 73), some (.int v1), some (.int s.1), none] [] s.2 Q) (kR : ∀ r : zzMem, P (.inr r) → Q none r) : zz_W G m_X10_countsIn t t t 23 [some (.ref 73), some (.int v1), some (.int v2), none] [] M Q := by
  unfold b_X10_countsIn_23 at h
  refine r_iload_n dX10_countsIn_23 rfl ?_
  refine r_aload_n dX10_countsIn_24 rfl ?_
  refine r_getR (k := 73) (q := 74) dX10_countsIn_25 zf_X10_7 (zo_X10 (zs_X10 ht)) (zr_X10_0 (zs_X10 ht)).1 (zr_X10_0 (zs_X10 ht)).2.1 (zr_X10_0 (zs_X10 ht)).2.2 ?_
  refine r_bipush (v := (nI 7)) dX10_countsIn_28 (by decide) ?_
  refine r_ialdc (j := 7) dX10_countsIn_30 (za_X10_0 (zs_X10 ht)) rfl rfl ?_
  refine r_icmp_ge 69 dX10_countsIn_31 (by decide) (fun c1 => ?_) (fun c1 => ?_)
  · have h := zK_pos h c1
    exact r_vret dX10_countsIn_69 rfl rfl rfl (kR (M) (zK_some h))
  · have h := zK_neg h c1
    refine r_aload_n dX10_countsIn_34 rfl ?_
    refine r_aload_n dX10_countsIn_35 rfl ?_
    refine r_getR (k := 73) (q := 74) dX10_countsIn_36 zf_X10_7 (zo_X10 (zs_X10 ht)) (zr_X10_0 (zs_X10 ht)).1 (zr_X10_0 (zs_X10 ht)).2.1 (zr_X10_0 (zs_X10 ht)).2.2 ?_
    refine r_bipush (v := (nI 40)) dX10_countsIn_39 (by decide) ?_
    refine r_iload_n dX10_countsIn_41 rfl ?_
    refine r_iadd dX10_countsIn_42 ?_
    obtain ⟨g2, h⟩ := zK_gd h
    refine r_iald dX10_countsIn_43 (za_X10_0 (zs_X10 ht)) g2 ?_
    refine r_iload_n dX10_countsIn_44 rfl ?_
    refine kV_iw (as := [.int (M.1 74 (((nI 40) + v2)).toNatClampNeg), .int v1]) (st := []) (k := 73) dX10_countsIn_45 zM_X10_whereIn zk_X10_305 (zo_X10 (zs_X10 ht)) (by decide) rfl ⟨Nat.le_of_ble_eq_true rfl, Nat.le_of_ble_eq_true rfl⟩ (Nat.le_of_ble_eq_true rfl) (zz_T0 rfl rfl) (fun Q' P' k h => c_X10_whereIn ((M.1 74 (((nI 40) + v2)).toNatClampNeg)) (v1) M ht h (fun r p => k r.1 r.2 p)) h (fun r4 M5 h => ?_)
    have h := zK_pr h
    refine s_istore_n ([some (.ref 73), some (.int v1), some (.int v2), some (.int r4)]) dX10_countsIn_48 (by decide) rfl rfl ?_
    refine r_aload_n dX10_countsIn_49 rfl ?_
    refine r_getR (k := 73) (q := 86) dX10_countsIn_50 zf_X10_47 (zo_X10 (zs_X10 ht)) (zr_X10_23 (zs_X10 ht)).1 (zr_X10_23 (zs_X10 ht)).2.1 (zr_X10_23 (zs_X10 ht)).2.2 ?_
    refine r_iload_n dX10_countsIn_53 rfl ?_
    refine r_aload_n dX10_countsIn_54 rfl ?_
    refine r_getR (k := 73) (q := 86) dX10_countsIn_55 zf_X10_47 (zo_X10 (zs_X10 ht)) (zr_X10_23 (zs_X10 ht)).1 (zr_X10_23 (zs_X10 ht)).2.1 (zr_X10_23 (zs_X10 ht)).2.2 ?_
    refine r_iload_n dX10_countsIn_58 rfl ?_
    obtain ⟨g6, h⟩ := zK_gd h
    refine r_iald dX10_countsIn_59 (za_X10_23 (zs_X10 ht)) g6 ?_
    refine r_iconst (v := (nI 1)) dX10_countsIn_60 (by decide) ?_
    refine r_iadd dX10_countsIn_61 ?_
    refine r_iast dX10_countsIn_62 (za_X10_23 (zs_X10 ht)) g6 (fun M7 eM7 => ?_)
    have h := zK_bd h eM7
    refine r_iinc (nI 1) (fun x8 => [some (.ref 73), some (.int v1), some (.int x8), some (.int r4)]) dX10_countsIn_63 rfl (by decide) (by decide) rfl (fun _ => rfl) (fun x8 ex8 => ?_)
    have h := zK_bd h ex8
    refine r_goto 23 dX10_countsIn_66 (by decide) ?_
    refine zz_mask [3] ?_
    exact k23 ((x8, M7)) (zK_some h)
noncomputable def j_X10_countsIn_23 (v1 : Int32) (v2 : Int32) (M : zzMem) : Option zzMem :=
  zlp (fun s : (Int32 × zzMem) => b_X10_countsIn_23 v1 s.1 s.2) (v2, M)
set_option maxHeartbeats 4000000 in
set_option maxRecDepth 100000 in
theorem w_X10_countsIn_23 {G : zzG} {t : Nat} {Q : Option Value → zzMem → Prop} (v1 : Int32) (v2 : Int32) (M : zzMem) (ht : 180 ≤ t)  {P : zzMem → Prop} (h : zK (j_X10_countsIn_23 v1 v2 M) P) (kR : ∀ r : zzMem, P r → Q none r) : zz_W G m_X10_countsIn t t t 23 [some (.ref 73), some (.int v1), some (.int v2), none] [] M Q := by
  unfold j_X10_countsIn_23 at h
  exact zK_lp h (fun s : (Int32 × zzMem) => zz_W G m_X10_countsIn t t t 23 [some (.ref 73), some (.int v1), some (.int s.1), none] [] s.2 Q) (fun s h => x_X10_countsIn_23 v1 s.1 s.2 ht h (fun s p => p) kR)
noncomputable def b_X10_countsIn_2 (v1 : Int32) (v2 : Int32) (M : zzMem) : Option ((Int32 × zzMem) ⊕ zzMem) :=
  if (nI 64) ≤ v2 then
  (zup (j_X10_countsIn_23 v1 (nI 0) M))
  else (zgd (vp_in v2 64) (
  zbd (zz_si M 86 (v2).toNatClampNeg (nI 0)) (fun M3 =>
  zbd (v2 + (nI 1)) (fun x4 =>
  some (.inl (x4, M3))))))
set_option maxHeartbeats 4000000 in
set_option maxRecDepth 100000 in
theorem x_X10_countsIn_2 {G : zzG} {t : Nat} {Q : Option Value → zzMem → Prop} (v1 : Int32) (v2 : Int32) (M : zzMem) (ht : 180 ≤ t)  {P : ((Int32 × zzMem) ⊕ zzMem) → Prop} (h : zK (b_X10_countsIn_2 v1 v2 M) P) (k2 : ∀ s : (Int32 × zzMem), P (.inl s) → zz_W G m_X10_countsIn t t t 2 [some (.ref 73), some (.int v1), some (.int s.1), none] [] s.2 Q) (kR : ∀ r : zzMem, P (.inr r) → Q none r) : zz_W G m_X10_countsIn t t t 2 [some (.ref 73), some (.int v1), some (.int v2), none] [] M Q := by
  unfold b_X10_countsIn_2 at h
  refine r_iload_n dX10_countsIn_2 rfl ?_
  refine r_bipush (v := (nI 64)) dX10_countsIn_3 (by decide) ?_
  refine r_icmp_ge 21 dX10_countsIn_5 (by decide) (fun c1 => ?_) (fun c1 => ?_)
  · have h := zK_pos h c1
    refine r_iconst (v := (nI 0)) dX10_countsIn_21 (by decide) ?_
    refine s_istore_n ([some (.ref 73), some (.int v1), some (.int (nI 0)), none]) dX10_countsIn_22 (by decide) rfl rfl ?_
    exact w_X10_countsIn_23 (v1) ((nI 0)) M ht (zK_up h) kR
  · have h := zK_neg h c1
    refine r_aload_n dX10_countsIn_8 rfl ?_
    refine r_getR (k := 73) (q := 86) dX10_countsIn_9 zf_X10_47 (zo_X10 (zs_X10 ht)) (zr_X10_23 (zs_X10 ht)).1 (zr_X10_23 (zs_X10 ht)).2.1 (zr_X10_23 (zs_X10 ht)).2.2 ?_
    refine r_iload_n dX10_countsIn_12 rfl ?_
    refine r_iconst (v := (nI 0)) dX10_countsIn_13 (by decide) ?_
    obtain ⟨g2, h⟩ := zK_gd h
    refine r_iast dX10_countsIn_14 (za_X10_23 (zs_X10 ht)) g2 (fun M3 eM3 => ?_)
    have h := zK_bd h eM3
    refine r_iinc (nI 1) (fun x4 => [some (.ref 73), some (.int v1), some (.int x4), none]) dX10_countsIn_15 rfl (by decide) (by decide) rfl (fun _ => rfl) (fun x4 ex4 => ?_)
    have h := zK_bd h ex4
    refine r_goto 2 dX10_countsIn_18 (by decide) ?_
    exact k2 ((x4, M3)) (zK_some h)
noncomputable def j_X10_countsIn_2 (v1 : Int32) (v2 : Int32) (M : zzMem) : Option zzMem :=
  zlp (fun s : (Int32 × zzMem) => b_X10_countsIn_2 v1 s.1 s.2) (v2, M)
set_option maxHeartbeats 4000000 in
set_option maxRecDepth 100000 in
theorem w_X10_countsIn_2 {G : zzG} {t : Nat} {Q : Option Value → zzMem → Prop} (v1 : Int32) (v2 : Int32) (M : zzMem) (ht : 180 ≤ t)  {P : zzMem → Prop} (h : zK (j_X10_countsIn_2 v1 v2 M) P) (kR : ∀ r : zzMem, P r → Q none r) : zz_W G m_X10_countsIn t t t 2 [some (.ref 73), some (.int v1), some (.int v2), none] [] M Q := by
  unfold j_X10_countsIn_2 at h
  exact zK_lp h (fun s : (Int32 × zzMem) => zz_W G m_X10_countsIn t t t 2 [some (.ref 73), some (.int v1), some (.int s.1), none] [] s.2 Q) (fun s h => x_X10_countsIn_2 v1 s.1 s.2 ht h (fun s p => p) kR)
noncomputable def f_X10_countsIn (a1 : Int32) (M : zzMem) : Option zzMem :=
  j_X10_countsIn_2 a1 (nI 0) M
set_option maxHeartbeats 4000000 in
set_option maxRecDepth 100000 in
theorem w_X10_countsIn_0 {G : zzG} {t : Nat} {Q : Option Value → zzMem → Prop} (a1 : Int32) (M : zzMem) (ht : 180 ≤ t)  {P : zzMem → Prop} (h : zK (f_X10_countsIn a1 M) P) (kR : ∀ r : zzMem, P r → Q none r) : zz_W G m_X10_countsIn t t t 0 [some (.ref 73), some (.int a1), none, none] [] M Q := by
  unfold f_X10_countsIn at h
  refine r_iconst (v := (nI 0)) dX10_countsIn_0 (by decide) ?_
  refine s_istore_n ([some (.ref 73), some (.int a1), some (.int (nI 0)), none]) dX10_countsIn_1 (by decide) rfl rfl ?_
  exact w_X10_countsIn_2 (a1) ((nI 0)) M ht h kR
set_option maxHeartbeats 4000000 in
set_option maxRecDepth 100000 in
theorem c_X10_countsIn {G : zzG} {t : Nat} {Q : Option Value → zzMem → Prop} (a1 : Int32) (M : zzMem) (ht : 180 ≤ t)  {P : zzMem → Prop} (h : zK (f_X10_countsIn a1 M) P) (kR : ∀ r : zzMem, P r → Q none r) : zz_S G m_X10_countsIn t t [.ref 73, .int a1] M Q :=
  zz_S_of (by decide) (by decide) (Nat.le_of_ble_eq_true rfl) (w_X10_countsIn_0 a1 M ht h kR)
noncomputable def b_X10_enough_36 (v1 : Int32) (v2 : Int32) (v3 : Int32) (v4 : Int32) (M : zzMem) : Option ((Int32 × Int32) ⊕ ((Int32 × zzMem) ⊕ (Int32 × zzMem))) :=
  if v2 ≤ v4 then
  (if v1 < v3 then
  (zbd (v2 + (nI 1)) (fun x3 =>
  some (.inr (.inl (x3, M)))))
  else (some ((.inr (.inr (v2, M))))))
  else (zgd (vp_in v4 64) (
  zbd ((f_X10_max v3 (M.1 86 (v4).toNatClampNeg))) (fun x5 =>
  zbd (v4 + (nI 1)) (fun x6 =>
  some (.inl (x5, x6))))))
set_option maxHeartbeats 4000000 in
set_option maxRecDepth 100000 in
theorem x_X10_enough_36 {G : zzG} {t : Nat} {Q : Option Value → zzMem → Prop} (v1 : Int32) (v2 : Int32) (v3 : Int32) (v4 : Int32) (M : zzMem) (ht : 180 ≤ t)  {P : ((Int32 × Int32) ⊕ ((Int32 × zzMem) ⊕ (Int32 × zzMem))) → Prop} (h : zK (b_X10_enough_36 v1 v2 v3 v4 M) P) (k36 : ∀ s : (Int32 × Int32), P (.inl s) → zz_W G m_X10_enough t t t 36 [some (.ref 73), some (.int v1), some (.int v2), some (.int s.1), some (.int s.2)] [] M Q) (k20 : ∀ s : (Int32 × zzMem), P (.inr (.inl s)) → zz_W G m_X10_enough t t t 20 [some (.ref 73), some (.int v1), some (.int s.1), none, none] [] s.2 Q) (kR : ∀ r : (Int32 × zzMem), P (.inr (.inr r)) → Q (some (.int r.1)) r.2) : zz_W G m_X10_enough t t t 36 [some (.ref 73), some (.int v1), some (.int v2), some (.int v3), some (.int v4)] [] M Q := by
  unfold b_X10_enough_36 at h
  refine r_iload dX10_enough_36 rfl ?_
  refine r_iload_n dX10_enough_38 rfl ?_
  refine r_icmp_ge 60 dX10_enough_39 (by decide) (fun c1 => ?_) (fun c1 => ?_)
  · have h := zK_pos h c1
    refine r_iload_n dX10_enough_60 rfl ?_
    refine r_iload_n dX10_enough_61 rfl ?_
    refine r_icmp_gt 67 dX10_enough_62 (by decide) (fun c2 => ?_) (fun c2 => ?_)
    · have h := zK_pos h c2
      refine r_iinc (nI 1) (fun x3 => [some (.ref 73), some (.int v1), some (.int x3), some (.int v3), some (.int v4)]) dX10_enough_67 rfl (by decide) (by decide) rfl (fun _ => rfl) (fun x3 ex3 => ?_)
      have h := zK_bd h ex3
      refine r_goto 20 dX10_enough_70 (by decide) ?_
      refine zz_mask [3, 4] ?_
      exact k20 ((x3, M)) (zK_some h)
    · have h := zK_neg h c2
      refine r_iload_n dX10_enough_65 rfl ?_
      exact r_iret dX10_enough_66 rfl rfl rfl (kR ((v2, M)) (zK_some h))
  · have h := zK_neg h c1
    refine r_iload_n dX10_enough_42 rfl ?_
    refine r_aload_n dX10_enough_43 rfl ?_
    refine r_getR (k := 73) (q := 86) dX10_enough_44 zf_X10_47 (zo_X10 (zs_X10 ht)) (zr_X10_23 (zs_X10 ht)).1 (zr_X10_23 (zs_X10 ht)).2.1 (zr_X10_23 (zs_X10 ht)).2.2 ?_
    refine r_iload dX10_enough_47 rfl ?_
    obtain ⟨g4, h⟩ := zK_gd h
    refine r_iald dX10_enough_49 (za_X10_23 (zs_X10 ht)) g4 ?_
    refine tS_ir (v := f_X10_max v3 (M.1 86 (v4).toNatClampNeg)) (as := [.int v3, .int (M.1 86 (v4).toNatClampNeg)]) (st := []) dX10_enough_50 zM_X10_max zk_X10_293 ⟨Nat.le_of_ble_eq_true rfl, Nat.le_of_ble_eq_true rfl⟩ (Nat.le_of_ble_eq_true rfl) (zz_T0 rfl rfl) (fun Q' h => c_X10_max (v3) ((M.1 86 (v4).toNatClampNeg)) M h) ?_
    refine r_istore_n (fun x5 => [some (.ref 73), some (.int v1), some (.int v2), some (.int x5), some (.int v4)]) dX10_enough_53 (by decide) rfl (fun _ => rfl) (fun x5 ex5 => ?_)
    have h := zK_bd h ex5
    refine r_iinc (nI 1) (fun x6 => [some (.ref 73), some (.int v1), some (.int v2), some (.int x5), some (.int x6)]) dX10_enough_54 rfl (by decide) (by decide) rfl (fun _ => rfl) (fun x6 ex6 => ?_)
    have h := zK_bd h ex6
    refine r_goto 36 dX10_enough_57 (by decide) ?_
    exact k36 ((x5, x6)) (zK_some h)
noncomputable def j_X10_enough_36 (v1 : Int32) (v2 : Int32) (v3 : Int32) (v4 : Int32) (M : zzMem) : Option ((Int32 × zzMem) ⊕ (Int32 × zzMem)) :=
  zlp (fun s : (Int32 × Int32) => b_X10_enough_36 v1 v2 s.1 s.2 M) (v3, v4)
set_option maxHeartbeats 4000000 in
set_option maxRecDepth 100000 in
theorem w_X10_enough_36 {G : zzG} {t : Nat} {Q : Option Value → zzMem → Prop} (v1 : Int32) (v2 : Int32) (v3 : Int32) (v4 : Int32) (M : zzMem) (ht : 180 ≤ t)  {P : ((Int32 × zzMem) ⊕ (Int32 × zzMem)) → Prop} (h : zK (j_X10_enough_36 v1 v2 v3 v4 M) P) (k20 : ∀ s : (Int32 × zzMem), P (.inl s) → zz_W G m_X10_enough t t t 20 [some (.ref 73), some (.int v1), some (.int s.1), none, none] [] s.2 Q) (kR : ∀ r : (Int32 × zzMem), P (.inr r) → Q (some (.int r.1)) r.2) : zz_W G m_X10_enough t t t 36 [some (.ref 73), some (.int v1), some (.int v2), some (.int v3), some (.int v4)] [] M Q := by
  unfold j_X10_enough_36 at h
  exact zK_lp h (fun s : (Int32 × Int32) => zz_W G m_X10_enough t t t 36 [some (.ref 73), some (.int v1), some (.int v2), some (.int s.1), some (.int s.2)] [] M Q) (fun s h => x_X10_enough_36 v1 v2 s.1 s.2 M ht h (fun s p => p) k20 kR)
noncomputable def b_X10_enough_20 (v1 : Int32) (v2 : Int32) (M : zzMem) : Option ((Int32 × zzMem) ⊕ (Int32 × zzMem)) :=
  if (nI 64) < v2 then
  (some ((.inr ((-2 : Int32), M))))
  else ((f_X10_countsIn v2 M).bind (fun M2 =>
  j_X10_enough_36 v1 v2 (nI 0) (nI 0) M2))
set_option maxHeartbeats 4000000 in
set_option maxRecDepth 100000 in
theorem x_X10_enough_20 {G : zzG} {t : Nat} {Q : Option Value → zzMem → Prop} (v1 : Int32) (v2 : Int32) (M : zzMem) (ht : 180 ≤ t)  {P : ((Int32 × zzMem) ⊕ (Int32 × zzMem)) → Prop} (h : zK (b_X10_enough_20 v1 v2 M) P) (k20 : ∀ s : (Int32 × zzMem), P (.inl s) → zz_W G m_X10_enough t t t 20 [some (.ref 73), some (.int v1), some (.int s.1), none, none] [] s.2 Q) (kR : ∀ r : (Int32 × zzMem), P (.inr r) → Q (some (.int r.1)) r.2) : zz_W G m_X10_enough t t t 20 [some (.ref 73), some (.int v1), some (.int v2), none, none] [] M Q := by
  unfold b_X10_enough_20 at h
  refine r_iload_n dX10_enough_20 rfl ?_
  refine r_bipush (v := (nI 64)) dX10_enough_21 (by decide) ?_
  refine r_icmp_gt 73 dX10_enough_23 (by decide) (fun c1 => ?_) (fun c1 => ?_)
  · have h := zK_pos h c1
    refine r_bipush (v := (-2 : Int32)) dX10_enough_73 (by decide) ?_
    exact r_iret dX10_enough_75 rfl rfl rfl (kR (((-2 : Int32), M)) (zK_some h))
  · have h := zK_neg h c1
    refine r_aload_n dX10_enough_26 rfl ?_
    refine r_iload_n dX10_enough_27 rfl ?_
    refine kV_vw (as := [.int v2]) (st := []) (k := 73) dX10_enough_28 zM_X10_countsIn zk_X10_326 (zo_X10 (zs_X10 ht)) (by decide) rfl ⟨Nat.le_of_ble_eq_true rfl, Nat.le_of_ble_eq_true rfl⟩ (Nat.le_of_ble_eq_true rfl) (zz_T0 rfl rfl) (fun Q' P' k h => c_X10_countsIn (v2) M ht h k) h (fun M2 h => ?_)
    refine r_iconst (v := (nI 0)) dX10_enough_31 (by decide) ?_
    refine s_istore_n ([some (.ref 73), some (.int v1), some (.int v2), some (.int (nI 0)), none]) dX10_enough_32 (by decide) rfl rfl ?_
    refine r_iconst (v := (nI 0)) dX10_enough_33 (by decide) ?_
    refine s_istore ([some (.ref 73), some (.int v1), some (.int v2), some (.int (nI 0)), some (.int (nI 0))]) dX10_enough_34 (by decide) rfl rfl ?_
    exact w_X10_enough_36 (v1) (v2) ((nI 0)) ((nI 0)) M2 ht h k20 kR
noncomputable def j_X10_enough_20 (v1 : Int32) (v2 : Int32) (M : zzMem) : Option (Int32 × zzMem) :=
  zlp (fun s : (Int32 × zzMem) => b_X10_enough_20 v1 s.1 s.2) (v2, M)
set_option maxHeartbeats 4000000 in
set_option maxRecDepth 100000 in
theorem w_X10_enough_20 {G : zzG} {t : Nat} {Q : Option Value → zzMem → Prop} (v1 : Int32) (v2 : Int32) (M : zzMem) (ht : 180 ≤ t)  {P : (Int32 × zzMem) → Prop} (h : zK (j_X10_enough_20 v1 v2 M) P) (kR : ∀ r : (Int32 × zzMem), P r → Q (some (.int r.1)) r.2) : zz_W G m_X10_enough t t t 20 [some (.ref 73), some (.int v1), some (.int v2), none, none] [] M Q := by
  unfold j_X10_enough_20 at h
  exact zK_lp h (fun s : (Int32 × zzMem) => zz_W G m_X10_enough t t t 20 [some (.ref 73), some (.int v1), some (.int s.1), none, none] [] s.2 Q) (fun s h => x_X10_enough_20 v1 s.1 s.2 ht h (fun s p => p) kR)
noncomputable def f_X10_enough (a1 : Int32) (M : zzMem) : Option (Int32 × zzMem) :=
  if (f_X10_in a1 (nI 1) (nI 300)) = true then
  (zbd ((M.1 74 0)) (fun x2 =>
  j_X10_enough_20 a1 x2 M))
  else (some (((-1 : Int32), M)))
set_option maxHeartbeats 4000000 in
set_option maxRecDepth 100000 in
theorem w_X10_enough_0 {G : zzG} {t : Nat} {Q : Option Value → zzMem → Prop} (a1 : Int32) (M : zzMem) (ht : 180 ≤ t)  {P : (Int32 × zzMem) → Prop} (h : zK (f_X10_enough a1 M) P) (kR : ∀ r : (Int32 × zzMem), P r → Q (some (.int r.1)) r.2) : zz_W G m_X10_enough t t t 0 [some (.ref 73), some (.int a1), none, none, none] [] M Q := by
  unfold f_X10_enough at h
  refine r_iload_n dX10_enough_0 rfl ?_
  refine r_iconst (v := (nI 1)) dX10_enough_1 (by decide) ?_
  refine r_sipush (v := (nI 300)) dX10_enough_2 (by decide) ?_
  refine tS_zr (v := f_X10_in a1 (nI 1) (nI 300)) (as := [.int a1, .int (nI 1), .int (nI 300)]) (st := []) dX10_enough_5 zM_X10_in zk_X10_67 ⟨Nat.le_of_ble_eq_true rfl, Nat.le_of_ble_eq_true rfl⟩ (Nat.le_of_ble_eq_true rfl) (zz_T0 rfl rfl) (fun Q' h => c_X10_in (a1) ((nI 1)) ((nI 300)) M h) ?_
  refine r_ifZ_ne 13 dX10_enough_8 (by decide) (fun c1 => ?_) (fun c1 => ?_)
  · have h := zK_pos h c1
    refine r_aload_n dX10_enough_13 rfl ?_
    refine r_getR (k := 73) (q := 74) dX10_enough_14 zf_X10_7 (zo_X10 (zs_X10 ht)) (zr_X10_0 (zs_X10 ht)).1 (zr_X10_0 (zs_X10 ht)).2.1 (zr_X10_0 (zs_X10 ht)).2.2 ?_
    refine r_iconst (v := (nI 0)) dX10_enough_17 (by decide) ?_
    refine r_ialdc (j := 0) dX10_enough_18 (za_X10_0 (zs_X10 ht)) rfl rfl ?_
    refine r_istore_n (fun x2 => [some (.ref 73), some (.int a1), some (.int x2), none, none]) dX10_enough_19 (by decide) rfl (fun _ => rfl) (fun x2 ex2 => ?_)
    have h := zK_bd h ex2
    exact w_X10_enough_20 (a1) (x2) M ht h kR
  · have h := zK_neg h c1
    refine r_iconst (v := (-1 : Int32)) dX10_enough_11 (by decide) ?_
    exact r_iret dX10_enough_12 rfl rfl rfl (kR (((-1 : Int32), M)) (zK_some h))
set_option maxHeartbeats 4000000 in
set_option maxRecDepth 100000 in
theorem c_X10_enough {G : zzG} {t : Nat} {Q : Option Value → zzMem → Prop} (a1 : Int32) (M : zzMem) (ht : 180 ≤ t)  {P : (Int32 × zzMem) → Prop} (h : zK (f_X10_enough a1 M) P) (kR : ∀ r : (Int32 × zzMem), P r → Q (some (.int r.1)) r.2) : zz_S G m_X10_enough t t [.ref 73, .int a1] M Q :=
  zz_S_of (by decide) (by decide) (Nat.le_of_ble_eq_true rfl) (w_X10_enough_0 a1 M ht h kR)
noncomputable def b_X10_anew_106 (v1 : Int32) (v2 : Int32) (v3 : Int32) (v4 : Int32) (v5 : Int32) (v6 : Int32) (v7 : Int32) (v9 : Int32) (M : zzMem) : Option ((Int32 × Int32) ⊕ ((Int32 × Int32 × Int32 × Int32 × Int32) ⊕ (Int32 × zzMem))) :=
  zgd (vp_in v7 64) (
  if (M.1 86 (v7).toNatClampNeg) ≤ v9 then
  (zbd (v7 + (nI 1)) (fun x3 =>
  some (.inr (.inl (v3, v4, v5, v6, x3)))))
  else (zgd (¬ (M.1 74 1) = 0) (
  zbd (((v6 + (v9 / (M.1 74 1))) + (nI 1))) (fun x5 =>
  zbd (v9 + (nI 1)) (fun x6 =>
  some (.inl (x5, x6)))))))
set_option maxHeartbeats 4000000 in
set_option maxRecDepth 100000 in
theorem x_X10_anew_106 {G : zzG} {t : Nat} {Q : Option Value → zzMem → Prop} (v1 : Int32) (v2 : Int32) (v3 : Int32) (v4 : Int32) (v5 : Int32) (v6 : Int32) (v7 : Int32) (v9 : Int32) (M : zzMem) (ht : 180 ≤ t)  {P : ((Int32 × Int32) ⊕ ((Int32 × Int32 × Int32 × Int32 × Int32) ⊕ (Int32 × zzMem))) → Prop} (h : zK (b_X10_anew_106 v1 v2 v3 v4 v5 v6 v7 v9 M) P) (k106 : ∀ s : (Int32 × Int32), P (.inl s) → zz_W G m_X10_anew t t t 106 [some (.ref 73), some (.int v1), some (.int v2), some (.int v3), some (.int v4), some (.int v5), some (.int s.1), some (.int v7), none, some (.int s.2)] [] M Q) (k38 : ∀ s : (Int32 × Int32 × Int32 × Int32 × Int32), P (.inr (.inl s)) → zz_W G m_X10_anew t t t 38 [some (.ref 73), some (.int v1), some (.int v2), some (.int s.1), some (.int s.2.1), some (.int s.2.2.1), some (.int s.2.2.2.1), some (.int s.2.2.2.2), none, none] [] M Q) (kR : ∀ r : (Int32 × zzMem), P (.inr (.inr r)) → Q (some (.int r.1)) r.2) : zz_W G m_X10_anew t t t 106 [some (.ref 73), some (.int v1), some (.int v2), some (.int v3), some (.int v4), some (.int v5), some (.int v6), some (.int v7), none, some (.int v9)] [] M Q := by
  unfold b_X10_anew_106 at h
  refine r_iload dX10_anew_106 rfl ?_
  refine r_aload_n dX10_anew_108 rfl ?_
  refine r_getR (k := 73) (q := 86) dX10_anew_109 zf_X10_47 (zo_X10 (zs_X10 ht)) (zr_X10_23 (zs_X10 ht)).1 (zr_X10_23 (zs_X10 ht)).2.1 (zr_X10_23 (zs_X10 ht)).2.2 ?_
  refine r_iload dX10_anew_112 rfl ?_
  obtain ⟨g1, h⟩ := zK_gd h
  refine r_iald dX10_anew_114 (za_X10_23 (zs_X10 ht)) g1 ?_
  refine r_icmp_ge 140 dX10_anew_115 (by decide) (fun c2 => ?_) (fun c2 => ?_)
  · have h := zK_pos h c2
    refine r_iinc (nI 1) (fun x3 => [some (.ref 73), some (.int v1), some (.int v2), some (.int v3), some (.int v4), some (.int v5), some (.int v6), some (.int x3), none, some (.int v9)]) dX10_anew_140 rfl (by decide) (by decide) rfl (fun _ => rfl) (fun x3 ex3 => ?_)
    have h := zK_bd h ex3
    refine r_goto 38 dX10_anew_143 (by decide) ?_
    refine zz_mask [9] ?_
    exact k38 ((v3, v4, v5, v6, x3)) (zK_some h)
  · have h := zK_neg h c2
    refine r_iload dX10_anew_118 rfl ?_
    refine r_iload dX10_anew_120 rfl ?_
    refine r_aload_n dX10_anew_122 rfl ?_
    refine r_getR (k := 73) (q := 74) dX10_anew_123 zf_X10_7 (zo_X10 (zs_X10 ht)) (zr_X10_0 (zs_X10 ht)).1 (zr_X10_0 (zs_X10 ht)).2.1 (zr_X10_0 (zs_X10 ht)).2.2 ?_
    refine r_iconst (v := (nI 1)) dX10_anew_126 (by decide) ?_
    refine r_ialdc (j := 1) dX10_anew_127 (za_X10_0 (zs_X10 ht)) rfl rfl ?_
    obtain ⟨g4, h⟩ := zK_gd h
    refine r_idiv dX10_anew_128 g4 ?_
    refine r_iadd dX10_anew_129 ?_
    refine r_iconst (v := (nI 1)) dX10_anew_130 (by decide) ?_
    refine r_iadd dX10_anew_131 ?_
    refine r_istore (fun x5 => [some (.ref 73), some (.int v1), some (.int v2), some (.int v3), some (.int v4), some (.int v5), some (.int x5), some (.int v7), none, some (.int v9)]) dX10_anew_132 (by decide) rfl (fun _ => rfl) (fun x5 ex5 => ?_)
    have h := zK_bd h ex5
    refine r_iinc (nI 1) (fun x6 => [some (.ref 73), some (.int v1), some (.int v2), some (.int v3), some (.int v4), some (.int v5), some (.int x5), some (.int v7), none, some (.int x6)]) dX10_anew_134 rfl (by decide) (by decide) rfl (fun _ => rfl) (fun x6 ex6 => ?_)
    have h := zK_bd h ex6
    refine r_goto 106 dX10_anew_137 (by decide) ?_
    exact k106 ((x5, x6)) (zK_some h)
noncomputable def j_X10_anew_106 (v1 : Int32) (v2 : Int32) (v3 : Int32) (v4 : Int32) (v5 : Int32) (v6 : Int32) (v7 : Int32) (v9 : Int32) (M : zzMem) : Option ((Int32 × Int32 × Int32 × Int32 × Int32) ⊕ (Int32 × zzMem)) :=
  zlp (fun s : (Int32 × Int32) => b_X10_anew_106 v1 v2 v3 v4 v5 s.1 v7 s.2 M) (v6, v9)
set_option maxHeartbeats 4000000 in
set_option maxRecDepth 100000 in
theorem w_X10_anew_106 {G : zzG} {t : Nat} {Q : Option Value → zzMem → Prop} (v1 : Int32) (v2 : Int32) (v3 : Int32) (v4 : Int32) (v5 : Int32) (v6 : Int32) (v7 : Int32) (v9 : Int32) (M : zzMem) (ht : 180 ≤ t)  {P : ((Int32 × Int32 × Int32 × Int32 × Int32) ⊕ (Int32 × zzMem)) → Prop} (h : zK (j_X10_anew_106 v1 v2 v3 v4 v5 v6 v7 v9 M) P) (k38 : ∀ s : (Int32 × Int32 × Int32 × Int32 × Int32), P (.inl s) → zz_W G m_X10_anew t t t 38 [some (.ref 73), some (.int v1), some (.int v2), some (.int s.1), some (.int s.2.1), some (.int s.2.2.1), some (.int s.2.2.2.1), some (.int s.2.2.2.2), none, none] [] M Q) (kR : ∀ r : (Int32 × zzMem), P (.inr r) → Q (some (.int r.1)) r.2) : zz_W G m_X10_anew t t t 106 [some (.ref 73), some (.int v1), some (.int v2), some (.int v3), some (.int v4), some (.int v5), some (.int v6), some (.int v7), none, some (.int v9)] [] M Q := by
  unfold j_X10_anew_106 at h
  exact zK_lp h (fun s : (Int32 × Int32) => zz_W G m_X10_anew t t t 106 [some (.ref 73), some (.int v1), some (.int v2), some (.int v3), some (.int v4), some (.int v5), some (.int s.1), some (.int v7), none, some (.int s.2)] [] M Q) (fun s h => x_X10_anew_106 v1 v2 v3 v4 v5 s.1 v7 s.2 M ht h (fun s p => p) k38 kR)
noncomputable def j_X10_anew_103 (v1 : Int32) (v2 : Int32) (v3 : Int32) (v4 : Int32) (v5 : Int32) (v6 : Int32) (v7 : Int32) (M : zzMem) : Option ((Int32 × Int32 × Int32 × Int32 × Int32) ⊕ (Int32 × zzMem)) :=
  j_X10_anew_106 v1 v2 v3 v4 v5 v6 v7 (nI 0) M
set_option maxHeartbeats 4000000 in
set_option maxRecDepth 100000 in
theorem w_X10_anew_103 {G : zzG} {t : Nat} {Q : Option Value → zzMem → Prop} (v1 : Int32) (v2 : Int32) (v3 : Int32) (v4 : Int32) (v5 : Int32) (v6 : Int32) (v7 : Int32) (M : zzMem) (ht : 180 ≤ t)  {P : ((Int32 × Int32 × Int32 × Int32 × Int32) ⊕ (Int32 × zzMem)) → Prop} (h : zK (j_X10_anew_103 v1 v2 v3 v4 v5 v6 v7 M) P) (k38 : ∀ s : (Int32 × Int32 × Int32 × Int32 × Int32), P (.inl s) → zz_W G m_X10_anew t t t 38 [some (.ref 73), some (.int v1), some (.int v2), some (.int s.1), some (.int s.2.1), some (.int s.2.2.1), some (.int s.2.2.2.1), some (.int s.2.2.2.2), none, none] [] M Q) (kR : ∀ r : (Int32 × zzMem), P (.inr r) → Q (some (.int r.1)) r.2) : zz_W G m_X10_anew t t t 103 [some (.ref 73), some (.int v1), some (.int v2), some (.int v3), some (.int v4), some (.int v5), some (.int v6), some (.int v7), none, none] [] M Q := by
  unfold j_X10_anew_103 at h
  refine r_iconst (v := (nI 0)) dX10_anew_103 (by decide) ?_
  refine s_istore ([some (.ref 73), some (.int v1), some (.int v2), some (.int v3), some (.int v4), some (.int v5), some (.int v6), some (.int v7), none, some (.int (nI 0))]) dX10_anew_104 (by decide) rfl rfl ?_
  exact w_X10_anew_106 (v1) (v2) (v3) (v4) (v5) (v6) (v7) ((nI 0)) M ht h k38 kR
noncomputable def b_X10_anew_38 (v1 : Int32) (v2 : Int32) (v3 : Int32) (v4 : Int32) (v5 : Int32) (v6 : Int32) (v7 : Int32) (M : zzMem) : Option ((Int32 × Int32 × Int32 × Int32 × Int32) ⊕ (Int32 × zzMem)) :=
  if v1 ≤ v7 then
  (if v2 = 0 then
  (some ((.inr (v3, M))))
  else (if v2 = (nI 1) then
  (some ((.inr (v4, M))))
  else (if v2 = (nI 2) then
  (some ((.inr (v5, M))))
  else (some ((.inr (v6, M)))))))
  else (zgd (vp_in v7 64) (
  zgd (¬ (M.1 74 1) = 0) (
  zbd ((f_X10_max (nI 1) ((((M.1 86 (v7).toNatClampNeg) + (M.1 74 1)) - (nI 1)) / (M.1 74 1)))) (fun x7 =>
  zbd ((v3 + x7)) (fun x8 =>
  zbd ((f_X10_max v4 x7)) (fun x9 =>
  if (M.1 86 (v7).toNatClampNeg) = 0 then
  (zbd ((v5 + (nI 1))) (fun x11 =>
  j_X10_anew_103 v1 v2 x8 x9 x11 v6 v7 M))
  else (j_X10_anew_103 v1 v2 x8 x9 v5 v6 v7 M)))))))
set_option maxHeartbeats 4000000 in
set_option maxRecDepth 100000 in
theorem x_X10_anew_38 {G : zzG} {t : Nat} {Q : Option Value → zzMem → Prop} (v1 : Int32) (v2 : Int32) (v3 : Int32) (v4 : Int32) (v5 : Int32) (v6 : Int32) (v7 : Int32) (M : zzMem) (ht : 180 ≤ t)  {P : ((Int32 × Int32 × Int32 × Int32 × Int32) ⊕ (Int32 × zzMem)) → Prop} (h : zK (b_X10_anew_38 v1 v2 v3 v4 v5 v6 v7 M) P) (k38 : ∀ s : (Int32 × Int32 × Int32 × Int32 × Int32), P (.inl s) → zz_W G m_X10_anew t t t 38 [some (.ref 73), some (.int v1), some (.int v2), some (.int s.1), some (.int s.2.1), some (.int s.2.2.1), some (.int s.2.2.2.1), some (.int s.2.2.2.2), none, none] [] M Q) (kR : ∀ r : (Int32 × zzMem), P (.inr r) → Q (some (.int r.1)) r.2) : zz_W G m_X10_anew t t t 38 [some (.ref 73), some (.int v1), some (.int v2), some (.int v3), some (.int v4), some (.int v5), some (.int v6), some (.int v7), none, none] [] M Q := by
  unfold b_X10_anew_38 at h
  refine r_iload dX10_anew_38 rfl ?_
  refine r_iload_n dX10_anew_40 rfl ?_
  refine r_icmp_ge 146 dX10_anew_41 (by decide) (fun c1 => ?_) (fun c1 => ?_)
  · have h := zK_pos h c1
    refine r_iload_n dX10_anew_146 rfl ?_
    refine r_if_ne 154 dX10_anew_147 (by decide) (fun c2 => ?_) (fun c2 => ?_)
    · have h := zK_neg h c2
      refine r_iload_n dX10_anew_154 rfl ?_
      refine r_iconst (v := (nI 1)) dX10_anew_155 (by decide) ?_
      refine r_icmp_ne 164 dX10_anew_156 (by decide) (fun c3 => ?_) (fun c3 => ?_)
      · have h := zK_neg h c3
        refine r_iload_n dX10_anew_164 rfl ?_
        refine r_iconst (v := (nI 2)) dX10_anew_165 (by decide) ?_
        refine r_icmp_ne 174 dX10_anew_166 (by decide) (fun c4 => ?_) (fun c4 => ?_)
        · have h := zK_neg h c4
          refine r_iload dX10_anew_174 rfl ?_
          exact r_iret dX10_anew_176 rfl rfl rfl (kR ((v6, M)) (zK_some h))
        · have h := zK_pos h c4
          refine r_iload dX10_anew_169 rfl ?_
          refine r_goto 176 dX10_anew_171 (by decide) ?_
          exact r_iret dX10_anew_176 rfl rfl rfl (kR ((v5, M)) (zK_some h))
      · have h := zK_pos h c3
        refine r_iload dX10_anew_159 rfl ?_
        refine r_goto 176 dX10_anew_161 (by decide) ?_
        exact r_iret dX10_anew_176 rfl rfl rfl (kR ((v4, M)) (zK_some h))
    · have h := zK_pos h c2
      refine r_iload_n dX10_anew_150 rfl ?_
      refine r_goto 176 dX10_anew_151 (by decide) ?_
      exact r_iret dX10_anew_176 rfl rfl rfl (kR ((v3, M)) (zK_some h))
  · have h := zK_neg h c1
    refine r_iconst (v := (nI 1)) dX10_anew_44 (by decide) ?_
    refine r_aload_n dX10_anew_45 rfl ?_
    refine r_getR (k := 73) (q := 86) dX10_anew_46 zf_X10_47 (zo_X10 (zs_X10 ht)) (zr_X10_23 (zs_X10 ht)).1 (zr_X10_23 (zs_X10 ht)).2.1 (zr_X10_23 (zs_X10 ht)).2.2 ?_
    refine r_iload dX10_anew_49 rfl ?_
    obtain ⟨g5, h⟩ := zK_gd h
    refine r_iald dX10_anew_51 (za_X10_23 (zs_X10 ht)) g5 ?_
    refine r_aload_n dX10_anew_52 rfl ?_
    refine r_getR (k := 73) (q := 74) dX10_anew_53 zf_X10_7 (zo_X10 (zs_X10 ht)) (zr_X10_0 (zs_X10 ht)).1 (zr_X10_0 (zs_X10 ht)).2.1 (zr_X10_0 (zs_X10 ht)).2.2 ?_
    refine r_iconst (v := (nI 1)) dX10_anew_56 (by decide) ?_
    refine r_ialdc (j := 1) dX10_anew_57 (za_X10_0 (zs_X10 ht)) rfl rfl ?_
    refine r_iadd dX10_anew_58 ?_
    refine r_iconst (v := (nI 1)) dX10_anew_59 (by decide) ?_
    refine r_isub dX10_anew_60 ?_
    refine r_aload_n dX10_anew_61 rfl ?_
    refine r_getR (k := 73) (q := 74) dX10_anew_62 zf_X10_7 (zo_X10 (zs_X10 ht)) (zr_X10_0 (zs_X10 ht)).1 (zr_X10_0 (zs_X10 ht)).2.1 (zr_X10_0 (zs_X10 ht)).2.2 ?_
    refine r_iconst (v := (nI 1)) dX10_anew_65 (by decide) ?_
    refine r_ialdc (j := 1) dX10_anew_66 (za_X10_0 (zs_X10 ht)) rfl rfl ?_
    obtain ⟨g6, h⟩ := zK_gd h
    refine r_idiv dX10_anew_67 g6 ?_
    refine tS_ir (v := f_X10_max (nI 1) ((((M.1 86 (v7).toNatClampNeg) + (M.1 74 1)) - (nI 1)) / (M.1 74 1))) (as := [.int (nI 1), .int ((((M.1 86 (v7).toNatClampNeg) + (M.1 74 1)) - (nI 1)) / (M.1 74 1))]) (st := []) dX10_anew_68 zM_X10_max zk_X10_293 ⟨Nat.le_of_ble_eq_true rfl, Nat.le_of_ble_eq_true rfl⟩ (Nat.le_of_ble_eq_true rfl) (zz_T0 rfl rfl) (fun Q' h => c_X10_max ((nI 1)) (((((M.1 86 (v7).toNatClampNeg) + (M.1 74 1)) - (nI 1)) / (M.1 74 1))) M h) ?_
    refine r_istore (fun x7 => [some (.ref 73), some (.int v1), some (.int v2), some (.int v3), some (.int v4), some (.int v5), some (.int v6), some (.int v7), some (.int x7), none]) dX10_anew_71 (by decide) rfl (fun _ => rfl) (fun x7 ex7 => ?_)
    have h := zK_bd h ex7
    refine r_iload_n dX10_anew_73 rfl ?_
    refine r_iload dX10_anew_74 rfl ?_
    refine r_iadd dX10_anew_76 ?_
    refine r_istore_n (fun x8 => [some (.ref 73), some (.int v1), some (.int v2), some (.int x8), some (.int v4), some (.int v5), some (.int v6), some (.int v7), some (.int x7), none]) dX10_anew_77 (by decide) rfl (fun _ => rfl) (fun x8 ex8 => ?_)
    have h := zK_bd h ex8
    refine r_iload dX10_anew_78 rfl ?_
    refine r_iload dX10_anew_80 rfl ?_
    refine tS_ir (v := f_X10_max v4 x7) (as := [.int v4, .int x7]) (st := []) dX10_anew_82 zM_X10_max zk_X10_293 ⟨Nat.le_of_ble_eq_true rfl, Nat.le_of_ble_eq_true rfl⟩ (Nat.le_of_ble_eq_true rfl) (zz_T0 rfl rfl) (fun Q' h => c_X10_max (v4) (x7) M h) ?_
    refine r_istore (fun x9 => [some (.ref 73), some (.int v1), some (.int v2), some (.int x8), some (.int x9), some (.int v5), some (.int v6), some (.int v7), some (.int x7), none]) dX10_anew_85 (by decide) rfl (fun _ => rfl) (fun x9 ex9 => ?_)
    have h := zK_bd h ex9
    refine r_aload_n dX10_anew_87 rfl ?_
    refine r_getR (k := 73) (q := 86) dX10_anew_88 zf_X10_47 (zo_X10 (zs_X10 ht)) (zr_X10_23 (zs_X10 ht)).1 (zr_X10_23 (zs_X10 ht)).2.1 (zr_X10_23 (zs_X10 ht)).2.2 ?_
    refine r_iload dX10_anew_91 rfl ?_
    refine r_iald dX10_anew_93 (za_X10_23 (zs_X10 ht)) g5 ?_
    refine r_if_ne 103 dX10_anew_94 (by decide) (fun c10 => ?_) (fun c10 => ?_)
    · have h := zK_neg h c10
      refine zz_mask [8] ?_
      exact w_X10_anew_103 (v1) (v2) (x8) (x9) (v5) (v6) (v7) M ht h k38 kR
    · have h := zK_pos h c10
      refine r_iload dX10_anew_97 rfl ?_
      refine r_iconst (v := (nI 1)) dX10_anew_99 (by decide) ?_
      refine r_iadd dX10_anew_100 ?_
      refine r_istore (fun x11 => [some (.ref 73), some (.int v1), some (.int v2), some (.int x8), some (.int x9), some (.int x11), some (.int v6), some (.int v7), some (.int x7), none]) dX10_anew_101 (by decide) rfl (fun _ => rfl) (fun x11 ex11 => ?_)
      have h := zK_bd h ex11
      refine zz_mask [8] ?_
      exact w_X10_anew_103 (v1) (v2) (x8) (x9) (x11) (v6) (v7) M ht h k38 kR
noncomputable def j_X10_anew_38 (v1 : Int32) (v2 : Int32) (v3 : Int32) (v4 : Int32) (v5 : Int32) (v6 : Int32) (v7 : Int32) (M : zzMem) : Option (Int32 × zzMem) :=
  zlp (fun s : (Int32 × Int32 × Int32 × Int32 × Int32) => b_X10_anew_38 v1 v2 s.1 s.2.1 s.2.2.1 s.2.2.2.1 s.2.2.2.2 M) (v3, v4, v5, v6, v7)
set_option maxHeartbeats 4000000 in
set_option maxRecDepth 100000 in
theorem w_X10_anew_38 {G : zzG} {t : Nat} {Q : Option Value → zzMem → Prop} (v1 : Int32) (v2 : Int32) (v3 : Int32) (v4 : Int32) (v5 : Int32) (v6 : Int32) (v7 : Int32) (M : zzMem) (ht : 180 ≤ t)  {P : (Int32 × zzMem) → Prop} (h : zK (j_X10_anew_38 v1 v2 v3 v4 v5 v6 v7 M) P) (kR : ∀ r : (Int32 × zzMem), P r → Q (some (.int r.1)) r.2) : zz_W G m_X10_anew t t t 38 [some (.ref 73), some (.int v1), some (.int v2), some (.int v3), some (.int v4), some (.int v5), some (.int v6), some (.int v7), none, none] [] M Q := by
  unfold j_X10_anew_38 at h
  exact zK_lp h (fun s : (Int32 × Int32 × Int32 × Int32 × Int32) => zz_W G m_X10_anew t t t 38 [some (.ref 73), some (.int v1), some (.int v2), some (.int s.1), some (.int s.2.1), some (.int s.2.2.1), some (.int s.2.2.2.1), some (.int s.2.2.2.2), none, none] [] M Q) (fun s h => x_X10_anew_38 v1 v2 s.1 s.2.1 s.2.2.1 s.2.2.2.1 s.2.2.2.2 M ht h (fun s p => p) kR)
noncomputable def f_X10_anew (a1 : Int32) (a2 : Int32) (M : zzMem) : Option (Int32 × zzMem) :=
  (f_X10_isMany a1 M).bind (fun r1 =>
  if r1 = true then
  (if (f_X10_in a2 (nI 0) (nI 3)) = true then
  ((f_X10_countsIn a1 M).bind (fun M4 =>
  j_X10_anew_38 a1 a2 (nI 0) (nI 0) (nI 0) (nI 0) (nI 0) M4))
  else (some (((-1 : Int32), M))))
  else (some (((-1 : Int32), M))))
set_option maxHeartbeats 4000000 in
set_option maxRecDepth 100000 in
theorem w_X10_anew_0 {G : zzG} {t : Nat} {Q : Option Value → zzMem → Prop} (a1 : Int32) (a2 : Int32) (M : zzMem) (ht : 180 ≤ t)  {P : (Int32 × zzMem) → Prop} (h : zK (f_X10_anew a1 a2 M) P) (kR : ∀ r : (Int32 × zzMem), P r → Q (some (.int r.1)) r.2) : zz_W G m_X10_anew t t t 0 [some (.ref 73), some (.int a1), some (.int a2), none, none, none, none, none, none, none] [] M Q := by
  unfold f_X10_anew at h
  refine r_aload_n dX10_anew_0 rfl ?_
  refine r_iload_n dX10_anew_1 rfl ?_
  refine kV_zr (as := [.int a1]) (st := []) (k := 73) dX10_anew_2 zM_X10_isMany zk_X10_311 (zo_X10 (zs_X10 ht)) (by decide) rfl ⟨Nat.le_of_ble_eq_true rfl, Nat.le_of_ble_eq_true rfl⟩ (Nat.le_of_ble_eq_true rfl) (zz_T0 rfl rfl) (fun Q' P' k h => c_X10_isMany (a1) M ht h k) h (fun r1 h => ?_)
  refine r_ifZ_eq 17 dX10_anew_5 (by decide) (fun c2 => ?_) (fun c2 => ?_)
  · have h := zK_neg h c2
    refine r_iconst (v := (-1 : Int32)) dX10_anew_17 (by decide) ?_
    exact r_iret dX10_anew_18 rfl rfl rfl (kR (((-1 : Int32), M)) (zK_some h))
  · have h := zK_pos h c2
    refine r_iload_n dX10_anew_8 rfl ?_
    refine r_iconst (v := (nI 0)) dX10_anew_9 (by decide) ?_
    refine r_iconst (v := (nI 3)) dX10_anew_10 (by decide) ?_
    refine tS_zr (v := f_X10_in a2 (nI 0) (nI 3)) (as := [.int a2, .int (nI 0), .int (nI 3)]) (st := []) dX10_anew_11 zM_X10_in zk_X10_67 ⟨Nat.le_of_ble_eq_true rfl, Nat.le_of_ble_eq_true rfl⟩ (Nat.le_of_ble_eq_true rfl) (zz_T0 rfl rfl) (fun Q' h => c_X10_in (a2) ((nI 0)) ((nI 3)) M h) ?_
    refine r_ifZ_ne 19 dX10_anew_14 (by decide) (fun c3 => ?_) (fun c3 => ?_)
    · have h := zK_pos h c3
      refine r_aload_n dX10_anew_19 rfl ?_
      refine r_iload_n dX10_anew_20 rfl ?_
      refine kV_vw (as := [.int a1]) (st := []) (k := 73) dX10_anew_21 zM_X10_countsIn zk_X10_326 (zo_X10 (zs_X10 ht)) (by decide) rfl ⟨Nat.le_of_ble_eq_true rfl, Nat.le_of_ble_eq_true rfl⟩ (Nat.le_of_ble_eq_true rfl) (zz_T0 rfl rfl) (fun Q' P' k h => c_X10_countsIn (a1) M ht h k) h (fun M4 h => ?_)
      refine r_iconst (v := (nI 0)) dX10_anew_24 (by decide) ?_
      refine s_istore_n ([some (.ref 73), some (.int a1), some (.int a2), some (.int (nI 0)), none, none, none, none, none, none]) dX10_anew_25 (by decide) rfl rfl ?_
      refine r_iconst (v := (nI 0)) dX10_anew_26 (by decide) ?_
      refine s_istore ([some (.ref 73), some (.int a1), some (.int a2), some (.int (nI 0)), some (.int (nI 0)), none, none, none, none, none]) dX10_anew_27 (by decide) rfl rfl ?_
      refine r_iconst (v := (nI 0)) dX10_anew_29 (by decide) ?_
      refine s_istore ([some (.ref 73), some (.int a1), some (.int a2), some (.int (nI 0)), some (.int (nI 0)), some (.int (nI 0)), none, none, none, none]) dX10_anew_30 (by decide) rfl rfl ?_
      refine r_iconst (v := (nI 0)) dX10_anew_32 (by decide) ?_
      refine s_istore ([some (.ref 73), some (.int a1), some (.int a2), some (.int (nI 0)), some (.int (nI 0)), some (.int (nI 0)), some (.int (nI 0)), none, none, none]) dX10_anew_33 (by decide) rfl rfl ?_
      refine r_iconst (v := (nI 0)) dX10_anew_35 (by decide) ?_
      refine s_istore ([some (.ref 73), some (.int a1), some (.int a2), some (.int (nI 0)), some (.int (nI 0)), some (.int (nI 0)), some (.int (nI 0)), some (.int (nI 0)), none, none]) dX10_anew_36 (by decide) rfl rfl ?_
      exact w_X10_anew_38 (a1) (a2) ((nI 0)) ((nI 0)) ((nI 0)) ((nI 0)) ((nI 0)) M4 ht h kR
    · have h := zK_neg h c3
      refine r_iconst (v := (-1 : Int32)) dX10_anew_17 (by decide) ?_
      exact r_iret dX10_anew_18 rfl rfl rfl (kR (((-1 : Int32), M)) (zK_some h))
set_option maxHeartbeats 4000000 in
set_option maxRecDepth 100000 in
theorem c_X10_anew {G : zzG} {t : Nat} {Q : Option Value → zzMem → Prop} (a1 : Int32) (a2 : Int32) (M : zzMem) (ht : 180 ≤ t)  {P : (Int32 × zzMem) → Prop} (h : zK (f_X10_anew a1 a2 M) P) (kR : ∀ r : (Int32 × zzMem), P r → Q (some (.int r.1)) r.2) : zz_S G m_X10_anew t t [.ref 73, .int a1, .int a2] M Q :=
  zz_S_of (by decide) (by decide) (Nat.le_of_ble_eq_true rfl) (w_X10_anew_0 a1 a2 M ht h kR)
noncomputable def b_X10_notesPages_8 (v1 : Int32) (v2 : Int32) (v3 : Int32) (M : zzMem) : Option ((Int32 × zzMem) ⊕ zzMem) :=
  if v2 ≤ v3 then
  (some ((.inr M)))
  else ((f_X10_pageAt v1 v3 M).bind (fun r2 =>
  zgd (vp_in (M.1 73 28) 256) (
  zbd (zz_si M 89 ((M.1 73 28)).toNatClampNeg r2) (fun M4 =>
  zbd (zz_si M4 73 28 ((M4.1 73 28) + (nI 1))) (fun M5 =>
  zbd (v3 + (nI 1)) (fun x6 =>
  some (.inl (x6, M5))))))))
set_option maxHeartbeats 4000000 in
set_option maxRecDepth 100000 in
theorem x_X10_notesPages_8 {G : zzG} {t : Nat} {Q : Option Value → zzMem → Prop} (v1 : Int32) (v2 : Int32) (v3 : Int32) (M : zzMem) (ht : 180 ≤ t)  {P : ((Int32 × zzMem) ⊕ zzMem) → Prop} (h : zK (b_X10_notesPages_8 v1 v2 v3 M) P) (k8 : ∀ s : (Int32 × zzMem), P (.inl s) → zz_W G m_X10_notesPages t t t 8 [some (.ref 73), some (.int v1), some (.int v2), some (.int s.1)] [] s.2 Q) (kR : ∀ r : zzMem, P (.inr r) → Q none r) : zz_W G m_X10_notesPages t t t 8 [some (.ref 73), some (.int v1), some (.int v2), some (.int v3)] [] M Q := by
  unfold b_X10_notesPages_8 at h
  refine r_iload_n dX10_notesPages_8 rfl ?_
  refine r_iload_n dX10_notesPages_9 rfl ?_
  refine r_icmp_ge 44 dX10_notesPages_10 (by decide) (fun c1 => ?_) (fun c1 => ?_)
  · have h := zK_pos h c1
    exact r_vret dX10_notesPages_44 rfl rfl rfl (kR (M) (zK_some h))
  · have h := zK_neg h c1
    refine r_aload_n dX10_notesPages_13 rfl ?_
    refine r_getR (k := 73) (q := 89) dX10_notesPages_14 zf_X10_56 (zo_X10 (zs_X10 ht)) (zr_X10_26 (zs_X10 ht)).1 (zr_X10_26 (zs_X10 ht)).2.1 (zr_X10_26 (zs_X10 ht)).2.2 ?_
    refine r_aload_n dX10_notesPages_17 rfl ?_
    refine r_getI (k := 73) dX10_notesPages_18 zf_X10_329 (zo_X10 (zs_X10 ht)) (zi_X10_28 (zs_X10 ht)) ?_
    refine r_aload_n dX10_notesPages_21 rfl ?_
    refine r_iload_n dX10_notesPages_22 rfl ?_
    refine r_iload_n dX10_notesPages_23 rfl ?_
    refine kV_ir (as := [.int v1, .int v3]) (st := [.int (M.1 73 28), .ref 89]) (k := 73) dX10_notesPages_24 zM_X10_pageAt zk_X10_314 (zo_X10 (zs_X10 ht)) (by decide) rfl ⟨Nat.le_of_ble_eq_true rfl, Nat.le_of_ble_eq_true rfl⟩ (Nat.le_of_ble_eq_true rfl) (zz_T0 rfl rfl) (fun Q' P' k h => c_X10_pageAt (v1) (v3) M ht h k) h (fun r2 h => ?_)
    obtain ⟨g3, h⟩ := zK_gd h
    refine r_iast dX10_notesPages_27 (za_X10_26 (zs_X10 ht)) g3 (fun M4 eM4 => ?_)
    have h := zK_bd h eM4
    refine r_aload_n dX10_notesPages_28 rfl ?_
    refine r_aload_n dX10_notesPages_29 rfl ?_
    refine r_getI (k := 73) dX10_notesPages_30 zf_X10_329 (zo_X10 (zs_X10 ht)) (zi_X10_28 (zs_X10 ht)) ?_
    refine r_iconst (v := (nI 1)) dX10_notesPages_33 (by decide) ?_
    refine r_iadd dX10_notesPages_34 ?_
    refine r_putI (k := 73) dX10_notesPages_35 zp_X10_329 (zo_X10 (zs_X10 ht)) (zi_X10_28 (zs_X10 ht)) rfl rfl (fun M5 eM5 => ?_)
    have h := zK_bd h eM5
    refine r_iinc (nI 1) (fun x6 => [some (.ref 73), some (.int v1), some (.int v2), some (.int x6)]) dX10_notesPages_38 rfl (by decide) (by decide) rfl (fun _ => rfl) (fun x6 ex6 => ?_)
    have h := zK_bd h ex6
    refine r_goto 8 dX10_notesPages_41 (by decide) ?_
    exact k8 ((x6, M5)) (zK_some h)
noncomputable def j_X10_notesPages_8 (v1 : Int32) (v2 : Int32) (v3 : Int32) (M : zzMem) : Option zzMem :=
  zlp (fun s : (Int32 × zzMem) => b_X10_notesPages_8 v1 v2 s.1 s.2) (v3, M)
set_option maxHeartbeats 4000000 in
set_option maxRecDepth 100000 in
theorem w_X10_notesPages_8 {G : zzG} {t : Nat} {Q : Option Value → zzMem → Prop} (v1 : Int32) (v2 : Int32) (v3 : Int32) (M : zzMem) (ht : 180 ≤ t)  {P : zzMem → Prop} (h : zK (j_X10_notesPages_8 v1 v2 v3 M) P) (kR : ∀ r : zzMem, P r → Q none r) : zz_W G m_X10_notesPages t t t 8 [some (.ref 73), some (.int v1), some (.int v2), some (.int v3)] [] M Q := by
  unfold j_X10_notesPages_8 at h
  exact zK_lp h (fun s : (Int32 × zzMem) => zz_W G m_X10_notesPages t t t 8 [some (.ref 73), some (.int v1), some (.int v2), some (.int s.1)] [] s.2 Q) (fun s h => x_X10_notesPages_8 v1 v2 s.1 s.2 ht h (fun s p => p) kR)
noncomputable def f_X10_notesPages (a1 : Int32) (M : zzMem) : Option zzMem :=
  (f_X10_chainOf a1 M).bind (fun r1 =>
  j_X10_notesPages_8 a1 r1 (nI 0) M)
set_option maxHeartbeats 4000000 in
set_option maxRecDepth 100000 in
theorem w_X10_notesPages_0 {G : zzG} {t : Nat} {Q : Option Value → zzMem → Prop} (a1 : Int32) (M : zzMem) (ht : 180 ≤ t)  {P : zzMem → Prop} (h : zK (f_X10_notesPages a1 M) P) (kR : ∀ r : zzMem, P r → Q none r) : zz_W G m_X10_notesPages t t t 0 [some (.ref 73), some (.int a1), none, none] [] M Q := by
  unfold f_X10_notesPages at h
  refine r_aload_n dX10_notesPages_0 rfl ?_
  refine r_iload_n dX10_notesPages_1 rfl ?_
  refine kV_ir (as := [.int a1]) (st := []) (k := 73) dX10_notesPages_2 zM_X10_chainOf zk_X10_172 (zo_X10 (zs_X10 ht)) (by decide) rfl ⟨Nat.le_of_ble_eq_true rfl, Nat.le_of_ble_eq_true rfl⟩ (Nat.le_of_ble_eq_true rfl) (zz_T0 rfl rfl) (fun Q' P' k h => c_X10_chainOf (a1) M ht h k) h (fun r1 h => ?_)
  refine s_istore_n ([some (.ref 73), some (.int a1), some (.int r1), none]) dX10_notesPages_5 (by decide) rfl rfl ?_
  refine r_iconst (v := (nI 0)) dX10_notesPages_6 (by decide) ?_
  refine s_istore_n ([some (.ref 73), some (.int a1), some (.int r1), some (.int (nI 0))]) dX10_notesPages_7 (by decide) rfl rfl ?_
  exact w_X10_notesPages_8 (a1) (r1) ((nI 0)) M ht h kR
set_option maxHeartbeats 4000000 in
set_option maxRecDepth 100000 in
theorem c_X10_notesPages {G : zzG} {t : Nat} {Q : Option Value → zzMem → Prop} (a1 : Int32) (M : zzMem) (ht : 180 ≤ t)  {P : zzMem → Prop} (h : zK (f_X10_notesPages a1 M) P) (kR : ∀ r : zzMem, P r → Q none r) : zz_S G m_X10_notesPages t t [.ref 73, .int a1] M Q :=
  zz_S_of (by decide) (by decide) (Nat.le_of_ble_eq_true rfl) (w_X10_notesPages_0 a1 M ht h kR)
noncomputable def b_X10_isWritten_2 (v1 : Int32) (v2 : Int32) (v3 : Int32) (M : zzMem) : Option (Int32 ⊕ Bool) :=
  if v2 ≤ v3 then
  (some ((.inr false)))
  else (zgd (vp_in v3 256) (
  if (M.1 89 (v3).toNatClampNeg) = v1 then
  (some ((.inr true)))
  else (zbd (v3 + (nI 1)) (fun x4 =>
  some (.inl x4)))))
set_option maxHeartbeats 4000000 in
set_option maxRecDepth 100000 in
theorem x_X10_isWritten_2 {G : zzG} {t : Nat} {Q : Option Value → zzMem → Prop} (v1 : Int32) (v2 : Int32) (v3 : Int32) (M : zzMem) (ht : 180 ≤ t)  {P : (Int32 ⊕ Bool) → Prop} (h : zK (b_X10_isWritten_2 v1 v2 v3 M) P) (k2 : ∀ s : Int32, P (.inl s) → zz_W G m_X10_isWritten t t t 2 [some (.ref 73), some (.int v1), some (.int v2), some (.int s)] [] M Q) (kR : ∀ r : Bool, P (.inr r) → Q (some (.int (zb r))) M) : zz_W G m_X10_isWritten t t t 2 [some (.ref 73), some (.int v1), some (.int v2), some (.int v3)] [] M Q := by
  unfold b_X10_isWritten_2 at h
  refine r_iload_n dX10_isWritten_2 rfl ?_
  refine r_iload_n dX10_isWritten_3 rfl ?_
  refine r_icmp_ge 25 dX10_isWritten_4 (by decide) (fun c1 => ?_) (fun c1 => ?_)
  · have h := zK_pos h c1
    refine r_iconst (v := (nI 0)) dX10_isWritten_25 (by decide) ?_
    exact r_zret (b := false) dX10_isWritten_26 rfl rfl rfl (kR (false) (zK_some h))
  · have h := zK_neg h c1
    refine r_aload_n dX10_isWritten_7 rfl ?_
    refine r_getR (k := 73) (q := 89) dX10_isWritten_8 zf_X10_56 (zo_X10 (zs_X10 ht)) (zr_X10_26 (zs_X10 ht)).1 (zr_X10_26 (zs_X10 ht)).2.1 (zr_X10_26 (zs_X10 ht)).2.2 ?_
    refine r_iload_n dX10_isWritten_11 rfl ?_
    obtain ⟨g2, h⟩ := zK_gd h
    refine r_iald dX10_isWritten_12 (za_X10_26 (zs_X10 ht)) g2 ?_
    refine r_iload_n dX10_isWritten_13 rfl ?_
    refine r_icmp_ne 19 dX10_isWritten_14 (by decide) (fun c3 => ?_) (fun c3 => ?_)
    · have h := zK_neg h c3
      refine r_iinc (nI 1) (fun x4 => [some (.ref 73), some (.int v1), some (.int v2), some (.int x4)]) dX10_isWritten_19 rfl (by decide) (by decide) rfl (fun _ => rfl) (fun x4 ex4 => ?_)
      have h := zK_bd h ex4
      refine r_goto 2 dX10_isWritten_22 (by decide) ?_
      exact k2 (x4) (zK_some h)
    · have h := zK_pos h c3
      refine r_iconst (v := (nI 1)) dX10_isWritten_17 (by decide) ?_
      exact r_zret (b := true) dX10_isWritten_18 rfl rfl rfl (kR (true) (zK_some h))
noncomputable def j_X10_isWritten_2 (v1 : Int32) (v2 : Int32) (v3 : Int32) (M : zzMem) : Option Bool :=
  zlp (fun s : Int32 => b_X10_isWritten_2 v1 v2 s M) v3
set_option maxHeartbeats 4000000 in
set_option maxRecDepth 100000 in
theorem w_X10_isWritten_2 {G : zzG} {t : Nat} {Q : Option Value → zzMem → Prop} (v1 : Int32) (v2 : Int32) (v3 : Int32) (M : zzMem) (ht : 180 ≤ t)  {P : Bool → Prop} (h : zK (j_X10_isWritten_2 v1 v2 v3 M) P) (kR : ∀ r : Bool, P r → Q (some (.int (zb r))) M) : zz_W G m_X10_isWritten t t t 2 [some (.ref 73), some (.int v1), some (.int v2), some (.int v3)] [] M Q := by
  unfold j_X10_isWritten_2 at h
  exact zK_lp h (fun s : Int32 => zz_W G m_X10_isWritten t t t 2 [some (.ref 73), some (.int v1), some (.int v2), some (.int s)] [] M Q) (fun s h => x_X10_isWritten_2 v1 v2 s M ht h (fun s p => p) kR)
noncomputable def f_X10_isWritten (a1 : Int32) (a2 : Int32) (M : zzMem) : Option Bool :=
  j_X10_isWritten_2 a1 a2 (nI 0) M
set_option maxHeartbeats 4000000 in
set_option maxRecDepth 100000 in
theorem w_X10_isWritten_0 {G : zzG} {t : Nat} {Q : Option Value → zzMem → Prop} (a1 : Int32) (a2 : Int32) (M : zzMem) (ht : 180 ≤ t)  {P : Bool → Prop} (h : zK (f_X10_isWritten a1 a2 M) P) (kR : ∀ r : Bool, P r → Q (some (.int (zb r))) M) : zz_W G m_X10_isWritten t t t 0 [some (.ref 73), some (.int a1), some (.int a2), none] [] M Q := by
  unfold f_X10_isWritten at h
  refine r_iconst (v := (nI 0)) dX10_isWritten_0 (by decide) ?_
  refine s_istore_n ([some (.ref 73), some (.int a1), some (.int a2), some (.int (nI 0))]) dX10_isWritten_1 (by decide) rfl rfl ?_
  exact w_X10_isWritten_2 (a1) (a2) ((nI 0)) M ht h kR
set_option maxHeartbeats 4000000 in
set_option maxRecDepth 100000 in
theorem c_X10_isWritten {G : zzG} {t : Nat} {Q : Option Value → zzMem → Prop} (a1 : Int32) (a2 : Int32) (M : zzMem) (ht : 180 ≤ t)  {P : Bool → Prop} (h : zK (f_X10_isWritten a1 a2 M) P) (kR : ∀ r : Bool, P r → Q (some (.int (zb r))) M) : zz_S G m_X10_isWritten t t [.ref 73, .int a1, .int a2] M Q :=
  zz_S_of (by decide) (by decide) (Nat.le_of_ble_eq_true rfl) (w_X10_isWritten_0 a1 a2 M ht h kR)
noncomputable def f_X10_pageOf (a1 : Int32) (M : zzMem) : Option Int32 :=
  zgd (vp_in ((nI 640) + a1) 5676) (
  (f_X10_placeOf a1 M).bind (fun r2 =>
  zgd (¬ (M.1 74 1) = 0) (
  (f_X10_pageAt (M.1 74 (((nI 640) + a1)).toNatClampNeg) (r2 / (M.1 74 1)) M).bind (fun r4 =>
  some r4))))
set_option maxHeartbeats 4000000 in
set_option maxRecDepth 100000 in
theorem w_X10_pageOf_0 {G : zzG} {t : Nat} {Q : Option Value → zzMem → Prop} (a1 : Int32) (M : zzMem) (ht : 180 ≤ t)  {P : Int32 → Prop} (h : zK (f_X10_pageOf a1 M) P) (kR : ∀ r : Int32, P r → Q (some (.int r)) M) : zz_W G m_X10_pageOf t t t 0 [some (.ref 73), some (.int a1)] [] M Q := by
  unfold f_X10_pageOf at h
  refine r_aload_n dX10_pageOf_0 rfl ?_
  refine r_aload_n dX10_pageOf_1 rfl ?_
  refine r_getR (k := 73) (q := 74) dX10_pageOf_2 zf_X10_7 (zo_X10 (zs_X10 ht)) (zr_X10_0 (zs_X10 ht)).1 (zr_X10_0 (zs_X10 ht)).2.1 (zr_X10_0 (zs_X10 ht)).2.2 ?_
  refine r_sipush (v := (nI 640)) dX10_pageOf_5 (by decide) ?_
  refine r_iload_n dX10_pageOf_8 rfl ?_
  refine r_iadd dX10_pageOf_9 ?_
  obtain ⟨g1, h⟩ := zK_gd h
  refine r_iald dX10_pageOf_10 (za_X10_0 (zs_X10 ht)) g1 ?_
  refine r_aload_n dX10_pageOf_11 rfl ?_
  refine r_iload_n dX10_pageOf_12 rfl ?_
  refine kV_ir (as := [.int a1]) (st := [.int (M.1 74 (((nI 640) + a1)).toNatClampNeg), .ref 73]) (k := 73) dX10_pageOf_13 zM_X10_placeOf zk_X10_169 (zo_X10 (zs_X10 ht)) (by decide) rfl ⟨Nat.le_of_ble_eq_true rfl, Nat.le_of_ble_eq_true rfl⟩ (Nat.le_of_ble_eq_true rfl) (zz_T0 rfl rfl) (fun Q' P' k h => c_X10_placeOf (a1) M ht h k) h (fun r2 h => ?_)
  refine r_aload_n dX10_pageOf_16 rfl ?_
  refine r_getR (k := 73) (q := 74) dX10_pageOf_17 zf_X10_7 (zo_X10 (zs_X10 ht)) (zr_X10_0 (zs_X10 ht)).1 (zr_X10_0 (zs_X10 ht)).2.1 (zr_X10_0 (zs_X10 ht)).2.2 ?_
  refine r_iconst (v := (nI 1)) dX10_pageOf_20 (by decide) ?_
  refine r_ialdc (j := 1) dX10_pageOf_21 (za_X10_0 (zs_X10 ht)) rfl rfl ?_
  obtain ⟨g3, h⟩ := zK_gd h
  refine r_idiv dX10_pageOf_22 g3 ?_
  refine kV_ir (as := [.int (M.1 74 (((nI 640) + a1)).toNatClampNeg), .int (r2 / (M.1 74 1))]) (st := []) (k := 73) dX10_pageOf_23 zM_X10_pageAt zk_X10_314 (zo_X10 (zs_X10 ht)) (by decide) rfl ⟨Nat.le_of_ble_eq_true rfl, Nat.le_of_ble_eq_true rfl⟩ (Nat.le_of_ble_eq_true rfl) (zz_T0 rfl rfl) (fun Q' P' k h => c_X10_pageAt ((M.1 74 (((nI 640) + a1)).toNatClampNeg)) ((r2 / (M.1 74 1))) M ht h k) h (fun r4 h => ?_)
  exact r_iret dX10_pageOf_26 rfl rfl rfl (kR (r4) (zK_some h))
set_option maxHeartbeats 4000000 in
set_option maxRecDepth 100000 in
theorem c_X10_pageOf {G : zzG} {t : Nat} {Q : Option Value → zzMem → Prop} (a1 : Int32) (M : zzMem) (ht : 180 ≤ t)  {P : Int32 → Prop} (h : zK (f_X10_pageOf a1 M) P) (kR : ∀ r : Int32, P r → Q (some (.int r)) M) : zz_S G m_X10_pageOf t t [.ref 73, .int a1] M Q :=
  zz_S_of (by decide) (by decide) (Nat.le_of_ble_eq_true rfl) (w_X10_pageOf_0 a1 M ht h kR)
noncomputable def j_X10_torn_283 (v6 : Int32) (ws0 : Bool) (M : zzMem) : Option (Int32 × zzMem) :=
  (f_X10_copies (nI 2) (nI 0) M).bind (fun M1 =>
  if ws0 = true then
  (some (((-4 : Int32), M1)))
  else (some ((v6, M1))))
set_option maxHeartbeats 4000000 in
set_option maxRecDepth 100000 in
theorem w_X10_torn_283 {G : zzG} {t : Nat} {Q : Option Value → zzMem → Prop} (v6 : Int32) (ws0 : Bool) (M : zzMem) (ht : 180 ≤ t)  {P : (Int32 × zzMem) → Prop} (h : zK (j_X10_torn_283 v6 ws0 M) P) (kR : ∀ r : (Int32 × zzMem), P r → Q (some (.int r.1)) r.2) : zz_W G m_X10_torn t t t 283 [some (.ref 73), none, none, none, none, none, some (.int v6), none, none] [.int (zb ws0)] M Q := by
  unfold j_X10_torn_283 at h
  refine s_istore ([some (.ref 73), none, none, none, none, none, some (.int v6), some (.int (zb ws0)), none]) dX10_torn_283 (by decide) rfl rfl ?_
  refine r_aload_n dX10_torn_285 rfl ?_
  refine r_iconst (v := (nI 2)) dX10_torn_286 (by decide) ?_
  refine r_iconst (v := (nI 0)) dX10_torn_287 (by decide) ?_
  refine kV_vw (as := [.int (nI 2), .int (nI 0)]) (st := []) (k := 73) dX10_torn_288 zM_X10_copies zk_X10_332 (zo_X10 (zs_X10 ht)) (by decide) rfl ⟨Nat.le_of_ble_eq_true rfl, Nat.le_of_ble_eq_true rfl⟩ (Nat.le_of_ble_eq_true rfl) (zz_T0 rfl rfl) (fun Q' P' k h => c_X10_copies ((nI 2)) ((nI 0)) M ht h k) h (fun M1 h => ?_)
  refine r_iload dX10_torn_291 rfl ?_
  refine r_ifZ_eq 301 dX10_torn_293 (by decide) (fun c2 => ?_) (fun c2 => ?_)
  · have h := zK_neg h c2
    refine r_iload dX10_torn_301 rfl ?_
    exact r_iret dX10_torn_303 rfl rfl rfl (kR ((v6, M1)) (zK_some h))
  · have h := zK_pos h c2
    refine r_bipush (v := (-4 : Int32)) dX10_torn_296 (by decide) ?_
    refine r_goto 303 dX10_torn_298 (by decide) ?_
    exact r_iret dX10_torn_303 rfl rfl rfl (kR (((-4 : Int32), M1)) (zK_some h))
noncomputable def j_X10_torn_270 (v2 : Int32) (v6 : Int32) (M : zzMem) : Option (Int32 × zzMem) :=
  if v2 ≤ (M.1 73 28) then
  (j_X10_torn_283 v6 false M)
  else (j_X10_torn_283 v6 true M)
set_option maxHeartbeats 4000000 in
set_option maxRecDepth 100000 in
theorem w_X10_torn_270 {G : zzG} {t : Nat} {Q : Option Value → zzMem → Prop} (v2 : Int32) (v6 : Int32) (M : zzMem) (ht : 180 ≤ t)  {P : (Int32 × zzMem) → Prop} (h : zK (j_X10_torn_270 v2 v6 M) P) (kR : ∀ r : (Int32 × zzMem), P r → Q (some (.int r.1)) r.2) : zz_W G m_X10_torn t t t 270 [some (.ref 73), none, some (.int v2), none, none, none, some (.int v6), none, none] [] M Q := by
  unfold j_X10_torn_270 at h
  refine r_iload_n dX10_torn_270 rfl ?_
  refine r_aload_n dX10_torn_271 rfl ?_
  refine r_getI (k := 73) dX10_torn_272 zf_X10_329 (zo_X10 (zs_X10 ht)) (zi_X10_28 (zs_X10 ht)) ?_
  refine r_icmp_le 282 dX10_torn_275 (by decide) (fun c1 => ?_) (fun c1 => ?_)
  · have h := zK_pos h c1
    refine r_iconst (v := (nI 0)) dX10_torn_282 (by decide) ?_
    refine zz_mask [2] ?_
    exact w_X10_torn_283 (v6) (false) M ht h kR
  · have h := zK_neg h c1
    refine r_iconst (v := (nI 1)) dX10_torn_278 (by decide) ?_
    refine r_goto 283 dX10_torn_279 (by decide) ?_
    refine zz_mask [2] ?_
    exact w_X10_torn_283 (v6) (true) M ht h kR
noncomputable def j_X10_torn_255 (v2 : Int32) (v3 : Int32) (v6 : Int32) (v7 : Int32) (s0 : Int32) (s1 : Int32) (M : zzMem) : Option ((Int32 × Int32) ⊕ (Int32 × zzMem)) :=
  if s0 = s1 then
  (zbd ((v6 + (nI 1))) (fun x3 =>
  zbd (v7 + (nI 1)) (fun x4 =>
  some (.inl (x3, x4)))))
  else (zbd (v7 + (nI 1)) (fun x2 =>
  some (.inl (v6, x2))))
set_option maxHeartbeats 4000000 in
set_option maxRecDepth 100000 in
theorem w_X10_torn_255 {G : zzG} {t : Nat} {Q : Option Value → zzMem → Prop} (v2 : Int32) (v3 : Int32) (v6 : Int32) (v7 : Int32) (s0 : Int32) (s1 : Int32) (M : zzMem) (ht : 180 ≤ t)  {P : ((Int32 × Int32) ⊕ (Int32 × zzMem)) → Prop} (h : zK (j_X10_torn_255 v2 v3 v6 v7 s0 s1 M) P) (k175 : ∀ s : (Int32 × Int32), P (.inl s) → zz_W G m_X10_torn t t t 175 [some (.ref 73), none, some (.int v2), some (.int v3), none, none, some (.int s.1), some (.int s.2), none] [] M Q) (kR : ∀ r : (Int32 × zzMem), P (.inr r) → Q (some (.int r.1)) r.2) : zz_W G m_X10_torn t t t 255 [some (.ref 73), none, some (.int v2), some (.int v3), none, none, some (.int v6), some (.int v7), none] [.int s1, .int s0] M Q := by
  unfold j_X10_torn_255 at h
  refine r_icmp_ne 264 dX10_torn_255 (by decide) (fun c1 => ?_) (fun c1 => ?_)
  · have h := zK_neg h c1
    refine r_iinc (nI 1) (fun x2 => [some (.ref 73), none, some (.int v2), some (.int v3), none, none, some (.int v6), some (.int x2), none]) dX10_torn_264 rfl (by decide) (by decide) rfl (fun _ => rfl) (fun x2 ex2 => ?_)
    have h := zK_bd h ex2
    refine r_goto 175 dX10_torn_267 (by decide) ?_
    exact k175 ((v6, x2)) (zK_some h)
  · have h := zK_pos h c1
    refine r_iload dX10_torn_258 rfl ?_
    refine r_iconst (v := (nI 1)) dX10_torn_260 (by decide) ?_
    refine r_iadd dX10_torn_261 ?_
    refine r_istore (fun x3 => [some (.ref 73), none, some (.int v2), some (.int v3), none, none, some (.int x3), some (.int v7), none]) dX10_torn_262 (by decide) rfl (fun _ => rfl) (fun x3 ex3 => ?_)
    have h := zK_bd h ex3
    refine r_iinc (nI 1) (fun x4 => [some (.ref 73), none, some (.int v2), some (.int v3), none, none, some (.int x3), some (.int x4), none]) dX10_torn_264 rfl (by decide) (by decide) rfl (fun _ => rfl) (fun x4 ex4 => ?_)
    have h := zK_bd h ex4
    refine r_goto 175 dX10_torn_267 (by decide) ?_
    exact k175 ((x3, x4)) (zK_some h)
noncomputable def j_X10_torn_244 (v2 : Int32) (v3 : Int32) (v6 : Int32) (v7 : Int32) (v8 : Int32) (M : zzMem) : Option ((Int32 × Int32) ⊕ (Int32 × zzMem)) :=
  if v3 = 0 then
  (j_X10_torn_255 v2 v3 v6 v7 v8 (nI 0) M)
  else (j_X10_torn_255 v2 v3 v6 v7 v8 (nI 2) M)
set_option maxHeartbeats 4000000 in
set_option maxRecDepth 100000 in
theorem w_X10_torn_244 {G : zzG} {t : Nat} {Q : Option Value → zzMem → Prop} (v2 : Int32) (v3 : Int32) (v6 : Int32) (v7 : Int32) (v8 : Int32) (M : zzMem) (ht : 180 ≤ t)  {P : ((Int32 × Int32) ⊕ (Int32 × zzMem)) → Prop} (h : zK (j_X10_torn_244 v2 v3 v6 v7 v8 M) P) (k175 : ∀ s : (Int32 × Int32), P (.inl s) → zz_W G m_X10_torn t t t 175 [some (.ref 73), none, some (.int v2), some (.int v3), none, none, some (.int s.1), some (.int s.2), none] [] M Q) (kR : ∀ r : (Int32 × zzMem), P (.inr r) → Q (some (.int r.1)) r.2) : zz_W G m_X10_torn t t t 244 [some (.ref 73), none, some (.int v2), some (.int v3), none, none, some (.int v6), some (.int v7), some (.int v8)] [] M Q := by
  unfold j_X10_torn_244 at h
  refine r_iload dX10_torn_244 rfl ?_
  refine r_iload_n dX10_torn_246 rfl ?_
  refine r_if_ne 254 dX10_torn_247 (by decide) (fun c1 => ?_) (fun c1 => ?_)
  · have h := zK_neg h c1
    refine r_iconst (v := (nI 2)) dX10_torn_254 (by decide) ?_
    refine zz_mask [8] ?_
    exact w_X10_torn_255 (v2) (v3) (v6) (v7) (v8) ((nI 2)) M ht h k175 kR
  · have h := zK_pos h c1
    refine r_iconst (v := (nI 0)) dX10_torn_250 (by decide) ?_
    refine r_goto 255 dX10_torn_251 (by decide) ?_
    refine zz_mask [8] ?_
    exact w_X10_torn_255 (v2) (v3) (v6) (v7) (v8) ((nI 0)) M ht h k175 kR
noncomputable def j_X10_torn_212 (v2 : Int32) (v3 : Int32) (v6 : Int32) (v7 : Int32) (ws0 : Bool) (M : zzMem) : Option ((Int32 × Int32) ⊕ (Int32 × zzMem)) :=
  zgd (vp_in v7 300) (
  (f_X10_entryOf (nI 0) (M.1 88 (v7).toNatClampNeg) M).bind (fun r2 =>
  (f_X10_pageOf r2 M).bind (fun r3 =>
  (f_X10_isWritten r3 v2 M).bind (fun r4 =>
  if r4 = true then
  (zbd (((zb ws0) + (nI 1))) (fun x6 =>
  j_X10_torn_244 v2 v3 v6 v7 x6 M))
  else (j_X10_torn_244 v2 v3 v6 v7 (zb ws0) M)))))
set_option maxHeartbeats 4000000 in
set_option maxRecDepth 100000 in
theorem w_X10_torn_212 {G : zzG} {t : Nat} {Q : Option Value → zzMem → Prop} (v2 : Int32) (v3 : Int32) (v6 : Int32) (v7 : Int32) (ws0 : Bool) (M : zzMem) (ht : 180 ≤ t)  {P : ((Int32 × Int32) ⊕ (Int32 × zzMem)) → Prop} (h : zK (j_X10_torn_212 v2 v3 v6 v7 ws0 M) P) (k175 : ∀ s : (Int32 × Int32), P (.inl s) → zz_W G m_X10_torn t t t 175 [some (.ref 73), none, some (.int v2), some (.int v3), none, none, some (.int s.1), some (.int s.2), none] [] M Q) (kR : ∀ r : (Int32 × zzMem), P (.inr r) → Q (some (.int r.1)) r.2) : zz_W G m_X10_torn t t t 212 [some (.ref 73), none, some (.int v2), some (.int v3), none, none, some (.int v6), some (.int v7), none] [.int (zb ws0)] M Q := by
  unfold j_X10_torn_212 at h
  refine s_istore ([some (.ref 73), none, some (.int v2), some (.int v3), none, none, some (.int v6), some (.int v7), some (.int (zb ws0))]) dX10_torn_212 (by decide) rfl rfl ?_
  refine r_aload_n dX10_torn_214 rfl ?_
  refine r_aload_n dX10_torn_215 rfl ?_
  refine r_aload_n dX10_torn_216 rfl ?_
  refine r_iconst (v := (nI 0)) dX10_torn_217 (by decide) ?_
  refine r_aload_n dX10_torn_218 rfl ?_
  refine r_getR (k := 73) (q := 88) dX10_torn_219 zf_X10_53 (zo_X10 (zs_X10 ht)) (zr_X10_25 (zs_X10 ht)).1 (zr_X10_25 (zs_X10 ht)).2.1 (zr_X10_25 (zs_X10 ht)).2.2 ?_
  refine r_iload dX10_torn_222 rfl ?_
  obtain ⟨g1, h⟩ := zK_gd h
  refine r_iald dX10_torn_224 (za_X10_25 (zs_X10 ht)) g1 ?_
  refine kV_ir (as := [.int (nI 0), .int (M.1 88 (v7).toNatClampNeg)]) (st := [.ref 73, .ref 73]) (k := 73) dX10_torn_225 zM_X10_entryOf zk_X10_211 (zo_X10 (zs_X10 ht)) (by decide) rfl ⟨Nat.le_of_ble_eq_true rfl, Nat.le_of_ble_eq_true rfl⟩ (Nat.le_of_ble_eq_true rfl) (zz_T0 rfl rfl) (fun Q' P' k h => c_X10_entryOf ((nI 0)) ((M.1 88 (v7).toNatClampNeg)) M ht h k) h (fun r2 h => ?_)
  refine kV_ir (as := [.int r2]) (st := [.ref 73]) (k := 73) dX10_torn_228 zM_X10_pageOf zk_X10_338 (zo_X10 (zs_X10 ht)) (by decide) rfl ⟨Nat.le_of_ble_eq_true rfl, Nat.le_of_ble_eq_true rfl⟩ (Nat.le_of_ble_eq_true rfl) (zz_T0 rfl rfl) (fun Q' P' k h => c_X10_pageOf (r2) M ht h k) h (fun r3 h => ?_)
  refine r_iload_n dX10_torn_231 rfl ?_
  refine kV_zr (as := [.int r3, .int v2]) (st := []) (k := 73) dX10_torn_232 zM_X10_isWritten zk_X10_344 (zo_X10 (zs_X10 ht)) (by decide) rfl ⟨Nat.le_of_ble_eq_true rfl, Nat.le_of_ble_eq_true rfl⟩ (Nat.le_of_ble_eq_true rfl) (zz_T0 rfl rfl) (fun Q' P' k h => c_X10_isWritten (r3) (v2) M ht h k) h (fun r4 h => ?_)
  refine r_ifZ_eq 244 dX10_torn_235 (by decide) (fun c5 => ?_) (fun c5 => ?_)
  · have h := zK_neg h c5
    exact w_X10_torn_244 (v2) (v3) (v6) (v7) ((zb ws0)) M ht h k175 kR
  · have h := zK_pos h c5
    refine r_iload dX10_torn_238 rfl ?_
    refine r_iconst (v := (nI 1)) dX10_torn_240 (by decide) ?_
    refine r_iadd dX10_torn_241 ?_
    refine r_istore (fun x6 => [some (.ref 73), none, some (.int v2), some (.int v3), none, none, some (.int v6), some (.int v7), some (.int x6)]) dX10_torn_242 (by decide) rfl (fun _ => rfl) (fun x6 ex6 => ?_)
    have h := zK_bd h ex6
    exact w_X10_torn_244 (v2) (v3) (v6) (v7) (x6) M ht h k175 kR
noncomputable def b_X10_torn_175 (v2 : Int32) (v3 : Int32) (v6 : Int32) (v7 : Int32) (M : zzMem) : Option ((Int32 × Int32) ⊕ (Int32 × zzMem)) :=
  if (M.1 73 27) ≤ v7 then
  (zup (j_X10_torn_270 v2 v6 M))
  else (if (M.1 73 28) < v2 then
  (zup (j_X10_torn_270 v2 v6 M))
  else (zgd (vp_in v7 300) (
  (f_X10_isWritten (M.1 87 (v7).toNatClampNeg) v2 M).bind (fun r4 =>
  if r4 = true then
  (j_X10_torn_212 v2 v3 v6 v7 false M)
  else (j_X10_torn_212 v2 v3 v6 v7 true M)))))
set_option maxHeartbeats 4000000 in
set_option maxRecDepth 100000 in
theorem x_X10_torn_175 {G : zzG} {t : Nat} {Q : Option Value → zzMem → Prop} (v2 : Int32) (v3 : Int32) (v6 : Int32) (v7 : Int32) (M : zzMem) (ht : 180 ≤ t)  {P : ((Int32 × Int32) ⊕ (Int32 × zzMem)) → Prop} (h : zK (b_X10_torn_175 v2 v3 v6 v7 M) P) (k175 : ∀ s : (Int32 × Int32), P (.inl s) → zz_W G m_X10_torn t t t 175 [some (.ref 73), none, some (.int v2), some (.int v3), none, none, some (.int s.1), some (.int s.2), none] [] M Q) (kR : ∀ r : (Int32 × zzMem), P (.inr r) → Q (some (.int r.1)) r.2) : zz_W G m_X10_torn t t t 175 [some (.ref 73), none, some (.int v2), some (.int v3), none, none, some (.int v6), some (.int v7), none] [] M Q := by
  unfold b_X10_torn_175 at h
  refine r_iload dX10_torn_175 rfl ?_
  refine r_aload_n dX10_torn_177 rfl ?_
  refine r_getI (k := 73) dX10_torn_178 zf_X10_335 (zo_X10 (zs_X10 ht)) (zi_X10_27 (zs_X10 ht)) ?_
  refine r_icmp_ge 270 dX10_torn_181 (by decide) (fun c1 => ?_) (fun c1 => ?_)
  · have h := zK_pos h c1
    refine zz_mask [3, 7] ?_
    exact w_X10_torn_270 (v2) (v6) M ht (zK_up h) kR
  · have h := zK_neg h c1
    refine r_iload_n dX10_torn_184 rfl ?_
    refine r_aload_n dX10_torn_185 rfl ?_
    refine r_getI (k := 73) dX10_torn_186 zf_X10_329 (zo_X10 (zs_X10 ht)) (zi_X10_28 (zs_X10 ht)) ?_
    refine r_icmp_gt 270 dX10_torn_189 (by decide) (fun c2 => ?_) (fun c2 => ?_)
    · have h := zK_pos h c2
      refine zz_mask [3, 7] ?_
      exact w_X10_torn_270 (v2) (v6) M ht (zK_up h) kR
    · have h := zK_neg h c2
      refine r_aload_n dX10_torn_192 rfl ?_
      refine r_aload_n dX10_torn_193 rfl ?_
      refine r_getR (k := 73) (q := 87) dX10_torn_194 zf_X10_50 (zo_X10 (zs_X10 ht)) (zr_X10_24 (zs_X10 ht)).1 (zr_X10_24 (zs_X10 ht)).2.1 (zr_X10_24 (zs_X10 ht)).2.2 ?_
      refine r_iload dX10_torn_197 rfl ?_
      obtain ⟨g3, h⟩ := zK_gd h
      refine r_iald dX10_torn_199 (za_X10_24 (zs_X10 ht)) g3 ?_
      refine r_iload_n dX10_torn_200 rfl ?_
      refine kV_zr (as := [.int (M.1 87 (v7).toNatClampNeg), .int v2]) (st := []) (k := 73) dX10_torn_201 zM_X10_isWritten zk_X10_344 (zo_X10 (zs_X10 ht)) (by decide) rfl ⟨Nat.le_of_ble_eq_true rfl, Nat.le_of_ble_eq_true rfl⟩ (Nat.le_of_ble_eq_true rfl) (zz_T0 rfl rfl) (fun Q' P' k h => c_X10_isWritten ((M.1 87 (v7).toNatClampNeg)) (v2) M ht h k) h (fun r4 h => ?_)
      refine r_ifZ_eq 211 dX10_torn_204 (by decide) (fun c5 => ?_) (fun c5 => ?_)
      · have h := zK_neg h c5
        refine r_iconst (v := (nI 1)) dX10_torn_211 (by decide) ?_
        exact w_X10_torn_212 (v2) (v3) (v6) (v7) (true) M ht h k175 kR
      · have h := zK_pos h c5
        refine r_iconst (v := (nI 0)) dX10_torn_207 (by decide) ?_
        refine r_goto 212 dX10_torn_208 (by decide) ?_
        exact w_X10_torn_212 (v2) (v3) (v6) (v7) (false) M ht h k175 kR
noncomputable def j_X10_torn_175 (v2 : Int32) (v3 : Int32) (v6 : Int32) (v7 : Int32) (M : zzMem) : Option (Int32 × zzMem) :=
  zlp (fun s : (Int32 × Int32) => b_X10_torn_175 v2 v3 s.1 s.2 M) (v6, v7)
set_option maxHeartbeats 4000000 in
set_option maxRecDepth 100000 in
theorem w_X10_torn_175 {G : zzG} {t : Nat} {Q : Option Value → zzMem → Prop} (v2 : Int32) (v3 : Int32) (v6 : Int32) (v7 : Int32) (M : zzMem) (ht : 180 ≤ t)  {P : (Int32 × zzMem) → Prop} (h : zK (j_X10_torn_175 v2 v3 v6 v7 M) P) (kR : ∀ r : (Int32 × zzMem), P r → Q (some (.int r.1)) r.2) : zz_W G m_X10_torn t t t 175 [some (.ref 73), none, some (.int v2), some (.int v3), none, none, some (.int v6), some (.int v7), none] [] M Q := by
  unfold j_X10_torn_175 at h
  exact zK_lp h (fun s : (Int32 × Int32) => zz_W G m_X10_torn t t t 175 [some (.ref 73), none, some (.int v2), some (.int v3), none, none, some (.int s.1), some (.int s.2), none] [] M Q) (fun s h => x_X10_torn_175 v2 v3 s.1 s.2 M ht h (fun s p => p) kR)
noncomputable def j_X10_torn_166 (v2 : Int32) (v3 : Int32) (s1 : Int32) (M : zzMem) : Option (Int32 × zzMem) :=
  (f_X10_notesPages s1 M).bind (fun M1 =>
  j_X10_torn_175 v2 v3 (nI 0) (nI 0) M1)
set_option maxHeartbeats 4000000 in
set_option maxRecDepth 100000 in
theorem w_X10_torn_166 {G : zzG} {t : Nat} {Q : Option Value → zzMem → Prop} (v2 : Int32) (v3 : Int32) (s1 : Int32) (M : zzMem) (ht : 180 ≤ t)  {P : (Int32 × zzMem) → Prop} (h : zK (j_X10_torn_166 v2 v3 s1 M) P) (kR : ∀ r : (Int32 × zzMem), P r → Q (some (.int r.1)) r.2) : zz_W G m_X10_torn t t t 166 [some (.ref 73), none, some (.int v2), some (.int v3), none, none, none, none, none] [.int s1, .ref 73] M Q := by
  unfold j_X10_torn_166 at h
  refine kV_vw (as := [.int s1]) (st := []) (k := 73) dX10_torn_166 zM_X10_notesPages zk_X10_341 (zo_X10 (zs_X10 ht)) (by decide) rfl ⟨Nat.le_of_ble_eq_true rfl, Nat.le_of_ble_eq_true rfl⟩ (Nat.le_of_ble_eq_true rfl) (zz_T0 rfl rfl) (fun Q' P' k h => c_X10_notesPages (s1) M ht h k) h (fun M1 h => ?_)
  refine r_iconst (v := (nI 0)) dX10_torn_169 (by decide) ?_
  refine s_istore ([some (.ref 73), none, some (.int v2), some (.int v3), none, none, some (.int (nI 0)), none, none]) dX10_torn_170 (by decide) rfl rfl ?_
  refine r_iconst (v := (nI 0)) dX10_torn_172 (by decide) ?_
  refine s_istore ([some (.ref 73), none, some (.int v2), some (.int v3), none, none, some (.int (nI 0)), some (.int (nI 0)), none]) dX10_torn_173 (by decide) rfl rfl ?_
  exact w_X10_torn_175 (v2) (v3) ((nI 0)) ((nI 0)) M1 ht h kR
noncomputable def j_X10_torn_151 (v1 : Int32) (v2 : Int32) (v3 : Int32) (v4 : Int32) (v5 : Int32) (s1 : Int32) (M : zzMem) : Option (Int32 × zzMem) :=
  (f_X10_notesPages s1 M).bind (fun M1 =>
  if v1 = 0 then
  (j_X10_torn_166 v2 v3 v5 M1)
  else (j_X10_torn_166 v2 v3 v4 M1))
set_option maxHeartbeats 4000000 in
set_option maxRecDepth 100000 in
theorem w_X10_torn_151 {G : zzG} {t : Nat} {Q : Option Value → zzMem → Prop} (v1 : Int32) (v2 : Int32) (v3 : Int32) (v4 : Int32) (v5 : Int32) (s1 : Int32) (M : zzMem) (ht : 180 ≤ t)  {P : (Int32 × zzMem) → Prop} (h : zK (j_X10_torn_151 v1 v2 v3 v4 v5 s1 M) P) (kR : ∀ r : (Int32 × zzMem), P r → Q (some (.int r.1)) r.2) : zz_W G m_X10_torn t t t 151 [some (.ref 73), some (.int v1), some (.int v2), some (.int v3), some (.int v4), some (.int v5), none, none, none] [.int s1, .ref 73] M Q := by
  unfold j_X10_torn_151 at h
  refine kV_vw (as := [.int s1]) (st := []) (k := 73) dX10_torn_151 zM_X10_notesPages zk_X10_341 (zo_X10 (zs_X10 ht)) (by decide) rfl ⟨Nat.le_of_ble_eq_true rfl, Nat.le_of_ble_eq_true rfl⟩ (Nat.le_of_ble_eq_true rfl) (zz_T0 rfl rfl) (fun Q' P' k h => c_X10_notesPages (s1) M ht h k) h (fun M1 h => ?_)
  refine r_aload_n dX10_torn_154 rfl ?_
  refine r_iload_n dX10_torn_155 rfl ?_
  refine r_if_ne 164 dX10_torn_156 (by decide) (fun c2 => ?_) (fun c2 => ?_)
  · have h := zK_neg h c2
    refine r_iload dX10_torn_164 rfl ?_
    refine zz_mask [1, 4, 5] ?_
    exact w_X10_torn_166 (v2) (v3) (v4) M1 ht h kR
  · have h := zK_pos h c2
    refine r_iload dX10_torn_159 rfl ?_
    refine r_goto 166 dX10_torn_161 (by decide) ?_
    refine zz_mask [1, 4, 5] ?_
    exact w_X10_torn_166 (v2) (v3) (v5) M1 ht h kR
noncomputable def b_X10_torn_74 (v1 : Int32) (v2 : Int32) (v3 : Int32) (v4 : Int32) (v5 : Int32) (v6 : Int32) (M : zzMem) : Option ((Int32 × zzMem) ⊕ (Int32 × zzMem)) :=
  if (M.1 73 27) ≤ v6 then
  ((f_X10_splits M).bind (fun q2 => zpr q2 (fun r3 M4 =>
  zbd (zz_si M4 73 28 (nI 0)) (fun M5 =>
  if v1 = 0 then
  (zup (j_X10_torn_151 v1 v2 v3 v4 v5 v4 M5))
  else (zup (j_X10_torn_151 v1 v2 v3 v4 v5 v5 M5))))))
  else (zgd (vp_in v6 300) (
  zgd (vp_in ((nI 40) + (M.1 79 (v6).toNatClampNeg)) 5676) (
  zbd (zz_si M 88 (v6).toNatClampNeg (M.1 74 (((nI 40) + (M.1 79 (v6).toNatClampNeg))).toNatClampNeg)) (fun M9 =>
  (f_X10_pageOf (M9.1 79 (v6).toNatClampNeg) M9).bind (fun r10 =>
  zbd (zz_si M9 87 (v6).toNatClampNeg r10) (fun M11 =>
  zbd (v6 + (nI 1)) (fun x12 =>
  some (.inl (x12, M11)))))))))
set_option maxHeartbeats 4000000 in
set_option maxRecDepth 100000 in
theorem x_X10_torn_74 {G : zzG} {t : Nat} {Q : Option Value → zzMem → Prop} (v1 : Int32) (v2 : Int32) (v3 : Int32) (v4 : Int32) (v5 : Int32) (v6 : Int32) (M : zzMem) (ht : 180 ≤ t)  {P : ((Int32 × zzMem) ⊕ (Int32 × zzMem)) → Prop} (h : zK (b_X10_torn_74 v1 v2 v3 v4 v5 v6 M) P) (k74 : ∀ s : (Int32 × zzMem), P (.inl s) → zz_W G m_X10_torn t t t 74 [some (.ref 73), some (.int v1), some (.int v2), some (.int v3), some (.int v4), some (.int v5), some (.int s.1), none, none] [] s.2 Q) (kR : ∀ r : (Int32 × zzMem), P (.inr r) → Q (some (.int r.1)) r.2) : zz_W G m_X10_torn t t t 74 [some (.ref 73), some (.int v1), some (.int v2), some (.int v3), some (.int v4), some (.int v5), some (.int v6), none, none] [] M Q := by
  unfold b_X10_torn_74 at h
  refine r_iload dX10_torn_74 rfl ?_
  refine r_aload_n dX10_torn_76 rfl ?_
  refine r_getI (k := 73) dX10_torn_77 zf_X10_335 (zo_X10 (zs_X10 ht)) (zi_X10_27 (zs_X10 ht)) ?_
  refine r_icmp_ge 129 dX10_torn_80 (by decide) (fun c1 => ?_) (fun c1 => ?_)
  · have h := zK_pos h c1
    refine r_aload_n dX10_torn_129 rfl ?_
    refine kV_iw (as := []) (st := []) (k := 73) dX10_torn_130 zM_X10_splits zk_X10_205 (zo_X10 (zs_X10 ht)) (by decide) rfl ⟨Nat.le_of_ble_eq_true rfl, Nat.le_of_ble_eq_true rfl⟩ (Nat.le_of_ble_eq_true rfl) (zz_T0 rfl rfl) (fun Q' P' k h => c_X10_splits M ht h (fun r p => k r.1 r.2 p)) h (fun r3 M4 h => ?_)
    have h := zK_pr h
    refine r_pop dX10_torn_133 rfl ?_
    refine r_aload_n dX10_torn_134 rfl ?_
    refine r_iconst (v := (nI 0)) dX10_torn_135 (by decide) ?_
    refine r_putI (k := 73) dX10_torn_136 zp_X10_329 (zo_X10 (zs_X10 ht)) (zi_X10_28 (zs_X10 ht)) rfl rfl (fun M5 eM5 => ?_)
    have h := zK_bd h eM5
    refine r_aload_n dX10_torn_139 rfl ?_
    refine r_iload_n dX10_torn_140 rfl ?_
    refine r_if_ne 149 dX10_torn_141 (by decide) (fun c6 => ?_) (fun c6 => ?_)
    · have h := zK_neg h c6
      refine r_iload dX10_torn_149 rfl ?_
      refine zz_mask [6] ?_
      exact w_X10_torn_151 (v1) (v2) (v3) (v4) (v5) (v5) M5 ht (zK_up h) kR
    · have h := zK_pos h c6
      refine r_iload dX10_torn_144 rfl ?_
      refine r_goto 151 dX10_torn_146 (by decide) ?_
      refine zz_mask [6] ?_
      exact w_X10_torn_151 (v1) (v2) (v3) (v4) (v5) (v4) M5 ht (zK_up h) kR
  · have h := zK_neg h c1
    refine r_aload_n dX10_torn_83 rfl ?_
    refine r_getR (k := 73) (q := 88) dX10_torn_84 zf_X10_53 (zo_X10 (zs_X10 ht)) (zr_X10_25 (zs_X10 ht)).1 (zr_X10_25 (zs_X10 ht)).2.1 (zr_X10_25 (zs_X10 ht)).2.2 ?_
    refine r_iload dX10_torn_87 rfl ?_
    refine r_aload_n dX10_torn_89 rfl ?_
    refine r_getR (k := 73) (q := 74) dX10_torn_90 zf_X10_7 (zo_X10 (zs_X10 ht)) (zr_X10_0 (zs_X10 ht)).1 (zr_X10_0 (zs_X10 ht)).2.1 (zr_X10_0 (zs_X10 ht)).2.2 ?_
    refine r_bipush (v := (nI 40)) dX10_torn_93 (by decide) ?_
    refine r_aload_n dX10_torn_95 rfl ?_
    refine r_getR (k := 73) (q := 79) dX10_torn_96 zf_X10_26 (zo_X10 (zs_X10 ht)) (zr_X10_14 (zs_X10 ht)).1 (zr_X10_14 (zs_X10 ht)).2.1 (zr_X10_14 (zs_X10 ht)).2.2 ?_
    refine r_iload dX10_torn_99 rfl ?_
    obtain ⟨g7, h⟩ := zK_gd h
    refine r_iald dX10_torn_101 (za_X10_14 (zs_X10 ht)) g7 ?_
    refine r_iadd dX10_torn_102 ?_
    obtain ⟨g8, h⟩ := zK_gd h
    refine r_iald dX10_torn_103 (za_X10_0 (zs_X10 ht)) g8 ?_
    refine r_iast dX10_torn_104 (za_X10_25 (zs_X10 ht)) g7 (fun M9 eM9 => ?_)
    have h := zK_bd h eM9
    refine r_aload_n dX10_torn_105 rfl ?_
    refine r_getR (k := 73) (q := 87) dX10_torn_106 zf_X10_50 (zo_X10 (zs_X10 ht)) (zr_X10_24 (zs_X10 ht)).1 (zr_X10_24 (zs_X10 ht)).2.1 (zr_X10_24 (zs_X10 ht)).2.2 ?_
    refine r_iload dX10_torn_109 rfl ?_
    refine r_aload_n dX10_torn_111 rfl ?_
    refine r_aload_n dX10_torn_112 rfl ?_
    refine r_getR (k := 73) (q := 79) dX10_torn_113 zf_X10_26 (zo_X10 (zs_X10 ht)) (zr_X10_14 (zs_X10 ht)).1 (zr_X10_14 (zs_X10 ht)).2.1 (zr_X10_14 (zs_X10 ht)).2.2 ?_
    refine r_iload dX10_torn_116 rfl ?_
    refine r_iald dX10_torn_118 (za_X10_14 (zs_X10 ht)) g7 ?_
    refine kV_ir (as := [.int (M9.1 79 (v6).toNatClampNeg)]) (st := [.int v6, .ref 87]) (k := 73) dX10_torn_119 zM_X10_pageOf zk_X10_338 (zo_X10 (zs_X10 ht)) (by decide) rfl ⟨Nat.le_of_ble_eq_true rfl, Nat.le_of_ble_eq_true rfl⟩ (Nat.le_of_ble_eq_true rfl) (zz_T0 rfl rfl) (fun Q' P' k h => c_X10_pageOf ((M9.1 79 (v6).toNatClampNeg)) M9 ht h k) h (fun r10 h => ?_)
    refine r_iast dX10_torn_122 (za_X10_24 (zs_X10 ht)) g7 (fun M11 eM11 => ?_)
    have h := zK_bd h eM11
    refine r_iinc (nI 1) (fun x12 => [some (.ref 73), some (.int v1), some (.int v2), some (.int v3), some (.int v4), some (.int v5), some (.int x12), none, none]) dX10_torn_123 rfl (by decide) (by decide) rfl (fun _ => rfl) (fun x12 ex12 => ?_)
    have h := zK_bd h ex12
    refine r_goto 74 dX10_torn_126 (by decide) ?_
    exact k74 ((x12, M11)) (zK_some h)
noncomputable def j_X10_torn_74 (v1 : Int32) (v2 : Int32) (v3 : Int32) (v4 : Int32) (v5 : Int32) (v6 : Int32) (M : zzMem) : Option (Int32 × zzMem) :=
  zlp (fun s : (Int32 × zzMem) => b_X10_torn_74 v1 v2 v3 v4 v5 s.1 s.2) (v6, M)
set_option maxHeartbeats 4000000 in
set_option maxRecDepth 100000 in
theorem w_X10_torn_74 {G : zzG} {t : Nat} {Q : Option Value → zzMem → Prop} (v1 : Int32) (v2 : Int32) (v3 : Int32) (v4 : Int32) (v5 : Int32) (v6 : Int32) (M : zzMem) (ht : 180 ≤ t)  {P : (Int32 × zzMem) → Prop} (h : zK (j_X10_torn_74 v1 v2 v3 v4 v5 v6 M) P) (kR : ∀ r : (Int32 × zzMem), P r → Q (some (.int r.1)) r.2) : zz_W G m_X10_torn t t t 74 [some (.ref 73), some (.int v1), some (.int v2), some (.int v3), some (.int v4), some (.int v5), some (.int v6), none, none] [] M Q := by
  unfold j_X10_torn_74 at h
  exact zK_lp h (fun s : (Int32 × zzMem) => zz_W G m_X10_torn t t t 74 [some (.ref 73), some (.int v1), some (.int v2), some (.int v3), some (.int v4), some (.int v5), some (.int s.1), none, none] [] s.2 Q) (fun s h => x_X10_torn_74 v1 v2 v3 v4 v5 s.1 s.2 ht h (fun s p => p) kR)
noncomputable def f_X10_torn (a1 : Int32) (a2 : Int32) (a3 : Int32) (M : zzMem) : Option (Int32 × zzMem) :=
  if (f_X10_in a1 (nI 0) (nI 1)) = true then
  (if a2 < 0 then
  (some (((-1 : Int32), M)))
  else (if (f_X10_in a3 (nI 0) (nI 1)) = true then
  ((f_X10_buckets M).bind (fun r4 =>
  if r4 = (nI 64) then
  (some (((-3 : Int32), M)))
  else ((f_X10_copies (nI 0) (nI 2) M).bind (fun M6 =>
  zbd ((M6.1 74 6)) (fun x7 =>
  (f_X10_buckets M6).bind (fun r8 =>
  (f_X10_lists x7 M6).bind (fun M9 =>
  zbd (zz_si M9 73 27 (M9.1 73 15)) (fun M10 =>
  j_X10_torn_74 a1 a2 a3 x7 r8 (nI 0) M10))))))))
  else (some (((-1 : Int32), M)))))
  else (some (((-1 : Int32), M)))
set_option maxHeartbeats 4000000 in
set_option maxRecDepth 100000 in
theorem w_X10_torn_0 {G : zzG} {t : Nat} {Q : Option Value → zzMem → Prop} (a1 : Int32) (a2 : Int32) (a3 : Int32) (M : zzMem) (ht : 180 ≤ t)  {P : (Int32 × zzMem) → Prop} (h : zK (f_X10_torn a1 a2 a3 M) P) (kR : ∀ r : (Int32 × zzMem), P r → Q (some (.int r.1)) r.2) : zz_W G m_X10_torn t t t 0 [some (.ref 73), some (.int a1), some (.int a2), some (.int a3), none, none, none, none, none] [] M Q := by
  unfold f_X10_torn at h
  refine r_iload_n dX10_torn_0 rfl ?_
  refine r_iconst (v := (nI 0)) dX10_torn_1 (by decide) ?_
  refine r_iconst (v := (nI 1)) dX10_torn_2 (by decide) ?_
  refine tS_zr (v := f_X10_in a1 (nI 0) (nI 1)) (as := [.int a1, .int (nI 0), .int (nI 1)]) (st := []) dX10_torn_3 zM_X10_in zk_X10_67 ⟨Nat.le_of_ble_eq_true rfl, Nat.le_of_ble_eq_true rfl⟩ (Nat.le_of_ble_eq_true rfl) (zz_T0 rfl rfl) (fun Q' h => c_X10_in (a1) ((nI 0)) ((nI 1)) M h) ?_
  refine r_ifZ_eq 22 dX10_torn_6 (by decide) (fun c1 => ?_) (fun c1 => ?_)
  · have h := zK_neg h c1
    refine r_iconst (v := (-1 : Int32)) dX10_torn_22 (by decide) ?_
    exact r_iret dX10_torn_23 rfl rfl rfl (kR (((-1 : Int32), M)) (zK_some h))
  · have h := zK_pos h c1
    refine r_iload_n dX10_torn_9 rfl ?_
    refine r_if_lt 22 dX10_torn_10 (by decide) (fun c2 => ?_) (fun c2 => ?_)
    · have h := zK_pos h c2
      refine r_iconst (v := (-1 : Int32)) dX10_torn_22 (by decide) ?_
      exact r_iret dX10_torn_23 rfl rfl rfl (kR (((-1 : Int32), M)) (zK_some h))
    · have h := zK_neg h c2
      refine r_iload_n dX10_torn_13 rfl ?_
      refine r_iconst (v := (nI 0)) dX10_torn_14 (by decide) ?_
      refine r_iconst (v := (nI 1)) dX10_torn_15 (by decide) ?_
      refine tS_zr (v := f_X10_in a3 (nI 0) (nI 1)) (as := [.int a3, .int (nI 0), .int (nI 1)]) (st := []) dX10_torn_16 zM_X10_in zk_X10_67 ⟨Nat.le_of_ble_eq_true rfl, Nat.le_of_ble_eq_true rfl⟩ (Nat.le_of_ble_eq_true rfl) (zz_T0 rfl rfl) (fun Q' h => c_X10_in (a3) ((nI 0)) ((nI 1)) M h) ?_
      refine r_ifZ_ne 24 dX10_torn_19 (by decide) (fun c3 => ?_) (fun c3 => ?_)
      · have h := zK_pos h c3
        refine r_aload_n dX10_torn_24 rfl ?_
        refine kV_ir (as := []) (st := []) (k := 73) dX10_torn_25 zM_X10_buckets zk_X10_178 (zo_X10 (zs_X10 ht)) (by decide) rfl ⟨Nat.le_of_ble_eq_true rfl, Nat.le_of_ble_eq_true rfl⟩ (Nat.le_of_ble_eq_true rfl) (zz_T0 rfl rfl) (fun Q' P' k h => c_X10_buckets M ht h k) h (fun r4 h => ?_)
        refine r_bipush (v := (nI 64)) dX10_torn_28 (by decide) ?_
        refine r_icmp_ne 36 dX10_torn_30 (by decide) (fun c5 => ?_) (fun c5 => ?_)
        · have h := zK_neg h c5
          refine r_aload_n dX10_torn_36 rfl ?_
          refine r_iconst (v := (nI 0)) dX10_torn_37 (by decide) ?_
          refine r_iconst (v := (nI 2)) dX10_torn_38 (by decide) ?_
          refine kV_vw (as := [.int (nI 0), .int (nI 2)]) (st := []) (k := 73) dX10_torn_39 zM_X10_copies zk_X10_332 (zo_X10 (zs_X10 ht)) (by decide) rfl ⟨Nat.le_of_ble_eq_true rfl, Nat.le_of_ble_eq_true rfl⟩ (Nat.le_of_ble_eq_true rfl) (zz_T0 rfl rfl) (fun Q' P' k h => c_X10_copies ((nI 0)) ((nI 2)) M ht h k) h (fun M6 h => ?_)
          refine r_aload_n dX10_torn_42 rfl ?_
          refine r_getR (k := 73) (q := 74) dX10_torn_43 zf_X10_7 (zo_X10 (zs_X10 ht)) (zr_X10_0 (zs_X10 ht)).1 (zr_X10_0 (zs_X10 ht)).2.1 (zr_X10_0 (zs_X10 ht)).2.2 ?_
          refine r_bipush (v := (nI 6)) dX10_torn_46 (by decide) ?_
          refine r_ialdc (j := 6) dX10_torn_48 (za_X10_0 (zs_X10 ht)) rfl rfl ?_
          refine r_istore (fun x7 => [some (.ref 73), some (.int a1), some (.int a2), some (.int a3), some (.int x7), none, none, none, none]) dX10_torn_49 (by decide) rfl (fun _ => rfl) (fun x7 ex7 => ?_)
          have h := zK_bd h ex7
          refine r_aload_n dX10_torn_51 rfl ?_
          refine kV_ir (as := []) (st := []) (k := 73) dX10_torn_52 zM_X10_buckets zk_X10_178 (zo_X10 (zs_X10 ht)) (by decide) rfl ⟨Nat.le_of_ble_eq_true rfl, Nat.le_of_ble_eq_true rfl⟩ (Nat.le_of_ble_eq_true rfl) (zz_T0 rfl rfl) (fun Q' P' k h => c_X10_buckets M6 ht h k) h (fun r8 h => ?_)
          refine s_istore ([some (.ref 73), some (.int a1), some (.int a2), some (.int a3), some (.int x7), some (.int r8), none, none, none]) dX10_torn_55 (by decide) rfl rfl ?_
          refine r_aload_n dX10_torn_57 rfl ?_
          refine r_iload dX10_torn_58 rfl ?_
          refine kV_vw (as := [.int x7]) (st := []) (k := 73) dX10_torn_60 zM_X10_lists zk_X10_187 (zo_X10 (zs_X10 ht)) (by decide) rfl ⟨Nat.le_of_ble_eq_true rfl, Nat.le_of_ble_eq_true rfl⟩ (Nat.le_of_ble_eq_true rfl) (zz_T0 rfl rfl) (fun Q' P' k h => c_X10_lists (x7) M6 ht h k) h (fun M9 h => ?_)
          refine r_aload_n dX10_torn_63 rfl ?_
          refine r_aload_n dX10_torn_64 rfl ?_
          refine r_getI (k := 73) dX10_torn_65 zf_X10_181 (zo_X10 (zs_X10 ht)) (zi_X10_15 (zs_X10 ht)) ?_
          refine r_putI (k := 73) dX10_torn_68 zp_X10_335 (zo_X10 (zs_X10 ht)) (zi_X10_27 (zs_X10 ht)) rfl rfl (fun M10 eM10 => ?_)
          have h := zK_bd h eM10
          refine r_iconst (v := (nI 0)) dX10_torn_71 (by decide) ?_
          refine s_istore ([some (.ref 73), some (.int a1), some (.int a2), some (.int a3), some (.int x7), some (.int r8), some (.int (nI 0)), none, none]) dX10_torn_72 (by decide) rfl rfl ?_
          exact w_X10_torn_74 (a1) (a2) (a3) (x7) (r8) ((nI 0)) M10 ht h kR
        · have h := zK_pos h c5
          refine r_bipush (v := (-3 : Int32)) dX10_torn_33 (by decide) ?_
          exact r_iret dX10_torn_35 rfl rfl rfl (kR (((-3 : Int32), M)) (zK_some h))
      · have h := zK_neg h c3
        refine r_iconst (v := (-1 : Int32)) dX10_torn_22 (by decide) ?_
        exact r_iret dX10_torn_23 rfl rfl rfl (kR (((-1 : Int32), M)) (zK_some h))
set_option maxHeartbeats 4000000 in
set_option maxRecDepth 100000 in
theorem c_X10_torn {G : zzG} {t : Nat} {Q : Option Value → zzMem → Prop} (a1 : Int32) (a2 : Int32) (a3 : Int32) (M : zzMem) (ht : 180 ≤ t)  {P : (Int32 × zzMem) → Prop} (h : zK (f_X10_torn a1 a2 a3 M) P) (kR : ∀ r : (Int32 × zzMem), P r → Q (some (.int r.1)) r.2) : zz_S G m_X10_torn t t [.ref 73, .int a1, .int a2, .int a3] M Q :=
  zz_S_of (by decide) (by decide) (Nat.le_of_ble_eq_true rfl) (w_X10_torn_0 a1 a2 a3 M ht h kR)
