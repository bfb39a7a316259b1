noncomputable def zz_M0 : zzMem := (fun _ _ => 0, fun _ _ => 0)
/-- the law as a program: two objects made, then its loop -/
noncomputable def f_L_law (G : zzG) : Option (Bool × zzMem) :=
  zbd (zz_z zz_M0 0) (fun M1 =>
  (n_X9_init_0 M1).bind (fun M2 =>
  zbd (zz_z M2 73) (fun M3 =>
  (n_X10_init_73 M3).bind (fun M4 =>
  j_L_law_18 G (nI 0) M4))))
set_option maxHeartbeats 4000000 in
set_option maxRecDepth 100000 in
theorem w_L_law_0 (G : zzG) {Q : Option Value → zzMem → Prop} {P : Bool × zzMem → Prop} (h : zK (f_L_law G) P) (kR : ∀ r : Bool × zzMem, P r → Q (some (.int (zb r.1))) r.2) : zz_W G m_L_law 0 180 0 0 [some (.ref 1000), none, none, none] [] zz_M0 Q := by
  unfold f_L_law at h
  have h := zK_bd h (x := zz_z zz_M0 0) rfl
  refine r_new (k := 0) (n := 8) (ci := 8) (ty := tyX9) dL_law_0 zk_L_7 zn_X9.1 zn_X9.2 (by decide) rfl zin_X9 tyX9_ok (by decide +kernel) (by decide +kernel) rfl (by decide +kernel) (by decide +kernel) ⟨by decide +kernel, by decide +kernel⟩ ?_
  generalize zz_z zz_M0 0 = M1 at h ⊢
  refine r_dup dL_law_3 rfl ?_
  refine gI_vw (host := "") (as := []) (st := [.ref 0]) (k := 0) (t' := 145) dL_law_4 zM_X9_init rfl zk_L_9 ⟨by decide +kernel, rfl⟩ ⟨Nat.le_of_ble_eq_true rfl, Nat.le_of_ble_eq_true rfl⟩ (Nat.le_of_ble_eq_true rfl) ⟨by decide +kernel, by decide +kernel, by decide +kernel, by decide +kernel⟩ (fun Q' P' k h => d_X9_init_0 M1 h k) h (fun M2 h => ?_)
  refine s_astore_n ([some (.ref 1000), some (.ref 0), none, none]) dL_law_7 (by decide) rfl rfl ?_
  have h := zK_bd h (x := zz_z M2 73) rfl
  refine r_new (k := 73) (n := 30) (ci := 9) (ty := tyX10) dL_law_8 zk_L_10 zn_X10.1 zn_X10.2 (by decide) rfl zin_X10 tyX10_ok (by decide +kernel) (by decide +kernel) rfl (by decide +kernel) (by decide +kernel) ⟨by decide +kernel, by decide +kernel⟩ ?_
  generalize zz_z M2 73 = M3 at h ⊢
  refine r_dup dL_law_11 rfl ?_
  refine gI_vw (host := "") (as := []) (st := [.ref 73]) (k := 73) (t' := 180) dL_law_12 zM_X10_init rfl zk_L_12 ⟨by decide +kernel, rfl⟩ ⟨Nat.le_of_ble_eq_true rfl, Nat.le_of_ble_eq_true rfl⟩ (Nat.le_of_ble_eq_true rfl) ⟨by decide +kernel, by decide +kernel, by decide +kernel, by decide +kernel⟩ (fun Q' P' k h => d_X10_init_73 M3 h k) h (fun M4 h => ?_)
  refine s_astore_n ([some (.ref 1000), some (.ref 0), some (.ref 73), none]) dL_law_15 (by decide) rfl rfl ?_
  refine r_iconst (v := nI 0) dL_law_16 (by decide) ?_
  refine s_istore_n ([some (.ref 1000), some (.ref 0), some (.ref 73), some (.int (nI 0))]) dL_law_17 (by decide) rfl rfl ?_
  exact w_L_law_18 G (nI 0) M4 (Nat.le_refl 180) h kR
