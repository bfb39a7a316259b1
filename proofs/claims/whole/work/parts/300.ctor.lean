section ZKg
variable {G : zzG} {μ μ' : zzMI} {t0 t1 t pc : Nat} {L : List (Option Value)} {st : List Value} {M : zzMem} {Q : Option Value → zzMem → Prop}
theorem gV_ir {idx k ci nn : Nat} {T : u_T} {as : List Value} {α : Type} {f : Option (Int32)} {g : (Int32) → Option α} {P : α → Prop} (hd : decode (zM_c μ) pc = .ok (.invokevirtual idx, 3)) (hm : zz_MV μ' as.length) (hl : Cond.methodLink (zM_y μ).cls idx (zM_y μ') ∈ zz_tbl) (hk : zz_O t k ci nn) (hci : ci < 20) (hcl : vwCl[ci]? = some ((zM_y μ').cls, T, nn)) (hR : zz_RR μ μ') (hst : (st.map fun v => v.category).sum ≤ 8) (hT : zz_T μ μ' t0 t t) (spec : ∀ (Q' : Option Value → zzMem → Prop) (P' : (Int32) → Prop), (∀ r, P' r → Q' (some (.int r)) M) → zK f P' → zz_S G μ' t t (.ref k :: as) M Q') (h : zK (f.bind g) P) (kk : ∀ r, zK (g r) P → zz_W G μ t0 t1 t (pc + 3) L (.int r :: st) M Q) : zz_W G μ t0 t1 t pc L (as.reverse ++ .ref k :: st) M Q := by
  refine r_callV hd hm hl hk hci hcl hR hst hT (spec (fun r M' => ∃ q, r = some (.int q) ∧ M' = M ∧ zK (g q) P) _ (fun q hq => ⟨q, rfl, rfl, hq⟩) (zK_bi h)) ?_
  intro r M' ⟨q, e1, e2, h⟩; subst e1; subst e2; exact kk q h
theorem gV_iw {idx k ci nn : Nat} {T : u_T} {as : List Value} {α : Type} {f : Option (Int32 × zzMem)} {g : (Int32 × zzMem) → Option α} {P : α → Prop} (hd : decode (zM_c μ) pc = .ok (.invokevirtual idx, 3)) (hm : zz_MV μ' as.length) (hl : Cond.methodLink (zM_y μ).cls idx (zM_y μ') ∈ zz_tbl) (hk : zz_O t k ci nn) (hci : ci < 20) (hcl : vwCl[ci]? = some ((zM_y μ').cls, T, nn)) (hR : zz_RR μ μ') (hst : (st.map fun v => v.category).sum ≤ 8) (hT : zz_T μ μ' t0 t t) (spec : ∀ (Q' : Option Value → zzMem → Prop) (P' : (Int32 × zzMem) → Prop), (∀ r M1, P' (r, M1) → Q' (some (.int r)) M1) → zK f P' → zz_S G μ' t t (.ref k :: as) M Q') (h : zK (f.bind g) P) (kk : ∀ r M1, zK (g (r, M1)) P → zz_W G μ t0 t1 t (pc + 3) L (.int r :: st) M1 Q) : zz_W G μ t0 t1 t pc L (as.reverse ++ .ref k :: st) M Q := by
  refine r_callV hd hm hl hk hci hcl hR hst hT (spec (fun r M' => ∃ q, r = some (.int q) ∧ zK (g (q, M')) P) _ (fun q M1 hq => ⟨q, rfl, hq⟩) (zK_bi h)) ?_
  intro r M' ⟨q, e1, h⟩; subst e1; exact kk q M' h
theorem gV_zr {idx k ci nn : Nat} {T : u_T} {as : List Value} {α : Type} {f : Option (Bool)} {g : (Bool) → Option α} {P : α → Prop} (hd : decode (zM_c μ) pc = .ok (.invokevirtual idx, 3)) (hm : zz_MV μ' as.length) (hl : Cond.methodLink (zM_y μ).cls idx (zM_y μ') ∈ zz_tbl) (hk : zz_O t k ci nn) (hci : ci < 20) (hcl : vwCl[ci]? = some ((zM_y μ').cls, T, nn)) (hR : zz_RR μ μ') (hst : (st.map fun v => v.category).sum ≤ 8) (hT : zz_T μ μ' t0 t t) (spec : ∀ (Q' : Option Value → zzMem → Prop) (P' : (Bool) → Prop), (∀ r, P' r → Q' (some (.int (zb r))) M) → zK f P' → zz_S G μ' t t (.ref k :: as) M Q') (h : zK (f.bind g) P) (kk : ∀ r, zK (g r) P → zz_W G μ t0 t1 t (pc + 3) L (.int (zb r) :: st) M Q) : zz_W G μ t0 t1 t pc L (as.reverse ++ .ref k :: st) M Q := by
  refine r_callV hd hm hl hk hci hcl hR hst hT (spec (fun r M' => ∃ q, r = some (.int (zb q)) ∧ M' = M ∧ zK (g q) P) _ (fun q hq => ⟨q, rfl, rfl, hq⟩) (zK_bi h)) ?_
  intro r M' ⟨q, e1, e2, h⟩; subst e1; subst e2; exact kk q h
theorem gV_zw {idx k ci nn : Nat} {T : u_T} {as : List Value} {α : Type} {f : Option (Bool × zzMem)} {g : (Bool × zzMem) → Option α} {P : α → Prop} (hd : decode (zM_c μ) pc = .ok (.invokevirtual idx, 3)) (hm : zz_MV μ' as.length) (hl : Cond.methodLink (zM_y μ).cls idx (zM_y μ') ∈ zz_tbl) (hk : zz_O t k ci nn) (hci : ci < 20) (hcl : vwCl[ci]? = some ((zM_y μ').cls, T, nn)) (hR : zz_RR μ μ') (hst : (st.map fun v => v.category).sum ≤ 8) (hT : zz_T μ μ' t0 t t) (spec : ∀ (Q' : Option Value → zzMem → Prop) (P' : (Bool × zzMem) → Prop), (∀ r M1, P' (r, M1) → Q' (some (.int (zb r))) M1) → zK f P' → zz_S G μ' t t (.ref k :: as) M Q') (h : zK (f.bind g) P) (kk : ∀ r M1, zK (g (r, M1)) P → zz_W G μ t0 t1 t (pc + 3) L (.int (zb r) :: st) M1 Q) : zz_W G μ t0 t1 t pc L (as.reverse ++ .ref k :: st) M Q := by
  refine r_callV hd hm hl hk hci hcl hR hst hT (spec (fun r M' => ∃ q, r = some (.int (zb q)) ∧ zK (g (q, M')) P) _ (fun q M1 hq => ⟨q, rfl, hq⟩) (zK_bi h)) ?_
  intro r M' ⟨q, e1, h⟩; subst e1; exact kk q M' h
theorem gV_lr {idx k ci nn : Nat} {T : u_T} {as : List Value} {α : Type} {f : Option (Int64)} {g : (Int64) → Option α} {P : α → Prop} (hd : decode (zM_c μ) pc = .ok (.invokevirtual idx, 3)) (hm : zz_MV μ' as.length) (hl : Cond.methodLink (zM_y μ).cls idx (zM_y μ') ∈ zz_tbl) (hk : zz_O t k ci nn) (hci : ci < 20) (hcl : vwCl[ci]? = some ((zM_y μ').cls, T, nn)) (hR : zz_RR μ μ') (hst : (st.map fun v => v.category).sum ≤ 8) (hT : zz_T μ μ' t0 t t) (spec : ∀ (Q' : Option Value → zzMem → Prop) (P' : (Int64) → Prop), (∀ r, P' r → Q' (some (.long r)) M) → zK f P' → zz_S G μ' t t (.ref k :: as) M Q') (h : zK (f.bind g) P) (kk : ∀ r, zK (g r) P → zz_W G μ t0 t1 t (pc + 3) L (.long r :: st) M Q) : zz_W G μ t0 t1 t pc L (as.reverse ++ .ref k :: st) M Q := by
  refine r_callV hd hm hl hk hci hcl hR hst hT (spec (fun r M' => ∃ q, r = some (.long q) ∧ M' = M ∧ zK (g q) P) _ (fun q hq => ⟨q, rfl, rfl, hq⟩) (zK_bi h)) ?_
  intro r M' ⟨q, e1, e2, h⟩; subst e1; subst e2; exact kk q h
theorem gV_lw {idx k ci nn : Nat} {T : u_T} {as : List Value} {α : Type} {f : Option (Int64 × zzMem)} {g : (Int64 × zzMem) → Option α} {P : α → Prop} (hd : decode (zM_c μ) pc = .ok (.invokevirtual idx, 3)) (hm : zz_MV μ' as.length) (hl : Cond.methodLink (zM_y μ).cls idx (zM_y μ') ∈ zz_tbl) (hk : zz_O t k ci nn) (hci : ci < 20) (hcl : vwCl[ci]? = some ((zM_y μ').cls, T, nn)) (hR : zz_RR μ μ') (hst : (st.map fun v => v.category).sum ≤ 8) (hT : zz_T μ μ' t0 t t) (spec : ∀ (Q' : Option Value → zzMem → Prop) (P' : (Int64 × zzMem) → Prop), (∀ r M1, P' (r, M1) → Q' (some (.long r)) M1) → zK f P' → zz_S G μ' t t (.ref k :: as) M Q') (h : zK (f.bind g) P) (kk : ∀ r M1, zK (g (r, M1)) P → zz_W G μ t0 t1 t (pc + 3) L (.long r :: st) M1 Q) : zz_W G μ t0 t1 t pc L (as.reverse ++ .ref k :: st) M Q := by
  refine r_callV hd hm hl hk hci hcl hR hst hT (spec (fun r M' => ∃ q, r = some (.long q) ∧ zK (g (q, M')) P) _ (fun q M1 hq => ⟨q, rfl, hq⟩) (zK_bi h)) ?_
  intro r M' ⟨q, e1, h⟩; subst e1; exact kk q M' h
theorem gV_vw {idx k ci nn : Nat} {T : u_T} {as : List Value} {α : Type} {f : Option (zzMem)} {g : (zzMem) → Option α} {P : α → Prop} (hd : decode (zM_c μ) pc = .ok (.invokevirtual idx, 3)) (hm : zz_MV μ' as.length) (hl : Cond.methodLink (zM_y μ).cls idx (zM_y μ') ∈ zz_tbl) (hk : zz_O t k ci nn) (hci : ci < 20) (hcl : vwCl[ci]? = some ((zM_y μ').cls, T, nn)) (hR : zz_RR μ μ') (hst : (st.map fun v => v.category).sum ≤ 8) (hT : zz_T μ μ' t0 t t) (spec : ∀ (Q' : Option Value → zzMem → Prop) (P' : (zzMem) → Prop), (∀ r, P' r → Q' none r) → zK f P' → zz_S G μ' t t (.ref k :: as) M Q') (h : zK (f.bind g) P) (kk : ∀ r, zK (g r) P → zz_W G μ t0 t1 t (pc + 3) L st r Q) : zz_W G μ t0 t1 t pc L (as.reverse ++ .ref k :: st) M Q := by
  refine r_callV hd hm hl hk hci hcl hR hst hT (spec (fun r M' => r = none ∧ zK (g M') P) _ (fun q hq => ⟨rfl, hq⟩) (zK_bi h)) ?_
  intro r M' ⟨e1, h⟩; subst e1; exact kk M' h
theorem gS_vw {idx : Nat} {as : List Value} {α : Type} {f : Option (zzMem)} {g : (zzMem) → Option α} {P : α → Prop} (hd : decode (zM_c μ) pc = .ok (.invokestatic idx, 3)) (hm : zz_MS μ' as.length) (hl : Cond.methodLink (zM_y μ).cls idx (zM_y μ') ∈ zz_tbl)  (hR : zz_RR μ μ') (hst : (st.map fun v => v.category).sum ≤ 8) (hT : zz_T μ μ' t0 t t) (spec : ∀ (Q' : Option Value → zzMem → Prop) (P' : (zzMem) → Prop), (∀ r, P' r → Q' none r) → zK f P' → zz_S G μ' t t (as) M Q') (h : zK (f.bind g) P) (kk : ∀ r, zK (g r) P → zz_W G μ t0 t1 t (pc + 3) L st r Q) : zz_W G μ t0 t1 t pc L (as.reverse ++ st) M Q := by
  refine r_callS hd hm hl hR hst hT (spec (fun r M' => r = none ∧ zK (g M') P) _ (fun q hq => ⟨rfl, hq⟩) (zK_bi h)) ?_
  intro r M' ⟨e1, h⟩; subst e1; exact kk M' h
theorem gI_vw {idx k ka kn t' : Nat} {host : String} {as : List Value} {α : Type} {f : Option zzMem} {g : zzMem → Option α} {P : α → Prop} (hd : decode (zM_c μ) pc = .ok (.invokespecial idx, 3)) (hm : zz_MC μ' as.length) (hnone : zM_r μ' = none) (hl : Cond.methodLink (zM_y μ).cls idx (zM_y μ') ∈ zz_tbl) (hk : zz_O t k ka kn) (hR : zz_RR μ μ') (hst : (st.map fun v => v.category).sum ≤ 8) (hT : zz_T μ μ' t0 t t') (spec : ∀ (Q' : Option Value → zzMem → Prop) (P' : zzMem → Prop), (∀ r, P' r → Q' none r) → zK f P' → zz_S G μ' t t' (.ref k :: as) M Q') (h : zK (f.bind g) P) (kk : ∀ r, zK (g r) P → zz_W G μ t0 t1 t' (pc + 3) L st r Q) : zz_W G μ t0 t1 t pc L (as.reverse ++ .ref k :: st) M Q := by
  refine r_callI hd hm hnone hl hk hR hst hT (spec (fun r M' => r = none ∧ zK (g M') P) _ (fun q hq => ⟨rfl, hq⟩) (zK_bi h)) ?_
  intro r M' ⟨e1, h⟩; subst e1; exact kk M' h
theorem gIN_vw {idx k ka kn t' : Nat} {host : String} {as : List Value} {α : Type} {f : Option zzMem} {g : zzMem → Option α} {P : α → Prop} (hd : decode (zM_c μ) pc = .ok (.invokespecial idx, 3)) (hm : zz_MC μ' as.length) (hnone : zM_r μ' = none) (hl : Cond.methodLinkNest (zM_y μ).cls idx (zM_y μ') host ∈ lw_tbl) (hk : zz_O t k ka kn) (hR : zz_RR μ μ') (hst : (st.map fun v => v.category).sum ≤ 8) (hT : zz_T μ μ' t0 t t') (spec : ∀ (Q' : Option Value → zzMem → Prop) (P' : zzMem → Prop), (∀ r, P' r → Q' none r) → zK f P' → zz_S G μ' t t' (.ref k :: as) M Q') (h : zK (f.bind g) P) (kk : ∀ r, zK (g r) P → zz_W G μ t0 t1 t' (pc + 3) L st r Q) : zz_W G μ t0 t1 t pc L (as.reverse ++ .ref k :: st) M Q := by
  refine r_callIN hd hm hnone hl hk hR hst hT (spec (fun r M' => r = none ∧ zK (g M') P) _ (fun q hq => ⟨rfl, hq⟩) (zK_bi h)) ?_
  intro r M' ⟨e1, h⟩; subst e1; exact kk M' h
end ZKg
noncomputable def n_X8_init_1 (M : zzMem) : Option zzMem :=
  zbd (zz_z M 2) (fun M1 =>
  zbd (zz_si M1 1 1 (nI 0)) (fun M2 =>
  zbd (zz_si M2 1 2 (nI 0)) (fun M3 =>
  zbd (zz_si M3 1 3 (nI 0)) (fun M4 =>
  zbd (zz_si M4 1 4 (nI 0)) (fun M5 =>
  some M5)))))
set_option maxHeartbeats 4000000 in
set_option maxRecDepth 100000 in
theorem d_X8_init_1 {G : zzG} {Q : Option Value → zzMem → Prop} (M : zzMem) {P : zzMem → Prop} (h : zK (n_X8_init_1 M) P) (kR : ∀ r, P r → Q none r) : zz_S G m_X8_init 2 4 [.ref 1] M Q := by
  refine zz_S_of (by decide) (by decide) (Nat.le_of_ble_eq_true rfl) ?_
  show zz_W G m_X8_init 2 4 2 0 [some (.ref 1)] [] M Q
  unfold n_X8_init_1 at h
  refine r_aload_n dX8_init_0 rfl ?_
  refine r_objI dX8_init_1 zk_X8_1 zw_obj (Nat.le_of_ble_eq_true rfl) (Nat.le_of_ble_eq_true rfl) ?_
  refine r_aload_n dX8_init_4 rfl ?_
  refine r_sipush (v := (nI 320)) dX8_init_5 (by decide) ?_
  have h := zK_bd h (x := zz_z M 2) rfl
  refine r_newi (k := 2) (n := 320) dX8_init_8 zw_arr.1 ⟨by decide, by decide, by decide⟩ (by decide +kernel) (by decide +kernel) rfl ⟨by decide +kernel, by decide +kernel⟩ ?_
  generalize zz_z M 2 = M1 at h ⊢
  refine r_putR (k := 1) (q := 2) dX8_init_10 zp_X8_9 rfl ⟨by decide +kernel, rfl⟩ rfl ⟨by decide, by decide⟩ (by decide +kernel) (fun _ => rfl) (fun _ => rfl) ?_
  refine r_aload_n dX8_init_13 rfl ?_
  refine r_iconst (v := (nI 0)) dX8_init_14 (by decide) ?_
  refine r_putI (k := 1) dX8_init_15 zp_X8_13 ⟨by decide +kernel, rfl⟩ rfl rfl rfl (fun M2 eM2 => ?_)
  have h := zK_bd h eM2
  refine r_aload_n dX8_init_18 rfl ?_
  refine r_iconst (v := (nI 0)) dX8_init_19 (by decide) ?_
  refine r_putI (k := 1) dX8_init_20 zp_X8_17 ⟨by decide +kernel, rfl⟩ rfl rfl rfl (fun M3 eM3 => ?_)
  have h := zK_bd h eM3
  refine r_aload_n dX8_init_23 rfl ?_
  refine r_iconst (v := (nI 0)) dX8_init_24 (by decide) ?_
  refine r_putI (k := 1) dX8_init_25 zp_X8_20 ⟨by decide +kernel, rfl⟩ rfl rfl rfl (fun M4 eM4 => ?_)
  have h := zK_bd h eM4
  refine r_aload_n dX8_init_28 rfl ?_
  refine r_iconst (v := (nI 0)) dX8_init_29 (by decide) ?_
  refine r_putI (k := 1) dX8_init_30 zp_X8_23 ⟨by decide +kernel, rfl⟩ rfl rfl rfl (fun M5 eM5 => ?_)
  have h := zK_bd h eM5
  exact r_vret dX8_init_33 rfl (by decide +kernel) (by decide +kernel) (kR M5 (zK_some h))
noncomputable def n_X4_init_3 (M : zzMem) : Option zzMem :=
  zbd (zz_z M 4) (fun M1 =>
  zbd (zz_si M1 3 1 (nI 0)) (fun M2 =>
  zbd (zz_z M2 5) (fun M3 =>
  zbd (zz_z M3 6) (fun M4 =>
  zbd (zz_si M4 3 4 (nI 0)) (fun M5 =>
  zbd (zz_si M5 3 5 (nI 1)) (fun M6 =>
  some M6))))))
set_option maxHeartbeats 4000000 in
set_option maxRecDepth 100000 in
theorem d_X4_init_3 {G : zzG} {Q : Option Value → zzMem → Prop} (M : zzMem) {P : zzMem → Prop} (h : zK (n_X4_init_3 M) P) (kR : ∀ r, P r → Q none r) : zz_S G m_X4_init 6 12 [.ref 3] M Q := by
  refine zz_S_of (by decide) (by decide) (Nat.le_of_ble_eq_true rfl) ?_
  show zz_W G m_X4_init 6 12 6 0 [some (.ref 3)] [] M Q
  unfold n_X4_init_3 at h
  refine r_aload_n dX4_init_0 rfl ?_
  refine r_objI dX4_init_1 zk_X4_3 zw_obj (Nat.le_of_ble_eq_true rfl) (Nat.le_of_ble_eq_true rfl) ?_
  refine r_aload_n dX4_init_4 rfl ?_
  refine r_bipush (v := (nI 60)) dX4_init_5 (by decide) ?_
  have h := zK_bd h (x := zz_z M 4) rfl
  refine r_newi (k := 4) (n := 60) dX4_init_7 zw_arr.1 ⟨by decide, by decide, by decide⟩ (by decide +kernel) (by decide +kernel) rfl ⟨by decide +kernel, by decide +kernel⟩ ?_
  generalize zz_z M 4 = M1 at h ⊢
  refine r_putR (k := 3) (q := 4) dX4_init_9 zp_X4_11 rfl ⟨by decide +kernel, rfl⟩ rfl ⟨by decide, by decide⟩ (by decide +kernel) (fun _ => rfl) (fun _ => rfl) ?_
  refine r_aload_n dX4_init_12 rfl ?_
  refine r_iconst (v := (nI 0)) dX4_init_13 (by decide) ?_
  refine r_putI (k := 3) dX4_init_14 zp_X4_15 ⟨by decide +kernel, rfl⟩ rfl rfl rfl (fun M2 eM2 => ?_)
  have h := zK_bd h eM2
  refine r_aload_n dX4_init_17 rfl ?_
  refine r_bipush (v := (nI 6)) dX4_init_18 (by decide) ?_
  have h := zK_bd h (x := zz_z M2 5) rfl
  refine r_newi (k := 5) (n := 6) dX4_init_20 zw_arr.1 ⟨by decide, by decide, by decide⟩ (by decide +kernel) (by decide +kernel) rfl ⟨by decide +kernel, by decide +kernel⟩ ?_
  generalize zz_z M2 5 = M3 at h ⊢
  refine r_putR (k := 3) (q := 5) dX4_init_22 zp_X4_19 rfl ⟨by decide +kernel, rfl⟩ rfl ⟨by decide, by decide⟩ (by decide +kernel) (fun _ => rfl) (fun _ => rfl) ?_
  refine r_aload_n dX4_init_25 rfl ?_
  refine r_bipush (v := (nI 7)) dX4_init_26 (by decide) ?_
  have h := zK_bd h (x := zz_z M3 6) rfl
  refine r_newi (k := 6) (n := 7) dX4_init_28 zw_arr.1 ⟨by decide, by decide, by decide⟩ (by decide +kernel) (by decide +kernel) rfl ⟨by decide +kernel, by decide +kernel⟩ ?_
  generalize zz_z M3 6 = M4 at h ⊢
  refine r_putR (k := 3) (q := 6) dX4_init_30 zp_X4_22 rfl ⟨by decide +kernel, rfl⟩ rfl ⟨by decide, by decide⟩ (by decide +kernel) (fun _ => rfl) (fun _ => rfl) ?_
  refine r_aload_n dX4_init_33 rfl ?_
  refine r_iconst (v := (nI 0)) dX4_init_34 (by decide) ?_
  refine r_putI (k := 3) dX4_init_35 zp_X4_25 ⟨by decide +kernel, rfl⟩ rfl rfl rfl (fun M5 eM5 => ?_)
  have h := zK_bd h eM5
  refine r_aload_n dX4_init_38 rfl ?_
  refine r_iconst (v := (nI 1)) dX4_init_39 (by decide) ?_
  refine r_putI (k := 3) dX4_init_40 zp_X4_28 ⟨by decide +kernel, rfl⟩ rfl rfl rfl (fun M6 eM6 => ?_)
  have h := zK_bd h eM6
  exact r_vret dX4_init_43 rfl (by decide +kernel) (by decide +kernel) (kR M6 (zK_some h))
noncomputable def n_X7_init_7 (M : zzMem) : Option zzMem :=
  zbd (zz_z M 8) (fun M1 =>
  zbd (zz_z M1 9) (fun M2 =>
  zbd (zz_z M2 10) (fun M3 =>
  zbd (zz_z M3 11) (fun M4 =>
  zbd (zz_si M4 7 4 (nI 0)) (fun M5 =>
  some M5)))))
set_option maxHeartbeats 4000000 in
set_option maxRecDepth 100000 in
theorem d_X7_init_7 {G : zzG} {Q : Option Value → zzMem → Prop} (M : zzMem) {P : zzMem → Prop} (h : zK (n_X7_init_7 M) P) (kR : ∀ r, P r → Q none r) : zz_S G m_X7_init 14 22 [.ref 7] M Q := by
  refine zz_S_of (by decide) (by decide) (Nat.le_of_ble_eq_true rfl) ?_
  show zz_W G m_X7_init 14 22 14 0 [some (.ref 7)] [] M Q
  unfold n_X7_init_7 at h
  refine r_aload_n dX7_init_0 rfl ?_
  refine r_objI dX7_init_1 zk_X7_3 zw_obj (Nat.le_of_ble_eq_true rfl) (Nat.le_of_ble_eq_true rfl) ?_
  refine r_aload_n dX7_init_4 rfl ?_
  refine r_bipush (v := (nI 20)) dX7_init_5 (by decide) ?_
  have h := zK_bd h (x := zz_z M 8) rfl
  refine r_newi (k := 8) (n := 20) dX7_init_7 zw_arr.1 ⟨by decide, by decide, by decide⟩ (by decide +kernel) (by decide +kernel) rfl ⟨by decide +kernel, by decide +kernel⟩ ?_
  generalize zz_z M 8 = M1 at h ⊢
  refine r_putR (k := 7) (q := 8) dX7_init_9 zp_X7_11 rfl ⟨by decide +kernel, rfl⟩ rfl ⟨by decide, by decide⟩ (by decide +kernel) (fun _ => rfl) (fun _ => rfl) ?_
  refine r_aload_n dX7_init_12 rfl ?_
  refine r_bipush (v := (nI 20)) dX7_init_13 (by decide) ?_
  have h := zK_bd h (x := zz_z M1 9) rfl
  refine r_newi (k := 9) (n := 20) dX7_init_15 zw_arr.1 ⟨by decide, by decide, by decide⟩ (by decide +kernel) (by decide +kernel) rfl ⟨by decide +kernel, by decide +kernel⟩ ?_
  generalize zz_z M1 9 = M2 at h ⊢
  refine r_putR (k := 7) (q := 9) dX7_init_17 zp_X7_15 rfl ⟨by decide +kernel, rfl⟩ rfl ⟨by decide, by decide⟩ (by decide +kernel) (fun _ => rfl) (fun _ => rfl) ?_
  refine r_aload_n dX7_init_20 rfl ?_
  refine r_bipush (v := (nI 20)) dX7_init_21 (by decide) ?_
  have h := zK_bd h (x := zz_z M2 10) rfl
  refine r_newi (k := 10) (n := 20) dX7_init_23 zw_arr.1 ⟨by decide, by decide, by decide⟩ (by decide +kernel) (by decide +kernel) rfl ⟨by decide +kernel, by decide +kernel⟩ ?_
  generalize zz_z M2 10 = M3 at h ⊢
  refine r_putR (k := 7) (q := 10) dX7_init_25 zp_X7_18 rfl ⟨by decide +kernel, rfl⟩ rfl ⟨by decide, by decide⟩ (by decide +kernel) (fun _ => rfl) (fun _ => rfl) ?_
  refine r_aload_n dX7_init_28 rfl ?_
  refine r_bipush (v := (nI 20)) dX7_init_29 (by decide) ?_
  have h := zK_bd h (x := zz_z M3 11) rfl
  refine r_newi (k := 11) (n := 20) dX7_init_31 zw_arr.1 ⟨by decide, by decide, by decide⟩ (by decide +kernel) (by decide +kernel) rfl ⟨by decide +kernel, by decide +kernel⟩ ?_
  generalize zz_z M3 11 = M4 at h ⊢
  refine r_putR (k := 7) (q := 11) dX7_init_33 zp_X7_21 rfl ⟨by decide +kernel, rfl⟩ rfl ⟨by decide, by decide⟩ (by decide +kernel) (fun _ => rfl) (fun _ => rfl) ?_
  refine r_aload_n dX7_init_36 rfl ?_
  refine r_iconst (v := (nI 0)) dX7_init_37 (by decide) ?_
  refine r_putI (k := 7) dX7_init_38 zp_X7_24 ⟨by decide +kernel, rfl⟩ rfl rfl rfl (fun M5 eM5 => ?_)
  have h := zK_bd h eM5
  exact r_vret dX7_init_41 rfl (by decide +kernel) (by decide +kernel) (kR M5 (zK_some h))
noncomputable def n_X3_init_13 (M : zzMem) : Option zzMem :=
  zbd (zz_z M 14) (fun M1 =>
  zbd (zz_z M1 15) (fun M2 =>
  zbd (zz_si M2 13 2 (nI 1)) (fun M3 =>
  zbd (zz_si M3 14 0 (-1 : Int32)) (fun M4 =>
  some M4))))
set_option maxHeartbeats 4000000 in
set_option maxRecDepth 100000 in
theorem d_X3_init_13 {G : zzG} {Q : Option Value → zzMem → Prop} (M : zzMem) {P : zzMem → Prop} (h : zK (n_X3_init_13 M) P) (kR : ∀ r, P r → Q none r) : zz_S G m_X3_init 25 29 [.ref 13] M Q := by
  refine zz_S_of (by decide) (by decide) (Nat.le_of_ble_eq_true rfl) ?_
  show zz_W G m_X3_init 25 29 25 0 [some (.ref 13)] [] M Q
  unfold n_X3_init_13 at h
  refine r_aload_n dX3_init_0 rfl ?_
  refine r_objI dX3_init_1 zk_X3_3 zw_obj (Nat.le_of_ble_eq_true rfl) (Nat.le_of_ble_eq_true rfl) ?_
  refine r_aload_n dX3_init_4 rfl ?_
  refine r_bipush (v := (nI 60)) dX3_init_5 (by decide) ?_
  have h := zK_bd h (x := zz_z M 14) rfl
  refine r_newi (k := 14) (n := 60) dX3_init_7 zw_arr.1 ⟨by decide, by decide, by decide⟩ (by decide +kernel) (by decide +kernel) rfl ⟨by decide +kernel, by decide +kernel⟩ ?_
  generalize zz_z M 14 = M1 at h ⊢
  refine r_putR (k := 13) (q := 14) dX3_init_9 zp_X3_11 rfl ⟨by decide +kernel, rfl⟩ rfl ⟨by decide, by decide⟩ (by decide +kernel) (fun _ => rfl) (fun _ => rfl) ?_
  refine r_aload_n dX3_init_12 rfl ?_
  refine r_bipush (v := (nI 8)) dX3_init_13 (by decide) ?_
  have h := zK_bd h (x := zz_z M1 15) rfl
  refine r_newi (k := 15) (n := 8) dX3_init_15 zw_arr.1 ⟨by decide, by decide, by decide⟩ (by decide +kernel) (by decide +kernel) rfl ⟨by decide +kernel, by decide +kernel⟩ ?_
  generalize zz_z M1 15 = M2 at h ⊢
  refine r_putR (k := 13) (q := 15) dX3_init_17 zp_X3_17 rfl ⟨by decide +kernel, rfl⟩ rfl ⟨by decide, by decide⟩ (by decide +kernel) (fun _ => rfl) (fun _ => rfl) ?_
  refine r_aload_n dX3_init_20 rfl ?_
  refine r_iconst (v := (nI 1)) dX3_init_21 (by decide) ?_
  refine r_putI (k := 13) dX3_init_22 zp_X3_20 ⟨by decide +kernel, rfl⟩ rfl rfl rfl (fun M3 eM3 => ?_)
  have h := zK_bd h eM3
  refine r_aload_n dX3_init_25 rfl ?_
  refine r_getR (k := 13) (q := 14) dX3_init_26 zf_X3_11 ⟨by decide +kernel, rfl⟩ rfl ⟨by decide, by decide⟩ (by decide +kernel) ?_
  refine r_iconst (v := (nI 0)) dX3_init_29 (by decide) ?_
  refine r_iconst (v := (-1 : Int32)) dX3_init_30 (by decide) ?_
  refine r_iastc (j := 0) dX3_init_31 ⟨by decide +kernel, rfl⟩ rfl rfl (fun M4 eM4 => ?_)
  have h := zK_bd h eM4
  exact r_vret dX3_init_32 rfl (by decide +kernel) (by decide +kernel) (kR M4 (zK_some h))
noncomputable def n_X3_init_33 (M : zzMem) : Option zzMem :=
  zbd (zz_z M 34) (fun M1 =>
  zbd (zz_z M1 35) (fun M2 =>
  zbd (zz_si M2 33 2 (nI 1)) (fun M3 =>
  zbd (zz_si M3 34 0 (-1 : Int32)) (fun M4 =>
  some M4))))
set_option maxHeartbeats 4000000 in
set_option maxRecDepth 100000 in
theorem d_X3_init_33 {G : zzG} {Q : Option Value → zzMem → Prop} (M : zzMem) {P : zzMem → Prop} (h : zK (n_X3_init_33 M) P) (kR : ∀ r, P r → Q none r) : zz_S G m_X3_init 65 69 [.ref 33] M Q := by
  refine zz_S_of (by decide) (by decide) (Nat.le_of_ble_eq_true rfl) ?_
  show zz_W G m_X3_init 65 69 65 0 [some (.ref 33)] [] M Q
  unfold n_X3_init_33 at h
  refine r_aload_n dX3_init_0 rfl ?_
  refine r_objI dX3_init_1 zk_X3_3 zw_obj (Nat.le_of_ble_eq_true rfl) (Nat.le_of_ble_eq_true rfl) ?_
  refine r_aload_n dX3_init_4 rfl ?_
  refine r_bipush (v := (nI 60)) dX3_init_5 (by decide) ?_
  have h := zK_bd h (x := zz_z M 34) rfl
  refine r_newi (k := 34) (n := 60) dX3_init_7 zw_arr.1 ⟨by decide, by decide, by decide⟩ (by decide +kernel) (by decide +kernel) rfl ⟨by decide +kernel, by decide +kernel⟩ ?_
  generalize zz_z M 34 = M1 at h ⊢
  refine r_putR (k := 33) (q := 34) dX3_init_9 zp_X3_11 rfl ⟨by decide +kernel, rfl⟩ rfl ⟨by decide, by decide⟩ (by decide +kernel) (fun _ => rfl) (fun _ => rfl) ?_
  refine r_aload_n dX3_init_12 rfl ?_
  refine r_bipush (v := (nI 8)) dX3_init_13 (by decide) ?_
  have h := zK_bd h (x := zz_z M1 35) rfl
  refine r_newi (k := 35) (n := 8) dX3_init_15 zw_arr.1 ⟨by decide, by decide, by decide⟩ (by decide +kernel) (by decide +kernel) rfl ⟨by decide +kernel, by decide +kernel⟩ ?_
  generalize zz_z M1 35 = M2 at h ⊢
  refine r_putR (k := 33) (q := 35) dX3_init_17 zp_X3_17 rfl ⟨by decide +kernel, rfl⟩ rfl ⟨by decide, by decide⟩ (by decide +kernel) (fun _ => rfl) (fun _ => rfl) ?_
  refine r_aload_n dX3_init_20 rfl ?_
  refine r_iconst (v := (nI 1)) dX3_init_21 (by decide) ?_
  refine r_putI (k := 33) dX3_init_22 zp_X3_20 ⟨by decide +kernel, rfl⟩ rfl rfl rfl (fun M3 eM3 => ?_)
  have h := zK_bd h eM3
  refine r_aload_n dX3_init_25 rfl ?_
  refine r_getR (k := 33) (q := 34) dX3_init_26 zf_X3_11 ⟨by decide +kernel, rfl⟩ rfl ⟨by decide, by decide⟩ (by decide +kernel) ?_
  refine r_iconst (v := (nI 0)) dX3_init_29 (by decide) ?_
  refine r_iconst (v := (-1 : Int32)) dX3_init_30 (by decide) ?_
  refine r_iastc (j := 0) dX3_init_31 ⟨by decide +kernel, rfl⟩ rfl rfl (fun M4 eM4 => ?_)
  have h := zK_bd h eM4
  exact r_vret dX3_init_32 rfl (by decide +kernel) (by decide +kernel) (kR M4 (zK_some h))
noncomputable def n_X3_init_53 (M : zzMem) : Option zzMem :=
  zbd (zz_z M 54) (fun M1 =>
  zbd (zz_z M1 55) (fun M2 =>
  zbd (zz_si M2 53 2 (nI 1)) (fun M3 =>
  zbd (zz_si M3 54 0 (-1 : Int32)) (fun M4 =>
  some M4))))
set_option maxHeartbeats 4000000 in
set_option maxRecDepth 100000 in
theorem d_X3_init_53 {G : zzG} {Q : Option Value → zzMem → Prop} (M : zzMem) {P : zzMem → Prop} (h : zK (n_X3_init_53 M) P) (kR : ∀ r, P r → Q none r) : zz_S G m_X3_init 105 109 [.ref 53] M Q := by
  refine zz_S_of (by decide) (by decide) (Nat.le_of_ble_eq_true rfl) ?_
  show zz_W G m_X3_init 105 109 105 0 [some (.ref 53)] [] M Q
  unfold n_X3_init_53 at h
  refine r_aload_n dX3_init_0 rfl ?_
  refine r_objI dX3_init_1 zk_X3_3 zw_obj (Nat.le_of_ble_eq_true rfl) (Nat.le_of_ble_eq_true rfl) ?_
  refine r_aload_n dX3_init_4 rfl ?_
  refine r_bipush (v := (nI 60)) dX3_init_5 (by decide) ?_
  have h := zK_bd h (x := zz_z M 54) rfl
  refine r_newi (k := 54) (n := 60) dX3_init_7 zw_arr.1 ⟨by decide, by decide, by decide⟩ (by decide +kernel) (by decide +kernel) rfl ⟨by decide +kernel, by decide +kernel⟩ ?_
  generalize zz_z M 54 = M1 at h ⊢
  refine r_putR (k := 53) (q := 54) dX3_init_9 zp_X3_11 rfl ⟨by decide +kernel, rfl⟩ rfl ⟨by decide, by decide⟩ (by decide +kernel) (fun _ => rfl) (fun _ => rfl) ?_
  refine r_aload_n dX3_init_12 rfl ?_
  refine r_bipush (v := (nI 8)) dX3_init_13 (by decide) ?_
  have h := zK_bd h (x := zz_z M1 55) rfl
  refine r_newi (k := 55) (n := 8) dX3_init_15 zw_arr.1 ⟨by decide, by decide, by decide⟩ (by decide +kernel) (by decide +kernel) rfl ⟨by decide +kernel, by decide +kernel⟩ ?_
  generalize zz_z M1 55 = M2 at h ⊢
  refine r_putR (k := 53) (q := 55) dX3_init_17 zp_X3_17 rfl ⟨by decide +kernel, rfl⟩ rfl ⟨by decide, by decide⟩ (by decide +kernel) (fun _ => rfl) (fun _ => rfl) ?_
  refine r_aload_n dX3_init_20 rfl ?_
  refine r_iconst (v := (nI 1)) dX3_init_21 (by decide) ?_
  refine r_putI (k := 53) dX3_init_22 zp_X3_20 ⟨by decide +kernel, rfl⟩ rfl rfl rfl (fun M3 eM3 => ?_)
  have h := zK_bd h eM3
  refine r_aload_n dX3_init_25 rfl ?_
  refine r_getR (k := 53) (q := 54) dX3_init_26 zf_X3_11 ⟨by decide +kernel, rfl⟩ rfl ⟨by decide, by decide⟩ (by decide +kernel) ?_
  refine r_iconst (v := (nI 0)) dX3_init_29 (by decide) ?_
  refine r_iconst (v := (-1 : Int32)) dX3_init_30 (by decide) ?_
  refine r_iastc (j := 0) dX3_init_31 ⟨by decide +kernel, rfl⟩ rfl rfl (fun M4 eM4 => ?_)
  have h := zK_bd h eM4
  exact r_vret dX3_init_32 rfl (by decide +kernel) (by decide +kernel) (kR M4 (zK_some h))
noncomputable def n_X0_init_16 (M : zzMem) : Option zzMem :=
  zbd (zz_z M 17) (fun M1 =>
  zbd (zz_z M1 18) (fun M2 =>
  zbd (zz_z M2 19) (fun M3 =>
  zbd (zz_z M3 20) (fun M4 =>
  zbd (zz_z M4 21) (fun M5 =>
  zbd (zz_z M5 22) (fun M6 =>
  zbd (zz_z M6 23) (fun M7 =>
  zbd (zz_z M7 24) (fun M8 =>
  zbd (zz_z M8 25) (fun M9 =>
  zbd (zz_z M9 26) (fun M10 =>
  zbd (zz_si M10 16 10 (nI 0)) (fun M11 =>
  zbd (zz_si M11 16 11 (nI 3)) (fun M12 =>
  some M12))))))))))))
set_option maxHeartbeats 4000000 in
set_option maxRecDepth 100000 in
theorem d_X0_init_16 {G : zzG} {Q : Option Value → zzMem → Prop} (M : zzMem) {P : zzMem → Prop} (h : zK (n_X0_init_16 M) P) (kR : ∀ r, P r → Q none r) : zz_S G m_X0_init 31 51 [.ref 16] M Q := by
  refine zz_S_of (by decide) (by decide) (Nat.le_of_ble_eq_true rfl) ?_
  show zz_W G m_X0_init 31 51 31 0 [some (.ref 16)] [] M Q
  unfold n_X0_init_16 at h
  refine r_aload_n dX0_init_0 rfl ?_
  refine r_objI dX0_init_1 zk_X0_3 zw_obj (Nat.le_of_ble_eq_true rfl) (Nat.le_of_ble_eq_true rfl) ?_
  refine r_aload_n dX0_init_4 rfl ?_
  refine r_sipush (v := (nI 256)) dX0_init_5 (by decide) ?_
  have h := zK_bd h (x := zz_z M 17) rfl
  refine r_newi (k := 17) (n := 256) dX0_init_8 zw_arr.1 ⟨by decide, by decide, by decide⟩ (by decide +kernel) (by decide +kernel) rfl ⟨by decide +kernel, by decide +kernel⟩ ?_
  generalize zz_z M 17 = M1 at h ⊢
  refine r_putR (k := 16) (q := 17) dX0_init_10 zp_X0_9 rfl ⟨by decide +kernel, rfl⟩ rfl ⟨by decide, by decide⟩ (by decide +kernel) (fun _ => rfl) (fun _ => rfl) ?_
  refine r_aload_n dX0_init_13 rfl ?_
  refine r_sipush (v := (nI 256)) dX0_init_14 (by decide) ?_
  have h := zK_bd h (x := zz_z M1 18) rfl
  refine r_newi (k := 18) (n := 256) dX0_init_17 zw_arr.1 ⟨by decide, by decide, by decide⟩ (by decide +kernel) (by decide +kernel) rfl ⟨by decide +kernel, by decide +kernel⟩ ?_
  generalize zz_z M1 18 = M2 at h ⊢
  refine r_putR (k := 16) (q := 18) dX0_init_19 zp_X0_15 rfl ⟨by decide +kernel, rfl⟩ rfl ⟨by decide, by decide⟩ (by decide +kernel) (fun _ => rfl) (fun _ => rfl) ?_
  refine r_aload_n dX0_init_22 rfl ?_
  refine r_sipush (v := (nI 256)) dX0_init_23 (by decide) ?_
  have h := zK_bd h (x := zz_z M2 19) rfl
  refine r_newi (k := 19) (n := 256) dX0_init_26 zw_arr.1 ⟨by decide, by decide, by decide⟩ (by decide +kernel) (by decide +kernel) rfl ⟨by decide +kernel, by decide +kernel⟩ ?_
  generalize zz_z M2 19 = M3 at h ⊢
  refine r_putR (k := 16) (q := 19) dX0_init_28 zp_X0_18 rfl ⟨by decide +kernel, rfl⟩ rfl ⟨by decide, by decide⟩ (by decide +kernel) (fun _ => rfl) (fun _ => rfl) ?_
  refine r_aload_n dX0_init_31 rfl ?_
  refine r_sipush (v := (nI 256)) dX0_init_32 (by decide) ?_
  have h := zK_bd h (x := zz_z M3 20) rfl
  refine r_newi (k := 20) (n := 256) dX0_init_35 zw_arr.1 ⟨by decide, by decide, by decide⟩ (by decide +kernel) (by decide +kernel) rfl ⟨by decide +kernel, by decide +kernel⟩ ?_
  generalize zz_z M3 20 = M4 at h ⊢
  refine r_putR (k := 16) (q := 20) dX0_init_37 zp_X0_21 rfl ⟨by decide +kernel, rfl⟩ rfl ⟨by decide, by decide⟩ (by decide +kernel) (fun _ => rfl) (fun _ => rfl) ?_
  refine r_aload_n dX0_init_40 rfl ?_
  refine r_sipush (v := (nI 1536)) dX0_init_41 (by decide) ?_
  have h := zK_bd h (x := zz_z M4 21) rfl
  refine r_newl (k := 21) (n := 1536) dX0_init_44 zw_arr.2.1 ⟨by decide, by decide, by decide⟩ (by decide +kernel) (by decide +kernel) rfl ⟨by decide +kernel, by decide +kernel⟩ ?_
  generalize zz_z M4 21 = M5 at h ⊢
  refine r_putR (k := 16) (q := 21) dX0_init_46 zp_X0_24 rfl ⟨by decide +kernel, rfl⟩ rfl ⟨by decide, by decide⟩ (by decide +kernel) (fun _ => rfl) (fun _ => rfl) ?_
  refine r_aload_n dX0_init_49 rfl ?_
  refine r_bipush (v := (nI 64)) dX0_init_50 (by decide) ?_
  have h := zK_bd h (x := zz_z M5 22) rfl
  refine r_newi (k := 22) (n := 64) dX0_init_52 zw_arr.1 ⟨by decide, by decide, by decide⟩ (by decide +kernel) (by decide +kernel) rfl ⟨by decide +kernel, by decide +kernel⟩ ?_
  generalize zz_z M5 22 = M6 at h ⊢
  refine r_putR (k := 16) (q := 22) dX0_init_54 zp_X0_28 rfl ⟨by decide +kernel, rfl⟩ rfl ⟨by decide, by decide⟩ (by decide +kernel) (fun _ => rfl) (fun _ => rfl) ?_
  refine r_aload_n dX0_init_57 rfl ?_
  refine r_bipush (v := (nI 64)) dX0_init_58 (by decide) ?_
  have h := zK_bd h (x := zz_z M6 23) rfl
  refine r_newi (k := 23) (n := 64) dX0_init_60 zw_arr.1 ⟨by decide, by decide, by decide⟩ (by decide +kernel) (by decide +kernel) rfl ⟨by decide +kernel, by decide +kernel⟩ ?_
  generalize zz_z M6 23 = M7 at h ⊢
  refine r_putR (k := 16) (q := 23) dX0_init_62 zp_X0_31 rfl ⟨by decide +kernel, rfl⟩ rfl ⟨by decide, by decide⟩ (by decide +kernel) (fun _ => rfl) (fun _ => rfl) ?_
  refine r_aload_n dX0_init_65 rfl ?_
  refine r_bipush (v := (nI 64)) dX0_init_66 (by decide) ?_
  have h := zK_bd h (x := zz_z M7 24) rfl
  refine r_newi (k := 24) (n := 64) dX0_init_68 zw_arr.1 ⟨by decide, by decide, by decide⟩ (by decide +kernel) (by decide +kernel) rfl ⟨by decide +kernel, by decide +kernel⟩ ?_
  generalize zz_z M7 24 = M8 at h ⊢
  refine r_putR (k := 16) (q := 24) dX0_init_70 zp_X0_34 rfl ⟨by decide +kernel, rfl⟩ rfl ⟨by decide, by decide⟩ (by decide +kernel) (fun _ => rfl) (fun _ => rfl) ?_
  refine r_aload_n dX0_init_73 rfl ?_
  refine r_bipush (v := (nI 64)) dX0_init_74 (by decide) ?_
  have h := zK_bd h (x := zz_z M8 25) rfl
  refine r_newi (k := 25) (n := 64) dX0_init_76 zw_arr.1 ⟨by decide, by decide, by decide⟩ (by decide +kernel) (by decide +kernel) rfl ⟨by decide +kernel, by decide +kernel⟩ ?_
  generalize zz_z M8 25 = M9 at h ⊢
  refine r_putR (k := 16) (q := 25) dX0_init_78 zp_X0_37 rfl ⟨by decide +kernel, rfl⟩ rfl ⟨by decide, by decide⟩ (by decide +kernel) (fun _ => rfl) (fun _ => rfl) ?_
  refine r_aload_n dX0_init_81 rfl ?_
  refine r_sipush (v := (nI 300)) dX0_init_82 (by decide) ?_
  have h := zK_bd h (x := zz_z M9 26) rfl
  refine r_newl (k := 26) (n := 300) dX0_init_85 zw_arr.2.1 ⟨by decide, by decide, by decide⟩ (by decide +kernel) (by decide +kernel) rfl ⟨by decide +kernel, by decide +kernel⟩ ?_
  generalize zz_z M9 26 = M10 at h ⊢
  refine r_putR (k := 16) (q := 26) dX0_init_87 zp_X0_40 rfl ⟨by decide +kernel, rfl⟩ rfl ⟨by decide, by decide⟩ (by decide +kernel) (fun _ => rfl) (fun _ => rfl) ?_
  refine r_aload_n dX0_init_90 rfl ?_
  refine r_iconst (v := (nI 0)) dX0_init_91 (by decide) ?_
  refine r_putI (k := 16) dX0_init_92 zp_X0_43 ⟨by decide +kernel, rfl⟩ rfl rfl rfl (fun M11 eM11 => ?_)
  have h := zK_bd h eM11
  refine r_aload_n dX0_init_95 rfl ?_
  refine r_iconst (v := (nI 3)) dX0_init_96 (by decide) ?_
  refine r_putI (k := 16) dX0_init_97 zp_X0_47 ⟨by decide +kernel, rfl⟩ rfl rfl rfl (fun M12 eM12 => ?_)
  have h := zK_bd h eM12
  exact r_vret dX0_init_100 rfl (by decide +kernel) (by decide +kernel) (kR M12 (zK_some h))
noncomputable def n_X0_init_36 (M : zzMem) : Option zzMem :=
  zbd (zz_z M 37) (fun M1 =>
  zbd (zz_z M1 38) (fun M2 =>
  zbd (zz_z M2 39) (fun M3 =>
  zbd (zz_z M3 40) (fun M4 =>
  zbd (zz_z M4 41) (fun M5 =>
  zbd (zz_z M5 42) (fun M6 =>
  zbd (zz_z M6 43) (fun M7 =>
  zbd (zz_z M7 44) (fun M8 =>
  zbd (zz_z M8 45) (fun M9 =>
  zbd (zz_z M9 46) (fun M10 =>
  zbd (zz_si M10 36 10 (nI 0)) (fun M11 =>
  zbd (zz_si M11 36 11 (nI 3)) (fun M12 =>
  some M12))))))))))))
set_option maxHeartbeats 4000000 in
set_option maxRecDepth 100000 in
theorem d_X0_init_36 {G : zzG} {Q : Option Value → zzMem → Prop} (M : zzMem) {P : zzMem → Prop} (h : zK (n_X0_init_36 M) P) (kR : ∀ r, P r → Q none r) : zz_S G m_X0_init 71 91 [.ref 36] M Q := by
  refine zz_S_of (by decide) (by decide) (Nat.le_of_ble_eq_true rfl) ?_
  show zz_W G m_X0_init 71 91 71 0 [some (.ref 36)] [] M Q
  unfold n_X0_init_36 at h
  refine r_aload_n dX0_init_0 rfl ?_
  refine r_objI dX0_init_1 zk_X0_3 zw_obj (Nat.le_of_ble_eq_true rfl) (Nat.le_of_ble_eq_true rfl) ?_
  refine r_aload_n dX0_init_4 rfl ?_
  refine r_sipush (v := (nI 256)) dX0_init_5 (by decide) ?_
  have h := zK_bd h (x := zz_z M 37) rfl
  refine r_newi (k := 37) (n := 256) dX0_init_8 zw_arr.1 ⟨by decide, by decide, by decide⟩ (by decide +kernel) (by decide +kernel) rfl ⟨by decide +kernel, by decide +kernel⟩ ?_
  generalize zz_z M 37 = M1 at h ⊢
  refine r_putR (k := 36) (q := 37) dX0_init_10 zp_X0_9 rfl ⟨by decide +kernel, rfl⟩ rfl ⟨by decide, by decide⟩ (by decide +kernel) (fun _ => rfl) (fun _ => rfl) ?_
  refine r_aload_n dX0_init_13 rfl ?_
  refine r_sipush (v := (nI 256)) dX0_init_14 (by decide) ?_
  have h := zK_bd h (x := zz_z M1 38) rfl
  refine r_newi (k := 38) (n := 256) dX0_init_17 zw_arr.1 ⟨by decide, by decide, by decide⟩ (by decide +kernel) (by decide +kernel) rfl ⟨by decide +kernel, by decide +kernel⟩ ?_
  generalize zz_z M1 38 = M2 at h ⊢
  refine r_putR (k := 36) (q := 38) dX0_init_19 zp_X0_15 rfl ⟨by decide +kernel, rfl⟩ rfl ⟨by decide, by decide⟩ (by decide +kernel) (fun _ => rfl) (fun _ => rfl) ?_
  refine r_aload_n dX0_init_22 rfl ?_
  refine r_sipush (v := (nI 256)) dX0_init_23 (by decide) ?_
  have h := zK_bd h (x := zz_z M2 39) rfl
  refine r_newi (k := 39) (n := 256) dX0_init_26 zw_arr.1 ⟨by decide, by decide, by decide⟩ (by decide +kernel) (by decide +kernel) rfl ⟨by decide +kernel, by decide +kernel⟩ ?_
  generalize zz_z M2 39 = M3 at h ⊢
  refine r_putR (k := 36) (q := 39) dX0_init_28 zp_X0_18 rfl ⟨by decide +kernel, rfl⟩ rfl ⟨by decide, by decide⟩ (by decide +kernel) (fun _ => rfl) (fun _ => rfl) ?_
  refine r_aload_n dX0_init_31 rfl ?_
  refine r_sipush (v := (nI 256)) dX0_init_32 (by decide) ?_
  have h := zK_bd h (x := zz_z M3 40) rfl
  refine r_newi (k := 40) (n := 256) dX0_init_35 zw_arr.1 ⟨by decide, by decide, by decide⟩ (by decide +kernel) (by decide +kernel) rfl ⟨by decide +kernel, by decide +kernel⟩ ?_
  generalize zz_z M3 40 = M4 at h ⊢
  refine r_putR (k := 36) (q := 40) dX0_init_37 zp_X0_21 rfl ⟨by decide +kernel, rfl⟩ rfl ⟨by decide, by decide⟩ (by decide +kernel) (fun _ => rfl) (fun _ => rfl) ?_
  refine r_aload_n dX0_init_40 rfl ?_
  refine r_sipush (v := (nI 1536)) dX0_init_41 (by decide) ?_
  have h := zK_bd h (x := zz_z M4 41) rfl
  refine r_newl (k := 41) (n := 1536) dX0_init_44 zw_arr.2.1 ⟨by decide, by decide, by decide⟩ (by decide +kernel) (by decide +kernel) rfl ⟨by decide +kernel, by decide +kernel⟩ ?_
  generalize zz_z M4 41 = M5 at h ⊢
  refine r_putR (k := 36) (q := 41) dX0_init_46 zp_X0_24 rfl ⟨by decide +kernel, rfl⟩ rfl ⟨by decide, by decide⟩ (by decide +kernel) (fun _ => rfl) (fun _ => rfl) ?_
  refine r_aload_n dX0_init_49 rfl ?_
  refine r_bipush (v := (nI 64)) dX0_init_50 (by decide) ?_
  have h := zK_bd h (x := zz_z M5 42) rfl
  refine r_newi (k := 42) (n := 64) dX0_init_52 zw_arr.1 ⟨by decide, by decide, by decide⟩ (by decide +kernel) (by decide +kernel) rfl ⟨by decide +kernel, by decide +kernel⟩ ?_
  generalize zz_z M5 42 = M6 at h ⊢
  refine r_putR (k := 36) (q := 42) dX0_init_54 zp_X0_28 rfl ⟨by decide +kernel, rfl⟩ rfl ⟨by decide, by decide⟩ (by decide +kernel) (fun _ => rfl) (fun _ => rfl) ?_
  refine r_aload_n dX0_init_57 rfl ?_
  refine r_bipush (v := (nI 64)) dX0_init_58 (by decide) ?_
  have h := zK_bd h (x := zz_z M6 43) rfl
  refine r_newi (k := 43) (n := 64) dX0_init_60 zw_arr.1 ⟨by decide, by decide, by decide⟩ (by decide +kernel) (by decide +kernel) rfl ⟨by decide +kernel, by decide +kernel⟩ ?_
  generalize zz_z M6 43 = M7 at h ⊢
  refine r_putR (k := 36) (q := 43) dX0_init_62 zp_X0_31 rfl ⟨by decide +kernel, rfl⟩ rfl ⟨by decide, by decide⟩ (by decide +kernel) (fun _ => rfl) (fun _ => rfl) ?_
  refine r_aload_n dX0_init_65 rfl ?_
  refine r_bipush (v := (nI 64)) dX0_init_66 (by decide) ?_
  have h := zK_bd h (x := zz_z M7 44) rfl
  refine r_newi (k := 44) (n := 64) dX0_init_68 zw_arr.1 ⟨by decide, by decide, by decide⟩ (by decide +kernel) (by decide +kernel) rfl ⟨by decide +kernel, by decide +kernel⟩ ?_
  generalize zz_z M7 44 = M8 at h ⊢
  refine r_putR (k := 36) (q := 44) dX0_init_70 zp_X0_34 rfl ⟨by decide +kernel, rfl⟩ rfl ⟨by decide, by decide⟩ (by decide +kernel) (fun _ => rfl) (fun _ => rfl) ?_
  refine r_aload_n dX0_init_73 rfl ?_
  refine r_bipush (v := (nI 64)) dX0_init_74 (by decide) ?_
  have h := zK_bd h (x := zz_z M8 45) rfl
  refine r_newi (k := 45) (n := 64) dX0_init_76 zw_arr.1 ⟨by decide, by decide, by decide⟩ (by decide +kernel) (by decide +kernel) rfl ⟨by decide +kernel, by decide +kernel⟩ ?_
  generalize zz_z M8 45 = M9 at h ⊢
  refine r_putR (k := 36) (q := 45) dX0_init_78 zp_X0_37 rfl ⟨by decide +kernel, rfl⟩ rfl ⟨by decide, by decide⟩ (by decide +kernel) (fun _ => rfl) (fun _ => rfl) ?_
  refine r_aload_n dX0_init_81 rfl ?_
  refine r_sipush (v := (nI 300)) dX0_init_82 (by decide) ?_
  have h := zK_bd h (x := zz_z M9 46) rfl
  refine r_newl (k := 46) (n := 300) dX0_init_85 zw_arr.2.1 ⟨by decide, by decide, by decide⟩ (by decide +kernel) (by decide +kernel) rfl ⟨by decide +kernel, by decide +kernel⟩ ?_
  generalize zz_z M9 46 = M10 at h ⊢
  refine r_putR (k := 36) (q := 46) dX0_init_87 zp_X0_40 rfl ⟨by decide +kernel, rfl⟩ rfl ⟨by decide, by decide⟩ (by decide +kernel) (fun _ => rfl) (fun _ => rfl) ?_
  refine r_aload_n dX0_init_90 rfl ?_
  refine r_iconst (v := (nI 0)) dX0_init_91 (by decide) ?_
  refine r_putI (k := 36) dX0_init_92 zp_X0_43 ⟨by decide +kernel, rfl⟩ rfl rfl rfl (fun M11 eM11 => ?_)
  have h := zK_bd h eM11
  refine r_aload_n dX0_init_95 rfl ?_
  refine r_iconst (v := (nI 3)) dX0_init_96 (by decide) ?_
  refine r_putI (k := 36) dX0_init_97 zp_X0_47 ⟨by decide +kernel, rfl⟩ rfl rfl rfl (fun M12 eM12 => ?_)
  have h := zK_bd h eM12
  exact r_vret dX0_init_100 rfl (by decide +kernel) (by decide +kernel) (kR M12 (zK_some h))
noncomputable def n_X0_init_56 (M : zzMem) : Option zzMem :=
  zbd (zz_z M 57) (fun M1 =>
  zbd (zz_z M1 58) (fun M2 =>
  zbd (zz_z M2 59) (fun M3 =>
  zbd (zz_z M3 60) (fun M4 =>
  zbd (zz_z M4 61) (fun M5 =>
  zbd (zz_z M5 62) (fun M6 =>
  zbd (zz_z M6 63) (fun M7 =>
  zbd (zz_z M7 64) (fun M8 =>
  zbd (zz_z M8 65) (fun M9 =>
  zbd (zz_z M9 66) (fun M10 =>
  zbd (zz_si M10 56 10 (nI 0)) (fun M11 =>
  zbd (zz_si M11 56 11 (nI 3)) (fun M12 =>
  some M12))))))))))))
set_option maxHeartbeats 4000000 in
set_option maxRecDepth 100000 in
theorem d_X0_init_56 {G : zzG} {Q : Option Value → zzMem → Prop} (M : zzMem) {P : zzMem → Prop} (h : zK (n_X0_init_56 M) P) (kR : ∀ r, P r → Q none r) : zz_S G m_X0_init 111 131 [.ref 56] M Q := by
  refine zz_S_of (by decide) (by decide) (Nat.le_of_ble_eq_true rfl) ?_
  show zz_W G m_X0_init 111 131 111 0 [some (.ref 56)] [] M Q
  unfold n_X0_init_56 at h
  refine r_aload_n dX0_init_0 rfl ?_
  refine r_objI dX0_init_1 zk_X0_3 zw_obj (Nat.le_of_ble_eq_true rfl) (Nat.le_of_ble_eq_true rfl) ?_
  refine r_aload_n dX0_init_4 rfl ?_
  refine r_sipush (v := (nI 256)) dX0_init_5 (by decide) ?_
  have h := zK_bd h (x := zz_z M 57) rfl
  refine r_newi (k := 57) (n := 256) dX0_init_8 zw_arr.1 ⟨by decide, by decide, by decide⟩ (by decide +kernel) (by decide +kernel) rfl ⟨by decide +kernel, by decide +kernel⟩ ?_
  generalize zz_z M 57 = M1 at h ⊢
  refine r_putR (k := 56) (q := 57) dX0_init_10 zp_X0_9 rfl ⟨by decide +kernel, rfl⟩ rfl ⟨by decide, by decide⟩ (by decide +kernel) (fun _ => rfl) (fun _ => rfl) ?_
  refine r_aload_n dX0_init_13 rfl ?_
  refine r_sipush (v := (nI 256)) dX0_init_14 (by decide) ?_
  have h := zK_bd h (x := zz_z M1 58) rfl
  refine r_newi (k := 58) (n := 256) dX0_init_17 zw_arr.1 ⟨by decide, by decide, by decide⟩ (by decide +kernel) (by decide +kernel) rfl ⟨by decide +kernel, by decide +kernel⟩ ?_
  generalize zz_z M1 58 = M2 at h ⊢
  refine r_putR (k := 56) (q := 58) dX0_init_19 zp_X0_15 rfl ⟨by decide +kernel, rfl⟩ rfl ⟨by decide, by decide⟩ (by decide +kernel) (fun _ => rfl) (fun _ => rfl) ?_
  refine r_aload_n dX0_init_22 rfl ?_
  refine r_sipush (v := (nI 256)) dX0_init_23 (by decide) ?_
  have h := zK_bd h (x := zz_z M2 59) rfl
  refine r_newi (k := 59) (n := 256) dX0_init_26 zw_arr.1 ⟨by decide, by decide, by decide⟩ (by decide +kernel) (by decide +kernel) rfl ⟨by decide +kernel, by decide +kernel⟩ ?_
  generalize zz_z M2 59 = M3 at h ⊢
  refine r_putR (k := 56) (q := 59) dX0_init_28 zp_X0_18 rfl ⟨by decide +kernel, rfl⟩ rfl ⟨by decide, by decide⟩ (by decide +kernel) (fun _ => rfl) (fun _ => rfl) ?_
  refine r_aload_n dX0_init_31 rfl ?_
  refine r_sipush (v := (nI 256)) dX0_init_32 (by decide) ?_
  have h := zK_bd h (x := zz_z M3 60) rfl
  refine r_newi (k := 60) (n := 256) dX0_init_35 zw_arr.1 ⟨by decide, by decide, by decide⟩ (by decide +kernel) (by decide +kernel) rfl ⟨by decide +kernel, by decide +kernel⟩ ?_
  generalize zz_z M3 60 = M4 at h ⊢
  refine r_putR (k := 56) (q := 60) dX0_init_37 zp_X0_21 rfl ⟨by decide +kernel, rfl⟩ rfl ⟨by decide, by decide⟩ (by decide +kernel) (fun _ => rfl) (fun _ => rfl) ?_
  refine r_aload_n dX0_init_40 rfl ?_
  refine r_sipush (v := (nI 1536)) dX0_init_41 (by decide) ?_
  have h := zK_bd h (x := zz_z M4 61) rfl
  refine r_newl (k := 61) (n := 1536) dX0_init_44 zw_arr.2.1 ⟨by decide, by decide, by decide⟩ (by decide +kernel) (by decide +kernel) rfl ⟨by decide +kernel, by decide +kernel⟩ ?_
  generalize zz_z M4 61 = M5 at h ⊢
  refine r_putR (k := 56) (q := 61) dX0_init_46 zp_X0_24 rfl ⟨by decide +kernel, rfl⟩ rfl ⟨by decide, by decide⟩ (by decide +kernel) (fun _ => rfl) (fun _ => rfl) ?_
  refine r_aload_n dX0_init_49 rfl ?_
  refine r_bipush (v := (nI 64)) dX0_init_50 (by decide) ?_
  have h := zK_bd h (x := zz_z M5 62) rfl
  refine r_newi (k := 62) (n := 64) dX0_init_52 zw_arr.1 ⟨by decide, by decide, by decide⟩ (by decide +kernel) (by decide +kernel) rfl ⟨by decide +kernel, by decide +kernel⟩ ?_
  generalize zz_z M5 62 = M6 at h ⊢
  refine r_putR (k := 56) (q := 62) dX0_init_54 zp_X0_28 rfl ⟨by decide +kernel, rfl⟩ rfl ⟨by decide, by decide⟩ (by decide +kernel) (fun _ => rfl) (fun _ => rfl) ?_
  refine r_aload_n dX0_init_57 rfl ?_
  refine r_bipush (v := (nI 64)) dX0_init_58 (by decide) ?_
  have h := zK_bd h (x := zz_z M6 63) rfl
  refine r_newi (k := 63) (n := 64) dX0_init_60 zw_arr.1 ⟨by decide, by decide, by decide⟩ (by decide +kernel) (by decide +kernel) rfl ⟨by decide +kernel, by decide +kernel⟩ ?_
  generalize zz_z M6 63 = M7 at h ⊢
  refine r_putR (k := 56) (q := 63) dX0_init_62 zp_X0_31 rfl ⟨by decide +kernel, rfl⟩ rfl ⟨by decide, by decide⟩ (by decide +kernel) (fun _ => rfl) (fun _ => rfl) ?_
  refine r_aload_n dX0_init_65 rfl ?_
  refine r_bipush (v := (nI 64)) dX0_init_66 (by decide) ?_
  have h := zK_bd h (x := zz_z M7 64) rfl
  refine r_newi (k := 64) (n := 64) dX0_init_68 zw_arr.1 ⟨by decide, by decide, by decide⟩ (by decide +kernel) (by decide +kernel) rfl ⟨by decide +kernel, by decide +kernel⟩ ?_
  generalize zz_z M7 64 = M8 at h ⊢
  refine r_putR (k := 56) (q := 64) dX0_init_70 zp_X0_34 rfl ⟨by decide +kernel, rfl⟩ rfl ⟨by decide, by decide⟩ (by decide +kernel) (fun _ => rfl) (fun _ => rfl) ?_
  refine r_aload_n dX0_init_73 rfl ?_
  refine r_bipush (v := (nI 64)) dX0_init_74 (by decide) ?_
  have h := zK_bd h (x := zz_z M8 65) rfl
  refine r_newi (k := 65) (n := 64) dX0_init_76 zw_arr.1 ⟨by decide, by decide, by decide⟩ (by decide +kernel) (by decide +kernel) rfl ⟨by decide +kernel, by decide +kernel⟩ ?_
  generalize zz_z M8 65 = M9 at h ⊢
  refine r_putR (k := 56) (q := 65) dX0_init_78 zp_X0_37 rfl ⟨by decide +kernel, rfl⟩ rfl ⟨by decide, by decide⟩ (by decide +kernel) (fun _ => rfl) (fun _ => rfl) ?_
  refine r_aload_n dX0_init_81 rfl ?_
  refine r_sipush (v := (nI 300)) dX0_init_82 (by decide) ?_
  have h := zK_bd h (x := zz_z M9 66) rfl
  refine r_newl (k := 66) (n := 300) dX0_init_85 zw_arr.2.1 ⟨by decide, by decide, by decide⟩ (by decide +kernel) (by decide +kernel) rfl ⟨by decide +kernel, by decide +kernel⟩ ?_
  generalize zz_z M9 66 = M10 at h ⊢
  refine r_putR (k := 56) (q := 66) dX0_init_87 zp_X0_40 rfl ⟨by decide +kernel, rfl⟩ rfl ⟨by decide, by decide⟩ (by decide +kernel) (fun _ => rfl) (fun _ => rfl) ?_
  refine r_aload_n dX0_init_90 rfl ?_
  refine r_iconst (v := (nI 0)) dX0_init_91 (by decide) ?_
  refine r_putI (k := 56) dX0_init_92 zp_X0_43 ⟨by decide +kernel, rfl⟩ rfl rfl rfl (fun M11 eM11 => ?_)
  have h := zK_bd h eM11
  refine r_aload_n dX0_init_95 rfl ?_
  refine r_iconst (v := (nI 3)) dX0_init_96 (by decide) ?_
  refine r_putI (k := 56) dX0_init_97 zp_X0_47 ⟨by decide +kernel, rfl⟩ rfl rfl rfl (fun M12 eM12 => ?_)
  have h := zK_bd h eM12
  exact r_vret dX0_init_100 rfl (by decide +kernel) (by decide +kernel) (kR M12 (zK_some h))
noncomputable def n_X5_init_27 (M : zzMem) : Option zzMem :=
  zbd (zz_z M 28) (fun M1 =>
  zbd (zz_si M1 27 1 (nI 0)) (fun M2 =>
  some M2))
set_option maxHeartbeats 4000000 in
set_option maxRecDepth 100000 in
theorem d_X5_init_27 {G : zzG} {Q : Option Value → zzMem → Prop} (M : zzMem) {P : zzMem → Prop} (h : zK (n_X5_init_27 M) P) (kR : ∀ r, P r → Q none r) : zz_S G m_X5_init 53 55 [.ref 27] M Q := by
  refine zz_S_of (by decide) (by decide) (Nat.le_of_ble_eq_true rfl) ?_
  show zz_W G m_X5_init 53 55 53 0 [some (.ref 27)] [] M Q
  unfold n_X5_init_27 at h
  refine r_aload_n dX5_init_0 rfl ?_
  refine r_objI dX5_init_1 zk_X5_3 zw_obj (Nat.le_of_ble_eq_true rfl) (Nat.le_of_ble_eq_true rfl) ?_
  refine r_aload_n dX5_init_4 rfl ?_
  refine r_sipush (v := (nI 300)) dX5_init_5 (by decide) ?_
  have h := zK_bd h (x := zz_z M 28) rfl
  refine r_newl (k := 28) (n := 300) dX5_init_8 zw_arr.2.1 ⟨by decide, by decide, by decide⟩ (by decide +kernel) (by decide +kernel) rfl ⟨by decide +kernel, by decide +kernel⟩ ?_
  generalize zz_z M 28 = M1 at h ⊢
  refine r_putR (k := 27) (q := 28) dX5_init_10 zp_X5_9 rfl ⟨by decide +kernel, rfl⟩ rfl ⟨by decide, by decide⟩ (by decide +kernel) (fun _ => rfl) (fun _ => rfl) ?_
  refine r_aload_n dX5_init_13 rfl ?_
  refine r_iconst (v := (nI 0)) dX5_init_14 (by decide) ?_
  refine r_putI (k := 27) dX5_init_15 zp_X5_15 ⟨by decide +kernel, rfl⟩ rfl rfl rfl (fun M2 eM2 => ?_)
  have h := zK_bd h eM2
  exact r_vret dX5_init_18 rfl (by decide +kernel) (by decide +kernel) (kR M2 (zK_some h))
noncomputable def n_X5_init_47 (M : zzMem) : Option zzMem :=
  zbd (zz_z M 48) (fun M1 =>
  zbd (zz_si M1 47 1 (nI 0)) (fun M2 =>
  some M2))
set_option maxHeartbeats 4000000 in
set_option maxRecDepth 100000 in
theorem d_X5_init_47 {G : zzG} {Q : Option Value → zzMem → Prop} (M : zzMem) {P : zzMem → Prop} (h : zK (n_X5_init_47 M) P) (kR : ∀ r, P r → Q none r) : zz_S G m_X5_init 93 95 [.ref 47] M Q := by
  refine zz_S_of (by decide) (by decide) (Nat.le_of_ble_eq_true rfl) ?_
  show zz_W G m_X5_init 93 95 93 0 [some (.ref 47)] [] M Q
  unfold n_X5_init_47 at h
  refine r_aload_n dX5_init_0 rfl ?_
  refine r_objI dX5_init_1 zk_X5_3 zw_obj (Nat.le_of_ble_eq_true rfl) (Nat.le_of_ble_eq_true rfl) ?_
  refine r_aload_n dX5_init_4 rfl ?_
  refine r_sipush (v := (nI 300)) dX5_init_5 (by decide) ?_
  have h := zK_bd h (x := zz_z M 48) rfl
  refine r_newl (k := 48) (n := 300) dX5_init_8 zw_arr.2.1 ⟨by decide, by decide, by decide⟩ (by decide +kernel) (by decide +kernel) rfl ⟨by decide +kernel, by decide +kernel⟩ ?_
  generalize zz_z M 48 = M1 at h ⊢
  refine r_putR (k := 47) (q := 48) dX5_init_10 zp_X5_9 rfl ⟨by decide +kernel, rfl⟩ rfl ⟨by decide, by decide⟩ (by decide +kernel) (fun _ => rfl) (fun _ => rfl) ?_
  refine r_aload_n dX5_init_13 rfl ?_
  refine r_iconst (v := (nI 0)) dX5_init_14 (by decide) ?_
  refine r_putI (k := 47) dX5_init_15 zp_X5_15 ⟨by decide +kernel, rfl⟩ rfl rfl rfl (fun M2 eM2 => ?_)
  have h := zK_bd h eM2
  exact r_vret dX5_init_18 rfl (by decide +kernel) (by decide +kernel) (kR M2 (zK_some h))
noncomputable def n_X5_init_67 (M : zzMem) : Option zzMem :=
  zbd (zz_z M 68) (fun M1 =>
  zbd (zz_si M1 67 1 (nI 0)) (fun M2 =>
  some M2))
set_option maxHeartbeats 4000000 in
set_option maxRecDepth 100000 in
theorem d_X5_init_67 {G : zzG} {Q : Option Value → zzMem → Prop} (M : zzMem) {P : zzMem → Prop} (h : zK (n_X5_init_67 M) P) (kR : ∀ r, P r → Q none r) : zz_S G m_X5_init 133 135 [.ref 67] M Q := by
  refine zz_S_of (by decide) (by decide) (Nat.le_of_ble_eq_true rfl) ?_
  show zz_W G m_X5_init 133 135 133 0 [some (.ref 67)] [] M Q
  unfold n_X5_init_67 at h
  refine r_aload_n dX5_init_0 rfl ?_
  refine r_objI dX5_init_1 zk_X5_3 zw_obj (Nat.le_of_ble_eq_true rfl) (Nat.le_of_ble_eq_true rfl) ?_
  refine r_aload_n dX5_init_4 rfl ?_
  refine r_sipush (v := (nI 300)) dX5_init_5 (by decide) ?_
  have h := zK_bd h (x := zz_z M 68) rfl
  refine r_newl (k := 68) (n := 300) dX5_init_8 zw_arr.2.1 ⟨by decide, by decide, by decide⟩ (by decide +kernel) (by decide +kernel) rfl ⟨by decide +kernel, by decide +kernel⟩ ?_
  generalize zz_z M 68 = M1 at h ⊢
  refine r_putR (k := 67) (q := 68) dX5_init_10 zp_X5_9 rfl ⟨by decide +kernel, rfl⟩ rfl ⟨by decide, by decide⟩ (by decide +kernel) (fun _ => rfl) (fun _ => rfl) ?_
  refine r_aload_n dX5_init_13 rfl ?_
  refine r_iconst (v := (nI 0)) dX5_init_14 (by decide) ?_
  refine r_putI (k := 67) dX5_init_15 zp_X5_15 ⟨by decide +kernel, rfl⟩ rfl rfl rfl (fun M2 eM2 => ?_)
  have h := zK_bd h eM2
  exact r_vret dX5_init_18 rfl (by decide +kernel) (by decide +kernel) (kR M2 (zK_some h))
noncomputable def n_X6_init_29 (M : zzMem) : Option zzMem :=
  zbd (zz_z M 30) (fun M1 =>
  zbd (zz_z M1 31) (fun M2 =>
  (f_J7_fill_53178 30 4 (-1 : Int32) M2).bind (fun M3 =>
  some M3)))
set_option maxHeartbeats 4000000 in
set_option maxRecDepth 100000 in
theorem d_X6_init_29 {G : zzG} {Q : Option Value → zzMem → Prop} (M : zzMem) {P : zzMem → Prop} (h : zK (n_X6_init_29 M) P) (kR : ∀ r, P r → Q none r) : zz_S G m_X6_init 57 61 [.ref 29] M Q := by
  refine zz_S_of (by decide) (by decide) (Nat.le_of_ble_eq_true rfl) ?_
  show zz_W G m_X6_init 57 61 57 0 [some (.ref 29)] [] M Q
  unfold n_X6_init_29 at h
  refine r_aload_n dX6_init_0 rfl ?_
  refine r_objI dX6_init_1 zk_X6_3 zw_obj (Nat.le_of_ble_eq_true rfl) (Nat.le_of_ble_eq_true rfl) ?_
  refine r_aload_n dX6_init_4 rfl ?_
  refine r_iconst (v := (nI 4)) dX6_init_5 (by decide) ?_
  have h := zK_bd h (x := zz_z M 30) rfl
  refine r_newi (k := 30) (n := 4) dX6_init_6 zw_arr.1 ⟨by decide, by decide, by decide⟩ (by decide +kernel) (by decide +kernel) rfl ⟨by decide +kernel, by decide +kernel⟩ ?_
  generalize zz_z M 30 = M1 at h ⊢
  refine r_putR (k := 29) (q := 30) dX6_init_8 zp_X6_9 rfl ⟨by decide +kernel, rfl⟩ rfl ⟨by decide, by decide⟩ (by decide +kernel) (fun _ => rfl) (fun _ => rfl) ?_
  refine r_aload_n dX6_init_11 rfl ?_
  refine r_iconst (v := (nI 4)) dX6_init_12 (by decide) ?_
  have h := zK_bd h (x := zz_z M1 31) rfl
  refine r_newi (k := 31) (n := 4) dX6_init_13 zw_arr.1 ⟨by decide, by decide, by decide⟩ (by decide +kernel) (by decide +kernel) rfl ⟨by decide +kernel, by decide +kernel⟩ ?_
  generalize zz_z M1 31 = M2 at h ⊢
  refine r_putR (k := 29) (q := 31) dX6_init_15 zp_X6_15 rfl ⟨by decide +kernel, rfl⟩ rfl ⟨by decide, by decide⟩ (by decide +kernel) (fun _ => rfl) (fun _ => rfl) ?_
  refine r_aload_n dX6_init_18 rfl ?_
  refine r_getR (k := 29) (q := 30) dX6_init_19 zf_X6_9 ⟨by decide +kernel, rfl⟩ rfl ⟨by decide, by decide⟩ (by decide +kernel) ?_
  refine r_iconst (v := (-1 : Int32)) dX6_init_22 (by decide) ?_
  refine gS_vw (as := [.ref 30, .int (-1 : Int32)]) (st := []) dX6_init_23 zM_J7_fill_53178 zk_X6_18 ⟨Nat.le_of_ble_eq_true rfl, Nat.le_of_ble_eq_true rfl⟩ (Nat.le_of_ble_eq_true rfl) ⟨rfl, rfl, by decide +kernel, by decide +kernel⟩ (fun Q' P' k h => c_J7_fill_53178 30 4 (-1 : Int32) M2 ⟨by decide +kernel, rfl⟩ h k) h (fun M3 h => ?_)
  exact r_vret dX6_init_26 rfl (by decide +kernel) (by decide +kernel) (kR M3 (zK_some h))
noncomputable def n_X6_init_49 (M : zzMem) : Option zzMem :=
  zbd (zz_z M 50) (fun M1 =>
  zbd (zz_z M1 51) (fun M2 =>
  (f_J7_fill_53178 50 4 (-1 : Int32) M2).bind (fun M3 =>
  some M3)))
set_option maxHeartbeats 4000000 in
set_option maxRecDepth 100000 in
theorem d_X6_init_49 {G : zzG} {Q : Option Value → zzMem → Prop} (M : zzMem) {P : zzMem → Prop} (h : zK (n_X6_init_49 M) P) (kR : ∀ r, P r → Q none r) : zz_S G m_X6_init 97 101 [.ref 49] M Q := by
  refine zz_S_of (by decide) (by decide) (Nat.le_of_ble_eq_true rfl) ?_
  show zz_W G m_X6_init 97 101 97 0 [some (.ref 49)] [] M Q
  unfold n_X6_init_49 at h
  refine r_aload_n dX6_init_0 rfl ?_
  refine r_objI dX6_init_1 zk_X6_3 zw_obj (Nat.le_of_ble_eq_true rfl) (Nat.le_of_ble_eq_true rfl) ?_
  refine r_aload_n dX6_init_4 rfl ?_
  refine r_iconst (v := (nI 4)) dX6_init_5 (by decide) ?_
  have h := zK_bd h (x := zz_z M 50) rfl
  refine r_newi (k := 50) (n := 4) dX6_init_6 zw_arr.1 ⟨by decide, by decide, by decide⟩ (by decide +kernel) (by decide +kernel) rfl ⟨by decide +kernel, by decide +kernel⟩ ?_
  generalize zz_z M 50 = M1 at h ⊢
  refine r_putR (k := 49) (q := 50) dX6_init_8 zp_X6_9 rfl ⟨by decide +kernel, rfl⟩ rfl ⟨by decide, by decide⟩ (by decide +kernel) (fun _ => rfl) (fun _ => rfl) ?_
  refine r_aload_n dX6_init_11 rfl ?_
  refine r_iconst (v := (nI 4)) dX6_init_12 (by decide) ?_
  have h := zK_bd h (x := zz_z M1 51) rfl
  refine r_newi (k := 51) (n := 4) dX6_init_13 zw_arr.1 ⟨by decide, by decide, by decide⟩ (by decide +kernel) (by decide +kernel) rfl ⟨by decide +kernel, by decide +kernel⟩ ?_
  generalize zz_z M1 51 = M2 at h ⊢
  refine r_putR (k := 49) (q := 51) dX6_init_15 zp_X6_15 rfl ⟨by decide +kernel, rfl⟩ rfl ⟨by decide, by decide⟩ (by decide +kernel) (fun _ => rfl) (fun _ => rfl) ?_
  refine r_aload_n dX6_init_18 rfl ?_
  refine r_getR (k := 49) (q := 50) dX6_init_19 zf_X6_9 ⟨by decide +kernel, rfl⟩ rfl ⟨by decide, by decide⟩ (by decide +kernel) ?_
  refine r_iconst (v := (-1 : Int32)) dX6_init_22 (by decide) ?_
  refine gS_vw (as := [.ref 50, .int (-1 : Int32)]) (st := []) dX6_init_23 zM_J7_fill_53178 zk_X6_18 ⟨Nat.le_of_ble_eq_true rfl, Nat.le_of_ble_eq_true rfl⟩ (Nat.le_of_ble_eq_true rfl) ⟨rfl, rfl, by decide +kernel, by decide +kernel⟩ (fun Q' P' k h => c_J7_fill_53178 50 4 (-1 : Int32) M2 ⟨by decide +kernel, rfl⟩ h k) h (fun M3 h => ?_)
  exact r_vret dX6_init_26 rfl (by decide +kernel) (by decide +kernel) (kR M3 (zK_some h))
noncomputable def n_X6_init_69 (M : zzMem) : Option zzMem :=
  zbd (zz_z M 70) (fun M1 =>
  zbd (zz_z M1 71) (fun M2 =>
  (f_J7_fill_53178 70 4 (-1 : Int32) M2).bind (fun M3 =>
  some M3)))
set_option maxHeartbeats 4000000 in
set_option maxRecDepth 100000 in
theorem d_X6_init_69 {G : zzG} {Q : Option Value → zzMem → Prop} (M : zzMem) {P : zzMem → Prop} (h : zK (n_X6_init_69 M) P) (kR : ∀ r, P r → Q none r) : zz_S G m_X6_init 137 141 [.ref 69] M Q := by
  refine zz_S_of (by decide) (by decide) (Nat.le_of_ble_eq_true rfl) ?_
  show zz_W G m_X6_init 137 141 137 0 [some (.ref 69)] [] M Q
  unfold n_X6_init_69 at h
  refine r_aload_n dX6_init_0 rfl ?_
  refine r_objI dX6_init_1 zk_X6_3 zw_obj (Nat.le_of_ble_eq_true rfl) (Nat.le_of_ble_eq_true rfl) ?_
  refine r_aload_n dX6_init_4 rfl ?_
  refine r_iconst (v := (nI 4)) dX6_init_5 (by decide) ?_
  have h := zK_bd h (x := zz_z M 70) rfl
  refine r_newi (k := 70) (n := 4) dX6_init_6 zw_arr.1 ⟨by decide, by decide, by decide⟩ (by decide +kernel) (by decide +kernel) rfl ⟨by decide +kernel, by decide +kernel⟩ ?_
  generalize zz_z M 70 = M1 at h ⊢
  refine r_putR (k := 69) (q := 70) dX6_init_8 zp_X6_9 rfl ⟨by decide +kernel, rfl⟩ rfl ⟨by decide, by decide⟩ (by decide +kernel) (fun _ => rfl) (fun _ => rfl) ?_
  refine r_aload_n dX6_init_11 rfl ?_
  refine r_iconst (v := (nI 4)) dX6_init_12 (by decide) ?_
  have h := zK_bd h (x := zz_z M1 71) rfl
  refine r_newi (k := 71) (n := 4) dX6_init_13 zw_arr.1 ⟨by decide, by decide, by decide⟩ (by decide +kernel) (by decide +kernel) rfl ⟨by decide +kernel, by decide +kernel⟩ ?_
  generalize zz_z M1 71 = M2 at h ⊢
  refine r_putR (k := 69) (q := 71) dX6_init_15 zp_X6_15 rfl ⟨by decide +kernel, rfl⟩ rfl ⟨by decide, by decide⟩ (by decide +kernel) (fun _ => rfl) (fun _ => rfl) ?_
  refine r_aload_n dX6_init_18 rfl ?_
  refine r_getR (k := 69) (q := 70) dX6_init_19 zf_X6_9 ⟨by decide +kernel, rfl⟩ rfl ⟨by decide, by decide⟩ (by decide +kernel) ?_
  refine r_iconst (v := (-1 : Int32)) dX6_init_22 (by decide) ?_
  refine gS_vw (as := [.ref 70, .int (-1 : Int32)]) (st := []) dX6_init_23 zM_J7_fill_53178 zk_X6_18 ⟨Nat.le_of_ble_eq_true rfl, Nat.le_of_ble_eq_true rfl⟩ (Nat.le_of_ble_eq_true rfl) ⟨rfl, rfl, by decide +kernel, by decide +kernel⟩ (fun Q' P' k h => c_J7_fill_53178 70 4 (-1 : Int32) M2 ⟨by decide +kernel, rfl⟩ h k) h (fun M3 h => ?_)
  exact r_vret dX6_init_26 rfl (by decide +kernel) (by decide +kernel) (kR M3 (zK_some h))
noncomputable def n_X2_init_12 (M : zzMem) : Option zzMem :=
  zbd (zz_z M 13) (fun M1 =>
  (n_X3_init_13 M1).bind (fun M2 =>
  zbd (zz_z M2 16) (fun M3 =>
  (n_X0_init_16 M3).bind (fun M4 =>
  zbd (zz_z M4 27) (fun M5 =>
  (n_X5_init_27 M5).bind (fun M6 =>
  zbd (zz_z M6 29) (fun M7 =>
  (n_X6_init_29 M7).bind (fun M8 =>
  zbd (zz_si M8 12 4 (nI 2)) (fun M9 =>
  zbd (zz_si M9 12 5 (nI 80)) (fun M10 =>
  zbd (zz_si M10 12 6 (nI 40)) (fun M11 =>
  zbd (zz_si M11 12 7 (nI 1)) (fun M12 =>
  zbd (zz_si M12 12 8 (nI 0)) (fun M13 =>
  zbd (zz_si M13 12 9 (nI 0)) (fun M14 =>
  zbd (zz_si M14 12 10 (nI 0)) (fun M15 =>
  zbd (zz_si M15 12 11 (nI 0)) (fun M16 =>
  zbd (zz_si M16 12 12 (nI 0)) (fun M17 =>
  zbd (zz_si M17 12 13 (nI 0)) (fun M18 =>
  zbd (zz_si M18 12 14 (nI 1)) (fun M19 =>
  (f_X0_clear 16 (nI 3) (M19.1 12 4) M19).bind (fun M20 =>
  some M20))))))))))))))))))))
set_option maxHeartbeats 4000000 in
set_option maxRecDepth 100000 in
theorem d_X2_init_12 {G : zzG} {Q : Option Value → zzMem → Prop} (M : zzMem) {P : zzMem → Prop} (h : zK (n_X2_init_12 M) P) (kR : ∀ r, P r → Q none r) : zz_S G m_X2_init 24 62 [.ref 12] M Q := by
  refine zz_S_of (by decide) (by decide) (Nat.le_of_ble_eq_true rfl) ?_
  show zz_W G m_X2_init 24 62 24 0 [some (.ref 12)] [] M Q
  unfold n_X2_init_12 at h
  refine r_aload_n dX2_init_0 rfl ?_
  refine r_objI dX2_init_1 zk_X2_3 zw_obj (Nat.le_of_ble_eq_true rfl) (Nat.le_of_ble_eq_true rfl) ?_
  refine r_aload_n dX2_init_4 rfl ?_
  have h := zK_bd h (x := zz_z M 13) rfl
  refine r_new (k := 13) (n := 3) (ci := 2) (ty := tyX3) dX2_init_5 zk_X2_9 zn_X3.1 zn_X3.2 (by decide) rfl zin_X3 tyX3_ok (by decide +kernel) (by decide +kernel) rfl (by decide +kernel) (by decide +kernel) ⟨by decide +kernel, by decide +kernel⟩ ?_
  generalize zz_z M 13 = M1 at h ⊢
  refine r_dup dX2_init_8 rfl ?_
  refine gI_vw (host := "") (as := []) (st := [.ref 13, .ref 12]) (k := 13) (t' := 29) dX2_init_9 zM_X3_init rfl zk_X2_11 ⟨by decide +kernel, rfl⟩ ⟨Nat.le_of_ble_eq_true rfl, Nat.le_of_ble_eq_true rfl⟩ (Nat.le_of_ble_eq_true rfl) ⟨by decide +kernel, by decide +kernel, by decide +kernel, by decide +kernel⟩ (fun Q' P' k h => d_X3_init_13 M1 h k) h (fun M2 h => ?_)
  refine r_putR (k := 12) (q := 13) dX2_init_12 zp_X2_12 rfl ⟨by decide +kernel, rfl⟩ rfl ⟨by decide, by decide⟩ (by decide +kernel) (fun _ => rfl) (fun _ => rfl) ?_
  refine r_aload_n dX2_init_15 rfl ?_
  have h := zK_bd h (x := zz_z M2 16) rfl
  refine r_new (k := 16) (n := 12) (ci := 0) (ty := tyX0) dX2_init_16 zk_X2_18 zn_X0.1 zn_X0.2 (by decide) rfl zin_X0 tyX0_ok (by decide +kernel) (by decide +kernel) rfl (by decide +kernel) (by decide +kernel) ⟨by decide +kernel, by decide +kernel⟩ ?_
  generalize zz_z M2 16 = M3 at h ⊢
  refine r_dup dX2_init_19 rfl ?_
  refine gIN_vw (as := []) (st := [.ref 16, .ref 12]) (k := 16) (t' := 51) dX2_init_20 zM_X0_init rfl zk_X2_20 ⟨by decide +kernel, rfl⟩ ⟨Nat.le_of_ble_eq_true rfl, Nat.le_of_ble_eq_true rfl⟩ (Nat.le_of_ble_eq_true rfl) ⟨by decide +kernel, by decide +kernel, by decide +kernel, by decide +kernel⟩ (fun Q' P' k h => d_X0_init_16 M3 h k) h (fun M4 h => ?_)
  refine r_putR (k := 12) (q := 16) dX2_init_23 zp_X2_21 rfl ⟨by decide +kernel, rfl⟩ rfl ⟨by decide, by decide⟩ (by decide +kernel) (fun _ => rfl) (fun _ => rfl) ?_
  refine r_aload_n dX2_init_26 rfl ?_
  have h := zK_bd h (x := zz_z M4 27) rfl
  refine r_new (k := 27) (n := 2) (ci := 4) (ty := tyX5) dX2_init_27 zk_X2_25 zn_X5.1 zn_X5.2 (by decide) rfl zin_X5 tyX5_ok (by decide +kernel) (by decide +kernel) rfl (by decide +kernel) (by decide +kernel) ⟨by decide +kernel, by decide +kernel⟩ ?_
  generalize zz_z M4 27 = M5 at h ⊢
  refine r_dup dX2_init_30 rfl ?_
  refine gIN_vw (as := []) (st := [.ref 27, .ref 12]) (k := 27) (t' := 55) dX2_init_31 zM_X5_init rfl zk_X2_27 ⟨by decide +kernel, rfl⟩ ⟨Nat.le_of_ble_eq_true rfl, Nat.le_of_ble_eq_true rfl⟩ (Nat.le_of_ble_eq_true rfl) ⟨by decide +kernel, by decide +kernel, by decide +kernel, by decide +kernel⟩ (fun Q' P' k h => d_X5_init_27 M5 h k) h (fun M6 h => ?_)
  refine r_putR (k := 12) (q := 27) dX2_init_34 zp_X2_28 rfl ⟨by decide +kernel, rfl⟩ rfl ⟨by decide, by decide⟩ (by decide +kernel) (fun _ => rfl) (fun _ => rfl) ?_
  refine r_aload_n dX2_init_37 rfl ?_
  have h := zK_bd h (x := zz_z M6 29) rfl
  refine r_new (k := 29) (n := 2) (ci := 5) (ty := tyX6) dX2_init_38 zk_X2_32 zn_X6.1 zn_X6.2 (by decide) rfl zin_X6 tyX6_ok (by decide +kernel) (by decide +kernel) rfl (by decide +kernel) (by decide +kernel) ⟨by decide +kernel, by decide +kernel⟩ ?_
  generalize zz_z M6 29 = M7 at h ⊢
  refine r_dup dX2_init_41 rfl ?_
  refine gI_vw (host := "") (as := []) (st := [.ref 29, .ref 12]) (k := 29) (t' := 61) dX2_init_42 zM_X6_init rfl zk_X2_34 ⟨by decide +kernel, rfl⟩ ⟨Nat.le_of_ble_eq_true rfl, Nat.le_of_ble_eq_true rfl⟩ (Nat.le_of_ble_eq_true rfl) ⟨by decide +kernel, by decide +kernel, by decide +kernel, by decide +kernel⟩ (fun Q' P' k h => d_X6_init_29 M7 h k) h (fun M8 h => ?_)
  refine r_putR (k := 12) (q := 29) dX2_init_45 zp_X2_35 rfl ⟨by decide +kernel, rfl⟩ rfl ⟨by decide, by decide⟩ (by decide +kernel) (fun _ => rfl) (fun _ => rfl) ?_
  refine r_aload_n dX2_init_48 rfl ?_
  refine r_iconst (v := (nI 2)) dX2_init_49 (by decide) ?_
  refine r_putI (k := 12) dX2_init_50 zp_X2_39 ⟨by decide +kernel, rfl⟩ rfl rfl rfl (fun M9 eM9 => ?_)
  have h := zK_bd h eM9
  refine r_aload_n dX2_init_53 rfl ?_
  refine r_bipush (v := (nI 80)) dX2_init_54 (by decide) ?_
  refine r_putI (k := 12) dX2_init_56 zp_X2_43 ⟨by decide +kernel, rfl⟩ rfl rfl rfl (fun M10 eM10 => ?_)
  have h := zK_bd h eM10
  refine r_aload_n dX2_init_59 rfl ?_
  refine r_bipush (v := (nI 40)) dX2_init_60 (by decide) ?_
  refine r_putI (k := 12) dX2_init_62 zp_X2_46 ⟨by decide +kernel, rfl⟩ rfl rfl rfl (fun M11 eM11 => ?_)
  have h := zK_bd h eM11
  refine r_aload_n dX2_init_65 rfl ?_
  refine r_iconst (v := (nI 1)) dX2_init_66 (by decide) ?_
  refine r_putI (k := 12) dX2_init_67 zp_X2_49 ⟨by decide +kernel, rfl⟩ rfl rfl rfl (fun M12 eM12 => ?_)
  have h := zK_bd h eM12
  refine r_aload_n dX2_init_70 rfl ?_
  refine r_iconst (v := (nI 0)) dX2_init_71 (by decide) ?_
  refine r_putI (k := 12) dX2_init_72 zp_X2_52 ⟨by decide +kernel, rfl⟩ rfl rfl rfl (fun M13 eM13 => ?_)
  have h := zK_bd h eM13
  refine r_aload_n dX2_init_75 rfl ?_
  refine r_iconst (v := (nI 0)) dX2_init_76 (by decide) ?_
  refine r_putI (k := 12) dX2_init_77 zp_X2_55 ⟨by decide +kernel, rfl⟩ rfl rfl rfl (fun M14 eM14 => ?_)
  have h := zK_bd h eM14
  refine r_aload_n dX2_init_80 rfl ?_
  refine r_iconst (v := (nI 0)) dX2_init_81 (by decide) ?_
  refine r_putI (k := 12) dX2_init_82 zp_X2_58 ⟨by decide +kernel, rfl⟩ rfl rfl rfl (fun M15 eM15 => ?_)
  have h := zK_bd h eM15
  refine r_aload_n dX2_init_85 rfl ?_
  refine r_iconst (v := (nI 0)) dX2_init_86 (by decide) ?_
  refine r_putI (k := 12) dX2_init_87 zp_X2_61 ⟨by decide +kernel, rfl⟩ rfl rfl rfl (fun M16 eM16 => ?_)
  have h := zK_bd h eM16
  refine r_aload_n dX2_init_90 rfl ?_
  refine r_iconst (v := (nI 0)) dX2_init_91 (by decide) ?_
  refine r_putI (k := 12) dX2_init_92 zp_X2_64 ⟨by decide +kernel, rfl⟩ rfl rfl rfl (fun M17 eM17 => ?_)
  have h := zK_bd h eM17
  refine r_aload_n dX2_init_95 rfl ?_
  refine r_iconst (v := (nI 0)) dX2_init_96 (by decide) ?_
  refine r_putI (k := 12) dX2_init_97 zp_X2_67 ⟨by decide +kernel, rfl⟩ rfl rfl rfl (fun M18 eM18 => ?_)
  have h := zK_bd h eM18
  refine r_aload_n dX2_init_100 rfl ?_
  refine r_iconst (v := (nI 1)) dX2_init_101 (by decide) ?_
  refine r_putI (k := 12) dX2_init_102 zp_X2_70 ⟨by decide +kernel, rfl⟩ rfl rfl rfl (fun M19 eM19 => ?_)
  have h := zK_bd h eM19
  refine r_aload_n dX2_init_105 rfl ?_
  refine r_getR (k := 12) (q := 16) dX2_init_106 zf_X2_21 ⟨by decide +kernel, rfl⟩ rfl ⟨by decide, by decide⟩ (by decide +kernel) ?_
  refine r_iconst (v := (nI 3)) dX2_init_109 (by decide) ?_
  refine r_aload_n dX2_init_110 rfl ?_
  refine r_getI (k := 12) dX2_init_111 zf_X2_39 ⟨by decide +kernel, rfl⟩ rfl ?_
  refine gV_vw (as := [.int (nI 3), .int (M19.1 12 4)]) (st := []) (k := 16) dX2_init_114 zM_X0_clear zk_X2_73 ⟨by decide +kernel, rfl⟩ (by decide) rfl ⟨Nat.le_of_ble_eq_true rfl, Nat.le_of_ble_eq_true rfl⟩ (Nat.le_of_ble_eq_true rfl) ⟨rfl, rfl, by decide +kernel, by decide +kernel⟩ (fun Q' P' k h => c_X0_clear 16 (nI 3) (M19.1 12 4) M19 (by unfold zI_X0; decide) h k) h (fun M20 h => ?_)
  exact r_vret dX2_init_117 rfl (by decide +kernel) (by decide +kernel) (kR M20 (zK_some h))
noncomputable def n_X2_init_32 (M : zzMem) : Option zzMem :=
  zbd (zz_z M 33) (fun M1 =>
  (n_X3_init_33 M1).bind (fun M2 =>
  zbd (zz_z M2 36) (fun M3 =>
  (n_X0_init_36 M3).bind (fun M4 =>
  zbd (zz_z M4 47) (fun M5 =>
  (n_X5_init_47 M5).bind (fun M6 =>
  zbd (zz_z M6 49) (fun M7 =>
  (n_X6_init_49 M7).bind (fun M8 =>
  zbd (zz_si M8 32 4 (nI 2)) (fun M9 =>
  zbd (zz_si M9 32 5 (nI 80)) (fun M10 =>
  zbd (zz_si M10 32 6 (nI 40)) (fun M11 =>
  zbd (zz_si M11 32 7 (nI 1)) (fun M12 =>
  zbd (zz_si M12 32 8 (nI 0)) (fun M13 =>
  zbd (zz_si M13 32 9 (nI 0)) (fun M14 =>
  zbd (zz_si M14 32 10 (nI 0)) (fun M15 =>
  zbd (zz_si M15 32 11 (nI 0)) (fun M16 =>
  zbd (zz_si M16 32 12 (nI 0)) (fun M17 =>
  zbd (zz_si M17 32 13 (nI 0)) (fun M18 =>
  zbd (zz_si M18 32 14 (nI 1)) (fun M19 =>
  (f_X0_clear 36 (nI 3) (M19.1 32 4) M19).bind (fun M20 =>
  some M20))))))))))))))))))))
set_option maxHeartbeats 4000000 in
set_option maxRecDepth 100000 in
theorem d_X2_init_32 {G : zzG} {Q : Option Value → zzMem → Prop} (M : zzMem) {P : zzMem → Prop} (h : zK (n_X2_init_32 M) P) (kR : ∀ r, P r → Q none r) : zz_S G m_X2_init 64 102 [.ref 32] M Q := by
  refine zz_S_of (by decide) (by decide) (Nat.le_of_ble_eq_true rfl) ?_
  show zz_W G m_X2_init 64 102 64 0 [some (.ref 32)] [] M Q
  unfold n_X2_init_32 at h
  refine r_aload_n dX2_init_0 rfl ?_
  refine r_objI dX2_init_1 zk_X2_3 zw_obj (Nat.le_of_ble_eq_true rfl) (Nat.le_of_ble_eq_true rfl) ?_
  refine r_aload_n dX2_init_4 rfl ?_
  have h := zK_bd h (x := zz_z M 33) rfl
  refine r_new (k := 33) (n := 3) (ci := 2) (ty := tyX3) dX2_init_5 zk_X2_9 zn_X3.1 zn_X3.2 (by decide) rfl zin_X3 tyX3_ok (by decide +kernel) (by decide +kernel) rfl (by decide +kernel) (by decide +kernel) ⟨by decide +kernel, by decide +kernel⟩ ?_
  generalize zz_z M 33 = M1 at h ⊢
  refine r_dup dX2_init_8 rfl ?_
  refine gI_vw (host := "") (as := []) (st := [.ref 33, .ref 32]) (k := 33) (t' := 69) dX2_init_9 zM_X3_init rfl zk_X2_11 ⟨by decide +kernel, rfl⟩ ⟨Nat.le_of_ble_eq_true rfl, Nat.le_of_ble_eq_true rfl⟩ (Nat.le_of_ble_eq_true rfl) ⟨by decide +kernel, by decide +kernel, by decide +kernel, by decide +kernel⟩ (fun Q' P' k h => d_X3_init_33 M1 h k) h (fun M2 h => ?_)
  refine r_putR (k := 32) (q := 33) dX2_init_12 zp_X2_12 rfl ⟨by decide +kernel, rfl⟩ rfl ⟨by decide, by decide⟩ (by decide +kernel) (fun _ => rfl) (fun _ => rfl) ?_
  refine r_aload_n dX2_init_15 rfl ?_
  have h := zK_bd h (x := zz_z M2 36) rfl
  refine r_new (k := 36) (n := 12) (ci := 0) (ty := tyX0) dX2_init_16 zk_X2_18 zn_X0.1 zn_X0.2 (by decide) rfl zin_X0 tyX0_ok (by decide +kernel) (by decide +kernel) rfl (by decide +kernel) (by decide +kernel) ⟨by decide +kernel, by decide +kernel⟩ ?_
  generalize zz_z M2 36 = M3 at h ⊢
  refine r_dup dX2_init_19 rfl ?_
  refine gIN_vw (as := []) (st := [.ref 36, .ref 32]) (k := 36) (t' := 91) dX2_init_20 zM_X0_init rfl zk_X2_20 ⟨by decide +kernel, rfl⟩ ⟨Nat.le_of_ble_eq_true rfl, Nat.le_of_ble_eq_true rfl⟩ (Nat.le_of_ble_eq_true rfl) ⟨by decide +kernel, by decide +kernel, by decide +kernel, by decide +kernel⟩ (fun Q' P' k h => d_X0_init_36 M3 h k) h (fun M4 h => ?_)
  refine r_putR (k := 32) (q := 36) dX2_init_23 zp_X2_21 rfl ⟨by decide +kernel, rfl⟩ rfl ⟨by decide, by decide⟩ (by decide +kernel) (fun _ => rfl) (fun _ => rfl) ?_
  refine r_aload_n dX2_init_26 rfl ?_
  have h := zK_bd h (x := zz_z M4 47) rfl
  refine r_new (k := 47) (n := 2) (ci := 4) (ty := tyX5) dX2_init_27 zk_X2_25 zn_X5.1 zn_X5.2 (by decide) rfl zin_X5 tyX5_ok (by decide +kernel) (by decide +kernel) rfl (by decide +kernel) (by decide +kernel) ⟨by decide +kernel, by decide +kernel⟩ ?_
  generalize zz_z M4 47 = M5 at h ⊢
  refine r_dup dX2_init_30 rfl ?_
  refine gIN_vw (as := []) (st := [.ref 47, .ref 32]) (k := 47) (t' := 95) dX2_init_31 zM_X5_init rfl zk_X2_27 ⟨by decide +kernel, rfl⟩ ⟨Nat.le_of_ble_eq_true rfl, Nat.le_of_ble_eq_true rfl⟩ (Nat.le_of_ble_eq_true rfl) ⟨by decide +kernel, by decide +kernel, by decide +kernel, by decide +kernel⟩ (fun Q' P' k h => d_X5_init_47 M5 h k) h (fun M6 h => ?_)
  refine r_putR (k := 32) (q := 47) dX2_init_34 zp_X2_28 rfl ⟨by decide +kernel, rfl⟩ rfl ⟨by decide, by decide⟩ (by decide +kernel) (fun _ => rfl) (fun _ => rfl) ?_
  refine r_aload_n dX2_init_37 rfl ?_
  have h := zK_bd h (x := zz_z M6 49) rfl
  refine r_new (k := 49) (n := 2) (ci := 5) (ty := tyX6) dX2_init_38 zk_X2_32 zn_X6.1 zn_X6.2 (by decide) rfl zin_X6 tyX6_ok (by decide +kernel) (by decide +kernel) rfl (by decide +kernel) (by decide +kernel) ⟨by decide +kernel, by decide +kernel⟩ ?_
  generalize zz_z M6 49 = M7 at h ⊢
  refine r_dup dX2_init_41 rfl ?_
  refine gI_vw (host := "") (as := []) (st := [.ref 49, .ref 32]) (k := 49) (t' := 101) dX2_init_42 zM_X6_init rfl zk_X2_34 ⟨by decide +kernel, rfl⟩ ⟨Nat.le_of_ble_eq_true rfl, Nat.le_of_ble_eq_true rfl⟩ (Nat.le_of_ble_eq_true rfl) ⟨by decide +kernel, by decide +kernel, by decide +kernel, by decide +kernel⟩ (fun Q' P' k h => d_X6_init_49 M7 h k) h (fun M8 h => ?_)
  refine r_putR (k := 32) (q := 49) dX2_init_45 zp_X2_35 rfl ⟨by decide +kernel, rfl⟩ rfl ⟨by decide, by decide⟩ (by decide +kernel) (fun _ => rfl) (fun _ => rfl) ?_
  refine r_aload_n dX2_init_48 rfl ?_
  refine r_iconst (v := (nI 2)) dX2_init_49 (by decide) ?_
  refine r_putI (k := 32) dX2_init_50 zp_X2_39 ⟨by decide +kernel, rfl⟩ rfl rfl rfl (fun M9 eM9 => ?_)
  have h := zK_bd h eM9
  refine r_aload_n dX2_init_53 rfl ?_
  refine r_bipush (v := (nI 80)) dX2_init_54 (by decide) ?_
  refine r_putI (k := 32) dX2_init_56 zp_X2_43 ⟨by decide +kernel, rfl⟩ rfl rfl rfl (fun M10 eM10 => ?_)
  have h := zK_bd h eM10
  refine r_aload_n dX2_init_59 rfl ?_
  refine r_bipush (v := (nI 40)) dX2_init_60 (by decide) ?_
  refine r_putI (k := 32) dX2_init_62 zp_X2_46 ⟨by decide +kernel, rfl⟩ rfl rfl rfl (fun M11 eM11 => ?_)
  have h := zK_bd h eM11
  refine r_aload_n dX2_init_65 rfl ?_
  refine r_iconst (v := (nI 1)) dX2_init_66 (by decide) ?_
  refine r_putI (k := 32) dX2_init_67 zp_X2_49 ⟨by decide +kernel, rfl⟩ rfl rfl rfl (fun M12 eM12 => ?_)
  have h := zK_bd h eM12
  refine r_aload_n dX2_init_70 rfl ?_
  refine r_iconst (v := (nI 0)) dX2_init_71 (by decide) ?_
  refine r_putI (k := 32) dX2_init_72 zp_X2_52 ⟨by decide +kernel, rfl⟩ rfl rfl rfl (fun M13 eM13 => ?_)
  have h := zK_bd h eM13
  refine r_aload_n dX2_init_75 rfl ?_
  refine r_iconst (v := (nI 0)) dX2_init_76 (by decide) ?_
  refine r_putI (k := 32) dX2_init_77 zp_X2_55 ⟨by decide +kernel, rfl⟩ rfl rfl rfl (fun M14 eM14 => ?_)
  have h := zK_bd h eM14
  refine r_aload_n dX2_init_80 rfl ?_
  refine r_iconst (v := (nI 0)) dX2_init_81 (by decide) ?_
  refine r_putI (k := 32) dX2_init_82 zp_X2_58 ⟨by decide +kernel, rfl⟩ rfl rfl rfl (fun M15 eM15 => ?_)
  have h := zK_bd h eM15
  refine r_aload_n dX2_init_85 rfl ?_
  refine r_iconst (v := (nI 0)) dX2_init_86 (by decide) ?_
  refine r_putI (k := 32) dX2_init_87 zp_X2_61 ⟨by decide +kernel, rfl⟩ rfl rfl rfl (fun M16 eM16 => ?_)
  have h := zK_bd h eM16
  refine r_aload_n dX2_init_90 rfl ?_
  refine r_iconst (v := (nI 0)) dX2_init_91 (by decide) ?_
  refine r_putI (k := 32) dX2_init_92 zp_X2_64 ⟨by decide +kernel, rfl⟩ rfl rfl rfl (fun M17 eM17 => ?_)
  have h := zK_bd h eM17
  refine r_aload_n dX2_init_95 rfl ?_
  refine r_iconst (v := (nI 0)) dX2_init_96 (by decide) ?_
  refine r_putI (k := 32) dX2_init_97 zp_X2_67 ⟨by decide +kernel, rfl⟩ rfl rfl rfl (fun M18 eM18 => ?_)
  have h := zK_bd h eM18
  refine r_aload_n dX2_init_100 rfl ?_
  refine r_iconst (v := (nI 1)) dX2_init_101 (by decide) ?_
  refine r_putI (k := 32) dX2_init_102 zp_X2_70 ⟨by decide +kernel, rfl⟩ rfl rfl rfl (fun M19 eM19 => ?_)
  have h := zK_bd h eM19
  refine r_aload_n dX2_init_105 rfl ?_
  refine r_getR (k := 32) (q := 36) dX2_init_106 zf_X2_21 ⟨by decide +kernel, rfl⟩ rfl ⟨by decide, by decide⟩ (by decide +kernel) ?_
  refine r_iconst (v := (nI 3)) dX2_init_109 (by decide) ?_
  refine r_aload_n dX2_init_110 rfl ?_
  refine r_getI (k := 32) dX2_init_111 zf_X2_39 ⟨by decide +kernel, rfl⟩ rfl ?_
  refine gV_vw (as := [.int (nI 3), .int (M19.1 32 4)]) (st := []) (k := 36) dX2_init_114 zM_X0_clear zk_X2_73 ⟨by decide +kernel, rfl⟩ (by decide) rfl ⟨Nat.le_of_ble_eq_true rfl, Nat.le_of_ble_eq_true rfl⟩ (Nat.le_of_ble_eq_true rfl) ⟨rfl, rfl, by decide +kernel, by decide +kernel⟩ (fun Q' P' k h => c_X0_clear 36 (nI 3) (M19.1 32 4) M19 (by unfold zI_X0; decide) h k) h (fun M20 h => ?_)
  exact r_vret dX2_init_117 rfl (by decide +kernel) (by decide +kernel) (kR M20 (zK_some h))
noncomputable def n_X2_init_52 (M : zzMem) : Option zzMem :=
  zbd (zz_z M 53) (fun M1 =>
  (n_X3_init_53 M1).bind (fun M2 =>
  zbd (zz_z M2 56) (fun M3 =>
  (n_X0_init_56 M3).bind (fun M4 =>
  zbd (zz_z M4 67) (fun M5 =>
  (n_X5_init_67 M5).bind (fun M6 =>
  zbd (zz_z M6 69) (fun M7 =>
  (n_X6_init_69 M7).bind (fun M8 =>
  zbd (zz_si M8 52 4 (nI 2)) (fun M9 =>
  zbd (zz_si M9 52 5 (nI 80)) (fun M10 =>
  zbd (zz_si M10 52 6 (nI 40)) (fun M11 =>
  zbd (zz_si M11 52 7 (nI 1)) (fun M12 =>
  zbd (zz_si M12 52 8 (nI 0)) (fun M13 =>
  zbd (zz_si M13 52 9 (nI 0)) (fun M14 =>
  zbd (zz_si M14 52 10 (nI 0)) (fun M15 =>
  zbd (zz_si M15 52 11 (nI 0)) (fun M16 =>
  zbd (zz_si M16 52 12 (nI 0)) (fun M17 =>
  zbd (zz_si M17 52 13 (nI 0)) (fun M18 =>
  zbd (zz_si M18 52 14 (nI 1)) (fun M19 =>
  (f_X0_clear 56 (nI 3) (M19.1 52 4) M19).bind (fun M20 =>
  some M20))))))))))))))))))))
set_option maxHeartbeats 4000000 in
set_option maxRecDepth 100000 in
theorem d_X2_init_52 {G : zzG} {Q : Option Value → zzMem → Prop} (M : zzMem) {P : zzMem → Prop} (h : zK (n_X2_init_52 M) P) (kR : ∀ r, P r → Q none r) : zz_S G m_X2_init 104 142 [.ref 52] M Q := by
  refine zz_S_of (by decide) (by decide) (Nat.le_of_ble_eq_true rfl) ?_
  show zz_W G m_X2_init 104 142 104 0 [some (.ref 52)] [] M Q
  unfold n_X2_init_52 at h
  refine r_aload_n dX2_init_0 rfl ?_
  refine r_objI dX2_init_1 zk_X2_3 zw_obj (Nat.le_of_ble_eq_true rfl) (Nat.le_of_ble_eq_true rfl) ?_
  refine r_aload_n dX2_init_4 rfl ?_
  have h := zK_bd h (x := zz_z M 53) rfl
  refine r_new (k := 53) (n := 3) (ci := 2) (ty := tyX3) dX2_init_5 zk_X2_9 zn_X3.1 zn_X3.2 (by decide) rfl zin_X3 tyX3_ok (by decide +kernel) (by decide +kernel) rfl (by decide +kernel) (by decide +kernel) ⟨by decide +kernel, by decide +kernel⟩ ?_
  generalize zz_z M 53 = M1 at h ⊢
  refine r_dup dX2_init_8 rfl ?_
  refine gI_vw (host := "") (as := []) (st := [.ref 53, .ref 52]) (k := 53) (t' := 109) dX2_init_9 zM_X3_init rfl zk_X2_11 ⟨by decide +kernel, rfl⟩ ⟨Nat.le_of_ble_eq_true rfl, Nat.le_of_ble_eq_true rfl⟩ (Nat.le_of_ble_eq_true rfl) ⟨by decide +kernel, by decide +kernel, by decide +kernel, by decide +kernel⟩ (fun Q' P' k h => d_X3_init_53 M1 h k) h (fun M2 h => ?_)
  refine r_putR (k := 52) (q := 53) dX2_init_12 zp_X2_12 rfl ⟨by decide +kernel, rfl⟩ rfl ⟨by decide, by decide⟩ (by decide +kernel) (fun _ => rfl) (fun _ => rfl) ?_
  refine r_aload_n dX2_init_15 rfl ?_
  have h := zK_bd h (x := zz_z M2 56) rfl
  refine r_new (k := 56) (n := 12) (ci := 0) (ty := tyX0) dX2_init_16 zk_X2_18 zn_X0.1 zn_X0.2 (by decide) rfl zin_X0 tyX0_ok (by decide +kernel) (by decide +kernel) rfl (by decide +kernel) (by decide +kernel) ⟨by decide +kernel, by decide +kernel⟩ ?_
  generalize zz_z M2 56 = M3 at h ⊢
  refine r_dup dX2_init_19 rfl ?_
  refine gIN_vw (as := []) (st := [.ref 56, .ref 52]) (k := 56) (t' := 131) dX2_init_20 zM_X0_init rfl zk_X2_20 ⟨by decide +kernel, rfl⟩ ⟨Nat.le_of_ble_eq_true rfl, Nat.le_of_ble_eq_true rfl⟩ (Nat.le_of_ble_eq_true rfl) ⟨by decide +kernel, by decide +kernel, by decide +kernel, by decide +kernel⟩ (fun Q' P' k h => d_X0_init_56 M3 h k) h (fun M4 h => ?_)
  refine r_putR (k := 52) (q := 56) dX2_init_23 zp_X2_21 rfl ⟨by decide +kernel, rfl⟩ rfl ⟨by decide, by decide⟩ (by decide +kernel) (fun _ => rfl) (fun _ => rfl) ?_
  refine r_aload_n dX2_init_26 rfl ?_
  have h := zK_bd h (x := zz_z M4 67) rfl
  refine r_new (k := 67) (n := 2) (ci := 4) (ty := tyX5) dX2_init_27 zk_X2_25 zn_X5.1 zn_X5.2 (by decide) rfl zin_X5 tyX5_ok (by decide +kernel) (by decide +kernel) rfl (by decide +kernel) (by decide +kernel) ⟨by decide +kernel, by decide +kernel⟩ ?_
  generalize zz_z M4 67 = M5 at h ⊢
  refine r_dup dX2_init_30 rfl ?_
  refine gIN_vw (as := []) (st := [.ref 67, .ref 52]) (k := 67) (t' := 135) dX2_init_31 zM_X5_init rfl zk_X2_27 ⟨by decide +kernel, rfl⟩ ⟨Nat.le_of_ble_eq_true rfl, Nat.le_of_ble_eq_true rfl⟩ (Nat.le_of_ble_eq_true rfl) ⟨by decide +kernel, by decide +kernel, by decide +kernel, by decide +kernel⟩ (fun Q' P' k h => d_X5_init_67 M5 h k) h (fun M6 h => ?_)
  refine r_putR (k := 52) (q := 67) dX2_init_34 zp_X2_28 rfl ⟨by decide +kernel, rfl⟩ rfl ⟨by decide, by decide⟩ (by decide +kernel) (fun _ => rfl) (fun _ => rfl) ?_
  refine r_aload_n dX2_init_37 rfl ?_
  have h := zK_bd h (x := zz_z M6 69) rfl
  refine r_new (k := 69) (n := 2) (ci := 5) (ty := tyX6) dX2_init_38 zk_X2_32 zn_X6.1 zn_X6.2 (by decide) rfl zin_X6 tyX6_ok (by decide +kernel) (by decide +kernel) rfl (by decide +kernel) (by decide +kernel) ⟨by decide +kernel, by decide +kernel⟩ ?_
  generalize zz_z M6 69 = M7 at h ⊢
  refine r_dup dX2_init_41 rfl ?_
  refine gI_vw (host := "") (as := []) (st := [.ref 69, .ref 52]) (k := 69) (t' := 141) dX2_init_42 zM_X6_init rfl zk_X2_34 ⟨by decide +kernel, rfl⟩ ⟨Nat.le_of_ble_eq_true rfl, Nat.le_of_ble_eq_true rfl⟩ (Nat.le_of_ble_eq_true rfl) ⟨by decide +kernel, by decide +kernel, by decide +kernel, by decide +kernel⟩ (fun Q' P' k h => d_X6_init_69 M7 h k) h (fun M8 h => ?_)
  refine r_putR (k := 52) (q := 69) dX2_init_45 zp_X2_35 rfl ⟨by decide +kernel, rfl⟩ rfl ⟨by decide, by decide⟩ (by decide +kernel) (fun _ => rfl) (fun _ => rfl) ?_
  refine r_aload_n dX2_init_48 rfl ?_
  refine r_iconst (v := (nI 2)) dX2_init_49 (by decide) ?_
  refine r_putI (k := 52) dX2_init_50 zp_X2_39 ⟨by decide +kernel, rfl⟩ rfl rfl rfl (fun M9 eM9 => ?_)
  have h := zK_bd h eM9
  refine r_aload_n dX2_init_53 rfl ?_
  refine r_bipush (v := (nI 80)) dX2_init_54 (by decide) ?_
  refine r_putI (k := 52) dX2_init_56 zp_X2_43 ⟨by decide +kernel, rfl⟩ rfl rfl rfl (fun M10 eM10 => ?_)
  have h := zK_bd h eM10
  refine r_aload_n dX2_init_59 rfl ?_
  refine r_bipush (v := (nI 40)) dX2_init_60 (by decide) ?_
  refine r_putI (k := 52) dX2_init_62 zp_X2_46 ⟨by decide +kernel, rfl⟩ rfl rfl rfl (fun M11 eM11 => ?_)
  have h := zK_bd h eM11
  refine r_aload_n dX2_init_65 rfl ?_
  refine r_iconst (v := (nI 1)) dX2_init_66 (by decide) ?_
  refine r_putI (k := 52) dX2_init_67 zp_X2_49 ⟨by decide +kernel, rfl⟩ rfl rfl rfl (fun M12 eM12 => ?_)
  have h := zK_bd h eM12
  refine r_aload_n dX2_init_70 rfl ?_
  refine r_iconst (v := (nI 0)) dX2_init_71 (by decide) ?_
  refine r_putI (k := 52) dX2_init_72 zp_X2_52 ⟨by decide +kernel, rfl⟩ rfl rfl rfl (fun M13 eM13 => ?_)
  have h := zK_bd h eM13
  refine r_aload_n dX2_init_75 rfl ?_
  refine r_iconst (v := (nI 0)) dX2_init_76 (by decide) ?_
  refine r_putI (k := 52) dX2_init_77 zp_X2_55 ⟨by decide +kernel, rfl⟩ rfl rfl rfl (fun M14 eM14 => ?_)
  have h := zK_bd h eM14
  refine r_aload_n dX2_init_80 rfl ?_
  refine r_iconst (v := (nI 0)) dX2_init_81 (by decide) ?_
  refine r_putI (k := 52) dX2_init_82 zp_X2_58 ⟨by decide +kernel, rfl⟩ rfl rfl rfl (fun M15 eM15 => ?_)
  have h := zK_bd h eM15
  refine r_aload_n dX2_init_85 rfl ?_
  refine r_iconst (v := (nI 0)) dX2_init_86 (by decide) ?_
  refine r_putI (k := 52) dX2_init_87 zp_X2_61 ⟨by decide +kernel, rfl⟩ rfl rfl rfl (fun M16 eM16 => ?_)
  have h := zK_bd h eM16
  refine r_aload_n dX2_init_90 rfl ?_
  refine r_iconst (v := (nI 0)) dX2_init_91 (by decide) ?_
  refine r_putI (k := 52) dX2_init_92 zp_X2_64 ⟨by decide +kernel, rfl⟩ rfl rfl rfl (fun M17 eM17 => ?_)
  have h := zK_bd h eM17
  refine r_aload_n dX2_init_95 rfl ?_
  refine r_iconst (v := (nI 0)) dX2_init_96 (by decide) ?_
  refine r_putI (k := 52) dX2_init_97 zp_X2_67 ⟨by decide +kernel, rfl⟩ rfl rfl rfl (fun M18 eM18 => ?_)
  have h := zK_bd h eM18
  refine r_aload_n dX2_init_100 rfl ?_
  refine r_iconst (v := (nI 1)) dX2_init_101 (by decide) ?_
  refine r_putI (k := 52) dX2_init_102 zp_X2_70 ⟨by decide +kernel, rfl⟩ rfl rfl rfl (fun M19 eM19 => ?_)
  have h := zK_bd h eM19
  refine r_aload_n dX2_init_105 rfl ?_
  refine r_getR (k := 52) (q := 56) dX2_init_106 zf_X2_21 ⟨by decide +kernel, rfl⟩ rfl ⟨by decide, by decide⟩ (by decide +kernel) ?_
  refine r_iconst (v := (nI 3)) dX2_init_109 (by decide) ?_
  refine r_aload_n dX2_init_110 rfl ?_
  refine r_getI (k := 52) dX2_init_111 zf_X2_39 ⟨by decide +kernel, rfl⟩ rfl ?_
  refine gV_vw (as := [.int (nI 3), .int (M19.1 52 4)]) (st := []) (k := 56) dX2_init_114 zM_X0_clear zk_X2_73 ⟨by decide +kernel, rfl⟩ (by decide) rfl ⟨Nat.le_of_ble_eq_true rfl, Nat.le_of_ble_eq_true rfl⟩ (Nat.le_of_ble_eq_true rfl) ⟨rfl, rfl, by decide +kernel, by decide +kernel⟩ (fun Q' P' k h => c_X0_clear 56 (nI 3) (M19.1 52 4) M19 (by unfold zI_X0; decide) h k) h (fun M20 h => ?_)
  exact r_vret dX2_init_117 rfl (by decide +kernel) (by decide +kernel) (kR M20 (zK_some h))
noncomputable def n_X9_init_0 (M : zzMem) : Option zzMem :=
  zbd (zz_z M 1) (fun M1 =>
  (n_X8_init_1 M1).bind (fun M2 =>
  zbd (zz_z M2 3) (fun M3 =>
  (n_X4_init_3 M3).bind (fun M4 =>
  zbd (zz_z M4 7) (fun M5 =>
  (n_X7_init_7 M5).bind (fun M6 =>
  zbd (zz_z M6 12) (fun M7 =>
  (n_X2_init_12 M7).bind (fun M8 =>
  zbd (zz_z M8 32) (fun M9 =>
  (n_X2_init_32 M9).bind (fun M10 =>
  zbd (zz_z M10 52) (fun M11 =>
  (n_X2_init_52 M11).bind (fun M12 =>
  zbd (zz_z M12 72) (fun M13 =>
  zbd (zz_si M13 0 7 (nI 0)) (fun M14 =>
  some M14))))))))))))))
set_option maxHeartbeats 4000000 in
set_option maxRecDepth 100000 in
theorem d_X9_init_0 {G : zzG} {Q : Option Value → zzMem → Prop} (M : zzMem) {P : zzMem → Prop} (h : zK (n_X9_init_0 M) P) (kR : ∀ r, P r → Q none r) : zz_S G m_X9_init 1 145 [.ref 0] M Q := by
  refine zz_S_of (by decide) (by decide) (Nat.le_of_ble_eq_true rfl) ?_
  show zz_W G m_X9_init 1 145 1 0 [some (.ref 0)] [] M Q
  unfold n_X9_init_0 at h
  refine r_aload_n dX9_init_0 rfl ?_
  refine r_objI dX9_init_1 zk_X9_1 zw_obj (Nat.le_of_ble_eq_true rfl) (Nat.le_of_ble_eq_true rfl) ?_
  refine r_aload_n dX9_init_4 rfl ?_
  have h := zK_bd h (x := zz_z M 1) rfl
  refine r_new (k := 1) (n := 5) (ci := 7) (ty := tyX8) dX9_init_5 zk_X9_7 zn_X8.1 zn_X8.2 (by decide) rfl zin_X8 tyX8_ok (by decide +kernel) (by decide +kernel) rfl (by decide +kernel) (by decide +kernel) ⟨by decide +kernel, by decide +kernel⟩ ?_
  generalize zz_z M 1 = M1 at h ⊢
  refine r_dup dX9_init_8 rfl ?_
  refine gIN_vw (as := []) (st := [.ref 1, .ref 0]) (k := 1) (t' := 4) dX9_init_9 zM_X8_init rfl zk_X9_9 ⟨by decide +kernel, rfl⟩ ⟨Nat.le_of_ble_eq_true rfl, Nat.le_of_ble_eq_true rfl⟩ (Nat.le_of_ble_eq_true rfl) ⟨by decide +kernel, by decide +kernel, by decide +kernel, by decide +kernel⟩ (fun Q' P' k h => d_X8_init_1 M1 h k) h (fun M2 h => ?_)
  refine r_putR (k := 0) (q := 1) dX9_init_12 zp_X9_10 rfl ⟨by decide +kernel, rfl⟩ rfl ⟨by decide, by decide⟩ (by decide +kernel) (fun _ => rfl) (fun _ => rfl) ?_
  refine r_aload_n dX9_init_15 rfl ?_
  have h := zK_bd h (x := zz_z M2 3) rfl
  refine r_new (k := 3) (n := 6) (ci := 3) (ty := tyX4) dX9_init_16 zk_X9_16 zn_X4.1 zn_X4.2 (by decide) rfl zin_X4 tyX4_ok (by decide +kernel) (by decide +kernel) rfl (by decide +kernel) (by decide +kernel) ⟨by decide +kernel, by decide +kernel⟩ ?_
  generalize zz_z M2 3 = M3 at h ⊢
  refine r_dup dX9_init_19 rfl ?_
  refine gIN_vw (as := []) (st := [.ref 3, .ref 0]) (k := 3) (t' := 12) dX9_init_20 zM_X4_init rfl zk_X9_18 ⟨by decide +kernel, rfl⟩ ⟨Nat.le_of_ble_eq_true rfl, Nat.le_of_ble_eq_true rfl⟩ (Nat.le_of_ble_eq_true rfl) ⟨by decide +kernel, by decide +kernel, by decide +kernel, by decide +kernel⟩ (fun Q' P' k h => d_X4_init_3 M3 h k) h (fun M4 h => ?_)
  refine r_putR (k := 0) (q := 3) dX9_init_23 zp_X9_19 rfl ⟨by decide +kernel, rfl⟩ rfl ⟨by decide, by decide⟩ (by decide +kernel) (fun _ => rfl) (fun _ => rfl) ?_
  refine r_aload_n dX9_init_26 rfl ?_
  have h := zK_bd h (x := zz_z M4 7) rfl
  refine r_new (k := 7) (n := 5) (ci := 6) (ty := tyX7) dX9_init_27 zk_X9_23 zn_X7.1 zn_X7.2 (by decide) rfl zin_X7 tyX7_ok (by decide +kernel) (by decide +kernel) rfl (by decide +kernel) (by decide +kernel) ⟨by decide +kernel, by decide +kernel⟩ ?_
  generalize zz_z M4 7 = M5 at h ⊢
  refine r_dup dX9_init_30 rfl ?_
  refine gIN_vw (as := []) (st := [.ref 7, .ref 0]) (k := 7) (t' := 22) dX9_init_31 zM_X7_init rfl zk_X9_25 ⟨by decide +kernel, rfl⟩ ⟨Nat.le_of_ble_eq_true rfl, Nat.le_of_ble_eq_true rfl⟩ (Nat.le_of_ble_eq_true rfl) ⟨by decide +kernel, by decide +kernel, by decide +kernel, by decide +kernel⟩ (fun Q' P' k h => d_X7_init_7 M5 h k) h (fun M6 h => ?_)
  refine r_putR (k := 0) (q := 7) dX9_init_34 zp_X9_26 rfl ⟨by decide +kernel, rfl⟩ rfl ⟨by decide, by decide⟩ (by decide +kernel) (fun _ => rfl) (fun _ => rfl) ?_
  refine r_aload_n dX9_init_37 rfl ?_
  have h := zK_bd h (x := zz_z M6 12) rfl
  refine r_new (k := 12) (n := 15) (ci := 1) (ty := tyX2) dX9_init_38 zk_X9_30 zn_X2.1 zn_X2.2 (by decide) rfl zin_X2 tyX2_ok (by decide +kernel) (by decide +kernel) rfl (by decide +kernel) (by decide +kernel) ⟨by decide +kernel, by decide +kernel⟩ ?_
  generalize zz_z M6 12 = M7 at h ⊢
  refine r_dup dX9_init_41 rfl ?_
  refine gI_vw (host := "") (as := []) (st := [.ref 12, .ref 0]) (k := 12) (t' := 62) dX9_init_42 zM_X2_init rfl zk_X9_32 ⟨by decide +kernel, rfl⟩ ⟨Nat.le_of_ble_eq_true rfl, Nat.le_of_ble_eq_true rfl⟩ (Nat.le_of_ble_eq_true rfl) ⟨by decide +kernel, by decide +kernel, by decide +kernel, by decide +kernel⟩ (fun Q' P' k h => d_X2_init_12 M7 h k) h (fun M8 h => ?_)
  refine r_putR (k := 0) (q := 12) dX9_init_45 zp_X9_33 rfl ⟨by decide +kernel, rfl⟩ rfl ⟨by decide, by decide⟩ (by decide +kernel) (fun _ => rfl) (fun _ => rfl) ?_
  refine r_aload_n dX9_init_48 rfl ?_
  have h := zK_bd h (x := zz_z M8 32) rfl
  refine r_new (k := 32) (n := 15) (ci := 1) (ty := tyX2) dX9_init_49 zk_X9_30 zn_X2.1 zn_X2.2 (by decide) rfl zin_X2 tyX2_ok (by decide +kernel) (by decide +kernel) rfl (by decide +kernel) (by decide +kernel) ⟨by decide +kernel, by decide +kernel⟩ ?_
  generalize zz_z M8 32 = M9 at h ⊢
  refine r_dup dX9_init_52 rfl ?_
  refine gI_vw (host := "") (as := []) (st := [.ref 32, .ref 0]) (k := 32) (t' := 102) dX9_init_53 zM_X2_init rfl zk_X9_32 ⟨by decide +kernel, rfl⟩ ⟨Nat.le_of_ble_eq_true rfl, Nat.le_of_ble_eq_true rfl⟩ (Nat.le_of_ble_eq_true rfl) ⟨by decide +kernel, by decide +kernel, by decide +kernel, by decide +kernel⟩ (fun Q' P' k h => d_X2_init_32 M9 h k) h (fun M10 h => ?_)
  refine r_putR (k := 0) (q := 32) dX9_init_56 zp_X9_37 rfl ⟨by decide +kernel, rfl⟩ rfl ⟨by decide, by decide⟩ (by decide +kernel) (fun _ => rfl) (fun _ => rfl) ?_
  refine r_aload_n dX9_init_59 rfl ?_
  have h := zK_bd h (x := zz_z M10 52) rfl
  refine r_new (k := 52) (n := 15) (ci := 1) (ty := tyX2) dX9_init_60 zk_X9_30 zn_X2.1 zn_X2.2 (by decide) rfl zin_X2 tyX2_ok (by decide +kernel) (by decide +kernel) rfl (by decide +kernel) (by decide +kernel) ⟨by decide +kernel, by decide +kernel⟩ ?_
  generalize zz_z M10 52 = M11 at h ⊢
  refine r_dup dX9_init_63 rfl ?_
  refine gI_vw (host := "") (as := []) (st := [.ref 52, .ref 0]) (k := 52) (t' := 142) dX9_init_64 zM_X2_init rfl zk_X9_32 ⟨by decide +kernel, rfl⟩ ⟨Nat.le_of_ble_eq_true rfl, Nat.le_of_ble_eq_true rfl⟩ (Nat.le_of_ble_eq_true rfl) ⟨by decide +kernel, by decide +kernel, by decide +kernel, by decide +kernel⟩ (fun Q' P' k h => d_X2_init_52 M11 h k) h (fun M12 h => ?_)
  refine r_putR (k := 0) (q := 52) dX9_init_67 zp_X9_40 rfl ⟨by decide +kernel, rfl⟩ rfl ⟨by decide, by decide⟩ (by decide +kernel) (fun _ => rfl) (fun _ => rfl) ?_
  refine r_aload_n dX9_init_70 rfl ?_
  refine r_bipush (v := (nI 64)) dX9_init_71 (by decide) ?_
  have h := zK_bd h (x := zz_z M12 72) rfl
  refine r_newi (k := 72) (n := 64) dX9_init_73 zw_arr.1 ⟨by decide, by decide, by decide⟩ (by decide +kernel) (by decide +kernel) rfl ⟨by decide +kernel, by decide +kernel⟩ ?_
  generalize zz_z M12 72 = M13 at h ⊢
  refine r_putR (k := 0) (q := 72) dX9_init_75 zp_X9_43 rfl ⟨by decide +kernel, rfl⟩ rfl ⟨by decide, by decide⟩ (by decide +kernel) (fun _ => rfl) (fun _ => rfl) ?_
  refine r_aload_n dX9_init_78 rfl ?_
  refine r_iconst (v := (nI 0)) dX9_init_79 (by decide) ?_
  refine r_putI (k := 0) dX9_init_80 zp_X9_47 ⟨by decide +kernel, rfl⟩ rfl rfl rfl (fun M14 eM14 => ?_)
  have h := zK_bd h eM14
  exact r_vret dX9_init_83 rfl (by decide +kernel) (by decide +kernel) (kR M14 (zK_some h))
noncomputable def n_X10_init_73 (M : zzMem) : Option zzMem :=
  zbd (zz_z M 74) (fun M1 =>
  zbd (zz_z M1 75) (fun M2 =>
  zbd (zz_z M2 76) (fun M3 =>
  zbd (zz_z M3 77) (fun M4 =>
  zbd (zz_z M4 78) (fun M5 =>
  zbd (zz_z M5 79) (fun M6 =>
  zbd (zz_z M6 80) (fun M7 =>
  zbd (zz_z M7 81) (fun M8 =>
  zbd (zz_z M8 82) (fun M9 =>
  zbd (zz_z M9 83) (fun M10 =>
  zbd (zz_z M10 84) (fun M11 =>
  zbd (zz_z M11 85) (fun M12 =>
  zbd (zz_z M12 86) (fun M13 =>
  zbd (zz_z M13 87) (fun M14 =>
  zbd (zz_z M14 88) (fun M15 =>
  zbd (zz_z M15 89) (fun M16 =>
  zbd (zz_z M16 90) (fun M17 =>
  zbd (zz_si M17 74 12 (nI 1)) (fun M18 =>
  zbd (zz_si M18 74 23 (nI 1)) (fun M19 =>
  zbd (zz_si M19 74 1752 (nI 65536)) (fun M20 =>
  (f_X10_empties (nI 2) (nI 3) (nI 80) (nI 40) (nI 1) M20).bind (fun M21 =>
  some M21)))))))))))))))))))))
set_option maxHeartbeats 4000000 in
set_option maxRecDepth 100000 in
theorem d_X10_init_73 {G : zzG} {Q : Option Value → zzMem → Prop} (M : zzMem) {P : zzMem → Prop} (h : zK (n_X10_init_73 M) P) (kR : ∀ r, P r → Q none r) : zz_S G m_X10_init 146 180 [.ref 73] M Q := by
  refine zz_S_of (by decide) (by decide) (Nat.le_of_ble_eq_true rfl) ?_
  show zz_W G m_X10_init 146 180 146 0 [some (.ref 73)] [] M Q
  unfold n_X10_init_73 at h
  refine r_aload_n dX10_init_0 rfl ?_
  refine r_objI dX10_init_1 zk_X10_1 zw_obj (Nat.le_of_ble_eq_true rfl) (Nat.le_of_ble_eq_true rfl) ?_
  refine r_aload_n dX10_init_4 rfl ?_
  refine r_sipush (v := (nI 5676)) dX10_init_5 (by decide) ?_
  have h := zK_bd h (x := zz_z M 74) rfl
  refine r_newi (k := 74) (n := 5676) dX10_init_8 zw_arr.1 ⟨by decide, by decide, by decide⟩ (by decide +kernel) (by decide +kernel) rfl ⟨by decide +kernel, by decide +kernel⟩ ?_
  generalize zz_z M 74 = M1 at h ⊢
  refine r_putR (k := 73) (q := 74) dX10_init_10 zp_X10_7 rfl ⟨by decide +kernel, rfl⟩ rfl ⟨by decide, by decide⟩ (by decide +kernel) (fun _ => rfl) (fun _ => rfl) ?_
  refine r_aload_n dX10_init_13 rfl ?_
  refine r_sipush (v := (nI 320)) dX10_init_14 (by decide) ?_
  have h := zK_bd h (x := zz_z M1 75) rfl
  refine r_newb (k := 75) (n := 320) dX10_init_17 zw_arr.2.2 ⟨by decide, by decide, by decide⟩ (by decide +kernel) (by decide +kernel) rfl ⟨by decide +kernel, by decide +kernel⟩ ?_
  generalize zz_z M1 75 = M2 at h ⊢
  refine r_putR (k := 73) (q := 75) dX10_init_19 zp_X10_13 rfl ⟨by decide +kernel, rfl⟩ rfl ⟨by decide, by decide⟩ (by decide +kernel) (fun _ => rfl) (fun _ => rfl) ?_
  refine r_aload_n dX10_init_22 rfl ?_
  refine r_sipush (v := (nI 140)) dX10_init_23 (by decide) ?_
  have h := zK_bd h (x := zz_z M2 76) rfl
  refine r_newi (k := 76) (n := 140) dX10_init_26 zw_arr.1 ⟨by decide, by decide, by decide⟩ (by decide +kernel) (by decide +kernel) rfl ⟨by decide +kernel, by decide +kernel⟩ ?_
  generalize zz_z M2 76 = M3 at h ⊢
  refine r_putR (k := 73) (q := 76) dX10_init_28 zp_X10_17 rfl ⟨by decide +kernel, rfl⟩ rfl ⟨by decide, by decide⟩ (by decide +kernel) (fun _ => rfl) (fun _ => rfl) ?_
  refine r_aload_n dX10_init_31 rfl ?_
  refine r_bipush (v := (nI 70)) dX10_init_32 (by decide) ?_
  have h := zK_bd h (x := zz_z M3 77) rfl
  refine r_newi (k := 77) (n := 70) dX10_init_34 zw_arr.1 ⟨by decide, by decide, by decide⟩ (by decide +kernel) (by decide +kernel) rfl ⟨by decide +kernel, by decide +kernel⟩ ?_
  generalize zz_z M3 77 = M4 at h ⊢
  refine r_putR (k := 73) (q := 77) dX10_init_36 zp_X10_20 rfl ⟨by decide +kernel, rfl⟩ rfl ⟨by decide, by decide⟩ (by decide +kernel) (fun _ => rfl) (fun _ => rfl) ?_
  refine r_aload_n dX10_init_39 rfl ?_
  refine r_bipush (v := (nI 70)) dX10_init_40 (by decide) ?_
  have h := zK_bd h (x := zz_z M4 78) rfl
  refine r_newi (k := 78) (n := 70) dX10_init_42 zw_arr.1 ⟨by decide, by decide, by decide⟩ (by decide +kernel) (by decide +kernel) rfl ⟨by decide +kernel, by decide +kernel⟩ ?_
  generalize zz_z M4 78 = M5 at h ⊢
  refine r_putR (k := 73) (q := 78) dX10_init_44 zp_X10_23 rfl ⟨by decide +kernel, rfl⟩ rfl ⟨by decide, by decide⟩ (by decide +kernel) (fun _ => rfl) (fun _ => rfl) ?_
  refine r_aload_n dX10_init_47 rfl ?_
  refine r_sipush (v := (nI 300)) dX10_init_48 (by decide) ?_
  have h := zK_bd h (x := zz_z M5 79) rfl
  refine r_newi (k := 79) (n := 300) dX10_init_51 zw_arr.1 ⟨by decide, by decide, by decide⟩ (by decide +kernel) (by decide +kernel) rfl ⟨by decide +kernel, by decide +kernel⟩ ?_
  generalize zz_z M5 79 = M6 at h ⊢
  refine r_putR (k := 73) (q := 79) dX10_init_53 zp_X10_26 rfl ⟨by decide +kernel, rfl⟩ rfl ⟨by decide, by decide⟩ (by decide +kernel) (fun _ => rfl) (fun _ => rfl) ?_
  refine r_aload_n dX10_init_56 rfl ?_
  refine r_bipush (v := (nI 20)) dX10_init_57 (by decide) ?_
  have h := zK_bd h (x := zz_z M6 80) rfl
  refine r_newi (k := 80) (n := 20) dX10_init_59 zw_arr.1 ⟨by decide, by decide, by decide⟩ (by decide +kernel) (by decide +kernel) rfl ⟨by decide +kernel, by decide +kernel⟩ ?_
  generalize zz_z M6 80 = M7 at h ⊢
  refine r_putR (k := 73) (q := 80) dX10_init_61 zp_X10_29 rfl ⟨by decide +kernel, rfl⟩ rfl ⟨by decide, by decide⟩ (by decide +kernel) (fun _ => rfl) (fun _ => rfl) ?_
  refine r_aload_n dX10_init_64 rfl ?_
  refine r_bipush (v := (nI 20)) dX10_init_65 (by decide) ?_
  have h := zK_bd h (x := zz_z M7 81) rfl
  refine r_newi (k := 81) (n := 20) dX10_init_67 zw_arr.1 ⟨by decide, by decide, by decide⟩ (by decide +kernel) (by decide +kernel) rfl ⟨by decide +kernel, by decide +kernel⟩ ?_
  generalize zz_z M7 81 = M8 at h ⊢
  refine r_putR (k := 73) (q := 81) dX10_init_69 zp_X10_32 rfl ⟨by decide +kernel, rfl⟩ rfl ⟨by decide, by decide⟩ (by decide +kernel) (fun _ => rfl) (fun _ => rfl) ?_
  refine r_aload_n dX10_init_72 rfl ?_
  refine r_bipush (v := (nI 20)) dX10_init_73 (by decide) ?_
  have h := zK_bd h (x := zz_z M8 82) rfl
  refine r_newi (k := 82) (n := 20) dX10_init_75 zw_arr.1 ⟨by decide, by decide, by decide⟩ (by decide +kernel) (by decide +kernel) rfl ⟨by decide +kernel, by decide +kernel⟩ ?_
  generalize zz_z M8 82 = M9 at h ⊢
  refine r_putR (k := 73) (q := 82) dX10_init_77 zp_X10_35 rfl ⟨by decide +kernel, rfl⟩ rfl ⟨by decide, by decide⟩ (by decide +kernel) (fun _ => rfl) (fun _ => rfl) ?_
  refine r_aload_n dX10_init_80 rfl ?_
  refine r_bipush (v := (nI 20)) dX10_init_81 (by decide) ?_
  have h := zK_bd h (x := zz_z M9 83) rfl
  refine r_newi (k := 83) (n := 20) dX10_init_83 zw_arr.1 ⟨by decide, by decide, by decide⟩ (by decide +kernel) (by decide +kernel) rfl ⟨by decide +kernel, by decide +kernel⟩ ?_
  generalize zz_z M9 83 = M10 at h ⊢
  refine r_putR (k := 73) (q := 83) dX10_init_85 zp_X10_38 rfl ⟨by decide +kernel, rfl⟩ rfl ⟨by decide, by decide⟩ (by decide +kernel) (fun _ => rfl) (fun _ => rfl) ?_
  refine r_aload_n dX10_init_88 rfl ?_
  refine r_sipush (v := (nI 300)) dX10_init_89 (by decide) ?_
  have h := zK_bd h (x := zz_z M10 84) rfl
  refine r_newi (k := 84) (n := 300) dX10_init_92 zw_arr.1 ⟨by decide, by decide, by decide⟩ (by decide +kernel) (by decide +kernel) rfl ⟨by decide +kernel, by decide +kernel⟩ ?_
  generalize zz_z M10 84 = M11 at h ⊢
  refine r_putR (k := 73) (q := 84) dX10_init_94 zp_X10_41 rfl ⟨by decide +kernel, rfl⟩ rfl ⟨by decide, by decide⟩ (by decide +kernel) (fun _ => rfl) (fun _ => rfl) ?_
  refine r_aload_n dX10_init_97 rfl ?_
  refine r_sipush (v := (nI 300)) dX10_init_98 (by decide) ?_
  have h := zK_bd h (x := zz_z M11 85) rfl
  refine r_newi (k := 85) (n := 300) dX10_init_101 zw_arr.1 ⟨by decide, by decide, by decide⟩ (by decide +kernel) (by decide +kernel) rfl ⟨by decide +kernel, by decide +kernel⟩ ?_
  generalize zz_z M11 85 = M12 at h ⊢
  refine r_putR (k := 73) (q := 85) dX10_init_103 zp_X10_44 rfl ⟨by decide +kernel, rfl⟩ rfl ⟨by decide, by decide⟩ (by decide +kernel) (fun _ => rfl) (fun _ => rfl) ?_
  refine r_aload_n dX10_init_106 rfl ?_
  refine r_bipush (v := (nI 64)) dX10_init_107 (by decide) ?_
  have h := zK_bd h (x := zz_z M12 86) rfl
  refine r_newi (k := 86) (n := 64) dX10_init_109 zw_arr.1 ⟨by decide, by decide, by decide⟩ (by decide +kernel) (by decide +kernel) rfl ⟨by decide +kernel, by decide +kernel⟩ ?_
  generalize zz_z M12 86 = M13 at h ⊢
  refine r_putR (k := 73) (q := 86) dX10_init_111 zp_X10_47 rfl ⟨by decide +kernel, rfl⟩ rfl ⟨by decide, by decide⟩ (by decide +kernel) (fun _ => rfl) (fun _ => rfl) ?_
  refine r_aload_n dX10_init_114 rfl ?_
  refine r_sipush (v := (nI 300)) dX10_init_115 (by decide) ?_
  have h := zK_bd h (x := zz_z M13 87) rfl
  refine r_newi (k := 87) (n := 300) dX10_init_118 zw_arr.1 ⟨by decide, by decide, by decide⟩ (by decide +kernel) (by decide +kernel) rfl ⟨by decide +kernel, by decide +kernel⟩ ?_
  generalize zz_z M13 87 = M14 at h ⊢
  refine r_putR (k := 73) (q := 87) dX10_init_120 zp_X10_50 rfl ⟨by decide +kernel, rfl⟩ rfl ⟨by decide, by decide⟩ (by decide +kernel) (fun _ => rfl) (fun _ => rfl) ?_
  refine r_aload_n dX10_init_123 rfl ?_
  refine r_sipush (v := (nI 300)) dX10_init_124 (by decide) ?_
  have h := zK_bd h (x := zz_z M14 88) rfl
  refine r_newi (k := 88) (n := 300) dX10_init_127 zw_arr.1 ⟨by decide, by decide, by decide⟩ (by decide +kernel) (by decide +kernel) rfl ⟨by decide +kernel, by decide +kernel⟩ ?_
  generalize zz_z M14 88 = M15 at h ⊢
  refine r_putR (k := 73) (q := 88) dX10_init_129 zp_X10_53 rfl ⟨by decide +kernel, rfl⟩ rfl ⟨by decide, by decide⟩ (by decide +kernel) (fun _ => rfl) (fun _ => rfl) ?_
  refine r_aload_n dX10_init_132 rfl ?_
  refine r_sipush (v := (nI 256)) dX10_init_133 (by decide) ?_
  have h := zK_bd h (x := zz_z M15 89) rfl
  refine r_newi (k := 89) (n := 256) dX10_init_136 zw_arr.1 ⟨by decide, by decide, by decide⟩ (by decide +kernel) (by decide +kernel) rfl ⟨by decide +kernel, by decide +kernel⟩ ?_
  generalize zz_z M15 89 = M16 at h ⊢
  refine r_putR (k := 73) (q := 89) dX10_init_138 zp_X10_56 rfl ⟨by decide +kernel, rfl⟩ rfl ⟨by decide, by decide⟩ (by decide +kernel) (fun _ => rfl) (fun _ => rfl) ?_
  refine r_aload_n dX10_init_141 rfl ?_
  refine r_sipush (v := (nI 300)) dX10_init_142 (by decide) ?_
  have h := zK_bd h (x := zz_z M16 90) rfl
  refine r_newi (k := 90) (n := 300) dX10_init_145 zw_arr.1 ⟨by decide, by decide, by decide⟩ (by decide +kernel) (by decide +kernel) rfl ⟨by decide +kernel, by decide +kernel⟩ ?_
  generalize zz_z M16 90 = M17 at h ⊢
  refine r_putR (k := 73) (q := 90) dX10_init_147 zp_X10_59 rfl ⟨by decide +kernel, rfl⟩ rfl ⟨by decide, by decide⟩ (by decide +kernel) (fun _ => rfl) (fun _ => rfl) ?_
  refine r_aload_n dX10_init_150 rfl ?_
  refine r_getR (k := 73) (q := 74) dX10_init_151 zf_X10_7 ⟨by decide +kernel, rfl⟩ rfl ⟨by decide, by decide⟩ (by decide +kernel) ?_
  refine r_bipush (v := (nI 12)) dX10_init_154 (by decide) ?_
  refine r_iconst (v := (nI 1)) dX10_init_156 (by decide) ?_
  refine r_iastc (j := 12) dX10_init_157 ⟨by decide +kernel, rfl⟩ rfl rfl (fun M18 eM18 => ?_)
  have h := zK_bd h eM18
  refine r_aload_n dX10_init_158 rfl ?_
  refine r_getR (k := 73) (q := 74) dX10_init_159 zf_X10_7 ⟨by decide +kernel, rfl⟩ rfl ⟨by decide, by decide⟩ (by decide +kernel) ?_
  refine r_bipush (v := (nI 23)) dX10_init_162 (by decide) ?_
  refine r_iconst (v := (nI 1)) dX10_init_164 (by decide) ?_
  refine r_iastc (j := 23) dX10_init_165 ⟨by decide +kernel, rfl⟩ rfl rfl (fun M19 eM19 => ?_)
  have h := zK_bd h eM19
  refine r_aload_n dX10_init_166 rfl ?_
  refine r_getR (k := 73) (q := 74) dX10_init_167 zf_X10_7 ⟨by decide +kernel, rfl⟩ rfl ⟨by decide, by decide⟩ (by decide +kernel) ?_
  refine r_sipush (v := (nI 1752)) dX10_init_170 (by decide) ?_
  refine r_ldc (v := (nI 65536)) dX10_init_173 zd_X10_62 ?_
  refine r_iastc (j := 1752) dX10_init_175 ⟨by decide +kernel, rfl⟩ rfl rfl (fun M20 eM20 => ?_)
  have h := zK_bd h eM20
  refine r_aload_n dX10_init_176 rfl ?_
  refine r_iconst (v := (nI 2)) dX10_init_177 (by decide) ?_
  refine r_iconst (v := (nI 3)) dX10_init_178 (by decide) ?_
  refine r_bipush (v := (nI 80)) dX10_init_179 (by decide) ?_
  refine r_bipush (v := (nI 40)) dX10_init_181 (by decide) ?_
  refine r_iconst (v := (nI 1)) dX10_init_183 (by decide) ?_
  refine gV_vw (as := [.int (nI 2), .int (nI 3), .int (nI 80), .int (nI 40), .int (nI 1)]) (st := []) (k := 73) dX10_init_184 zM_X10_empties zk_X10_63 ⟨by decide +kernel, rfl⟩ (by decide) rfl ⟨Nat.le_of_ble_eq_true rfl, Nat.le_of_ble_eq_true rfl⟩ (Nat.le_of_ble_eq_true rfl) ⟨rfl, rfl, by decide +kernel, by decide +kernel⟩ (fun Q' P' k h => c_X10_empties (nI 2) (nI 3) (nI 80) (nI 40) (nI 1) M20 (by decide) h k) h (fun M21 h => ?_)
  exact r_vret dX10_init_187 rfl (by decide +kernel) (by decide +kernel) (kR M21 (zK_some h))
