/-! ===== rows of making and calling ===== -/
theorem zz_goodIn {μ : zzMI} (h : Cond.code (zM_y μ) (zM_c μ) (zM_n μ) (zM_r μ) ∈ zz_tbl) : GoodIn zz_tbl (zM_w μ) := by
  intro w hw
  have hm : w ∈ zz_tbl := (List.mem_cons.mp hw).elim (fun e => e ▸ h) id
  exact ⟨hm, good_of_word (List.mem_filter.mp hm).2⟩
theorem zz_NN.warm {s U : State} (hW : s.WarmedH U.vm) (h : zz_NN s) : zz_NN U := fun a i x hh hm => va_Nw.warmM hW (h a i x hh hm)
theorem zz_NN.same {s U : State} (hv : s.vm = U.vm) (h : zz_NN s) : zz_NN U := fun a i x hh hm => va_Nw.same rfl hv (h a i x hh hm)
def zz_Mw (μ : zzMI) (n : Nat) : Prop := Cond.code (zM_y μ) (zM_c μ) (zM_n μ) (zM_r μ) ∈ zz_tbl ∧ Cond.initialized (zM_y μ).cls ∈ zz_tbl ∧ (zM_y μ).cls ≠ "java/lang/invoke/MethodHandle" ∧ (zM_y μ).cls ≠ "java/lang/invoke/VarHandle" ∧ (parseMethodDescriptor (zM_y μ).desc).map (fun d => d.parameters.length) = some n
def zz_MV (μ : zzMI) (n : Nat) : Prop := zz_Mw μ n ∧ Cond.instanceMethod (zM_y μ) ∈ zz_tbl ∧ Cond.selects (zM_y μ).cls (zM_y μ) (zM_y μ) ∈ zz_tbl
def zz_MS (μ : zzMI) (n : Nat) : Prop := zz_Mw μ n ∧ Cond.static (zM_y μ) ∈ zz_tbl
def zz_MC (μ : zzMI) (n : Nat) : Prop := zz_Mw μ n ∧ (zM_y μ).name = "<init>" ∧ Cond.instanceMethod (zM_y μ) ∈ zz_tbl
def zz_RR (μ μ' : zzMI) : Prop := zM_f μ' + 1 ≤ zM_f μ ∧ 8 + (zM_n μ' + 11) + zM_l μ' ≤ zM_l μ
def zz_z (M : zzMem) (k : Nat) : zzMem := (fun a => if a = k then (fun _ => 0) else M.1 a, fun a => if a = k then (fun _ => 0) else M.2 a)
section ZC
variable {G : zzG} {μ : zzMI} {t0 t1 t pc : Nat} {L : List (Option Value)} {st : List Value} {M : zzMem} {Q : Option Value → zzMem → Prop}
theorem r_new {idx ci n k : Nat} {CC : String} {T : u_T} {ty : Nat → FieldType} (hd : decode (zM_c μ) pc = .ok (.new idx, 3)) (hcl : Cond.classLink (zM_y μ).cls idx CC ∈ zz_tbl) (hinst : Cond.instantiable CC n ∈ zz_tbl) (hini : Cond.initialized CC ∈ zz_tbl)
    (hci : ci < 20) (hc : vwCl[ci]? = some (CC, T, n)) (hin : ∀ w ∈ u_ws CC T n, w ∈ zz_tbl) (hty : ∀ k, k < n → parseFieldDescriptor (T k).2.2.1 = some (ty k))
    (hev : zz_evL[t]? = some (0, k, n)) (hN : zz_N t = k) (hkd : zz_kd k = (ci, n)) (hdef : ∀ j, j < n → defaultValue (ty j) = if zz_rf k j = 0 then .int 0 else .null) (has : ∀ j, j < n → zz_as t k j = false)
    (hroom : zz_N (t + 1) ≤ zz_N t0 + zM_mc μ ∧ zz_Z (t + 1) ≤ zz_Z t0 + zM_ms μ)
    (kk : zz_W G μ t0 t1 (t + 1) (pc + 3) L (.ref k :: st) (zz_z M k) Q) : zz_W G μ t0 t1 t pc L st M Q := by
  intro p e s m args below meth c C H locs ls κ σ hκ hσ hS hH hL
  have hts := C.2.2.2.2.2.1
  have hK := C.2.2.2.2.2.2.2.2.1
  have hKn := hK.1 ci _ hc
  have hN1 := zz_N_new hev
  have hZ1 := zz_Z_new hev
  have h1000 := zz_N_le t
  refine W.newcK C.1 C.2.1 C.2.2.2.2.1 (hts _ hcl) (hts _ hinst) (hts _ hini) rfl hd (by show κ + 1 ≤ zM_mc μ; omega) (by show σ + n ≤ zM_ms μ; omega) hKn.2.1 hH.2 fun H1 kC hkC e1 z1 o1 => ?_
  have hk : ∀ (k : Nat) (x : Nat × va_E), (zz_ws G t M)[k]? = some x → H1[x.1]? = H[x.1]? := fun k x hx => o1 x.1 (by rw [← hH.2]; exact (hH.1 k x hx).lt)
  have hP1 : va_P (zG_D G) vwCl (zz_ws G t M ++ [(zG_sz G + zz_N t, .inr (ci, (List.range n).map (zz_fv G (t + 1) (zz_z M k) k)))]) H1 := by
    refine (hH.1.kept hk).app (fun k' x hx => ?_)
    have hz : k' < 1 := (List.getElem?_eq_some_iff.mp hx).1
    rw [show k' = 0 by omega] at hx
    cases hx
    refine ⟨_, hc, (u_born ty hts hin hKn hkC e1 hty).to (fun j hj => ?_)⟩
    rw [hdef j hj]
    unfold vp_V
    rw [List.getD_eq_getElem?_getD, List.getElem?_map, List.getElem?_range hj]
    simp only [Option.map_some, Option.getD_some, zz_fv, zz_as_new hev, has j hj, zz_z, if_true]
    simp
  rw [zz_ws_push (t' := t + 1) (M' := zz_z M k) hN1 (by rw [hN, zz_ent_o hkd hci]) (fun j hj => by
    have hjk : j ≠ k := by omega
    unfold zz_ent zz_fv
    simp only [zz_z, if_neg hjk, zz_as_new hev])] at hP1
  have hkk := kk p e s m args below meth c C H1 locs ls (κ + 1) (σ + n) (by omega) (by omega) ⟨by have := hS.1; rw [hH.2] at this; omega, fun q h1 h2 => (o1 q (by have := hS.1; rw [hH.2] at this; omega)).trans (hS.2.1 q h1 h2), hS.2.2⟩ ⟨hP1, by omega⟩ hL
  rw [List.map_cons, show zz_rv G (.ref k) = .ref (zG_sz G + k) from congrArg Value.ref (zz_ad_lt (by omega))] at hkk
  rw [hN]
  exact hkk
theorem r_newi {k n : Nat} {x : Int32} (hd : decode (zM_c μ) pc = .ok (.newarray .int, 2)) (hw : Cond.arrayClass .int ∈ zz_tbl) (hx : x.toNatClampNeg = n ∧ ¬ x < 0 ∧ n * 4 ≤ 536870912)
    (hev : zz_evL[t]? = some (0, k, n)) (hN : zz_N t = k) (hkd : zz_kd k = (20, n)) (hroom : zz_N (t + 1) ≤ zz_N t0 + zM_mc μ ∧ zz_Z (t + 1) ≤ zz_Z t0 + zM_ms μ)
    (kk : zz_W G μ t0 t1 (t + 1) (pc + 2) L (.ref k :: st) (zz_z M k) Q) : zz_W G μ t0 t1 t pc L (.int x :: st) M Q := by
  intro p e s m args below meth c C H locs ls κ σ hκ hσ hS hH hL
  have hts := C.2.2.2.2.2.1
  have hK := C.2.2.2.2.2.2.2.2.1
  have hN1 := zz_N_new hev
  have hZ1 := zz_Z_new hev
  have h1000 := zz_N_le t
  refine va_newaK (atype := .int) (N := n) (n := x) C.1 C.2.1 (hts _ hw) rfl hd rfl hx.2.1 hx.1 hx.2.2 (by show κ + 1 ≤ zM_mc μ; omega) (by show σ + n ≤ zM_ms μ; omega) hH.2 fun H1 cA e1 z1 o1 hAr hNm => ?_
  have hcA : cA = zG_cI G := Option.some.inj (hNm.symm.trans (hK.2 0 _ rfl).2)
  subst hcA
  have hk : ∀ (k : Nat) (x : Nat × va_E), (zz_ws G t M)[k]? = some x → H1[x.1]? = H[x.1]? := fun k x hx => o1 x.1 (by rw [← hH.2]; exact (hH.1 k x hx).lt)
  have hP1 : va_P (zG_D G) vwCl (zz_ws G t M ++ [(zG_sz G + zz_N t, .inl (zG_cI G, n, .inl (fun _ => 0)))]) H1 := by
    refine (hH.1.kept hk).app (fun k' x hx => ?_)
    have hz : k' < 1 := (List.getElem?_eq_some_iff.mp hx).1
    rw [show k' = 0 by omega] at hx
    cases hx
    exact e1
  rw [zz_ws_push (t' := t + 1) (M' := zz_z M k) hN1 (by rw [hN, zz_ent_i hkd]; simp [zz_z]) (fun j hj => by
    have hjk : j ≠ k := by omega
    unfold zz_ent zz_fv
    simp only [zz_z, if_neg hjk, zz_as_new hev])] at hP1
  have hkk := kk p e s m args below meth c C H1 locs ls (κ + 1) (σ + n) (by omega) (by omega) ⟨by have := hS.1; rw [hH.2] at this; omega, fun q h1 h2 => (o1 q (by have := hS.1; rw [hH.2] at this; omega)).trans (hS.2.1 q h1 h2), hS.2.2⟩ ⟨hP1, by omega⟩ hL
  rw [List.map_cons, show zz_rv G (.ref k) = .ref (zG_sz G + k) from congrArg Value.ref (zz_ad_lt (by omega))] at hkk
  rw [hN]
  exact hkk
theorem r_newl {k n : Nat} {x : Int32} (hd : decode (zM_c μ) pc = .ok (.newarray .long, 2)) (hw : Cond.arrayClass .long ∈ zz_tbl) (hx : x.toNatClampNeg = n ∧ ¬ x < 0 ∧ n * 8 ≤ 536870912)
    (hev : zz_evL[t]? = some (0, k, n)) (hN : zz_N t = k) (hkd : zz_kd k = (21, n)) (hroom : zz_N (t + 1) ≤ zz_N t0 + zM_mc μ ∧ zz_Z (t + 1) ≤ zz_Z t0 + zM_ms μ)
    (kk : zz_W G μ t0 t1 (t + 1) (pc + 2) L (.ref k :: st) (zz_z M k) Q) : zz_W G μ t0 t1 t pc L (.int x :: st) M Q := by
  intro p e s m args below meth c C H locs ls κ σ hκ hσ hS hH hL
  have hts := C.2.2.2.2.2.1
  have hK := C.2.2.2.2.2.2.2.2.1
  have hN1 := zz_N_new hev
  have hZ1 := zz_Z_new hev
  have h1000 := zz_N_le t
  refine va_newaK (atype := .long) (N := n) (n := x) C.1 C.2.1 (hts _ hw) rfl hd rfl hx.2.1 hx.1 hx.2.2 (by show κ + 1 ≤ zM_mc μ; omega) (by show σ + n ≤ zM_ms μ; omega) hH.2 fun H1 cA e1 z1 o1 hAr hNm => ?_
  have hcA : cA = zG_cJ G := Option.some.inj (hNm.symm.trans (hK.2 1 _ rfl).2)
  subst hcA
  have hk : ∀ (k : Nat) (x : Nat × va_E), (zz_ws G t M)[k]? = some x → H1[x.1]? = H[x.1]? := fun k x hx => o1 x.1 (by rw [← hH.2]; exact (hH.1 k x hx).lt)
  have hP1 : va_P (zG_D G) vwCl (zz_ws G t M ++ [(zG_sz G + zz_N t, .inl (zG_cJ G, n, .inr (.inl (fun _ => 0))))]) H1 := by
    refine (hH.1.kept hk).app (fun k' x hx => ?_)
    have hz : k' < 1 := (List.getElem?_eq_some_iff.mp hx).1
    rw [show k' = 0 by omega] at hx
    cases hx
    exact e1
  rw [zz_ws_push (t' := t + 1) (M' := zz_z M k) hN1 (by rw [hN, zz_ent_l hkd]; simp [zz_z]) (fun j hj => by
    have hjk : j ≠ k := by omega
    unfold zz_ent zz_fv
    simp only [zz_z, if_neg hjk, zz_as_new hev])] at hP1
  have hkk := kk p e s m args below meth c C H1 locs ls (κ + 1) (σ + n) (by omega) (by omega) ⟨by have := hS.1; rw [hH.2] at this; omega, fun q h1 h2 => (o1 q (by have := hS.1; rw [hH.2] at this; omega)).trans (hS.2.1 q h1 h2), hS.2.2⟩ ⟨hP1, by omega⟩ hL
  rw [List.map_cons, show zz_rv G (.ref k) = .ref (zG_sz G + k) from congrArg Value.ref (zz_ad_lt (by omega))] at hkk
  rw [hN]
  exact hkk
theorem r_newb {k n : Nat} {x : Int32} (hd : decode (zM_c μ) pc = .ok (.newarray .byte, 2)) (hw : Cond.arrayClass .byte ∈ zz_tbl) (hx : x.toNatClampNeg = n ∧ ¬ x < 0 ∧ n * 1 ≤ 536870912)
    (hev : zz_evL[t]? = some (0, k, n)) (hN : zz_N t = k) (hkd : zz_kd k = (22, n)) (hroom : zz_N (t + 1) ≤ zz_N t0 + zM_mc μ ∧ zz_Z (t + 1) ≤ zz_Z t0 + zM_ms μ)
    (kk : zz_W G μ t0 t1 (t + 1) (pc + 2) L (.ref k :: st) (zz_z M k) Q) : zz_W G μ t0 t1 t pc L (.int x :: st) M Q := by
  intro p e s m args below meth c C H locs ls κ σ hκ hσ hS hH hL
  have hts := C.2.2.2.2.2.1
  have hK := C.2.2.2.2.2.2.2.2.1
  have hN1 := zz_N_new hev
  have hZ1 := zz_Z_new hev
  have h1000 := zz_N_le t
  refine va_newaK (atype := .byte) (N := n) (n := x) C.1 C.2.1 (hts _ hw) rfl hd rfl hx.2.1 hx.1 hx.2.2 (by show κ + 1 ≤ zM_mc μ; omega) (by show σ + n ≤ zM_ms μ; omega) hH.2 fun H1 cA e1 z1 o1 hAr hNm => ?_
  have hcA : cA = zG_cB G := Option.some.inj (hNm.symm.trans (hK.2 2 _ rfl).2)
  subst hcA
  have hk : ∀ (k : Nat) (x : Nat × va_E), (zz_ws G t M)[k]? = some x → H1[x.1]? = H[x.1]? := fun k x hx => o1 x.1 (by rw [← hH.2]; exact (hH.1 k x hx).lt)
  have hP1 : va_P (zG_D G) vwCl (zz_ws G t M ++ [(zG_sz G + zz_N t, .inl (zG_cB G, n, .inl (fun _ => 0)))]) H1 := by
    refine (hH.1.kept hk).app (fun k' x hx => ?_)
    have hz : k' < 1 := (List.getElem?_eq_some_iff.mp hx).1
    rw [show k' = 0 by omega] at hx
    cases hx
    exact e1
  rw [zz_ws_push (t' := t + 1) (M' := zz_z M k) hN1 (by rw [hN, zz_ent_b hkd]; simp [zz_z]) (fun j hj => by
    have hjk : j ≠ k := by omega
    unfold zz_ent zz_fv
    simp only [zz_z, if_neg hjk, zz_as_new hev])] at hP1
  have hkk := kk p e s m args below meth c C H1 locs ls (κ + 1) (σ + n) (by omega) (by omega) ⟨by have := hS.1; rw [hH.2] at this; omega, fun q h1 h2 => (o1 q (by have := hS.1; rw [hH.2] at this; omega)).trans (hS.2.1 q h1 h2), hS.2.2⟩ ⟨hP1, by omega⟩ hL
  rw [List.map_cons, show zz_rv G (.ref k) = .ref (zG_sz G + k) from congrArg Value.ref (zz_ad_lt (by omega))] at hkk
  rw [hN]
  exact hkk
/-- behind a call -/
theorem zz_call {p : Program} {l : Launch} {e : Env} {R : Room} {s : State} {m : MethodId} {args a : Array Value} {below : List Frame} {meth : Method} {c : Code} {H : Heap} {locs : List Loc} {κ σ mc ms t' : Nat} {Z : State → Prop} {ls : Array Slot} {st0 rest : List Value} {Q' : Option Value → zzMem → Prop}
    (hr : va_Run p l e R s m args below meth c H locs κ σ mc ms (F0 m pc ls st0) rest (zz_Q G t' Q' a) (zz_A G)) (hS : va_S (zz_A G) s.heap H locs)
    (kk : ∀ (r : Option Value) (M' : zzMem) (H1 : Heap) (locs1 : List Loc), Q' r M' → zz_H G t' M' H1 → va_S (zz_A G) s.heap H1 locs1 → W p l e R s m args below meth c H1 locs1 (κ + mc) (σ + ms) Z (F0 m (pc + 3) ls ((r.map (zz_rv G)).toList ++ rest))) : W p l e R s m args below meth c H locs κ σ Z (F0 m pc ls st0) := by
  intro T hT X
  obtain ⟨v, st₀, u, T', L, h0, X', hL, e1, e2, ⟨⟨r, M', hv, hp, hb⟩, hz, hk⟩, hst⟩ := hr T hT X
  cases hv
  rw [h0] at hz hk
  obtain ⟨t2, a1, b1⟩ := kk r M' T'.heap (locs ++ L) hp (by rw [e1]; exact hb)
    ⟨Nat.le_trans hS.1 (by rw [e1]; exact hz), fun q h1 h2 => by rw [e1, hk q (Nat.lt_of_lt_of_le h1 hS.1) h2]; exact hS.2.1 q h1 h2, fun q hq => by
      rcases List.mem_append.mp hq with h | h
      · exact hS.2.2 q h
      · exact hL q h⟩ T' rfl X'
  exact ⟨t2, hst t2 a1, b1⟩
theorem zz_blind {t : Nat} {M : zzMem} {as : List Value} : FrameBlind (va_Pc as (fun U => zz_H G t M U.heap ∧ va_K (zG_D G) vwCl (zG_tys G) U ∧ zz_NN U)) := by
  intro a U g mk q
  obtain ⟨h1, h2, h3, h4⟩ := q
  exact ⟨h1, h2, va_K.moved (u := U) (U := U.calling g mk a) (Vm.Alike.refl U.vm) h3, zz_NN.same rfl h4⟩
theorem zz_toList (r : Option Value) (st : List Value) : (r.map (zz_rv G)).toList ++ st.map (zz_rv G) = (r.toList ++ st).map (zz_rv G) := by cases r <;> rfl
theorem zz_cats (st : List Value) : ((st.map (zz_rv G)).map fun v => v.category).sum = (st.map fun v => v.category).sum := by
  rw [List.map_map, show ((fun v : Value => v.category) ∘ zz_rv G) = (fun v => v.category) from funext (zz_rv_cat G)]
theorem zz_cb {p : Program} {s : State} {m : MethodId} {args : Array Value} {meth : Method} {c : Code} {μ' : zzMI} {n idx : Nat} (C : zz_C G μ t0 p s m args meth c) (hm : zz_Mw μ' n) (hl : Cond.methodLink (zM_y μ).cls idx (zM_y μ') ∈ zz_tbl) (hR : zz_RR μ μ') :
    CallB (zM_R μ) s args (zM_y μ).cls idx (zM_y μ') (zM_c μ') (zM_n μ') (zM_r μ') (zM_w μ') (zM_R μ') (zM_mc μ') (zM_ms μ') n := by
  have hts := C.2.2.2.2.2.1
  refine ⟨rfl, rfl, hR.1, hR.2, pay_in hts (zz_goodIn hm.1), List.mem_cons_self, hts _ hm.1, hts _ hm.2.1, ⟨hm.2.2.1, hm.2.2.2.1⟩, fun sig h => ?_, hts _ hl⟩
  have h2 := hm.2.2.2.2
  rw [h] at h2
  exact (Option.some.inj h2).symm
theorem zz_cn {p : Program} {s : State} {m : MethodId} {args : Array Value} {meth : Method} {c : Code} {μ' : zzMI} {n idx : Nat} {host : String} (C : zz_C G μ t0 p s m args meth c) (hm : zz_Mw μ' n) (hl : Cond.methodLinkNest (zM_y μ).cls idx (zM_y μ') host ∈ lw_tbl) (hR : zz_RR μ μ') :
    va_CN (zM_R μ) s args (zM_y μ).cls idx (zM_y μ') host (zM_c μ') (zM_n μ') (zM_r μ') (zM_w μ') (zM_R μ') (zM_mc μ') (zM_ms μ') n := by
  have hts := C.2.2.2.2.2.1
  refine ⟨⟨rfl, rfl, hR.1, hR.2, pay_in hts (zz_goodIn hm.1), List.mem_cons_self⟩, hts _ hm.1, hts _ hm.2.1, ⟨hm.2.2.1, hm.2.2.2.1⟩, fun sig h => ?_, va_Nw.use rfl (C.2.2.2.2.2.2.2.2.2.2.2 _ _ _ _ hl)⟩
  have h2 := hm.2.2.2.2
  rw [h] at h2
  exact (Option.some.inj h2).symm
/-- the room and the time of a call -/
def zz_T (μ μ' : zzMI) (t0 t t' : Nat) : Prop := zz_N t + zM_mc μ' = zz_N t' ∧ zz_Z t + zM_ms μ' = zz_Z t' ∧ zz_N t' ≤ zz_N t0 + zM_mc μ ∧ zz_Z t' ≤ zz_Z t0 + zM_ms μ
theorem r_callV {idx k ci nn t' : Nat} {as : List Value} {μ' : zzMI} {T : u_T} {Q' : Option Value → zzMem → Prop} (hd : decode (zM_c μ) pc = .ok (.invokevirtual idx, 3)) (hm : zz_MV μ' as.length) (hl : Cond.methodLink (zM_y μ).cls idx (zM_y μ') ∈ zz_tbl) (hk : zz_O t k ci nn) (hci : ci < 20) (hcl : vwCl[ci]? = some ((zM_y μ').cls, T, nn))
    (hR : zz_RR μ μ') (hst : (st.map fun v => v.category).sum ≤ 8) (hT : zz_T μ μ' t0 t t') (hS' : zz_S G μ' t t' (.ref k :: as) M Q') (kk : ∀ r M', Q' r M' → zz_W G μ t0 t1 t' (pc + 3) L (r.toList ++ st) M' Q) : zz_W G μ t0 t1 t pc L (as.reverse ++ .ref k :: st) M Q := by
  intro p e s m args below meth c C H locs ls κ σ hκ hσ hS hH hL
  have hts := C.2.2.2.2.2.1
  have hK := C.2.2.2.2.2.2.2.2.1
  have e1 : (as.reverse ++ .ref k :: st).map (zz_rv G) = (as.map (zz_rv G)).reverse ++ .ref (zG_sz G + k) :: st.map (zz_rv G) := by
    rw [List.map_append, List.map_cons, List.map_reverse, zz_rv_ref hk]
  rw [e1]
  obtain ⟨h1, h2, h3, h4⟩ := hT
  refine zz_call (va_runV (As := as.map (zz_rv G)) (rest := st.map (zz_rv G)) (b := zG_sz G + k) (C := (zM_y μ').cls) ⟨C.1, C.2.1, C.2.2.2.1, C.2.2.2.2.1, hts⟩ hS' ⟨zz_cb C hm.1 hl hR, hts _ hm.2.1, hts _ hm.2.2⟩ ⟨zz_blind, va_recv (q0 := k) hK hH.1 hcl (by rw [zz_ws_get hk.1, zz_ent_o hk.2 hci]), fun U hU hW => ⟨by rw [List.map_cons, zz_rv_ref hk], by rw [hU]; exact hH, va_K.moved hW.alike hK, zz_NN.warm hW C.2.2.2.2.2.2.2.2.2.2.2⟩⟩ rfl (by simp) hL.1 rfl (lv_room (by rw [zz_cats]; exact hst)) hd ⟨by show κ + zM_mc μ' ≤ zM_mc μ; omega, by show σ + zM_ms μ' ≤ zM_ms μ; omega⟩) hS (fun r M' H1 locs1 hq hH1 hS1 => ?_)
  rw [zz_toList]
  exact kk r M' hq p e s m args below meth c C H1 locs1 ls (κ + zM_mc μ') (σ + zM_ms μ') (by omega) (by omega) hS1 hH1 hL
theorem r_callS {idx t' : Nat} {as : List Value} {μ' : zzMI} {Q' : Option Value → zzMem → Prop} (hd : decode (zM_c μ) pc = .ok (.invokestatic idx, 3)) (hm : zz_MS μ' as.length) (hl : Cond.methodLink (zM_y μ).cls idx (zM_y μ') ∈ zz_tbl)
    (hR : zz_RR μ μ') (hst : (st.map fun v => v.category).sum ≤ 8) (hT : zz_T μ μ' t0 t t') (hS' : zz_S G μ' t t' as M Q') (kk : ∀ r M', Q' r M' → zz_W G μ t0 t1 t' (pc + 3) L (r.toList ++ st) M' Q) : zz_W G μ t0 t1 t pc L (as.reverse ++ st) M Q := by
  intro p e s m args below meth c C H locs ls κ σ hκ hσ hS hH hL
  have hts := C.2.2.2.2.2.1
  have hK := C.2.2.2.2.2.2.2.2.1
  rw [List.map_append, List.map_reverse]
  obtain ⟨h1, h2, h3, h4⟩ := hT
  refine zz_call (va_runS (As := as.map (zz_rv G)) (rest := st.map (zz_rv G)) ⟨C.1, C.2.1, C.2.2.2.1, C.2.2.2.2.1, hts⟩ hS' ⟨zz_cb C hm.1 hl hR, hts _ hm.2⟩ ⟨zz_blind, fun U hU hW => ⟨rfl, by rw [hU]; exact hH, va_K.moved hW.alike hK, zz_NN.warm hW C.2.2.2.2.2.2.2.2.2.2.2⟩⟩ rfl (by simp) hL.1 rfl (lv_room (by rw [zz_cats]; exact hst)) hd ⟨by show κ + zM_mc μ' ≤ zM_mc μ; omega, by show σ + zM_ms μ' ≤ zM_ms μ; omega⟩) hS (fun r M' H1 locs1 hq hH1 hS1 => ?_)
  rw [zz_toList]
  exact kk r M' hq p e s m args below meth c C H1 locs1 ls (κ + zM_mc μ') (σ + zM_ms μ') (by omega) (by omega) hS1 hH1 hL
theorem r_callSN {idx t' : Nat} {as : List Value} {μ' : zzMI} {host : String} {Q' : Option Value → zzMem → Prop} (hd : decode (zM_c μ) pc = .ok (.invokestatic idx, 3)) (hm : zz_MS μ' as.length) (hl : Cond.methodLinkNest (zM_y μ).cls idx (zM_y μ') host ∈ lw_tbl)
    (hR : zz_RR μ μ') (hst : (st.map fun v => v.category).sum ≤ 8) (hT : zz_T μ μ' t0 t t') (hS' : zz_S G μ' t t' as M Q') (kk : ∀ r M', Q' r M' → zz_W G μ t0 t1 t' (pc + 3) L (r.toList ++ st) M' Q) : zz_W G μ t0 t1 t pc L (as.reverse ++ st) M Q := by
  intro p e s m args below meth c C H locs ls κ σ hκ hσ hS hH hL
  have hts := C.2.2.2.2.2.1
  have hK := C.2.2.2.2.2.2.2.2.1
  rw [List.map_append, List.map_reverse]
  obtain ⟨h1, h2, h3, h4⟩ := hT
  refine zz_call (va_runSN (As := as.map (zz_rv G)) (rest := st.map (zz_rv G)) ⟨C.1, C.2.1, C.2.2.2.1, C.2.2.2.2.1, hts⟩ hS' ⟨zz_cn C hm.1 hl hR, hts _ hm.2, trivial⟩ ⟨zz_blind, fun U hU hW => ⟨rfl, by rw [hU]; exact hH, va_K.moved hW.alike hK, zz_NN.warm hW C.2.2.2.2.2.2.2.2.2.2.2⟩⟩ rfl (by simp) hL.1 rfl (lv_room (by rw [zz_cats]; exact hst)) hd ⟨by show κ + zM_mc μ' ≤ zM_mc μ; omega, by show σ + zM_ms μ' ≤ zM_ms μ; omega⟩) hS (fun r M' H1 locs1 hq hH1 hS1 => ?_)
  rw [zz_toList]
  exact kk r M' hq p e s m args below meth c C H1 locs1 ls (κ + zM_mc μ') (σ + zM_ms μ') (by omega) (by omega) hS1 hH1 hL
theorem r_callI {idx k a n t' : Nat} {as : List Value} {μ' : zzMI} {Q' : Option Value → zzMem → Prop} (hd : decode (zM_c μ) pc = .ok (.invokespecial idx, 3)) (hm : zz_MC μ' as.length) (hnone : zM_r μ' = none) (hl : Cond.methodLink (zM_y μ).cls idx (zM_y μ') ∈ zz_tbl) (hk : zz_O t k a n)
    (hR : zz_RR μ μ') (hst : (st.map fun v => v.category).sum ≤ 8) (hT : zz_T μ μ' t0 t t') (hS' : zz_S G μ' t t' (.ref k :: as) M Q') (kk : ∀ r M', Q' r M' → zz_W G μ t0 t1 t' (pc + 3) L (r.toList ++ st) M' Q) : zz_W G μ t0 t1 t pc L (as.reverse ++ .ref k :: st) M Q := by
  intro p e s m args below meth c C H locs ls κ σ hκ hσ hS hH hL
  have hts := C.2.2.2.2.2.1
  have hK := C.2.2.2.2.2.2.2.2.1
  have e1 : (as.reverse ++ .ref k :: st).map (zz_rv G) = (as.map (zz_rv G)).reverse ++ .ref (zG_sz G + k) :: st.map (zz_rv G) := by
    rw [List.map_append, List.map_cons, List.map_reverse, zz_rv_ref hk]
  rw [e1]
  obtain ⟨h1, h2, h3, h4⟩ := hT
  have hcb := zz_cb C hm.1 hl hR
  rw [hnone] at hcb
  refine zz_call (va_runI (As := as.map (zz_rv G)) (rest := st.map (zz_rv G)) (b := zG_sz G + k) ⟨C.1, C.2.1, C.2.2.2.1, C.2.2.2.2.1, hts⟩ hS' ⟨hcb, hm.2.1, hts _ hm.2.2⟩ ⟨zz_blind, fun U hU hW => ⟨by rw [List.map_cons, zz_rv_ref hk], by rw [hU]; exact hH, va_K.moved hW.alike hK, zz_NN.warm hW C.2.2.2.2.2.2.2.2.2.2.2⟩⟩ rfl (by simp) hL.1 rfl (lv_room (by rw [zz_cats]; exact hst)) hd ⟨by show κ + zM_mc μ' ≤ zM_mc μ; omega, by show σ + zM_ms μ' ≤ zM_ms μ; omega⟩) hS (fun r M' H1 locs1 hq hH1 hS1 => ?_)
  rw [zz_toList]
  exact kk r M' hq p e s m args below meth c C H1 locs1 ls (κ + zM_mc μ') (σ + zM_ms μ') (by omega) (by omega) hS1 hH1 hL
theorem r_callIN {idx k a n t' : Nat} {as : List Value} {μ' : zzMI} {host : String} {Q' : Option Value → zzMem → Prop} (hd : decode (zM_c μ) pc = .ok (.invokespecial idx, 3)) (hm : zz_MC μ' as.length) (hnone : zM_r μ' = none) (hl : Cond.methodLinkNest (zM_y μ).cls idx (zM_y μ') host ∈ lw_tbl) (hk : zz_O t k a n)
    (hR : zz_RR μ μ') (hst : (st.map fun v => v.category).sum ≤ 8) (hT : zz_T μ μ' t0 t t') (hS' : zz_S G μ' t t' (.ref k :: as) M Q') (kk : ∀ r M', Q' r M' → zz_W G μ t0 t1 t' (pc + 3) L (r.toList ++ st) M' Q) : zz_W G μ t0 t1 t pc L (as.reverse ++ .ref k :: st) M Q := by
  intro p e s m args below meth c C H locs ls κ σ hκ hσ hS hH hL
  have hts := C.2.2.2.2.2.1
  have hK := C.2.2.2.2.2.2.2.2.1
  have e1 : (as.reverse ++ .ref k :: st).map (zz_rv G) = (as.map (zz_rv G)).reverse ++ .ref (zG_sz G + k) :: st.map (zz_rv G) := by
    rw [List.map_append, List.map_cons, List.map_reverse, zz_rv_ref hk]
  rw [e1]
  obtain ⟨h1, h2, h3, h4⟩ := hT
  have hcb := zz_cn C hm.1 hl hR
  rw [hnone] at hcb
  refine zz_call (va_runIN (As := as.map (zz_rv G)) (rest := st.map (zz_rv G)) (b := zG_sz G + k) ⟨C.1, C.2.1, C.2.2.2.1, C.2.2.2.2.1, hts⟩ hS' ⟨hcb, hm.2.1, hts _ hm.2.2⟩ ⟨zz_blind, fun U hU hW => ⟨by rw [List.map_cons, zz_rv_ref hk], by rw [hU]; exact hH, va_K.moved hW.alike hK, zz_NN.warm hW C.2.2.2.2.2.2.2.2.2.2.2⟩⟩ rfl (by simp) hL.1 rfl (lv_room (by rw [zz_cats]; exact hst)) hd ⟨by show κ + zM_mc μ' ≤ zM_mc μ; omega, by show σ + zM_ms μ' ≤ zM_ms μ; omega⟩) hS (fun r M' H1 locs1 hq hH1 hS1 => ?_)
  rw [zz_toList]
  exact kk r M' hq p e s m args below meth c C H1 locs1 ls (κ + zM_mc μ') (σ + zM_ms μ') (by omega) (by omega) hS1 hH1 hL
end ZC
