/-! ===== the programs: what a generated function is made of ===== -/
def zK {α : Type} (o : Option α) (P : α → Prop) : Prop := ∃ x, o = some x ∧ P x
def zbd {α β : Type} (v : α) (f : α → β) : β := f v
noncomputable def zgd {α : Type} (c : Prop) (f : Option α) : Option α := @ite _ c (Classical.propDecidable c) f none
def zup {σ ρ : Type} (o : Option ρ) : Option (σ ⊕ ρ) := o.map Sum.inr
def zit {σ ρ : Type} (B : σ → Option (σ ⊕ ρ)) : Nat → σ → Option ρ
  | 0, _ => none
  | n + 1, s => (B s).bind (fun x => match x with
    | .inl s' => zit B n s'
    | .inr r => some r)
theorem zit_succ {σ ρ : Type} {B : σ → Option (σ ⊕ ρ)} : ∀ (n : Nat) (s : σ) (r : ρ), zit B n s = some r → zit B (n + 1) s = some r := by
  intro n
  induction n with
  | zero => intro s r h; cases h
  | succ n ih =>
    intro s r h
    unfold zit at h ⊢
    cases hb : B s with
    | none => rw [hb] at h; cases h
    | some x =>
      rw [hb] at h
      cases x with
      | inl s' => exact ih s' r h
      | inr q => exact h
theorem zit_le {σ ρ : Type} {B : σ → Option (σ ⊕ ρ)} {n : Nat} {s : σ} {r : ρ} (h : zit B n s = some r) (k : Nat) : zit B (n + k) s = some r := by
  induction k with
  | zero => exact h
  | succ k ih => exact zit_succ _ _ _ ih
noncomputable def zlp {σ ρ : Type} (B : σ → Option (σ ⊕ ρ)) (s : σ) : Option ρ := @dite _ (∃ r, ∃ n, zit B n s = some r) (Classical.propDecidable _) (fun h => some (Classical.choose h)) (fun _ => none)
theorem zlp_iff {σ ρ : Type} {B : σ → Option (σ ⊕ ρ)} {s : σ} {r : ρ} : zlp B s = some r ↔ ∃ n, zit B n s = some r := by
  unfold zlp
  constructor
  · intro h
    split at h
    next hh => cases h; exact Classical.choose_spec hh
    next => cases h
  · intro ⟨n, hn⟩
    have hh : ∃ r, ∃ n, zit B n s = some r := ⟨r, n, hn⟩
    rw [dif_pos hh]
    obtain ⟨k, hk⟩ := Classical.choose_spec hh
    have h1 := zit_le hn k
    have h2 := zit_le hk n
    rw [Nat.add_comm] at h2
    rw [← h1, h2]
theorem zlp_eq {σ ρ : Type} {B : σ → Option (σ ⊕ ρ)} {s : σ} : zlp B s = (B s).bind (fun x => match x with
    | .inl s' => zlp B s'
    | .inr r => some r) := by
  apply Option.ext
  intro r
  rw [zlp_iff]
  constructor
  · intro ⟨n, hn⟩
    cases n with
    | zero => cases hn
    | succ n =>
      unfold zit at hn
      cases hb : B s with
      | none => rw [hb] at hn; cases hn
      | some x =>
        rw [hb] at hn
        cases x with
        | inl s' => exact zlp_iff.mpr ⟨n, hn⟩
        | inr q => exact hn
  · intro h
    cases hb : B s with
    | none => rw [hb] at h; cases h
    | some x =>
      rw [hb] at h
      cases x with
      | inl s' =>
        obtain ⟨n, hn⟩ := zlp_iff.mp h
        refine ⟨n + 1, ?_⟩
        unfold zit
        rw [hb]
        exact hn
      | inr q =>
        refine ⟨1, ?_⟩
        unfold zit
        rw [hb]
        exact h
theorem zK_lp {σ ρ : Type} {B : σ → Option (σ ⊕ ρ)} {s : σ} {P : ρ → Prop} (h : zK (zlp B s) P) (I : σ → Prop) (hs : ∀ s, zK (B s) (Sum.elim I P) → I s) : I s := by
  obtain ⟨r, h1, hP⟩ := h
  obtain ⟨n, hn⟩ := zlp_iff.mp h1
  clear h1
  induction n generalizing s with
  | zero => cases hn
  | succ n ih =>
    unfold zit at hn
    cases hb : B s with
    | none => rw [hb] at hn; cases hn
    | some x =>
      rw [hb] at hn
      refine hs s ⟨x, hb, ?_⟩
      cases x with
      | inl s' => exact ih hn
      | inr q => cases hn; exact hP
theorem zK_some {α : Type} {x : α} {P : α → Prop} (h : zK (some x) P) : P x := by
  obtain ⟨y, e, hP⟩ := h
  cases e
  exact hP
theorem zK_pos {α : Type} {c : Prop} [Decidable c] {a b : Option α} {P : α → Prop} (h : zK (if c then a else b) P) (hc : c) : zK a P := by rwa [if_pos hc] at h
theorem zK_neg {α : Type} {c : Prop} [Decidable c] {a b : Option α} {P : α → Prop} (h : zK (if c then a else b) P) (hc : ¬ c) : zK b P := by rwa [if_neg hc] at h
theorem zK_bd {α β : Type} {v : α} {f : α → Option β} {P : β → Prop} (h : zK (zbd v f) P) {x : α} (e : x = v) : zK (f x) P := by subst e; exact h
theorem zK_bi {α β : Type} {o : Option α} {f : α → Option β} {P : β → Prop} (h : zK (o.bind f) P) : zK o (fun x => zK (f x) P) := by
  obtain ⟨y, e, hP⟩ := h
  cases ho : o with
  | none => rw [ho] at e; cases e
  | some x => rw [ho] at e; exact ⟨x, rfl, y, e, hP⟩
theorem zK_gd {α : Type} {c : Prop} {f : Option α} {P : α → Prop} (h : zK (zgd c f) P) : c ∧ zK f P := by
  unfold zgd at h
  by_cases hc : c
  · rw [if_pos hc] at h; exact ⟨hc, h⟩
  · rw [if_neg hc] at h; obtain ⟨x, e, -⟩ := h; cases e
theorem zK_up {σ ρ : Type} {o : Option ρ} {P : σ ⊕ ρ → Prop} (h : zK (zup o) P) : zK o (fun r => P (.inr r)) := by
  obtain ⟨y, e, hP⟩ := h
  cases ho : o with
  | none => rw [ho] at e; cases e
  | some x => rw [ho] at e; cases e; exact ⟨x, rfl, hP⟩
theorem zP_pos {α : Type} {c : Prop} [Decidable c] {a b : α} {P : α → Prop} (h : P (if c then a else b)) (hc : c) : P a := by rwa [if_pos hc] at h
theorem zP_neg {α : Type} {c : Prop} [Decidable c] {a b : α} {P : α → Prop} (h : P (if c then a else b)) (hc : ¬ c) : P b := by rwa [if_neg hc] at h
theorem zP_bd {α β : Type} {v : α} {f : α → β} {P : β → Prop} (h : P (zbd v f)) {x : α} (e : x = v) : P (f x) := by subst e; exact h
def zpr {α β γ : Type} (q : α × β) (f : α → β → γ) : γ := f q.1 q.2
theorem zK_pr {α β γ : Type} {a : α} {b : β} {f : α → β → Option γ} {P : γ → Prop} (h : zK (zpr (a, b) f) P) : zK (f a b) P := h
abbrev zrem (x y : Int32) : Int32 := x - x / y * y
/-- fewer locals are known -/
def zz_drop (ks : List Nat) (L : List (Option Value)) : List (Option Value) := ks.foldl (fun l k => l.set k none) L
theorem zz_drop_sub (ks : List Nat) : ∀ (L : List (Option Value)) (i : Nat) (v : Value), (zz_drop ks L)[i]? = some (some v) → L[i]? = some (some v) := by
  induction ks with
  | nil => intro L i v h; exact h
  | cons k ks ih =>
    intro L i v h
    have h1 := ih (L.set k none) i v h
    by_cases hik : i = k
    · subst hik
      by_cases hl : i < L.length
      · rw [List.getElem?_set_self hl] at h1; cases h1
      · rw [List.getElem?_eq_none (by simpa using hl)] at h1; cases h1
    · rwa [List.getElem?_set_ne (Ne.symm hik)] at h1
section ZX
variable {G : zzG} {μ : zzMI} {t0 t1 t pc : Nat} {L : List (Option Value)} {st : List Value} {M : zzMem} {Q : Option Value → zzMem → Prop}
theorem zz_mask (ks : List Nat) (h : zz_W G μ t0 t1 t pc (zz_drop ks L) st M Q) : zz_W G μ t0 t1 t pc L st M Q := by
  intro p e s m args below meth c C H locs ls κ σ hκ hσ hS hH hL
  exact h p e s m args below meth c C H locs ls κ σ hκ hσ hS hH ⟨hL.1, hL.2.1, fun i v hi => hL.2.2 i v (zz_drop_sub ks L i v hi)⟩
theorem zz_inl {i : Int32} {n j : Nat} (hj : i.toNatClampNeg = j) (h : (decide (i < 0) || Nat.ble n j) = false) : vp_in i n := by
  subst hj
  simp only [Bool.or_eq_false_iff, decide_eq_false_iff_not] at h
  rintro (h1 | h1)
  · exact h.1 h1
  · have := Nat.ble_eq.mpr h1
    rw [h.2] at this
    cases this
theorem r_ialdc {k n j : Nat} {i : Int32} (hd : decode (zM_c μ) pc = .ok (.iaload, 1)) (hk : zz_O t k 20 n) (hj : i.toNatClampNeg = j) (hin : (decide (i < 0) || Nat.ble n j) = false)
    (kk : zz_W G μ t0 t1 t (pc + 1) L (.int (M.1 k j) :: st) M Q) : zz_W G μ t0 t1 t pc L (.int i :: .ref k :: st) M Q := by
  subst hj; exact r_iald hd hk (zz_inl rfl hin) kk
theorem r_laldc {k n j : Nat} {i : Int32} (hd : decode (zM_c μ) pc = .ok (.laload, 1)) (hk : zz_O t k 21 n) (hj : i.toNatClampNeg = j) (hin : (decide (i < 0) || Nat.ble n j) = false)
    (kk : zz_W G μ t0 t1 t (pc + 1) L (.long (M.2 k j) :: st) M Q) : zz_W G μ t0 t1 t pc L (.int i :: .ref k :: st) M Q := by
  subst hj; exact r_lald hd hk (zz_inl rfl hin) kk
theorem r_iastc {k n j : Nat} {i x : Int32} (hd : decode (zM_c μ) pc = .ok (.iastore, 1)) (hk : zz_O t k 20 n) (hj : i.toNatClampNeg = j) (hin : (decide (i < 0) || Nat.ble n j) = false)
    (kk : ∀ M', M' = zz_si M k j x → zz_W G μ t0 t1 t (pc + 1) L st M' Q) : zz_W G μ t0 t1 t pc L (.int x :: .int i :: .ref k :: st) M Q := by
  subst hj; exact r_iast hd hk (zz_inl rfl hin) kk
theorem zb_0 {b : Bool} : zb b = 0 ↔ ¬ b = true := by cases b <;> decide
theorem r_ifZ_eq {b : Bool} {off : Int} (tgt : Nat) (hd : decode (zM_c μ) pc = .ok (.ifCond .eq off, 3)) (ht : (pc : Int) + off = (tgt : Int)) (kt : ¬ b = true → zz_W G μ t0 t1 t tgt L st M Q) (kf : b = true → zz_W G μ t0 t1 t (pc + 3) L st M Q) : zz_W G μ t0 t1 t pc L (.int (zb b) :: st) M Q :=
  r_if_eq tgt hd ht (fun h => kt (zb_0.mp h)) (fun h => kf (by cases b; exact absurd rfl h; rfl))
theorem r_ifZ_ne {b : Bool} {off : Int} (tgt : Nat) (hd : decode (zM_c μ) pc = .ok (.ifCond .ne off, 3)) (ht : (pc : Int) + off = (tgt : Int)) (kt : b = true → zz_W G μ t0 t1 t tgt L st M Q) (kf : ¬ b = true → zz_W G μ t0 t1 t (pc + 3) L st M Q) : zz_W G μ t0 t1 t pc L (.int (zb b) :: st) M Q :=
  r_if_ne tgt hd ht (fun h => kt (by cases b; exact absurd rfl h; rfl)) (fun h => kf (zb_0.mp h))
theorem s_istore_n {i : Fin 4} {x : Int32} (L' : List (Option Value)) (hd : decode (zM_c μ) pc = .ok (.istore_n i, 1)) (hn : (i : Nat) < zM_n μ) (ok : zz_okS L (i : Nat) = true) (hL' : L.set (i : Nat) (some (.int x)) = L') (k : zz_W G μ t0 t1 t (pc + 1) L' st M Q) : zz_W G μ t0 t1 t pc L (.int x :: st) M Q :=
  r_istore_n (fun y => L.set (i : Nat) (some (.int y))) hd hn ok (fun _ => rfl) (fun y e => by subst e; rw [hL']; exact k)
theorem s_istore {i : Nat} {x : Int32} (L' : List (Option Value)) (hd : decode (zM_c μ) pc = .ok (.istore i, 2)) (hn : i < zM_n μ) (ok : zz_okS L i = true) (hL' : L.set i (some (.int x)) = L') (k : zz_W G μ t0 t1 t (pc + 2) L' st M Q) : zz_W G μ t0 t1 t pc L (.int x :: st) M Q :=
  r_istore (fun y => L.set i (some (.int y))) hd hn ok (fun _ => rfl) (fun y e => by subst e; rw [hL']; exact k)
theorem s_astore_n {i : Fin 4} {x : Nat} (L' : List (Option Value)) (hd : decode (zM_c μ) pc = .ok (.astore_n i, 1)) (hn : (i : Nat) < zM_n μ) (ok : zz_okS L (i : Nat) = true) (hL' : L.set (i : Nat) (some (.ref x)) = L') (k : zz_W G μ t0 t1 t (pc + 1) L' st M Q) : zz_W G μ t0 t1 t pc L (.ref x :: st) M Q :=
  r_astore_n (fun y => L.set (i : Nat) (some (.ref y))) hd hn ok (fun _ => rfl) (fun y e => by subst e; rw [hL']; exact k)
theorem s_astore {i : Nat} {x : Nat} (L' : List (Option Value)) (hd : decode (zM_c μ) pc = .ok (.astore i, 2)) (hn : i < zM_n μ) (ok : zz_okS L i = true) (hL' : L.set i (some (.ref x)) = L') (k : zz_W G μ t0 t1 t (pc + 2) L' st M Q) : zz_W G μ t0 t1 t pc L (.ref x :: st) M Q :=
  r_astore (fun y => L.set i (some (.ref y))) hd hn ok (fun _ => rfl) (fun y e => by subst e; rw [hL']; exact k)
theorem zz_tab_out {x : Int32} {lo hi : Int} {n : Nat} (h : ∀ i : Nat, i < n → x ≠ Int32.ofInt (lo + i)) (hn : hi = lo + n - 1) : x.toInt < lo ∨ hi < x.toInt := by
  by_cases h1 : x.toInt < lo
  · exact Or.inl h1
  · by_cases h2 : hi < x.toInt
    · exact Or.inr h2
    · exfalso
      refine h (x.toInt - lo).toNat (by omega) ?_
      rw [show lo + ((x.toInt - lo).toNat : Int) = x.toInt by omega, Int32.ofInt_toInt]
theorem zz_lk_out {x : Int32} {dflt : Int} {ps : List (Int × Int)} (h : ∀ q ∈ ps, x.toInt ≠ q.1) : Op.lookupswitch.offset ps dflt x.toInt = dflt := by
  induction ps with
  | nil => rfl
  | cons q r ih =>
    obtain ⟨a, o⟩ := q
    have h1 : x.toInt ≠ a := h (a, o) List.mem_cons_self
    have h2 := ih (fun q hq => h q (List.mem_cons_of_mem _ hq))
    rw [Op.lookupswitch.offset_cons]
    first | rw [if_neg h1]; exact h2 | rw [if_neg (Ne.symm h1)]; exact h2 | simp [h1, Ne.symm h1, h2]
end ZX
/-- a reference field: it holds the cell q, and has been assigned -/
def zz_Rf (t k j q : Nat) : Prop := zz_rf k j = q ∧ (0 < q ∧ q < 1000) ∧ zz_as t k j = true
/-- a method's tail of times where nothing is made -/
theorem zz_T0 {μ μ' : zzMI} {t : Nat} (h1 : zM_mc μ' = 0) (h2 : zM_ms μ' = 0) : zz_T μ μ' t t t := by
  refine ⟨by rw [h1]; rfl, by rw [h2]; rfl, Nat.le_add_right _ _, Nat.le_add_right _ _⟩
