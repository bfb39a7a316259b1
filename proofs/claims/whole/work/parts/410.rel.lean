/-! ===== the file as a mathematical value, and how the two memories hold it =====
  shape (n, c, up, down, policy); (level, pointer); (reads, writes, splits, joins); what is drawn; the law; the entries (key, value) of each bucket in order; the pages of each bucket in order; all keys as scans tell them; the scans (how many told, the last one) -/
abbrev zzA : Type := (Nat × Nat × Nat × Nat × Nat) × (Nat × Nat) × (Int32 × Int32 × Int32 × Int32) × Nat × List (Nat × Nat) × (Nat → List (Nat × Nat)) × (Nat → List Nat) × List Nat × (Nat → Option (Nat × Int32))
abbrev zA_n (A : zzA) : Nat := A.1.1
abbrev zA_c (A : zzA) : Nat := A.1.2.1
abbrev zA_up (A : zzA) : Nat := A.1.2.2.1
abbrev zA_dn (A : zzA) : Nat := A.1.2.2.2.1
abbrev zA_po (A : zzA) : Nat := A.1.2.2.2.2
abbrev zA_lv (A : zzA) : Nat := A.2.1.1
abbrev zA_pt (A : zzA) : Nat := A.2.1.2
abbrev zA_rd (A : zzA) : Int32 := A.2.2.1.1
abbrev zA_wr (A : zzA) : Int32 := A.2.2.1.2.1
abbrev zA_sp (A : zzA) : Int32 := A.2.2.1.2.2.1
abbrev zA_jn (A : zzA) : Int32 := A.2.2.1.2.2.2
abbrev zA_dr (A : zzA) : Nat := A.2.2.2.1
abbrev zA_law (A : zzA) : List (Nat × Nat) := A.2.2.2.2.1
abbrev zA_E (A : zzA) : Nat → List (Nat × Nat) := A.2.2.2.2.2.1
abbrev zA_G (A : zzA) : Nat → List Nat := A.2.2.2.2.2.2.1
abbrev zA_S (A : zzA) : List Nat := A.2.2.2.2.2.2.2.1
abbrev zA_sc (A : zzA) : Nat → Option (Nat × Int32) := A.2.2.2.2.2.2.2.2
/-- the span (how many buckets there were when the pointer was 0 last), and the buckets -/
def zA_s (A : zzA) : Nat := zA_n A * 2 ^ zA_lv A
def zA_B (A : zzA) : Nat := zA_s A + zA_pt A
def zadr (s p h : Nat) : Nat := if h % s < p then h % (2 * s) else h % s
noncomputable def zA_h (A : zzA) (k : Nat) : Nat := zhs (zA_law A) k
noncomputable def zA_a (A : zzA) (k : Nat) : Nat := zadr (zA_s A) (zA_pt A) (zA_h A k)
def zcod (n h k : Nat) : Nat := h % n * 4294967296 + zrev (h / n) * 65536 + k
noncomputable def zA_cd (A : zzA) (k : Nat) : Nat := zcod (zA_n A) (zA_h A k) k
/-- how many entries a page has: place i of a chain of c a page, e entries in all -/
def zfil (c e i : Nat) : Nat := min c (e - c * i)
def zpgs (c e : Nat) : Nat := max 1 ((e + c - 1) / c)
/-- a file that can be; N: how many calls there were -/
def zWF (N : Nat) (A : zzA) : Prop :=
  (1 ≤ zA_n A ∧ zA_n A ≤ 4 ∧ 2 ≤ zA_c A ∧ zA_c A ≤ 6 ∧ 50 ≤ zA_up A ∧ zA_up A ≤ 300 ∧ zA_dn A ≤ 49 ∧ zA_po A ≤ 2 ∧ zA_pt A < zA_s A ∧ zA_B A ≤ 64 ∧ zA_dr A < 65536 ∧ zLok (zA_law A)) ∧
  (∀ b, zA_B A ≤ b → zA_E A b = [] ∧ zA_G A b = []) ∧
  (∀ b, ∀ q ∈ zA_E A b, q.1 < 65536 ∧ q.2 < 256 ∧ zA_a A q.1 = b) ∧
  (∀ b, ((zA_E A b).map Prod.fst).Nodup) ∧
  (∀ b, b < zA_B A → (zA_G A b).length = zpgs (zA_c A) (zA_E A b).length) ∧
  (∀ b, ∀ p ∈ zA_G A b, p < 256) ∧ (∀ b, (zA_G A b).Nodup) ∧ (∀ b b' p, p ∈ zA_G A b → p ∈ zA_G A b' → b = b') ∧
  ((zA_S A).length ≤ 300 ∧ (zA_S A).Pairwise (fun x y => zA_cd A x < zA_cd A y) ∧ ∀ k, k ∈ zA_S A ↔ ∃ b v, (k, v) ∈ zA_E A b) ∧
  (∀ s, s < 4 → ∀ q, zA_sc A s = some q → q.1 ≤ N ∧ (q.2 = (-1 : Int32) ∨ ∃ k, k < 65536 ∧ q.2 = nI k))
/-! the class's memory: a HashFile at the cell o -/
def zCi (M : zzMem) (o : Nat) (A : zzA) : Prop :=
  M.1 o 4 = nI (zA_n A) ∧ M.1 o 5 = nI (zA_up A) ∧ M.1 o 6 = nI (zA_dn A) ∧ M.1 o 7 = nI (zA_po A) ∧ M.1 o 8 = nI (zA_lv A) ∧ M.1 o 9 = nI (zA_pt A) ∧
  M.1 o 10 = zA_rd A ∧ M.1 o 11 = zA_wr A ∧ M.1 o 12 = zA_sp A ∧ M.1 o 13 = zA_jn A ∧ M.1 o 14 = nI (zA_dr A) ∧ M.1 (o + 4) 11 = nI (zA_c A)
def zpg (o : Option Nat) : Int32 := match o with
  | none => (-1 : Int32)
  | some p => nI p
noncomputable def zen (h : Nat → Nat) (q : Nat × Nat) : Int64 := f_X1_of (nI q.1) (nI q.2) (nI (h q.1))
/-- chains: ch is the cell of the Chains -/
def zCh (M : zzMem) (ch c : Nat) (h : Nat → Nat) (E : Nat → List (Nat × Nat)) (G : Nat → List Nat) : Prop :=
  (∀ b, b < 64 → M.1 (ch + 8) b = nI (E b).length) ∧
  (∀ b, b < 64 → M.1 (ch + 9) b = nI (G b).length) ∧
  (∀ b, b < 64 → M.1 (ch + 6) b = zpg (G b).head?) ∧
  (∀ b, b < 64 → M.1 (ch + 7) b = zpg (G b).getLast?) ∧
  (∀ p, p < 256 → (∀ b, b < 64 → p ∉ G b) → M.1 (ch + 1) p = (-1 : Int32)) ∧
  (∀ b, b < 64 → ∀ i p, (G b)[i]? = some p → M.1 (ch + 1) p = nI b ∧ M.1 (ch + 2) p = nI i ∧ M.1 (ch + 3) p = nI (zfil c (E b).length i) ∧ M.1 (ch + 4) p = zpg ((G b)[i + 1]?)) ∧
  (∀ b, b < 64 → ∀ i q p, (E b)[i]? = some q → (G b)[i / c]? = some p → M.2 (ch + 5) (6 * p + i % c) = zen h q)
/-- order: or is the cell of the Order -/
def zOr (M : zzMem) (or : Nat) (cd : Nat → Nat) (S : List Nat) : Prop :=
  M.1 or 1 = nI S.length ∧ ∀ i k, S[i]? = some k → M.2 (or + 1) i = lN (cd k)
/-- scans: sc is the cell of the Scans -/
def zSn (M : zzMem) (sc : Nat) (f : Nat → Option (Nat × Int32)) : Prop :=
  ∀ s, s < 4 → (f s = none → M.1 (sc + 1) s = (-1 : Int32)) ∧ ∀ q, f s = some q → M.1 (sc + 1) s = nI q.1 ∧ M.1 (sc + 2) s = q.2
def zRC (M : zzMem) (o : Nat) (A : zzA) : Prop :=
  zCi M o A ∧ zLc M (o + 1) (zA_law A) ∧ zCh M (o + 4) (zA_c A) (zA_h A) (zA_E A) (zA_G A) ∧ zOr M (o + 15) (zA_cd A) (zA_S A) ∧ zSn M (o + 17) (zA_sc A)
/-! the reference's memory: a slot that begins at s0 of the cell 74 -/
def zMi (M : zzMem) (s0 : Nat) (A : zzA) : Prop :=
  M.1 74 s0 = nI (zA_n A) ∧ M.1 74 (s0 + 1) = nI (zA_c A) ∧ M.1 74 (s0 + 2) = nI (zA_up A) ∧ M.1 74 (s0 + 3) = nI (zA_dn A) ∧ M.1 74 (s0 + 4) = nI (zA_po A) ∧ M.1 74 (s0 + 5) = nI (zA_lv A) ∧ M.1 74 (s0 + 6) = nI (zA_pt A) ∧
  M.1 74 (s0 + 7) = nI (zA_S A).length ∧ M.1 74 (s0 + 8) = zA_rd A ∧ M.1 74 (s0 + 9) = zA_wr A ∧ M.1 74 (s0 + 10) = zA_sp A ∧ M.1 74 (s0 + 11) = zA_jn A ∧ M.1 74 (s0 + 12) = nI (zA_dr A)
/-- the entries: xs b are the places of b's entries in order; ke, ve, be, se what stands at a place; cm the stamps given so far -/
def zMe (M : zzMem) (s0 m cm : Nat) (E : Nat → List (Nat × Nat)) (xs : Nat → List Nat) (ke ve be se : Nat → Nat) : Prop :=
  M.1 74 (s0 + 13) = nI cm ∧
  (∀ e, e < m → M.1 74 (s0 + 40 + e) = nI (ke e) ∧ M.1 74 (s0 + 340 + e) = nI (ve e) ∧ M.1 74 (s0 + 640 + e) = nI (be e) ∧ M.1 74 (s0 + 940 + e) = nI (se e) ∧ se e < cm ∧ e ∈ xs (be e)) ∧
  (∀ b, ∀ e ∈ xs b, e < m ∧ be e = b) ∧
  (∀ b, (xs b).Pairwise (fun x y => se x < se y)) ∧
  (∀ b, E b = (xs b).map (fun e => (ke e, ve e)))
def zMp (M : zzMem) (s0 : Nat) (G : Nat → List Nat) : Prop :=
  (∀ p, p < 256 → (∀ b, b < 64 → p ∉ G b) → M.1 74 (s0 + 1240 + p) = (-1 : Int32)) ∧
  (∀ b, b < 64 → ∀ i p, (G b)[i]? = some p → M.1 74 (s0 + 1240 + p) = nI b ∧ M.1 74 (s0 + 1496 + p) = nI i)
def zMs (M : zzMem) (s0 : Nat) (f : Nat → Option (Nat × Int32)) : Prop :=
  ∃ w, w < 16 ∧ M.1 74 (s0 + 14) = nI w ∧ ∀ s, s < 4 → (f s = none → w.testBit s = false) ∧ ∀ q, f s = some q → w.testBit s = true ∧ M.1 74 (s0 + 15 + s) = q.2 ∧ M.1 74 (s0 + 19 + s) = nI q.1
def zRM (M : zzMem) (s0 N : Nat) (A : zzA) : Prop :=
  zMi M s0 A ∧ zLm M s0 (zA_law A) ∧ (∃ cm xs ke ve be se, cm ≤ 400000 * N ∧ zMe M s0 (zA_S A).length cm (zA_E A) xs ke ve be se) ∧ zMp M s0 (zA_G A) ∧ zMs M s0 (zA_sc A)
/-- the tape -/
def zTp (M : zzMem) (tp : List Nat) : Prop :=
  tp.length ≤ 320 ∧ M.1 1 1 = nI tp.length ∧ M.1 73 6 = nI tp.length ∧ ∀ i x, tp[i]? = some x → x < 256 ∧ M.1 2 i = nI x ∧ M.1 75 i &&& 255 = nI x
/-- THE INVARIANT of the law's loop, behind N calls -/
def zIv (N : Nat) (M : zzMem) : Prop :=
  ∃ (tp : List Nat) (A : zzA), zTp M tp ∧ zWF N A ∧ zRC M 12 A ∧ zRM M 0 N A ∧
    ((M.1 0 7 = 0 ∧ M.1 73 1 = 0) ∨ (M.1 0 7 = 1 ∧ M.1 73 1 = 1 ∧ ∃ K : zzA, zWF N K ∧ zRC M 32 K ∧ zRM M 1892 N K))
/-- a call of both: the same answer, and the invariant behind it -/
def zSame {α : Type} (N : Nat) (f g : zzMem → Option (α × zzMem)) : Prop := N ≤ 600 → ∀ M, zIv N M → ∃ r M1 M2, f M = some (r, M1) ∧ g M1 = some (r, M2) ∧ zIv (N + 1) M2
/-! what is only scratch: nothing of the invariant stands there -/
def zScr (k i : Nat) : Prop :=
  k = 15 ∨ k = 35 ∨ k = 26 ∨ k = 46 ∨ (52 ≤ k ∧ k ≤ 72) ∨ (3 ≤ k ∧ k ≤ 11) ∨ (76 ≤ k ∧ k ≤ 90) ∨ ((k = 16 ∨ k = 36) ∧ i = 10) ∨ (k = 1 ∧ 2 ≤ i) ∨ (k = 73 ∧ 7 ≤ i) ∨ (k = 74 ∧ 3784 ≤ i)
