/-! ===== the class: a drop ===== -/
theorem zpgs_cj {c j r : Nat} (h1 : 1 ≤ c) (hr : r < c) : zpgs c (c * j + r) = if r = 0 then max 1 j else j + 1 := by
  unfold zpgs
  by_cases h0 : r = 0
  · rw [if_pos h0, h0]
    have : (c * j + 0 + c - 1) / c = j := by
      rw [show c * j + 0 + c - 1 = c * j + (c - 1) by omega, Nat.mul_add_div (by omega), Nat.div_eq_of_lt (by omega)]; rfl
    rw [this]
  · rw [if_neg h0]
    have : (c * j + r + c - 1) / c = j + 1 := by
      rw [show c * j + r + c - 1 = c * (j + 1) + (r - 1) by rw [Nat.mul_add]; omega, Nat.mul_add_div (by omega), Nat.div_eq_of_lt (by omega)]
    rw [this]; omega
section CD
variable {M : zzMem} {ch c : Nat} {h : Nat → Nat} {E : Nat → List (Nat × Nat)} {G : Nat → List Nat}
set_option maxHeartbeats 4000000 in
theorem cDropLast (hc : zCh M ch c h E G) (hG : zGok G) {b : Nat} (hb : b < 64) (h2 : 2 ≤ (G b).length) : ∃ M', f_X0_dropLastPage ch (nI b) M = some M' ∧ zCh M' ch c h E (zupd G b ((G b).take ((G b).length - 1))) ∧ zFr (fun k i => ch + 1 ≤ k ∧ k ≤ ch + 9) M M' := by
  obtain ⟨a1, a2, a3, a4, a5, a6, a7⟩ := id hc
  have hlen := hG.len b
  have c9 := a2 b hb
  have c7 := a4 b hb
  have hpa := cPageAt hc hG hb (show (G b).length - 2 < 2147483648 by omega)
  have g1 := List.getElem?_eq_getElem (show (G b).length - 2 < (G b).length by omega)
  have g2 := List.getElem?_eq_getElem (show (G b).length - 1 < (G b).length by omega)
  generalize (G b)[(G b).length - 2]'(by omega) = p at g1
  generalize (G b)[(G b).length - 1]'(by omega) = l at g2
  rw [List.getLast?_eq_getElem?, g2] at c7
  rw [g1] at hpa
  have c7 : M.1 (ch + 7) b = nI l := c7
  have hpa : f_X0_pageAt ch (nI b) (nI ((G b).length - 2)) M = some (nI p) := hpa
  generalize hL : (G b).length = L at h2 hlen c9 hpa g1 g2
  have hp256 := hG.1 b p (List.mem_of_getElem? g1)
  have hl256 := hG.1 b l (List.mem_of_getElem? g2)
  have hpl : p ≠ l := fun hh => by rw [hh] at g1; have := (hG.at g1 g2).2; omega
  have htk : ∀ i r, ((G b).take (L - 1))[i]? = some r → (G b)[i]? = some r ∧ i < L - 1 ∧ r ≠ l := fun i r hi => by
    rw [List.getElem?_take] at hi
    split at hi
    · rename_i hlt
      refine ⟨hi, hlt, fun hh => ?_⟩
      rw [hh] at hi
      have := (hG.at hi g2).2
      omega
    · cases hi
  have htl : ((G b).take (L - 1)).length = L - 1 := by rw [List.length_take]; omega
  refine ⟨zz_si (zz_si (zz_si (zz_si M (ch + 1) l (-1 : Int32)) (ch + 4) p (-1 : Int32)) (ch + 7) b (nI p)) (ch + 9) b (nI (L - 1)), ?_, ⟨fun x hx => ?_, fun x hx => ?_, fun x hx => ?_, fun x hx => ?_, fun r hr hn => ?_, fun x hx i r hi => ?_, fun x hx i q r hi hr => ?_⟩, ?_⟩
  · unfold f_X0_dropLastPage
    simp (disch := omega) only [zgd_in, nIc, c9, nIsub, hpa, Option.bind_some, ifm1, c7, zbd, rd_ne]
  · rw [rd_ne (by omega), rd_ne (by omega), rd_ne (by omega), rd_ne (by omega)]; exact a1 x hx
  · by_cases hxb : x = b
    · subst hxb; rw [rd_eq, zupd_eq, htl]
    · rw [rd_ne (by omega), rd_ne (by omega), rd_ne (by omega), rd_ne (by omega), zupd_ne hxb]; exact a2 x hx
  · rw [rd_ne (by omega), rd_ne (by omega), rd_ne (by omega), rd_ne (by omega), a3 x hx]
    by_cases hxb : x = b
    · subst hxb
      rw [zupd_eq, List.head?_eq_getElem?, List.head?_eq_getElem?, List.getElem?_take, if_pos (by omega)]
    · rw [zupd_ne hxb]
  · by_cases hxb : x = b
    · subst hxb
      rw [rd_ne (by omega), rd_eq, zupd_eq, List.getLast?_eq_getElem?, htl, List.getElem?_take, if_pos (by omega), show L - 1 - 1 = L - 2 by omega, g1]; rfl
    · rw [rd_ne (by omega), rd_ne (by omega), rd_ne (by omega), rd_ne (by omega), zupd_ne hxb]; exact a4 x hx
  · rw [rd_ne (by omega), rd_ne (by omega), rd_ne (by omega)]
    by_cases hrl : r = l
    · rw [hrl, rd_eq]
    · rw [rd_ne (by omega)]
      refine a5 r hr (fun x hx hm => ?_)
      by_cases hxb : x = b
      · subst hxb
        obtain ⟨i, hi⟩ := List.getElem?_of_mem hm
        have hil := (List.getElem?_eq_some_iff.mp hi).1
        have hi1 : i ≠ L - 1 := fun hh => hrl (by rw [hh, g2] at hi; cases hi; rfl)
        refine hn x hx ?_
        rw [zupd_eq]
        exact List.mem_of_getElem? (i := i) (by rw [List.getElem?_take, if_pos (by omega)]; exact hi)
      · exact hn x hx (by rw [zupd_ne hxb]; exact hm)
  · by_cases hxb : x = b
    · subst hxb
      rw [zupd_eq] at hi ⊢
      obtain ⟨t1, t2, t3⟩ := htk i r hi
      obtain ⟨o1, o2, o3, o4⟩ := a6 x hx i r t1
      refine ⟨?_, ?_, ?_, ?_⟩
      · rw [rd_ne (by omega), rd_ne (by omega), rd_ne (by omega), rd_ne (by omega)]; exact o1
      · rw [rd_ne (by omega), rd_ne (by omega), rd_ne (by omega), rd_ne (by omega)]; exact o2
      · rw [rd_ne (by omega), rd_ne (by omega), rd_ne (by omega), rd_ne (by omega)]; exact o3
      · rw [rd_ne (by omega), rd_ne (by omega)]
        by_cases hrp : r = p
        · rw [hrp, rd_eq]
          rw [hrp] at t1
          have hi2 := (hG.at t1 g1).2
          rw [List.getElem?_take, if_neg (by omega)]; rfl
        · rw [rd_ne (by omega), rd_ne (by omega), o4]
          have hi2 : i ≠ L - 2 := fun hh => hrp (by rw [hh, g1] at t1; cases t1; rfl)
          rw [List.getElem?_take, if_pos (by omega)]
    · rw [zupd_ne hxb] at hi ⊢
      have n1 : r ≠ l := fun hh => hxb (by rw [hh] at hi; exact (hG.at hi g2).1)
      have n2 : r ≠ p := fun hh => hxb (by rw [hh] at hi; exact (hG.at hi g1).1)
      obtain ⟨o1, o2, o3, o4⟩ := a6 x hx i r hi
      refine ⟨?_, ?_, ?_, ?_⟩
      · rw [rd_ne (by omega), rd_ne (by omega), rd_ne (by omega), rd_ne (by omega)]; exact o1
      · rw [rd_ne (by omega), rd_ne (by omega), rd_ne (by omega), rd_ne (by omega)]; exact o2
      · rw [rd_ne (by omega), rd_ne (by omega), rd_ne (by omega), rd_ne (by omega)]; exact o3
      · rw [rd_ne (by omega), rd_ne (by omega), rd_ne (by omega), rd_ne (by omega)]; exact o4
  · rw [rd_si2', rd_si2', rd_si2', rd_si2']
    by_cases hxb : x = b
    · subst hxb
      rw [zupd_eq] at hr
      exact a7 x hx i q r hi (htk _ r hr).1
    · rw [zupd_ne hxb] at hr
      exact a7 x hx i q r hi hr
  · refine (((zFr.si ?_).trans (zFr.si ?_)).trans (zFr.si ?_)).trans (zFr.si ?_) <;> omega
set_option maxHeartbeats 4000000 in
theorem cFillLast (hc : zCh M ch c h E G) (hP : zPk c (fun b => (E b).length) G) (h2 : 2 ≤ c) (h6 : c ≤ 6) {b i p : Nat} (hb : b < 64) (hi : i < (E b).length) (hp : (G b)[i / c]? = some p) : ∃ M', f_X0_fillFromLast ch (nI b) (nI (6 * p + i % c)) M = some (!decide (((E b).length - 1) / c = i / c), M') ∧ zCh M' ch c h (zupd E b (zdr (E b) i)) (zupd G b ((G b).take (zpgs c ((E b).length - 1)))) ∧ zFr (fun k i => ch + 1 ≤ k ∧ k ≤ ch + 9) M M' := by
  obtain ⟨a1, a2, a3, a4, a5, a6, a7⟩ := id hc
  have hG := hP.1
  have hn3 : (E b).length ≤ 300 := hP.cn hb
  have hp256 := hG.1 b p (List.mem_of_getElem? hp)
  have him := Nat.mod_lt i (show c > 0 by omega)
  have hidm := Nat.div_add_mod i c
  have hz : (zdr (E b) i).length = (E b).length - 1 := zdr_len _ _
  have hzg : ∀ t, t < (E b).length - 1 → (zdr (E b) i)[t]? = if t = i then (E b)[(E b).length - 1]? else (E b)[t]? := fun t ht => zdr_get ht
  have hlastE := List.getElem?_eq_getElem (show (E b).length - 1 < (E b).length by omega)
  generalize (E b)[(E b).length - 1]'(by omega) = ql at hlastE
  have hLen : (G b).length = zpgs c (E b).length := by
    rcases hP.2.2.1 b hb with e | ⟨e1, e2⟩
    · exact e
    · exfalso; have e2 : (E b).length = 0 := e2; omega
  have h8 := a1 b hb
  have h9 := a2 b hb
  have h7 := a4 b hb
  generalize hnd : (E b).length = n at *
  have hdm := Nat.div_add_mod (n - 1) c
  have hrm := Nat.mod_lt (n - 1) (show c > 0 by omega)
  generalize hj : (n - 1) / c = j at *
  generalize hr : (n - 1) % c = r at *
  have hL : (G b).length = j + 1 := by
    rw [hLen, show n = c * j + (r + 1) by omega]
    by_cases hrc : r + 1 < c
    · rw [zpgs_cj (by omega) hrc, if_neg (by omega)]
    · rw [show c * j + (r + 1) = c * (j + 1) + 0 by rw [Nat.mul_add]; omega, zpgs_cj (by omega) (by omega), if_pos rfl]; omega
  have hpgs : zpgs c (n - 1) = if r = 0 then max 1 j else j + 1 := by rw [← hdm]; exact zpgs_cj (by omega) hrm
  have gl := List.getElem?_eq_getElem (show j < (G b).length by omega)
  generalize (G b)[j]'(by omega) = pl at gl
  have hpl := hG.1 b pl (List.mem_of_getElem? gl)
  rw [List.getLast?_eq_getElem?, hL, Nat.add_sub_cancel, gl] at h7
  have h7 : M.1 (ch + 7) b = nI pl := h7
  have hG256 := hG.len b
  obtain ⟨o1, o2, o3, o4⟩ := a6 b hb j pl gl
  have hf3 : M.1 (ch + 3) pl = nI (r + 1) := by
    rw [o3, hnd]; congr 1; unfold zfil; omega
  have hV : M.2 (ch + 5) (6 * pl + r) = zen h ql := by
    have := a7 b hb (n - 1) ql pl hlastE (by rw [hj]; exact gl)
    rw [hr] at this; exact this
  rw [hL] at h9
  let M10 : zzMem := zz_si (zz_si (zz_sl M (ch + 5) (6 * p + i % c) (zen h ql)) (ch + 3) pl (nI r)) (ch + 8) b (nI (n - 1))
  have hM10 : M10 = zz_si (zz_si (zz_sl M (ch + 5) (6 * p + i % c) (zen h ql)) (ch + 3) pl (nI r)) (ch + 8) b (nI (n - 1)) := rfl
  have f10 : zFr (fun k i => ch + 1 ≤ k ∧ k ≤ ch + 9) M M10 := ((zFr.sl (by omega)).trans (zFr.si (by omega))).trans (zFr.si (by omega))
  have hc10 : zCh M10 ch c h (zupd E b (zdr (E b) i)) G := by
    refine ⟨fun x hx => ?_, fun x hx => ?_, fun x hx => ?_, fun x hx => ?_, fun s hs hn => ?_, fun x hx t s ht => ?_, fun x hx t q s ht hs => ?_⟩
    · by_cases hxb : x = b
      · subst hxb; rw [hM10, rd_eq, zupd_eq, hz]
      · rw [hM10, rd_ne (by omega), rd_ne (by omega), rd_sl1', zupd_ne hxb]; exact a1 x hx
    · rw [hM10, rd_ne (by omega), rd_ne (by omega), rd_sl1']; exact a2 x hx
    · rw [hM10, rd_ne (by omega), rd_ne (by omega), rd_sl1']; exact a3 x hx
    · rw [hM10, rd_ne (by omega), rd_ne (by omega), rd_sl1']; exact a4 x hx
    · rw [hM10, rd_ne (by omega), rd_ne (by omega), rd_sl1']; exact a5 s hs hn
    · obtain ⟨t1, t2, t3, t4⟩ := a6 x hx t s ht
      refine ⟨by rw [hM10, rd_ne (by omega), rd_ne (by omega), rd_sl1']; exact t1, by rw [hM10, rd_ne (by omega), rd_ne (by omega), rd_sl1']; exact t2, ?_, by rw [hM10, rd_ne (by omega), rd_ne (by omega), rd_sl1']; exact t4⟩
      rw [hM10, rd_ne (by omega)]
      by_cases hspl : s = pl
      · rw [hspl] at ht ⊢
        obtain ⟨e1, e2⟩ := hG.at ht gl
        subst e1; subst e2
        rw [rd_eq, zupd_eq, hz]
        congr 1
        unfold zfil
        omega
      · rw [rd_ne (by omega), rd_sl1', t3]
        by_cases hxb : x = b
        · subst hxb
          rw [zupd_eq, hz, hnd]
          have htl := (List.getElem?_eq_some_iff.mp ht).1
          have htj : t < j := by
            rcases Nat.lt_or_ge t j with hh | hh
            · exact hh
            · have : t = j := by omega
              rw [this, gl] at ht
              exact absurd (Option.some.inj ht).symm hspl
          have hm : c * (t + 1) ≤ c * j := Nat.mul_le_mul_left c htj
          rw [Nat.mul_add, Nat.mul_one] at hm
          congr 1
          unfold zfil
          omega
        · rw [zupd_ne hxb]
    · rw [hM10, rd_si2', rd_si2']
      have htm := Nat.mod_lt t (show c > 0 by omega)
      have htdm := Nat.div_add_mod t c
      by_cases hxb : x = b
      · subst hxb
        rw [zupd_eq] at ht
        have htl := (List.getElem?_eq_some_iff.mp ht).1
        rw [hz] at htl
        rw [hzg t htl] at ht
        by_cases hti : t = i
        · rw [if_pos hti, hlastE] at ht
          rw [hti, hp] at hs
          cases hs
          cases ht
          rw [hti, rd_sle]
        · rw [if_neg hti] at ht
          rw [rd_sln]
          · exact a7 x hx t q s ht hs
          · rintro ⟨-, hh⟩
            have hsp : s = p := by omega
            rw [hsp] at hs
            have hd := (hG.at hs hp).2
            rw [hd] at htdm
            omega
      · rw [zupd_ne hxb] at ht
        rw [rd_sln]
        · exact a7 x hx t q s ht hs
        · rintro ⟨-, hh⟩
          have hsp : s = p := by omega
          rw [hsp] at hs
          exact hxb (hG.at hs hp).1
  have hres : ∀ X, j_X0_fillFromLast_91 ch (nI (6 * p + i % c)) (nI pl) X = some (!decide (j = i / c), X) := by
    intro X
    unfold j_X0_fillFromLast_91
    have hd : (6 * p + i % c) / 6 = p := by rw [Nat.mul_add_div (by omega), Nat.div_eq_of_lt (by omega)]; omega
    rw [nIdiv (by omega) (by omega) (by omega), hd]
    by_cases hji : j = i / c
    · rw [← hji, gl] at hp
      cases hp
      rw [if_pos rfl, decide_eq_true hji]; rfl
    · have hpp : p ≠ pl := fun hh => hji (by rw [hh] at hp; exact (hG.at gl hp).2)
      rw [ifEq_f hpp (by omega) (by omega), decide_eq_false hji]; rfl
  have r9 : M10.1 (ch + 9) b = nI (j + 1) := by rw [hM10, rd_ne (by omega), rd_ne (by omega), rd_sl1']; exact h9
  have hun : f_X0_fillFromLast ch (nI b) (nI (6 * p + i % c)) M = if nI r = 0 then (if nI (j + 1) ≤ nI 1 then j_X0_fillFromLast_91 ch (nI (6 * p + i % c)) (nI pl) M10 else (f_X0_dropLastPage ch (nI b) M10).bind (fun M13 => j_X0_fillFromLast_91 ch (nI (6 * p + i % c)) (nI pl) M13)) else j_X0_fillFromLast_91 ch (nI (6 * p + i % c)) (nI pl) M10 := by
    unfold f_X0_fillFromLast
    have hlin : pl * 6 + (r + 1) - 1 = 6 * pl + r := by omega
    simp (disch := omega) only [zgd_in, nIc, h7, zbd, ifm1, hf3, ifE0_f, nImul, nIadd, nIsub, hlin, hV, rd_sl1', Nat.add_sub_cancel, rd_ne, h8, rd_eq, h9]
    rfl
  rw [hun]
  by_cases hr0 : r = 0
  · rw [ifE0_t hr0]
    by_cases hj0 : j = 0
    · rw [ifLe_t (by omega) (by omega), hres]
      refine ⟨M10, rfl, ?_, f10⟩
      rw [zupd_same (F := G) (b := b) (by rw [hpgs, if_pos hr0, List.take_of_length_le (by omega)])]
      exact hc10
    · rw [ifLe_f (by omega) (by omega)]
      obtain ⟨M13, d1, d2, d3⟩ := cDropLast hc10 hG hb (by omega)
      refine ⟨M13, by rw [d1, Option.bind_some, hres], ?_, f10.trans d3⟩
      rw [hL] at d2
      rw [hpgs, if_pos hr0, show max 1 j = j + 1 - 1 by omega]
      exact d2
  · rw [ifE0_f (by omega) (by omega), hres]
    refine ⟨M10, rfl, ?_, f10⟩
    rw [zupd_same (F := G) (b := b) (by rw [hpgs, if_neg hr0, List.take_of_length_le (by omega)])]
    exact hc10
end CD
section CDK
variable {N : Nat} {A : zzA}
theorem zjdu_c {M : zzMem} {o : Nat} {B : zzA} {v : Int32} (hW : zWF N B) (h : zRC M o B) : ∃ M', (if (M.1 o 7) = 0 then some (v, M) else ((f_X2_load o M).bind (fun r5 => if (M.1 o 6) ≤ r5 then some (v, M) else ((f_X2_unite o M).bind (fun q7 => zpr q7 (fun r8 M9 => some (v, M9))))))) = some (v, M') ∧ zRC M' o (if zjdu B = true then zjoj B else B) ∧ zFr (zcpS o) M M' := by
  have hpo : zA_po B ≤ 2 := hW.1.2.2.2.2.2.2.2.1
  have c7 := h.1.2.2.2.1
  have c6 := h.1.2.2.1
  have hdn : zA_dn B ≤ 49 := hW.1.2.2.2.2.2.2.1
  have hld : zlod B < 2147483648 := by
    unfold zlod
    have := hW.2.2.2.2.2.2.2.2.1.1
    exact Nat.lt_of_le_of_lt (Nat.div_le_self _ _) (by omega)
  rw [c7, c6, cLoad hW h]
  unfold zjdu
  by_cases h0 : zA_po B = 0
  · rw [ifE0_t h0]
    exact ⟨M, rfl, by simp [h0]; exact h, zFr.refl M⟩
  · rw [ifE0_f (by omega) (by omega), Option.bind_some]
    by_cases hu : zlod B < zA_dn B
    · rw [if_neg (show ¬ nI (zA_dn B) ≤ nI (100 * (zA_S B).length / (zA_B B * zA_c B)) from nI_ge hu (by omega))]
      unfold zjoj
      by_cases hB : zA_n B < zA_B B
      · obtain ⟨M', e1, e2, e3⟩ := cUnite hW h hB
        exact ⟨M', by rw [e1]; rfl, by simp [h0, hu, hB]; exact e2, e3⟩
      · exact ⟨M, by rw [cUniteN hW h hB]; rfl, by simp [h0, hu, hB]; exact h, zFr.refl M⟩
    · rw [if_pos (show nI (zA_dn B) ≤ nI (100 * (zA_S B).length / (zA_B B * zA_c B)) from nI_le (by unfold zlod at hu; omega) hld)]
      exact ⟨M, rfl, by simp [h0, hu]; exact h, zFr.refl M⟩
set_option maxHeartbeats 4000000 in
theorem cDropK {M : zzMem} {o k : Nat} (hW : zWF N A) (h : zRC M o A) (hk : k < 65536) : ∃ M', f_X2_remove o (nI k) M = some ((zdrp A k).1, M') ∧ zRC M' o (zdrp A k).2 ∧ zFr (zcpS o) M M' := by
  have hb : zA_a A k < 64 := by have := hW.adr k; have := hW.sB; omega
  have hc := hW.c2
  have hS3 := hW.2.2.2.2.2.2.2.2.1.1
  obtain ⟨M3, e1, e2⟩ := cHash (o := o + 1) h.2.1 hW.hok hk
  have h3 : zRC M3 o A := h.frS e2 (by intro k i; omega)
  have f3 : zFr (zcpS o) M M3 := e2.weak (fun k i h => by unfold zcpS; omega)
  have hh := zhs_lt hk hW.hok.1
  have ha : f_X2_addressOf o (nI (zhs (zA_law A) k)) M3 = some (nI (zA_a A k)) := cAdr hW h3.1 hk
  have c10 : M3.1 o 10 = zA_rd A := h3.1.2.2.2.2.2.2.1
  have n13 : M3.1 (o + 13) (zA_a A k) = nI (zA_G A (zA_a A k)).length := h3.2.2.1.2.1 _ hb
  have h7 := h3.rdc (r := zA_rd A + nI (zA_G A (zA_a A k)).length)
  have f7 : zFr (fun a j => a = o ∧ j = 10) M3 (zz_si M3 o 10 (zA_rd A + nI (zA_G A (zA_a A k)).length)) := zFr.si ⟨rfl, rfl⟩
  generalize hM7 : zz_si M3 o 10 (zA_rd A + nI (zA_G A (zA_a A k)).length) = M7 at h7 f7
  have h7c : zCh M7 (o + 4) (zA_c A) (zA_h A) (zA_E A) (zA_G A) := h7.2.2.1
  unfold f_X2_remove zdrp
  rw [e1, Option.bind_some]
  simp only [zpr]
  rw [ha, Option.bind_some]
  rcases cSlot hW h3.2.2.1 hb hk with ⟨z1, z2⟩ | ⟨i, v, p, z1, z2, z3, z4, z5, z6⟩
  · rw [z1, z2]
    refine ⟨M7, ?_, h7, f3.trans (f7.weak (fun k i h => by unfold zcpS; omega))⟩
    simp (disch := omega) only [Option.bind_some, zgd_in, nIc, n13, c10, zbd_eq, hM7, if_true]
  · rw [z1, z6]
    have hil := (List.getElem?_eq_some_iff.mp z2).1
    have hs := h7c.2.2.2.2.2.2 _ hb i _ p z2 z3
    obtain ⟨q1, q2, q3⟩ := hW.ent _ _ (List.mem_of_getElem? z2)
    have hval : f_X1_valueOf (M7.2 (o + 9) (6 * p + i % zA_c A)) = nI v := by rw [show o + 9 = o + 4 + 5 by omega, hs, zen_val q1 q2 q3]
    obtain ⟨M13, t1, t2, t3⟩ := cFillLast h7c hW.pk hc.1 hc.2 hb hil z3
    have c11 : M7.1 o 11 = zA_wr A := h7.1.2.2.2.2.2.2.2.1
    have hkS : k ∈ zA_S A := (hW.2.2.2.2.2.2.2.2.1.2.2 k).mpr ⟨_, v, List.mem_of_getElem? z2⟩
    let w : Int32 := zA_wr A + (if ((zA_E A (zA_a A k)).length - 1) / zA_c A = i / zA_c A then nI 1 else nI 2)
    have fw : zFr (fun a j => a = o ∧ j = 11) M13 (zz_si M13 o 11 w) := zFr.si ⟨rfl, rfl⟩
    have hor : zOr (zz_si M13 o 11 w) (o + 15) (zA_cd A) (zA_S A) := (h7.2.2.2.1.frS t3 (by omega) (by intro i; omega)).frS fw (by omega) (by intro i; omega)
    obtain ⟨M2, i1, i2, i3⟩ := cRemove hor hW.pw hS3 hW.cds hkS
    have fI : zFr (fun a j => (a = o ∧ (j = 10 ∨ j = 11)) ∨ (o + 5 ≤ a ∧ a ≤ o + 13) ∨ (a = o + 15 ∧ j = 1) ∨ a = o + 16) M3 M2 := ((f7.weak (fun k i h => by omega)).trans (t3.weak (fun k i h => by omega))).trans ((fw.weak (fun k i h => by omega)).trans (i3.weak (fun k i h => by omega)))
    have hRC : zRC M2 o (zdrN A k i) := by
      refine ⟨⟨?_, ?_, ?_, ?_, ?_, ?_, ?_, ?_, ?_, ?_, ?_, ?_⟩, h3.2.1.frS fI (by omega) (by intro i; omega), ?_, i2, h3.2.2.2.2.frS fI (by intro i; omega) (by intro i; omega)⟩
      · rw [(fI _ _ (by omega)).1]; exact h3.1.1
      · rw [(fI _ _ (by omega)).1]; exact h3.1.2.1
      · rw [(fI _ _ (by omega)).1]; exact h3.1.2.2.1
      · rw [(fI _ _ (by omega)).1]; exact h3.1.2.2.2.1
      · rw [(fI _ _ (by omega)).1]; exact h3.1.2.2.2.2.1
      · rw [(fI _ _ (by omega)).1]; exact h3.1.2.2.2.2.2.1
      · rw [(i3 _ _ (by omega)).1, rd_ne (by omega), (t3 _ _ (by omega)).1]; exact h7.1.2.2.2.2.2.2.1
      · rw [(i3 _ _ (by omega)).1, rd_eq]; rfl
      · rw [(fI _ _ (by omega)).1]; exact h3.1.2.2.2.2.2.2.2.2.1
      · rw [(fI _ _ (by omega)).1]; exact h3.1.2.2.2.2.2.2.2.2.2.1
      · rw [(fI _ _ (by omega)).1]; exact h3.1.2.2.2.2.2.2.2.2.2.2.1
      · rw [(fI _ _ (by omega)).1]; exact h3.1.2.2.2.2.2.2.2.2.2.2.2
      · exact (t2.frS fw (by intro k i; omega)).frS i3 (by intro k i; omega)
    obtain ⟨M', d1, d2, d3⟩ := zjdu_c (v := nI v) (zdrN_wf hW z2) hRC
    refine ⟨M', ?_, d2, (f3.trans (fI.weak (fun k i h => by unfold zcpS; omega))).trans d3⟩
    simp (disch := omega) only [Option.bind_some, zgd_in, nIc, n13, c10, zbd_eq, hM7, ifm1, hval]
    rw [t1, Option.bind_some]
    simp only [zpr]
    have hcode : f_X5_codeOf (nI k) (nI (zhs (zA_law A) k)) ((zz_si M13 o 11 w).1 o 4) = some (lN (zA_cd A k)) := by
      rw [(fw _ _ (by omega)).1, (t3 _ _ (by omega)).1, h7.1.1]; exact cCode hk hh hW.1.1 hW.1.2.1
    unfold j_X2_remove_91
    by_cases hd : ((zA_E A (zA_a A k)).length - 1) / zA_c A = i / zA_c A
    · have hw : w = zA_wr A + nI 1 := by simp only [w]; rw [if_pos hd]
      rw [hw] at hcode i1
      rw [decide_eq_true hd, if_neg (by decide), c11]
      simp only [zbd_eq]
      rw [hcode, Option.bind_some, i1, Option.bind_some]
      exact d1
    · have hw : w = zA_wr A + nI 2 := by simp only [w]; rw [if_neg hd]
      rw [hw] at hcode i1
      rw [decide_eq_false hd, if_pos (by decide), c11]
      simp only [zbd_eq]
      rw [hcode, Option.bind_some, i1, Option.bind_some]
      exact d1
end CDK
