noncomputable def lc_0 (G : zzG) (v3 : Int32) (M : zzMem) : Option ((Int32 × zzMem) ⊕ (Bool × zzMem)) :=
  (zgd (vp_in (v3 + (nI 1)) (zG_L G)) (
  zgd (vp_in (v3 + (nI 2)) (zG_L G)) (
  zgd (vp_in (v3 + (nI 3)) (zG_L G)) (
  zgd (vp_in (v3 + (nI 4)) (zG_L G)) (
  zgd (vp_in (v3 + (nI 5)) (zG_L G)) (
  (f_X9_feed (zG_xs G ((v3 + (nI 1))).toNatClampNeg) (zG_xs G ((v3 + (nI 2))).toNatClampNeg) (zG_xs G ((v3 + (nI 3))).toNatClampNeg) (zG_xs G ((v3 + (nI 4))).toNatClampNeg) (zG_xs G ((v3 + (nI 5))).toNatClampNeg) M).bind (fun q9 => zpr q9 (fun r10 M11 =>
  (f_X10_feed (zG_xs G ((v3 + (nI 1))).toNatClampNeg) (zG_xs G ((v3 + (nI 2))).toNatClampNeg) (zG_xs G ((v3 + (nI 3))).toNatClampNeg) (zG_xs G ((v3 + (nI 4))).toNatClampNeg) (zG_xs G ((v3 + (nI 5))).toNatClampNeg) M11).bind (fun q12 => zpr q12 (fun r13 M14 =>
  if r10 = r13 then
  (zbd (v3 + (nI 6)) (fun x16 =>
  some (.inl (x16, M14))))
  else (some ((.inr (false, M14))))))))))))))
noncomputable def lc_1 (G : zzG) (v3 : Int32) (M : zzMem) : Option ((Int32 × zzMem) ⊕ (Bool × zzMem)) :=
  (zgd (vp_in (v3 + (nI 1)) (zG_L G)) (
  zgd (vp_in (v3 + (nI 2)) (zG_L G)) (
  zgd (vp_in (v3 + (nI 3)) (zG_L G)) (
  zgd (vp_in (v3 + (nI 4)) (zG_L G)) (
  zgd (vp_in (v3 + (nI 5)) (zG_L G)) (
  (f_X9_shape (zG_xs G ((v3 + (nI 1))).toNatClampNeg) (zG_xs G ((v3 + (nI 2))).toNatClampNeg) (zG_xs G ((v3 + (nI 3))).toNatClampNeg) (zG_xs G ((v3 + (nI 4))).toNatClampNeg) (zG_xs G ((v3 + (nI 5))).toNatClampNeg) M).bind (fun q23 => zpr q23 (fun r24 M25 =>
  (f_X10_shape (zG_xs G ((v3 + (nI 1))).toNatClampNeg) (zG_xs G ((v3 + (nI 2))).toNatClampNeg) (zG_xs G ((v3 + (nI 3))).toNatClampNeg) (zG_xs G ((v3 + (nI 4))).toNatClampNeg) (zG_xs G ((v3 + (nI 5))).toNatClampNeg) M25).bind (fun q26 => zpr q26 (fun r27 M28 =>
  if (zb r24) = (zb r27) then
  (zbd (v3 + (nI 6)) (fun x30 =>
  some (.inl (x30, M28))))
  else (some ((.inr (false, M28))))))))))))))
noncomputable def lc_2 (G : zzG) (v3 : Int32) (M : zzMem) : Option ((Int32 × zzMem) ⊕ (Bool × zzMem)) :=
  (zgd (vp_in (v3 + (nI 1)) (zG_L G)) (
  (f_X9_law (zG_xs G ((v3 + (nI 1))).toNatClampNeg) M).bind (fun q33 => zpr q33 (fun r34 M35 =>
  (f_X10_law (zG_xs G ((v3 + (nI 1))).toNatClampNeg) M35).bind (fun q36 => zpr q36 (fun r37 M38 =>
  if r34 = r37 then
  (zbd (v3 + (nI 6)) (fun x40 =>
  some (.inl (x40, M38))))
  else (some ((.inr (false, M38))))))))))
noncomputable def lc_3 (G : zzG) (v3 : Int32) (M : zzMem) : Option ((Int32 × zzMem) ⊕ (Bool × zzMem)) :=
  (zgd (vp_in (v3 + (nI 1)) (zG_L G)) (
  (f_X9_work (zG_xs G ((v3 + (nI 1))).toNatClampNeg) M).bind (fun q43 => zpr q43 (fun r44 M45 =>
  (f_X10_work (zG_xs G ((v3 + (nI 1))).toNatClampNeg) M45).bind (fun q46 => zpr q46 (fun r47 M48 =>
  if r44 = r47 then
  (zbd (v3 + (nI 6)) (fun x50 =>
  some (.inl (x50, M48))))
  else (some ((.inr (false, M48))))))))))
noncomputable def lc_4 (G : zzG) (v3 : Int32) (M : zzMem) : Option ((Int32 × zzMem) ⊕ (Bool × zzMem)) :=
  (zgd (vp_in (v3 + (nI 1)) (zG_L G)) (
  zgd (vp_in (v3 + (nI 2)) (zG_L G)) (
  (f_X9_put (zG_xs G ((v3 + (nI 1))).toNatClampNeg) (zG_xs G ((v3 + (nI 2))).toNatClampNeg) M).bind (fun q54 => zpr q54 (fun r55 M56 =>
  (f_X10_put (zG_xs G ((v3 + (nI 1))).toNatClampNeg) (zG_xs G ((v3 + (nI 2))).toNatClampNeg) M56).bind (fun q57 => zpr q57 (fun r58 M59 =>
  if r55 = r58 then
  (zbd (v3 + (nI 6)) (fun x61 =>
  some (.inl (x61, M59))))
  else (some ((.inr (false, M59)))))))))))
noncomputable def lc_5 (G : zzG) (v3 : Int32) (M : zzMem) : Option ((Int32 × zzMem) ⊕ (Bool × zzMem)) :=
  (zgd (vp_in (v3 + (nI 1)) (zG_L G)) (
  (f_X9_find (zG_xs G ((v3 + (nI 1))).toNatClampNeg) M).bind (fun q64 => zpr q64 (fun r65 M66 =>
  (f_X10_find (zG_xs G ((v3 + (nI 1))).toNatClampNeg) M66).bind (fun q67 => zpr q67 (fun r68 M69 =>
  if r65 = r68 then
  (zbd (v3 + (nI 6)) (fun x71 =>
  some (.inl (x71, M69))))
  else (some ((.inr (false, M69))))))))))
noncomputable def lc_6 (G : zzG) (v3 : Int32) (M : zzMem) : Option ((Int32 × zzMem) ⊕ (Bool × zzMem)) :=
  (zgd (vp_in (v3 + (nI 1)) (zG_L G)) (
  (f_X9_drop (zG_xs G ((v3 + (nI 1))).toNatClampNeg) M).bind (fun q74 => zpr q74 (fun r75 M76 =>
  (f_X10_drop (zG_xs G ((v3 + (nI 1))).toNatClampNeg) M76).bind (fun q77 => zpr q77 (fun r78 M79 =>
  if r75 = r78 then
  (zbd (v3 + (nI 6)) (fun x81 =>
  some (.inl (x81, M79))))
  else (some ((.inr (false, M79))))))))))
noncomputable def lc_7 (G : zzG) (v3 : Int32) (M : zzMem) : Option ((Int32 × zzMem) ⊕ (Bool × zzMem)) :=
  ((f_X9_split M).bind (fun q83 => zpr q83 (fun r84 M85 =>
  (f_X10_split M85).bind (fun q86 => zpr q86 (fun r87 M88 =>
  if r84 = r87 then
  (zbd (v3 + (nI 6)) (fun x90 =>
  some (.inl (x90, M88))))
  else (some ((.inr (false, M88)))))))))
noncomputable def lc_8 (G : zzG) (v3 : Int32) (M : zzMem) : Option ((Int32 × zzMem) ⊕ (Bool × zzMem)) :=
  ((f_X9_join M).bind (fun q92 => zpr q92 (fun r93 M94 =>
  (f_X10_join M94).bind (fun q95 => zpr q95 (fun r96 M97 =>
  if r93 = r96 then
  (zbd (v3 + (nI 6)) (fun x99 =>
  some (.inl (x99, M97))))
  else (some ((.inr (false, M97)))))))))
noncomputable def lc_9 (G : zzG) (v3 : Int32) (M : zzMem) : Option ((Int32 × zzMem) ⊕ (Bool × zzMem)) :=
  (zgd (vp_in (v3 + (nI 1)) (zG_L G)) (
  (f_X9_fileIs (zG_xs G ((v3 + (nI 1))).toNatClampNeg) M).bind (fun r102 =>
  (f_X10_fileIs (zG_xs G ((v3 + (nI 1))).toNatClampNeg) M).bind (fun r103 =>
  if r102 = r103 then
  (zbd (v3 + (nI 6)) (fun x105 =>
  some (.inl (x105, M))))
  else (some ((.inr (false, M))))))))
noncomputable def lc_10 (G : zzG) (v3 : Int32) (M : zzMem) : Option ((Int32 × zzMem) ⊕ (Bool × zzMem)) :=
  (zgd (vp_in (v3 + (nI 1)) (zG_L G)) (
  zgd (vp_in (v3 + (nI 2)) (zG_L G)) (
  (f_X9_keyIs (zG_xs G ((v3 + (nI 1))).toNatClampNeg) (zG_xs G ((v3 + (nI 2))).toNatClampNeg) M).bind (fun q109 => zpr q109 (fun r110 M111 =>
  (f_X10_keyIs (zG_xs G ((v3 + (nI 1))).toNatClampNeg) (zG_xs G ((v3 + (nI 2))).toNatClampNeg) M111).bind (fun q112 => zpr q112 (fun r113 M114 =>
  if r110 = r113 then
  (zbd (v3 + (nI 6)) (fun x116 =>
  some (.inl (x116, M114))))
  else (some ((.inr (false, M114)))))))))))
noncomputable def lc_11 (G : zzG) (v3 : Int32) (M : zzMem) : Option ((Int32 × zzMem) ⊕ (Bool × zzMem)) :=
  (zgd (vp_in (v3 + (nI 1)) (zG_L G)) (
  zgd (vp_in (v3 + (nI 2)) (zG_L G)) (
  (f_X9_where (zG_xs G ((v3 + (nI 1))).toNatClampNeg) (zG_xs G ((v3 + (nI 2))).toNatClampNeg) M).bind (fun q120 => zpr q120 (fun r121 M122 =>
  (f_X10_where (zG_xs G ((v3 + (nI 1))).toNatClampNeg) (zG_xs G ((v3 + (nI 2))).toNatClampNeg) M122).bind (fun q123 => zpr q123 (fun r124 M125 =>
  if r121 = r124 then
  (zbd (v3 + (nI 6)) (fun x127 =>
  some (.inl (x127, M125))))
  else (some ((.inr (false, M125)))))))))))
noncomputable def lc_12 (G : zzG) (v3 : Int32) (M : zzMem) : Option ((Int32 × zzMem) ⊕ (Bool × zzMem)) :=
  (zgd (vp_in (v3 + (nI 1)) (zG_L G)) (
  zgd (vp_in (v3 + (nI 2)) (zG_L G)) (
  (f_X9_bucket (zG_xs G ((v3 + (nI 1))).toNatClampNeg) (zG_xs G ((v3 + (nI 2))).toNatClampNeg) M).bind (fun r131 =>
  (f_X10_bucket (zG_xs G ((v3 + (nI 1))).toNatClampNeg) (zG_xs G ((v3 + (nI 2))).toNatClampNeg) M).bind (fun r132 =>
  if r131 = r132 then
  (zbd (v3 + (nI 6)) (fun x134 =>
  some (.inl (x134, M))))
  else (some ((.inr (false, M)))))))))
noncomputable def lc_13 (G : zzG) (v3 : Int32) (M : zzMem) : Option ((Int32 × zzMem) ⊕ (Bool × zzMem)) :=
  (zgd (vp_in (v3 + (nI 1)) (zG_L G)) (
  zgd (vp_in (v3 + (nI 2)) (zG_L G)) (
  (f_X9_page (zG_xs G ((v3 + (nI 1))).toNatClampNeg) (zG_xs G ((v3 + (nI 2))).toNatClampNeg) M).bind (fun r138 =>
  (f_X10_page (zG_xs G ((v3 + (nI 1))).toNatClampNeg) (zG_xs G ((v3 + (nI 2))).toNatClampNeg) M).bind (fun r139 =>
  if r138 = r139 then
  (zbd (v3 + (nI 6)) (fun x141 =>
  some (.inl (x141, M))))
  else (some ((.inr (false, M)))))))))
noncomputable def lc_14 (G : zzG) (v3 : Int32) (M : zzMem) : Option ((Int32 × zzMem) ⊕ (Bool × zzMem)) :=
  (zgd (vp_in (v3 + (nI 1)) (zG_L G)) (
  (f_X9_chains (zG_xs G ((v3 + (nI 1))).toNatClampNeg) M).bind (fun r144 =>
  (f_X10_chains (zG_xs G ((v3 + (nI 1))).toNatClampNeg) M).bind (fun r145 =>
  if r144 = r145 then
  (zbd (v3 + (nI 6)) (fun x147 =>
  some (.inl (x147, M))))
  else (some ((.inr (false, M))))))))
noncomputable def lc_15 (G : zzG) (v3 : Int32) (M : zzMem) : Option ((Int32 × zzMem) ⊕ (Bool × zzMem)) :=
  (zgd (vp_in (v3 + (nI 1)) (zG_L G)) (
  (f_X9_finds (zG_xs G ((v3 + (nI 1))).toNatClampNeg) M).bind (fun r150 =>
  (f_X10_finds (zG_xs G ((v3 + (nI 1))).toNatClampNeg) M).bind (fun r151 =>
  if r150 = r151 then
  (zbd (v3 + (nI 6)) (fun x153 =>
  some (.inl (x153, M))))
  else (some ((.inr (false, M))))))))
noncomputable def lc_16 (G : zzG) (v3 : Int32) (M : zzMem) : Option ((Int32 × zzMem) ⊕ (Bool × zzMem)) :=
  (zgd (vp_in (v3 + (nI 1)) (zG_L G)) (
  (f_X9_next (zG_xs G ((v3 + (nI 1))).toNatClampNeg) M).bind (fun q156 => zpr q156 (fun r157 M158 =>
  (f_X10_next (zG_xs G ((v3 + (nI 1))).toNatClampNeg) M158).bind (fun q159 => zpr q159 (fun r160 M161 =>
  if r157 = r160 then
  (zbd (v3 + (nI 6)) (fun x163 =>
  some (.inl (x163, M161))))
  else (some ((.inr (false, M161))))))))))
noncomputable def lc_17 (G : zzG) (v3 : Int32) (M : zzMem) : Option ((Int32 × zzMem) ⊕ (Bool × zzMem)) :=
  (zgd (vp_in (v3 + (nI 1)) (zG_L G)) (
  zgd (vp_in (v3 + (nI 2)) (zG_L G)) (
  (f_X9_parted (zG_xs G ((v3 + (nI 1))).toNatClampNeg) (zG_xs G ((v3 + (nI 2))).toNatClampNeg) M).bind (fun q167 => zpr q167 (fun r168 M169 =>
  (f_X10_parted (zG_xs G ((v3 + (nI 1))).toNatClampNeg) (zG_xs G ((v3 + (nI 2))).toNatClampNeg) M169).bind (fun q170 => zpr q170 (fun r171 M172 =>
  if r168 = r171 then
  (zbd (v3 + (nI 6)) (fun x174 =>
  some (.inl (x174, M172))))
  else (some ((.inr (false, M172)))))))))))
noncomputable def lc_18 (G : zzG) (v3 : Int32) (M : zzMem) : Option ((Int32 × zzMem) ⊕ (Bool × zzMem)) :=
  (zgd (vp_in (v3 + (nI 1)) (zG_L G)) (
  (f_X9_enough (zG_xs G ((v3 + (nI 1))).toNatClampNeg) M).bind (fun q177 => zpr q177 (fun r178 M179 =>
  (f_X10_enough (zG_xs G ((v3 + (nI 1))).toNatClampNeg) M179).bind (fun q180 => zpr q180 (fun r181 M182 =>
  if r178 = r181 then
  (zbd (v3 + (nI 6)) (fun x184 =>
  some (.inl (x184, M182))))
  else (some ((.inr (false, M182))))))))))
noncomputable def lc_19 (G : zzG) (v3 : Int32) (M : zzMem) : Option ((Int32 × zzMem) ⊕ (Bool × zzMem)) :=
  (zgd (vp_in (v3 + (nI 1)) (zG_L G)) (
  zgd (vp_in (v3 + (nI 2)) (zG_L G)) (
  (f_X9_anew (zG_xs G ((v3 + (nI 1))).toNatClampNeg) (zG_xs G ((v3 + (nI 2))).toNatClampNeg) M).bind (fun q188 => zpr q188 (fun r189 M190 =>
  (f_X10_anew (zG_xs G ((v3 + (nI 1))).toNatClampNeg) (zG_xs G ((v3 + (nI 2))).toNatClampNeg) M190).bind (fun q191 => zpr q191 (fun r192 M193 =>
  if r189 = r192 then
  (zbd (v3 + (nI 6)) (fun x195 =>
  some (.inl (x195, M193))))
  else (some ((.inr (false, M193)))))))))))
noncomputable def lc_20 (G : zzG) (v3 : Int32) (M : zzMem) : Option ((Int32 × zzMem) ⊕ (Bool × zzMem)) :=
  (zgd (vp_in (v3 + (nI 1)) (zG_L G)) (
  zgd (vp_in (v3 + (nI 2)) (zG_L G)) (
  zgd (vp_in (v3 + (nI 3)) (zG_L G)) (
  (f_X9_torn (zG_xs G ((v3 + (nI 1))).toNatClampNeg) (zG_xs G ((v3 + (nI 2))).toNatClampNeg) (zG_xs G ((v3 + (nI 3))).toNatClampNeg) M).bind (fun q200 => zpr q200 (fun r201 M202 =>
  (f_X10_torn (zG_xs G ((v3 + (nI 1))).toNatClampNeg) (zG_xs G ((v3 + (nI 2))).toNatClampNeg) (zG_xs G ((v3 + (nI 3))).toNatClampNeg) M202).bind (fun q203 => zpr q203 (fun r204 M205 =>
  if r201 = r204 then
  (zbd (v3 + (nI 6)) (fun x207 =>
  some (.inl (x207, M205))))
  else (some ((.inr (false, M205))))))))))))
noncomputable def lc_21 (G : zzG) (v3 : Int32) (M : zzMem) : Option ((Int32 × zzMem) ⊕ (Bool × zzMem)) :=
  (zgd (vp_in (v3 + (nI 1)) (zG_L G)) (
  zgd (vp_in (v3 + (nI 2)) (zG_L G)) (
  (f_X9_grown (zG_xs G ((v3 + (nI 1))).toNatClampNeg) (zG_xs G ((v3 + (nI 2))).toNatClampNeg) M).bind (fun q211 => zpr q211 (fun r212 M213 =>
  (f_X10_grown (zG_xs G ((v3 + (nI 1))).toNatClampNeg) (zG_xs G ((v3 + (nI 2))).toNatClampNeg) M213).bind (fun q214 => zpr q214 (fun r215 M216 =>
  if r212 = r215 then
  (zbd (v3 + (nI 6)) (fun x218 =>
  some (.inl (x218, M216))))
  else (some ((.inr (false, M216)))))))))))
noncomputable def lc_22 (G : zzG) (v3 : Int32) (M : zzMem) : Option ((Int32 × zzMem) ⊕ (Bool × zzMem)) :=
  (zgd (vp_in (v3 + (nI 1)) (zG_L G)) (
  (f_X9_tuned (zG_xs G ((v3 + (nI 1))).toNatClampNeg) M).bind (fun q221 => zpr q221 (fun r222 M223 =>
  (f_X10_tuned (zG_xs G ((v3 + (nI 1))).toNatClampNeg) M223).bind (fun q224 => zpr q224 (fun r225 M226 =>
  if r222 = r225 then
  (zbd (v3 + (nI 6)) (fun x228 =>
  some (.inl (x228, M226))))
  else (some ((.inr (false, M226))))))))))
noncomputable def lc_23 (G : zzG) (v3 : Int32) (M : zzMem) : Option ((Int32 × zzMem) ⊕ (Bool × zzMem)) :=
  (zgd (vp_in (v3 + (nI 1)) (zG_L G)) (
  (f_X9_signs (zG_xs G ((v3 + (nI 1))).toNatClampNeg) M).bind (fun q231 => zpr q231 (fun r232 M233 =>
  (f_X10_signs (zG_xs G ((v3 + (nI 1))).toNatClampNeg) M233).bind (fun q234 => zpr q234 (fun r235 M236 =>
  if r232 = r235 then
  (zbd (v3 + (nI 6)) (fun x238 =>
  some (.inl (x238, M236))))
  else (some ((.inr (false, M236))))))))))
noncomputable def lc_24 (G : zzG) (v3 : Int32) (M : zzMem) : Option ((Int32 × zzMem) ⊕ (Bool × zzMem)) :=
  (zgd (vp_in (v3 + (nI 1)) (zG_L G)) (
  (f_X9_passed (zG_xs G ((v3 + (nI 1))).toNatClampNeg) M).bind (fun q241 => zpr q241 (fun r242 M243 =>
  (f_X10_passed (zG_xs G ((v3 + (nI 1))).toNatClampNeg) M243).bind (fun q244 => zpr q244 (fun r245 M246 =>
  if r242 = r245 then
  (zbd (v3 + (nI 6)) (fun x248 =>
  some (.inl (x248, M246))))
  else (some ((.inr (false, M246))))))))))
noncomputable def lc_25 (G : zzG) (v3 : Int32) (M : zzMem) : Option ((Int32 × zzMem) ⊕ (Bool × zzMem)) :=
  (zgd (vp_in (v3 + (nI 1)) (zG_L G)) (
  (f_X9_costing (zG_xs G ((v3 + (nI 1))).toNatClampNeg) M).bind (fun r251 =>
  (f_X10_costing (zG_xs G ((v3 + (nI 1))).toNatClampNeg) M).bind (fun r252 =>
  if r251 = r252 then
  (zbd (v3 + (nI 6)) (fun x254 =>
  some (.inl (x254, M))))
  else (some ((.inr (false, M))))))))
noncomputable def lc_26 (G : zzG) (v3 : Int32) (M : zzMem) : Option ((Int32 × zzMem) ⊕ (Bool × zzMem)) :=
  (zgd (vp_in (v3 + (nI 1)) (zG_L G)) (
  (f_X9_since (zG_xs G ((v3 + (nI 1))).toNatClampNeg) M).bind (fun q257 => zpr q257 (fun r258 M259 =>
  (f_X10_since (zG_xs G ((v3 + (nI 1))).toNatClampNeg) M259).bind (fun q260 => zpr q260 (fun r261 M262 =>
  if r258 = r261 then
  (zbd (v3 + (nI 6)) (fun x264 =>
  some (.inl (x264, M262))))
  else (some ((.inr (false, M262))))))))))
noncomputable def lc_27 (G : zzG) (v3 : Int32) (M : zzMem) : Option ((Int32 × zzMem) ⊕ (Bool × zzMem)) :=
  (zgd (vp_in (v3 + (nI 1)) (zG_L G)) (
  (f_X9_alike (zG_xs G ((v3 + (nI 1))).toNatClampNeg) M).bind (fun r267 =>
  (f_X10_alike (zG_xs G ((v3 + (nI 1))).toNatClampNeg) M).bind (fun q268 => zpr q268 (fun r269 M270 =>
  if r267 = r269 then
  (zbd (v3 + (nI 6)) (fun x272 =>
  some (.inl (x272, M270))))
  else (some ((.inr (false, M270)))))))))
noncomputable def lc_28 (G : zzG) (v3 : Int32) (M : zzMem) : Option ((Int32 × zzMem) ⊕ (Bool × zzMem)) :=
  (zgd (vp_in (v3 + (nI 1)) (zG_L G)) (
  (f_X9_inOrder (zG_xs G ((v3 + (nI 1))).toNatClampNeg) M).bind (fun r275 =>
  (f_X10_inOrder (zG_xs G ((v3 + (nI 1))).toNatClampNeg) M).bind (fun q276 => zpr q276 (fun r277 M278 =>
  if r275 = r277 then
  (zbd (v3 + (nI 6)) (fun x280 =>
  some (.inl (x280, M278))))
  else (some ((.inr (false, M278)))))))))
noncomputable def lc_29 (G : zzG) (v3 : Int32) (M : zzMem) : Option ((Int32 × zzMem) ⊕ (Bool × zzMem)) :=
  (zgd (vp_in (v3 + (nI 1)) (zG_L G)) (
  zgd (vp_in (v3 + (nI 2)) (zG_L G)) (
  (f_X9_between (zG_xs G ((v3 + (nI 1))).toNatClampNeg) (zG_xs G ((v3 + (nI 2))).toNatClampNeg) M).bind (fun r284 =>
  (f_X10_between (zG_xs G ((v3 + (nI 1))).toNatClampNeg) (zG_xs G ((v3 + (nI 2))).toNatClampNeg) M).bind (fun r285 =>
  if r284 = r285 then
  (zbd (v3 + (nI 6)) (fun x287 =>
  some (.inl (x287, M))))
  else (some ((.inr (false, M)))))))))
noncomputable def lc_30 (G : zzG) (v3 : Int32) (M : zzMem) : Option ((Int32 × zzMem) ⊕ (Bool × zzMem)) :=
  (zgd (vp_in (v3 + (nI 1)) (zG_L G)) (
  zgd (vp_in (v3 + (nI 2)) (zG_L G)) (
  zgd (vp_in (v3 + (nI 3)) (zG_L G)) (
  (f_X9_bits (zG_xs G ((v3 + (nI 1))).toNatClampNeg) (zG_xs G ((v3 + (nI 2))).toNatClampNeg) (zG_xs G ((v3 + (nI 3))).toNatClampNeg) M).bind (fun q292 => zpr q292 (fun r293 M294 =>
  (f_X10_bits (zG_xs G ((v3 + (nI 1))).toNatClampNeg) (zG_xs G ((v3 + (nI 2))).toNatClampNeg) (zG_xs G ((v3 + (nI 3))).toNatClampNeg) M294).bind (fun q295 => zpr q295 (fun r296 M297 =>
  if r293 = r296 then
  (zbd (v3 + (nI 6)) (fun x299 =>
  some (.inl (x299, M297))))
  else (some ((.inr (false, M297))))))))))))
noncomputable def lc_31 (G : zzG) (v3 : Int32) (M : zzMem) : Option ((Int32 × zzMem) ⊕ (Bool × zzMem)) :=
  ((f_X9_scan M).bind (fun q301 => zpr q301 (fun r302 M303 =>
  (f_X10_scan M303).bind (fun q304 => zpr q304 (fun r305 M306 =>
  if r302 = r305 then
  (zbd (v3 + (nI 6)) (fun x308 =>
  some (.inl (x308, M306))))
  else (some ((.inr (false, M306)))))))))
noncomputable def lc_32 (G : zzG) (v3 : Int32) (M : zzMem) : Option ((Int32 × zzMem) ⊕ (Bool × zzMem)) :=
  (zgd (vp_in (v3 + (nI 1)) (zG_L G)) (
  (f_X9_tell (zG_xs G ((v3 + (nI 1))).toNatClampNeg) M).bind (fun q311 => zpr q311 (fun r312 M313 =>
  (f_X10_tell (zG_xs G ((v3 + (nI 1))).toNatClampNeg) M313).bind (fun q314 => zpr q314 (fun r315 M316 =>
  if r312 = r315 then
  (zbd (v3 + (nI 6)) (fun x318 =>
  some (.inl (x318, M316))))
  else (some ((.inr (false, M316))))))))))
noncomputable def lc_33 (G : zzG) (v3 : Int32) (M : zzMem) : Option ((Int32 × zzMem) ⊕ (Bool × zzMem)) :=
  (zgd (vp_in (v3 + (nI 1)) (zG_L G)) (
  zgd (vp_in (v3 + (nI 2)) (zG_L G)) (
  (f_X9_scanIs (zG_xs G ((v3 + (nI 1))).toNatClampNeg) (zG_xs G ((v3 + (nI 2))).toNatClampNeg) M).bind (fun q322 => zpr q322 (fun r323 M324 =>
  (f_X10_scanIs (zG_xs G ((v3 + (nI 1))).toNatClampNeg) (zG_xs G ((v3 + (nI 2))).toNatClampNeg) M324).bind (fun q325 => zpr q325 (fun r326 M327 =>
  if r323 = r326 then
  (zbd (v3 + (nI 6)) (fun x329 =>
  some (.inl (x329, M327))))
  else (some ((.inr (false, M327)))))))))))
noncomputable def lc_34 (G : zzG) (v3 : Int32) (M : zzMem) : Option ((Int32 × zzMem) ⊕ (Bool × zzMem)) :=
  (zgd (vp_in (v3 + (nI 1)) (zG_L G)) (
  (f_X9_reach (zG_xs G ((v3 + (nI 1))).toNatClampNeg) M).bind (fun q332 => zpr q332 (fun r333 M334 =>
  (f_X10_reach (zG_xs G ((v3 + (nI 1))).toNatClampNeg) M334).bind (fun q335 => zpr q335 (fun r336 M337 =>
  if r333 = r336 then
  (zbd (v3 + (nI 6)) (fun x339 =>
  some (.inl (x339, M337))))
  else (some ((.inr (false, M337))))))))))
noncomputable def lc_35 (G : zzG) (v3 : Int32) (M : zzMem) : Option ((Int32 × zzMem) ⊕ (Bool × zzMem)) :=
  (zgd (vp_in (v3 + (nI 1)) (zG_L G)) (
  (f_X9_ends (zG_xs G ((v3 + (nI 1))).toNatClampNeg) M).bind (fun q342 => zpr q342 (fun r343 M344 =>
  (f_X10_ends (zG_xs G ((v3 + (nI 1))).toNatClampNeg) M344).bind (fun q345 => zpr q345 (fun r346 M347 =>
  if r343 = r346 then
  (zbd (v3 + (nI 6)) (fun x349 =>
  some (.inl (x349, M347))))
  else (some ((.inr (false, M347))))))))))
noncomputable def lc_36 (G : zzG) (v3 : Int32) (M : zzMem) : Option ((Int32 × zzMem) ⊕ (Bool × zzMem)) :=
  (zgd (vp_in (v3 + (nI 1)) (zG_L G)) (
  (f_X9_seed (zG_xs G ((v3 + (nI 1))).toNatClampNeg) M).bind (fun q352 => zpr q352 (fun r353 M354 =>
  (f_X10_seed (zG_xs G ((v3 + (nI 1))).toNatClampNeg) M354).bind (fun q355 => zpr q355 (fun r356 M357 =>
  if (zb r353) = (zb r356) then
  (zbd (v3 + (nI 6)) (fun x359 =>
  some (.inl (x359, M357))))
  else (some ((.inr (false, M357))))))))))
noncomputable def lc_37 (G : zzG) (v3 : Int32) (M : zzMem) : Option ((Int32 × zzMem) ⊕ (Bool × zzMem)) :=
  ((f_X9_keep M).bind (fun q361 => zpr q361 (fun r362 M363 =>
  (f_X10_keep M363).bind (fun q364 => zpr q364 (fun r365 M366 =>
  if r362 = r365 then
  (zbd (v3 + (nI 6)) (fun x368 =>
  some (.inl (x368, M366))))
  else (some ((.inr (false, M366)))))))))
noncomputable def lc_38 (G : zzG) (v3 : Int32) (M : zzMem) : Option ((Int32 × zzMem) ⊕ (Bool × zzMem)) :=
  ((f_X9_undo M).bind (fun q370 => zpr q370 (fun r371 M372 =>
  (f_X10_undo M372).bind (fun q373 => zpr q373 (fun r374 M375 =>
  if (zb r371) = (zb r374) then
  (zbd (v3 + (nI 6)) (fun x377 =>
  some (.inl (x377, M375))))
  else (some ((.inr (false, M375)))))))))
noncomputable def lc_39 (G : zzG) (v3 : Int32) (M : zzMem) : Option ((Int32 × zzMem) ⊕ (Bool × zzMem)) :=
  (zgd (vp_in (v3 + (nI 1)) (zG_L G)) (
  (f_X9_check (zG_xs G ((v3 + (nI 1))).toNatClampNeg) M).bind (fun q380 => zpr q380 (fun r381 M382 =>
  (f_X10_check (zG_xs G ((v3 + (nI 1))).toNatClampNeg) M382).bind (fun q383 => zpr q383 (fun r384 M385 =>
  if r381 = r384 then
  (zbd (v3 + (nI 6)) (fun x387 =>
  some (.inl (x387, M385))))
  else (some ((.inr (false, M385))))))))))
noncomputable def lc_40 (G : zzG) (v3 : Int32) (M : zzMem) : Option ((Int32 × zzMem) ⊕ (Bool × zzMem)) :=
  (zgd (vp_in (v3 + (nI 1)) (zG_L G)) (
  (f_X9_count (zG_xs G ((v3 + (nI 1))).toNatClampNeg) M).bind (fun r390 =>
  (f_X10_count (zG_xs G ((v3 + (nI 1))).toNatClampNeg) M).bind (fun r391 =>
  if r390 = r391 then
  (zbd (v3 + (nI 6)) (fun x393 =>
  some (.inl (x393, M))))
  else (some ((.inr (false, M))))))))
noncomputable def lc_41 (G : zzG) (v3 : Int32) (M : zzMem) : Option ((Int32 × zzMem) ⊕ (Bool × zzMem)) :=
  (zbd (v3 + (nI 6)) (fun x394 =>
  some (.inl (x394, M))))
noncomputable def lc_ch (x : Int32) (G : zzG) (v3 : Int32) (M : zzMem) : Option ((Int32 × zzMem) ⊕ (Bool × zzMem)) :=
  if x = nI 0 then lc_0 G v3 M else if x = nI 1 then lc_1 G v3 M else if x = nI 2 then lc_2 G v3 M else if x = nI 3 then lc_3 G v3 M else if x = nI 4 then lc_4 G v3 M else if x = nI 5 then lc_5 G v3 M else if x = nI 6 then lc_6 G v3 M else if x = nI 7 then lc_7 G v3 M else if x = nI 8 then lc_8 G v3 M else if x = nI 9 then lc_9 G v3 M else if x = nI 10 then lc_10 G v3 M else if x = nI 11 then lc_11 G v3 M else if x = nI 12 then lc_12 G v3 M else if x = nI 13 then lc_13 G v3 M else if x = nI 14 then lc_14 G v3 M else if x = nI 15 then lc_15 G v3 M else if x = nI 16 then lc_16 G v3 M else if x = nI 17 then lc_17 G v3 M else if x = nI 18 then lc_18 G v3 M else if x = nI 19 then lc_19 G v3 M else if x = nI 20 then lc_20 G v3 M else if x = nI 21 then lc_21 G v3 M else if x = nI 22 then lc_22 G v3 M else if x = nI 23 then lc_23 G v3 M else if x = nI 24 then lc_24 G v3 M else if x = nI 25 then lc_25 G v3 M else if x = nI 26 then lc_26 G v3 M else if x = nI 27 then lc_27 G v3 M else if x = nI 28 then lc_28 G v3 M else if x = nI 29 then lc_29 G v3 M else if x = nI 30 then lc_30 G v3 M else if x = nI 31 then lc_31 G v3 M else if x = nI 32 then lc_32 G v3 M else if x = nI 33 then lc_33 G v3 M else if x = nI 34 then lc_34 G v3 M else if x = nI 35 then lc_35 G v3 M else if x = nI 36 then lc_36 G v3 M else if x = nI 37 then lc_37 G v3 M else if x = nI 38 then lc_38 G v3 M else if x = nI 39 then lc_39 G v3 M else if x = nI 40 then lc_40 G v3 M else lc_41 G v3 M
theorem b_law_eq (G : zzG) (v3 : Int32) (M : zzMem) : b_L_law_18 G v3 M = if (Int32.ofNat (zG_L G) - nI 6) < v3 then some (.inr (true, M)) else zgd (vp_in v3 (zG_L G)) (lc_ch (zG_xs G v3.toNatClampNeg &&& nI 63) G v3 M) := rfl
theorem lc_at_0 (G : zzG) (v3 : Int32) (M : zzMem) : lc_ch (nI 0) G v3 M = lc_0 G v3 M := by
  unfold lc_ch
  rw [if_pos rfl]
theorem lc_at_1 (G : zzG) (v3 : Int32) (M : zzMem) : lc_ch (nI 1) G v3 M = lc_1 G v3 M := by
  unfold lc_ch
  rw [if_neg (show ¬ nI 1 = nI 0 by decide), if_pos rfl]
theorem lc_at_2 (G : zzG) (v3 : Int32) (M : zzMem) : lc_ch (nI 2) G v3 M = lc_2 G v3 M := by
  unfold lc_ch
  rw [if_neg (show ¬ nI 2 = nI 0 by decide), if_neg (show ¬ nI 2 = nI 1 by decide), if_pos rfl]
theorem lc_at_3 (G : zzG) (v3 : Int32) (M : zzMem) : lc_ch (nI 3) G v3 M = lc_3 G v3 M := by
  unfold lc_ch
  rw [if_neg (show ¬ nI 3 = nI 0 by decide), if_neg (show ¬ nI 3 = nI 1 by decide), if_neg (show ¬ nI 3 = nI 2 by decide), if_pos rfl]
theorem lc_at_4 (G : zzG) (v3 : Int32) (M : zzMem) : lc_ch (nI 4) G v3 M = lc_4 G v3 M := by
  unfold lc_ch
  rw [if_neg (show ¬ nI 4 = nI 0 by decide), if_neg (show ¬ nI 4 = nI 1 by decide), if_neg (show ¬ nI 4 = nI 2 by decide), if_neg (show ¬ nI 4 = nI 3 by decide), if_pos rfl]
theorem lc_at_5 (G : zzG) (v3 : Int32) (M : zzMem) : lc_ch (nI 5) G v3 M = lc_5 G v3 M := by
  unfold lc_ch
  rw [if_neg (show ¬ nI 5 = nI 0 by decide), if_neg (show ¬ nI 5 = nI 1 by decide), if_neg (show ¬ nI 5 = nI 2 by decide), if_neg (show ¬ nI 5 = nI 3 by decide), if_neg (show ¬ nI 5 = nI 4 by decide), if_pos rfl]
theorem lc_at_6 (G : zzG) (v3 : Int32) (M : zzMem) : lc_ch (nI 6) G v3 M = lc_6 G v3 M := by
  unfold lc_ch
  rw [if_neg (show ¬ nI 6 = nI 0 by decide), if_neg (show ¬ nI 6 = nI 1 by decide), if_neg (show ¬ nI 6 = nI 2 by decide), if_neg (show ¬ nI 6 = nI 3 by decide), if_neg (show ¬ nI 6 = nI 4 by decide), if_neg (show ¬ nI 6 = nI 5 by decide), if_pos rfl]
theorem lc_at_7 (G : zzG) (v3 : Int32) (M : zzMem) : lc_ch (nI 7) G v3 M = lc_7 G v3 M := by
  unfold lc_ch
  rw [if_neg (show ¬ nI 7 = nI 0 by decide), if_neg (show ¬ nI 7 = nI 1 by decide), if_neg (show ¬ nI 7 = nI 2 by decide), if_neg (show ¬ nI 7 = nI 3 by decide), if_neg (show ¬ nI 7 = nI 4 by decide), if_neg (show ¬ nI 7 = nI 5 by decide), if_neg (show ¬ nI 7 = nI 6 by decide), if_pos rfl]
theorem lc_at_8 (G : zzG) (v3 : Int32) (M : zzMem) : lc_ch (nI 8) G v3 M = lc_8 G v3 M := by
  unfold lc_ch
  rw [if_neg (show ¬ nI 8 = nI 0 by decide), if_neg (show ¬ nI 8 = nI 1 by decide), if_neg (show ¬ nI 8 = nI 2 by decide), if_neg (show ¬ nI 8 = nI 3 by decide), if_neg (show ¬ nI 8 = nI 4 by decide), if_neg (show ¬ nI 8 = nI 5 by decide), if_neg (show ¬ nI 8 = nI 6 by decide), if_neg (show ¬ nI 8 = nI 7 by decide), if_pos rfl]
theorem lc_at_9 (G : zzG) (v3 : Int32) (M : zzMem) : lc_ch (nI 9) G v3 M = lc_9 G v3 M := by
  unfold lc_ch
  rw [if_neg (show ¬ nI 9 = nI 0 by decide), if_neg (show ¬ nI 9 = nI 1 by decide), if_neg (show ¬ nI 9 = nI 2 by decide), if_neg (show ¬ nI 9 = nI 3 by decide), if_neg (show ¬ nI 9 = nI 4 by decide), if_neg (show ¬ nI 9 = nI 5 by decide), if_neg (show ¬ nI 9 = nI 6 by decide), if_neg (show ¬ nI 9 = nI 7 by decide), if_neg (show ¬ nI 9 = nI 8 by decide), if_pos rfl]
theorem lc_at_10 (G : zzG) (v3 : Int32) (M : zzMem) : lc_ch (nI 10) G v3 M = lc_10 G v3 M := by
  unfold lc_ch
  rw [if_neg (show ¬ nI 10 = nI 0 by decide), if_neg (show ¬ nI 10 = nI 1 by decide), if_neg (show ¬ nI 10 = nI 2 by decide), if_neg (show ¬ nI 10 = nI 3 by decide), if_neg (show ¬ nI 10 = nI 4 by decide), if_neg (show ¬ nI 10 = nI 5 by decide), if_neg (show ¬ nI 10 = nI 6 by decide), if_neg (show ¬ nI 10 = nI 7 by decide), if_neg (show ¬ nI 10 = nI 8 by decide), if_neg (show ¬ nI 10 = nI 9 by decide), if_pos rfl]
theorem lc_at_11 (G : zzG) (v3 : Int32) (M : zzMem) : lc_ch (nI 11) G v3 M = lc_11 G v3 M := by
  unfold lc_ch
  rw [if_neg (show ¬ nI 11 = nI 0 by decide), if_neg (show ¬ nI 11 = nI 1 by decide), if_neg (show ¬ nI 11 = nI 2 by decide), if_neg (show ¬ nI 11 = nI 3 by decide), if_neg (show ¬ nI 11 = nI 4 by decide), if_neg (show ¬ nI 11 = nI 5 by decide), if_neg (show ¬ nI 11 = nI 6 by decide), if_neg (show ¬ nI 11 = nI 7 by decide), if_neg (show ¬ nI 11 = nI 8 by decide), if_neg (show ¬ nI 11 = nI 9 by decide), if_neg (show ¬ nI 11 = nI 10 by decide), if_pos rfl]
theorem lc_at_12 (G : zzG) (v3 : Int32) (M : zzMem) : lc_ch (nI 12) G v3 M = lc_12 G v3 M := by
  unfold lc_ch
  rw [if_neg (show ¬ nI 12 = nI 0 by decide), if_neg (show ¬ nI 12 = nI 1 by decide), if_neg (show ¬ nI 12 = nI 2 by decide), if_neg (show ¬ nI 12 = nI 3 by decide), if_neg (show ¬ nI 12 = nI 4 by decide), if_neg (show ¬ nI 12 = nI 5 by decide), if_neg (show ¬ nI 12 = nI 6 by decide), if_neg (show ¬ nI 12 = nI 7 by decide), if_neg (show ¬ nI 12 = nI 8 by decide), if_neg (show ¬ nI 12 = nI 9 by decide), if_neg (show ¬ nI 12 = nI 10 by decide), if_neg (show ¬ nI 12 = nI 11 by decide), if_pos rfl]
theorem lc_at_13 (G : zzG) (v3 : Int32) (M : zzMem) : lc_ch (nI 13) G v3 M = lc_13 G v3 M := by
  unfold lc_ch
  rw [if_neg (show ¬ nI 13 = nI 0 by decide), if_neg (show ¬ nI 13 = nI 1 by decide), if_neg (show ¬ nI 13 = nI 2 by decide), if_neg (show ¬ nI 13 = nI 3 by decide), if_neg (show ¬ nI 13 = nI 4 by decide), if_neg (show ¬ nI 13 = nI 5 by decide), if_neg (show ¬ nI 13 = nI 6 by decide), if_neg (show ¬ nI 13 = nI 7 by decide), if_neg (show ¬ nI 13 = nI 8 by decide), if_neg (show ¬ nI 13 = nI 9 by decide), if_neg (show ¬ nI 13 = nI 10 by decide), if_neg (show ¬ nI 13 = nI 11 by decide), if_neg (show ¬ nI 13 = nI 12 by decide), if_pos rfl]
theorem lc_at_14 (G : zzG) (v3 : Int32) (M : zzMem) : lc_ch (nI 14) G v3 M = lc_14 G v3 M := by
  unfold lc_ch
  rw [if_neg (show ¬ nI 14 = nI 0 by decide), if_neg (show ¬ nI 14 = nI 1 by decide), if_neg (show ¬ nI 14 = nI 2 by decide), if_neg (show ¬ nI 14 = nI 3 by decide), if_neg (show ¬ nI 14 = nI 4 by decide), if_neg (show ¬ nI 14 = nI 5 by decide), if_neg (show ¬ nI 14 = nI 6 by decide), if_neg (show ¬ nI 14 = nI 7 by decide), if_neg (show ¬ nI 14 = nI 8 by decide), if_neg (show ¬ nI 14 = nI 9 by decide), if_neg (show ¬ nI 14 = nI 10 by decide), if_neg (show ¬ nI 14 = nI 11 by decide), if_neg (show ¬ nI 14 = nI 12 by decide), if_neg (show ¬ nI 14 = nI 13 by decide), if_pos rfl]
theorem lc_at_15 (G : zzG) (v3 : Int32) (M : zzMem) : lc_ch (nI 15) G v3 M = lc_15 G v3 M := by
  unfold lc_ch
  rw [if_neg (show ¬ nI 15 = nI 0 by decide), if_neg (show ¬ nI 15 = nI 1 by decide), if_neg (show ¬ nI 15 = nI 2 by decide), if_neg (show ¬ nI 15 = nI 3 by decide), if_neg (show ¬ nI 15 = nI 4 by decide), if_neg (show ¬ nI 15 = nI 5 by decide), if_neg (show ¬ nI 15 = nI 6 by decide), if_neg (show ¬ nI 15 = nI 7 by decide), if_neg (show ¬ nI 15 = nI 8 by decide), if_neg (show ¬ nI 15 = nI 9 by decide), if_neg (show ¬ nI 15 = nI 10 by decide), if_neg (show ¬ nI 15 = nI 11 by decide), if_neg (show ¬ nI 15 = nI 12 by decide), if_neg (show ¬ nI 15 = nI 13 by decide), if_neg (show ¬ nI 15 = nI 14 by decide), if_pos rfl]
theorem lc_at_16 (G : zzG) (v3 : Int32) (M : zzMem) : lc_ch (nI 16) G v3 M = lc_16 G v3 M := by
  unfold lc_ch
  rw [if_neg (show ¬ nI 16 = nI 0 by decide), if_neg (show ¬ nI 16 = nI 1 by decide), if_neg (show ¬ nI 16 = nI 2 by decide), if_neg (show ¬ nI 16 = nI 3 by decide), if_neg (show ¬ nI 16 = nI 4 by decide), if_neg (show ¬ nI 16 = nI 5 by decide), if_neg (show ¬ nI 16 = nI 6 by decide), if_neg (show ¬ nI 16 = nI 7 by decide), if_neg (show ¬ nI 16 = nI 8 by decide), if_neg (show ¬ nI 16 = nI 9 by decide), if_neg (show ¬ nI 16 = nI 10 by decide), if_neg (show ¬ nI 16 = nI 11 by decide), if_neg (show ¬ nI 16 = nI 12 by decide), if_neg (show ¬ nI 16 = nI 13 by decide), if_neg (show ¬ nI 16 = nI 14 by decide), if_neg (show ¬ nI 16 = nI 15 by decide), if_pos rfl]
theorem lc_at_17 (G : zzG) (v3 : Int32) (M : zzMem) : lc_ch (nI 17) G v3 M = lc_17 G v3 M := by
  unfold lc_ch
  rw [if_neg (show ¬ nI 17 = nI 0 by decide), if_neg (show ¬ nI 17 = nI 1 by decide), if_neg (show ¬ nI 17 = nI 2 by decide), if_neg (show ¬ nI 17 = nI 3 by decide), if_neg (show ¬ nI 17 = nI 4 by decide), if_neg (show ¬ nI 17 = nI 5 by decide), if_neg (show ¬ nI 17 = nI 6 by decide), if_neg (show ¬ nI 17 = nI 7 by decide), if_neg (show ¬ nI 17 = nI 8 by decide), if_neg (show ¬ nI 17 = nI 9 by decide), if_neg (show ¬ nI 17 = nI 10 by decide), if_neg (show ¬ nI 17 = nI 11 by decide), if_neg (show ¬ nI 17 = nI 12 by decide), if_neg (show ¬ nI 17 = nI 13 by decide), if_neg (show ¬ nI 17 = nI 14 by decide), if_neg (show ¬ nI 17 = nI 15 by decide), if_neg (show ¬ nI 17 = nI 16 by decide), if_pos rfl]
theorem lc_at_18 (G : zzG) (v3 : Int32) (M : zzMem) : lc_ch (nI 18) G v3 M = lc_18 G v3 M := by
  unfold lc_ch
  rw [if_neg (show ¬ nI 18 = nI 0 by decide), if_neg (show ¬ nI 18 = nI 1 by decide), if_neg (show ¬ nI 18 = nI 2 by decide), if_neg (show ¬ nI 18 = nI 3 by decide), if_neg (show ¬ nI 18 = nI 4 by decide), if_neg (show ¬ nI 18 = nI 5 by decide), if_neg (show ¬ nI 18 = nI 6 by decide), if_neg (show ¬ nI 18 = nI 7 by decide), if_neg (show ¬ nI 18 = nI 8 by decide), if_neg (show ¬ nI 18 = nI 9 by decide), if_neg (show ¬ nI 18 = nI 10 by decide), if_neg (show ¬ nI 18 = nI 11 by decide), if_neg (show ¬ nI 18 = nI 12 by decide), if_neg (show ¬ nI 18 = nI 13 by decide), if_neg (show ¬ nI 18 = nI 14 by decide), if_neg (show ¬ nI 18 = nI 15 by decide), if_neg (show ¬ nI 18 = nI 16 by decide), if_neg (show ¬ nI 18 = nI 17 by decide), if_pos rfl]
theorem lc_at_19 (G : zzG) (v3 : Int32) (M : zzMem) : lc_ch (nI 19) G v3 M = lc_19 G v3 M := by
  unfold lc_ch
  rw [if_neg (show ¬ nI 19 = nI 0 by decide), if_neg (show ¬ nI 19 = nI 1 by decide), if_neg (show ¬ nI 19 = nI 2 by decide), if_neg (show ¬ nI 19 = nI 3 by decide), if_neg (show ¬ nI 19 = nI 4 by decide), if_neg (show ¬ nI 19 = nI 5 by decide), if_neg (show ¬ nI 19 = nI 6 by decide), if_neg (show ¬ nI 19 = nI 7 by decide), if_neg (show ¬ nI 19 = nI 8 by decide), if_neg (show ¬ nI 19 = nI 9 by decide), if_neg (show ¬ nI 19 = nI 10 by decide), if_neg (show ¬ nI 19 = nI 11 by decide), if_neg (show ¬ nI 19 = nI 12 by decide), if_neg (show ¬ nI 19 = nI 13 by decide), if_neg (show ¬ nI 19 = nI 14 by decide), if_neg (show ¬ nI 19 = nI 15 by decide), if_neg (show ¬ nI 19 = nI 16 by decide), if_neg (show ¬ nI 19 = nI 17 by decide), if_neg (show ¬ nI 19 = nI 18 by decide), if_pos rfl]
theorem lc_at_20 (G : zzG) (v3 : Int32) (M : zzMem) : lc_ch (nI 20) G v3 M = lc_20 G v3 M := by
  unfold lc_ch
  rw [if_neg (show ¬ nI 20 = nI 0 by decide), if_neg (show ¬ nI 20 = nI 1 by decide), if_neg (show ¬ nI 20 = nI 2 by decide), if_neg (show ¬ nI 20 = nI 3 by decide), if_neg (show ¬ nI 20 = nI 4 by decide), if_neg (show ¬ nI 20 = nI 5 by decide), if_neg (show ¬ nI 20 = nI 6 by decide), if_neg (show ¬ nI 20 = nI 7 by decide), if_neg (show ¬ nI 20 = nI 8 by decide), if_neg (show ¬ nI 20 = nI 9 by decide), if_neg (show ¬ nI 20 = nI 10 by decide), if_neg (show ¬ nI 20 = nI 11 by decide), if_neg (show ¬ nI 20 = nI 12 by decide), if_neg (show ¬ nI 20 = nI 13 by decide), if_neg (show ¬ nI 20 = nI 14 by decide), if_neg (show ¬ nI 20 = nI 15 by decide), if_neg (show ¬ nI 20 = nI 16 by decide), if_neg (show ¬ nI 20 = nI 17 by decide), if_neg (show ¬ nI 20 = nI 18 by decide), if_neg (show ¬ nI 20 = nI 19 by decide), if_pos rfl]
theorem lc_at_21 (G : zzG) (v3 : Int32) (M : zzMem) : lc_ch (nI 21) G v3 M = lc_21 G v3 M := by
  unfold lc_ch
  rw [if_neg (show ¬ nI 21 = nI 0 by decide), if_neg (show ¬ nI 21 = nI 1 by decide), if_neg (show ¬ nI 21 = nI 2 by decide), if_neg (show ¬ nI 21 = nI 3 by decide), if_neg (show ¬ nI 21 = nI 4 by decide), if_neg (show ¬ nI 21 = nI 5 by decide), if_neg (show ¬ nI 21 = nI 6 by decide), if_neg (show ¬ nI 21 = nI 7 by decide), if_neg (show ¬ nI 21 = nI 8 by decide), if_neg (show ¬ nI 21 = nI 9 by decide), if_neg (show ¬ nI 21 = nI 10 by decide), if_neg (show ¬ nI 21 = nI 11 by decide), if_neg (show ¬ nI 21 = nI 12 by decide), if_neg (show ¬ nI 21 = nI 13 by decide), if_neg (show ¬ nI 21 = nI 14 by decide), if_neg (show ¬ nI 21 = nI 15 by decide), if_neg (show ¬ nI 21 = nI 16 by decide), if_neg (show ¬ nI 21 = nI 17 by decide), if_neg (show ¬ nI 21 = nI 18 by decide), if_neg (show ¬ nI 21 = nI 19 by decide), if_neg (show ¬ nI 21 = nI 20 by decide), if_pos rfl]
theorem lc_at_22 (G : zzG) (v3 : Int32) (M : zzMem) : lc_ch (nI 22) G v3 M = lc_22 G v3 M := by
  unfold lc_ch
  rw [if_neg (show ¬ nI 22 = nI 0 by decide), if_neg (show ¬ nI 22 = nI 1 by decide), if_neg (show ¬ nI 22 = nI 2 by decide), if_neg (show ¬ nI 22 = nI 3 by decide), if_neg (show ¬ nI 22 = nI 4 by decide), if_neg (show ¬ nI 22 = nI 5 by decide), if_neg (show ¬ nI 22 = nI 6 by decide), if_neg (show ¬ nI 22 = nI 7 by decide), if_neg (show ¬ nI 22 = nI 8 by decide), if_neg (show ¬ nI 22 = nI 9 by decide), if_neg (show ¬ nI 22 = nI 10 by decide), if_neg (show ¬ nI 22 = nI 11 by decide), if_neg (show ¬ nI 22 = nI 12 by decide), if_neg (show ¬ nI 22 = nI 13 by decide), if_neg (show ¬ nI 22 = nI 14 by decide), if_neg (show ¬ nI 22 = nI 15 by decide), if_neg (show ¬ nI 22 = nI 16 by decide), if_neg (show ¬ nI 22 = nI 17 by decide), if_neg (show ¬ nI 22 = nI 18 by decide), if_neg (show ¬ nI 22 = nI 19 by decide), if_neg (show ¬ nI 22 = nI 20 by decide), if_neg (show ¬ nI 22 = nI 21 by decide), if_pos rfl]
theorem lc_at_23 (G : zzG) (v3 : Int32) (M : zzMem) : lc_ch (nI 23) G v3 M = lc_23 G v3 M := by
  unfold lc_ch
  rw [if_neg (show ¬ nI 23 = nI 0 by decide), if_neg (show ¬ nI 23 = nI 1 by decide), if_neg (show ¬ nI 23 = nI 2 by decide), if_neg (show ¬ nI 23 = nI 3 by decide), if_neg (show ¬ nI 23 = nI 4 by decide), if_neg (show ¬ nI 23 = nI 5 by decide), if_neg (show ¬ nI 23 = nI 6 by decide), if_neg (show ¬ nI 23 = nI 7 by decide), if_neg (show ¬ nI 23 = nI 8 by decide), if_neg (show ¬ nI 23 = nI 9 by decide), if_neg (show ¬ nI 23 = nI 10 by decide), if_neg (show ¬ nI 23 = nI 11 by decide), if_neg (show ¬ nI 23 = nI 12 by decide), if_neg (show ¬ nI 23 = nI 13 by decide), if_neg (show ¬ nI 23 = nI 14 by decide), if_neg (show ¬ nI 23 = nI 15 by decide), if_neg (show ¬ nI 23 = nI 16 by decide), if_neg (show ¬ nI 23 = nI 17 by decide), if_neg (show ¬ nI 23 = nI 18 by decide), if_neg (show ¬ nI 23 = nI 19 by decide), if_neg (show ¬ nI 23 = nI 20 by decide), if_neg (show ¬ nI 23 = nI 21 by decide), if_neg (show ¬ nI 23 = nI 22 by decide), if_pos rfl]
theorem lc_at_24 (G : zzG) (v3 : Int32) (M : zzMem) : lc_ch (nI 24) G v3 M = lc_24 G v3 M := by
  unfold lc_ch
  rw [if_neg (show ¬ nI 24 = nI 0 by decide), if_neg (show ¬ nI 24 = nI 1 by decide), if_neg (show ¬ nI 24 = nI 2 by decide), if_neg (show ¬ nI 24 = nI 3 by decide), if_neg (show ¬ nI 24 = nI 4 by decide), if_neg (show ¬ nI 24 = nI 5 by decide), if_neg (show ¬ nI 24 = nI 6 by decide), if_neg (show ¬ nI 24 = nI 7 by decide), if_neg (show ¬ nI 24 = nI 8 by decide), if_neg (show ¬ nI 24 = nI 9 by decide), if_neg (show ¬ nI 24 = nI 10 by decide), if_neg (show ¬ nI 24 = nI 11 by decide), if_neg (show ¬ nI 24 = nI 12 by decide), if_neg (show ¬ nI 24 = nI 13 by decide), if_neg (show ¬ nI 24 = nI 14 by decide), if_neg (show ¬ nI 24 = nI 15 by decide), if_neg (show ¬ nI 24 = nI 16 by decide), if_neg (show ¬ nI 24 = nI 17 by decide), if_neg (show ¬ nI 24 = nI 18 by decide), if_neg (show ¬ nI 24 = nI 19 by decide), if_neg (show ¬ nI 24 = nI 20 by decide), if_neg (show ¬ nI 24 = nI 21 by decide), if_neg (show ¬ nI 24 = nI 22 by decide), if_neg (show ¬ nI 24 = nI 23 by decide), if_pos rfl]
theorem lc_at_25 (G : zzG) (v3 : Int32) (M : zzMem) : lc_ch (nI 25) G v3 M = lc_25 G v3 M := by
  unfold lc_ch
  rw [if_neg (show ¬ nI 25 = nI 0 by decide), if_neg (show ¬ nI 25 = nI 1 by decide), if_neg (show ¬ nI 25 = nI 2 by decide), if_neg (show ¬ nI 25 = nI 3 by decide), if_neg (show ¬ nI 25 = nI 4 by decide), if_neg (show ¬ nI 25 = nI 5 by decide), if_neg (show ¬ nI 25 = nI 6 by decide), if_neg (show ¬ nI 25 = nI 7 by decide), if_neg (show ¬ nI 25 = nI 8 by decide), if_neg (show ¬ nI 25 = nI 9 by decide), if_neg (show ¬ nI 25 = nI 10 by decide), if_neg (show ¬ nI 25 = nI 11 by decide), if_neg (show ¬ nI 25 = nI 12 by decide), if_neg (show ¬ nI 25 = nI 13 by decide), if_neg (show ¬ nI 25 = nI 14 by decide), if_neg (show ¬ nI 25 = nI 15 by decide), if_neg (show ¬ nI 25 = nI 16 by decide), if_neg (show ¬ nI 25 = nI 17 by decide), if_neg (show ¬ nI 25 = nI 18 by decide), if_neg (show ¬ nI 25 = nI 19 by decide), if_neg (show ¬ nI 25 = nI 20 by decide), if_neg (show ¬ nI 25 = nI 21 by decide), if_neg (show ¬ nI 25 = nI 22 by decide), if_neg (show ¬ nI 25 = nI 23 by decide), if_neg (show ¬ nI 25 = nI 24 by decide), if_pos rfl]
theorem lc_at_26 (G : zzG) (v3 : Int32) (M : zzMem) : lc_ch (nI 26) G v3 M = lc_26 G v3 M := by
  unfold lc_ch
  rw [if_neg (show ¬ nI 26 = nI 0 by decide), if_neg (show ¬ nI 26 = nI 1 by decide), if_neg (show ¬ nI 26 = nI 2 by decide), if_neg (show ¬ nI 26 = nI 3 by decide), if_neg (show ¬ nI 26 = nI 4 by decide), if_neg (show ¬ nI 26 = nI 5 by decide), if_neg (show ¬ nI 26 = nI 6 by decide), if_neg (show ¬ nI 26 = nI 7 by decide), if_neg (show ¬ nI 26 = nI 8 by decide), if_neg (show ¬ nI 26 = nI 9 by decide), if_neg (show ¬ nI 26 = nI 10 by decide), if_neg (show ¬ nI 26 = nI 11 by decide), if_neg (show ¬ nI 26 = nI 12 by decide), if_neg (show ¬ nI 26 = nI 13 by decide), if_neg (show ¬ nI 26 = nI 14 by decide), if_neg (show ¬ nI 26 = nI 15 by decide), if_neg (show ¬ nI 26 = nI 16 by decide), if_neg (show ¬ nI 26 = nI 17 by decide), if_neg (show ¬ nI 26 = nI 18 by decide), if_neg (show ¬ nI 26 = nI 19 by decide), if_neg (show ¬ nI 26 = nI 20 by decide), if_neg (show ¬ nI 26 = nI 21 by decide), if_neg (show ¬ nI 26 = nI 22 by decide), if_neg (show ¬ nI 26 = nI 23 by decide), if_neg (show ¬ nI 26 = nI 24 by decide), if_neg (show ¬ nI 26 = nI 25 by decide), if_pos rfl]
theorem lc_at_27 (G : zzG) (v3 : Int32) (M : zzMem) : lc_ch (nI 27) G v3 M = lc_27 G v3 M := by
  unfold lc_ch
  rw [if_neg (show ¬ nI 27 = nI 0 by decide), if_neg (show ¬ nI 27 = nI 1 by decide), if_neg (show ¬ nI 27 = nI 2 by decide), if_neg (show ¬ nI 27 = nI 3 by decide), if_neg (show ¬ nI 27 = nI 4 by decide), if_neg (show ¬ nI 27 = nI 5 by decide), if_neg (show ¬ nI 27 = nI 6 by decide), if_neg (show ¬ nI 27 = nI 7 by decide), if_neg (show ¬ nI 27 = nI 8 by decide), if_neg (show ¬ nI 27 = nI 9 by decide), if_neg (show ¬ nI 27 = nI 10 by decide), if_neg (show ¬ nI 27 = nI 11 by decide), if_neg (show ¬ nI 27 = nI 12 by decide), if_neg (show ¬ nI 27 = nI 13 by decide), if_neg (show ¬ nI 27 = nI 14 by decide), if_neg (show ¬ nI 27 = nI 15 by decide), if_neg (show ¬ nI 27 = nI 16 by decide), if_neg (show ¬ nI 27 = nI 17 by decide), if_neg (show ¬ nI 27 = nI 18 by decide), if_neg (show ¬ nI 27 = nI 19 by decide), if_neg (show ¬ nI 27 = nI 20 by decide), if_neg (show ¬ nI 27 = nI 21 by decide), if_neg (show ¬ nI 27 = nI 22 by decide), if_neg (show ¬ nI 27 = nI 23 by decide), if_neg (show ¬ nI 27 = nI 24 by decide), if_neg (show ¬ nI 27 = nI 25 by decide), if_neg (show ¬ nI 27 = nI 26 by decide), if_pos rfl]
theorem lc_at_28 (G : zzG) (v3 : Int32) (M : zzMem) : lc_ch (nI 28) G v3 M = lc_28 G v3 M := by
  unfold lc_ch
  rw [if_neg (show ¬ nI 28 = nI 0 by decide), if_neg (show ¬ nI 28 = nI 1 by decide), if_neg (show ¬ nI 28 = nI 2 by decide), if_neg (show ¬ nI 28 = nI 3 by decide), if_neg (show ¬ nI 28 = nI 4 by decide), if_neg (show ¬ nI 28 = nI 5 by decide), if_neg (show ¬ nI 28 = nI 6 by decide), if_neg (show ¬ nI 28 = nI 7 by decide), if_neg (show ¬ nI 28 = nI 8 by decide), if_neg (show ¬ nI 28 = nI 9 by decide), if_neg (show ¬ nI 28 = nI 10 by decide), if_neg (show ¬ nI 28 = nI 11 by decide), if_neg (show ¬ nI 28 = nI 12 by decide), if_neg (show ¬ nI 28 = nI 13 by decide), if_neg (show ¬ nI 28 = nI 14 by decide), if_neg (show ¬ nI 28 = nI 15 by decide), if_neg (show ¬ nI 28 = nI 16 by decide), if_neg (show ¬ nI 28 = nI 17 by decide), if_neg (show ¬ nI 28 = nI 18 by decide), if_neg (show ¬ nI 28 = nI 19 by decide), if_neg (show ¬ nI 28 = nI 20 by decide), if_neg (show ¬ nI 28 = nI 21 by decide), if_neg (show ¬ nI 28 = nI 22 by decide), if_neg (show ¬ nI 28 = nI 23 by decide), if_neg (show ¬ nI 28 = nI 24 by decide), if_neg (show ¬ nI 28 = nI 25 by decide), if_neg (show ¬ nI 28 = nI 26 by decide), if_neg (show ¬ nI 28 = nI 27 by decide), if_pos rfl]
theorem lc_at_29 (G : zzG) (v3 : Int32) (M : zzMem) : lc_ch (nI 29) G v3 M = lc_29 G v3 M := by
  unfold lc_ch
  rw [if_neg (show ¬ nI 29 = nI 0 by decide), if_neg (show ¬ nI 29 = nI 1 by decide), if_neg (show ¬ nI 29 = nI 2 by decide), if_neg (show ¬ nI 29 = nI 3 by decide), if_neg (show ¬ nI 29 = nI 4 by decide), if_neg (show ¬ nI 29 = nI 5 by decide), if_neg (show ¬ nI 29 = nI 6 by decide), if_neg (show ¬ nI 29 = nI 7 by decide), if_neg (show ¬ nI 29 = nI 8 by decide), if_neg (show ¬ nI 29 = nI 9 by decide), if_neg (show ¬ nI 29 = nI 10 by decide), if_neg (show ¬ nI 29 = nI 11 by decide), if_neg (show ¬ nI 29 = nI 12 by decide), if_neg (show ¬ nI 29 = nI 13 by decide), if_neg (show ¬ nI 29 = nI 14 by decide), if_neg (show ¬ nI 29 = nI 15 by decide), if_neg (show ¬ nI 29 = nI 16 by decide), if_neg (show ¬ nI 29 = nI 17 by decide), if_neg (show ¬ nI 29 = nI 18 by decide), if_neg (show ¬ nI 29 = nI 19 by decide), if_neg (show ¬ nI 29 = nI 20 by decide), if_neg (show ¬ nI 29 = nI 21 by decide), if_neg (show ¬ nI 29 = nI 22 by decide), if_neg (show ¬ nI 29 = nI 23 by decide), if_neg (show ¬ nI 29 = nI 24 by decide), if_neg (show ¬ nI 29 = nI 25 by decide), if_neg (show ¬ nI 29 = nI 26 by decide), if_neg (show ¬ nI 29 = nI 27 by decide), if_neg (show ¬ nI 29 = nI 28 by decide), if_pos rfl]
theorem lc_at_30 (G : zzG) (v3 : Int32) (M : zzMem) : lc_ch (nI 30) G v3 M = lc_30 G v3 M := by
  unfold lc_ch
  rw [if_neg (show ¬ nI 30 = nI 0 by decide), if_neg (show ¬ nI 30 = nI 1 by decide), if_neg (show ¬ nI 30 = nI 2 by decide), if_neg (show ¬ nI 30 = nI 3 by decide), if_neg (show ¬ nI 30 = nI 4 by decide), if_neg (show ¬ nI 30 = nI 5 by decide), if_neg (show ¬ nI 30 = nI 6 by decide), if_neg (show ¬ nI 30 = nI 7 by decide), if_neg (show ¬ nI 30 = nI 8 by decide), if_neg (show ¬ nI 30 = nI 9 by decide), if_neg (show ¬ nI 30 = nI 10 by decide), if_neg (show ¬ nI 30 = nI 11 by decide), if_neg (show ¬ nI 30 = nI 12 by decide), if_neg (show ¬ nI 30 = nI 13 by decide), if_neg (show ¬ nI 30 = nI 14 by decide), if_neg (show ¬ nI 30 = nI 15 by decide), if_neg (show ¬ nI 30 = nI 16 by decide), if_neg (show ¬ nI 30 = nI 17 by decide), if_neg (show ¬ nI 30 = nI 18 by decide), if_neg (show ¬ nI 30 = nI 19 by decide), if_neg (show ¬ nI 30 = nI 20 by decide), if_neg (show ¬ nI 30 = nI 21 by decide), if_neg (show ¬ nI 30 = nI 22 by decide), if_neg (show ¬ nI 30 = nI 23 by decide), if_neg (show ¬ nI 30 = nI 24 by decide), if_neg (show ¬ nI 30 = nI 25 by decide), if_neg (show ¬ nI 30 = nI 26 by decide), if_neg (show ¬ nI 30 = nI 27 by decide), if_neg (show ¬ nI 30 = nI 28 by decide), if_neg (show ¬ nI 30 = nI 29 by decide), if_pos rfl]
theorem lc_at_31 (G : zzG) (v3 : Int32) (M : zzMem) : lc_ch (nI 31) G v3 M = lc_31 G v3 M := by
  unfold lc_ch
  rw [if_neg (show ¬ nI 31 = nI 0 by decide), if_neg (show ¬ nI 31 = nI 1 by decide), if_neg (show ¬ nI 31 = nI 2 by decide), if_neg (show ¬ nI 31 = nI 3 by decide), if_neg (show ¬ nI 31 = nI 4 by decide), if_neg (show ¬ nI 31 = nI 5 by decide), if_neg (show ¬ nI 31 = nI 6 by decide), if_neg (show ¬ nI 31 = nI 7 by decide), if_neg (show ¬ nI 31 = nI 8 by decide), if_neg (show ¬ nI 31 = nI 9 by decide), if_neg (show ¬ nI 31 = nI 10 by decide), if_neg (show ¬ nI 31 = nI 11 by decide), if_neg (show ¬ nI 31 = nI 12 by decide), if_neg (show ¬ nI 31 = nI 13 by decide), if_neg (show ¬ nI 31 = nI 14 by decide), if_neg (show ¬ nI 31 = nI 15 by decide), if_neg (show ¬ nI 31 = nI 16 by decide), if_neg (show ¬ nI 31 = nI 17 by decide), if_neg (show ¬ nI 31 = nI 18 by decide), if_neg (show ¬ nI 31 = nI 19 by decide), if_neg (show ¬ nI 31 = nI 20 by decide), if_neg (show ¬ nI 31 = nI 21 by decide), if_neg (show ¬ nI 31 = nI 22 by decide), if_neg (show ¬ nI 31 = nI 23 by decide), if_neg (show ¬ nI 31 = nI 24 by decide), if_neg (show ¬ nI 31 = nI 25 by decide), if_neg (show ¬ nI 31 = nI 26 by decide), if_neg (show ¬ nI 31 = nI 27 by decide), if_neg (show ¬ nI 31 = nI 28 by decide), if_neg (show ¬ nI 31 = nI 29 by decide), if_neg (show ¬ nI 31 = nI 30 by decide), if_pos rfl]
theorem lc_at_32 (G : zzG) (v3 : Int32) (M : zzMem) : lc_ch (nI 32) G v3 M = lc_32 G v3 M := by
  unfold lc_ch
  rw [if_neg (show ¬ nI 32 = nI 0 by decide), if_neg (show ¬ nI 32 = nI 1 by decide), if_neg (show ¬ nI 32 = nI 2 by decide), if_neg (show ¬ nI 32 = nI 3 by decide), if_neg (show ¬ nI 32 = nI 4 by decide), if_neg (show ¬ nI 32 = nI 5 by decide), if_neg (show ¬ nI 32 = nI 6 by decide), if_neg (show ¬ nI 32 = nI 7 by decide), if_neg (show ¬ nI 32 = nI 8 by decide), if_neg (show ¬ nI 32 = nI 9 by decide), if_neg (show ¬ nI 32 = nI 10 by decide), if_neg (show ¬ nI 32 = nI 11 by decide), if_neg (show ¬ nI 32 = nI 12 by decide), if_neg (show ¬ nI 32 = nI 13 by decide), if_neg (show ¬ nI 32 = nI 14 by decide), if_neg (show ¬ nI 32 = nI 15 by decide), if_neg (show ¬ nI 32 = nI 16 by decide), if_neg (show ¬ nI 32 = nI 17 by decide), if_neg (show ¬ nI 32 = nI 18 by decide), if_neg (show ¬ nI 32 = nI 19 by decide), if_neg (show ¬ nI 32 = nI 20 by decide), if_neg (show ¬ nI 32 = nI 21 by decide), if_neg (show ¬ nI 32 = nI 22 by decide), if_neg (show ¬ nI 32 = nI 23 by decide), if_neg (show ¬ nI 32 = nI 24 by decide), if_neg (show ¬ nI 32 = nI 25 by decide), if_neg (show ¬ nI 32 = nI 26 by decide), if_neg (show ¬ nI 32 = nI 27 by decide), if_neg (show ¬ nI 32 = nI 28 by decide), if_neg (show ¬ nI 32 = nI 29 by decide), if_neg (show ¬ nI 32 = nI 30 by decide), if_neg (show ¬ nI 32 = nI 31 by decide), if_pos rfl]
theorem lc_at_33 (G : zzG) (v3 : Int32) (M : zzMem) : lc_ch (nI 33) G v3 M = lc_33 G v3 M := by
  unfold lc_ch
  rw [if_neg (show ¬ nI 33 = nI 0 by decide), if_neg (show ¬ nI 33 = nI 1 by decide), if_neg (show ¬ nI 33 = nI 2 by decide), if_neg (show ¬ nI 33 = nI 3 by decide), if_neg (show ¬ nI 33 = nI 4 by decide), if_neg (show ¬ nI 33 = nI 5 by decide), if_neg (show ¬ nI 33 = nI 6 by decide), if_neg (show ¬ nI 33 = nI 7 by decide), if_neg (show ¬ nI 33 = nI 8 by decide), if_neg (show ¬ nI 33 = nI 9 by decide), if_neg (show ¬ nI 33 = nI 10 by decide), if_neg (show ¬ nI 33 = nI 11 by decide), if_neg (show ¬ nI 33 = nI 12 by decide), if_neg (show ¬ nI 33 = nI 13 by decide), if_neg (show ¬ nI 33 = nI 14 by decide), if_neg (show ¬ nI 33 = nI 15 by decide), if_neg (show ¬ nI 33 = nI 16 by decide), if_neg (show ¬ nI 33 = nI 17 by decide), if_neg (show ¬ nI 33 = nI 18 by decide), if_neg (show ¬ nI 33 = nI 19 by decide), if_neg (show ¬ nI 33 = nI 20 by decide), if_neg (show ¬ nI 33 = nI 21 by decide), if_neg (show ¬ nI 33 = nI 22 by decide), if_neg (show ¬ nI 33 = nI 23 by decide), if_neg (show ¬ nI 33 = nI 24 by decide), if_neg (show ¬ nI 33 = nI 25 by decide), if_neg (show ¬ nI 33 = nI 26 by decide), if_neg (show ¬ nI 33 = nI 27 by decide), if_neg (show ¬ nI 33 = nI 28 by decide), if_neg (show ¬ nI 33 = nI 29 by decide), if_neg (show ¬ nI 33 = nI 30 by decide), if_neg (show ¬ nI 33 = nI 31 by decide), if_neg (show ¬ nI 33 = nI 32 by decide), if_pos rfl]
theorem lc_at_34 (G : zzG) (v3 : Int32) (M : zzMem) : lc_ch (nI 34) G v3 M = lc_34 G v3 M := by
  unfold lc_ch
  rw [if_neg (show ¬ nI 34 = nI 0 by decide), if_neg (show ¬ nI 34 = nI 1 by decide), if_neg (show ¬ nI 34 = nI 2 by decide), if_neg (show ¬ nI 34 = nI 3 by decide), if_neg (show ¬ nI 34 = nI 4 by decide), if_neg (show ¬ nI 34 = nI 5 by decide), if_neg (show ¬ nI 34 = nI 6 by decide), if_neg (show ¬ nI 34 = nI 7 by decide), if_neg (show ¬ nI 34 = nI 8 by decide), if_neg (show ¬ nI 34 = nI 9 by decide), if_neg (show ¬ nI 34 = nI 10 by decide), if_neg (show ¬ nI 34 = nI 11 by decide), if_neg (show ¬ nI 34 = nI 12 by decide), if_neg (show ¬ nI 34 = nI 13 by decide), if_neg (show ¬ nI 34 = nI 14 by decide), if_neg (show ¬ nI 34 = nI 15 by decide), if_neg (show ¬ nI 34 = nI 16 by decide), if_neg (show ¬ nI 34 = nI 17 by decide), if_neg (show ¬ nI 34 = nI 18 by decide), if_neg (show ¬ nI 34 = nI 19 by decide), if_neg (show ¬ nI 34 = nI 20 by decide), if_neg (show ¬ nI 34 = nI 21 by decide), if_neg (show ¬ nI 34 = nI 22 by decide), if_neg (show ¬ nI 34 = nI 23 by decide), if_neg (show ¬ nI 34 = nI 24 by decide), if_neg (show ¬ nI 34 = nI 25 by decide), if_neg (show ¬ nI 34 = nI 26 by decide), if_neg (show ¬ nI 34 = nI 27 by decide), if_neg (show ¬ nI 34 = nI 28 by decide), if_neg (show ¬ nI 34 = nI 29 by decide), if_neg (show ¬ nI 34 = nI 30 by decide), if_neg (show ¬ nI 34 = nI 31 by decide), if_neg (show ¬ nI 34 = nI 32 by decide), if_neg (show ¬ nI 34 = nI 33 by decide), if_pos rfl]
theorem lc_at_35 (G : zzG) (v3 : Int32) (M : zzMem) : lc_ch (nI 35) G v3 M = lc_35 G v3 M := by
  unfold lc_ch
  rw [if_neg (show ¬ nI 35 = nI 0 by decide), if_neg (show ¬ nI 35 = nI 1 by decide), if_neg (show ¬ nI 35 = nI 2 by decide), if_neg (show ¬ nI 35 = nI 3 by decide), if_neg (show ¬ nI 35 = nI 4 by decide), if_neg (show ¬ nI 35 = nI 5 by decide), if_neg (show ¬ nI 35 = nI 6 by decide), if_neg (show ¬ nI 35 = nI 7 by decide), if_neg (show ¬ nI 35 = nI 8 by decide), if_neg (show ¬ nI 35 = nI 9 by decide), if_neg (show ¬ nI 35 = nI 10 by decide), if_neg (show ¬ nI 35 = nI 11 by decide), if_neg (show ¬ nI 35 = nI 12 by decide), if_neg (show ¬ nI 35 = nI 13 by decide), if_neg (show ¬ nI 35 = nI 14 by decide), if_neg (show ¬ nI 35 = nI 15 by decide), if_neg (show ¬ nI 35 = nI 16 by decide), if_neg (show ¬ nI 35 = nI 17 by decide), if_neg (show ¬ nI 35 = nI 18 by decide), if_neg (show ¬ nI 35 = nI 19 by decide), if_neg (show ¬ nI 35 = nI 20 by decide), if_neg (show ¬ nI 35 = nI 21 by decide), if_neg (show ¬ nI 35 = nI 22 by decide), if_neg (show ¬ nI 35 = nI 23 by decide), if_neg (show ¬ nI 35 = nI 24 by decide), if_neg (show ¬ nI 35 = nI 25 by decide), if_neg (show ¬ nI 35 = nI 26 by decide), if_neg (show ¬ nI 35 = nI 27 by decide), if_neg (show ¬ nI 35 = nI 28 by decide), if_neg (show ¬ nI 35 = nI 29 by decide), if_neg (show ¬ nI 35 = nI 30 by decide), if_neg (show ¬ nI 35 = nI 31 by decide), if_neg (show ¬ nI 35 = nI 32 by decide), if_neg (show ¬ nI 35 = nI 33 by decide), if_neg (show ¬ nI 35 = nI 34 by decide), if_pos rfl]
theorem lc_at_36 (G : zzG) (v3 : Int32) (M : zzMem) : lc_ch (nI 36) G v3 M = lc_36 G v3 M := by
  unfold lc_ch
  rw [if_neg (show ¬ nI 36 = nI 0 by decide), if_neg (show ¬ nI 36 = nI 1 by decide), if_neg (show ¬ nI 36 = nI 2 by decide), if_neg (show ¬ nI 36 = nI 3 by decide), if_neg (show ¬ nI 36 = nI 4 by decide), if_neg (show ¬ nI 36 = nI 5 by decide), if_neg (show ¬ nI 36 = nI 6 by decide), if_neg (show ¬ nI 36 = nI 7 by decide), if_neg (show ¬ nI 36 = nI 8 by decide), if_neg (show ¬ nI 36 = nI 9 by decide), if_neg (show ¬ nI 36 = nI 10 by decide), if_neg (show ¬ nI 36 = nI 11 by decide), if_neg (show ¬ nI 36 = nI 12 by decide), if_neg (show ¬ nI 36 = nI 13 by decide), if_neg (show ¬ nI 36 = nI 14 by decide), if_neg (show ¬ nI 36 = nI 15 by decide), if_neg (show ¬ nI 36 = nI 16 by decide), if_neg (show ¬ nI 36 = nI 17 by decide), if_neg (show ¬ nI 36 = nI 18 by decide), if_neg (show ¬ nI 36 = nI 19 by decide), if_neg (show ¬ nI 36 = nI 20 by decide), if_neg (show ¬ nI 36 = nI 21 by decide), if_neg (show ¬ nI 36 = nI 22 by decide), if_neg (show ¬ nI 36 = nI 23 by decide), if_neg (show ¬ nI 36 = nI 24 by decide), if_neg (show ¬ nI 36 = nI 25 by decide), if_neg (show ¬ nI 36 = nI 26 by decide), if_neg (show ¬ nI 36 = nI 27 by decide), if_neg (show ¬ nI 36 = nI 28 by decide), if_neg (show ¬ nI 36 = nI 29 by decide), if_neg (show ¬ nI 36 = nI 30 by decide), if_neg (show ¬ nI 36 = nI 31 by decide), if_neg (show ¬ nI 36 = nI 32 by decide), if_neg (show ¬ nI 36 = nI 33 by decide), if_neg (show ¬ nI 36 = nI 34 by decide), if_neg (show ¬ nI 36 = nI 35 by decide), if_pos rfl]
theorem lc_at_37 (G : zzG) (v3 : Int32) (M : zzMem) : lc_ch (nI 37) G v3 M = lc_37 G v3 M := by
  unfold lc_ch
  rw [if_neg (show ¬ nI 37 = nI 0 by decide), if_neg (show ¬ nI 37 = nI 1 by decide), if_neg (show ¬ nI 37 = nI 2 by decide), if_neg (show ¬ nI 37 = nI 3 by decide), if_neg (show ¬ nI 37 = nI 4 by decide), if_neg (show ¬ nI 37 = nI 5 by decide), if_neg (show ¬ nI 37 = nI 6 by decide), if_neg (show ¬ nI 37 = nI 7 by decide), if_neg (show ¬ nI 37 = nI 8 by decide), if_neg (show ¬ nI 37 = nI 9 by decide), if_neg (show ¬ nI 37 = nI 10 by decide), if_neg (show ¬ nI 37 = nI 11 by decide), if_neg (show ¬ nI 37 = nI 12 by decide), if_neg (show ¬ nI 37 = nI 13 by decide), if_neg (show ¬ nI 37 = nI 14 by decide), if_neg (show ¬ nI 37 = nI 15 by decide), if_neg (show ¬ nI 37 = nI 16 by decide), if_neg (show ¬ nI 37 = nI 17 by decide), if_neg (show ¬ nI 37 = nI 18 by decide), if_neg (show ¬ nI 37 = nI 19 by decide), if_neg (show ¬ nI 37 = nI 20 by decide), if_neg (show ¬ nI 37 = nI 21 by decide), if_neg (show ¬ nI 37 = nI 22 by decide), if_neg (show ¬ nI 37 = nI 23 by decide), if_neg (show ¬ nI 37 = nI 24 by decide), if_neg (show ¬ nI 37 = nI 25 by decide), if_neg (show ¬ nI 37 = nI 26 by decide), if_neg (show ¬ nI 37 = nI 27 by decide), if_neg (show ¬ nI 37 = nI 28 by decide), if_neg (show ¬ nI 37 = nI 29 by decide), if_neg (show ¬ nI 37 = nI 30 by decide), if_neg (show ¬ nI 37 = nI 31 by decide), if_neg (show ¬ nI 37 = nI 32 by decide), if_neg (show ¬ nI 37 = nI 33 by decide), if_neg (show ¬ nI 37 = nI 34 by decide), if_neg (show ¬ nI 37 = nI 35 by decide), if_neg (show ¬ nI 37 = nI 36 by decide), if_pos rfl]
theorem lc_at_38 (G : zzG) (v3 : Int32) (M : zzMem) : lc_ch (nI 38) G v3 M = lc_38 G v3 M := by
  unfold lc_ch
  rw [if_neg (show ¬ nI 38 = nI 0 by decide), if_neg (show ¬ nI 38 = nI 1 by decide), if_neg (show ¬ nI 38 = nI 2 by decide), if_neg (show ¬ nI 38 = nI 3 by decide), if_neg (show ¬ nI 38 = nI 4 by decide), if_neg (show ¬ nI 38 = nI 5 by decide), if_neg (show ¬ nI 38 = nI 6 by decide), if_neg (show ¬ nI 38 = nI 7 by decide), if_neg (show ¬ nI 38 = nI 8 by decide), if_neg (show ¬ nI 38 = nI 9 by decide), if_neg (show ¬ nI 38 = nI 10 by decide), if_neg (show ¬ nI 38 = nI 11 by decide), if_neg (show ¬ nI 38 = nI 12 by decide), if_neg (show ¬ nI 38 = nI 13 by decide), if_neg (show ¬ nI 38 = nI 14 by decide), if_neg (show ¬ nI 38 = nI 15 by decide), if_neg (show ¬ nI 38 = nI 16 by decide), if_neg (show ¬ nI 38 = nI 17 by decide), if_neg (show ¬ nI 38 = nI 18 by decide), if_neg (show ¬ nI 38 = nI 19 by decide), if_neg (show ¬ nI 38 = nI 20 by decide), if_neg (show ¬ nI 38 = nI 21 by decide), if_neg (show ¬ nI 38 = nI 22 by decide), if_neg (show ¬ nI 38 = nI 23 by decide), if_neg (show ¬ nI 38 = nI 24 by decide), if_neg (show ¬ nI 38 = nI 25 by decide), if_neg (show ¬ nI 38 = nI 26 by decide), if_neg (show ¬ nI 38 = nI 27 by decide), if_neg (show ¬ nI 38 = nI 28 by decide), if_neg (show ¬ nI 38 = nI 29 by decide), if_neg (show ¬ nI 38 = nI 30 by decide), if_neg (show ¬ nI 38 = nI 31 by decide), if_neg (show ¬ nI 38 = nI 32 by decide), if_neg (show ¬ nI 38 = nI 33 by decide), if_neg (show ¬ nI 38 = nI 34 by decide), if_neg (show ¬ nI 38 = nI 35 by decide), if_neg (show ¬ nI 38 = nI 36 by decide), if_neg (show ¬ nI 38 = nI 37 by decide), if_pos rfl]
theorem lc_at_39 (G : zzG) (v3 : Int32) (M : zzMem) : lc_ch (nI 39) G v3 M = lc_39 G v3 M := by
  unfold lc_ch
  rw [if_neg (show ¬ nI 39 = nI 0 by decide), if_neg (show ¬ nI 39 = nI 1 by decide), if_neg (show ¬ nI 39 = nI 2 by decide), if_neg (show ¬ nI 39 = nI 3 by decide), if_neg (show ¬ nI 39 = nI 4 by decide), if_neg (show ¬ nI 39 = nI 5 by decide), if_neg (show ¬ nI 39 = nI 6 by decide), if_neg (show ¬ nI 39 = nI 7 by decide), if_neg (show ¬ nI 39 = nI 8 by decide), if_neg (show ¬ nI 39 = nI 9 by decide), if_neg (show ¬ nI 39 = nI 10 by decide), if_neg (show ¬ nI 39 = nI 11 by decide), if_neg (show ¬ nI 39 = nI 12 by decide), if_neg (show ¬ nI 39 = nI 13 by decide), if_neg (show ¬ nI 39 = nI 14 by decide), if_neg (show ¬ nI 39 = nI 15 by decide), if_neg (show ¬ nI 39 = nI 16 by decide), if_neg (show ¬ nI 39 = nI 17 by decide), if_neg (show ¬ nI 39 = nI 18 by decide), if_neg (show ¬ nI 39 = nI 19 by decide), if_neg (show ¬ nI 39 = nI 20 by decide), if_neg (show ¬ nI 39 = nI 21 by decide), if_neg (show ¬ nI 39 = nI 22 by decide), if_neg (show ¬ nI 39 = nI 23 by decide), if_neg (show ¬ nI 39 = nI 24 by decide), if_neg (show ¬ nI 39 = nI 25 by decide), if_neg (show ¬ nI 39 = nI 26 by decide), if_neg (show ¬ nI 39 = nI 27 by decide), if_neg (show ¬ nI 39 = nI 28 by decide), if_neg (show ¬ nI 39 = nI 29 by decide), if_neg (show ¬ nI 39 = nI 30 by decide), if_neg (show ¬ nI 39 = nI 31 by decide), if_neg (show ¬ nI 39 = nI 32 by decide), if_neg (show ¬ nI 39 = nI 33 by decide), if_neg (show ¬ nI 39 = nI 34 by decide), if_neg (show ¬ nI 39 = nI 35 by decide), if_neg (show ¬ nI 39 = nI 36 by decide), if_neg (show ¬ nI 39 = nI 37 by decide), if_neg (show ¬ nI 39 = nI 38 by decide), if_pos rfl]
theorem lc_at_40 (G : zzG) (v3 : Int32) (M : zzMem) : lc_ch (nI 40) G v3 M = lc_40 G v3 M := by
  unfold lc_ch
  rw [if_neg (show ¬ nI 40 = nI 0 by decide), if_neg (show ¬ nI 40 = nI 1 by decide), if_neg (show ¬ nI 40 = nI 2 by decide), if_neg (show ¬ nI 40 = nI 3 by decide), if_neg (show ¬ nI 40 = nI 4 by decide), if_neg (show ¬ nI 40 = nI 5 by decide), if_neg (show ¬ nI 40 = nI 6 by decide), if_neg (show ¬ nI 40 = nI 7 by decide), if_neg (show ¬ nI 40 = nI 8 by decide), if_neg (show ¬ nI 40 = nI 9 by decide), if_neg (show ¬ nI 40 = nI 10 by decide), if_neg (show ¬ nI 40 = nI 11 by decide), if_neg (show ¬ nI 40 = nI 12 by decide), if_neg (show ¬ nI 40 = nI 13 by decide), if_neg (show ¬ nI 40 = nI 14 by decide), if_neg (show ¬ nI 40 = nI 15 by decide), if_neg (show ¬ nI 40 = nI 16 by decide), if_neg (show ¬ nI 40 = nI 17 by decide), if_neg (show ¬ nI 40 = nI 18 by decide), if_neg (show ¬ nI 40 = nI 19 by decide), if_neg (show ¬ nI 40 = nI 20 by decide), if_neg (show ¬ nI 40 = nI 21 by decide), if_neg (show ¬ nI 40 = nI 22 by decide), if_neg (show ¬ nI 40 = nI 23 by decide), if_neg (show ¬ nI 40 = nI 24 by decide), if_neg (show ¬ nI 40 = nI 25 by decide), if_neg (show ¬ nI 40 = nI 26 by decide), if_neg (show ¬ nI 40 = nI 27 by decide), if_neg (show ¬ nI 40 = nI 28 by decide), if_neg (show ¬ nI 40 = nI 29 by decide), if_neg (show ¬ nI 40 = nI 30 by decide), if_neg (show ¬ nI 40 = nI 31 by decide), if_neg (show ¬ nI 40 = nI 32 by decide), if_neg (show ¬ nI 40 = nI 33 by decide), if_neg (show ¬ nI 40 = nI 34 by decide), if_neg (show ¬ nI 40 = nI 35 by decide), if_neg (show ¬ nI 40 = nI 36 by decide), if_neg (show ¬ nI 40 = nI 37 by decide), if_neg (show ¬ nI 40 = nI 38 by decide), if_neg (show ¬ nI 40 = nI 39 by decide), if_pos rfl]
theorem lc_at_41 {w : Nat} (h : 41 ≤ w) (hw : w < 64) (G : zzG) (v3 : Int32) (M : zzMem) : lc_ch (nI w) G v3 M = lc_41 G v3 M := by
  unfold lc_ch
  rw [ifEq_f (show w ≠ 0 by omega) (by omega) (by decide), ifEq_f (show w ≠ 1 by omega) (by omega) (by decide), ifEq_f (show w ≠ 2 by omega) (by omega) (by decide), ifEq_f (show w ≠ 3 by omega) (by omega) (by decide), ifEq_f (show w ≠ 4 by omega) (by omega) (by decide), ifEq_f (show w ≠ 5 by omega) (by omega) (by decide), ifEq_f (show w ≠ 6 by omega) (by omega) (by decide), ifEq_f (show w ≠ 7 by omega) (by omega) (by decide), ifEq_f (show w ≠ 8 by omega) (by omega) (by decide), ifEq_f (show w ≠ 9 by omega) (by omega) (by decide), ifEq_f (show w ≠ 10 by omega) (by omega) (by decide), ifEq_f (show w ≠ 11 by omega) (by omega) (by decide), ifEq_f (show w ≠ 12 by omega) (by omega) (by decide), ifEq_f (show w ≠ 13 by omega) (by omega) (by decide), ifEq_f (show w ≠ 14 by omega) (by omega) (by decide), ifEq_f (show w ≠ 15 by omega) (by omega) (by decide), ifEq_f (show w ≠ 16 by omega) (by omega) (by decide), ifEq_f (show w ≠ 17 by omega) (by omega) (by decide), ifEq_f (show w ≠ 18 by omega) (by omega) (by decide), ifEq_f (show w ≠ 19 by omega) (by omega) (by decide), ifEq_f (show w ≠ 20 by omega) (by omega) (by decide), ifEq_f (show w ≠ 21 by omega) (by omega) (by decide), ifEq_f (show w ≠ 22 by omega) (by omega) (by decide), ifEq_f (show w ≠ 23 by omega) (by omega) (by decide), ifEq_f (show w ≠ 24 by omega) (by omega) (by decide), ifEq_f (show w ≠ 25 by omega) (by omega) (by decide), ifEq_f (show w ≠ 26 by omega) (by omega) (by decide), ifEq_f (show w ≠ 27 by omega) (by omega) (by decide), ifEq_f (show w ≠ 28 by omega) (by omega) (by decide), ifEq_f (show w ≠ 29 by omega) (by omega) (by decide), ifEq_f (show w ≠ 30 by omega) (by omega) (by decide), ifEq_f (show w ≠ 31 by omega) (by omega) (by decide), ifEq_f (show w ≠ 32 by omega) (by omega) (by decide), ifEq_f (show w ≠ 33 by omega) (by omega) (by decide), ifEq_f (show w ≠ 34 by omega) (by omega) (by decide), ifEq_f (show w ≠ 35 by omega) (by omega) (by decide), ifEq_f (show w ≠ 36 by omega) (by omega) (by decide), ifEq_f (show w ≠ 37 by omega) (by omega) (by decide), ifEq_f (show w ≠ 38 by omega) (by omega) (by decide), ifEq_f (show w ≠ 39 by omega) (by omega) (by decide), ifEq_f (show w ≠ 40 by omega) (by omega) (by decide)]
/-- what a step comes to -/
def lw_nx (G : zzG) (N : Nat) (o : Option ((Int32 × zzMem) ⊕ (Bool × zzMem))) : Prop := ∃ M2, o = some (.inl (nI (6 * (N + 1)), M2)) ∧ zIv (N + 1) M2
theorem lc_ok_0 {G : zzG} {N : Nat} {M : zzMem} (hL : zG_L G ≤ 3072) (hN : 6 * N + 6 ≤ zG_L G) (hI : zIv N M) : lw_nx G N (lc_0 G (nI (6 * N)) M) := by
  obtain ⟨r, M1, M2, h1, h2, h3⟩ := op_feed N (zG_xs G (6 * N + 1)) (zG_xs G (6 * N + 2)) (zG_xs G (6 * N + 3)) (zG_xs G (6 * N + 4)) (zG_xs G (6 * N + 5)) (by omega) M hI
  refine ⟨M2, ?_, h3⟩
  unfold lc_0
  simp (disch := omega) only [nIadd, zgd_in, nIc, zbd, zpr, h1, h2, Option.bind_some, reduceIte, show 6 * N + 6 = 6 * (N + 1) by omega]
theorem lc_ok_1 {G : zzG} {N : Nat} {M : zzMem} (hL : zG_L G ≤ 3072) (hN : 6 * N + 6 ≤ zG_L G) (hI : zIv N M) : lw_nx G N (lc_1 G (nI (6 * N)) M) := by
  obtain ⟨r, M1, M2, h1, h2, h3⟩ := op_shape N (zG_xs G (6 * N + 1)) (zG_xs G (6 * N + 2)) (zG_xs G (6 * N + 3)) (zG_xs G (6 * N + 4)) (zG_xs G (6 * N + 5)) (by omega) M hI
  refine ⟨M2, ?_, h3⟩
  unfold lc_1
  simp (disch := omega) only [nIadd, zgd_in, nIc, zbd, zpr, h1, h2, Option.bind_some, reduceIte, show 6 * N + 6 = 6 * (N + 1) by omega]
theorem lc_ok_2 {G : zzG} {N : Nat} {M : zzMem} (hL : zG_L G ≤ 3072) (hN : 6 * N + 6 ≤ zG_L G) (hI : zIv N M) : lw_nx G N (lc_2 G (nI (6 * N)) M) := by
  obtain ⟨r, M1, M2, h1, h2, h3⟩ := op_law N (zG_xs G (6 * N + 1)) (by omega) M hI
  refine ⟨M2, ?_, h3⟩
  unfold lc_2
  simp (disch := omega) only [nIadd, zgd_in, nIc, zbd, zpr, h1, h2, Option.bind_some, reduceIte, show 6 * N + 6 = 6 * (N + 1) by omega]
theorem lc_ok_3 {G : zzG} {N : Nat} {M : zzMem} (hL : zG_L G ≤ 3072) (hN : 6 * N + 6 ≤ zG_L G) (hI : zIv N M) : lw_nx G N (lc_3 G (nI (6 * N)) M) := by
  obtain ⟨r, M1, M2, h1, h2, h3⟩ := op_work N (zG_xs G (6 * N + 1)) (by omega) M hI
  refine ⟨M2, ?_, h3⟩
  unfold lc_3
  simp (disch := omega) only [nIadd, zgd_in, nIc, zbd, zpr, h1, h2, Option.bind_some, reduceIte, show 6 * N + 6 = 6 * (N + 1) by omega]
theorem lc_ok_4 {G : zzG} {N : Nat} {M : zzMem} (hL : zG_L G ≤ 3072) (hN : 6 * N + 6 ≤ zG_L G) (hI : zIv N M) : lw_nx G N (lc_4 G (nI (6 * N)) M) := by
  obtain ⟨r, M1, M2, h1, h2, h3⟩ := op_put N (zG_xs G (6 * N + 1)) (zG_xs G (6 * N + 2)) (by omega) M hI
  refine ⟨M2, ?_, h3⟩
  unfold lc_4
  simp (disch := omega) only [nIadd, zgd_in, nIc, zbd, zpr, h1, h2, Option.bind_some, reduceIte, show 6 * N + 6 = 6 * (N + 1) by omega]
theorem lc_ok_5 {G : zzG} {N : Nat} {M : zzMem} (hL : zG_L G ≤ 3072) (hN : 6 * N + 6 ≤ zG_L G) (hI : zIv N M) : lw_nx G N (lc_5 G (nI (6 * N)) M) := by
  obtain ⟨r, M1, M2, h1, h2, h3⟩ := op_find N (zG_xs G (6 * N + 1)) (by omega) M hI
  refine ⟨M2, ?_, h3⟩
  unfold lc_5
  simp (disch := omega) only [nIadd, zgd_in, nIc, zbd, zpr, h1, h2, Option.bind_some, reduceIte, show 6 * N + 6 = 6 * (N + 1) by omega]
theorem lc_ok_6 {G : zzG} {N : Nat} {M : zzMem} (hL : zG_L G ≤ 3072) (hN : 6 * N + 6 ≤ zG_L G) (hI : zIv N M) : lw_nx G N (lc_6 G (nI (6 * N)) M) := by
  obtain ⟨r, M1, M2, h1, h2, h3⟩ := op_drop N (zG_xs G (6 * N + 1)) (by omega) M hI
  refine ⟨M2, ?_, h3⟩
  unfold lc_6
  simp (disch := omega) only [nIadd, zgd_in, nIc, zbd, zpr, h1, h2, Option.bind_some, reduceIte, show 6 * N + 6 = 6 * (N + 1) by omega]
theorem lc_ok_7 {G : zzG} {N : Nat} {M : zzMem} (hL : zG_L G ≤ 3072) (hN : 6 * N + 6 ≤ zG_L G) (hI : zIv N M) : lw_nx G N (lc_7 G (nI (6 * N)) M) := by
  obtain ⟨r, M1, M2, h1, h2, h3⟩ := op_split N  (by omega) M hI
  refine ⟨M2, ?_, h3⟩
  unfold lc_7
  simp (disch := omega) only [nIadd, zgd_in, nIc, zbd, zpr, h1, h2, Option.bind_some, reduceIte, show 6 * N + 6 = 6 * (N + 1) by omega]
theorem lc_ok_8 {G : zzG} {N : Nat} {M : zzMem} (hL : zG_L G ≤ 3072) (hN : 6 * N + 6 ≤ zG_L G) (hI : zIv N M) : lw_nx G N (lc_8 G (nI (6 * N)) M) := by
  obtain ⟨r, M1, M2, h1, h2, h3⟩ := op_join N  (by omega) M hI
  refine ⟨M2, ?_, h3⟩
  unfold lc_8
  simp (disch := omega) only [nIadd, zgd_in, nIc, zbd, zpr, h1, h2, Option.bind_some, reduceIte, show 6 * N + 6 = 6 * (N + 1) by omega]
theorem lc_ok_9 {G : zzG} {N : Nat} {M : zzMem} (hL : zG_L G ≤ 3072) (hN : 6 * N + 6 ≤ zG_L G) (hI : zIv N M) : lw_nx G N (lc_9 G (nI (6 * N)) M) := by
  obtain ⟨r, M1, M2, h1, h2, h3⟩ := op_fileIs N (zG_xs G (6 * N + 1)) (by omega) M hI
  obtain ⟨h1, rfl⟩ := zR_some h1
  obtain ⟨h2, rfl⟩ := zR_some h2
  refine ⟨M2, ?_, h3⟩
  unfold lc_9
  simp (disch := omega) only [nIadd, zgd_in, nIc, zbd, zpr, h1, h2, Option.bind_some, reduceIte, show 6 * N + 6 = 6 * (N + 1) by omega]
theorem lc_ok_10 {G : zzG} {N : Nat} {M : zzMem} (hL : zG_L G ≤ 3072) (hN : 6 * N + 6 ≤ zG_L G) (hI : zIv N M) : lw_nx G N (lc_10 G (nI (6 * N)) M) := by
  obtain ⟨r, M1, M2, h1, h2, h3⟩ := op_keyIs N (zG_xs G (6 * N + 1)) (zG_xs G (6 * N + 2)) (by omega) M hI
  refine ⟨M2, ?_, h3⟩
  unfold lc_10
  simp (disch := omega) only [nIadd, zgd_in, nIc, zbd, zpr, h1, h2, Option.bind_some, reduceIte, show 6 * N + 6 = 6 * (N + 1) by omega]
theorem lc_ok_11 {G : zzG} {N : Nat} {M : zzMem} (hL : zG_L G ≤ 3072) (hN : 6 * N + 6 ≤ zG_L G) (hI : zIv N M) : lw_nx G N (lc_11 G (nI (6 * N)) M) := by
  obtain ⟨r, M1, M2, h1, h2, h3⟩ := op_where N (zG_xs G (6 * N + 1)) (zG_xs G (6 * N + 2)) (by omega) M hI
  refine ⟨M2, ?_, h3⟩
  unfold lc_11
  simp (disch := omega) only [nIadd, zgd_in, nIc, zbd, zpr, h1, h2, Option.bind_some, reduceIte, show 6 * N + 6 = 6 * (N + 1) by omega]
theorem lc_ok_12 {G : zzG} {N : Nat} {M : zzMem} (hL : zG_L G ≤ 3072) (hN : 6 * N + 6 ≤ zG_L G) (hI : zIv N M) : lw_nx G N (lc_12 G (nI (6 * N)) M) := by
  obtain ⟨r, M1, M2, h1, h2, h3⟩ := op_bucket N (zG_xs G (6 * N + 1)) (zG_xs G (6 * N + 2)) (by omega) M hI
  obtain ⟨h1, rfl⟩ := zR_some h1
  obtain ⟨h2, rfl⟩ := zR_some h2
  refine ⟨M2, ?_, h3⟩
  unfold lc_12
  simp (disch := omega) only [nIadd, zgd_in, nIc, zbd, zpr, h1, h2, Option.bind_some, reduceIte, show 6 * N + 6 = 6 * (N + 1) by omega]
theorem lc_ok_13 {G : zzG} {N : Nat} {M : zzMem} (hL : zG_L G ≤ 3072) (hN : 6 * N + 6 ≤ zG_L G) (hI : zIv N M) : lw_nx G N (lc_13 G (nI (6 * N)) M) := by
  obtain ⟨r, M1, M2, h1, h2, h3⟩ := op_page N (zG_xs G (6 * N + 1)) (zG_xs G (6 * N + 2)) (by omega) M hI
  obtain ⟨h1, rfl⟩ := zR_some h1
  obtain ⟨h2, rfl⟩ := zR_some h2
  refine ⟨M2, ?_, h3⟩
  unfold lc_13
  simp (disch := omega) only [nIadd, zgd_in, nIc, zbd, zpr, h1, h2, Option.bind_some, reduceIte, show 6 * N + 6 = 6 * (N + 1) by omega]
theorem lc_ok_14 {G : zzG} {N : Nat} {M : zzMem} (hL : zG_L G ≤ 3072) (hN : 6 * N + 6 ≤ zG_L G) (hI : zIv N M) : lw_nx G N (lc_14 G (nI (6 * N)) M) := by
  obtain ⟨r, M1, M2, h1, h2, h3⟩ := op_chains N (zG_xs G (6 * N + 1)) (by omega) M hI
  obtain ⟨h1, rfl⟩ := zR_some h1
  obtain ⟨h2, rfl⟩ := zR_some h2
  refine ⟨M2, ?_, h3⟩
  unfold lc_14
  simp (disch := omega) only [nIadd, zgd_in, nIc, zbd, zpr, h1, h2, Option.bind_some, reduceIte, show 6 * N + 6 = 6 * (N + 1) by omega]
theorem lc_ok_15 {G : zzG} {N : Nat} {M : zzMem} (hL : zG_L G ≤ 3072) (hN : 6 * N + 6 ≤ zG_L G) (hI : zIv N M) : lw_nx G N (lc_15 G (nI (6 * N)) M) := by
  obtain ⟨r, M1, M2, h1, h2, h3⟩ := op_finds N (zG_xs G (6 * N + 1)) (by omega) M hI
  obtain ⟨h1, rfl⟩ := zR_some h1
  obtain ⟨h2, rfl⟩ := zR_some h2
  refine ⟨M2, ?_, h3⟩
  unfold lc_15
  simp (disch := omega) only [nIadd, zgd_in, nIc, zbd, zpr, h1, h2, Option.bind_some, reduceIte, show 6 * N + 6 = 6 * (N + 1) by omega]
theorem lc_ok_16 {G : zzG} {N : Nat} {M : zzMem} (hL : zG_L G ≤ 3072) (hN : 6 * N + 6 ≤ zG_L G) (hI : zIv N M) : lw_nx G N (lc_16 G (nI (6 * N)) M) := by
  obtain ⟨r, M1, M2, h1, h2, h3⟩ := op_next N (zG_xs G (6 * N + 1)) (by omega) M hI
  refine ⟨M2, ?_, h3⟩
  unfold lc_16
  simp (disch := omega) only [nIadd, zgd_in, nIc, zbd, zpr, h1, h2, Option.bind_some, reduceIte, show 6 * N + 6 = 6 * (N + 1) by omega]
theorem lc_ok_17 {G : zzG} {N : Nat} {M : zzMem} (hL : zG_L G ≤ 3072) (hN : 6 * N + 6 ≤ zG_L G) (hI : zIv N M) : lw_nx G N (lc_17 G (nI (6 * N)) M) := by
  obtain ⟨r, M1, M2, h1, h2, h3⟩ := op_parted N (zG_xs G (6 * N + 1)) (zG_xs G (6 * N + 2)) (by omega) M hI
  refine ⟨M2, ?_, h3⟩
  unfold lc_17
  simp (disch := omega) only [nIadd, zgd_in, nIc, zbd, zpr, h1, h2, Option.bind_some, reduceIte, show 6 * N + 6 = 6 * (N + 1) by omega]
theorem lc_ok_18 {G : zzG} {N : Nat} {M : zzMem} (hL : zG_L G ≤ 3072) (hN : 6 * N + 6 ≤ zG_L G) (hI : zIv N M) : lw_nx G N (lc_18 G (nI (6 * N)) M) := by
  obtain ⟨r, M1, M2, h1, h2, h3⟩ := op_enough N (zG_xs G (6 * N + 1)) (by omega) M hI
  refine ⟨M2, ?_, h3⟩
  unfold lc_18
  simp (disch := omega) only [nIadd, zgd_in, nIc, zbd, zpr, h1, h2, Option.bind_some, reduceIte, show 6 * N + 6 = 6 * (N + 1) by omega]
theorem lc_ok_19 {G : zzG} {N : Nat} {M : zzMem} (hL : zG_L G ≤ 3072) (hN : 6 * N + 6 ≤ zG_L G) (hI : zIv N M) : lw_nx G N (lc_19 G (nI (6 * N)) M) := by
  obtain ⟨r, M1, M2, h1, h2, h3⟩ := op_anew N (zG_xs G (6 * N + 1)) (zG_xs G (6 * N + 2)) (by omega) M hI
  refine ⟨M2, ?_, h3⟩
  unfold lc_19
  simp (disch := omega) only [nIadd, zgd_in, nIc, zbd, zpr, h1, h2, Option.bind_some, reduceIte, show 6 * N + 6 = 6 * (N + 1) by omega]
theorem lc_ok_20 {G : zzG} {N : Nat} {M : zzMem} (hL : zG_L G ≤ 3072) (hN : 6 * N + 6 ≤ zG_L G) (hI : zIv N M) : lw_nx G N (lc_20 G (nI (6 * N)) M) := by
  obtain ⟨r, M1, M2, h1, h2, h3⟩ := op_torn N (zG_xs G (6 * N + 1)) (zG_xs G (6 * N + 2)) (zG_xs G (6 * N + 3)) (by omega) M hI
  refine ⟨M2, ?_, h3⟩
  unfold lc_20
  simp (disch := omega) only [nIadd, zgd_in, nIc, zbd, zpr, h1, h2, Option.bind_some, reduceIte, show 6 * N + 6 = 6 * (N + 1) by omega]
theorem lc_ok_21 {G : zzG} {N : Nat} {M : zzMem} (hL : zG_L G ≤ 3072) (hN : 6 * N + 6 ≤ zG_L G) (hI : zIv N M) : lw_nx G N (lc_21 G (nI (6 * N)) M) := by
  obtain ⟨r, M1, M2, h1, h2, h3⟩ := op_grown N (zG_xs G (6 * N + 1)) (zG_xs G (6 * N + 2)) (by omega) M hI
  refine ⟨M2, ?_, h3⟩
  unfold lc_21
  simp (disch := omega) only [nIadd, zgd_in, nIc, zbd, zpr, h1, h2, Option.bind_some, reduceIte, show 6 * N + 6 = 6 * (N + 1) by omega]
theorem lc_ok_22 {G : zzG} {N : Nat} {M : zzMem} (hL : zG_L G ≤ 3072) (hN : 6 * N + 6 ≤ zG_L G) (hI : zIv N M) : lw_nx G N (lc_22 G (nI (6 * N)) M) := by
  obtain ⟨r, M1, M2, h1, h2, h3⟩ := op_tuned N (zG_xs G (6 * N + 1)) (by omega) M hI
  refine ⟨M2, ?_, h3⟩
  unfold lc_22
  simp (disch := omega) only [nIadd, zgd_in, nIc, zbd, zpr, h1, h2, Option.bind_some, reduceIte, show 6 * N + 6 = 6 * (N + 1) by omega]
theorem lc_ok_23 {G : zzG} {N : Nat} {M : zzMem} (hL : zG_L G ≤ 3072) (hN : 6 * N + 6 ≤ zG_L G) (hI : zIv N M) : lw_nx G N (lc_23 G (nI (6 * N)) M) := by
  obtain ⟨r, M1, M2, h1, h2, h3⟩ := op_signs N (zG_xs G (6 * N + 1)) (by omega) M hI
  refine ⟨M2, ?_, h3⟩
  unfold lc_23
  simp (disch := omega) only [nIadd, zgd_in, nIc, zbd, zpr, h1, h2, Option.bind_some, reduceIte, show 6 * N + 6 = 6 * (N + 1) by omega]
theorem lc_ok_24 {G : zzG} {N : Nat} {M : zzMem} (hL : zG_L G ≤ 3072) (hN : 6 * N + 6 ≤ zG_L G) (hI : zIv N M) : lw_nx G N (lc_24 G (nI (6 * N)) M) := by
  obtain ⟨r, M1, M2, h1, h2, h3⟩ := op_passed N (zG_xs G (6 * N + 1)) (by omega) M hI
  refine ⟨M2, ?_, h3⟩
  unfold lc_24
  simp (disch := omega) only [nIadd, zgd_in, nIc, zbd, zpr, h1, h2, Option.bind_some, reduceIte, show 6 * N + 6 = 6 * (N + 1) by omega]
theorem lc_ok_25 {G : zzG} {N : Nat} {M : zzMem} (hL : zG_L G ≤ 3072) (hN : 6 * N + 6 ≤ zG_L G) (hI : zIv N M) : lw_nx G N (lc_25 G (nI (6 * N)) M) := by
  obtain ⟨r, M1, M2, h1, h2, h3⟩ := op_costing N (zG_xs G (6 * N + 1)) (by omega) M hI
  obtain ⟨h1, rfl⟩ := zR_some h1
  obtain ⟨h2, rfl⟩ := zR_some h2
  refine ⟨M2, ?_, h3⟩
  unfold lc_25
  simp (disch := omega) only [nIadd, zgd_in, nIc, zbd, zpr, h1, h2, Option.bind_some, reduceIte, show 6 * N + 6 = 6 * (N + 1) by omega]
theorem lc_ok_26 {G : zzG} {N : Nat} {M : zzMem} (hL : zG_L G ≤ 3072) (hN : 6 * N + 6 ≤ zG_L G) (hI : zIv N M) : lw_nx G N (lc_26 G (nI (6 * N)) M) := by
  obtain ⟨r, M1, M2, h1, h2, h3⟩ := op_since N (zG_xs G (6 * N + 1)) (by omega) M hI
  refine ⟨M2, ?_, h3⟩
  unfold lc_26
  simp (disch := omega) only [nIadd, zgd_in, nIc, zbd, zpr, h1, h2, Option.bind_some, reduceIte, show 6 * N + 6 = 6 * (N + 1) by omega]
theorem lc_ok_27 {G : zzG} {N : Nat} {M : zzMem} (hL : zG_L G ≤ 3072) (hN : 6 * N + 6 ≤ zG_L G) (hI : zIv N M) : lw_nx G N (lc_27 G (nI (6 * N)) M) := by
  obtain ⟨r, M1, M2, h1, h2, h3⟩ := op_alike N (zG_xs G (6 * N + 1)) (by omega) M hI
  obtain ⟨h1, rfl⟩ := zR_some h1
  refine ⟨M2, ?_, h3⟩
  unfold lc_27
  simp (disch := omega) only [nIadd, zgd_in, nIc, zbd, zpr, h1, h2, Option.bind_some, reduceIte, show 6 * N + 6 = 6 * (N + 1) by omega]
theorem lc_ok_28 {G : zzG} {N : Nat} {M : zzMem} (hL : zG_L G ≤ 3072) (hN : 6 * N + 6 ≤ zG_L G) (hI : zIv N M) : lw_nx G N (lc_28 G (nI (6 * N)) M) := by
  obtain ⟨r, M1, M2, h1, h2, h3⟩ := op_inOrder N (zG_xs G (6 * N + 1)) (by omega) M hI
  obtain ⟨h1, rfl⟩ := zR_some h1
  refine ⟨M2, ?_, h3⟩
  unfold lc_28
  simp (disch := omega) only [nIadd, zgd_in, nIc, zbd, zpr, h1, h2, Option.bind_some, reduceIte, show 6 * N + 6 = 6 * (N + 1) by omega]
theorem lc_ok_29 {G : zzG} {N : Nat} {M : zzMem} (hL : zG_L G ≤ 3072) (hN : 6 * N + 6 ≤ zG_L G) (hI : zIv N M) : lw_nx G N (lc_29 G (nI (6 * N)) M) := by
  obtain ⟨r, M1, M2, h1, h2, h3⟩ := op_between N (zG_xs G (6 * N + 1)) (zG_xs G (6 * N + 2)) (by omega) M hI
  obtain ⟨h1, rfl⟩ := zR_some h1
  obtain ⟨h2, rfl⟩ := zR_some h2
  refine ⟨M2, ?_, h3⟩
  unfold lc_29
  simp (disch := omega) only [nIadd, zgd_in, nIc, zbd, zpr, h1, h2, Option.bind_some, reduceIte, show 6 * N + 6 = 6 * (N + 1) by omega]
theorem lc_ok_30 {G : zzG} {N : Nat} {M : zzMem} (hL : zG_L G ≤ 3072) (hN : 6 * N + 6 ≤ zG_L G) (hI : zIv N M) : lw_nx G N (lc_30 G (nI (6 * N)) M) := by
  obtain ⟨r, M1, M2, h1, h2, h3⟩ := op_bits N (zG_xs G (6 * N + 1)) (zG_xs G (6 * N + 2)) (zG_xs G (6 * N + 3)) (by omega) M hI
  refine ⟨M2, ?_, h3⟩
  unfold lc_30
  simp (disch := omega) only [nIadd, zgd_in, nIc, zbd, zpr, h1, h2, Option.bind_some, reduceIte, show 6 * N + 6 = 6 * (N + 1) by omega]
theorem lc_ok_31 {G : zzG} {N : Nat} {M : zzMem} (hL : zG_L G ≤ 3072) (hN : 6 * N + 6 ≤ zG_L G) (hI : zIv N M) : lw_nx G N (lc_31 G (nI (6 * N)) M) := by
  obtain ⟨r, M1, M2, h1, h2, h3⟩ := op_scan N  (by omega) M hI
  refine ⟨M2, ?_, h3⟩
  unfold lc_31
  simp (disch := omega) only [nIadd, zgd_in, nIc, zbd, zpr, h1, h2, Option.bind_some, reduceIte, show 6 * N + 6 = 6 * (N + 1) by omega]
theorem lc_ok_32 {G : zzG} {N : Nat} {M : zzMem} (hL : zG_L G ≤ 3072) (hN : 6 * N + 6 ≤ zG_L G) (hI : zIv N M) : lw_nx G N (lc_32 G (nI (6 * N)) M) := by
  obtain ⟨r, M1, M2, h1, h2, h3⟩ := op_tell N (zG_xs G (6 * N + 1)) (by omega) M hI
  refine ⟨M2, ?_, h3⟩
  unfold lc_32
  simp (disch := omega) only [nIadd, zgd_in, nIc, zbd, zpr, h1, h2, Option.bind_some, reduceIte, show 6 * N + 6 = 6 * (N + 1) by omega]
theorem lc_ok_33 {G : zzG} {N : Nat} {M : zzMem} (hL : zG_L G ≤ 3072) (hN : 6 * N + 6 ≤ zG_L G) (hI : zIv N M) : lw_nx G N (lc_33 G (nI (6 * N)) M) := by
  obtain ⟨r, M1, M2, h1, h2, h3⟩ := op_scanIs N (zG_xs G (6 * N + 1)) (zG_xs G (6 * N + 2)) (by omega) M hI
  refine ⟨M2, ?_, h3⟩
  unfold lc_33
  simp (disch := omega) only [nIadd, zgd_in, nIc, zbd, zpr, h1, h2, Option.bind_some, reduceIte, show 6 * N + 6 = 6 * (N + 1) by omega]
theorem lc_ok_34 {G : zzG} {N : Nat} {M : zzMem} (hL : zG_L G ≤ 3072) (hN : 6 * N + 6 ≤ zG_L G) (hI : zIv N M) : lw_nx G N (lc_34 G (nI (6 * N)) M) := by
  obtain ⟨r, M1, M2, h1, h2, h3⟩ := op_reach N (zG_xs G (6 * N + 1)) (by omega) M hI
  refine ⟨M2, ?_, h3⟩
  unfold lc_34
  simp (disch := omega) only [nIadd, zgd_in, nIc, zbd, zpr, h1, h2, Option.bind_some, reduceIte, show 6 * N + 6 = 6 * (N + 1) by omega]
theorem lc_ok_35 {G : zzG} {N : Nat} {M : zzMem} (hL : zG_L G ≤ 3072) (hN : 6 * N + 6 ≤ zG_L G) (hI : zIv N M) : lw_nx G N (lc_35 G (nI (6 * N)) M) := by
  obtain ⟨r, M1, M2, h1, h2, h3⟩ := op_ends N (zG_xs G (6 * N + 1)) (by omega) M hI
  refine ⟨M2, ?_, h3⟩
  unfold lc_35
  simp (disch := omega) only [nIadd, zgd_in, nIc, zbd, zpr, h1, h2, Option.bind_some, reduceIte, show 6 * N + 6 = 6 * (N + 1) by omega]
theorem lc_ok_36 {G : zzG} {N : Nat} {M : zzMem} (hL : zG_L G ≤ 3072) (hN : 6 * N + 6 ≤ zG_L G) (hI : zIv N M) : lw_nx G N (lc_36 G (nI (6 * N)) M) := by
  obtain ⟨r, M1, M2, h1, h2, h3⟩ := op_seed N (zG_xs G (6 * N + 1)) (by omega) M hI
  refine ⟨M2, ?_, h3⟩
  unfold lc_36
  simp (disch := omega) only [nIadd, zgd_in, nIc, zbd, zpr, h1, h2, Option.bind_some, reduceIte, show 6 * N + 6 = 6 * (N + 1) by omega]
theorem lc_ok_37 {G : zzG} {N : Nat} {M : zzMem} (hL : zG_L G ≤ 3072) (hN : 6 * N + 6 ≤ zG_L G) (hI : zIv N M) : lw_nx G N (lc_37 G (nI (6 * N)) M) := by
  obtain ⟨r, M1, M2, h1, h2, h3⟩ := op_keep N  (by omega) M hI
  refine ⟨M2, ?_, h3⟩
  unfold lc_37
  simp (disch := omega) only [nIadd, zgd_in, nIc, zbd, zpr, h1, h2, Option.bind_some, reduceIte, show 6 * N + 6 = 6 * (N + 1) by omega]
theorem lc_ok_38 {G : zzG} {N : Nat} {M : zzMem} (hL : zG_L G ≤ 3072) (hN : 6 * N + 6 ≤ zG_L G) (hI : zIv N M) : lw_nx G N (lc_38 G (nI (6 * N)) M) := by
  obtain ⟨r, M1, M2, h1, h2, h3⟩ := op_undo N  (by omega) M hI
  refine ⟨M2, ?_, h3⟩
  unfold lc_38
  simp (disch := omega) only [nIadd, zgd_in, nIc, zbd, zpr, h1, h2, Option.bind_some, reduceIte, show 6 * N + 6 = 6 * (N + 1) by omega]
theorem lc_ok_39 {G : zzG} {N : Nat} {M : zzMem} (hL : zG_L G ≤ 3072) (hN : 6 * N + 6 ≤ zG_L G) (hI : zIv N M) : lw_nx G N (lc_39 G (nI (6 * N)) M) := by
  obtain ⟨r, M1, M2, h1, h2, h3⟩ := op_check N (zG_xs G (6 * N + 1)) (by omega) M hI
  refine ⟨M2, ?_, h3⟩
  unfold lc_39
  simp (disch := omega) only [nIadd, zgd_in, nIc, zbd, zpr, h1, h2, Option.bind_some, reduceIte, show 6 * N + 6 = 6 * (N + 1) by omega]
theorem lc_ok_40 {G : zzG} {N : Nat} {M : zzMem} (hL : zG_L G ≤ 3072) (hN : 6 * N + 6 ≤ zG_L G) (hI : zIv N M) : lw_nx G N (lc_40 G (nI (6 * N)) M) := by
  obtain ⟨r, M1, M2, h1, h2, h3⟩ := op_count N (zG_xs G (6 * N + 1)) (by omega) M hI
  obtain ⟨h1, rfl⟩ := zR_some h1
  obtain ⟨h2, rfl⟩ := zR_some h2
  refine ⟨M2, ?_, h3⟩
  unfold lc_40
  simp (disch := omega) only [nIadd, zgd_in, nIc, zbd, zpr, h1, h2, Option.bind_some, reduceIte, show 6 * N + 6 = 6 * (N + 1) by omega]
theorem lc_ok_41 {G : zzG} {N : Nat} {M : zzMem} (hI : zIv N M) : lw_nx G N (lc_41 G (nI (6 * N)) M) := by
  refine ⟨M, ?_, hI.up⟩
  unfold lc_41
  simp only [nIadd, zbd, show 6 * N + 6 = 6 * (N + 1) by omega]
theorem law_step (G : zzG) (hL : zG_L G ≤ 3072) (N : Nat) (M : zzMem) (hN : 6 * N + 6 ≤ zG_L G) (hI : zIv N M) : lw_nx G N (b_L_law_18 G (nI (6 * N)) M) := by
  obtain ⟨w, hw64, hw⟩ : ∃ w, w < 64 ∧ zG_xs G (6 * N) &&& nI 63 = nI w := pk_andE _ 6 (by decide)
  rw [b_law_eq, show Int32.ofNat (zG_L G) = nI (zG_L G) from rfl, nIsub (by omega), ifLt_f (by omega) (by omega), zgd_in (by omega) (by omega), nIc (by omega), hw]
  rcases (show w = 0 ∨ w = 1 ∨ w = 2 ∨ w = 3 ∨ w = 4 ∨ w = 5 ∨ w = 6 ∨ w = 7 ∨ w = 8 ∨ w = 9 ∨ w = 10 ∨ w = 11 ∨ w = 12 ∨ w = 13 ∨ w = 14 ∨ w = 15 ∨ w = 16 ∨ w = 17 ∨ w = 18 ∨ w = 19 ∨ w = 20 ∨ w = 21 ∨ w = 22 ∨ w = 23 ∨ w = 24 ∨ w = 25 ∨ w = 26 ∨ w = 27 ∨ w = 28 ∨ w = 29 ∨ w = 30 ∨ w = 31 ∨ w = 32 ∨ w = 33 ∨ w = 34 ∨ w = 35 ∨ w = 36 ∨ w = 37 ∨ w = 38 ∨ w = 39 ∨ w = 40 ∨ 41 ≤ w by omega) with rfl | rfl | rfl | rfl | rfl | rfl | rfl | rfl | rfl | rfl | rfl | rfl | rfl | rfl | rfl | rfl | rfl | rfl | rfl | rfl | rfl | rfl | rfl | rfl | rfl | rfl | rfl | rfl | rfl | rfl | rfl | rfl | rfl | rfl | rfl | rfl | rfl | rfl | rfl | rfl | rfl | hw
  · rw [lc_at_0]; exact lc_ok_0 hL hN hI
  · rw [lc_at_1]; exact lc_ok_1 hL hN hI
  · rw [lc_at_2]; exact lc_ok_2 hL hN hI
  · rw [lc_at_3]; exact lc_ok_3 hL hN hI
  · rw [lc_at_4]; exact lc_ok_4 hL hN hI
  · rw [lc_at_5]; exact lc_ok_5 hL hN hI
  · rw [lc_at_6]; exact lc_ok_6 hL hN hI
  · rw [lc_at_7]; exact lc_ok_7 hL hN hI
  · rw [lc_at_8]; exact lc_ok_8 hL hN hI
  · rw [lc_at_9]; exact lc_ok_9 hL hN hI
  · rw [lc_at_10]; exact lc_ok_10 hL hN hI
  · rw [lc_at_11]; exact lc_ok_11 hL hN hI
  · rw [lc_at_12]; exact lc_ok_12 hL hN hI
  · rw [lc_at_13]; exact lc_ok_13 hL hN hI
  · rw [lc_at_14]; exact lc_ok_14 hL hN hI
  · rw [lc_at_15]; exact lc_ok_15 hL hN hI
  · rw [lc_at_16]; exact lc_ok_16 hL hN hI
  · rw [lc_at_17]; exact lc_ok_17 hL hN hI
  · rw [lc_at_18]; exact lc_ok_18 hL hN hI
  · rw [lc_at_19]; exact lc_ok_19 hL hN hI
  · rw [lc_at_20]; exact lc_ok_20 hL hN hI
  · rw [lc_at_21]; exact lc_ok_21 hL hN hI
  · rw [lc_at_22]; exact lc_ok_22 hL hN hI
  · rw [lc_at_23]; exact lc_ok_23 hL hN hI
  · rw [lc_at_24]; exact lc_ok_24 hL hN hI
  · rw [lc_at_25]; exact lc_ok_25 hL hN hI
  · rw [lc_at_26]; exact lc_ok_26 hL hN hI
  · rw [lc_at_27]; exact lc_ok_27 hL hN hI
  · rw [lc_at_28]; exact lc_ok_28 hL hN hI
  · rw [lc_at_29]; exact lc_ok_29 hL hN hI
  · rw [lc_at_30]; exact lc_ok_30 hL hN hI
  · rw [lc_at_31]; exact lc_ok_31 hL hN hI
  · rw [lc_at_32]; exact lc_ok_32 hL hN hI
  · rw [lc_at_33]; exact lc_ok_33 hL hN hI
  · rw [lc_at_34]; exact lc_ok_34 hL hN hI
  · rw [lc_at_35]; exact lc_ok_35 hL hN hI
  · rw [lc_at_36]; exact lc_ok_36 hL hN hI
  · rw [lc_at_37]; exact lc_ok_37 hL hN hI
  · rw [lc_at_38]; exact lc_ok_38 hL hN hI
  · rw [lc_at_39]; exact lc_ok_39 hL hN hI
  · rw [lc_at_40]; exact lc_ok_40 hL hN hI
  · rw [lc_at_41 hw hw64]; exact lc_ok_41 hI
theorem zz_loop (G : zzG) (hL : zG_L G ≤ 3072) (M : zzMem) (hI : zIv 0 M) : zK (j_L_law_18 G (nI 0) M) (fun r => r.1 = true) := by
  unfold j_L_law_18
  have := zlp_inv (B := fun s : (Int32 × zzMem) => b_L_law_18 G s.1 s.2) (fun s => ∃ N, s.1 = nI (6 * N) ∧ 6 * N ≤ zG_L G ∧ zIv N s.2) (fun r => r.1 = true) (fun s => 4000 - s.1.toNatClampNeg) (fun s hs => ?_) (nI 0, M) ⟨0, rfl, by omega, hI⟩
  · obtain ⟨r, h1, h2⟩ := this
    exact ⟨r, h1, h2⟩
  · obtain ⟨x, M⟩ := s
    obtain ⟨N, rfl, hN, hI⟩ := hs
    by_cases h6 : 6 * N + 6 ≤ zG_L G
    · left
      obtain ⟨M2, g1, g2⟩ := law_step G hL N M h6 hI
      refine ⟨(nI (6 * (N + 1)), M2), g1, ⟨N + 1, rfl, by omega, g2⟩, ?_⟩
      show 4000 - (nI (6 * (N + 1))).toNatClampNeg < 4000 - (nI (6 * N)).toNatClampNeg
      rw [nIc (by omega), nIc (by omega)]
      omega
    · right
      refine ⟨(true, M), ?_, rfl⟩
      show b_L_law_18 G (nI (6 * N)) M = _
      unfold b_L_law_18
      rw [show Int32.ofNat (zG_L G) = nI (zG_L G) from rfl]
      rw [if_pos]
      by_cases h0 : 6 ≤ zG_L G
      · rw [nIsub h0]
        exact nI_lt (by omega) (by omega)
      · have h1 : nI (zG_L G) - nI 6 < 0 := pk_sneg (by decide) (by omega)
        rw [Int32.lt_iff_toInt_lt] at h1 ⊢
        rw [nI_toInt (by omega)]
        have h00 : (0 : Int32).toInt = 0 := by decide
        omega
/-- what the two constructors leave -/
theorem zz_pure (G : zzG) (hL : zG_L G ≤ 3072) : zK (f_L_law G) (fun r => r.1 = true) := by
  obtain ⟨M2, M4, h1, h2, h3⟩ := zz_init
  unfold f_L_law
  simp only [zbd, h1, h2, Option.bind_some]
  exact zz_loop G hL M4 h3
