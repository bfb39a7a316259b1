theorem zz_TL {μ' : zzMI} (h1 : zM_mc μ' = 0) (h2 : zM_ms μ' = 0) : zz_T m_L_law μ' 0 180 180 := by
  refine ⟨by rw [h1]; rfl, by rw [h2]; rfl, by decide +kernel, by decide +kernel⟩
noncomputable def b_L_law_18 (G : zzG) (v3 : Int32) (M : zzMem) : Option ((Int32 × zzMem) ⊕ (Bool × zzMem)) :=
  if ((Int32.ofNat (zG_L G)) - (nI 6)) < v3 then
  (some ((.inr (true, M))))
  else (zgd (vp_in v3 (zG_L G)) (
  if ((zG_xs G (v3).toNatClampNeg) &&& (nI 63)) = (nI 0) then
  (zgd (vp_in (v3 + (nI 1)) (zG_L G)) (
  zgd (vp_in (v3 + (nI 2)) (zG_L G)) (
  zgd (vp_in (v3 + (nI 3)) (zG_L G)) (
  zgd (vp_in (v3 + (nI 4)) (zG_L G)) (
  zgd (vp_in (v3 + (nI 5)) (zG_L G)) (
  (f_X9_feed (zG_xs G ((v3 + (nI 1))).toNatClampNeg) (zG_xs G ((v3 + (nI 2))).toNatClampNeg) (zG_xs G ((v3 + (nI 3))).toNatClampNeg) (zG_xs G ((v3 + (nI 4))).toNatClampNeg) (zG_xs G ((v3 + (nI 5))).toNatClampNeg) M).bind (fun q9 => zpr q9 (fun r10 M11 =>
  (f_X10_feed (zG_xs G ((v3 + (nI 1))).toNatClampNeg) (zG_xs G ((v3 + (nI 2))).toNatClampNeg) (zG_xs G ((v3 + (nI 3))).toNatClampNeg) (zG_xs G ((v3 + (nI 4))).toNatClampNeg) (zG_xs G ((v3 + (nI 5))).toNatClampNeg) M11).bind (fun q12 => zpr q12 (fun r13 M14 =>
  if r10 = r13 then
  (zbd (v3 + (nI 6)) (fun x16 =>
  some (.inl (x16, M14))))
  else (some ((.inr (false, M14))))))))))))))
  else if ((zG_xs G (v3).toNatClampNeg) &&& (nI 63)) = (nI 1) then
  (zgd (vp_in (v3 + (nI 1)) (zG_L G)) (
  zgd (vp_in (v3 + (nI 2)) (zG_L G)) (
  zgd (vp_in (v3 + (nI 3)) (zG_L G)) (
  zgd (vp_in (v3 + (nI 4)) (zG_L G)) (
  zgd (vp_in (v3 + (nI 5)) (zG_L G)) (
  (f_X9_shape (zG_xs G ((v3 + (nI 1))).toNatClampNeg) (zG_xs G ((v3 + (nI 2))).toNatClampNeg) (zG_xs G ((v3 + (nI 3))).toNatClampNeg) (zG_xs G ((v3 + (nI 4))).toNatClampNeg) (zG_xs G ((v3 + (nI 5))).toNatClampNeg) M).bind (fun q23 => zpr q23 (fun r24 M25 =>
  (f_X10_shape (zG_xs G ((v3 + (nI 1))).toNatClampNeg) (zG_xs G ((v3 + (nI 2))).toNatClampNeg) (zG_xs G ((v3 + (nI 3))).toNatClampNeg) (zG_xs G ((v3 + (nI 4))).toNatClampNeg) (zG_xs G ((v3 + (nI 5))).toNatClampNeg) M25).bind (fun q26 => zpr q26 (fun r27 M28 =>
  if (zb r24) = (zb r27) then
  (zbd (v3 + (nI 6)) (fun x30 =>
  some (.inl (x30, M28))))
  else (some ((.inr (false, M28))))))))))))))
  else if ((zG_xs G (v3).toNatClampNeg) &&& (nI 63)) = (nI 2) then
  (zgd (vp_in (v3 + (nI 1)) (zG_L G)) (
  (f_X9_law (zG_xs G ((v3 + (nI 1))).toNatClampNeg) M).bind (fun q33 => zpr q33 (fun r34 M35 =>
  (f_X10_law (zG_xs G ((v3 + (nI 1))).toNatClampNeg) M35).bind (fun q36 => zpr q36 (fun r37 M38 =>
  if r34 = r37 then
  (zbd (v3 + (nI 6)) (fun x40 =>
  some (.inl (x40, M38))))
  else (some ((.inr (false, M38))))))))))
  else if ((zG_xs G (v3).toNatClampNeg) &&& (nI 63)) = (nI 3) then
  (zgd (vp_in (v3 + (nI 1)) (zG_L G)) (
  (f_X9_work (zG_xs G ((v3 + (nI 1))).toNatClampNeg) M).bind (fun q43 => zpr q43 (fun r44 M45 =>
  (f_X10_work (zG_xs G ((v3 + (nI 1))).toNatClampNeg) M45).bind (fun q46 => zpr q46 (fun r47 M48 =>
  if r44 = r47 then
  (zbd (v3 + (nI 6)) (fun x50 =>
  some (.inl (x50, M48))))
  else (some ((.inr (false, M48))))))))))
  else if ((zG_xs G (v3).toNatClampNeg) &&& (nI 63)) = (nI 4) then
  (zgd (vp_in (v3 + (nI 1)) (zG_L G)) (
  zgd (vp_in (v3 + (nI 2)) (zG_L G)) (
  (f_X9_put (zG_xs G ((v3 + (nI 1))).toNatClampNeg) (zG_xs G ((v3 + (nI 2))).toNatClampNeg) M).bind (fun q54 => zpr q54 (fun r55 M56 =>
  (f_X10_put (zG_xs G ((v3 + (nI 1))).toNatClampNeg) (zG_xs G ((v3 + (nI 2))).toNatClampNeg) M56).bind (fun q57 => zpr q57 (fun r58 M59 =>
  if r55 = r58 then
  (zbd (v3 + (nI 6)) (fun x61 =>
  some (.inl (x61, M59))))
  else (some ((.inr (false, M59)))))))))))
  else if ((zG_xs G (v3).toNatClampNeg) &&& (nI 63)) = (nI 5) then
  (zgd (vp_in (v3 + (nI 1)) (zG_L G)) (
  (f_X9_find (zG_xs G ((v3 + (nI 1))).toNatClampNeg) M).bind (fun q64 => zpr q64 (fun r65 M66 =>
  (f_X10_find (zG_xs G ((v3 + (nI 1))).toNatClampNeg) M66).bind (fun q67 => zpr q67 (fun r68 M69 =>
  if r65 = r68 then
  (zbd (v3 + (nI 6)) (fun x71 =>
  some (.inl (x71, M69))))
  else (some ((.inr (false, M69))))))))))
  else if ((zG_xs G (v3).toNatClampNeg) &&& (nI 63)) = (nI 6) then
  (zgd (vp_in (v3 + (nI 1)) (zG_L G)) (
  (f_X9_drop (zG_xs G ((v3 + (nI 1))).toNatClampNeg) M).bind (fun q74 => zpr q74 (fun r75 M76 =>
  (f_X10_drop (zG_xs G ((v3 + (nI 1))).toNatClampNeg) M76).bind (fun q77 => zpr q77 (fun r78 M79 =>
  if r75 = r78 then
  (zbd (v3 + (nI 6)) (fun x81 =>
  some (.inl (x81, M79))))
  else (some ((.inr (false, M79))))))))))
  else if ((zG_xs G (v3).toNatClampNeg) &&& (nI 63)) = (nI 7) then
  ((f_X9_split M).bind (fun q83 => zpr q83 (fun r84 M85 =>
  (f_X10_split M85).bind (fun q86 => zpr q86 (fun r87 M88 =>
  if r84 = r87 then
  (zbd (v3 + (nI 6)) (fun x90 =>
  some (.inl (x90, M88))))
  else (some ((.inr (false, M88)))))))))
  else if ((zG_xs G (v3).toNatClampNeg) &&& (nI 63)) = (nI 8) then
  ((f_X9_join M).bind (fun q92 => zpr q92 (fun r93 M94 =>
  (f_X10_join M94).bind (fun q95 => zpr q95 (fun r96 M97 =>
  if r93 = r96 then
  (zbd (v3 + (nI 6)) (fun x99 =>
  some (.inl (x99, M97))))
  else (some ((.inr (false, M97)))))))))
  else if ((zG_xs G (v3).toNatClampNeg) &&& (nI 63)) = (nI 9) then
  (zgd (vp_in (v3 + (nI 1)) (zG_L G)) (
  (f_X9_fileIs (zG_xs G ((v3 + (nI 1))).toNatClampNeg) M).bind (fun r102 =>
  (f_X10_fileIs (zG_xs G ((v3 + (nI 1))).toNatClampNeg) M).bind (fun r103 =>
  if r102 = r103 then
  (zbd (v3 + (nI 6)) (fun x105 =>
  some (.inl (x105, M))))
  else (some ((.inr (false, M))))))))
  else if ((zG_xs G (v3).toNatClampNeg) &&& (nI 63)) = (nI 10) then
  (zgd (vp_in (v3 + (nI 1)) (zG_L G)) (
  zgd (vp_in (v3 + (nI 2)) (zG_L G)) (
  (f_X9_keyIs (zG_xs G ((v3 + (nI 1))).toNatClampNeg) (zG_xs G ((v3 + (nI 2))).toNatClampNeg) M).bind (fun q109 => zpr q109 (fun r110 M111 =>
  (f_X10_keyIs (zG_xs G ((v3 + (nI 1))).toNatClampNeg) (zG_xs G ((v3 + (nI 2))).toNatClampNeg) M111).bind (fun q112 => zpr q112 (fun r113 M114 =>
  if r110 = r113 then
  (zbd (v3 + (nI 6)) (fun x116 =>
  some (.inl (x116, M114))))
  else (some ((.inr (false, M114)))))))))))
  else if ((zG_xs G (v3).toNatClampNeg) &&& (nI 63)) = (nI 11) then
  (zgd (vp_in (v3 + (nI 1)) (zG_L G)) (
  zgd (vp_in (v3 + (nI 2)) (zG_L G)) (
  (f_X9_where (zG_xs G ((v3 + (nI 1))).toNatClampNeg) (zG_xs G ((v3 + (nI 2))).toNatClampNeg) M).bind (fun q120 => zpr q120 (fun r121 M122 =>
  (f_X10_where (zG_xs G ((v3 + (nI 1))).toNatClampNeg) (zG_xs G ((v3 + (nI 2))).toNatClampNeg) M122).bind (fun q123 => zpr q123 (fun r124 M125 =>
  if r121 = r124 then
  (zbd (v3 + (nI 6)) (fun x127 =>
  some (.inl (x127, M125))))
  else (some ((.inr (false, M125)))))))))))
  else if ((zG_xs G (v3).toNatClampNeg) &&& (nI 63)) = (nI 12) then
  (zgd (vp_in (v3 + (nI 1)) (zG_L G)) (
  zgd (vp_in (v3 + (nI 2)) (zG_L G)) (
  (f_X9_bucket (zG_xs G ((v3 + (nI 1))).toNatClampNeg) (zG_xs G ((v3 + (nI 2))).toNatClampNeg) M).bind (fun r131 =>
  (f_X10_bucket (zG_xs G ((v3 + (nI 1))).toNatClampNeg) (zG_xs G ((v3 + (nI 2))).toNatClampNeg) M).bind (fun r132 =>
  if r131 = r132 then
  (zbd (v3 + (nI 6)) (fun x134 =>
  some (.inl (x134, M))))
  else (some ((.inr (false, M)))))))))
  else if ((zG_xs G (v3).toNatClampNeg) &&& (nI 63)) = (nI 13) then
  (zgd (vp_in (v3 + (nI 1)) (zG_L G)) (
  zgd (vp_in (v3 + (nI 2)) (zG_L G)) (
  (f_X9_page (zG_xs G ((v3 + (nI 1))).toNatClampNeg) (zG_xs G ((v3 + (nI 2))).toNatClampNeg) M).bind (fun r138 =>
  (f_X10_page (zG_xs G ((v3 + (nI 1))).toNatClampNeg) (zG_xs G ((v3 + (nI 2))).toNatClampNeg) M).bind (fun r139 =>
  if r138 = r139 then
  (zbd (v3 + (nI 6)) (fun x141 =>
  some (.inl (x141, M))))
  else (some ((.inr (false, M)))))))))
  else if ((zG_xs G (v3).toNatClampNeg) &&& (nI 63)) = (nI 14) then
  (zgd (vp_in (v3 + (nI 1)) (zG_L G)) (
  (f_X9_chains (zG_xs G ((v3 + (nI 1))).toNatClampNeg) M).bind (fun r144 =>
  (f_X10_chains (zG_xs G ((v3 + (nI 1))).toNatClampNeg) M).bind (fun r145 =>
  if r144 = r145 then
  (zbd (v3 + (nI 6)) (fun x147 =>
  some (.inl (x147, M))))
  else (some ((.inr (false, M))))))))
  else if ((zG_xs G (v3).toNatClampNeg) &&& (nI 63)) = (nI 15) then
  (zgd (vp_in (v3 + (nI 1)) (zG_L G)) (
  (f_X9_finds (zG_xs G ((v3 + (nI 1))).toNatClampNeg) M).bind (fun r150 =>
  (f_X10_finds (zG_xs G ((v3 + (nI 1))).toNatClampNeg) M).bind (fun r151 =>
  if r150 = r151 then
  (zbd (v3 + (nI 6)) (fun x153 =>
  some (.inl (x153, M))))
  else (some ((.inr (false, M))))))))
  else if ((zG_xs G (v3).toNatClampNeg) &&& (nI 63)) = (nI 16) then
  (zgd (vp_in (v3 + (nI 1)) (zG_L G)) (
  (f_X9_next (zG_xs G ((v3 + (nI 1))).toNatClampNeg) M).bind (fun q156 => zpr q156 (fun r157 M158 =>
  (f_X10_next (zG_xs G ((v3 + (nI 1))).toNatClampNeg) M158).bind (fun q159 => zpr q159 (fun r160 M161 =>
  if r157 = r160 then
  (zbd (v3 + (nI 6)) (fun x163 =>
  some (.inl (x163, M161))))
  else (some ((.inr (false, M161))))))))))
  else if ((zG_xs G (v3).toNatClampNeg) &&& (nI 63)) = (nI 17) then
  (zgd (vp_in (v3 + (nI 1)) (zG_L G)) (
  zgd (vp_in (v3 + (nI 2)) (zG_L G)) (
  (f_X9_parted (zG_xs G ((v3 + (nI 1))).toNatClampNeg) (zG_xs G ((v3 + (nI 2))).toNatClampNeg) M).bind (fun q167 => zpr q167 (fun r168 M169 =>
  (f_X10_parted (zG_xs G ((v3 + (nI 1))).toNatClampNeg) (zG_xs G ((v3 + (nI 2))).toNatClampNeg) M169).bind (fun q170 => zpr q170 (fun r171 M172 =>
  if r168 = r171 then
  (zbd (v3 + (nI 6)) (fun x174 =>
  some (.inl (x174, M172))))
  else (some ((.inr (false, M172)))))))))))
  else if ((zG_xs G (v3).toNatClampNeg) &&& (nI 63)) = (nI 18) then
  (zgd (vp_in (v3 + (nI 1)) (zG_L G)) (
  (f_X9_enough (zG_xs G ((v3 + (nI 1))).toNatClampNeg) M).bind (fun q177 => zpr q177 (fun r178 M179 =>
  (f_X10_enough (zG_xs G ((v3 + (nI 1))).toNatClampNeg) M179).bind (fun q180 => zpr q180 (fun r181 M182 =>
  if r178 = r181 then
  (zbd (v3 + (nI 6)) (fun x184 =>
  some (.inl (x184, M182))))
  else (some ((.inr (false, M182))))))))))
  else if ((zG_xs G (v3).toNatClampNeg) &&& (nI 63)) = (nI 19) then
  (zgd (vp_in (v3 + (nI 1)) (zG_L G)) (
  zgd (vp_in (v3 + (nI 2)) (zG_L G)) (
  (f_X9_anew (zG_xs G ((v3 + (nI 1))).toNatClampNeg) (zG_xs G ((v3 + (nI 2))).toNatClampNeg) M).bind (fun q188 => zpr q188 (fun r189 M190 =>
  (f_X10_anew (zG_xs G ((v3 + (nI 1))).toNatClampNeg) (zG_xs G ((v3 + (nI 2))).toNatClampNeg) M190).bind (fun q191 => zpr q191 (fun r192 M193 =>
  if r189 = r192 then
  (zbd (v3 + (nI 6)) (fun x195 =>
  some (.inl (x195, M193))))
  else (some ((.inr (false, M193)))))))))))
  else if ((zG_xs G (v3).toNatClampNeg) &&& (nI 63)) = (nI 20) then
  (zgd (vp_in (v3 + (nI 1)) (zG_L G)) (
  zgd (vp_in (v3 + (nI 2)) (zG_L G)) (
  zgd (vp_in (v3 + (nI 3)) (zG_L G)) (
  (f_X9_torn (zG_xs G ((v3 + (nI 1))).toNatClampNeg) (zG_xs G ((v3 + (nI 2))).toNatClampNeg) (zG_xs G ((v3 + (nI 3))).toNatClampNeg) M).bind (fun q200 => zpr q200 (fun r201 M202 =>
  (f_X10_torn (zG_xs G ((v3 + (nI 1))).toNatClampNeg) (zG_xs G ((v3 + (nI 2))).toNatClampNeg) (zG_xs G ((v3 + (nI 3))).toNatClampNeg) M202).bind (fun q203 => zpr q203 (fun r204 M205 =>
  if r201 = r204 then
  (zbd (v3 + (nI 6)) (fun x207 =>
  some (.inl (x207, M205))))
  else (some ((.inr (false, M205))))))))))))
  else if ((zG_xs G (v3).toNatClampNeg) &&& (nI 63)) = (nI 21) then
  (zgd (vp_in (v3 + (nI 1)) (zG_L G)) (
  zgd (vp_in (v3 + (nI 2)) (zG_L G)) (
  (f_X9_grown (zG_xs G ((v3 + (nI 1))).toNatClampNeg) (zG_xs G ((v3 + (nI 2))).toNatClampNeg) M).bind (fun q211 => zpr q211 (fun r212 M213 =>
  (f_X10_grown (zG_xs G ((v3 + (nI 1))).toNatClampNeg) (zG_xs G ((v3 + (nI 2))).toNatClampNeg) M213).bind (fun q214 => zpr q214 (fun r215 M216 =>
  if r212 = r215 then
  (zbd (v3 + (nI 6)) (fun x218 =>
  some (.inl (x218, M216))))
  else (some ((.inr (false, M216)))))))))))
  else if ((zG_xs G (v3).toNatClampNeg) &&& (nI 63)) = (nI 22) then
  (zgd (vp_in (v3 + (nI 1)) (zG_L G)) (
  (f_X9_tuned (zG_xs G ((v3 + (nI 1))).toNatClampNeg) M).bind (fun q221 => zpr q221 (fun r222 M223 =>
  (f_X10_tuned (zG_xs G ((v3 + (nI 1))).toNatClampNeg) M223).bind (fun q224 => zpr q224 (fun r225 M226 =>
  if r222 = r225 then
  (zbd (v3 + (nI 6)) (fun x228 =>
  some (.inl (x228, M226))))
  else (some ((.inr (false, M226))))))))))
  else if ((zG_xs G (v3).toNatClampNeg) &&& (nI 63)) = (nI 23) then
  (zgd (vp_in (v3 + (nI 1)) (zG_L G)) (
  (f_X9_signs (zG_xs G ((v3 + (nI 1))).toNatClampNeg) M).bind (fun q231 => zpr q231 (fun r232 M233 =>
  (f_X10_signs (zG_xs G ((v3 + (nI 1))).toNatClampNeg) M233).bind (fun q234 => zpr q234 (fun r235 M236 =>
  if r232 = r235 then
  (zbd (v3 + (nI 6)) (fun x238 =>
  some (.inl (x238, M236))))
  else (some ((.inr (false, M236))))))))))
  else if ((zG_xs G (v3).toNatClampNeg) &&& (nI 63)) = (nI 24) then
  (zgd (vp_in (v3 + (nI 1)) (zG_L G)) (
  (f_X9_passed (zG_xs G ((v3 + (nI 1))).toNatClampNeg) M).bind (fun q241 => zpr q241 (fun r242 M243 =>
  (f_X10_passed (zG_xs G ((v3 + (nI 1))).toNatClampNeg) M243).bind (fun q244 => zpr q244 (fun r245 M246 =>
  if r242 = r245 then
  (zbd (v3 + (nI 6)) (fun x248 =>
  some (.inl (x248, M246))))
  else (some ((.inr (false, M246))))))))))
  else if ((zG_xs G (v3).toNatClampNeg) &&& (nI 63)) = (nI 25) then
  (zgd (vp_in (v3 + (nI 1)) (zG_L G)) (
  (f_X9_costing (zG_xs G ((v3 + (nI 1))).toNatClampNeg) M).bind (fun r251 =>
  (f_X10_costing (zG_xs G ((v3 + (nI 1))).toNatClampNeg) M).bind (fun r252 =>
  if r251 = r252 then
  (zbd (v3 + (nI 6)) (fun x254 =>
  some (.inl (x254, M))))
  else (some ((.inr (false, M))))))))
  else if ((zG_xs G (v3).toNatClampNeg) &&& (nI 63)) = (nI 26) then
  (zgd (vp_in (v3 + (nI 1)) (zG_L G)) (
  (f_X9_since (zG_xs G ((v3 + (nI 1))).toNatClampNeg) M).bind (fun q257 => zpr q257 (fun r258 M259 =>
  (f_X10_since (zG_xs G ((v3 + (nI 1))).toNatClampNeg) M259).bind (fun q260 => zpr q260 (fun r261 M262 =>
  if r258 = r261 then
  (zbd (v3 + (nI 6)) (fun x264 =>
  some (.inl (x264, M262))))
  else (some ((.inr (false, M262))))))))))
  else if ((zG_xs G (v3).toNatClampNeg) &&& (nI 63)) = (nI 27) then
  (zgd (vp_in (v3 + (nI 1)) (zG_L G)) (
  (f_X9_alike (zG_xs G ((v3 + (nI 1))).toNatClampNeg) M).bind (fun r267 =>
  (f_X10_alike (zG_xs G ((v3 + (nI 1))).toNatClampNeg) M).bind (fun q268 => zpr q268 (fun r269 M270 =>
  if r267 = r269 then
  (zbd (v3 + (nI 6)) (fun x272 =>
  some (.inl (x272, M270))))
  else (some ((.inr (false, M270)))))))))
  else if ((zG_xs G (v3).toNatClampNeg) &&& (nI 63)) = (nI 28) then
  (zgd (vp_in (v3 + (nI 1)) (zG_L G)) (
  (f_X9_inOrder (zG_xs G ((v3 + (nI 1))).toNatClampNeg) M).bind (fun r275 =>
  (f_X10_inOrder (zG_xs G ((v3 + (nI 1))).toNatClampNeg) M).bind (fun q276 => zpr q276 (fun r277 M278 =>
  if r275 = r277 then
  (zbd (v3 + (nI 6)) (fun x280 =>
  some (.inl (x280, M278))))
  else (some ((.inr (false, M278)))))))))
  else if ((zG_xs G (v3).toNatClampNeg) &&& (nI 63)) = (nI 29) then
  (zgd (vp_in (v3 + (nI 1)) (zG_L G)) (
  zgd (vp_in (v3 + (nI 2)) (zG_L G)) (
  (f_X9_between (zG_xs G ((v3 + (nI 1))).toNatClampNeg) (zG_xs G ((v3 + (nI 2))).toNatClampNeg) M).bind (fun r284 =>
  (f_X10_between (zG_xs G ((v3 + (nI 1))).toNatClampNeg) (zG_xs G ((v3 + (nI 2))).toNatClampNeg) M).bind (fun r285 =>
  if r284 = r285 then
  (zbd (v3 + (nI 6)) (fun x287 =>
  some (.inl (x287, M))))
  else (some ((.inr (false, M)))))))))
  else if ((zG_xs G (v3).toNatClampNeg) &&& (nI 63)) = (nI 30) then
  (zgd (vp_in (v3 + (nI 1)) (zG_L G)) (
  zgd (vp_in (v3 + (nI 2)) (zG_L G)) (
  zgd (vp_in (v3 + (nI 3)) (zG_L G)) (
  (f_X9_bits (zG_xs G ((v3 + (nI 1))).toNatClampNeg) (zG_xs G ((v3 + (nI 2))).toNatClampNeg) (zG_xs G ((v3 + (nI 3))).toNatClampNeg) M).bind (fun q292 => zpr q292 (fun r293 M294 =>
  (f_X10_bits (zG_xs G ((v3 + (nI 1))).toNatClampNeg) (zG_xs G ((v3 + (nI 2))).toNatClampNeg) (zG_xs G ((v3 + (nI 3))).toNatClampNeg) M294).bind (fun q295 => zpr q295 (fun r296 M297 =>
  if r293 = r296 then
  (zbd (v3 + (nI 6)) (fun x299 =>
  some (.inl (x299, M297))))
  else (some ((.inr (false, M297))))))))))))
  else if ((zG_xs G (v3).toNatClampNeg) &&& (nI 63)) = (nI 31) then
  ((f_X9_scan M).bind (fun q301 => zpr q301 (fun r302 M303 =>
  (f_X10_scan M303).bind (fun q304 => zpr q304 (fun r305 M306 =>
  if r302 = r305 then
  (zbd (v3 + (nI 6)) (fun x308 =>
  some (.inl (x308, M306))))
  else (some ((.inr (false, M306)))))))))
  else if ((zG_xs G (v3).toNatClampNeg) &&& (nI 63)) = (nI 32) then
  (zgd (vp_in (v3 + (nI 1)) (zG_L G)) (
  (f_X9_tell (zG_xs G ((v3 + (nI 1))).toNatClampNeg) M).bind (fun q311 => zpr q311 (fun r312 M313 =>
  (f_X10_tell (zG_xs G ((v3 + (nI 1))).toNatClampNeg) M313).bind (fun q314 => zpr q314 (fun r315 M316 =>
  if r312 = r315 then
  (zbd (v3 + (nI 6)) (fun x318 =>
  some (.inl (x318, M316))))
  else (some ((.inr (false, M316))))))))))
  else if ((zG_xs G (v3).toNatClampNeg) &&& (nI 63)) = (nI 33) then
  (zgd (vp_in (v3 + (nI 1)) (zG_L G)) (
  zgd (vp_in (v3 + (nI 2)) (zG_L G)) (
  (f_X9_scanIs (zG_xs G ((v3 + (nI 1))).toNatClampNeg) (zG_xs G ((v3 + (nI 2))).toNatClampNeg) M).bind (fun q322 => zpr q322 (fun r323 M324 =>
  (f_X10_scanIs (zG_xs G ((v3 + (nI 1))).toNatClampNeg) (zG_xs G ((v3 + (nI 2))).toNatClampNeg) M324).bind (fun q325 => zpr q325 (fun r326 M327 =>
  if r323 = r326 then
  (zbd (v3 + (nI 6)) (fun x329 =>
  some (.inl (x329, M327))))
  else (some ((.inr (false, M327)))))))))))
  else if ((zG_xs G (v3).toNatClampNeg) &&& (nI 63)) = (nI 34) then
  (zgd (vp_in (v3 + (nI 1)) (zG_L G)) (
  (f_X9_reach (zG_xs G ((v3 + (nI 1))).toNatClampNeg) M).bind (fun q332 => zpr q332 (fun r333 M334 =>
  (f_X10_reach (zG_xs G ((v3 + (nI 1))).toNatClampNeg) M334).bind (fun q335 => zpr q335 (fun r336 M337 =>
  if r333 = r336 then
  (zbd (v3 + (nI 6)) (fun x339 =>
  some (.inl (x339, M337))))
  else (some ((.inr (false, M337))))))))))
  else if ((zG_xs G (v3).toNatClampNeg) &&& (nI 63)) = (nI 35) then
  (zgd (vp_in (v3 + (nI 1)) (zG_L G)) (
  (f_X9_ends (zG_xs G ((v3 + (nI 1))).toNatClampNeg) M).bind (fun q342 => zpr q342 (fun r343 M344 =>
  (f_X10_ends (zG_xs G ((v3 + (nI 1))).toNatClampNeg) M344).bind (fun q345 => zpr q345 (fun r346 M347 =>
  if r343 = r346 then
  (zbd (v3 + (nI 6)) (fun x349 =>
  some (.inl (x349, M347))))
  else (some ((.inr (false, M347))))))))))
  else if ((zG_xs G (v3).toNatClampNeg) &&& (nI 63)) = (nI 36) then
  (zgd (vp_in (v3 + (nI 1)) (zG_L G)) (
  (f_X9_seed (zG_xs G ((v3 + (nI 1))).toNatClampNeg) M).bind (fun q352 => zpr q352 (fun r353 M354 =>
  (f_X10_seed (zG_xs G ((v3 + (nI 1))).toNatClampNeg) M354).bind (fun q355 => zpr q355 (fun r356 M357 =>
  if (zb r353) = (zb r356) then
  (zbd (v3 + (nI 6)) (fun x359 =>
  some (.inl (x359, M357))))
  else (some ((.inr (false, M357))))))))))
  else if ((zG_xs G (v3).toNatClampNeg) &&& (nI 63)) = (nI 37) then
  ((f_X9_keep M).bind (fun q361 => zpr q361 (fun r362 M363 =>
  (f_X10_keep M363).bind (fun q364 => zpr q364 (fun r365 M366 =>
  if r362 = r365 then
  (zbd (v3 + (nI 6)) (fun x368 =>
  some (.inl (x368, M366))))
  else (some ((.inr (false, M366)))))))))
  else if ((zG_xs G (v3).toNatClampNeg) &&& (nI 63)) = (nI 38) then
  ((f_X9_undo M).bind (fun q370 => zpr q370 (fun r371 M372 =>
  (f_X10_undo M372).bind (fun q373 => zpr q373 (fun r374 M375 =>
  if (zb r371) = (zb r374) then
  (zbd (v3 + (nI 6)) (fun x377 =>
  some (.inl (x377, M375))))
  else (some ((.inr (false, M375)))))))))
  else if ((zG_xs G (v3).toNatClampNeg) &&& (nI 63)) = (nI 39) then
  (zgd (vp_in (v3 + (nI 1)) (zG_L G)) (
  (f_X9_check (zG_xs G ((v3 + (nI 1))).toNatClampNeg) M).bind (fun q380 => zpr q380 (fun r381 M382 =>
  (f_X10_check (zG_xs G ((v3 + (nI 1))).toNatClampNeg) M382).bind (fun q383 => zpr q383 (fun r384 M385 =>
  if r381 = r384 then
  (zbd (v3 + (nI 6)) (fun x387 =>
  some (.inl (x387, M385))))
  else (some ((.inr (false, M385))))))))))
  else if ((zG_xs G (v3).toNatClampNeg) &&& (nI 63)) = (nI 40) then
  (zgd (vp_in (v3 + (nI 1)) (zG_L G)) (
  (f_X9_count (zG_xs G ((v3 + (nI 1))).toNatClampNeg) M).bind (fun r390 =>
  (f_X10_count (zG_xs G ((v3 + (nI 1))).toNatClampNeg) M).bind (fun r391 =>
  if r390 = r391 then
  (zbd (v3 + (nI 6)) (fun x393 =>
  some (.inl (x393, M))))
  else (some ((.inr (false, M))))))))
  else (zbd (v3 + (nI 6)) (fun x394 =>
  some (.inl (x394, M))))))
set_option maxHeartbeats 4000000 in
set_option maxRecDepth 100000 in
theorem x_L_law_18 {Q : Option Value → zzMem → Prop} (G : zzG) (v3 : Int32) (M : zzMem) (ht : 180 ≤ 180)  {P : ((Int32 × zzMem) ⊕ (Bool × zzMem)) → Prop} (h : zK (b_L_law_18 G v3 M) P) (k18 : ∀ s : (Int32 × zzMem), P (.inl s) → zz_W G m_L_law 0 180 180 18 [some (.ref 1000), some (.ref 0), some (.ref 73), some (.int s.1)] [] s.2 Q) (kR : ∀ r : (Bool × zzMem), P (.inr r) → Q (some (.int (zb r.1))) r.2) : zz_W G m_L_law 0 180 180 18 [some (.ref 1000), some (.ref 0), some (.ref 73), some (.int v3)] [] M Q := by
  unfold b_L_law_18 at h
  refine r_iload_n dL_law_18 rfl ?_
  refine r_aload_n dL_law_19 rfl ?_
  refine r_slen rfl dL_law_20 ?_
  refine r_bipush (v := (nI 6)) dL_law_21 (by decide) ?_
  refine r_isub dL_law_23 ?_
  refine r_icmp_gt 1331 dL_law_24 (by decide) (fun c1 => ?_) (fun c1 => ?_)
  · have h := zK_pos h c1
    refine r_iconst (v := (nI 1)) dL_law_1331 (by decide) ?_
    exact r_zret (b := true) dL_law_1332 rfl (by decide +kernel) (by decide +kernel) (kR ((true, M)) (zK_some h))
  · have h := zK_neg h c1
    refine r_aload_n dL_law_27 rfl ?_
    refine r_iload_n dL_law_28 rfl ?_
    obtain ⟨g2, h⟩ := zK_gd h
    refine r_sld rfl dL_law_29 g2 ?_
    refine r_bipush (v := (nI 63)) dL_law_30 (by decide) ?_
    refine r_iand dL_law_32 ?_
    by_cases c3 : ((zG_xs G (v3).toNatClampNeg) &&& (nI 63)) = (nI 0)
    · have h := zK_pos h c3
      refine r_tabIn (off := 179) 212 dL_law_33 (by rw [c3]; first | done | decide) (by rw [c3]; first | done | decide) (by rw [c3]; first | done | decide) (by decide) ?_
      refine r_aload_n dL_law_212 rfl ?_
      refine r_aload_n dL_law_213 rfl ?_
      refine r_iload_n dL_law_214 rfl ?_
      refine r_iconst (v := (nI 1)) dL_law_215 (by decide) ?_
      refine r_iadd dL_law_216 ?_
      obtain ⟨g4, h⟩ := zK_gd h
      refine r_sld rfl dL_law_217 g4 ?_
      refine r_aload_n dL_law_218 rfl ?_
      refine r_iload_n dL_law_219 rfl ?_
      refine r_iconst (v := (nI 2)) dL_law_220 (by decide) ?_
      refine r_iadd dL_law_221 ?_
      obtain ⟨g5, h⟩ := zK_gd h
      refine r_sld rfl dL_law_222 g5 ?_
      refine r_aload_n dL_law_223 rfl ?_
      refine r_iload_n dL_law_224 rfl ?_
      refine r_iconst (v := (nI 3)) dL_law_225 (by decide) ?_
      refine r_iadd dL_law_226 ?_
      obtain ⟨g6, h⟩ := zK_gd h
      refine r_sld rfl dL_law_227 g6 ?_
      refine r_aload_n dL_law_228 rfl ?_
      refine r_iload_n dL_law_229 rfl ?_
      refine r_iconst (v := (nI 4)) dL_law_230 (by decide) ?_
      refine r_iadd dL_law_231 ?_
      obtain ⟨g7, h⟩ := zK_gd h
      refine r_sld rfl dL_law_232 g7 ?_
      refine r_aload_n dL_law_233 rfl ?_
      refine r_iload_n dL_law_234 rfl ?_
      refine r_iconst (v := (nI 5)) dL_law_235 (by decide) ?_
      refine r_iadd dL_law_236 ?_
      obtain ⟨g8, h⟩ := zK_gd h
      refine r_sld rfl dL_law_237 g8 ?_
      refine gV_iw (as := [.int (zG_xs G ((v3 + (nI 1))).toNatClampNeg), .int (zG_xs G ((v3 + (nI 2))).toNatClampNeg), .int (zG_xs G ((v3 + (nI 3))).toNatClampNeg), .int (zG_xs G ((v3 + (nI 4))).toNatClampNeg), .int (zG_xs G ((v3 + (nI 5))).toNatClampNeg)]) (st := []) (k := 0) dL_law_238 zM_X9_feed zk_L_13 (zo_X9 (zs_X9 ht)) (by decide) rfl ⟨Nat.le_of_ble_eq_true rfl, Nat.le_of_ble_eq_true rfl⟩ (Nat.le_of_ble_eq_true rfl) (zz_TL rfl rfl) (fun Q' P' k h => c_X9_feed ((zG_xs G ((v3 + (nI 1))).toNatClampNeg)) ((zG_xs G ((v3 + (nI 2))).toNatClampNeg)) ((zG_xs G ((v3 + (nI 3))).toNatClampNeg)) ((zG_xs G ((v3 + (nI 4))).toNatClampNeg)) ((zG_xs G ((v3 + (nI 5))).toNatClampNeg)) M ht h (fun r p => k r.1 r.2 p)) h (fun r10 M11 h => ?_)
      have h := zK_pr h
      refine r_aload_n dL_law_241 rfl ?_
      refine r_aload_n dL_law_242 rfl ?_
      refine r_iload_n dL_law_243 rfl ?_
      refine r_iconst (v := (nI 1)) dL_law_244 (by decide) ?_
      refine r_iadd dL_law_245 ?_
      refine r_sld rfl dL_law_246 g4 ?_
      refine r_aload_n dL_law_247 rfl ?_
      refine r_iload_n dL_law_248 rfl ?_
      refine r_iconst (v := (nI 2)) dL_law_249 (by decide) ?_
      refine r_iadd dL_law_250 ?_
      refine r_sld rfl dL_law_251 g5 ?_
      refine r_aload_n dL_law_252 rfl ?_
      refine r_iload_n dL_law_253 rfl ?_
      refine r_iconst (v := (nI 3)) dL_law_254 (by decide) ?_
      refine r_iadd dL_law_255 ?_
      refine r_sld rfl dL_law_256 g6 ?_
      refine r_aload_n dL_law_257 rfl ?_
      refine r_iload_n dL_law_258 rfl ?_
      refine r_iconst (v := (nI 4)) dL_law_259 (by decide) ?_
      refine r_iadd dL_law_260 ?_
      refine r_sld rfl dL_law_261 g7 ?_
      refine r_aload_n dL_law_262 rfl ?_
      refine r_iload_n dL_law_263 rfl ?_
      refine r_iconst (v := (nI 5)) dL_law_264 (by decide) ?_
      refine r_iadd dL_law_265 ?_
      refine r_sld rfl dL_law_266 g8 ?_
      refine gV_iw (as := [.int (zG_xs G ((v3 + (nI 1))).toNatClampNeg), .int (zG_xs G ((v3 + (nI 2))).toNatClampNeg), .int (zG_xs G ((v3 + (nI 3))).toNatClampNeg), .int (zG_xs G ((v3 + (nI 4))).toNatClampNeg), .int (zG_xs G ((v3 + (nI 5))).toNatClampNeg)]) (st := [.int r10]) (k := 73) dL_law_267 zM_X10_feed zk_L_17 (zo_X10 (zs_X10 ht)) (by decide) rfl ⟨Nat.le_of_ble_eq_true rfl, Nat.le_of_ble_eq_true rfl⟩ (Nat.le_of_ble_eq_true rfl) (zz_TL rfl rfl) (fun Q' P' k h => c_X10_feed ((zG_xs G ((v3 + (nI 1))).toNatClampNeg)) ((zG_xs G ((v3 + (nI 2))).toNatClampNeg)) ((zG_xs G ((v3 + (nI 3))).toNatClampNeg)) ((zG_xs G ((v3 + (nI 4))).toNatClampNeg)) ((zG_xs G ((v3 + (nI 5))).toNatClampNeg)) M11 ht h (fun r p => k r.1 r.2 p)) h (fun r13 M14 h => ?_)
      have h := zK_pr h
      refine r_icmp_eq 1325 dL_law_270 (by decide) (fun c15 => ?_) (fun c15 => ?_)
      · have h := zK_pos h c15
        refine r_iinc (nI 6) (fun x16 => [some (.ref 1000), some (.ref 0), some (.ref 73), some (.int x16)]) dL_law_1325 rfl (by decide) (by decide) rfl (fun _ => rfl) (fun x16 ex16 => ?_)
        have h := zK_bd h ex16
        refine r_goto 18 dL_law_1328 (by decide) ?_
        exact k18 ((x16, M14)) (zK_some h)
      · have h := zK_neg h c15
        refine r_iconst (v := (nI 0)) dL_law_273 (by decide) ?_
        exact r_zret (b := false) dL_law_274 rfl (by decide +kernel) (by decide +kernel) (kR ((false, M14)) (zK_some h))
    · have h := zK_neg h c3
      by_cases c17 : ((zG_xs G (v3).toNatClampNeg) &&& (nI 63)) = (nI 1)
      · have h := zK_pos h c17
        refine r_tabIn (off := 242) 275 dL_law_33 (by rw [c17]; first | done | decide) (by rw [c17]; first | done | decide) (by rw [c17]; first | done | decide) (by decide) ?_
        refine r_aload_n dL_law_275 rfl ?_
        refine r_aload_n dL_law_276 rfl ?_
        refine r_iload_n dL_law_277 rfl ?_
        refine r_iconst (v := (nI 1)) dL_law_278 (by decide) ?_
        refine r_iadd dL_law_279 ?_
        obtain ⟨g18, h⟩ := zK_gd h
        refine r_sld rfl dL_law_280 g18 ?_
        refine r_aload_n dL_law_281 rfl ?_
        refine r_iload_n dL_law_282 rfl ?_
        refine r_iconst (v := (nI 2)) dL_law_283 (by decide) ?_
        refine r_iadd dL_law_284 ?_
        obtain ⟨g19, h⟩ := zK_gd h
        refine r_sld rfl dL_law_285 g19 ?_
        refine r_aload_n dL_law_286 rfl ?_
        refine r_iload_n dL_law_287 rfl ?_
        refine r_iconst (v := (nI 3)) dL_law_288 (by decide) ?_
        refine r_iadd dL_law_289 ?_
        obtain ⟨g20, h⟩ := zK_gd h
        refine r_sld rfl dL_law_290 g20 ?_
        refine r_aload_n dL_law_291 rfl ?_
        refine r_iload_n dL_law_292 rfl ?_
        refine r_iconst (v := (nI 4)) dL_law_293 (by decide) ?_
        refine r_iadd dL_law_294 ?_
        obtain ⟨g21, h⟩ := zK_gd h
        refine r_sld rfl dL_law_295 g21 ?_
        refine r_aload_n dL_law_296 rfl ?_
        refine r_iload_n dL_law_297 rfl ?_
        refine r_iconst (v := (nI 5)) dL_law_298 (by decide) ?_
        refine r_iadd dL_law_299 ?_
        obtain ⟨g22, h⟩ := zK_gd h
        refine r_sld rfl dL_law_300 g22 ?_
        refine gV_zw (as := [.int (zG_xs G ((v3 + (nI 1))).toNatClampNeg), .int (zG_xs G ((v3 + (nI 2))).toNatClampNeg), .int (zG_xs G ((v3 + (nI 3))).toNatClampNeg), .int (zG_xs G ((v3 + (nI 4))).toNatClampNeg), .int (zG_xs G ((v3 + (nI 5))).toNatClampNeg)]) (st := []) (k := 0) dL_law_301 zM_X9_shape zk_L_18 (zo_X9 (zs_X9 ht)) (by decide) rfl ⟨Nat.le_of_ble_eq_true rfl, Nat.le_of_ble_eq_true rfl⟩ (Nat.le_of_ble_eq_true rfl) (zz_TL rfl rfl) (fun Q' P' k h => c_X9_shape ((zG_xs G ((v3 + (nI 1))).toNatClampNeg)) ((zG_xs G ((v3 + (nI 2))).toNatClampNeg)) ((zG_xs G ((v3 + (nI 3))).toNatClampNeg)) ((zG_xs G ((v3 + (nI 4))).toNatClampNeg)) ((zG_xs G ((v3 + (nI 5))).toNatClampNeg)) M ht h (fun r p => k r.1 r.2 p)) h (fun r24 M25 h => ?_)
        have h := zK_pr h
        refine r_aload_n dL_law_304 rfl ?_
        refine r_aload_n dL_law_305 rfl ?_
        refine r_iload_n dL_law_306 rfl ?_
        refine r_iconst (v := (nI 1)) dL_law_307 (by decide) ?_
        refine r_iadd dL_law_308 ?_
        refine r_sld rfl dL_law_309 g18 ?_
        refine r_aload_n dL_law_310 rfl ?_
        refine r_iload_n dL_law_311 rfl ?_
        refine r_iconst (v := (nI 2)) dL_law_312 (by decide) ?_
        refine r_iadd dL_law_313 ?_
        refine r_sld rfl dL_law_314 g19 ?_
        refine r_aload_n dL_law_315 rfl ?_
        refine r_iload_n dL_law_316 rfl ?_
        refine r_iconst (v := (nI 3)) dL_law_317 (by decide) ?_
        refine r_iadd dL_law_318 ?_
        refine r_sld rfl dL_law_319 g20 ?_
        refine r_aload_n dL_law_320 rfl ?_
        refine r_iload_n dL_law_321 rfl ?_
        refine r_iconst (v := (nI 4)) dL_law_322 (by decide) ?_
        refine r_iadd dL_law_323 ?_
        refine r_sld rfl dL_law_324 g21 ?_
        refine r_aload_n dL_law_325 rfl ?_
        refine r_iload_n dL_law_326 rfl ?_
        refine r_iconst (v := (nI 5)) dL_law_327 (by decide) ?_
        refine r_iadd dL_law_328 ?_
        refine r_sld rfl dL_law_329 g22 ?_
        refine gV_zw (as := [.int (zG_xs G ((v3 + (nI 1))).toNatClampNeg), .int (zG_xs G ((v3 + (nI 2))).toNatClampNeg), .int (zG_xs G ((v3 + (nI 3))).toNatClampNeg), .int (zG_xs G ((v3 + (nI 4))).toNatClampNeg), .int (zG_xs G ((v3 + (nI 5))).toNatClampNeg)]) (st := [.int (zb r24)]) (k := 73) dL_law_330 zM_X10_shape zk_L_22 (zo_X10 (zs_X10 ht)) (by decide) rfl ⟨Nat.le_of_ble_eq_true rfl, Nat.le_of_ble_eq_true rfl⟩ (Nat.le_of_ble_eq_true rfl) (zz_TL rfl rfl) (fun Q' P' k h => c_X10_shape ((zG_xs G ((v3 + (nI 1))).toNatClampNeg)) ((zG_xs G ((v3 + (nI 2))).toNatClampNeg)) ((zG_xs G ((v3 + (nI 3))).toNatClampNeg)) ((zG_xs G ((v3 + (nI 4))).toNatClampNeg)) ((zG_xs G ((v3 + (nI 5))).toNatClampNeg)) M25 ht h (fun r p => k r.1 r.2 p)) h (fun r27 M28 h => ?_)
        have h := zK_pr h
        refine r_icmp_eq 1325 dL_law_333 (by decide) (fun c29 => ?_) (fun c29 => ?_)
        · have h := zK_pos h c29
          refine r_iinc (nI 6) (fun x30 => [some (.ref 1000), some (.ref 0), some (.ref 73), some (.int x30)]) dL_law_1325 rfl (by decide) (by decide) rfl (fun _ => rfl) (fun x30 ex30 => ?_)
          have h := zK_bd h ex30
          refine r_goto 18 dL_law_1328 (by decide) ?_
          exact k18 ((x30, M28)) (zK_some h)
        · have h := zK_neg h c29
          refine r_iconst (v := (nI 0)) dL_law_336 (by decide) ?_
          exact r_zret (b := false) dL_law_337 rfl (by decide +kernel) (by decide +kernel) (kR ((false, M28)) (zK_some h))
      · have h := zK_neg h c17
        by_cases c31 : ((zG_xs G (v3).toNatClampNeg) &&& (nI 63)) = (nI 2)
        · have h := zK_pos h c31
          refine r_tabIn (off := 305) 338 dL_law_33 (by rw [c31]; first | done | decide) (by rw [c31]; first | done | decide) (by rw [c31]; first | done | decide) (by decide) ?_
          refine r_aload_n dL_law_338 rfl ?_
          refine r_aload_n dL_law_339 rfl ?_
          refine r_iload_n dL_law_340 rfl ?_
          refine r_iconst (v := (nI 1)) dL_law_341 (by decide) ?_
          refine r_iadd dL_law_342 ?_
          obtain ⟨g32, h⟩ := zK_gd h
          refine r_sld rfl dL_law_343 g32 ?_
          refine gV_iw (as := [.int (zG_xs G ((v3 + (nI 1))).toNatClampNeg)]) (st := []) (k := 0) dL_law_344 zM_X9_law zk_L_23 (zo_X9 (zs_X9 ht)) (by decide) rfl ⟨Nat.le_of_ble_eq_true rfl, Nat.le_of_ble_eq_true rfl⟩ (Nat.le_of_ble_eq_true rfl) (zz_TL rfl rfl) (fun Q' P' k h => c_X9_law ((zG_xs G ((v3 + (nI 1))).toNatClampNeg)) M ht h (fun r p => k r.1 r.2 p)) h (fun r34 M35 h => ?_)
          have h := zK_pr h
          refine r_aload_n dL_law_347 rfl ?_
          refine r_aload_n dL_law_348 rfl ?_
          refine r_iload_n dL_law_349 rfl ?_
          refine r_iconst (v := (nI 1)) dL_law_350 (by decide) ?_
          refine r_iadd dL_law_351 ?_
          refine r_sld rfl dL_law_352 g32 ?_
          refine gV_iw (as := [.int (zG_xs G ((v3 + (nI 1))).toNatClampNeg)]) (st := [.int r34]) (k := 73) dL_law_353 zM_X10_law zk_L_27 (zo_X10 (zs_X10 ht)) (by decide) rfl ⟨Nat.le_of_ble_eq_true rfl, Nat.le_of_ble_eq_true rfl⟩ (Nat.le_of_ble_eq_true rfl) (zz_TL rfl rfl) (fun Q' P' k h => c_X10_law ((zG_xs G ((v3 + (nI 1))).toNatClampNeg)) M35 ht h (fun r p => k r.1 r.2 p)) h (fun r37 M38 h => ?_)
          have h := zK_pr h
          refine r_icmp_eq 1325 dL_law_356 (by decide) (fun c39 => ?_) (fun c39 => ?_)
          · have h := zK_pos h c39
            refine r_iinc (nI 6) (fun x40 => [some (.ref 1000), some (.ref 0), some (.ref 73), some (.int x40)]) dL_law_1325 rfl (by decide) (by decide) rfl (fun _ => rfl) (fun x40 ex40 => ?_)
            have h := zK_bd h ex40
            refine r_goto 18 dL_law_1328 (by decide) ?_
            exact k18 ((x40, M38)) (zK_some h)
          · have h := zK_neg h c39
            refine r_iconst (v := (nI 0)) dL_law_359 (by decide) ?_
            exact r_zret (b := false) dL_law_360 rfl (by decide +kernel) (by decide +kernel) (kR ((false, M38)) (zK_some h))
        · have h := zK_neg h c31
          by_cases c41 : ((zG_xs G (v3).toNatClampNeg) &&& (nI 63)) = (nI 3)
          · have h := zK_pos h c41
            refine r_tabIn (off := 328) 361 dL_law_33 (by rw [c41]; first | done | decide) (by rw [c41]; first | done | decide) (by rw [c41]; first | done | decide) (by decide) ?_
            refine r_aload_n dL_law_361 rfl ?_
            refine r_aload_n dL_law_362 rfl ?_
            refine r_iload_n dL_law_363 rfl ?_
            refine r_iconst (v := (nI 1)) dL_law_364 (by decide) ?_
            refine r_iadd dL_law_365 ?_
            obtain ⟨g42, h⟩ := zK_gd h
            refine r_sld rfl dL_law_366 g42 ?_
            refine gV_iw (as := [.int (zG_xs G ((v3 + (nI 1))).toNatClampNeg)]) (st := []) (k := 0) dL_law_367 zM_X9_work zk_L_28 (zo_X9 (zs_X9 ht)) (by decide) rfl ⟨Nat.le_of_ble_eq_true rfl, Nat.le_of_ble_eq_true rfl⟩ (Nat.le_of_ble_eq_true rfl) (zz_TL rfl rfl) (fun Q' P' k h => c_X9_work ((zG_xs G ((v3 + (nI 1))).toNatClampNeg)) M ht h (fun r p => k r.1 r.2 p)) h (fun r44 M45 h => ?_)
            have h := zK_pr h
            refine r_aload_n dL_law_370 rfl ?_
            refine r_aload_n dL_law_371 rfl ?_
            refine r_iload_n dL_law_372 rfl ?_
            refine r_iconst (v := (nI 1)) dL_law_373 (by decide) ?_
            refine r_iadd dL_law_374 ?_
            refine r_sld rfl dL_law_375 g42 ?_
            refine gV_iw (as := [.int (zG_xs G ((v3 + (nI 1))).toNatClampNeg)]) (st := [.int r44]) (k := 73) dL_law_376 zM_X10_work zk_L_31 (zo_X10 (zs_X10 ht)) (by decide) rfl ⟨Nat.le_of_ble_eq_true rfl, Nat.le_of_ble_eq_true rfl⟩ (Nat.le_of_ble_eq_true rfl) (zz_TL rfl rfl) (fun Q' P' k h => c_X10_work ((zG_xs G ((v3 + (nI 1))).toNatClampNeg)) M45 ht h (fun r p => k r.1 r.2 p)) h (fun r47 M48 h => ?_)
            have h := zK_pr h
            refine r_icmp_eq 1325 dL_law_379 (by decide) (fun c49 => ?_) (fun c49 => ?_)
            · have h := zK_pos h c49
              refine r_iinc (nI 6) (fun x50 => [some (.ref 1000), some (.ref 0), some (.ref 73), some (.int x50)]) dL_law_1325 rfl (by decide) (by decide) rfl (fun _ => rfl) (fun x50 ex50 => ?_)
              have h := zK_bd h ex50
              refine r_goto 18 dL_law_1328 (by decide) ?_
              exact k18 ((x50, M48)) (zK_some h)
            · have h := zK_neg h c49
              refine r_iconst (v := (nI 0)) dL_law_382 (by decide) ?_
              exact r_zret (b := false) dL_law_383 rfl (by decide +kernel) (by decide +kernel) (kR ((false, M48)) (zK_some h))
          · have h := zK_neg h c41
            by_cases c51 : ((zG_xs G (v3).toNatClampNeg) &&& (nI 63)) = (nI 4)
            · have h := zK_pos h c51
              refine r_tabIn (off := 351) 384 dL_law_33 (by rw [c51]; first | done | decide) (by rw [c51]; first | done | decide) (by rw [c51]; first | done | decide) (by decide) ?_
              refine r_aload_n dL_law_384 rfl ?_
              refine r_aload_n dL_law_385 rfl ?_
              refine r_iload_n dL_law_386 rfl ?_
              refine r_iconst (v := (nI 1)) dL_law_387 (by decide) ?_
              refine r_iadd dL_law_388 ?_
              obtain ⟨g52, h⟩ := zK_gd h
              refine r_sld rfl dL_law_389 g52 ?_
              refine r_aload_n dL_law_390 rfl ?_
              refine r_iload_n dL_law_391 rfl ?_
              refine r_iconst (v := (nI 2)) dL_law_392 (by decide) ?_
              refine r_iadd dL_law_393 ?_
              obtain ⟨g53, h⟩ := zK_gd h
              refine r_sld rfl dL_law_394 g53 ?_
              refine gV_iw (as := [.int (zG_xs G ((v3 + (nI 1))).toNatClampNeg), .int (zG_xs G ((v3 + (nI 2))).toNatClampNeg)]) (st := []) (k := 0) dL_law_395 zM_X9_put zk_L_32 (zo_X9 (zs_X9 ht)) (by decide) rfl ⟨Nat.le_of_ble_eq_true rfl, Nat.le_of_ble_eq_true rfl⟩ (Nat.le_of_ble_eq_true rfl) (zz_TL rfl rfl) (fun Q' P' k h => c_X9_put ((zG_xs G ((v3 + (nI 1))).toNatClampNeg)) ((zG_xs G ((v3 + (nI 2))).toNatClampNeg)) M ht h (fun r p => k r.1 r.2 p)) h (fun r55 M56 h => ?_)
              have h := zK_pr h
              refine r_aload_n dL_law_398 rfl ?_
              refine r_aload_n dL_law_399 rfl ?_
              refine r_iload_n dL_law_400 rfl ?_
              refine r_iconst (v := (nI 1)) dL_law_401 (by decide) ?_
              refine r_iadd dL_law_402 ?_
              refine r_sld rfl dL_law_403 g52 ?_
              refine r_aload_n dL_law_404 rfl ?_
              refine r_iload_n dL_law_405 rfl ?_
              refine r_iconst (v := (nI 2)) dL_law_406 (by decide) ?_
              refine r_iadd dL_law_407 ?_
              refine r_sld rfl dL_law_408 g53 ?_
              refine gV_iw (as := [.int (zG_xs G ((v3 + (nI 1))).toNatClampNeg), .int (zG_xs G ((v3 + (nI 2))).toNatClampNeg)]) (st := [.int r55]) (k := 73) dL_law_409 zM_X10_put zk_L_36 (zo_X10 (zs_X10 ht)) (by decide) rfl ⟨Nat.le_of_ble_eq_true rfl, Nat.le_of_ble_eq_true rfl⟩ (Nat.le_of_ble_eq_true rfl) (zz_TL rfl rfl) (fun Q' P' k h => c_X10_put ((zG_xs G ((v3 + (nI 1))).toNatClampNeg)) ((zG_xs G ((v3 + (nI 2))).toNatClampNeg)) M56 ht h (fun r p => k r.1 r.2 p)) h (fun r58 M59 h => ?_)
              have h := zK_pr h
              refine r_icmp_eq 1325 dL_law_412 (by decide) (fun c60 => ?_) (fun c60 => ?_)
              · have h := zK_pos h c60
                refine r_iinc (nI 6) (fun x61 => [some (.ref 1000), some (.ref 0), some (.ref 73), some (.int x61)]) dL_law_1325 rfl (by decide) (by decide) rfl (fun _ => rfl) (fun x61 ex61 => ?_)
                have h := zK_bd h ex61
                refine r_goto 18 dL_law_1328 (by decide) ?_
                exact k18 ((x61, M59)) (zK_some h)
              · have h := zK_neg h c60
                refine r_iconst (v := (nI 0)) dL_law_415 (by decide) ?_
                exact r_zret (b := false) dL_law_416 rfl (by decide +kernel) (by decide +kernel) (kR ((false, M59)) (zK_some h))
            · have h := zK_neg h c51
              by_cases c62 : ((zG_xs G (v3).toNatClampNeg) &&& (nI 63)) = (nI 5)
              · have h := zK_pos h c62
                refine r_tabIn (off := 384) 417 dL_law_33 (by rw [c62]; first | done | decide) (by rw [c62]; first | done | decide) (by rw [c62]; first | done | decide) (by decide) ?_
                refine r_aload_n dL_law_417 rfl ?_
                refine r_aload_n dL_law_418 rfl ?_
                refine r_iload_n dL_law_419 rfl ?_
                refine r_iconst (v := (nI 1)) dL_law_420 (by decide) ?_
                refine r_iadd dL_law_421 ?_
                obtain ⟨g63, h⟩ := zK_gd h
                refine r_sld rfl dL_law_422 g63 ?_
                refine gV_iw (as := [.int (zG_xs G ((v3 + (nI 1))).toNatClampNeg)]) (st := []) (k := 0) dL_law_423 zM_X9_find zk_L_37 (zo_X9 (zs_X9 ht)) (by decide) rfl ⟨Nat.le_of_ble_eq_true rfl, Nat.le_of_ble_eq_true rfl⟩ (Nat.le_of_ble_eq_true rfl) (zz_TL rfl rfl) (fun Q' P' k h => c_X9_find ((zG_xs G ((v3 + (nI 1))).toNatClampNeg)) M ht h (fun r p => k r.1 r.2 p)) h (fun r65 M66 h => ?_)
                have h := zK_pr h
                refine r_aload_n dL_law_426 rfl ?_
                refine r_aload_n dL_law_427 rfl ?_
                refine r_iload_n dL_law_428 rfl ?_
                refine r_iconst (v := (nI 1)) dL_law_429 (by decide) ?_
                refine r_iadd dL_law_430 ?_
                refine r_sld rfl dL_law_431 g63 ?_
                refine gV_iw (as := [.int (zG_xs G ((v3 + (nI 1))).toNatClampNeg)]) (st := [.int r65]) (k := 73) dL_law_432 zM_X10_find zk_L_40 (zo_X10 (zs_X10 ht)) (by decide) rfl ⟨Nat.le_of_ble_eq_true rfl, Nat.le_of_ble_eq_true rfl⟩ (Nat.le_of_ble_eq_true rfl) (zz_TL rfl rfl) (fun Q' P' k h => c_X10_find ((zG_xs G ((v3 + (nI 1))).toNatClampNeg)) M66 ht h (fun r p => k r.1 r.2 p)) h (fun r68 M69 h => ?_)
                have h := zK_pr h
                refine r_icmp_eq 1325 dL_law_435 (by decide) (fun c70 => ?_) (fun c70 => ?_)
                · have h := zK_pos h c70
                  refine r_iinc (nI 6) (fun x71 => [some (.ref 1000), some (.ref 0), some (.ref 73), some (.int x71)]) dL_law_1325 rfl (by decide) (by decide) rfl (fun _ => rfl) (fun x71 ex71 => ?_)
                  have h := zK_bd h ex71
                  refine r_goto 18 dL_law_1328 (by decide) ?_
                  exact k18 ((x71, M69)) (zK_some h)
                · have h := zK_neg h c70
                  refine r_iconst (v := (nI 0)) dL_law_438 (by decide) ?_
                  exact r_zret (b := false) dL_law_439 rfl (by decide +kernel) (by decide +kernel) (kR ((false, M69)) (zK_some h))
              · have h := zK_neg h c62
                by_cases c72 : ((zG_xs G (v3).toNatClampNeg) &&& (nI 63)) = (nI 6)
                · have h := zK_pos h c72
                  refine r_tabIn (off := 407) 440 dL_law_33 (by rw [c72]; first | done | decide) (by rw [c72]; first | done | decide) (by rw [c72]; first | done | decide) (by decide) ?_
                  refine r_aload_n dL_law_440 rfl ?_
                  refine r_aload_n dL_law_441 rfl ?_
                  refine r_iload_n dL_law_442 rfl ?_
                  refine r_iconst (v := (nI 1)) dL_law_443 (by decide) ?_
                  refine r_iadd dL_law_444 ?_
                  obtain ⟨g73, h⟩ := zK_gd h
                  refine r_sld rfl dL_law_445 g73 ?_
                  refine gV_iw (as := [.int (zG_xs G ((v3 + (nI 1))).toNatClampNeg)]) (st := []) (k := 0) dL_law_446 zM_X9_drop zk_L_41 (zo_X9 (zs_X9 ht)) (by decide) rfl ⟨Nat.le_of_ble_eq_true rfl, Nat.le_of_ble_eq_true rfl⟩ (Nat.le_of_ble_eq_true rfl) (zz_TL rfl rfl) (fun Q' P' k h => c_X9_drop ((zG_xs G ((v3 + (nI 1))).toNatClampNeg)) M ht h (fun r p => k r.1 r.2 p)) h (fun r75 M76 h => ?_)
                  have h := zK_pr h
                  refine r_aload_n dL_law_449 rfl ?_
                  refine r_aload_n dL_law_450 rfl ?_
                  refine r_iload_n dL_law_451 rfl ?_
                  refine r_iconst (v := (nI 1)) dL_law_452 (by decide) ?_
                  refine r_iadd dL_law_453 ?_
                  refine r_sld rfl dL_law_454 g73 ?_
                  refine gV_iw (as := [.int (zG_xs G ((v3 + (nI 1))).toNatClampNeg)]) (st := [.int r75]) (k := 73) dL_law_455 zM_X10_drop zk_L_44 (zo_X10 (zs_X10 ht)) (by decide) rfl ⟨Nat.le_of_ble_eq_true rfl, Nat.le_of_ble_eq_true rfl⟩ (Nat.le_of_ble_eq_true rfl) (zz_TL rfl rfl) (fun Q' P' k h => c_X10_drop ((zG_xs G ((v3 + (nI 1))).toNatClampNeg)) M76 ht h (fun r p => k r.1 r.2 p)) h (fun r78 M79 h => ?_)
                  have h := zK_pr h
                  refine r_icmp_eq 1325 dL_law_458 (by decide) (fun c80 => ?_) (fun c80 => ?_)
                  · have h := zK_pos h c80
                    refine r_iinc (nI 6) (fun x81 => [some (.ref 1000), some (.ref 0), some (.ref 73), some (.int x81)]) dL_law_1325 rfl (by decide) (by decide) rfl (fun _ => rfl) (fun x81 ex81 => ?_)
                    have h := zK_bd h ex81
                    refine r_goto 18 dL_law_1328 (by decide) ?_
                    exact k18 ((x81, M79)) (zK_some h)
                  · have h := zK_neg h c80
                    refine r_iconst (v := (nI 0)) dL_law_461 (by decide) ?_
                    exact r_zret (b := false) dL_law_462 rfl (by decide +kernel) (by decide +kernel) (kR ((false, M79)) (zK_some h))
                · have h := zK_neg h c72
                  by_cases c82 : ((zG_xs G (v3).toNatClampNeg) &&& (nI 63)) = (nI 7)
                  · have h := zK_pos h c82
                    refine r_tabIn (off := 430) 463 dL_law_33 (by rw [c82]; first | done | decide) (by rw [c82]; first | done | decide) (by rw [c82]; first | done | decide) (by decide) ?_
                    refine r_aload_n dL_law_463 rfl ?_
                    refine gV_iw (as := []) (st := []) (k := 0) dL_law_464 zM_X9_split zk_L_45 (zo_X9 (zs_X9 ht)) (by decide) rfl ⟨Nat.le_of_ble_eq_true rfl, Nat.le_of_ble_eq_true rfl⟩ (Nat.le_of_ble_eq_true rfl) (zz_TL rfl rfl) (fun Q' P' k h => c_X9_split M ht h (fun r p => k r.1 r.2 p)) h (fun r84 M85 h => ?_)
                    have h := zK_pr h
                    refine r_aload_n dL_law_467 rfl ?_
                    refine gV_iw (as := []) (st := [.int r84]) (k := 73) dL_law_468 zM_X10_split zk_L_49 (zo_X10 (zs_X10 ht)) (by decide) rfl ⟨Nat.le_of_ble_eq_true rfl, Nat.le_of_ble_eq_true rfl⟩ (Nat.le_of_ble_eq_true rfl) (zz_TL rfl rfl) (fun Q' P' k h => c_X10_split M85 ht h (fun r p => k r.1 r.2 p)) h (fun r87 M88 h => ?_)
                    have h := zK_pr h
                    refine r_icmp_eq 1325 dL_law_471 (by decide) (fun c89 => ?_) (fun c89 => ?_)
                    · have h := zK_pos h c89
                      refine r_iinc (nI 6) (fun x90 => [some (.ref 1000), some (.ref 0), some (.ref 73), some (.int x90)]) dL_law_1325 rfl (by decide) (by decide) rfl (fun _ => rfl) (fun x90 ex90 => ?_)
                      have h := zK_bd h ex90
                      refine r_goto 18 dL_law_1328 (by decide) ?_
                      exact k18 ((x90, M88)) (zK_some h)
                    · have h := zK_neg h c89
                      refine r_iconst (v := (nI 0)) dL_law_474 (by decide) ?_
                      exact r_zret (b := false) dL_law_475 rfl (by decide +kernel) (by decide +kernel) (kR ((false, M88)) (zK_some h))
                  · have h := zK_neg h c82
                    by_cases c91 : ((zG_xs G (v3).toNatClampNeg) &&& (nI 63)) = (nI 8)
                    · have h := zK_pos h c91
                      refine r_tabIn (off := 443) 476 dL_law_33 (by rw [c91]; first | done | decide) (by rw [c91]; first | done | decide) (by rw [c91]; first | done | decide) (by decide) ?_
                      refine r_aload_n dL_law_476 rfl ?_
                      refine gV_iw (as := []) (st := []) (k := 0) dL_law_477 zM_X9_join zk_L_50 (zo_X9 (zs_X9 ht)) (by decide) rfl ⟨Nat.le_of_ble_eq_true rfl, Nat.le_of_ble_eq_true rfl⟩ (Nat.le_of_ble_eq_true rfl) (zz_TL rfl rfl) (fun Q' P' k h => c_X9_join M ht h (fun r p => k r.1 r.2 p)) h (fun r93 M94 h => ?_)
                      have h := zK_pr h
                      refine r_aload_n dL_law_480 rfl ?_
                      refine gV_iw (as := []) (st := [.int r93]) (k := 73) dL_law_481 zM_X10_join zk_L_53 (zo_X10 (zs_X10 ht)) (by decide) rfl ⟨Nat.le_of_ble_eq_true rfl, Nat.le_of_ble_eq_true rfl⟩ (Nat.le_of_ble_eq_true rfl) (zz_TL rfl rfl) (fun Q' P' k h => c_X10_join M94 ht h (fun r p => k r.1 r.2 p)) h (fun r96 M97 h => ?_)
                      have h := zK_pr h
                      refine r_icmp_eq 1325 dL_law_484 (by decide) (fun c98 => ?_) (fun c98 => ?_)
                      · have h := zK_pos h c98
                        refine r_iinc (nI 6) (fun x99 => [some (.ref 1000), some (.ref 0), some (.ref 73), some (.int x99)]) dL_law_1325 rfl (by decide) (by decide) rfl (fun _ => rfl) (fun x99 ex99 => ?_)
                        have h := zK_bd h ex99
                        refine r_goto 18 dL_law_1328 (by decide) ?_
                        exact k18 ((x99, M97)) (zK_some h)
                      · have h := zK_neg h c98
                        refine r_iconst (v := (nI 0)) dL_law_487 (by decide) ?_
                        exact r_zret (b := false) dL_law_488 rfl (by decide +kernel) (by decide +kernel) (kR ((false, M97)) (zK_some h))
                    · have h := zK_neg h c91
                      by_cases c100 : ((zG_xs G (v3).toNatClampNeg) &&& (nI 63)) = (nI 9)
                      · have h := zK_pos h c100
                        refine r_tabIn (off := 456) 489 dL_law_33 (by rw [c100]; first | done | decide) (by rw [c100]; first | done | decide) (by rw [c100]; first | done | decide) (by decide) ?_
                        refine r_aload_n dL_law_489 rfl ?_
                        refine r_aload_n dL_law_490 rfl ?_
                        refine r_iload_n dL_law_491 rfl ?_
                        refine r_iconst (v := (nI 1)) dL_law_492 (by decide) ?_
                        refine r_iadd dL_law_493 ?_
                        obtain ⟨g101, h⟩ := zK_gd h
                        refine r_sld rfl dL_law_494 g101 ?_
                        refine gV_ir (as := [.int (zG_xs G ((v3 + (nI 1))).toNatClampNeg)]) (st := []) (k := 0) dL_law_495 zM_X9_fileIs zk_L_54 (zo_X9 (zs_X9 ht)) (by decide) rfl ⟨Nat.le_of_ble_eq_true rfl, Nat.le_of_ble_eq_true rfl⟩ (Nat.le_of_ble_eq_true rfl) (zz_TL rfl rfl) (fun Q' P' k h => c_X9_fileIs ((zG_xs G ((v3 + (nI 1))).toNatClampNeg)) M ht h k) h (fun r102 h => ?_)
                        refine r_aload_n dL_law_498 rfl ?_
                        refine r_aload_n dL_law_499 rfl ?_
                        refine r_iload_n dL_law_500 rfl ?_
                        refine r_iconst (v := (nI 1)) dL_law_501 (by decide) ?_
                        refine r_iadd dL_law_502 ?_
                        refine r_sld rfl dL_law_503 g101 ?_
                        refine gV_ir (as := [.int (zG_xs G ((v3 + (nI 1))).toNatClampNeg)]) (st := [.int r102]) (k := 73) dL_law_504 zM_X10_fileIs zk_L_57 (zo_X10 (zs_X10 ht)) (by decide) rfl ⟨Nat.le_of_ble_eq_true rfl, Nat.le_of_ble_eq_true rfl⟩ (Nat.le_of_ble_eq_true rfl) (zz_TL rfl rfl) (fun Q' P' k h => c_X10_fileIs ((zG_xs G ((v3 + (nI 1))).toNatClampNeg)) M ht h k) h (fun r103 h => ?_)
                        refine r_icmp_eq 1325 dL_law_507 (by decide) (fun c104 => ?_) (fun c104 => ?_)
                        · have h := zK_pos h c104
                          refine r_iinc (nI 6) (fun x105 => [some (.ref 1000), some (.ref 0), some (.ref 73), some (.int x105)]) dL_law_1325 rfl (by decide) (by decide) rfl (fun _ => rfl) (fun x105 ex105 => ?_)
                          have h := zK_bd h ex105
                          refine r_goto 18 dL_law_1328 (by decide) ?_
                          exact k18 ((x105, M)) (zK_some h)
                        · have h := zK_neg h c104
                          refine r_iconst (v := (nI 0)) dL_law_510 (by decide) ?_
                          exact r_zret (b := false) dL_law_511 rfl (by decide +kernel) (by decide +kernel) (kR ((false, M)) (zK_some h))
                      · have h := zK_neg h c100
                        by_cases c106 : ((zG_xs G (v3).toNatClampNeg) &&& (nI 63)) = (nI 10)
                        · have h := zK_pos h c106
                          refine r_tabIn (off := 479) 512 dL_law_33 (by rw [c106]; first | done | decide) (by rw [c106]; first | done | decide) (by rw [c106]; first | done | decide) (by decide) ?_
                          refine r_aload_n dL_law_512 rfl ?_
                          refine r_aload_n dL_law_513 rfl ?_
                          refine r_iload_n dL_law_514 rfl ?_
                          refine r_iconst (v := (nI 1)) dL_law_515 (by decide) ?_
                          refine r_iadd dL_law_516 ?_
                          obtain ⟨g107, h⟩ := zK_gd h
                          refine r_sld rfl dL_law_517 g107 ?_
                          refine r_aload_n dL_law_518 rfl ?_
                          refine r_iload_n dL_law_519 rfl ?_
                          refine r_iconst (v := (nI 2)) dL_law_520 (by decide) ?_
                          refine r_iadd dL_law_521 ?_
                          obtain ⟨g108, h⟩ := zK_gd h
                          refine r_sld rfl dL_law_522 g108 ?_
                          refine gV_iw (as := [.int (zG_xs G ((v3 + (nI 1))).toNatClampNeg), .int (zG_xs G ((v3 + (nI 2))).toNatClampNeg)]) (st := []) (k := 0) dL_law_523 zM_X9_keyIs zk_L_58 (zo_X9 (zs_X9 ht)) (by decide) rfl ⟨Nat.le_of_ble_eq_true rfl, Nat.le_of_ble_eq_true rfl⟩ (Nat.le_of_ble_eq_true rfl) (zz_TL rfl rfl) (fun Q' P' k h => c_X9_keyIs ((zG_xs G ((v3 + (nI 1))).toNatClampNeg)) ((zG_xs G ((v3 + (nI 2))).toNatClampNeg)) M ht h (fun r p => k r.1 r.2 p)) h (fun r110 M111 h => ?_)
                          have h := zK_pr h
                          refine r_aload_n dL_law_526 rfl ?_
                          refine r_aload_n dL_law_527 rfl ?_
                          refine r_iload_n dL_law_528 rfl ?_
                          refine r_iconst (v := (nI 1)) dL_law_529 (by decide) ?_
                          refine r_iadd dL_law_530 ?_
                          refine r_sld rfl dL_law_531 g107 ?_
                          refine r_aload_n dL_law_532 rfl ?_
                          refine r_iload_n dL_law_533 rfl ?_
                          refine r_iconst (v := (nI 2)) dL_law_534 (by decide) ?_
                          refine r_iadd dL_law_535 ?_
                          refine r_sld rfl dL_law_536 g108 ?_
                          refine gV_iw (as := [.int (zG_xs G ((v3 + (nI 1))).toNatClampNeg), .int (zG_xs G ((v3 + (nI 2))).toNatClampNeg)]) (st := [.int r110]) (k := 73) dL_law_537 zM_X10_keyIs zk_L_61 (zo_X10 (zs_X10 ht)) (by decide) rfl ⟨Nat.le_of_ble_eq_true rfl, Nat.le_of_ble_eq_true rfl⟩ (Nat.le_of_ble_eq_true rfl) (zz_TL rfl rfl) (fun Q' P' k h => c_X10_keyIs ((zG_xs G ((v3 + (nI 1))).toNatClampNeg)) ((zG_xs G ((v3 + (nI 2))).toNatClampNeg)) M111 ht h (fun r p => k r.1 r.2 p)) h (fun r113 M114 h => ?_)
                          have h := zK_pr h
                          refine r_icmp_eq 1325 dL_law_540 (by decide) (fun c115 => ?_) (fun c115 => ?_)
                          · have h := zK_pos h c115
                            refine r_iinc (nI 6) (fun x116 => [some (.ref 1000), some (.ref 0), some (.ref 73), some (.int x116)]) dL_law_1325 rfl (by decide) (by decide) rfl (fun _ => rfl) (fun x116 ex116 => ?_)
                            have h := zK_bd h ex116
                            refine r_goto 18 dL_law_1328 (by decide) ?_
                            exact k18 ((x116, M114)) (zK_some h)
                          · have h := zK_neg h c115
                            refine r_iconst (v := (nI 0)) dL_law_543 (by decide) ?_
                            exact r_zret (b := false) dL_law_544 rfl (by decide +kernel) (by decide +kernel) (kR ((false, M114)) (zK_some h))
                        · have h := zK_neg h c106
                          by_cases c117 : ((zG_xs G (v3).toNatClampNeg) &&& (nI 63)) = (nI 11)
                          · have h := zK_pos h c117
                            refine r_tabIn (off := 512) 545 dL_law_33 (by rw [c117]; first | done | decide) (by rw [c117]; first | done | decide) (by rw [c117]; first | done | decide) (by decide) ?_
                            refine r_aload_n dL_law_545 rfl ?_
                            refine r_aload_n dL_law_546 rfl ?_
                            refine r_iload_n dL_law_547 rfl ?_
                            refine r_iconst (v := (nI 1)) dL_law_548 (by decide) ?_
                            refine r_iadd dL_law_549 ?_
                            obtain ⟨g118, h⟩ := zK_gd h
                            refine r_sld rfl dL_law_550 g118 ?_
                            refine r_aload_n dL_law_551 rfl ?_
                            refine r_iload_n dL_law_552 rfl ?_
                            refine r_iconst (v := (nI 2)) dL_law_553 (by decide) ?_
                            refine r_iadd dL_law_554 ?_
                            obtain ⟨g119, h⟩ := zK_gd h
                            refine r_sld rfl dL_law_555 g119 ?_
                            refine gV_iw (as := [.int (zG_xs G ((v3 + (nI 1))).toNatClampNeg), .int (zG_xs G ((v3 + (nI 2))).toNatClampNeg)]) (st := []) (k := 0) dL_law_556 zM_X9_where zk_L_62 (zo_X9 (zs_X9 ht)) (by decide) rfl ⟨Nat.le_of_ble_eq_true rfl, Nat.le_of_ble_eq_true rfl⟩ (Nat.le_of_ble_eq_true rfl) (zz_TL rfl rfl) (fun Q' P' k h => c_X9_where ((zG_xs G ((v3 + (nI 1))).toNatClampNeg)) ((zG_xs G ((v3 + (nI 2))).toNatClampNeg)) M ht h (fun r p => k r.1 r.2 p)) h (fun r121 M122 h => ?_)
                            have h := zK_pr h
                            refine r_aload_n dL_law_559 rfl ?_
                            refine r_aload_n dL_law_560 rfl ?_
                            refine r_iload_n dL_law_561 rfl ?_
                            refine r_iconst (v := (nI 1)) dL_law_562 (by decide) ?_
                            refine r_iadd dL_law_563 ?_
                            refine r_sld rfl dL_law_564 g118 ?_
                            refine r_aload_n dL_law_565 rfl ?_
                            refine r_iload_n dL_law_566 rfl ?_
                            refine r_iconst (v := (nI 2)) dL_law_567 (by decide) ?_
                            refine r_iadd dL_law_568 ?_
                            refine r_sld rfl dL_law_569 g119 ?_
                            refine gV_iw (as := [.int (zG_xs G ((v3 + (nI 1))).toNatClampNeg), .int (zG_xs G ((v3 + (nI 2))).toNatClampNeg)]) (st := [.int r121]) (k := 73) dL_law_570 zM_X10_where zk_L_65 (zo_X10 (zs_X10 ht)) (by decide) rfl ⟨Nat.le_of_ble_eq_true rfl, Nat.le_of_ble_eq_true rfl⟩ (Nat.le_of_ble_eq_true rfl) (zz_TL rfl rfl) (fun Q' P' k h => c_X10_where ((zG_xs G ((v3 + (nI 1))).toNatClampNeg)) ((zG_xs G ((v3 + (nI 2))).toNatClampNeg)) M122 ht h (fun r p => k r.1 r.2 p)) h (fun r124 M125 h => ?_)
                            have h := zK_pr h
                            refine r_icmp_eq 1325 dL_law_573 (by decide) (fun c126 => ?_) (fun c126 => ?_)
                            · have h := zK_pos h c126
                              refine r_iinc (nI 6) (fun x127 => [some (.ref 1000), some (.ref 0), some (.ref 73), some (.int x127)]) dL_law_1325 rfl (by decide) (by decide) rfl (fun _ => rfl) (fun x127 ex127 => ?_)
                              have h := zK_bd h ex127
                              refine r_goto 18 dL_law_1328 (by decide) ?_
                              exact k18 ((x127, M125)) (zK_some h)
                            · have h := zK_neg h c126
                              refine r_iconst (v := (nI 0)) dL_law_576 (by decide) ?_
                              exact r_zret (b := false) dL_law_577 rfl (by decide +kernel) (by decide +kernel) (kR ((false, M125)) (zK_some h))
                          · have h := zK_neg h c117
                            by_cases c128 : ((zG_xs G (v3).toNatClampNeg) &&& (nI 63)) = (nI 12)
                            · have h := zK_pos h c128
                              refine r_tabIn (off := 545) 578 dL_law_33 (by rw [c128]; first | done | decide) (by rw [c128]; first | done | decide) (by rw [c128]; first | done | decide) (by decide) ?_
                              refine r_aload_n dL_law_578 rfl ?_
                              refine r_aload_n dL_law_579 rfl ?_
                              refine r_iload_n dL_law_580 rfl ?_
                              refine r_iconst (v := (nI 1)) dL_law_581 (by decide) ?_
                              refine r_iadd dL_law_582 ?_
                              obtain ⟨g129, h⟩ := zK_gd h
                              refine r_sld rfl dL_law_583 g129 ?_
                              refine r_aload_n dL_law_584 rfl ?_
                              refine r_iload_n dL_law_585 rfl ?_
                              refine r_iconst (v := (nI 2)) dL_law_586 (by decide) ?_
                              refine r_iadd dL_law_587 ?_
                              obtain ⟨g130, h⟩ := zK_gd h
                              refine r_sld rfl dL_law_588 g130 ?_
                              refine gV_ir (as := [.int (zG_xs G ((v3 + (nI 1))).toNatClampNeg), .int (zG_xs G ((v3 + (nI 2))).toNatClampNeg)]) (st := []) (k := 0) dL_law_589 zM_X9_bucket zk_L_66 (zo_X9 (zs_X9 ht)) (by decide) rfl ⟨Nat.le_of_ble_eq_true rfl, Nat.le_of_ble_eq_true rfl⟩ (Nat.le_of_ble_eq_true rfl) (zz_TL rfl rfl) (fun Q' P' k h => c_X9_bucket ((zG_xs G ((v3 + (nI 1))).toNatClampNeg)) ((zG_xs G ((v3 + (nI 2))).toNatClampNeg)) M ht h k) h (fun r131 h => ?_)
                              refine r_aload_n dL_law_592 rfl ?_
                              refine r_aload_n dL_law_593 rfl ?_
                              refine r_iload_n dL_law_594 rfl ?_
                              refine r_iconst (v := (nI 1)) dL_law_595 (by decide) ?_
                              refine r_iadd dL_law_596 ?_
                              refine r_sld rfl dL_law_597 g129 ?_
                              refine r_aload_n dL_law_598 rfl ?_
                              refine r_iload_n dL_law_599 rfl ?_
                              refine r_iconst (v := (nI 2)) dL_law_600 (by decide) ?_
                              refine r_iadd dL_law_601 ?_
                              refine r_sld rfl dL_law_602 g130 ?_
                              refine gV_ir (as := [.int (zG_xs G ((v3 + (nI 1))).toNatClampNeg), .int (zG_xs G ((v3 + (nI 2))).toNatClampNeg)]) (st := [.int r131]) (k := 73) dL_law_603 zM_X10_bucket zk_L_69 (zo_X10 (zs_X10 ht)) (by decide) rfl ⟨Nat.le_of_ble_eq_true rfl, Nat.le_of_ble_eq_true rfl⟩ (Nat.le_of_ble_eq_true rfl) (zz_TL rfl rfl) (fun Q' P' k h => c_X10_bucket ((zG_xs G ((v3 + (nI 1))).toNatClampNeg)) ((zG_xs G ((v3 + (nI 2))).toNatClampNeg)) M ht h k) h (fun r132 h => ?_)
                              refine r_icmp_eq 1325 dL_law_606 (by decide) (fun c133 => ?_) (fun c133 => ?_)
                              · have h := zK_pos h c133
                                refine r_iinc (nI 6) (fun x134 => [some (.ref 1000), some (.ref 0), some (.ref 73), some (.int x134)]) dL_law_1325 rfl (by decide) (by decide) rfl (fun _ => rfl) (fun x134 ex134 => ?_)
                                have h := zK_bd h ex134
                                refine r_goto 18 dL_law_1328 (by decide) ?_
                                exact k18 ((x134, M)) (zK_some h)
                              · have h := zK_neg h c133
                                refine r_iconst (v := (nI 0)) dL_law_609 (by decide) ?_
                                exact r_zret (b := false) dL_law_610 rfl (by decide +kernel) (by decide +kernel) (kR ((false, M)) (zK_some h))
                            · have h := zK_neg h c128
                              by_cases c135 : ((zG_xs G (v3).toNatClampNeg) &&& (nI 63)) = (nI 13)
                              · have h := zK_pos h c135
                                refine r_tabIn (off := 578) 611 dL_law_33 (by rw [c135]; first | done | decide) (by rw [c135]; first | done | decide) (by rw [c135]; first | done | decide) (by decide) ?_
                                refine r_aload_n dL_law_611 rfl ?_
                                refine r_aload_n dL_law_612 rfl ?_
                                refine r_iload_n dL_law_613 rfl ?_
                                refine r_iconst (v := (nI 1)) dL_law_614 (by decide) ?_
                                refine r_iadd dL_law_615 ?_
                                obtain ⟨g136, h⟩ := zK_gd h
                                refine r_sld rfl dL_law_616 g136 ?_
                                refine r_aload_n dL_law_617 rfl ?_
                                refine r_iload_n dL_law_618 rfl ?_
                                refine r_iconst (v := (nI 2)) dL_law_619 (by decide) ?_
                                refine r_iadd dL_law_620 ?_
                                obtain ⟨g137, h⟩ := zK_gd h
                                refine r_sld rfl dL_law_621 g137 ?_
                                refine gV_ir (as := [.int (zG_xs G ((v3 + (nI 1))).toNatClampNeg), .int (zG_xs G ((v3 + (nI 2))).toNatClampNeg)]) (st := []) (k := 0) dL_law_622 zM_X9_page zk_L_70 (zo_X9 (zs_X9 ht)) (by decide) rfl ⟨Nat.le_of_ble_eq_true rfl, Nat.le_of_ble_eq_true rfl⟩ (Nat.le_of_ble_eq_true rfl) (zz_TL rfl rfl) (fun Q' P' k h => c_X9_page ((zG_xs G ((v3 + (nI 1))).toNatClampNeg)) ((zG_xs G ((v3 + (nI 2))).toNatClampNeg)) M ht h k) h (fun r138 h => ?_)
                                refine r_aload_n dL_law_625 rfl ?_
                                refine r_aload_n dL_law_626 rfl ?_
                                refine r_iload_n dL_law_627 rfl ?_
                                refine r_iconst (v := (nI 1)) dL_law_628 (by decide) ?_
                                refine r_iadd dL_law_629 ?_
                                refine r_sld rfl dL_law_630 g136 ?_
                                refine r_aload_n dL_law_631 rfl ?_
                                refine r_iload_n dL_law_632 rfl ?_
                                refine r_iconst (v := (nI 2)) dL_law_633 (by decide) ?_
                                refine r_iadd dL_law_634 ?_
                                refine r_sld rfl dL_law_635 g137 ?_
                                refine gV_ir (as := [.int (zG_xs G ((v3 + (nI 1))).toNatClampNeg), .int (zG_xs G ((v3 + (nI 2))).toNatClampNeg)]) (st := [.int r138]) (k := 73) dL_law_636 zM_X10_page zk_L_73 (zo_X10 (zs_X10 ht)) (by decide) rfl ⟨Nat.le_of_ble_eq_true rfl, Nat.le_of_ble_eq_true rfl⟩ (Nat.le_of_ble_eq_true rfl) (zz_TL rfl rfl) (fun Q' P' k h => c_X10_page ((zG_xs G ((v3 + (nI 1))).toNatClampNeg)) ((zG_xs G ((v3 + (nI 2))).toNatClampNeg)) M ht h k) h (fun r139 h => ?_)
                                refine r_icmp_eq 1325 dL_law_639 (by decide) (fun c140 => ?_) (fun c140 => ?_)
                                · have h := zK_pos h c140
                                  refine r_iinc (nI 6) (fun x141 => [some (.ref 1000), some (.ref 0), some (.ref 73), some (.int x141)]) dL_law_1325 rfl (by decide) (by decide) rfl (fun _ => rfl) (fun x141 ex141 => ?_)
                                  have h := zK_bd h ex141
                                  refine r_goto 18 dL_law_1328 (by decide) ?_
                                  exact k18 ((x141, M)) (zK_some h)
                                · have h := zK_neg h c140
                                  refine r_iconst (v := (nI 0)) dL_law_642 (by decide) ?_
                                  exact r_zret (b := false) dL_law_643 rfl (by decide +kernel) (by decide +kernel) (kR ((false, M)) (zK_some h))
                              · have h := zK_neg h c135
                                by_cases c142 : ((zG_xs G (v3).toNatClampNeg) &&& (nI 63)) = (nI 14)
                                · have h := zK_pos h c142
                                  refine r_tabIn (off := 611) 644 dL_law_33 (by rw [c142]; first | done | decide) (by rw [c142]; first | done | decide) (by rw [c142]; first | done | decide) (by decide) ?_
                                  refine r_aload_n dL_law_644 rfl ?_
                                  refine r_aload_n dL_law_645 rfl ?_
                                  refine r_iload_n dL_law_646 rfl ?_
                                  refine r_iconst (v := (nI 1)) dL_law_647 (by decide) ?_
                                  refine r_iadd dL_law_648 ?_
                                  obtain ⟨g143, h⟩ := zK_gd h
                                  refine r_sld rfl dL_law_649 g143 ?_
                                  refine gV_ir (as := [.int (zG_xs G ((v3 + (nI 1))).toNatClampNeg)]) (st := []) (k := 0) dL_law_650 zM_X9_chains zk_L_74 (zo_X9 (zs_X9 ht)) (by decide) rfl ⟨Nat.le_of_ble_eq_true rfl, Nat.le_of_ble_eq_true rfl⟩ (Nat.le_of_ble_eq_true rfl) (zz_TL rfl rfl) (fun Q' P' k h => c_X9_chains ((zG_xs G ((v3 + (nI 1))).toNatClampNeg)) M ht h k) h (fun r144 h => ?_)
                                  refine r_aload_n dL_law_653 rfl ?_
                                  refine r_aload_n dL_law_654 rfl ?_
                                  refine r_iload_n dL_law_655 rfl ?_
                                  refine r_iconst (v := (nI 1)) dL_law_656 (by decide) ?_
                                  refine r_iadd dL_law_657 ?_
                                  refine r_sld rfl dL_law_658 g143 ?_
                                  refine gV_ir (as := [.int (zG_xs G ((v3 + (nI 1))).toNatClampNeg)]) (st := [.int r144]) (k := 73) dL_law_659 zM_X10_chains zk_L_77 (zo_X10 (zs_X10 ht)) (by decide) rfl ⟨Nat.le_of_ble_eq_true rfl, Nat.le_of_ble_eq_true rfl⟩ (Nat.le_of_ble_eq_true rfl) (zz_TL rfl rfl) (fun Q' P' k h => c_X10_chains ((zG_xs G ((v3 + (nI 1))).toNatClampNeg)) M ht h k) h (fun r145 h => ?_)
                                  refine r_icmp_eq 1325 dL_law_662 (by decide) (fun c146 => ?_) (fun c146 => ?_)
                                  · have h := zK_pos h c146
                                    refine r_iinc (nI 6) (fun x147 => [some (.ref 1000), some (.ref 0), some (.ref 73), some (.int x147)]) dL_law_1325 rfl (by decide) (by decide) rfl (fun _ => rfl) (fun x147 ex147 => ?_)
                                    have h := zK_bd h ex147
                                    refine r_goto 18 dL_law_1328 (by decide) ?_
                                    exact k18 ((x147, M)) (zK_some h)
                                  · have h := zK_neg h c146
                                    refine r_iconst (v := (nI 0)) dL_law_665 (by decide) ?_
                                    exact r_zret (b := false) dL_law_666 rfl (by decide +kernel) (by decide +kernel) (kR ((false, M)) (zK_some h))
                                · have h := zK_neg h c142
                                  by_cases c148 : ((zG_xs G (v3).toNatClampNeg) &&& (nI 63)) = (nI 15)
                                  · have h := zK_pos h c148
                                    refine r_tabIn (off := 634) 667 dL_law_33 (by rw [c148]; first | done | decide) (by rw [c148]; first | done | decide) (by rw [c148]; first | done | decide) (by decide) ?_
                                    refine r_aload_n dL_law_667 rfl ?_
                                    refine r_aload_n dL_law_668 rfl ?_
                                    refine r_iload_n dL_law_669 rfl ?_
                                    refine r_iconst (v := (nI 1)) dL_law_670 (by decide) ?_
                                    refine r_iadd dL_law_671 ?_
                                    obtain ⟨g149, h⟩ := zK_gd h
                                    refine r_sld rfl dL_law_672 g149 ?_
                                    refine gV_ir (as := [.int (zG_xs G ((v3 + (nI 1))).toNatClampNeg)]) (st := []) (k := 0) dL_law_673 zM_X9_finds zk_L_78 (zo_X9 (zs_X9 ht)) (by decide) rfl ⟨Nat.le_of_ble_eq_true rfl, Nat.le_of_ble_eq_true rfl⟩ (Nat.le_of_ble_eq_true rfl) (zz_TL rfl rfl) (fun Q' P' k h => c_X9_finds ((zG_xs G ((v3 + (nI 1))).toNatClampNeg)) M ht h k) h (fun r150 h => ?_)
                                    refine r_aload_n dL_law_676 rfl ?_
                                    refine r_aload_n dL_law_677 rfl ?_
                                    refine r_iload_n dL_law_678 rfl ?_
                                    refine r_iconst (v := (nI 1)) dL_law_679 (by decide) ?_
                                    refine r_iadd dL_law_680 ?_
                                    refine r_sld rfl dL_law_681 g149 ?_
                                    refine gV_ir (as := [.int (zG_xs G ((v3 + (nI 1))).toNatClampNeg)]) (st := [.int r150]) (k := 73) dL_law_682 zM_X10_finds zk_L_81 (zo_X10 (zs_X10 ht)) (by decide) rfl ⟨Nat.le_of_ble_eq_true rfl, Nat.le_of_ble_eq_true rfl⟩ (Nat.le_of_ble_eq_true rfl) (zz_TL rfl rfl) (fun Q' P' k h => c_X10_finds ((zG_xs G ((v3 + (nI 1))).toNatClampNeg)) M ht h k) h (fun r151 h => ?_)
                                    refine r_icmp_eq 1325 dL_law_685 (by decide) (fun c152 => ?_) (fun c152 => ?_)
                                    · have h := zK_pos h c152
                                      refine r_iinc (nI 6) (fun x153 => [some (.ref 1000), some (.ref 0), some (.ref 73), some (.int x153)]) dL_law_1325 rfl (by decide) (by decide) rfl (fun _ => rfl) (fun x153 ex153 => ?_)
                                      have h := zK_bd h ex153
                                      refine r_goto 18 dL_law_1328 (by decide) ?_
                                      exact k18 ((x153, M)) (zK_some h)
                                    · have h := zK_neg h c152
                                      refine r_iconst (v := (nI 0)) dL_law_688 (by decide) ?_
                                      exact r_zret (b := false) dL_law_689 rfl (by decide +kernel) (by decide +kernel) (kR ((false, M)) (zK_some h))
                                  · have h := zK_neg h c148
                                    by_cases c154 : ((zG_xs G (v3).toNatClampNeg) &&& (nI 63)) = (nI 16)
                                    · have h := zK_pos h c154
                                      refine r_tabIn (off := 657) 690 dL_law_33 (by rw [c154]; first | done | decide) (by rw [c154]; first | done | decide) (by rw [c154]; first | done | decide) (by decide) ?_
                                      refine r_aload_n dL_law_690 rfl ?_
                                      refine r_aload_n dL_law_691 rfl ?_
                                      refine r_iload_n dL_law_692 rfl ?_
                                      refine r_iconst (v := (nI 1)) dL_law_693 (by decide) ?_
                                      refine r_iadd dL_law_694 ?_
                                      obtain ⟨g155, h⟩ := zK_gd h
                                      refine r_sld rfl dL_law_695 g155 ?_
                                      refine gV_iw (as := [.int (zG_xs G ((v3 + (nI 1))).toNatClampNeg)]) (st := []) (k := 0) dL_law_696 zM_X9_next zk_L_82 (zo_X9 (zs_X9 ht)) (by decide) rfl ⟨Nat.le_of_ble_eq_true rfl, Nat.le_of_ble_eq_true rfl⟩ (Nat.le_of_ble_eq_true rfl) (zz_TL rfl rfl) (fun Q' P' k h => c_X9_next ((zG_xs G ((v3 + (nI 1))).toNatClampNeg)) M ht h (fun r p => k r.1 r.2 p)) h (fun r157 M158 h => ?_)
                                      have h := zK_pr h
                                      refine r_aload_n dL_law_699 rfl ?_
                                      refine r_aload_n dL_law_700 rfl ?_
                                      refine r_iload_n dL_law_701 rfl ?_
                                      refine r_iconst (v := (nI 1)) dL_law_702 (by decide) ?_
                                      refine r_iadd dL_law_703 ?_
                                      refine r_sld rfl dL_law_704 g155 ?_
                                      refine gV_iw (as := [.int (zG_xs G ((v3 + (nI 1))).toNatClampNeg)]) (st := [.int r157]) (k := 73) dL_law_705 zM_X10_next zk_L_85 (zo_X10 (zs_X10 ht)) (by decide) rfl ⟨Nat.le_of_ble_eq_true rfl, Nat.le_of_ble_eq_true rfl⟩ (Nat.le_of_ble_eq_true rfl) (zz_TL rfl rfl) (fun Q' P' k h => c_X10_next ((zG_xs G ((v3 + (nI 1))).toNatClampNeg)) M158 ht h (fun r p => k r.1 r.2 p)) h (fun r160 M161 h => ?_)
                                      have h := zK_pr h
                                      refine r_icmp_eq 1325 dL_law_708 (by decide) (fun c162 => ?_) (fun c162 => ?_)
                                      · have h := zK_pos h c162
                                        refine r_iinc (nI 6) (fun x163 => [some (.ref 1000), some (.ref 0), some (.ref 73), some (.int x163)]) dL_law_1325 rfl (by decide) (by decide) rfl (fun _ => rfl) (fun x163 ex163 => ?_)
                                        have h := zK_bd h ex163
                                        refine r_goto 18 dL_law_1328 (by decide) ?_
                                        exact k18 ((x163, M161)) (zK_some h)
                                      · have h := zK_neg h c162
                                        refine r_iconst (v := (nI 0)) dL_law_711 (by decide) ?_
                                        exact r_zret (b := false) dL_law_712 rfl (by decide +kernel) (by decide +kernel) (kR ((false, M161)) (zK_some h))
                                    · have h := zK_neg h c154
                                      by_cases c164 : ((zG_xs G (v3).toNatClampNeg) &&& (nI 63)) = (nI 17)
                                      · have h := zK_pos h c164
                                        refine r_tabIn (off := 680) 713 dL_law_33 (by rw [c164]; first | done | decide) (by rw [c164]; first | done | decide) (by rw [c164]; first | done | decide) (by decide) ?_
                                        refine r_aload_n dL_law_713 rfl ?_
                                        refine r_aload_n dL_law_714 rfl ?_
                                        refine r_iload_n dL_law_715 rfl ?_
                                        refine r_iconst (v := (nI 1)) dL_law_716 (by decide) ?_
                                        refine r_iadd dL_law_717 ?_
                                        obtain ⟨g165, h⟩ := zK_gd h
                                        refine r_sld rfl dL_law_718 g165 ?_
                                        refine r_aload_n dL_law_719 rfl ?_
                                        refine r_iload_n dL_law_720 rfl ?_
                                        refine r_iconst (v := (nI 2)) dL_law_721 (by decide) ?_
                                        refine r_iadd dL_law_722 ?_
                                        obtain ⟨g166, h⟩ := zK_gd h
                                        refine r_sld rfl dL_law_723 g166 ?_
                                        refine gV_iw (as := [.int (zG_xs G ((v3 + (nI 1))).toNatClampNeg), .int (zG_xs G ((v3 + (nI 2))).toNatClampNeg)]) (st := []) (k := 0) dL_law_724 zM_X9_parted zk_L_86 (zo_X9 (zs_X9 ht)) (by decide) rfl ⟨Nat.le_of_ble_eq_true rfl, Nat.le_of_ble_eq_true rfl⟩ (Nat.le_of_ble_eq_true rfl) (zz_TL rfl rfl) (fun Q' P' k h => c_X9_parted ((zG_xs G ((v3 + (nI 1))).toNatClampNeg)) ((zG_xs G ((v3 + (nI 2))).toNatClampNeg)) M ht h (fun r p => k r.1 r.2 p)) h (fun r168 M169 h => ?_)
                                        have h := zK_pr h
                                        refine r_aload_n dL_law_727 rfl ?_
                                        refine r_aload_n dL_law_728 rfl ?_
                                        refine r_iload_n dL_law_729 rfl ?_
                                        refine r_iconst (v := (nI 1)) dL_law_730 (by decide) ?_
                                        refine r_iadd dL_law_731 ?_
                                        refine r_sld rfl dL_law_732 g165 ?_
                                        refine r_aload_n dL_law_733 rfl ?_
                                        refine r_iload_n dL_law_734 rfl ?_
                                        refine r_iconst (v := (nI 2)) dL_law_735 (by decide) ?_
                                        refine r_iadd dL_law_736 ?_
                                        refine r_sld rfl dL_law_737 g166 ?_
                                        refine gV_iw (as := [.int (zG_xs G ((v3 + (nI 1))).toNatClampNeg), .int (zG_xs G ((v3 + (nI 2))).toNatClampNeg)]) (st := [.int r168]) (k := 73) dL_law_738 zM_X10_parted zk_L_89 (zo_X10 (zs_X10 ht)) (by decide) rfl ⟨Nat.le_of_ble_eq_true rfl, Nat.le_of_ble_eq_true rfl⟩ (Nat.le_of_ble_eq_true rfl) (zz_TL rfl rfl) (fun Q' P' k h => c_X10_parted ((zG_xs G ((v3 + (nI 1))).toNatClampNeg)) ((zG_xs G ((v3 + (nI 2))).toNatClampNeg)) M169 ht h (fun r p => k r.1 r.2 p)) h (fun r171 M172 h => ?_)
                                        have h := zK_pr h
                                        refine r_icmp_eq 1325 dL_law_741 (by decide) (fun c173 => ?_) (fun c173 => ?_)
                                        · have h := zK_pos h c173
                                          refine r_iinc (nI 6) (fun x174 => [some (.ref 1000), some (.ref 0), some (.ref 73), some (.int x174)]) dL_law_1325 rfl (by decide) (by decide) rfl (fun _ => rfl) (fun x174 ex174 => ?_)
                                          have h := zK_bd h ex174
                                          refine r_goto 18 dL_law_1328 (by decide) ?_
                                          exact k18 ((x174, M172)) (zK_some h)
                                        · have h := zK_neg h c173
                                          refine r_iconst (v := (nI 0)) dL_law_744 (by decide) ?_
                                          exact r_zret (b := false) dL_law_745 rfl (by decide +kernel) (by decide +kernel) (kR ((false, M172)) (zK_some h))
                                      · have h := zK_neg h c164
                                        by_cases c175 : ((zG_xs G (v3).toNatClampNeg) &&& (nI 63)) = (nI 18)
                                        · have h := zK_pos h c175
                                          refine r_tabIn (off := 713) 746 dL_law_33 (by rw [c175]; first | done | decide) (by rw [c175]; first | done | decide) (by rw [c175]; first | done | decide) (by decide) ?_
                                          refine r_aload_n dL_law_746 rfl ?_
                                          refine r_aload_n dL_law_747 rfl ?_
                                          refine r_iload_n dL_law_748 rfl ?_
                                          refine r_iconst (v := (nI 1)) dL_law_749 (by decide) ?_
                                          refine r_iadd dL_law_750 ?_
                                          obtain ⟨g176, h⟩ := zK_gd h
                                          refine r_sld rfl dL_law_751 g176 ?_
                                          refine gV_iw (as := [.int (zG_xs G ((v3 + (nI 1))).toNatClampNeg)]) (st := []) (k := 0) dL_law_752 zM_X9_enough zk_L_90 (zo_X9 (zs_X9 ht)) (by decide) rfl ⟨Nat.le_of_ble_eq_true rfl, Nat.le_of_ble_eq_true rfl⟩ (Nat.le_of_ble_eq_true rfl) (zz_TL rfl rfl) (fun Q' P' k h => c_X9_enough ((zG_xs G ((v3 + (nI 1))).toNatClampNeg)) M ht h (fun r p => k r.1 r.2 p)) h (fun r178 M179 h => ?_)
                                          have h := zK_pr h
                                          refine r_aload_n dL_law_755 rfl ?_
                                          refine r_aload_n dL_law_756 rfl ?_
                                          refine r_iload_n dL_law_757 rfl ?_
                                          refine r_iconst (v := (nI 1)) dL_law_758 (by decide) ?_
                                          refine r_iadd dL_law_759 ?_
                                          refine r_sld rfl dL_law_760 g176 ?_
                                          refine gV_iw (as := [.int (zG_xs G ((v3 + (nI 1))).toNatClampNeg)]) (st := [.int r178]) (k := 73) dL_law_761 zM_X10_enough zk_L_93 (zo_X10 (zs_X10 ht)) (by decide) rfl ⟨Nat.le_of_ble_eq_true rfl, Nat.le_of_ble_eq_true rfl⟩ (Nat.le_of_ble_eq_true rfl) (zz_TL rfl rfl) (fun Q' P' k h => c_X10_enough ((zG_xs G ((v3 + (nI 1))).toNatClampNeg)) M179 ht h (fun r p => k r.1 r.2 p)) h (fun r181 M182 h => ?_)
                                          have h := zK_pr h
                                          refine r_icmp_eq 1325 dL_law_764 (by decide) (fun c183 => ?_) (fun c183 => ?_)
                                          · have h := zK_pos h c183
                                            refine r_iinc (nI 6) (fun x184 => [some (.ref 1000), some (.ref 0), some (.ref 73), some (.int x184)]) dL_law_1325 rfl (by decide) (by decide) rfl (fun _ => rfl) (fun x184 ex184 => ?_)
                                            have h := zK_bd h ex184
                                            refine r_goto 18 dL_law_1328 (by decide) ?_
                                            exact k18 ((x184, M182)) (zK_some h)
                                          · have h := zK_neg h c183
                                            refine r_iconst (v := (nI 0)) dL_law_767 (by decide) ?_
                                            exact r_zret (b := false) dL_law_768 rfl (by decide +kernel) (by decide +kernel) (kR ((false, M182)) (zK_some h))
                                        · have h := zK_neg h c175
                                          by_cases c185 : ((zG_xs G (v3).toNatClampNeg) &&& (nI 63)) = (nI 19)
                                          · have h := zK_pos h c185
                                            refine r_tabIn (off := 736) 769 dL_law_33 (by rw [c185]; first | done | decide) (by rw [c185]; first | done | decide) (by rw [c185]; first | done | decide) (by decide) ?_
                                            refine r_aload_n dL_law_769 rfl ?_
                                            refine r_aload_n dL_law_770 rfl ?_
                                            refine r_iload_n dL_law_771 rfl ?_
                                            refine r_iconst (v := (nI 1)) dL_law_772 (by decide) ?_
                                            refine r_iadd dL_law_773 ?_
                                            obtain ⟨g186, h⟩ := zK_gd h
                                            refine r_sld rfl dL_law_774 g186 ?_
                                            refine r_aload_n dL_law_775 rfl ?_
                                            refine r_iload_n dL_law_776 rfl ?_
                                            refine r_iconst (v := (nI 2)) dL_law_777 (by decide) ?_
                                            refine r_iadd dL_law_778 ?_
                                            obtain ⟨g187, h⟩ := zK_gd h
                                            refine r_sld rfl dL_law_779 g187 ?_
                                            refine gV_iw (as := [.int (zG_xs G ((v3 + (nI 1))).toNatClampNeg), .int (zG_xs G ((v3 + (nI 2))).toNatClampNeg)]) (st := []) (k := 0) dL_law_780 zM_X9_anew zk_L_94 (zo_X9 (zs_X9 ht)) (by decide) rfl ⟨Nat.le_of_ble_eq_true rfl, Nat.le_of_ble_eq_true rfl⟩ (Nat.le_of_ble_eq_true rfl) (zz_TL rfl rfl) (fun Q' P' k h => c_X9_anew ((zG_xs G ((v3 + (nI 1))).toNatClampNeg)) ((zG_xs G ((v3 + (nI 2))).toNatClampNeg)) M ht h (fun r p => k r.1 r.2 p)) h (fun r189 M190 h => ?_)
                                            have h := zK_pr h
                                            refine r_aload_n dL_law_783 rfl ?_
                                            refine r_aload_n dL_law_784 rfl ?_
                                            refine r_iload_n dL_law_785 rfl ?_
                                            refine r_iconst (v := (nI 1)) dL_law_786 (by decide) ?_
                                            refine r_iadd dL_law_787 ?_
                                            refine r_sld rfl dL_law_788 g186 ?_
                                            refine r_aload_n dL_law_789 rfl ?_
                                            refine r_iload_n dL_law_790 rfl ?_
                                            refine r_iconst (v := (nI 2)) dL_law_791 (by decide) ?_
                                            refine r_iadd dL_law_792 ?_
                                            refine r_sld rfl dL_law_793 g187 ?_
                                            refine gV_iw (as := [.int (zG_xs G ((v3 + (nI 1))).toNatClampNeg), .int (zG_xs G ((v3 + (nI 2))).toNatClampNeg)]) (st := [.int r189]) (k := 73) dL_law_794 zM_X10_anew zk_L_97 (zo_X10 (zs_X10 ht)) (by decide) rfl ⟨Nat.le_of_ble_eq_true rfl, Nat.le_of_ble_eq_true rfl⟩ (Nat.le_of_ble_eq_true rfl) (zz_TL rfl rfl) (fun Q' P' k h => c_X10_anew ((zG_xs G ((v3 + (nI 1))).toNatClampNeg)) ((zG_xs G ((v3 + (nI 2))).toNatClampNeg)) M190 ht h (fun r p => k r.1 r.2 p)) h (fun r192 M193 h => ?_)
                                            have h := zK_pr h
                                            refine r_icmp_eq 1325 dL_law_797 (by decide) (fun c194 => ?_) (fun c194 => ?_)
                                            · have h := zK_pos h c194
                                              refine r_iinc (nI 6) (fun x195 => [some (.ref 1000), some (.ref 0), some (.ref 73), some (.int x195)]) dL_law_1325 rfl (by decide) (by decide) rfl (fun _ => rfl) (fun x195 ex195 => ?_)
                                              have h := zK_bd h ex195
                                              refine r_goto 18 dL_law_1328 (by decide) ?_
                                              exact k18 ((x195, M193)) (zK_some h)
                                            · have h := zK_neg h c194
                                              refine r_iconst (v := (nI 0)) dL_law_800 (by decide) ?_
                                              exact r_zret (b := false) dL_law_801 rfl (by decide +kernel) (by decide +kernel) (kR ((false, M193)) (zK_some h))
                                          · have h := zK_neg h c185
                                            by_cases c196 : ((zG_xs G (v3).toNatClampNeg) &&& (nI 63)) = (nI 20)
                                            · have h := zK_pos h c196
                                              refine r_tabIn (off := 769) 802 dL_law_33 (by rw [c196]; first | done | decide) (by rw [c196]; first | done | decide) (by rw [c196]; first | done | decide) (by decide) ?_
                                              refine r_aload_n dL_law_802 rfl ?_
                                              refine r_aload_n dL_law_803 rfl ?_
                                              refine r_iload_n dL_law_804 rfl ?_
                                              refine r_iconst (v := (nI 1)) dL_law_805 (by decide) ?_
                                              refine r_iadd dL_law_806 ?_
                                              obtain ⟨g197, h⟩ := zK_gd h
                                              refine r_sld rfl dL_law_807 g197 ?_
                                              refine r_aload_n dL_law_808 rfl ?_
                                              refine r_iload_n dL_law_809 rfl ?_
                                              refine r_iconst (v := (nI 2)) dL_law_810 (by decide) ?_
                                              refine r_iadd dL_law_811 ?_
                                              obtain ⟨g198, h⟩ := zK_gd h
                                              refine r_sld rfl dL_law_812 g198 ?_
                                              refine r_aload_n dL_law_813 rfl ?_
                                              refine r_iload_n dL_law_814 rfl ?_
                                              refine r_iconst (v := (nI 3)) dL_law_815 (by decide) ?_
                                              refine r_iadd dL_law_816 ?_
                                              obtain ⟨g199, h⟩ := zK_gd h
                                              refine r_sld rfl dL_law_817 g199 ?_
                                              refine gV_iw (as := [.int (zG_xs G ((v3 + (nI 1))).toNatClampNeg), .int (zG_xs G ((v3 + (nI 2))).toNatClampNeg), .int (zG_xs G ((v3 + (nI 3))).toNatClampNeg)]) (st := []) (k := 0) dL_law_818 zM_X9_torn zk_L_98 (zo_X9 (zs_X9 ht)) (by decide) rfl ⟨Nat.le_of_ble_eq_true rfl, Nat.le_of_ble_eq_true rfl⟩ (Nat.le_of_ble_eq_true rfl) (zz_TL rfl rfl) (fun Q' P' k h => c_X9_torn ((zG_xs G ((v3 + (nI 1))).toNatClampNeg)) ((zG_xs G ((v3 + (nI 2))).toNatClampNeg)) ((zG_xs G ((v3 + (nI 3))).toNatClampNeg)) M ht h (fun r p => k r.1 r.2 p)) h (fun r201 M202 h => ?_)
                                              have h := zK_pr h
                                              refine r_aload_n dL_law_821 rfl ?_
                                              refine r_aload_n dL_law_822 rfl ?_
                                              refine r_iload_n dL_law_823 rfl ?_
                                              refine r_iconst (v := (nI 1)) dL_law_824 (by decide) ?_
                                              refine r_iadd dL_law_825 ?_
                                              refine r_sld rfl dL_law_826 g197 ?_
                                              refine r_aload_n dL_law_827 rfl ?_
                                              refine r_iload_n dL_law_828 rfl ?_
                                              refine r_iconst (v := (nI 2)) dL_law_829 (by decide) ?_
                                              refine r_iadd dL_law_830 ?_
                                              refine r_sld rfl dL_law_831 g198 ?_
                                              refine r_aload_n dL_law_832 rfl ?_
                                              refine r_iload_n dL_law_833 rfl ?_
                                              refine r_iconst (v := (nI 3)) dL_law_834 (by decide) ?_
                                              refine r_iadd dL_law_835 ?_
                                              refine r_sld rfl dL_law_836 g199 ?_
                                              refine gV_iw (as := [.int (zG_xs G ((v3 + (nI 1))).toNatClampNeg), .int (zG_xs G ((v3 + (nI 2))).toNatClampNeg), .int (zG_xs G ((v3 + (nI 3))).toNatClampNeg)]) (st := [.int r201]) (k := 73) dL_law_837 zM_X10_torn zk_L_102 (zo_X10 (zs_X10 ht)) (by decide) rfl ⟨Nat.le_of_ble_eq_true rfl, Nat.le_of_ble_eq_true rfl⟩ (Nat.le_of_ble_eq_true rfl) (zz_TL rfl rfl) (fun Q' P' k h => c_X10_torn ((zG_xs G ((v3 + (nI 1))).toNatClampNeg)) ((zG_xs G ((v3 + (nI 2))).toNatClampNeg)) ((zG_xs G ((v3 + (nI 3))).toNatClampNeg)) M202 ht h (fun r p => k r.1 r.2 p)) h (fun r204 M205 h => ?_)
                                              have h := zK_pr h
                                              refine r_icmp_eq 1325 dL_law_840 (by decide) (fun c206 => ?_) (fun c206 => ?_)
                                              · have h := zK_pos h c206
                                                refine r_iinc (nI 6) (fun x207 => [some (.ref 1000), some (.ref 0), some (.ref 73), some (.int x207)]) dL_law_1325 rfl (by decide) (by decide) rfl (fun _ => rfl) (fun x207 ex207 => ?_)
                                                have h := zK_bd h ex207
                                                refine r_goto 18 dL_law_1328 (by decide) ?_
                                                exact k18 ((x207, M205)) (zK_some h)
                                              · have h := zK_neg h c206
                                                refine r_iconst (v := (nI 0)) dL_law_843 (by decide) ?_
                                                exact r_zret (b := false) dL_law_844 rfl (by decide +kernel) (by decide +kernel) (kR ((false, M205)) (zK_some h))
                                            · have h := zK_neg h c196
                                              by_cases c208 : ((zG_xs G (v3).toNatClampNeg) &&& (nI 63)) = (nI 21)
                                              · have h := zK_pos h c208
                                                refine r_tabIn (off := 812) 845 dL_law_33 (by rw [c208]; first | done | decide) (by rw [c208]; first | done | decide) (by rw [c208]; first | done | decide) (by decide) ?_
                                                refine r_aload_n dL_law_845 rfl ?_
                                                refine r_aload_n dL_law_846 rfl ?_
                                                refine r_iload_n dL_law_847 rfl ?_
                                                refine r_iconst (v := (nI 1)) dL_law_848 (by decide) ?_
                                                refine r_iadd dL_law_849 ?_
                                                obtain ⟨g209, h⟩ := zK_gd h
                                                refine r_sld rfl dL_law_850 g209 ?_
                                                refine r_aload_n dL_law_851 rfl ?_
                                                refine r_iload_n dL_law_852 rfl ?_
                                                refine r_iconst (v := (nI 2)) dL_law_853 (by decide) ?_
                                                refine r_iadd dL_law_854 ?_
                                                obtain ⟨g210, h⟩ := zK_gd h
                                                refine r_sld rfl dL_law_855 g210 ?_
                                                refine gV_iw (as := [.int (zG_xs G ((v3 + (nI 1))).toNatClampNeg), .int (zG_xs G ((v3 + (nI 2))).toNatClampNeg)]) (st := []) (k := 0) dL_law_856 zM_X9_grown zk_L_103 (zo_X9 (zs_X9 ht)) (by decide) rfl ⟨Nat.le_of_ble_eq_true rfl, Nat.le_of_ble_eq_true rfl⟩ (Nat.le_of_ble_eq_true rfl) (zz_TL rfl rfl) (fun Q' P' k h => c_X9_grown ((zG_xs G ((v3 + (nI 1))).toNatClampNeg)) ((zG_xs G ((v3 + (nI 2))).toNatClampNeg)) M ht h (fun r p => k r.1 r.2 p)) h (fun r212 M213 h => ?_)
                                                have h := zK_pr h
                                                refine r_aload_n dL_law_859 rfl ?_
                                                refine r_aload_n dL_law_860 rfl ?_
                                                refine r_iload_n dL_law_861 rfl ?_
                                                refine r_iconst (v := (nI 1)) dL_law_862 (by decide) ?_
                                                refine r_iadd dL_law_863 ?_
                                                refine r_sld rfl dL_law_864 g209 ?_
                                                refine r_aload_n dL_law_865 rfl ?_
                                                refine r_iload_n dL_law_866 rfl ?_
                                                refine r_iconst (v := (nI 2)) dL_law_867 (by decide) ?_
                                                refine r_iadd dL_law_868 ?_
                                                refine r_sld rfl dL_law_869 g210 ?_
                                                refine gV_iw (as := [.int (zG_xs G ((v3 + (nI 1))).toNatClampNeg), .int (zG_xs G ((v3 + (nI 2))).toNatClampNeg)]) (st := [.int r212]) (k := 73) dL_law_870 zM_X10_grown zk_L_106 (zo_X10 (zs_X10 ht)) (by decide) rfl ⟨Nat.le_of_ble_eq_true rfl, Nat.le_of_ble_eq_true rfl⟩ (Nat.le_of_ble_eq_true rfl) (zz_TL rfl rfl) (fun Q' P' k h => c_X10_grown ((zG_xs G ((v3 + (nI 1))).toNatClampNeg)) ((zG_xs G ((v3 + (nI 2))).toNatClampNeg)) M213 ht h (fun r p => k r.1 r.2 p)) h (fun r215 M216 h => ?_)
                                                have h := zK_pr h
                                                refine r_icmp_eq 1325 dL_law_873 (by decide) (fun c217 => ?_) (fun c217 => ?_)
                                                · have h := zK_pos h c217
                                                  refine r_iinc (nI 6) (fun x218 => [some (.ref 1000), some (.ref 0), some (.ref 73), some (.int x218)]) dL_law_1325 rfl (by decide) (by decide) rfl (fun _ => rfl) (fun x218 ex218 => ?_)
                                                  have h := zK_bd h ex218
                                                  refine r_goto 18 dL_law_1328 (by decide) ?_
                                                  exact k18 ((x218, M216)) (zK_some h)
                                                · have h := zK_neg h c217
                                                  refine r_iconst (v := (nI 0)) dL_law_876 (by decide) ?_
                                                  exact r_zret (b := false) dL_law_877 rfl (by decide +kernel) (by decide +kernel) (kR ((false, M216)) (zK_some h))
                                              · have h := zK_neg h c208
                                                by_cases c219 : ((zG_xs G (v3).toNatClampNeg) &&& (nI 63)) = (nI 22)
                                                · have h := zK_pos h c219
                                                  refine r_tabIn (off := 845) 878 dL_law_33 (by rw [c219]; first | done | decide) (by rw [c219]; first | done | decide) (by rw [c219]; first | done | decide) (by decide) ?_
                                                  refine r_aload_n dL_law_878 rfl ?_
                                                  refine r_aload_n dL_law_879 rfl ?_
                                                  refine r_iload_n dL_law_880 rfl ?_
                                                  refine r_iconst (v := (nI 1)) dL_law_881 (by decide) ?_
                                                  refine r_iadd dL_law_882 ?_
                                                  obtain ⟨g220, h⟩ := zK_gd h
                                                  refine r_sld rfl dL_law_883 g220 ?_
                                                  refine gV_iw (as := [.int (zG_xs G ((v3 + (nI 1))).toNatClampNeg)]) (st := []) (k := 0) dL_law_884 zM_X9_tuned zk_L_107 (zo_X9 (zs_X9 ht)) (by decide) rfl ⟨Nat.le_of_ble_eq_true rfl, Nat.le_of_ble_eq_true rfl⟩ (Nat.le_of_ble_eq_true rfl) (zz_TL rfl rfl) (fun Q' P' k h => c_X9_tuned ((zG_xs G ((v3 + (nI 1))).toNatClampNeg)) M ht h (fun r p => k r.1 r.2 p)) h (fun r222 M223 h => ?_)
                                                  have h := zK_pr h
                                                  refine r_aload_n dL_law_887 rfl ?_
                                                  refine r_aload_n dL_law_888 rfl ?_
                                                  refine r_iload_n dL_law_889 rfl ?_
                                                  refine r_iconst (v := (nI 1)) dL_law_890 (by decide) ?_
                                                  refine r_iadd dL_law_891 ?_
                                                  refine r_sld rfl dL_law_892 g220 ?_
                                                  refine gV_iw (as := [.int (zG_xs G ((v3 + (nI 1))).toNatClampNeg)]) (st := [.int r222]) (k := 73) dL_law_893 zM_X10_tuned zk_L_110 (zo_X10 (zs_X10 ht)) (by decide) rfl ⟨Nat.le_of_ble_eq_true rfl, Nat.le_of_ble_eq_true rfl⟩ (Nat.le_of_ble_eq_true rfl) (zz_TL rfl rfl) (fun Q' P' k h => c_X10_tuned ((zG_xs G ((v3 + (nI 1))).toNatClampNeg)) M223 ht h (fun r p => k r.1 r.2 p)) h (fun r225 M226 h => ?_)
                                                  have h := zK_pr h
                                                  refine r_icmp_eq 1325 dL_law_896 (by decide) (fun c227 => ?_) (fun c227 => ?_)
                                                  · have h := zK_pos h c227
                                                    refine r_iinc (nI 6) (fun x228 => [some (.ref 1000), some (.ref 0), some (.ref 73), some (.int x228)]) dL_law_1325 rfl (by decide) (by decide) rfl (fun _ => rfl) (fun x228 ex228 => ?_)
                                                    have h := zK_bd h ex228
                                                    refine r_goto 18 dL_law_1328 (by decide) ?_
                                                    exact k18 ((x228, M226)) (zK_some h)
                                                  · have h := zK_neg h c227
                                                    refine r_iconst (v := (nI 0)) dL_law_899 (by decide) ?_
                                                    exact r_zret (b := false) dL_law_900 rfl (by decide +kernel) (by decide +kernel) (kR ((false, M226)) (zK_some h))
                                                · have h := zK_neg h c219
                                                  by_cases c229 : ((zG_xs G (v3).toNatClampNeg) &&& (nI 63)) = (nI 23)
                                                  · have h := zK_pos h c229
                                                    refine r_tabIn (off := 868) 901 dL_law_33 (by rw [c229]; first | done | decide) (by rw [c229]; first | done | decide) (by rw [c229]; first | done | decide) (by decide) ?_
                                                    refine r_aload_n dL_law_901 rfl ?_
                                                    refine r_aload_n dL_law_902 rfl ?_
                                                    refine r_iload_n dL_law_903 rfl ?_
                                                    refine r_iconst (v := (nI 1)) dL_law_904 (by decide) ?_
                                                    refine r_iadd dL_law_905 ?_
                                                    obtain ⟨g230, h⟩ := zK_gd h
                                                    refine r_sld rfl dL_law_906 g230 ?_
                                                    refine gV_iw (as := [.int (zG_xs G ((v3 + (nI 1))).toNatClampNeg)]) (st := []) (k := 0) dL_law_907 zM_X9_signs zk_L_111 (zo_X9 (zs_X9 ht)) (by decide) rfl ⟨Nat.le_of_ble_eq_true rfl, Nat.le_of_ble_eq_true rfl⟩ (Nat.le_of_ble_eq_true rfl) (zz_TL rfl rfl) (fun Q' P' k h => c_X9_signs ((zG_xs G ((v3 + (nI 1))).toNatClampNeg)) M ht h (fun r p => k r.1 r.2 p)) h (fun r232 M233 h => ?_)
                                                    have h := zK_pr h
                                                    refine r_aload_n dL_law_910 rfl ?_
                                                    refine r_aload_n dL_law_911 rfl ?_
                                                    refine r_iload_n dL_law_912 rfl ?_
                                                    refine r_iconst (v := (nI 1)) dL_law_913 (by decide) ?_
                                                    refine r_iadd dL_law_914 ?_
                                                    refine r_sld rfl dL_law_915 g230 ?_
                                                    refine gV_iw (as := [.int (zG_xs G ((v3 + (nI 1))).toNatClampNeg)]) (st := [.int r232]) (k := 73) dL_law_916 zM_X10_signs zk_L_114 (zo_X10 (zs_X10 ht)) (by decide) rfl ⟨Nat.le_of_ble_eq_true rfl, Nat.le_of_ble_eq_true rfl⟩ (Nat.le_of_ble_eq_true rfl) (zz_TL rfl rfl) (fun Q' P' k h => c_X10_signs ((zG_xs G ((v3 + (nI 1))).toNatClampNeg)) M233 ht h (fun r p => k r.1 r.2 p)) h (fun r235 M236 h => ?_)
                                                    have h := zK_pr h
                                                    refine r_icmp_eq 1325 dL_law_919 (by decide) (fun c237 => ?_) (fun c237 => ?_)
                                                    · have h := zK_pos h c237
                                                      refine r_iinc (nI 6) (fun x238 => [some (.ref 1000), some (.ref 0), some (.ref 73), some (.int x238)]) dL_law_1325 rfl (by decide) (by decide) rfl (fun _ => rfl) (fun x238 ex238 => ?_)
                                                      have h := zK_bd h ex238
                                                      refine r_goto 18 dL_law_1328 (by decide) ?_
                                                      exact k18 ((x238, M236)) (zK_some h)
                                                    · have h := zK_neg h c237
                                                      refine r_iconst (v := (nI 0)) dL_law_922 (by decide) ?_
                                                      exact r_zret (b := false) dL_law_923 rfl (by decide +kernel) (by decide +kernel) (kR ((false, M236)) (zK_some h))
                                                  · have h := zK_neg h c229
                                                    by_cases c239 : ((zG_xs G (v3).toNatClampNeg) &&& (nI 63)) = (nI 24)
                                                    · have h := zK_pos h c239
                                                      refine r_tabIn (off := 891) 924 dL_law_33 (by rw [c239]; first | done | decide) (by rw [c239]; first | done | decide) (by rw [c239]; first | done | decide) (by decide) ?_
                                                      refine r_aload_n dL_law_924 rfl ?_
                                                      refine r_aload_n dL_law_925 rfl ?_
                                                      refine r_iload_n dL_law_926 rfl ?_
                                                      refine r_iconst (v := (nI 1)) dL_law_927 (by decide) ?_
                                                      refine r_iadd dL_law_928 ?_
                                                      obtain ⟨g240, h⟩ := zK_gd h
                                                      refine r_sld rfl dL_law_929 g240 ?_
                                                      refine gV_iw (as := [.int (zG_xs G ((v3 + (nI 1))).toNatClampNeg)]) (st := []) (k := 0) dL_law_930 zM_X9_passed zk_L_115 (zo_X9 (zs_X9 ht)) (by decide) rfl ⟨Nat.le_of_ble_eq_true rfl, Nat.le_of_ble_eq_true rfl⟩ (Nat.le_of_ble_eq_true rfl) (zz_TL rfl rfl) (fun Q' P' k h => c_X9_passed ((zG_xs G ((v3 + (nI 1))).toNatClampNeg)) M ht h (fun r p => k r.1 r.2 p)) h (fun r242 M243 h => ?_)
                                                      have h := zK_pr h
                                                      refine r_aload_n dL_law_933 rfl ?_
                                                      refine r_aload_n dL_law_934 rfl ?_
                                                      refine r_iload_n dL_law_935 rfl ?_
                                                      refine r_iconst (v := (nI 1)) dL_law_936 (by decide) ?_
                                                      refine r_iadd dL_law_937 ?_
                                                      refine r_sld rfl dL_law_938 g240 ?_
                                                      refine gV_iw (as := [.int (zG_xs G ((v3 + (nI 1))).toNatClampNeg)]) (st := [.int r242]) (k := 73) dL_law_939 zM_X10_passed zk_L_118 (zo_X10 (zs_X10 ht)) (by decide) rfl ⟨Nat.le_of_ble_eq_true rfl, Nat.le_of_ble_eq_true rfl⟩ (Nat.le_of_ble_eq_true rfl) (zz_TL rfl rfl) (fun Q' P' k h => c_X10_passed ((zG_xs G ((v3 + (nI 1))).toNatClampNeg)) M243 ht h (fun r p => k r.1 r.2 p)) h (fun r245 M246 h => ?_)
                                                      have h := zK_pr h
                                                      refine r_icmp_eq 1325 dL_law_942 (by decide) (fun c247 => ?_) (fun c247 => ?_)
                                                      · have h := zK_pos h c247
                                                        refine r_iinc (nI 6) (fun x248 => [some (.ref 1000), some (.ref 0), some (.ref 73), some (.int x248)]) dL_law_1325 rfl (by decide) (by decide) rfl (fun _ => rfl) (fun x248 ex248 => ?_)
                                                        have h := zK_bd h ex248
                                                        refine r_goto 18 dL_law_1328 (by decide) ?_
                                                        exact k18 ((x248, M246)) (zK_some h)
                                                      · have h := zK_neg h c247
                                                        refine r_iconst (v := (nI 0)) dL_law_945 (by decide) ?_
                                                        exact r_zret (b := false) dL_law_946 rfl (by decide +kernel) (by decide +kernel) (kR ((false, M246)) (zK_some h))
                                                    · have h := zK_neg h c239
                                                      by_cases c249 : ((zG_xs G (v3).toNatClampNeg) &&& (nI 63)) = (nI 25)
                                                      · have h := zK_pos h c249
                                                        refine r_tabIn (off := 914) 947 dL_law_33 (by rw [c249]; first | done | decide) (by rw [c249]; first | done | decide) (by rw [c249]; first | done | decide) (by decide) ?_
                                                        refine r_aload_n dL_law_947 rfl ?_
                                                        refine r_aload_n dL_law_948 rfl ?_
                                                        refine r_iload_n dL_law_949 rfl ?_
                                                        refine r_iconst (v := (nI 1)) dL_law_950 (by decide) ?_
                                                        refine r_iadd dL_law_951 ?_
                                                        obtain ⟨g250, h⟩ := zK_gd h
                                                        refine r_sld rfl dL_law_952 g250 ?_
                                                        refine gV_ir (as := [.int (zG_xs G ((v3 + (nI 1))).toNatClampNeg)]) (st := []) (k := 0) dL_law_953 zM_X9_costing zk_L_119 (zo_X9 (zs_X9 ht)) (by decide) rfl ⟨Nat.le_of_ble_eq_true rfl, Nat.le_of_ble_eq_true rfl⟩ (Nat.le_of_ble_eq_true rfl) (zz_TL rfl rfl) (fun Q' P' k h => c_X9_costing ((zG_xs G ((v3 + (nI 1))).toNatClampNeg)) M ht h k) h (fun r251 h => ?_)
                                                        refine r_aload_n dL_law_956 rfl ?_
                                                        refine r_aload_n dL_law_957 rfl ?_
                                                        refine r_iload_n dL_law_958 rfl ?_
                                                        refine r_iconst (v := (nI 1)) dL_law_959 (by decide) ?_
                                                        refine r_iadd dL_law_960 ?_
                                                        refine r_sld rfl dL_law_961 g250 ?_
                                                        refine gV_ir (as := [.int (zG_xs G ((v3 + (nI 1))).toNatClampNeg)]) (st := [.int r251]) (k := 73) dL_law_962 zM_X10_costing zk_L_122 (zo_X10 (zs_X10 ht)) (by decide) rfl ⟨Nat.le_of_ble_eq_true rfl, Nat.le_of_ble_eq_true rfl⟩ (Nat.le_of_ble_eq_true rfl) (zz_TL rfl rfl) (fun Q' P' k h => c_X10_costing ((zG_xs G ((v3 + (nI 1))).toNatClampNeg)) M ht h k) h (fun r252 h => ?_)
                                                        refine r_icmp_eq 1325 dL_law_965 (by decide) (fun c253 => ?_) (fun c253 => ?_)
                                                        · have h := zK_pos h c253
                                                          refine r_iinc (nI 6) (fun x254 => [some (.ref 1000), some (.ref 0), some (.ref 73), some (.int x254)]) dL_law_1325 rfl (by decide) (by decide) rfl (fun _ => rfl) (fun x254 ex254 => ?_)
                                                          have h := zK_bd h ex254
                                                          refine r_goto 18 dL_law_1328 (by decide) ?_
                                                          exact k18 ((x254, M)) (zK_some h)
                                                        · have h := zK_neg h c253
                                                          refine r_iconst (v := (nI 0)) dL_law_968 (by decide) ?_
                                                          exact r_zret (b := false) dL_law_969 rfl (by decide +kernel) (by decide +kernel) (kR ((false, M)) (zK_some h))
                                                      · have h := zK_neg h c249
                                                        by_cases c255 : ((zG_xs G (v3).toNatClampNeg) &&& (nI 63)) = (nI 26)
                                                        · have h := zK_pos h c255
                                                          refine r_tabIn (off := 937) 970 dL_law_33 (by rw [c255]; first | done | decide) (by rw [c255]; first | done | decide) (by rw [c255]; first | done | decide) (by decide) ?_
                                                          refine r_aload_n dL_law_970 rfl ?_
                                                          refine r_aload_n dL_law_971 rfl ?_
                                                          refine r_iload_n dL_law_972 rfl ?_
                                                          refine r_iconst (v := (nI 1)) dL_law_973 (by decide) ?_
                                                          refine r_iadd dL_law_974 ?_
                                                          obtain ⟨g256, h⟩ := zK_gd h
                                                          refine r_sld rfl dL_law_975 g256 ?_
                                                          refine gV_iw (as := [.int (zG_xs G ((v3 + (nI 1))).toNatClampNeg)]) (st := []) (k := 0) dL_law_976 zM_X9_since zk_L_123 (zo_X9 (zs_X9 ht)) (by decide) rfl ⟨Nat.le_of_ble_eq_true rfl, Nat.le_of_ble_eq_true rfl⟩ (Nat.le_of_ble_eq_true rfl) (zz_TL rfl rfl) (fun Q' P' k h => c_X9_since ((zG_xs G ((v3 + (nI 1))).toNatClampNeg)) M ht h (fun r p => k r.1 r.2 p)) h (fun r258 M259 h => ?_)
                                                          have h := zK_pr h
                                                          refine r_aload_n dL_law_979 rfl ?_
                                                          refine r_aload_n dL_law_980 rfl ?_
                                                          refine r_iload_n dL_law_981 rfl ?_
                                                          refine r_iconst (v := (nI 1)) dL_law_982 (by decide) ?_
                                                          refine r_iadd dL_law_983 ?_
                                                          refine r_sld rfl dL_law_984 g256 ?_
                                                          refine gV_iw (as := [.int (zG_xs G ((v3 + (nI 1))).toNatClampNeg)]) (st := [.int r258]) (k := 73) dL_law_985 zM_X10_since zk_L_126 (zo_X10 (zs_X10 ht)) (by decide) rfl ⟨Nat.le_of_ble_eq_true rfl, Nat.le_of_ble_eq_true rfl⟩ (Nat.le_of_ble_eq_true rfl) (zz_TL rfl rfl) (fun Q' P' k h => c_X10_since ((zG_xs G ((v3 + (nI 1))).toNatClampNeg)) M259 ht h (fun r p => k r.1 r.2 p)) h (fun r261 M262 h => ?_)
                                                          have h := zK_pr h
                                                          refine r_icmp_eq 1325 dL_law_988 (by decide) (fun c263 => ?_) (fun c263 => ?_)
                                                          · have h := zK_pos h c263
                                                            refine r_iinc (nI 6) (fun x264 => [some (.ref 1000), some (.ref 0), some (.ref 73), some (.int x264)]) dL_law_1325 rfl (by decide) (by decide) rfl (fun _ => rfl) (fun x264 ex264 => ?_)
                                                            have h := zK_bd h ex264
                                                            refine r_goto 18 dL_law_1328 (by decide) ?_
                                                            exact k18 ((x264, M262)) (zK_some h)
                                                          · have h := zK_neg h c263
                                                            refine r_iconst (v := (nI 0)) dL_law_991 (by decide) ?_
                                                            exact r_zret (b := false) dL_law_992 rfl (by decide +kernel) (by decide +kernel) (kR ((false, M262)) (zK_some h))
                                                        · have h := zK_neg h c255
                                                          by_cases c265 : ((zG_xs G (v3).toNatClampNeg) &&& (nI 63)) = (nI 27)
                                                          · have h := zK_pos h c265
                                                            refine r_tabIn (off := 960) 993 dL_law_33 (by rw [c265]; first | done | decide) (by rw [c265]; first | done | decide) (by rw [c265]; first | done | decide) (by decide) ?_
                                                            refine r_aload_n dL_law_993 rfl ?_
                                                            refine r_aload_n dL_law_994 rfl ?_
                                                            refine r_iload_n dL_law_995 rfl ?_
                                                            refine r_iconst (v := (nI 1)) dL_law_996 (by decide) ?_
                                                            refine r_iadd dL_law_997 ?_
                                                            obtain ⟨g266, h⟩ := zK_gd h
                                                            refine r_sld rfl dL_law_998 g266 ?_
                                                            refine gV_ir (as := [.int (zG_xs G ((v3 + (nI 1))).toNatClampNeg)]) (st := []) (k := 0) dL_law_999 zM_X9_alike zk_L_127 (zo_X9 (zs_X9 ht)) (by decide) rfl ⟨Nat.le_of_ble_eq_true rfl, Nat.le_of_ble_eq_true rfl⟩ (Nat.le_of_ble_eq_true rfl) (zz_TL rfl rfl) (fun Q' P' k h => c_X9_alike ((zG_xs G ((v3 + (nI 1))).toNatClampNeg)) M ht h k) h (fun r267 h => ?_)
                                                            refine r_aload_n dL_law_1002 rfl ?_
                                                            refine r_aload_n dL_law_1003 rfl ?_
                                                            refine r_iload_n dL_law_1004 rfl ?_
                                                            refine r_iconst (v := (nI 1)) dL_law_1005 (by decide) ?_
                                                            refine r_iadd dL_law_1006 ?_
                                                            refine r_sld rfl dL_law_1007 g266 ?_
                                                            refine gV_iw (as := [.int (zG_xs G ((v3 + (nI 1))).toNatClampNeg)]) (st := [.int r267]) (k := 73) dL_law_1008 zM_X10_alike zk_L_130 (zo_X10 (zs_X10 ht)) (by decide) rfl ⟨Nat.le_of_ble_eq_true rfl, Nat.le_of_ble_eq_true rfl⟩ (Nat.le_of_ble_eq_true rfl) (zz_TL rfl rfl) (fun Q' P' k h => c_X10_alike ((zG_xs G ((v3 + (nI 1))).toNatClampNeg)) M ht h (fun r p => k r.1 r.2 p)) h (fun r269 M270 h => ?_)
                                                            have h := zK_pr h
                                                            refine r_icmp_eq 1325 dL_law_1011 (by decide) (fun c271 => ?_) (fun c271 => ?_)
                                                            · have h := zK_pos h c271
                                                              refine r_iinc (nI 6) (fun x272 => [some (.ref 1000), some (.ref 0), some (.ref 73), some (.int x272)]) dL_law_1325 rfl (by decide) (by decide) rfl (fun _ => rfl) (fun x272 ex272 => ?_)
                                                              have h := zK_bd h ex272
                                                              refine r_goto 18 dL_law_1328 (by decide) ?_
                                                              exact k18 ((x272, M270)) (zK_some h)
                                                            · have h := zK_neg h c271
                                                              refine r_iconst (v := (nI 0)) dL_law_1014 (by decide) ?_
                                                              exact r_zret (b := false) dL_law_1015 rfl (by decide +kernel) (by decide +kernel) (kR ((false, M270)) (zK_some h))
                                                          · have h := zK_neg h c265
                                                            by_cases c273 : ((zG_xs G (v3).toNatClampNeg) &&& (nI 63)) = (nI 28)
                                                            · have h := zK_pos h c273
                                                              refine r_tabIn (off := 983) 1016 dL_law_33 (by rw [c273]; first | done | decide) (by rw [c273]; first | done | decide) (by rw [c273]; first | done | decide) (by decide) ?_
                                                              refine r_aload_n dL_law_1016 rfl ?_
                                                              refine r_aload_n dL_law_1017 rfl ?_
                                                              refine r_iload_n dL_law_1018 rfl ?_
                                                              refine r_iconst (v := (nI 1)) dL_law_1019 (by decide) ?_
                                                              refine r_iadd dL_law_1020 ?_
                                                              obtain ⟨g274, h⟩ := zK_gd h
                                                              refine r_sld rfl dL_law_1021 g274 ?_
                                                              refine gV_ir (as := [.int (zG_xs G ((v3 + (nI 1))).toNatClampNeg)]) (st := []) (k := 0) dL_law_1022 zM_X9_inOrder zk_L_131 (zo_X9 (zs_X9 ht)) (by decide) rfl ⟨Nat.le_of_ble_eq_true rfl, Nat.le_of_ble_eq_true rfl⟩ (Nat.le_of_ble_eq_true rfl) (zz_TL rfl rfl) (fun Q' P' k h => c_X9_inOrder ((zG_xs G ((v3 + (nI 1))).toNatClampNeg)) M ht h k) h (fun r275 h => ?_)
                                                              refine r_aload_n dL_law_1025 rfl ?_
                                                              refine r_aload_n dL_law_1026 rfl ?_
                                                              refine r_iload_n dL_law_1027 rfl ?_
                                                              refine r_iconst (v := (nI 1)) dL_law_1028 (by decide) ?_
                                                              refine r_iadd dL_law_1029 ?_
                                                              refine r_sld rfl dL_law_1030 g274 ?_
                                                              refine gV_iw (as := [.int (zG_xs G ((v3 + (nI 1))).toNatClampNeg)]) (st := [.int r275]) (k := 73) dL_law_1031 zM_X10_inOrder zk_L_134 (zo_X10 (zs_X10 ht)) (by decide) rfl ⟨Nat.le_of_ble_eq_true rfl, Nat.le_of_ble_eq_true rfl⟩ (Nat.le_of_ble_eq_true rfl) (zz_TL rfl rfl) (fun Q' P' k h => c_X10_inOrder ((zG_xs G ((v3 + (nI 1))).toNatClampNeg)) M ht h (fun r p => k r.1 r.2 p)) h (fun r277 M278 h => ?_)
                                                              have h := zK_pr h
                                                              refine r_icmp_eq 1325 dL_law_1034 (by decide) (fun c279 => ?_) (fun c279 => ?_)
                                                              · have h := zK_pos h c279
                                                                refine r_iinc (nI 6) (fun x280 => [some (.ref 1000), some (.ref 0), some (.ref 73), some (.int x280)]) dL_law_1325 rfl (by decide) (by decide) rfl (fun _ => rfl) (fun x280 ex280 => ?_)
                                                                have h := zK_bd h ex280
                                                                refine r_goto 18 dL_law_1328 (by decide) ?_
                                                                exact k18 ((x280, M278)) (zK_some h)
                                                              · have h := zK_neg h c279
                                                                refine r_iconst (v := (nI 0)) dL_law_1037 (by decide) ?_
                                                                exact r_zret (b := false) dL_law_1038 rfl (by decide +kernel) (by decide +kernel) (kR ((false, M278)) (zK_some h))
                                                            · have h := zK_neg h c273
                                                              by_cases c281 : ((zG_xs G (v3).toNatClampNeg) &&& (nI 63)) = (nI 29)
                                                              · have h := zK_pos h c281
                                                                refine r_tabIn (off := 1006) 1039 dL_law_33 (by rw [c281]; first | done | decide) (by rw [c281]; first | done | decide) (by rw [c281]; first | done | decide) (by decide) ?_
                                                                refine r_aload_n dL_law_1039 rfl ?_
                                                                refine r_aload_n dL_law_1040 rfl ?_
                                                                refine r_iload_n dL_law_1041 rfl ?_
                                                                refine r_iconst (v := (nI 1)) dL_law_1042 (by decide) ?_
                                                                refine r_iadd dL_law_1043 ?_
                                                                obtain ⟨g282, h⟩ := zK_gd h
                                                                refine r_sld rfl dL_law_1044 g282 ?_
                                                                refine r_aload_n dL_law_1045 rfl ?_
                                                                refine r_iload_n dL_law_1046 rfl ?_
                                                                refine r_iconst (v := (nI 2)) dL_law_1047 (by decide) ?_
                                                                refine r_iadd dL_law_1048 ?_
                                                                obtain ⟨g283, h⟩ := zK_gd h
                                                                refine r_sld rfl dL_law_1049 g283 ?_
                                                                refine gV_ir (as := [.int (zG_xs G ((v3 + (nI 1))).toNatClampNeg), .int (zG_xs G ((v3 + (nI 2))).toNatClampNeg)]) (st := []) (k := 0) dL_law_1050 zM_X9_between zk_L_135 (zo_X9 (zs_X9 ht)) (by decide) rfl ⟨Nat.le_of_ble_eq_true rfl, Nat.le_of_ble_eq_true rfl⟩ (Nat.le_of_ble_eq_true rfl) (zz_TL rfl rfl) (fun Q' P' k h => c_X9_between ((zG_xs G ((v3 + (nI 1))).toNatClampNeg)) ((zG_xs G ((v3 + (nI 2))).toNatClampNeg)) M ht h k) h (fun r284 h => ?_)
                                                                refine r_aload_n dL_law_1053 rfl ?_
                                                                refine r_aload_n dL_law_1054 rfl ?_
                                                                refine r_iload_n dL_law_1055 rfl ?_
                                                                refine r_iconst (v := (nI 1)) dL_law_1056 (by decide) ?_
                                                                refine r_iadd dL_law_1057 ?_
                                                                refine r_sld rfl dL_law_1058 g282 ?_
                                                                refine r_aload_n dL_law_1059 rfl ?_
                                                                refine r_iload_n dL_law_1060 rfl ?_
                                                                refine r_iconst (v := (nI 2)) dL_law_1061 (by decide) ?_
                                                                refine r_iadd dL_law_1062 ?_
                                                                refine r_sld rfl dL_law_1063 g283 ?_
                                                                refine gV_ir (as := [.int (zG_xs G ((v3 + (nI 1))).toNatClampNeg), .int (zG_xs G ((v3 + (nI 2))).toNatClampNeg)]) (st := [.int r284]) (k := 73) dL_law_1064 zM_X10_between zk_L_138 (zo_X10 (zs_X10 ht)) (by decide) rfl ⟨Nat.le_of_ble_eq_true rfl, Nat.le_of_ble_eq_true rfl⟩ (Nat.le_of_ble_eq_true rfl) (zz_TL rfl rfl) (fun Q' P' k h => c_X10_between ((zG_xs G ((v3 + (nI 1))).toNatClampNeg)) ((zG_xs G ((v3 + (nI 2))).toNatClampNeg)) M ht h k) h (fun r285 h => ?_)
                                                                refine r_icmp_eq 1325 dL_law_1067 (by decide) (fun c286 => ?_) (fun c286 => ?_)
                                                                · have h := zK_pos h c286
                                                                  refine r_iinc (nI 6) (fun x287 => [some (.ref 1000), some (.ref 0), some (.ref 73), some (.int x287)]) dL_law_1325 rfl (by decide) (by decide) rfl (fun _ => rfl) (fun x287 ex287 => ?_)
                                                                  have h := zK_bd h ex287
                                                                  refine r_goto 18 dL_law_1328 (by decide) ?_
                                                                  exact k18 ((x287, M)) (zK_some h)
                                                                · have h := zK_neg h c286
                                                                  refine r_iconst (v := (nI 0)) dL_law_1070 (by decide) ?_
                                                                  exact r_zret (b := false) dL_law_1071 rfl (by decide +kernel) (by decide +kernel) (kR ((false, M)) (zK_some h))
                                                              · have h := zK_neg h c281
                                                                by_cases c288 : ((zG_xs G (v3).toNatClampNeg) &&& (nI 63)) = (nI 30)
                                                                · have h := zK_pos h c288
                                                                  refine r_tabIn (off := 1039) 1072 dL_law_33 (by rw [c288]; first | done | decide) (by rw [c288]; first | done | decide) (by rw [c288]; first | done | decide) (by decide) ?_
                                                                  refine r_aload_n dL_law_1072 rfl ?_
                                                                  refine r_aload_n dL_law_1073 rfl ?_
                                                                  refine r_iload_n dL_law_1074 rfl ?_
                                                                  refine r_iconst (v := (nI 1)) dL_law_1075 (by decide) ?_
                                                                  refine r_iadd dL_law_1076 ?_
                                                                  obtain ⟨g289, h⟩ := zK_gd h
                                                                  refine r_sld rfl dL_law_1077 g289 ?_
                                                                  refine r_aload_n dL_law_1078 rfl ?_
                                                                  refine r_iload_n dL_law_1079 rfl ?_
                                                                  refine r_iconst (v := (nI 2)) dL_law_1080 (by decide) ?_
                                                                  refine r_iadd dL_law_1081 ?_
                                                                  obtain ⟨g290, h⟩ := zK_gd h
                                                                  refine r_sld rfl dL_law_1082 g290 ?_
                                                                  refine r_aload_n dL_law_1083 rfl ?_
                                                                  refine r_iload_n dL_law_1084 rfl ?_
                                                                  refine r_iconst (v := (nI 3)) dL_law_1085 (by decide) ?_
                                                                  refine r_iadd dL_law_1086 ?_
                                                                  obtain ⟨g291, h⟩ := zK_gd h
                                                                  refine r_sld rfl dL_law_1087 g291 ?_
                                                                  refine gV_iw (as := [.int (zG_xs G ((v3 + (nI 1))).toNatClampNeg), .int (zG_xs G ((v3 + (nI 2))).toNatClampNeg), .int (zG_xs G ((v3 + (nI 3))).toNatClampNeg)]) (st := []) (k := 0) dL_law_1088 zM_X9_bits zk_L_139 (zo_X9 (zs_X9 ht)) (by decide) rfl ⟨Nat.le_of_ble_eq_true rfl, Nat.le_of_ble_eq_true rfl⟩ (Nat.le_of_ble_eq_true rfl) (zz_TL rfl rfl) (fun Q' P' k h => c_X9_bits ((zG_xs G ((v3 + (nI 1))).toNatClampNeg)) ((zG_xs G ((v3 + (nI 2))).toNatClampNeg)) ((zG_xs G ((v3 + (nI 3))).toNatClampNeg)) M ht h (fun r p => k r.1 r.2 p)) h (fun r293 M294 h => ?_)
                                                                  have h := zK_pr h
                                                                  refine r_aload_n dL_law_1091 rfl ?_
                                                                  refine r_aload_n dL_law_1092 rfl ?_
                                                                  refine r_iload_n dL_law_1093 rfl ?_
                                                                  refine r_iconst (v := (nI 1)) dL_law_1094 (by decide) ?_
                                                                  refine r_iadd dL_law_1095 ?_
                                                                  refine r_sld rfl dL_law_1096 g289 ?_
                                                                  refine r_aload_n dL_law_1097 rfl ?_
                                                                  refine r_iload_n dL_law_1098 rfl ?_
                                                                  refine r_iconst (v := (nI 2)) dL_law_1099 (by decide) ?_
                                                                  refine r_iadd dL_law_1100 ?_
                                                                  refine r_sld rfl dL_law_1101 g290 ?_
                                                                  refine r_aload_n dL_law_1102 rfl ?_
                                                                  refine r_iload_n dL_law_1103 rfl ?_
                                                                  refine r_iconst (v := (nI 3)) dL_law_1104 (by decide) ?_
                                                                  refine r_iadd dL_law_1105 ?_
                                                                  refine r_sld rfl dL_law_1106 g291 ?_
                                                                  refine gV_iw (as := [.int (zG_xs G ((v3 + (nI 1))).toNatClampNeg), .int (zG_xs G ((v3 + (nI 2))).toNatClampNeg), .int (zG_xs G ((v3 + (nI 3))).toNatClampNeg)]) (st := [.int r293]) (k := 73) dL_law_1107 zM_X10_bits zk_L_142 (zo_X10 (zs_X10 ht)) (by decide) rfl ⟨Nat.le_of_ble_eq_true rfl, Nat.le_of_ble_eq_true rfl⟩ (Nat.le_of_ble_eq_true rfl) (zz_TL rfl rfl) (fun Q' P' k h => c_X10_bits ((zG_xs G ((v3 + (nI 1))).toNatClampNeg)) ((zG_xs G ((v3 + (nI 2))).toNatClampNeg)) ((zG_xs G ((v3 + (nI 3))).toNatClampNeg)) M294 ht h (fun r p => k r.1 r.2 p)) h (fun r296 M297 h => ?_)
                                                                  have h := zK_pr h
                                                                  refine r_icmp_eq 1325 dL_law_1110 (by decide) (fun c298 => ?_) (fun c298 => ?_)
                                                                  · have h := zK_pos h c298
                                                                    refine r_iinc (nI 6) (fun x299 => [some (.ref 1000), some (.ref 0), some (.ref 73), some (.int x299)]) dL_law_1325 rfl (by decide) (by decide) rfl (fun _ => rfl) (fun x299 ex299 => ?_)
                                                                    have h := zK_bd h ex299
                                                                    refine r_goto 18 dL_law_1328 (by decide) ?_
                                                                    exact k18 ((x299, M297)) (zK_some h)
                                                                  · have h := zK_neg h c298
                                                                    refine r_iconst (v := (nI 0)) dL_law_1113 (by decide) ?_
                                                                    exact r_zret (b := false) dL_law_1114 rfl (by decide +kernel) (by decide +kernel) (kR ((false, M297)) (zK_some h))
                                                                · have h := zK_neg h c288
                                                                  by_cases c300 : ((zG_xs G (v3).toNatClampNeg) &&& (nI 63)) = (nI 31)
                                                                  · have h := zK_pos h c300
                                                                    refine r_tabIn (off := 1082) 1115 dL_law_33 (by rw [c300]; first | done | decide) (by rw [c300]; first | done | decide) (by rw [c300]; first | done | decide) (by decide) ?_
                                                                    refine r_aload_n dL_law_1115 rfl ?_
                                                                    refine gV_iw (as := []) (st := []) (k := 0) dL_law_1116 zM_X9_scan zk_L_143 (zo_X9 (zs_X9 ht)) (by decide) rfl ⟨Nat.le_of_ble_eq_true rfl, Nat.le_of_ble_eq_true rfl⟩ (Nat.le_of_ble_eq_true rfl) (zz_TL rfl rfl) (fun Q' P' k h => c_X9_scan M ht h (fun r p => k r.1 r.2 p)) h (fun r302 M303 h => ?_)
                                                                    have h := zK_pr h
                                                                    refine r_aload_n dL_law_1119 rfl ?_
                                                                    refine gV_iw (as := []) (st := [.int r302]) (k := 73) dL_law_1120 zM_X10_scan zk_L_146 (zo_X10 (zs_X10 ht)) (by decide) rfl ⟨Nat.le_of_ble_eq_true rfl, Nat.le_of_ble_eq_true rfl⟩ (Nat.le_of_ble_eq_true rfl) (zz_TL rfl rfl) (fun Q' P' k h => c_X10_scan M303 ht h (fun r p => k r.1 r.2 p)) h (fun r305 M306 h => ?_)
                                                                    have h := zK_pr h
                                                                    refine r_icmp_eq 1325 dL_law_1123 (by decide) (fun c307 => ?_) (fun c307 => ?_)
                                                                    · have h := zK_pos h c307
                                                                      refine r_iinc (nI 6) (fun x308 => [some (.ref 1000), some (.ref 0), some (.ref 73), some (.int x308)]) dL_law_1325 rfl (by decide) (by decide) rfl (fun _ => rfl) (fun x308 ex308 => ?_)
                                                                      have h := zK_bd h ex308
                                                                      refine r_goto 18 dL_law_1328 (by decide) ?_
                                                                      exact k18 ((x308, M306)) (zK_some h)
                                                                    · have h := zK_neg h c307
                                                                      refine r_iconst (v := (nI 0)) dL_law_1126 (by decide) ?_
                                                                      exact r_zret (b := false) dL_law_1127 rfl (by decide +kernel) (by decide +kernel) (kR ((false, M306)) (zK_some h))
                                                                  · have h := zK_neg h c300
                                                                    by_cases c309 : ((zG_xs G (v3).toNatClampNeg) &&& (nI 63)) = (nI 32)
                                                                    · have h := zK_pos h c309
                                                                      refine r_tabIn (off := 1095) 1128 dL_law_33 (by rw [c309]; first | done | decide) (by rw [c309]; first | done | decide) (by rw [c309]; first | done | decide) (by decide) ?_
                                                                      refine r_aload_n dL_law_1128 rfl ?_
                                                                      refine r_aload_n dL_law_1129 rfl ?_
                                                                      refine r_iload_n dL_law_1130 rfl ?_
                                                                      refine r_iconst (v := (nI 1)) dL_law_1131 (by decide) ?_
                                                                      refine r_iadd dL_law_1132 ?_
                                                                      obtain ⟨g310, h⟩ := zK_gd h
                                                                      refine r_sld rfl dL_law_1133 g310 ?_
                                                                      refine gV_iw (as := [.int (zG_xs G ((v3 + (nI 1))).toNatClampNeg)]) (st := []) (k := 0) dL_law_1134 zM_X9_tell zk_L_147 (zo_X9 (zs_X9 ht)) (by decide) rfl ⟨Nat.le_of_ble_eq_true rfl, Nat.le_of_ble_eq_true rfl⟩ (Nat.le_of_ble_eq_true rfl) (zz_TL rfl rfl) (fun Q' P' k h => c_X9_tell ((zG_xs G ((v3 + (nI 1))).toNatClampNeg)) M ht h (fun r p => k r.1 r.2 p)) h (fun r312 M313 h => ?_)
                                                                      have h := zK_pr h
                                                                      refine r_aload_n dL_law_1137 rfl ?_
                                                                      refine r_aload_n dL_law_1138 rfl ?_
                                                                      refine r_iload_n dL_law_1139 rfl ?_
                                                                      refine r_iconst (v := (nI 1)) dL_law_1140 (by decide) ?_
                                                                      refine r_iadd dL_law_1141 ?_
                                                                      refine r_sld rfl dL_law_1142 g310 ?_
                                                                      refine gV_iw (as := [.int (zG_xs G ((v3 + (nI 1))).toNatClampNeg)]) (st := [.int r312]) (k := 73) dL_law_1143 zM_X10_tell zk_L_150 (zo_X10 (zs_X10 ht)) (by decide) rfl ⟨Nat.le_of_ble_eq_true rfl, Nat.le_of_ble_eq_true rfl⟩ (Nat.le_of_ble_eq_true rfl) (zz_TL rfl rfl) (fun Q' P' k h => c_X10_tell ((zG_xs G ((v3 + (nI 1))).toNatClampNeg)) M313 ht h (fun r p => k r.1 r.2 p)) h (fun r315 M316 h => ?_)
                                                                      have h := zK_pr h
                                                                      refine r_icmp_eq 1325 dL_law_1146 (by decide) (fun c317 => ?_) (fun c317 => ?_)
                                                                      · have h := zK_pos h c317
                                                                        refine r_iinc (nI 6) (fun x318 => [some (.ref 1000), some (.ref 0), some (.ref 73), some (.int x318)]) dL_law_1325 rfl (by decide) (by decide) rfl (fun _ => rfl) (fun x318 ex318 => ?_)
                                                                        have h := zK_bd h ex318
                                                                        refine r_goto 18 dL_law_1328 (by decide) ?_
                                                                        exact k18 ((x318, M316)) (zK_some h)
                                                                      · have h := zK_neg h c317
                                                                        refine r_iconst (v := (nI 0)) dL_law_1149 (by decide) ?_
                                                                        exact r_zret (b := false) dL_law_1150 rfl (by decide +kernel) (by decide +kernel) (kR ((false, M316)) (zK_some h))
                                                                    · have h := zK_neg h c309
                                                                      by_cases c319 : ((zG_xs G (v3).toNatClampNeg) &&& (nI 63)) = (nI 33)
                                                                      · have h := zK_pos h c319
                                                                        refine r_tabIn (off := 1118) 1151 dL_law_33 (by rw [c319]; first | done | decide) (by rw [c319]; first | done | decide) (by rw [c319]; first | done | decide) (by decide) ?_
                                                                        refine r_aload_n dL_law_1151 rfl ?_
                                                                        refine r_aload_n dL_law_1152 rfl ?_
                                                                        refine r_iload_n dL_law_1153 rfl ?_
                                                                        refine r_iconst (v := (nI 1)) dL_law_1154 (by decide) ?_
                                                                        refine r_iadd dL_law_1155 ?_
                                                                        obtain ⟨g320, h⟩ := zK_gd h
                                                                        refine r_sld rfl dL_law_1156 g320 ?_
                                                                        refine r_aload_n dL_law_1157 rfl ?_
                                                                        refine r_iload_n dL_law_1158 rfl ?_
                                                                        refine r_iconst (v := (nI 2)) dL_law_1159 (by decide) ?_
                                                                        refine r_iadd dL_law_1160 ?_
                                                                        obtain ⟨g321, h⟩ := zK_gd h
                                                                        refine r_sld rfl dL_law_1161 g321 ?_
                                                                        refine gV_iw (as := [.int (zG_xs G ((v3 + (nI 1))).toNatClampNeg), .int (zG_xs G ((v3 + (nI 2))).toNatClampNeg)]) (st := []) (k := 0) dL_law_1162 zM_X9_scanIs zk_L_151 (zo_X9 (zs_X9 ht)) (by decide) rfl ⟨Nat.le_of_ble_eq_true rfl, Nat.le_of_ble_eq_true rfl⟩ (Nat.le_of_ble_eq_true rfl) (zz_TL rfl rfl) (fun Q' P' k h => c_X9_scanIs ((zG_xs G ((v3 + (nI 1))).toNatClampNeg)) ((zG_xs G ((v3 + (nI 2))).toNatClampNeg)) M ht h (fun r p => k r.1 r.2 p)) h (fun r323 M324 h => ?_)
                                                                        have h := zK_pr h
                                                                        refine r_aload_n dL_law_1165 rfl ?_
                                                                        refine r_aload_n dL_law_1166 rfl ?_
                                                                        refine r_iload_n dL_law_1167 rfl ?_
                                                                        refine r_iconst (v := (nI 1)) dL_law_1168 (by decide) ?_
                                                                        refine r_iadd dL_law_1169 ?_
                                                                        refine r_sld rfl dL_law_1170 g320 ?_
                                                                        refine r_aload_n dL_law_1171 rfl ?_
                                                                        refine r_iload_n dL_law_1172 rfl ?_
                                                                        refine r_iconst (v := (nI 2)) dL_law_1173 (by decide) ?_
                                                                        refine r_iadd dL_law_1174 ?_
                                                                        refine r_sld rfl dL_law_1175 g321 ?_
                                                                        refine gV_iw (as := [.int (zG_xs G ((v3 + (nI 1))).toNatClampNeg), .int (zG_xs G ((v3 + (nI 2))).toNatClampNeg)]) (st := [.int r323]) (k := 73) dL_law_1176 zM_X10_scanIs zk_L_154 (zo_X10 (zs_X10 ht)) (by decide) rfl ⟨Nat.le_of_ble_eq_true rfl, Nat.le_of_ble_eq_true rfl⟩ (Nat.le_of_ble_eq_true rfl) (zz_TL rfl rfl) (fun Q' P' k h => c_X10_scanIs ((zG_xs G ((v3 + (nI 1))).toNatClampNeg)) ((zG_xs G ((v3 + (nI 2))).toNatClampNeg)) M324 ht h (fun r p => k r.1 r.2 p)) h (fun r326 M327 h => ?_)
                                                                        have h := zK_pr h
                                                                        refine r_icmp_eq 1325 dL_law_1179 (by decide) (fun c328 => ?_) (fun c328 => ?_)
                                                                        · have h := zK_pos h c328
                                                                          refine r_iinc (nI 6) (fun x329 => [some (.ref 1000), some (.ref 0), some (.ref 73), some (.int x329)]) dL_law_1325 rfl (by decide) (by decide) rfl (fun _ => rfl) (fun x329 ex329 => ?_)
                                                                          have h := zK_bd h ex329
                                                                          refine r_goto 18 dL_law_1328 (by decide) ?_
                                                                          exact k18 ((x329, M327)) (zK_some h)
                                                                        · have h := zK_neg h c328
                                                                          refine r_iconst (v := (nI 0)) dL_law_1182 (by decide) ?_
                                                                          exact r_zret (b := false) dL_law_1183 rfl (by decide +kernel) (by decide +kernel) (kR ((false, M327)) (zK_some h))
                                                                      · have h := zK_neg h c319
                                                                        by_cases c330 : ((zG_xs G (v3).toNatClampNeg) &&& (nI 63)) = (nI 34)
                                                                        · have h := zK_pos h c330
                                                                          refine r_tabIn (off := 1151) 1184 dL_law_33 (by rw [c330]; first | done | decide) (by rw [c330]; first | done | decide) (by rw [c330]; first | done | decide) (by decide) ?_
                                                                          refine r_aload_n dL_law_1184 rfl ?_
                                                                          refine r_aload_n dL_law_1185 rfl ?_
                                                                          refine r_iload_n dL_law_1186 rfl ?_
                                                                          refine r_iconst (v := (nI 1)) dL_law_1187 (by decide) ?_
                                                                          refine r_iadd dL_law_1188 ?_
                                                                          obtain ⟨g331, h⟩ := zK_gd h
                                                                          refine r_sld rfl dL_law_1189 g331 ?_
                                                                          refine gV_iw (as := [.int (zG_xs G ((v3 + (nI 1))).toNatClampNeg)]) (st := []) (k := 0) dL_law_1190 zM_X9_reach zk_L_155 (zo_X9 (zs_X9 ht)) (by decide) rfl ⟨Nat.le_of_ble_eq_true rfl, Nat.le_of_ble_eq_true rfl⟩ (Nat.le_of_ble_eq_true rfl) (zz_TL rfl rfl) (fun Q' P' k h => c_X9_reach ((zG_xs G ((v3 + (nI 1))).toNatClampNeg)) M ht h (fun r p => k r.1 r.2 p)) h (fun r333 M334 h => ?_)
                                                                          have h := zK_pr h
                                                                          refine r_aload_n dL_law_1193 rfl ?_
                                                                          refine r_aload_n dL_law_1194 rfl ?_
                                                                          refine r_iload_n dL_law_1195 rfl ?_
                                                                          refine r_iconst (v := (nI 1)) dL_law_1196 (by decide) ?_
                                                                          refine r_iadd dL_law_1197 ?_
                                                                          refine r_sld rfl dL_law_1198 g331 ?_
                                                                          refine gV_iw (as := [.int (zG_xs G ((v3 + (nI 1))).toNatClampNeg)]) (st := [.int r333]) (k := 73) dL_law_1199 zM_X10_reach zk_L_158 (zo_X10 (zs_X10 ht)) (by decide) rfl ⟨Nat.le_of_ble_eq_true rfl, Nat.le_of_ble_eq_true rfl⟩ (Nat.le_of_ble_eq_true rfl) (zz_TL rfl rfl) (fun Q' P' k h => c_X10_reach ((zG_xs G ((v3 + (nI 1))).toNatClampNeg)) M334 ht h (fun r p => k r.1 r.2 p)) h (fun r336 M337 h => ?_)
                                                                          have h := zK_pr h
                                                                          refine r_icmp_eq 1325 dL_law_1202 (by decide) (fun c338 => ?_) (fun c338 => ?_)
                                                                          · have h := zK_pos h c338
                                                                            refine r_iinc (nI 6) (fun x339 => [some (.ref 1000), some (.ref 0), some (.ref 73), some (.int x339)]) dL_law_1325 rfl (by decide) (by decide) rfl (fun _ => rfl) (fun x339 ex339 => ?_)
                                                                            have h := zK_bd h ex339
                                                                            refine r_goto 18 dL_law_1328 (by decide) ?_
                                                                            exact k18 ((x339, M337)) (zK_some h)
                                                                          · have h := zK_neg h c338
                                                                            refine r_iconst (v := (nI 0)) dL_law_1205 (by decide) ?_
                                                                            exact r_zret (b := false) dL_law_1206 rfl (by decide +kernel) (by decide +kernel) (kR ((false, M337)) (zK_some h))
                                                                        · have h := zK_neg h c330
                                                                          by_cases c340 : ((zG_xs G (v3).toNatClampNeg) &&& (nI 63)) = (nI 35)
                                                                          · have h := zK_pos h c340
                                                                            refine r_tabIn (off := 1174) 1207 dL_law_33 (by rw [c340]; first | done | decide) (by rw [c340]; first | done | decide) (by rw [c340]; first | done | decide) (by decide) ?_
                                                                            refine r_aload_n dL_law_1207 rfl ?_
                                                                            refine r_aload_n dL_law_1208 rfl ?_
                                                                            refine r_iload_n dL_law_1209 rfl ?_
                                                                            refine r_iconst (v := (nI 1)) dL_law_1210 (by decide) ?_
                                                                            refine r_iadd dL_law_1211 ?_
                                                                            obtain ⟨g341, h⟩ := zK_gd h
                                                                            refine r_sld rfl dL_law_1212 g341 ?_
                                                                            refine gV_iw (as := [.int (zG_xs G ((v3 + (nI 1))).toNatClampNeg)]) (st := []) (k := 0) dL_law_1213 zM_X9_ends zk_L_159 (zo_X9 (zs_X9 ht)) (by decide) rfl ⟨Nat.le_of_ble_eq_true rfl, Nat.le_of_ble_eq_true rfl⟩ (Nat.le_of_ble_eq_true rfl) (zz_TL rfl rfl) (fun Q' P' k h => c_X9_ends ((zG_xs G ((v3 + (nI 1))).toNatClampNeg)) M ht h (fun r p => k r.1 r.2 p)) h (fun r343 M344 h => ?_)
                                                                            have h := zK_pr h
                                                                            refine r_aload_n dL_law_1216 rfl ?_
                                                                            refine r_aload_n dL_law_1217 rfl ?_
                                                                            refine r_iload_n dL_law_1218 rfl ?_
                                                                            refine r_iconst (v := (nI 1)) dL_law_1219 (by decide) ?_
                                                                            refine r_iadd dL_law_1220 ?_
                                                                            refine r_sld rfl dL_law_1221 g341 ?_
                                                                            refine gV_iw (as := [.int (zG_xs G ((v3 + (nI 1))).toNatClampNeg)]) (st := [.int r343]) (k := 73) dL_law_1222 zM_X10_ends zk_L_162 (zo_X10 (zs_X10 ht)) (by decide) rfl ⟨Nat.le_of_ble_eq_true rfl, Nat.le_of_ble_eq_true rfl⟩ (Nat.le_of_ble_eq_true rfl) (zz_TL rfl rfl) (fun Q' P' k h => c_X10_ends ((zG_xs G ((v3 + (nI 1))).toNatClampNeg)) M344 ht h (fun r p => k r.1 r.2 p)) h (fun r346 M347 h => ?_)
                                                                            have h := zK_pr h
                                                                            refine r_icmp_eq 1325 dL_law_1225 (by decide) (fun c348 => ?_) (fun c348 => ?_)
                                                                            · have h := zK_pos h c348
                                                                              refine r_iinc (nI 6) (fun x349 => [some (.ref 1000), some (.ref 0), some (.ref 73), some (.int x349)]) dL_law_1325 rfl (by decide) (by decide) rfl (fun _ => rfl) (fun x349 ex349 => ?_)
                                                                              have h := zK_bd h ex349
                                                                              refine r_goto 18 dL_law_1328 (by decide) ?_
                                                                              exact k18 ((x349, M347)) (zK_some h)
                                                                            · have h := zK_neg h c348
                                                                              refine r_iconst (v := (nI 0)) dL_law_1228 (by decide) ?_
                                                                              exact r_zret (b := false) dL_law_1229 rfl (by decide +kernel) (by decide +kernel) (kR ((false, M347)) (zK_some h))
                                                                          · have h := zK_neg h c340
                                                                            by_cases c350 : ((zG_xs G (v3).toNatClampNeg) &&& (nI 63)) = (nI 36)
                                                                            · have h := zK_pos h c350
                                                                              refine r_tabIn (off := 1197) 1230 dL_law_33 (by rw [c350]; first | done | decide) (by rw [c350]; first | done | decide) (by rw [c350]; first | done | decide) (by decide) ?_
                                                                              refine r_aload_n dL_law_1230 rfl ?_
                                                                              refine r_aload_n dL_law_1231 rfl ?_
                                                                              refine r_iload_n dL_law_1232 rfl ?_
                                                                              refine r_iconst (v := (nI 1)) dL_law_1233 (by decide) ?_
                                                                              refine r_iadd dL_law_1234 ?_
                                                                              obtain ⟨g351, h⟩ := zK_gd h
                                                                              refine r_sld rfl dL_law_1235 g351 ?_
                                                                              refine gV_zw (as := [.int (zG_xs G ((v3 + (nI 1))).toNatClampNeg)]) (st := []) (k := 0) dL_law_1236 zM_X9_seed zk_L_163 (zo_X9 (zs_X9 ht)) (by decide) rfl ⟨Nat.le_of_ble_eq_true rfl, Nat.le_of_ble_eq_true rfl⟩ (Nat.le_of_ble_eq_true rfl) (zz_TL rfl rfl) (fun Q' P' k h => c_X9_seed ((zG_xs G ((v3 + (nI 1))).toNatClampNeg)) M ht h (fun r p => k r.1 r.2 p)) h (fun r353 M354 h => ?_)
                                                                              have h := zK_pr h
                                                                              refine r_aload_n dL_law_1239 rfl ?_
                                                                              refine r_aload_n dL_law_1240 rfl ?_
                                                                              refine r_iload_n dL_law_1241 rfl ?_
                                                                              refine r_iconst (v := (nI 1)) dL_law_1242 (by decide) ?_
                                                                              refine r_iadd dL_law_1243 ?_
                                                                              refine r_sld rfl dL_law_1244 g351 ?_
                                                                              refine gV_zw (as := [.int (zG_xs G ((v3 + (nI 1))).toNatClampNeg)]) (st := [.int (zb r353)]) (k := 73) dL_law_1245 zM_X10_seed zk_L_167 (zo_X10 (zs_X10 ht)) (by decide) rfl ⟨Nat.le_of_ble_eq_true rfl, Nat.le_of_ble_eq_true rfl⟩ (Nat.le_of_ble_eq_true rfl) (zz_TL rfl rfl) (fun Q' P' k h => c_X10_seed ((zG_xs G ((v3 + (nI 1))).toNatClampNeg)) M354 ht h (fun r p => k r.1 r.2 p)) h (fun r356 M357 h => ?_)
                                                                              have h := zK_pr h
                                                                              refine r_icmp_eq 1325 dL_law_1248 (by decide) (fun c358 => ?_) (fun c358 => ?_)
                                                                              · have h := zK_pos h c358
                                                                                refine r_iinc (nI 6) (fun x359 => [some (.ref 1000), some (.ref 0), some (.ref 73), some (.int x359)]) dL_law_1325 rfl (by decide) (by decide) rfl (fun _ => rfl) (fun x359 ex359 => ?_)
                                                                                have h := zK_bd h ex359
                                                                                refine r_goto 18 dL_law_1328 (by decide) ?_
                                                                                exact k18 ((x359, M357)) (zK_some h)
                                                                              · have h := zK_neg h c358
                                                                                refine r_iconst (v := (nI 0)) dL_law_1251 (by decide) ?_
                                                                                exact r_zret (b := false) dL_law_1252 rfl (by decide +kernel) (by decide +kernel) (kR ((false, M357)) (zK_some h))
                                                                            · have h := zK_neg h c350
                                                                              by_cases c360 : ((zG_xs G (v3).toNatClampNeg) &&& (nI 63)) = (nI 37)
                                                                              · have h := zK_pos h c360
                                                                                refine r_tabIn (off := 1220) 1253 dL_law_33 (by rw [c360]; first | done | decide) (by rw [c360]; first | done | decide) (by rw [c360]; first | done | decide) (by decide) ?_
                                                                                refine r_aload_n dL_law_1253 rfl ?_
                                                                                refine gV_iw (as := []) (st := []) (k := 0) dL_law_1254 zM_X9_keep zk_L_168 (zo_X9 (zs_X9 ht)) (by decide) rfl ⟨Nat.le_of_ble_eq_true rfl, Nat.le_of_ble_eq_true rfl⟩ (Nat.le_of_ble_eq_true rfl) (zz_TL rfl rfl) (fun Q' P' k h => c_X9_keep M ht h (fun r p => k r.1 r.2 p)) h (fun r362 M363 h => ?_)
                                                                                have h := zK_pr h
                                                                                refine r_aload_n dL_law_1257 rfl ?_
                                                                                refine gV_iw (as := []) (st := [.int r362]) (k := 73) dL_law_1258 zM_X10_keep zk_L_171 (zo_X10 (zs_X10 ht)) (by decide) rfl ⟨Nat.le_of_ble_eq_true rfl, Nat.le_of_ble_eq_true rfl⟩ (Nat.le_of_ble_eq_true rfl) (zz_TL rfl rfl) (fun Q' P' k h => c_X10_keep M363 ht h (fun r p => k r.1 r.2 p)) h (fun r365 M366 h => ?_)
                                                                                have h := zK_pr h
                                                                                refine r_icmp_eq 1325 dL_law_1261 (by decide) (fun c367 => ?_) (fun c367 => ?_)
                                                                                · have h := zK_pos h c367
                                                                                  refine r_iinc (nI 6) (fun x368 => [some (.ref 1000), some (.ref 0), some (.ref 73), some (.int x368)]) dL_law_1325 rfl (by decide) (by decide) rfl (fun _ => rfl) (fun x368 ex368 => ?_)
                                                                                  have h := zK_bd h ex368
                                                                                  refine r_goto 18 dL_law_1328 (by decide) ?_
                                                                                  exact k18 ((x368, M366)) (zK_some h)
                                                                                · have h := zK_neg h c367
                                                                                  refine r_iconst (v := (nI 0)) dL_law_1264 (by decide) ?_
                                                                                  exact r_zret (b := false) dL_law_1265 rfl (by decide +kernel) (by decide +kernel) (kR ((false, M366)) (zK_some h))
                                                                              · have h := zK_neg h c360
                                                                                by_cases c369 : ((zG_xs G (v3).toNatClampNeg) &&& (nI 63)) = (nI 38)
                                                                                · have h := zK_pos h c369
                                                                                  refine r_tabIn (off := 1233) 1266 dL_law_33 (by rw [c369]; first | done | decide) (by rw [c369]; first | done | decide) (by rw [c369]; first | done | decide) (by decide) ?_
                                                                                  refine r_aload_n dL_law_1266 rfl ?_
                                                                                  refine gV_zw (as := []) (st := []) (k := 0) dL_law_1267 zM_X9_undo zk_L_172 (zo_X9 (zs_X9 ht)) (by decide) rfl ⟨Nat.le_of_ble_eq_true rfl, Nat.le_of_ble_eq_true rfl⟩ (Nat.le_of_ble_eq_true rfl) (zz_TL rfl rfl) (fun Q' P' k h => c_X9_undo M ht h (fun r p => k r.1 r.2 p)) h (fun r371 M372 h => ?_)
                                                                                  have h := zK_pr h
                                                                                  refine r_aload_n dL_law_1270 rfl ?_
                                                                                  refine gV_zw (as := []) (st := [.int (zb r371)]) (k := 73) dL_law_1271 zM_X10_undo zk_L_176 (zo_X10 (zs_X10 ht)) (by decide) rfl ⟨Nat.le_of_ble_eq_true rfl, Nat.le_of_ble_eq_true rfl⟩ (Nat.le_of_ble_eq_true rfl) (zz_TL rfl rfl) (fun Q' P' k h => c_X10_undo M372 ht h (fun r p => k r.1 r.2 p)) h (fun r374 M375 h => ?_)
                                                                                  have h := zK_pr h
                                                                                  refine r_icmp_eq 1325 dL_law_1274 (by decide) (fun c376 => ?_) (fun c376 => ?_)
                                                                                  · have h := zK_pos h c376
                                                                                    refine r_iinc (nI 6) (fun x377 => [some (.ref 1000), some (.ref 0), some (.ref 73), some (.int x377)]) dL_law_1325 rfl (by decide) (by decide) rfl (fun _ => rfl) (fun x377 ex377 => ?_)
                                                                                    have h := zK_bd h ex377
                                                                                    refine r_goto 18 dL_law_1328 (by decide) ?_
                                                                                    exact k18 ((x377, M375)) (zK_some h)
                                                                                  · have h := zK_neg h c376
                                                                                    refine r_iconst (v := (nI 0)) dL_law_1277 (by decide) ?_
                                                                                    exact r_zret (b := false) dL_law_1278 rfl (by decide +kernel) (by decide +kernel) (kR ((false, M375)) (zK_some h))
                                                                                · have h := zK_neg h c369
                                                                                  by_cases c378 : ((zG_xs G (v3).toNatClampNeg) &&& (nI 63)) = (nI 39)
                                                                                  · have h := zK_pos h c378
                                                                                    refine r_tabIn (off := 1246) 1279 dL_law_33 (by rw [c378]; first | done | decide) (by rw [c378]; first | done | decide) (by rw [c378]; first | done | decide) (by decide) ?_
                                                                                    refine r_aload_n dL_law_1279 rfl ?_
                                                                                    refine r_aload_n dL_law_1280 rfl ?_
                                                                                    refine r_iload_n dL_law_1281 rfl ?_
                                                                                    refine r_iconst (v := (nI 1)) dL_law_1282 (by decide) ?_
                                                                                    refine r_iadd dL_law_1283 ?_
                                                                                    obtain ⟨g379, h⟩ := zK_gd h
                                                                                    refine r_sld rfl dL_law_1284 g379 ?_
                                                                                    refine gV_iw (as := [.int (zG_xs G ((v3 + (nI 1))).toNatClampNeg)]) (st := []) (k := 0) dL_law_1285 zM_X9_check zk_L_177 (zo_X9 (zs_X9 ht)) (by decide) rfl ⟨Nat.le_of_ble_eq_true rfl, Nat.le_of_ble_eq_true rfl⟩ (Nat.le_of_ble_eq_true rfl) (zz_TL rfl rfl) (fun Q' P' k h => c_X9_check ((zG_xs G ((v3 + (nI 1))).toNatClampNeg)) M ht h (fun r p => k r.1 r.2 p)) h (fun r381 M382 h => ?_)
                                                                                    have h := zK_pr h
                                                                                    refine r_aload_n dL_law_1288 rfl ?_
                                                                                    refine r_aload_n dL_law_1289 rfl ?_
                                                                                    refine r_iload_n dL_law_1290 rfl ?_
                                                                                    refine r_iconst (v := (nI 1)) dL_law_1291 (by decide) ?_
                                                                                    refine r_iadd dL_law_1292 ?_
                                                                                    refine r_sld rfl dL_law_1293 g379 ?_
                                                                                    refine gV_iw (as := [.int (zG_xs G ((v3 + (nI 1))).toNatClampNeg)]) (st := [.int r381]) (k := 73) dL_law_1294 zM_X10_check zk_L_180 (zo_X10 (zs_X10 ht)) (by decide) rfl ⟨Nat.le_of_ble_eq_true rfl, Nat.le_of_ble_eq_true rfl⟩ (Nat.le_of_ble_eq_true rfl) (zz_TL rfl rfl) (fun Q' P' k h => c_X10_check ((zG_xs G ((v3 + (nI 1))).toNatClampNeg)) M382 ht h (fun r p => k r.1 r.2 p)) h (fun r384 M385 h => ?_)
                                                                                    have h := zK_pr h
                                                                                    refine r_icmp_eq 1325 dL_law_1297 (by decide) (fun c386 => ?_) (fun c386 => ?_)
                                                                                    · have h := zK_pos h c386
                                                                                      refine r_iinc (nI 6) (fun x387 => [some (.ref 1000), some (.ref 0), some (.ref 73), some (.int x387)]) dL_law_1325 rfl (by decide) (by decide) rfl (fun _ => rfl) (fun x387 ex387 => ?_)
                                                                                      have h := zK_bd h ex387
                                                                                      refine r_goto 18 dL_law_1328 (by decide) ?_
                                                                                      exact k18 ((x387, M385)) (zK_some h)
                                                                                    · have h := zK_neg h c386
                                                                                      refine r_iconst (v := (nI 0)) dL_law_1300 (by decide) ?_
                                                                                      exact r_zret (b := false) dL_law_1301 rfl (by decide +kernel) (by decide +kernel) (kR ((false, M385)) (zK_some h))
                                                                                  · have h := zK_neg h c378
                                                                                    by_cases c388 : ((zG_xs G (v3).toNatClampNeg) &&& (nI 63)) = (nI 40)
                                                                                    · have h := zK_pos h c388
                                                                                      refine r_tabIn (off := 1269) 1302 dL_law_33 (by rw [c388]; first | done | decide) (by rw [c388]; first | done | decide) (by rw [c388]; first | done | decide) (by decide) ?_
                                                                                      refine r_aload_n dL_law_1302 rfl ?_
                                                                                      refine r_aload_n dL_law_1303 rfl ?_
                                                                                      refine r_iload_n dL_law_1304 rfl ?_
                                                                                      refine r_iconst (v := (nI 1)) dL_law_1305 (by decide) ?_
                                                                                      refine r_iadd dL_law_1306 ?_
                                                                                      obtain ⟨g389, h⟩ := zK_gd h
                                                                                      refine r_sld rfl dL_law_1307 g389 ?_
                                                                                      refine gV_ir (as := [.int (zG_xs G ((v3 + (nI 1))).toNatClampNeg)]) (st := []) (k := 0) dL_law_1308 zM_X9_count zk_L_181 (zo_X9 (zs_X9 ht)) (by decide) rfl ⟨Nat.le_of_ble_eq_true rfl, Nat.le_of_ble_eq_true rfl⟩ (Nat.le_of_ble_eq_true rfl) (zz_TL rfl rfl) (fun Q' P' k h => c_X9_count ((zG_xs G ((v3 + (nI 1))).toNatClampNeg)) M ht h k) h (fun r390 h => ?_)
                                                                                      refine r_aload_n dL_law_1311 rfl ?_
                                                                                      refine r_aload_n dL_law_1312 rfl ?_
                                                                                      refine r_iload_n dL_law_1313 rfl ?_
                                                                                      refine r_iconst (v := (nI 1)) dL_law_1314 (by decide) ?_
                                                                                      refine r_iadd dL_law_1315 ?_
                                                                                      refine r_sld rfl dL_law_1316 g389 ?_
                                                                                      refine gV_ir (as := [.int (zG_xs G ((v3 + (nI 1))).toNatClampNeg)]) (st := [.int r390]) (k := 73) dL_law_1317 zM_X10_count zk_L_184 (zo_X10 (zs_X10 ht)) (by decide) rfl ⟨Nat.le_of_ble_eq_true rfl, Nat.le_of_ble_eq_true rfl⟩ (Nat.le_of_ble_eq_true rfl) (zz_TL rfl rfl) (fun Q' P' k h => c_X10_count ((zG_xs G ((v3 + (nI 1))).toNatClampNeg)) M ht h k) h (fun r391 h => ?_)
                                                                                      refine r_icmp_eq 1325 dL_law_1320 (by decide) (fun c392 => ?_) (fun c392 => ?_)
                                                                                      · have h := zK_pos h c392
                                                                                        refine r_iinc (nI 6) (fun x393 => [some (.ref 1000), some (.ref 0), some (.ref 73), some (.int x393)]) dL_law_1325 rfl (by decide) (by decide) rfl (fun _ => rfl) (fun x393 ex393 => ?_)
                                                                                        have h := zK_bd h ex393
                                                                                        refine r_goto 18 dL_law_1328 (by decide) ?_
                                                                                        exact k18 ((x393, M)) (zK_some h)
                                                                                      · have h := zK_neg h c392
                                                                                        refine r_iconst (v := (nI 0)) dL_law_1323 (by decide) ?_
                                                                                        exact r_zret (b := false) dL_law_1324 rfl (by decide +kernel) (by decide +kernel) (kR ((false, M)) (zK_some h))
                                                                                    · have h := zK_neg h c388
                                                                                      have hD : zz_W G m_L_law 0 180 180 1325 [some (.ref 1000), some (.ref 0), some (.ref 73), some (.int v3)] [] M Q := by
                                                                                        refine r_iinc (nI 6) (fun x394 => [some (.ref 1000), some (.ref 0), some (.ref 73), some (.int x394)]) dL_law_1325 rfl (by decide) (by decide) rfl (fun _ => rfl) (fun x394 ex394 => ?_)
                                                                                        have h := zK_bd h ex394
                                                                                        refine r_goto 18 dL_law_1328 (by decide) ?_
                                                                                        exact k18 ((x394, M)) (zK_some h)
                                                                                      refine r_tabOut 1325 dL_law_33 (zz_tab_out (n := 41) (fun i hi => ?_) (by decide)) (by decide) hD
                                                                                      exact match i, hi with
                                                                                      | 0, _ => fun e => c3 (e.trans (by decide))
                                                                                      | 1, _ => fun e => c17 (e.trans (by decide))
                                                                                      | 2, _ => fun e => c31 (e.trans (by decide))
                                                                                      | 3, _ => fun e => c41 (e.trans (by decide))
                                                                                      | 4, _ => fun e => c51 (e.trans (by decide))
                                                                                      | 5, _ => fun e => c62 (e.trans (by decide))
                                                                                      | 6, _ => fun e => c72 (e.trans (by decide))
                                                                                      | 7, _ => fun e => c82 (e.trans (by decide))
                                                                                      | 8, _ => fun e => c91 (e.trans (by decide))
                                                                                      | 9, _ => fun e => c100 (e.trans (by decide))
                                                                                      | 10, _ => fun e => c106 (e.trans (by decide))
                                                                                      | 11, _ => fun e => c117 (e.trans (by decide))
                                                                                      | 12, _ => fun e => c128 (e.trans (by decide))
                                                                                      | 13, _ => fun e => c135 (e.trans (by decide))
                                                                                      | 14, _ => fun e => c142 (e.trans (by decide))
                                                                                      | 15, _ => fun e => c148 (e.trans (by decide))
                                                                                      | 16, _ => fun e => c154 (e.trans (by decide))
                                                                                      | 17, _ => fun e => c164 (e.trans (by decide))
                                                                                      | 18, _ => fun e => c175 (e.trans (by decide))
                                                                                      | 19, _ => fun e => c185 (e.trans (by decide))
                                                                                      | 20, _ => fun e => c196 (e.trans (by decide))
                                                                                      | 21, _ => fun e => c208 (e.trans (by decide))
                                                                                      | 22, _ => fun e => c219 (e.trans (by decide))
                                                                                      | 23, _ => fun e => c229 (e.trans (by decide))
                                                                                      | 24, _ => fun e => c239 (e.trans (by decide))
                                                                                      | 25, _ => fun e => c249 (e.trans (by decide))
                                                                                      | 26, _ => fun e => c255 (e.trans (by decide))
                                                                                      | 27, _ => fun e => c265 (e.trans (by decide))
                                                                                      | 28, _ => fun e => c273 (e.trans (by decide))
                                                                                      | 29, _ => fun e => c281 (e.trans (by decide))
                                                                                      | 30, _ => fun e => c288 (e.trans (by decide))
                                                                                      | 31, _ => fun e => c300 (e.trans (by decide))
                                                                                      | 32, _ => fun e => c309 (e.trans (by decide))
                                                                                      | 33, _ => fun e => c319 (e.trans (by decide))
                                                                                      | 34, _ => fun e => c330 (e.trans (by decide))
                                                                                      | 35, _ => fun e => c340 (e.trans (by decide))
                                                                                      | 36, _ => fun e => c350 (e.trans (by decide))
                                                                                      | 37, _ => fun e => c360 (e.trans (by decide))
                                                                                      | 38, _ => fun e => c369 (e.trans (by decide))
                                                                                      | 39, _ => fun e => c378 (e.trans (by decide))
                                                                                      | 40, _ => fun e => c388 (e.trans (by decide))
                                                                                      | k + 41, hk => absurd hk (by omega)
noncomputable def j_L_law_18 (G : zzG) (v3 : Int32) (M : zzMem) : Option (Bool × zzMem) :=
  zlp (fun s : (Int32 × zzMem) => b_L_law_18 G s.1 s.2) (v3, M)
set_option maxHeartbeats 4000000 in
set_option maxRecDepth 100000 in
theorem w_L_law_18 {Q : Option Value → zzMem → Prop} (G : zzG) (v3 : Int32) (M : zzMem) (ht : 180 ≤ 180)  {P : (Bool × zzMem) → Prop} (h : zK (j_L_law_18 G v3 M) P) (kR : ∀ r : (Bool × zzMem), P r → Q (some (.int (zb r.1))) r.2) : zz_W G m_L_law 0 180 180 18 [some (.ref 1000), some (.ref 0), some (.ref 73), some (.int v3)] [] M Q := by
  unfold j_L_law_18 at h
  exact zK_lp h (fun s : (Int32 × zzMem) => zz_W G m_L_law 0 180 180 18 [some (.ref 1000), some (.ref 0), some (.ref 73), some (.int s.1)] [] s.2 Q) (fun s h => x_L_law_18 G s.1 s.2 ht h (fun s p => p) kR)
