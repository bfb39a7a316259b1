theorem zz_pure (G : zzG) (hL : zG_L G ≤ 3072) : zK (f_L_law G) (fun r => r.1 = true) := sorry
