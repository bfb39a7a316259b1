theorem zs_X9 {t : Nat} (ht : 180 ≤ t) : zI_X9 t 0 := ⟨rfl, ht⟩
theorem zs_X8 {t : Nat} (ht : 180 ≤ t) : zI_X8 t 1 := ⟨rfl, ht⟩
theorem zs_X4 {t : Nat} (ht : 180 ≤ t) : zI_X4 t 3 := ⟨rfl, ht⟩
theorem zs_X7 {t : Nat} (ht : 180 ≤ t) : zI_X7 t 7 := ⟨rfl, ht⟩
theorem zs_X10 {t : Nat} (ht : 180 ≤ t) : zI_X10 t 73 := ⟨rfl, ht⟩
