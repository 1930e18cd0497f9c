theorem ck_bc : ((List.range 4096).all fun x => decide (fJ6_bitCount_0f7a4 0 (nI x) = some (nI (pk x 12)))) = true := by decide +kernel
theorem ck_sz : ((List.range 4096).all fun x => decide (fX5_size_4 0 13 (nI 0) (nI x) = some (nI (pk x 12)))) = true := by decide +kernel
