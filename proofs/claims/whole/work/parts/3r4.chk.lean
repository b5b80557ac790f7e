/-! ===== the bound, checked: settings 4 ===== -/
theorem bd4_t0000000 : bdf false false true 9 6 kV = true := by decide +kernel
theorem bd4_t0000001 : bdf false false true 9 5 (brm 9 kV) = true := by decide +kernel
theorem bd4_t000000 : bdf false false true 10 6 kV = true := bdf_s (k := 9) (j := 5) bd4_t0000000 bd4_t0000001
theorem bd4_t000001 : bdf false false true 10 5 (brm 10 kV) = true := by decide +kernel
theorem bd4_t00000 : bdf false false true 11 6 kV = true := bdf_s (k := 10) (j := 5) bd4_t000000 bd4_t000001
theorem bd4_t000010 : bdf false false true 10 5 (brm 11 kV) = true := by decide +kernel
theorem bd4_t000011 : bdf false false true 10 4 (brm 10 (brm 11 kV)) = true := by decide +kernel
theorem bd4_t00001 : bdf false false true 11 5 (brm 11 kV) = true := bdf_s (k := 10) (j := 4) bd4_t000010 bd4_t000011
theorem bd4_t0000 : bdf false false true 12 6 kV = true := bdf_s (k := 11) (j := 5) bd4_t00000 bd4_t00001
theorem bd4_t000100 : bdf false false true 10 5 (brm 12 kV) = true := by decide +kernel
theorem bd4_t000101 : bdf false false true 10 4 (brm 10 (brm 12 kV)) = true := by decide +kernel
theorem bd4_t00010 : bdf false false true 11 5 (brm 12 kV) = true := bdf_s (k := 10) (j := 4) bd4_t000100 bd4_t000101
theorem bd4_t00011 : bdf false false true 11 4 (brm 11 (brm 12 kV)) = true := by decide +kernel
theorem bd4_t0001 : bdf false false true 12 5 (brm 12 kV) = true := bdf_s (k := 11) (j := 4) bd4_t00010 bd4_t00011
theorem bd4_t000 : bdf false false true 13 6 kV = true := bdf_s (k := 12) (j := 5) bd4_t0000 bd4_t0001
theorem bd4_t001000 : bdf false false true 10 5 (brm 13 kV) = true := by decide +kernel
theorem bd4_t001001 : bdf false false true 10 4 (brm 10 (brm 13 kV)) = true := by decide +kernel
theorem bd4_t00100 : bdf false false true 11 5 (brm 13 kV) = true := bdf_s (k := 10) (j := 4) bd4_t001000 bd4_t001001
theorem bd4_t00101 : bdf false false true 11 4 (brm 11 (brm 13 kV)) = true := by decide +kernel
theorem bd4_t0010 : bdf false false true 12 5 (brm 13 kV) = true := bdf_s (k := 11) (j := 4) bd4_t00100 bd4_t00101
theorem bd4_t0011 : bdf false false true 12 4 (brm 12 (brm 13 kV)) = true := by decide +kernel
theorem bd4_t001 : bdf false false true 13 5 (brm 13 kV) = true := bdf_s (k := 12) (j := 4) bd4_t0010 bd4_t0011
theorem bd4_t00 : bdf false false true 14 6 kV = true := bdf_s (k := 13) (j := 5) bd4_t000 bd4_t001
theorem bd4_t010000 : bdf false false true 10 5 (brm 14 kV) = true := by decide +kernel
theorem bd4_t010001 : bdf false false true 10 4 (brm 10 (brm 14 kV)) = true := by decide +kernel
theorem bd4_t01000 : bdf false false true 11 5 (brm 14 kV) = true := bdf_s (k := 10) (j := 4) bd4_t010000 bd4_t010001
theorem bd4_t01001 : bdf false false true 11 4 (brm 11 (brm 14 kV)) = true := by decide +kernel
theorem bd4_t0100 : bdf false false true 12 5 (brm 14 kV) = true := bdf_s (k := 11) (j := 4) bd4_t01000 bd4_t01001
theorem bd4_t0101 : bdf false false true 12 4 (brm 12 (brm 14 kV)) = true := by decide +kernel
theorem bd4_t010 : bdf false false true 13 5 (brm 14 kV) = true := bdf_s (k := 12) (j := 4) bd4_t0100 bd4_t0101
theorem bd4_t0110 : bdf false false true 12 4 (brm 13 (brm 14 kV)) = true := by decide +kernel
theorem bd4_t0111 : bdf false false true 12 3 (brm 12 (brm 13 (brm 14 kV))) = true := by decide +kernel
theorem bd4_t011 : bdf false false true 13 4 (brm 13 (brm 14 kV)) = true := bdf_s (k := 12) (j := 3) bd4_t0110 bd4_t0111
theorem bd4_t01 : bdf false false true 14 5 (brm 14 kV) = true := bdf_s (k := 13) (j := 4) bd4_t010 bd4_t011
theorem bd4_t0 : bdf false false true 15 6 kV = true := bdf_s (k := 14) (j := 5) bd4_t00 bd4_t01
theorem bd4_t100000 : bdf false false true 10 5 (brm 15 kV) = true := by decide +kernel
theorem bd4_t100001 : bdf false false true 10 4 (brm 10 (brm 15 kV)) = true := by decide +kernel
theorem bd4_t10000 : bdf false false true 11 5 (brm 15 kV) = true := bdf_s (k := 10) (j := 4) bd4_t100000 bd4_t100001
theorem bd4_t10001 : bdf false false true 11 4 (brm 11 (brm 15 kV)) = true := by decide +kernel
theorem bd4_t1000 : bdf false false true 12 5 (brm 15 kV) = true := bdf_s (k := 11) (j := 4) bd4_t10000 bd4_t10001
theorem bd4_t1001 : bdf false false true 12 4 (brm 12 (brm 15 kV)) = true := by decide +kernel
theorem bd4_t100 : bdf false false true 13 5 (brm 15 kV) = true := bdf_s (k := 12) (j := 4) bd4_t1000 bd4_t1001
theorem bd4_t1010 : bdf false false true 12 4 (brm 13 (brm 15 kV)) = true := by decide +kernel
theorem bd4_t1011 : bdf false false true 12 3 (brm 12 (brm 13 (brm 15 kV))) = true := by decide +kernel
theorem bd4_t101 : bdf false false true 13 4 (brm 13 (brm 15 kV)) = true := bdf_s (k := 12) (j := 3) bd4_t1010 bd4_t1011
theorem bd4_t10 : bdf false false true 14 5 (brm 15 kV) = true := bdf_s (k := 13) (j := 4) bd4_t100 bd4_t101
theorem bd4_t1100 : bdf false false true 12 4 (brm 14 (brm 15 kV)) = true := by decide +kernel
theorem bd4_t1101 : bdf false false true 12 3 (brm 12 (brm 14 (brm 15 kV))) = true := by decide +kernel
theorem bd4_t110 : bdf false false true 13 4 (brm 14 (brm 15 kV)) = true := bdf_s (k := 12) (j := 3) bd4_t1100 bd4_t1101
theorem bd4_t111 : bdf false false true 13 3 (brm 13 (brm 14 (brm 15 kV))) = true := by decide +kernel
theorem bd4_t11 : bdf false false true 14 4 (brm 14 (brm 15 kV)) = true := bdf_s (k := 13) (j := 3) bd4_t110 bd4_t111
theorem bd4_t1 : bdf false false true 15 5 (brm 15 kV) = true := bdf_s (k := 14) (j := 4) bd4_t10 bd4_t11
theorem bd4_t : bdf false false true 16 6 kV = true := bdf_s (k := 15) (j := 5) bd4_t0 bd4_t1
