/-! ===== the bound, checked: settings 3 ===== -/
theorem bd3_t0000000 : bdf true true false 9 6 kV = true := by decide +kernel
theorem bd3_t0000001 : bdf true true false 9 5 (brm 9 kV) = true := by decide +kernel
theorem bd3_t000000 : bdf true true false 10 6 kV = true := bdf_s (k := 9) (j := 5) bd3_t0000000 bd3_t0000001
theorem bd3_t000001 : bdf true true false 10 5 (brm 10 kV) = true := by decide +kernel
theorem bd3_t00000 : bdf true true false 11 6 kV = true := bdf_s (k := 10) (j := 5) bd3_t000000 bd3_t000001
theorem bd3_t000010 : bdf true true false 10 5 (brm 11 kV) = true := by decide +kernel
theorem bd3_t000011 : bdf true true false 10 4 (brm 10 (brm 11 kV)) = true := by decide +kernel
theorem bd3_t00001 : bdf true true false 11 5 (brm 11 kV) = true := bdf_s (k := 10) (j := 4) bd3_t000010 bd3_t000011
theorem bd3_t0000 : bdf true true false 12 6 kV = true := bdf_s (k := 11) (j := 5) bd3_t00000 bd3_t00001
theorem bd3_t000100 : bdf true true false 10 5 (brm 12 kV) = true := by decide +kernel
theorem bd3_t000101 : bdf true true false 10 4 (brm 10 (brm 12 kV)) = true := by decide +kernel
theorem bd3_t00010 : bdf true true false 11 5 (brm 12 kV) = true := bdf_s (k := 10) (j := 4) bd3_t000100 bd3_t000101
theorem bd3_t00011 : bdf true true false 11 4 (brm 11 (brm 12 kV)) = true := by decide +kernel
theorem bd3_t0001 : bdf true true false 12 5 (brm 12 kV) = true := bdf_s (k := 11) (j := 4) bd3_t00010 bd3_t00011
theorem bd3_t000 : bdf true true false 13 6 kV = true := bdf_s (k := 12) (j := 5) bd3_t0000 bd3_t0001
theorem bd3_t001000 : bdf true true false 10 5 (brm 13 kV) = true := by decide +kernel
theorem bd3_t001001 : bdf true true false 10 4 (brm 10 (brm 13 kV)) = true := by decide +kernel
theorem bd3_t00100 : bdf true true false 11 5 (brm 13 kV) = true := bdf_s (k := 10) (j := 4) bd3_t001000 bd3_t001001
theorem bd3_t00101 : bdf true true false 11 4 (brm 11 (brm 13 kV)) = true := by decide +kernel
theorem bd3_t0010 : bdf true true false 12 5 (brm 13 kV) = true := bdf_s (k := 11) (j := 4) bd3_t00100 bd3_t00101
theorem bd3_t0011 : bdf true true false 12 4 (brm 12 (brm 13 kV)) = true := by decide +kernel
theorem bd3_t001 : bdf true true false 13 5 (brm 13 kV) = true := bdf_s (k := 12) (j := 4) bd3_t0010 bd3_t0011
theorem bd3_t00 : bdf true true false 14 6 kV = true := bdf_s (k := 13) (j := 5) bd3_t000 bd3_t001
theorem bd3_t010000 : bdf true true false 10 5 (brm 14 kV) = true := by decide +kernel
theorem bd3_t010001 : bdf true true false 10 4 (brm 10 (brm 14 kV)) = true := by decide +kernel
theorem bd3_t01000 : bdf true true false 11 5 (brm 14 kV) = true := bdf_s (k := 10) (j := 4) bd3_t010000 bd3_t010001
theorem bd3_t01001 : bdf true true false 11 4 (brm 11 (brm 14 kV)) = true := by decide +kernel
theorem bd3_t0100 : bdf true true false 12 5 (brm 14 kV) = true := bdf_s (k := 11) (j := 4) bd3_t01000 bd3_t01001
theorem bd3_t0101 : bdf true true false 12 4 (brm 12 (brm 14 kV)) = true := by decide +kernel
theorem bd3_t010 : bdf true true false 13 5 (brm 14 kV) = true := bdf_s (k := 12) (j := 4) bd3_t0100 bd3_t0101
theorem bd3_t0110 : bdf true true false 12 4 (brm 13 (brm 14 kV)) = true := by decide +kernel
theorem bd3_t0111 : bdf true true false 12 3 (brm 12 (brm 13 (brm 14 kV))) = true := by decide +kernel
theorem bd3_t011 : bdf true true false 13 4 (brm 13 (brm 14 kV)) = true := bdf_s (k := 12) (j := 3) bd3_t0110 bd3_t0111
theorem bd3_t01 : bdf true true false 14 5 (brm 14 kV) = true := bdf_s (k := 13) (j := 4) bd3_t010 bd3_t011
theorem bd3_t0 : bdf true true false 15 6 kV = true := bdf_s (k := 14) (j := 5) bd3_t00 bd3_t01
theorem bd3_t100000 : bdf true true false 10 5 (brm 15 kV) = true := by decide +kernel
theorem bd3_t100001 : bdf true true false 10 4 (brm 10 (brm 15 kV)) = true := by decide +kernel
theorem bd3_t10000 : bdf true true false 11 5 (brm 15 kV) = true := bdf_s (k := 10) (j := 4) bd3_t100000 bd3_t100001
theorem bd3_t10001 : bdf true true false 11 4 (brm 11 (brm 15 kV)) = true := by decide +kernel
theorem bd3_t1000 : bdf true true false 12 5 (brm 15 kV) = true := bdf_s (k := 11) (j := 4) bd3_t10000 bd3_t10001
theorem bd3_t1001 : bdf true true false 12 4 (brm 12 (brm 15 kV)) = true := by decide +kernel
theorem bd3_t100 : bdf true true false 13 5 (brm 15 kV) = true := bdf_s (k := 12) (j := 4) bd3_t1000 bd3_t1001
theorem bd3_t1010 : bdf true true false 12 4 (brm 13 (brm 15 kV)) = true := by decide +kernel
theorem bd3_t1011 : bdf true true false 12 3 (brm 12 (brm 13 (brm 15 kV))) = true := by decide +kernel
theorem bd3_t101 : bdf true true false 13 4 (brm 13 (brm 15 kV)) = true := bdf_s (k := 12) (j := 3) bd3_t1010 bd3_t1011
theorem bd3_t10 : bdf true true false 14 5 (brm 15 kV) = true := bdf_s (k := 13) (j := 4) bd3_t100 bd3_t101
theorem bd3_t1100 : bdf true true false 12 4 (brm 14 (brm 15 kV)) = true := by decide +kernel
theorem bd3_t1101 : bdf true true false 12 3 (brm 12 (brm 14 (brm 15 kV))) = true := by decide +kernel
theorem bd3_t110 : bdf true true false 13 4 (brm 14 (brm 15 kV)) = true := bdf_s (k := 12) (j := 3) bd3_t1100 bd3_t1101
theorem bd3_t111 : bdf true true false 13 3 (brm 13 (brm 14 (brm 15 kV))) = true := by decide +kernel
theorem bd3_t11 : bdf true true false 14 4 (brm 14 (brm 15 kV)) = true := bdf_s (k := 13) (j := 3) bd3_t110 bd3_t111
theorem bd3_t1 : bdf true true false 15 5 (brm 15 kV) = true := bdf_s (k := 14) (j := 4) bd3_t10 bd3_t11
theorem bd3_t : bdf true true false 16 6 kV = true := bdf_s (k := 15) (j := 5) bd3_t0 bd3_t1
