/-! ===== the bound, checked: settings 2 ===== -/
theorem bd2_t0000000 : bdf false true false 9 6 kV = true := by decide +kernel
theorem bd2_t0000001 : bdf false true false 9 5 (brm 9 kV) = true := by decide +kernel
theorem bd2_t000000 : bdf false true false 10 6 kV = true := bdf_s (k := 9) (j := 5) bd2_t0000000 bd2_t0000001
theorem bd2_t000001 : bdf false true false 10 5 (brm 10 kV) = true := by decide +kernel
theorem bd2_t00000 : bdf false true false 11 6 kV = true := bdf_s (k := 10) (j := 5) bd2_t000000 bd2_t000001
theorem bd2_t000010 : bdf false true false 10 5 (brm 11 kV) = true := by decide +kernel
theorem bd2_t000011 : bdf false true false 10 4 (brm 10 (brm 11 kV)) = true := by decide +kernel
theorem bd2_t00001 : bdf false true false 11 5 (brm 11 kV) = true := bdf_s (k := 10) (j := 4) bd2_t000010 bd2_t000011
theorem bd2_t0000 : bdf false true false 12 6 kV = true := bdf_s (k := 11) (j := 5) bd2_t00000 bd2_t00001
theorem bd2_t000100 : bdf false true false 10 5 (brm 12 kV) = true := by decide +kernel
theorem bd2_t000101 : bdf false true false 10 4 (brm 10 (brm 12 kV)) = true := by decide +kernel
theorem bd2_t00010 : bdf false true false 11 5 (brm 12 kV) = true := bdf_s (k := 10) (j := 4) bd2_t000100 bd2_t000101
theorem bd2_t00011 : bdf false true false 11 4 (brm 11 (brm 12 kV)) = true := by decide +kernel
theorem bd2_t0001 : bdf false true false 12 5 (brm 12 kV) = true := bdf_s (k := 11) (j := 4) bd2_t00010 bd2_t00011
theorem bd2_t000 : bdf false true false 13 6 kV = true := bdf_s (k := 12) (j := 5) bd2_t0000 bd2_t0001
theorem bd2_t001000 : bdf false true false 10 5 (brm 13 kV) = true := by decide +kernel
theorem bd2_t001001 : bdf false true false 10 4 (brm 10 (brm 13 kV)) = true := by decide +kernel
theorem bd2_t00100 : bdf false true false 11 5 (brm 13 kV) = true := bdf_s (k := 10) (j := 4) bd2_t001000 bd2_t001001
theorem bd2_t00101 : bdf false true false 11 4 (brm 11 (brm 13 kV)) = true := by decide +kernel
theorem bd2_t0010 : bdf false true false 12 5 (brm 13 kV) = true := bdf_s (k := 11) (j := 4) bd2_t00100 bd2_t00101
theorem bd2_t0011 : bdf false true false 12 4 (brm 12 (brm 13 kV)) = true := by decide +kernel
theorem bd2_t001 : bdf false true false 13 5 (brm 13 kV) = true := bdf_s (k := 12) (j := 4) bd2_t0010 bd2_t0011
theorem bd2_t00 : bdf false true false 14 6 kV = true := bdf_s (k := 13) (j := 5) bd2_t000 bd2_t001
theorem bd2_t010000 : bdf false true false 10 5 (brm 14 kV) = true := by decide +kernel
theorem bd2_t010001 : bdf false true false 10 4 (brm 10 (brm 14 kV)) = true := by decide +kernel
theorem bd2_t01000 : bdf false true false 11 5 (brm 14 kV) = true := bdf_s (k := 10) (j := 4) bd2_t010000 bd2_t010001
theorem bd2_t01001 : bdf false true false 11 4 (brm 11 (brm 14 kV)) = true := by decide +kernel
theorem bd2_t0100 : bdf false true false 12 5 (brm 14 kV) = true := bdf_s (k := 11) (j := 4) bd2_t01000 bd2_t01001
theorem bd2_t0101 : bdf false true false 12 4 (brm 12 (brm 14 kV)) = true := by decide +kernel
theorem bd2_t010 : bdf false true false 13 5 (brm 14 kV) = true := bdf_s (k := 12) (j := 4) bd2_t0100 bd2_t0101
theorem bd2_t0110 : bdf false true false 12 4 (brm 13 (brm 14 kV)) = true := by decide +kernel
theorem bd2_t0111 : bdf false true false 12 3 (brm 12 (brm 13 (brm 14 kV))) = true := by decide +kernel
theorem bd2_t011 : bdf false true false 13 4 (brm 13 (brm 14 kV)) = true := bdf_s (k := 12) (j := 3) bd2_t0110 bd2_t0111
theorem bd2_t01 : bdf false true false 14 5 (brm 14 kV) = true := bdf_s (k := 13) (j := 4) bd2_t010 bd2_t011
theorem bd2_t0 : bdf false true false 15 6 kV = true := bdf_s (k := 14) (j := 5) bd2_t00 bd2_t01
theorem bd2_t100000 : bdf false true false 10 5 (brm 15 kV) = true := by decide +kernel
theorem bd2_t100001 : bdf false true false 10 4 (brm 10 (brm 15 kV)) = true := by decide +kernel
theorem bd2_t10000 : bdf false true false 11 5 (brm 15 kV) = true := bdf_s (k := 10) (j := 4) bd2_t100000 bd2_t100001
theorem bd2_t10001 : bdf false true false 11 4 (brm 11 (brm 15 kV)) = true := by decide +kernel
theorem bd2_t1000 : bdf false true false 12 5 (brm 15 kV) = true := bdf_s (k := 11) (j := 4) bd2_t10000 bd2_t10001
theorem bd2_t1001 : bdf false true false 12 4 (brm 12 (brm 15 kV)) = true := by decide +kernel
theorem bd2_t100 : bdf false true false 13 5 (brm 15 kV) = true := bdf_s (k := 12) (j := 4) bd2_t1000 bd2_t1001
theorem bd2_t1010 : bdf false true false 12 4 (brm 13 (brm 15 kV)) = true := by decide +kernel
theorem bd2_t1011 : bdf false true false 12 3 (brm 12 (brm 13 (brm 15 kV))) = true := by decide +kernel
theorem bd2_t101 : bdf false true false 13 4 (brm 13 (brm 15 kV)) = true := bdf_s (k := 12) (j := 3) bd2_t1010 bd2_t1011
theorem bd2_t10 : bdf false true false 14 5 (brm 15 kV) = true := bdf_s (k := 13) (j := 4) bd2_t100 bd2_t101
theorem bd2_t1100 : bdf false true false 12 4 (brm 14 (brm 15 kV)) = true := by decide +kernel
theorem bd2_t1101 : bdf false true false 12 3 (brm 12 (brm 14 (brm 15 kV))) = true := by decide +kernel
theorem bd2_t110 : bdf false true false 13 4 (brm 14 (brm 15 kV)) = true := bdf_s (k := 12) (j := 3) bd2_t1100 bd2_t1101
theorem bd2_t111 : bdf false true false 13 3 (brm 13 (brm 14 (brm 15 kV))) = true := by decide +kernel
theorem bd2_t11 : bdf false true false 14 4 (brm 14 (brm 15 kV)) = true := bdf_s (k := 13) (j := 3) bd2_t110 bd2_t111
theorem bd2_t1 : bdf false true false 15 5 (brm 15 kV) = true := bdf_s (k := 14) (j := 4) bd2_t10 bd2_t11
theorem bd2_t : bdf false true false 16 6 kV = true := bdf_s (k := 15) (j := 5) bd2_t0 bd2_t1
