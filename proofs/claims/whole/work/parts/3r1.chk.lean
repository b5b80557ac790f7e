/-! ===== the bound, checked: settings 1 ===== -/
theorem bd1_t0000000 : bdf true false false 9 6 kV = true := by decide +kernel
theorem bd1_t0000001 : bdf true false false 9 5 (brm 9 kV) = true := by decide +kernel
theorem bd1_t000000 : bdf true false false 10 6 kV = true := bdf_s (k := 9) (j := 5) bd1_t0000000 bd1_t0000001
theorem bd1_t000001 : bdf true false false 10 5 (brm 10 kV) = true := by decide +kernel
theorem bd1_t00000 : bdf true false false 11 6 kV = true := bdf_s (k := 10) (j := 5) bd1_t000000 bd1_t000001
theorem bd1_t000010 : bdf true false false 10 5 (brm 11 kV) = true := by decide +kernel
theorem bd1_t000011 : bdf true false false 10 4 (brm 10 (brm 11 kV)) = true := by decide +kernel
theorem bd1_t00001 : bdf true false false 11 5 (brm 11 kV) = true := bdf_s (k := 10) (j := 4) bd1_t000010 bd1_t000011
theorem bd1_t0000 : bdf true false false 12 6 kV = true := bdf_s (k := 11) (j := 5) bd1_t00000 bd1_t00001
theorem bd1_t000100 : bdf true false false 10 5 (brm 12 kV) = true := by decide +kernel
theorem bd1_t000101 : bdf true false false 10 4 (brm 10 (brm 12 kV)) = true := by decide +kernel
theorem bd1_t00010 : bdf true false false 11 5 (brm 12 kV) = true := bdf_s (k := 10) (j := 4) bd1_t000100 bd1_t000101
theorem bd1_t00011 : bdf true false false 11 4 (brm 11 (brm 12 kV)) = true := by decide +kernel
theorem bd1_t0001 : bdf true false false 12 5 (brm 12 kV) = true := bdf_s (k := 11) (j := 4) bd1_t00010 bd1_t00011
theorem bd1_t000 : bdf true false false 13 6 kV = true := bdf_s (k := 12) (j := 5) bd1_t0000 bd1_t0001
theorem bd1_t001000 : bdf true false false 10 5 (brm 13 kV) = true := by decide +kernel
theorem bd1_t001001 : bdf true false false 10 4 (brm 10 (brm 13 kV)) = true := by decide +kernel
theorem bd1_t00100 : bdf true false false 11 5 (brm 13 kV) = true := bdf_s (k := 10) (j := 4) bd1_t001000 bd1_t001001
theorem bd1_t00101 : bdf true false false 11 4 (brm 11 (brm 13 kV)) = true := by decide +kernel
theorem bd1_t0010 : bdf true false false 12 5 (brm 13 kV) = true := bdf_s (k := 11) (j := 4) bd1_t00100 bd1_t00101
theorem bd1_t0011 : bdf true false false 12 4 (brm 12 (brm 13 kV)) = true := by decide +kernel
theorem bd1_t001 : bdf true false false 13 5 (brm 13 kV) = true := bdf_s (k := 12) (j := 4) bd1_t0010 bd1_t0011
theorem bd1_t00 : bdf true false false 14 6 kV = true := bdf_s (k := 13) (j := 5) bd1_t000 bd1_t001
theorem bd1_t010000 : bdf true false false 10 5 (brm 14 kV) = true := by decide +kernel
theorem bd1_t010001 : bdf true false false 10 4 (brm 10 (brm 14 kV)) = true := by decide +kernel
theorem bd1_t01000 : bdf true false false 11 5 (brm 14 kV) = true := bdf_s (k := 10) (j := 4) bd1_t010000 bd1_t010001
theorem bd1_t01001 : bdf true false false 11 4 (brm 11 (brm 14 kV)) = true := by decide +kernel
theorem bd1_t0100 : bdf true false false 12 5 (brm 14 kV) = true := bdf_s (k := 11) (j := 4) bd1_t01000 bd1_t01001
theorem bd1_t0101 : bdf true false false 12 4 (brm 12 (brm 14 kV)) = true := by decide +kernel
theorem bd1_t010 : bdf true false false 13 5 (brm 14 kV) = true := bdf_s (k := 12) (j := 4) bd1_t0100 bd1_t0101
theorem bd1_t0110 : bdf true false false 12 4 (brm 13 (brm 14 kV)) = true := by decide +kernel
theorem bd1_t0111 : bdf true false false 12 3 (brm 12 (brm 13 (brm 14 kV))) = true := by decide +kernel
theorem bd1_t011 : bdf true false false 13 4 (brm 13 (brm 14 kV)) = true := bdf_s (k := 12) (j := 3) bd1_t0110 bd1_t0111
theorem bd1_t01 : bdf true false false 14 5 (brm 14 kV) = true := bdf_s (k := 13) (j := 4) bd1_t010 bd1_t011
theorem bd1_t0 : bdf true false false 15 6 kV = true := bdf_s (k := 14) (j := 5) bd1_t00 bd1_t01
theorem bd1_t100000 : bdf true false false 10 5 (brm 15 kV) = true := by decide +kernel
theorem bd1_t100001 : bdf true false false 10 4 (brm 10 (brm 15 kV)) = true := by decide +kernel
theorem bd1_t10000 : bdf true false false 11 5 (brm 15 kV) = true := bdf_s (k := 10) (j := 4) bd1_t100000 bd1_t100001
theorem bd1_t10001 : bdf true false false 11 4 (brm 11 (brm 15 kV)) = true := by decide +kernel
theorem bd1_t1000 : bdf true false false 12 5 (brm 15 kV) = true := bdf_s (k := 11) (j := 4) bd1_t10000 bd1_t10001
theorem bd1_t1001 : bdf true false false 12 4 (brm 12 (brm 15 kV)) = true := by decide +kernel
theorem bd1_t100 : bdf true false false 13 5 (brm 15 kV) = true := bdf_s (k := 12) (j := 4) bd1_t1000 bd1_t1001
theorem bd1_t1010 : bdf true false false 12 4 (brm 13 (brm 15 kV)) = true := by decide +kernel
theorem bd1_t1011 : bdf true false false 12 3 (brm 12 (brm 13 (brm 15 kV))) = true := by decide +kernel
theorem bd1_t101 : bdf true false false 13 4 (brm 13 (brm 15 kV)) = true := bdf_s (k := 12) (j := 3) bd1_t1010 bd1_t1011
theorem bd1_t10 : bdf true false false 14 5 (brm 15 kV) = true := bdf_s (k := 13) (j := 4) bd1_t100 bd1_t101
theorem bd1_t1100 : bdf true false false 12 4 (brm 14 (brm 15 kV)) = true := by decide +kernel
theorem bd1_t1101 : bdf true false false 12 3 (brm 12 (brm 14 (brm 15 kV))) = true := by decide +kernel
theorem bd1_t110 : bdf true false false 13 4 (brm 14 (brm 15 kV)) = true := bdf_s (k := 12) (j := 3) bd1_t1100 bd1_t1101
theorem bd1_t111 : bdf true false false 13 3 (brm 13 (brm 14 (brm 15 kV))) = true := by decide +kernel
theorem bd1_t11 : bdf true false false 14 4 (brm 14 (brm 15 kV)) = true := bdf_s (k := 13) (j := 3) bd1_t110 bd1_t111
theorem bd1_t1 : bdf true false false 15 5 (brm 15 kV) = true := bdf_s (k := 14) (j := 4) bd1_t10 bd1_t11
theorem bd1_t : bdf true false false 16 6 kV = true := bdf_s (k := 15) (j := 5) bd1_t0 bd1_t1
