set_option maxRecDepth 100000 in
set_option maxHeartbeats 4000000 in
theorem l_L_law (E : xE) (a : Nat → Nat) (hM : Mem) {V : xVT} (r : Rl E RL code room_1 4 false V) {b L : Nat} {xs : Nat → Int32} (hsld : ∀ {k n pc : Nat} {lo : xLo} {st : List Value} {ws : va_W} {i : Int32}, vp_in i L → decode code pc = .ok (.iaload, 1) → V k n (pc + 1) lo (.int (xs i.toNatClampNeg) :: st) ws → V k n pc lo (.int i :: .ref b :: st) ws) (hslen : ∀ {k n pc : Nat} {lo : xLo} {st : List Value} {ws : va_W}, decode code pc = .ok (.arraylength, 1) → V k n (pc + 1) lo (.int (Int32.ofNat L) :: st) ws → V k n pc lo (.ref b :: st) ws) (hend : ∀ (k n pc : Nat) (lo : xLo) (ws : va_W), k ≤ 600000 → n ≤ 7302250 → decode code pc = .ok (.ireturn, 1) → V k n pc lo [.int 1] ws) : ∀ (n : Nat) (ha : Nat → Nat) (v3 : Int32) (mM : Mem), xt_L_law_l18 L xs hM n v3 mM = some 1 → V 52 28839 18 [(0, .ref b), (1, .ref (a 0)), (2, .ref (a 31)), (3, .int v3)] [] [(a 0, oX8 a), (a 1, oX3 a), (a 2, aI E 16 (hM 2)), (a 3, aI E 16 (hM 3)), (a 4, aI E 256 (hM 4)), (a 5, aI E 128 (hM 5)), (a 6, aI E 128 (hM 6)), (a 7, aI E 128 (hM 7)), (a 8, aI E 128 (hM 8)), (a 9, oX0 a (mM 9)), (a 10, aI E 4096 (mM 10)), (a 11, aI E 120 (mM 11)), (a 12, aI E 120 (mM 12)), (a 13, oX1 a (mM 13)), (a 14, aI E 8 (mM 14)), (a 15, oX7 a (mM 15)), (a 16, aI E 11 (mM 16)), (a 17, aI E 4096 (mM 17)), (a 18, aI E 6272 (mM 18)), (a 19, aI E 98 (mM 19)), (a 20, oX2 a), (a 21, oX6 (mM 21)), (a 22, oX6 (mM 22)), (a 23, oX4 a (mM 23)), (a 24, .inl (xO E, 6, .inr (.inr (.inr (.inr (xhf ha)))))), (ha 0, oX6 (mM 60)), (ha 1, oX6 (mM 61)), (ha 2, oX6 (mM 62)), (ha 3, oX6 (mM 63)), (ha 4, oX6 (mM 64)), (ha 5, oX6 (mM 65)), (a 25, oX5 a (mM 25)), (a 26, aC E 24 (mM 26)), (a 27, .inl (xO E, 2, .inr (.inr (.inr (.inr (xsl a)))))), (a 28, oX6 (mM 28)), (a 29, oX6 (mM 29)), (a 30, aZ E 2 (mM 30)), (a 31, oX9 a (mM 31)), (a 32, aI E 8 (mM 32)), (a 33, aI E 48 (mM 33)), (a 34, aI E 16 (mM 34)), (a 35, aZ E 2 (mM 35)), (a 36, aI E 120 (hM 36)), (a 37, aI E 120 (hM 37)), (a 38, aI E 4096 (mM 38)), (a 39, aI E 4096 (mM 39)), (a 40, aI E 4096 (mM 40)), (a 41, aI E 128 (mM 41)), (a 42, aI E 98 (mM 42)), (a 43, aI E 202 (mM 43)), (a 44, aI E 4 (mM 44)), (a 45, aI E 24 (mM 45))] := by
  intro n
  induction n with
  | zero => intro ha v3 mM hxt; exact xno hxt
  | succ n ih =>
    intro ha v3 mM hxt
    rw [xt_L_law_l18] at hxt
    refine r.iload_n 3 (DL_law_0 10 rfl) rfl ?_
    refine r.aload_n 0 (DL_law_0 11 rfl) rfl ?_
    refine hslen (DL_law_0 12 rfl) ?_
    refine r.iconst (v := (5 : Int32)) (DL_law_0 13 rfl) rfl ?_
    refine r.isub (DL_law_0 14 rfl) ?_
    refine r.icmp_gt 751 (DL_law_0 15 rfl) rfl hxt (fun _ hxt => ?_) (fun _ hxt => ?_)
    · refine r.iconst (v := (1 : Int32)) (DL_law_8 25 rfl) rfl ?_
      exact hend _ _ _ _ _ (Nat.le_of_ble_eq_true rfl) (Nat.le_of_ble_eq_true rfl) (DL_law_8 26 rfl)
    refine r.aload_n 0 (DL_law_0 16 rfl) rfl ?_
    refine r.iload_n 3 (DL_law_0 17 rfl) rfl ?_
    obtain ⟨hin, hxt⟩ := xgd_some hxt
    refine hsld hin (DL_law_0 18 rfl) ?_
    refine r.bipush (v := (31 : Int32)) (DL_law_0 19 rfl) rfl ?_
    refine r.iand (DL_law_0 20 rfl) ?_
    refine xif hxt (fun hc hxt => r.tsOut 745 (DL_law_0 21 rfl) hc rfl ?_) (fun hn hxt => ?_)
    · refine r.iinc (v := (v3 + (5 : Int32))) (lo' := [(3, .int (v3 + (5 : Int32))), (0, .ref b), (1, .ref (a 0)), (2, .ref (a 31))]) 3 (DL_law_8 23 rfl) rfl rfl (Nat.le_of_ble_eq_true rfl) rfl ?_
      refine r.goto 18 (DL_law_8 24 rfl) rfl ?_
      refine r.rel (lo' := [(0, .ref b), (1, .ref (a 0)), (2, .ref (a 31)), (3, .int (v3 + (5 : Int32)))]) [1, 2, 3, 0] rfl ?_
      exact ih ha (v3 + (5 : Int32)) (mgs hM [9, 10, 11, 12, 13, 14, 15, 16, 17, 18, 19, 21, 22, 23, 60, 61, 62, 63, 64, 65, 25, 26, 28, 29, 30, 31, 32, 33, 34, 35, 38, 39, 40, 41, 42, 43, 44, 45] mM) hxt
    refine xif hxt (fun hc hxt => r.tsIn 132 (DL_law_0 21 rfl) hc hn rfl rfl ?_) (fun _ hxt => ?_)
    · refine r.aload_n 1 (DL_law_0 22 rfl) rfl ?_
      refine r.aload_n 0 (DL_law_0 23 rfl) rfl ?_
      refine r.iload_n 3 (DL_law_0 24 rfl) rfl ?_
      refine r.iconst (v := (1 : Int32)) (DL_law_0 25 rfl) rfl ?_
      refine r.iadd (DL_law_0 26 rfl) ?_
      obtain ⟨hin, hxt⟩ := xgd_some hxt
      refine hsld hin (DL_law_0 27 rfl) ?_
      refine r.aload_n 0 (DL_law_0 28 rfl) rfl ?_
      refine r.iload_n 3 (DL_law_0 29 rfl) rfl ?_
      refine r.iconst (v := (2 : Int32)) (DL_law_0 30 rfl) rfl ?_
      refine r.iadd (DL_law_0 31 rfl) ?_
      obtain ⟨hin, hxt⟩ := xgd_some hxt
      refine hsld hin (DL_law_0 32 rfl) ?_
      obtain ⟨o_1, ho_1, hxt⟩ := xbd hxt
      refine r.callVI 0 rfl rfl (t_X8_set E a ha (xs (v3 + (1 : Int32)).toNatClampNeg) (xs (v3 + (2 : Int32)).toNatClampNeg) (mgs hM [21, 23, 60, 61, 62, 63, 64, 65] mM) ho_1) g_L_13 rfl (DL_law_0 33 rfl) rfl ⟨(Nat.le_of_ble_eq_true rfl), (Nat.le_of_ble_eq_true rfl)⟩ ⟨(Nat.le_of_ble_eq_true rfl), (Nat.le_of_ble_eq_true rfl)⟩ (Nat.le_of_ble_eq_true rfl) [0, 21, 23, 24, 25, 26, 27, 28, 29, 30] [1, 2, 3, 4, 5, 6, 7, 8, 9, 10, 11, 12, 13, 14, 15, 16, 17, 18, 19, 20, 22, 31, 32, 33, 34, 35, 36, 37, 38, 39, 40, 41, 42, 43, 44, 45, 46, 47, 48, 49, 50, 51] rfl rfl rfl rfl (by decide) [42, 0, 1, 2, 3, 4, 5, 6, 7, 8, 9, 10, 11, 12, 13, 14, 15, 16, 17, 18, 19, 43, 20, 44, 45, 46, 47, 48, 49, 50, 51, 21, 22, 23, 24, 25, 26, 27, 28, 29, 30, 31, 32, 33, 34, 35, 36, 37, 38, 39, 40, 41] rfl (ws2 := fun ha_2 => [(a 0, oX8 a), (a 1, oX3 a), (a 2, aI E 16 (hM 2)), (a 3, aI E 16 (hM 3)), (a 4, aI E 256 (hM 4)), (a 5, aI E 128 (hM 5)), (a 6, aI E 128 (hM 6)), (a 7, aI E 128 (hM 7)), (a 8, aI E 128 (hM 8)), (a 9, oX0 a (mM 9)), (a 10, aI E 4096 (mM 10)), (a 11, aI E 120 (mM 11)), (a 12, aI E 120 (mM 12)), (a 13, oX1 a (mM 13)), (a 14, aI E 8 (mM 14)), (a 15, oX7 a (mM 15)), (a 16, aI E 11 (mM 16)), (a 17, aI E 4096 (mM 17)), (a 18, aI E 6272 (mM 18)), (a 19, aI E 98 (mM 19)), (a 20, oX2 a), (a 21, oX6 (o_1.2 21)), (a 22, oX6 (mM 22)), (a 23, oX4 a (o_1.2 23)), (a 24, .inl (xO E, 6, .inr (.inr (.inr (.inr (xhf ha_2)))))), (ha_2 0, oX6 (o_1.2 60)), (ha_2 1, oX6 (o_1.2 61)), (ha_2 2, oX6 (o_1.2 62)), (ha_2 3, oX6 (o_1.2 63)), (ha_2 4, oX6 (o_1.2 64)), (ha_2 5, oX6 (o_1.2 65)), (a 25, oX5 a (mM 25)), (a 26, aC E 24 (mM 26)), (a 27, .inl (xO E, 2, .inr (.inr (.inr (.inr (xsl a)))))), (a 28, oX6 (mM 28)), (a 29, oX6 (mM 29)), (a 30, aZ E 2 (mM 30)), (a 31, oX9 a (mM 31)), (a 32, aI E 8 (mM 32)), (a 33, aI E 48 (mM 33)), (a 34, aI E 16 (mM 34)), (a 35, aZ E 2 (mM 35)), (a 36, aI E 120 (hM 36)), (a 37, aI E 120 (hM 37)), (a 38, aI E 4096 (mM 38)), (a 39, aI E 4096 (mM 39)), (a 40, aI E 4096 (mM 40)), (a 41, aI E 128 (mM 41)), (a 42, aI E 98 (mM 42)), (a 43, aI E 202 (mM 43)), (a 44, aI E 4 (mM 44)), (a 45, aI E 24 (mM 45))]) (fun _ => rfl) (fun ha_2 => ?_)
      refine r.aload_n 2 (DL_law_0 34 rfl) rfl ?_
      refine r.aload_n 0 (DL_law_0 35 rfl) rfl ?_
      refine r.iload_n 3 (DL_law_0 36 rfl) rfl ?_
      refine r.iconst (v := (1 : Int32)) (DL_law_0 37 rfl) rfl ?_
      refine r.iadd (DL_law_0 38 rfl) ?_
      obtain ⟨hin, hxt⟩ := xgd_some hxt
      refine hsld hin (DL_law_0 39 rfl) ?_
      refine r.aload_n 0 (DL_law_0 40 rfl) rfl ?_
      refine r.iload_n 3 (DL_law_0 41 rfl) rfl ?_
      refine r.iconst (v := (2 : Int32)) (DL_law_0 42 rfl) rfl ?_
      refine r.iadd (DL_law_0 43 rfl) ?_
      obtain ⟨hin, hxt⟩ := xgd_some hxt
      refine hsld hin (DL_law_0 44 rfl) ?_
      obtain ⟨o_3, ho_3, hxt⟩ := xbd hxt
      refine r.callVI 0 rfl rfl (t_X9_set E a (xs (v3 + (1 : Int32)).toNatClampNeg) (xs (v3 + (2 : Int32)).toNatClampNeg) (mgs hM [31, 32, 33] mM) ho_3) g_L_17 rfl (DL_law_0 45 rfl) rfl ⟨(Nat.le_of_ble_eq_true rfl), (Nat.le_of_ble_eq_true rfl)⟩ ⟨(Nat.le_of_ble_eq_true rfl), (Nat.le_of_ble_eq_true rfl)⟩ (Nat.le_of_ble_eq_true rfl) [37, 38, 39] [0, 1, 2, 3, 4, 5, 6, 7, 8, 9, 10, 11, 12, 13, 14, 15, 16, 17, 18, 19, 20, 21, 22, 23, 24, 25, 26, 27, 28, 29, 30, 31, 32, 33, 34, 35, 36, 40, 41, 42, 43, 44, 45, 46, 47, 48, 49, 50, 51] rfl rfl rfl rfl (by decide) [0, 1, 2, 3, 4, 5, 6, 7, 8, 9, 10, 11, 12, 13, 14, 15, 16, 17, 18, 19, 20, 21, 22, 23, 24, 25, 26, 27, 28, 29, 30, 31, 32, 33, 34, 35, 36, 49, 50, 51, 37, 38, 39, 40, 41, 42, 43, 44, 45, 46, 47, 48] rfl (ws2 := fun _ => [(a 0, oX8 a), (a 1, oX3 a), (a 2, aI E 16 (hM 2)), (a 3, aI E 16 (hM 3)), (a 4, aI E 256 (hM 4)), (a 5, aI E 128 (hM 5)), (a 6, aI E 128 (hM 6)), (a 7, aI E 128 (hM 7)), (a 8, aI E 128 (hM 8)), (a 9, oX0 a (mM 9)), (a 10, aI E 4096 (mM 10)), (a 11, aI E 120 (mM 11)), (a 12, aI E 120 (mM 12)), (a 13, oX1 a (mM 13)), (a 14, aI E 8 (mM 14)), (a 15, oX7 a (mM 15)), (a 16, aI E 11 (mM 16)), (a 17, aI E 4096 (mM 17)), (a 18, aI E 6272 (mM 18)), (a 19, aI E 98 (mM 19)), (a 20, oX2 a), (a 21, oX6 (o_1.2 21)), (a 22, oX6 (mM 22)), (a 23, oX4 a (o_1.2 23)), (a 24, .inl (xO E, 6, .inr (.inr (.inr (.inr (xhf ha_2)))))), (ha_2 0, oX6 (o_1.2 60)), (ha_2 1, oX6 (o_1.2 61)), (ha_2 2, oX6 (o_1.2 62)), (ha_2 3, oX6 (o_1.2 63)), (ha_2 4, oX6 (o_1.2 64)), (ha_2 5, oX6 (o_1.2 65)), (a 25, oX5 a (mM 25)), (a 26, aC E 24 (mM 26)), (a 27, .inl (xO E, 2, .inr (.inr (.inr (.inr (xsl a)))))), (a 28, oX6 (mM 28)), (a 29, oX6 (mM 29)), (a 30, aZ E 2 (mM 30)), (a 31, oX9 a (o_3.2 31)), (a 32, aI E 8 (o_3.2 32)), (a 33, aI E 48 (o_3.2 33)), (a 34, aI E 16 (mM 34)), (a 35, aZ E 2 (mM 35)), (a 36, aI E 120 (hM 36)), (a 37, aI E 120 (hM 37)), (a 38, aI E 4096 (mM 38)), (a 39, aI E 4096 (mM 39)), (a 40, aI E 4096 (mM 40)), (a 41, aI E 128 (mM 41)), (a 42, aI E 98 (mM 42)), (a 43, aI E 202 (mM 43)), (a 44, aI E 4 (mM 44)), (a 45, aI E 24 (mM 45))]) (fun _ => rfl) (fun _ => ?_)
      refine r.icmp_eq 745 (DL_law_0 46 rfl) rfl hxt (fun _ hxt => ?_) (fun _ hxt => ?_)
      · refine r.iinc (v := (v3 + (5 : Int32))) (lo' := [(3, .int (v3 + (5 : Int32))), (0, .ref b), (1, .ref (a 0)), (2, .ref (a 31))]) 3 (DL_law_8 23 rfl) rfl rfl (Nat.le_of_ble_eq_true rfl) rfl ?_
        refine r.goto 18 (DL_law_8 24 rfl) rfl ?_
        refine r.rel (lo' := [(0, .ref b), (1, .ref (a 0)), (2, .ref (a 31)), (3, .int (v3 + (5 : Int32)))]) [1, 2, 3, 0] rfl ?_
        exact ih ha_2 (v3 + (5 : Int32)) (mgs (mgs (mgs hM [9, 10, 11, 12, 13, 14, 15, 16, 17, 18, 19, 22, 25, 26, 28, 29, 30, 34, 35, 38, 39, 40, 41, 42, 43, 44, 45] mM) [21, 23, 60, 61, 62, 63, 64, 65] o_1.2) [31, 32, 33] o_3.2) hxt
      refine r.iconst (v := (0 : Int32)) (DL_law_0 47 rfl) rfl ?_
      exact absurd (Option.some.inj hxt) (by decide)
    refine xif hxt (fun hc hxt => r.tsIn 165 (DL_law_0 21 rfl) hc hn rfl rfl ?_) (fun _ hxt => ?_)
    · refine r.aload_n 1 (DL_law_0 49 rfl) rfl ?_
      refine r.aload_n 0 (DL_law_0 50 rfl) rfl ?_
      refine r.iload_n 3 (DL_law_0 51 rfl) rfl ?_
      refine r.iconst (v := (1 : Int32)) (DL_law_0 52 rfl) rfl ?_
      refine r.iadd (DL_law_0 53 rfl) ?_
      obtain ⟨hin, hxt⟩ := xgd_some hxt
      refine hsld hin (DL_law_0 54 rfl) ?_
      obtain ⟨o_4, ho_4, hxt⟩ := xbd hxt
      refine r.callVI 0 rfl rfl (t_X8_block E a ha (xs (v3 + (1 : Int32)).toNatClampNeg) (mgs hM [21, 23, 60, 61, 62, 63, 64, 65] mM) ho_4) g_L_18 rfl (DL_law_0 55 rfl) rfl ⟨(Nat.le_of_ble_eq_true rfl), (Nat.le_of_ble_eq_true rfl)⟩ ⟨(Nat.le_of_ble_eq_true rfl), (Nat.le_of_ble_eq_true rfl)⟩ (Nat.le_of_ble_eq_true rfl) [0, 21, 23, 24, 25, 26, 27, 28, 29, 30] [1, 2, 3, 4, 5, 6, 7, 8, 9, 10, 11, 12, 13, 14, 15, 16, 17, 18, 19, 20, 22, 31, 32, 33, 34, 35, 36, 37, 38, 39, 40, 41, 42, 43, 44, 45, 46, 47, 48, 49, 50, 51] rfl rfl rfl rfl (by decide) [42, 0, 1, 2, 3, 4, 5, 6, 7, 8, 9, 10, 11, 12, 13, 14, 15, 16, 17, 18, 19, 43, 20, 44, 45, 46, 47, 48, 49, 50, 51, 21, 22, 23, 24, 25, 26, 27, 28, 29, 30, 31, 32, 33, 34, 35, 36, 37, 38, 39, 40, 41] rfl (ws2 := fun ha_5 => [(a 0, oX8 a), (a 1, oX3 a), (a 2, aI E 16 (hM 2)), (a 3, aI E 16 (hM 3)), (a 4, aI E 256 (hM 4)), (a 5, aI E 128 (hM 5)), (a 6, aI E 128 (hM 6)), (a 7, aI E 128 (hM 7)), (a 8, aI E 128 (hM 8)), (a 9, oX0 a (mM 9)), (a 10, aI E 4096 (mM 10)), (a 11, aI E 120 (mM 11)), (a 12, aI E 120 (mM 12)), (a 13, oX1 a (mM 13)), (a 14, aI E 8 (mM 14)), (a 15, oX7 a (mM 15)), (a 16, aI E 11 (mM 16)), (a 17, aI E 4096 (mM 17)), (a 18, aI E 6272 (mM 18)), (a 19, aI E 98 (mM 19)), (a 20, oX2 a), (a 21, oX6 (o_4.2 21)), (a 22, oX6 (mM 22)), (a 23, oX4 a (o_4.2 23)), (a 24, .inl (xO E, 6, .inr (.inr (.inr (.inr (xhf ha_5)))))), (ha_5 0, oX6 (o_4.2 60)), (ha_5 1, oX6 (o_4.2 61)), (ha_5 2, oX6 (o_4.2 62)), (ha_5 3, oX6 (o_4.2 63)), (ha_5 4, oX6 (o_4.2 64)), (ha_5 5, oX6 (o_4.2 65)), (a 25, oX5 a (mM 25)), (a 26, aC E 24 (mM 26)), (a 27, .inl (xO E, 2, .inr (.inr (.inr (.inr (xsl a)))))), (a 28, oX6 (mM 28)), (a 29, oX6 (mM 29)), (a 30, aZ E 2 (mM 30)), (a 31, oX9 a (mM 31)), (a 32, aI E 8 (mM 32)), (a 33, aI E 48 (mM 33)), (a 34, aI E 16 (mM 34)), (a 35, aZ E 2 (mM 35)), (a 36, aI E 120 (hM 36)), (a 37, aI E 120 (hM 37)), (a 38, aI E 4096 (mM 38)), (a 39, aI E 4096 (mM 39)), (a 40, aI E 4096 (mM 40)), (a 41, aI E 128 (mM 41)), (a 42, aI E 98 (mM 42)), (a 43, aI E 202 (mM 43)), (a 44, aI E 4 (mM 44)), (a 45, aI E 24 (mM 45))]) (fun _ => rfl) (fun ha_5 => ?_)
      refine r.aload_n 2 (DL_law_0 56 rfl) rfl ?_
      refine r.aload_n 0 (DL_law_0 57 rfl) rfl ?_
      refine r.iload_n 3 (DL_law_0 58 rfl) rfl ?_
      refine r.iconst (v := (1 : Int32)) (DL_law_0 59 rfl) rfl ?_
      refine r.iadd (DL_law_1 0 rfl) ?_
      obtain ⟨hin, hxt⟩ := xgd_some hxt
      refine hsld hin (DL_law_1 1 rfl) ?_
      obtain ⟨o_6, ho_6, hxt⟩ := xbd hxt
      refine r.callVI 0 rfl rfl (t_X9_block E a (xs (v3 + (1 : Int32)).toNatClampNeg) (mgs hM [31, 32, 33] mM) ho_6) g_L_22 rfl (DL_law_1 2 rfl) rfl ⟨(Nat.le_of_ble_eq_true rfl), (Nat.le_of_ble_eq_true rfl)⟩ ⟨(Nat.le_of_ble_eq_true rfl), (Nat.le_of_ble_eq_true rfl)⟩ (Nat.le_of_ble_eq_true rfl) [37, 38, 39] [0, 1, 2, 3, 4, 5, 6, 7, 8, 9, 10, 11, 12, 13, 14, 15, 16, 17, 18, 19, 20, 21, 22, 23, 24, 25, 26, 27, 28, 29, 30, 31, 32, 33, 34, 35, 36, 40, 41, 42, 43, 44, 45, 46, 47, 48, 49, 50, 51] rfl rfl rfl rfl (by decide) [0, 1, 2, 3, 4, 5, 6, 7, 8, 9, 10, 11, 12, 13, 14, 15, 16, 17, 18, 19, 20, 21, 22, 23, 24, 25, 26, 27, 28, 29, 30, 31, 32, 33, 34, 35, 36, 49, 50, 51, 37, 38, 39, 40, 41, 42, 43, 44, 45, 46, 47, 48] rfl (ws2 := fun _ => [(a 0, oX8 a), (a 1, oX3 a), (a 2, aI E 16 (hM 2)), (a 3, aI E 16 (hM 3)), (a 4, aI E 256 (hM 4)), (a 5, aI E 128 (hM 5)), (a 6, aI E 128 (hM 6)), (a 7, aI E 128 (hM 7)), (a 8, aI E 128 (hM 8)), (a 9, oX0 a (mM 9)), (a 10, aI E 4096 (mM 10)), (a 11, aI E 120 (mM 11)), (a 12, aI E 120 (mM 12)), (a 13, oX1 a (mM 13)), (a 14, aI E 8 (mM 14)), (a 15, oX7 a (mM 15)), (a 16, aI E 11 (mM 16)), (a 17, aI E 4096 (mM 17)), (a 18, aI E 6272 (mM 18)), (a 19, aI E 98 (mM 19)), (a 20, oX2 a), (a 21, oX6 (o_4.2 21)), (a 22, oX6 (mM 22)), (a 23, oX4 a (o_4.2 23)), (a 24, .inl (xO E, 6, .inr (.inr (.inr (.inr (xhf ha_5)))))), (ha_5 0, oX6 (o_4.2 60)), (ha_5 1, oX6 (o_4.2 61)), (ha_5 2, oX6 (o_4.2 62)), (ha_5 3, oX6 (o_4.2 63)), (ha_5 4, oX6 (o_4.2 64)), (ha_5 5, oX6 (o_4.2 65)), (a 25, oX5 a (mM 25)), (a 26, aC E 24 (mM 26)), (a 27, .inl (xO E, 2, .inr (.inr (.inr (.inr (xsl a)))))), (a 28, oX6 (mM 28)), (a 29, oX6 (mM 29)), (a 30, aZ E 2 (mM 30)), (a 31, oX9 a (o_6.2 31)), (a 32, aI E 8 (o_6.2 32)), (a 33, aI E 48 (o_6.2 33)), (a 34, aI E 16 (mM 34)), (a 35, aZ E 2 (mM 35)), (a 36, aI E 120 (hM 36)), (a 37, aI E 120 (hM 37)), (a 38, aI E 4096 (mM 38)), (a 39, aI E 4096 (mM 39)), (a 40, aI E 4096 (mM 40)), (a 41, aI E 128 (mM 41)), (a 42, aI E 98 (mM 42)), (a 43, aI E 202 (mM 43)), (a 44, aI E 4 (mM 44)), (a 45, aI E 24 (mM 45))]) (fun _ => rfl) (fun _ => ?_)
      refine r.icmp_eq 745 (DL_law_1 3 rfl) rfl hxt (fun _ hxt => ?_) (fun _ hxt => ?_)
      · refine r.iinc (v := (v3 + (5 : Int32))) (lo' := [(3, .int (v3 + (5 : Int32))), (0, .ref b), (1, .ref (a 0)), (2, .ref (a 31))]) 3 (DL_law_8 23 rfl) rfl rfl (Nat.le_of_ble_eq_true rfl) rfl ?_
        refine r.goto 18 (DL_law_8 24 rfl) rfl ?_
        refine r.rel (lo' := [(0, .ref b), (1, .ref (a 0)), (2, .ref (a 31)), (3, .int (v3 + (5 : Int32)))]) [1, 2, 3, 0] rfl ?_
        exact ih ha_5 (v3 + (5 : Int32)) (mgs (mgs (mgs hM [9, 10, 11, 12, 13, 14, 15, 16, 17, 18, 19, 22, 25, 26, 28, 29, 30, 34, 35, 38, 39, 40, 41, 42, 43, 44, 45] mM) [21, 23, 60, 61, 62, 63, 64, 65] o_4.2) [31, 32, 33] o_6.2) hxt
      refine r.iconst (v := (0 : Int32)) (DL_law_1 4 rfl) rfl ?_
      exact absurd (Option.some.inj hxt) (by decide)
    refine xif hxt (fun hc hxt => r.tsIn 188 (DL_law_0 21 rfl) hc hn rfl rfl ?_) (fun _ hxt => ?_)
    · refine r.aload_n 1 (DL_law_1 6 rfl) rfl ?_
      refine r.aload_n 0 (DL_law_1 7 rfl) rfl ?_
      refine r.iload_n 3 (DL_law_1 8 rfl) rfl ?_
      refine r.iconst (v := (1 : Int32)) (DL_law_1 9 rfl) rfl ?_
      refine r.iadd (DL_law_1 10 rfl) ?_
      obtain ⟨hin, hxt⟩ := xgd_some hxt
      refine hsld hin (DL_law_1 11 rfl) ?_
      refine r.aload_n 0 (DL_law_1 12 rfl) rfl ?_
      refine r.iload_n 3 (DL_law_1 13 rfl) rfl ?_
      refine r.iconst (v := (2 : Int32)) (DL_law_1 14 rfl) rfl ?_
      refine r.iadd (DL_law_1 15 rfl) ?_
      obtain ⟨hin, hxt⟩ := xgd_some hxt
      refine hsld hin (DL_law_1 16 rfl) ?_
      refine r.aload_n 0 (DL_law_1 17 rfl) rfl ?_
      refine r.iload_n 3 (DL_law_1 18 rfl) rfl ?_
      refine r.iconst (v := (3 : Int32)) (DL_law_1 19 rfl) rfl ?_
      refine r.iadd (DL_law_1 20 rfl) ?_
      obtain ⟨hin, hxt⟩ := xgd_some hxt
      refine hsld hin (DL_law_1 21 rfl) ?_
      refine r.aload_n 0 (DL_law_1 22 rfl) rfl ?_
      refine r.iload_n 3 (DL_law_1 23 rfl) rfl ?_
      refine r.iconst (v := (4 : Int32)) (DL_law_1 24 rfl) rfl ?_
      refine r.iadd (DL_law_1 25 rfl) ?_
      obtain ⟨hin, hxt⟩ := xgd_some hxt
      refine hsld hin (DL_law_1 26 rfl) ?_
      obtain ⟨o_7, ho_7, hxt⟩ := xbd hxt
      refine r.callVI 0 rfl rfl (t_X8_setUp E a ha (xs (v3 + (1 : Int32)).toNatClampNeg) (xs (v3 + (2 : Int32)).toNatClampNeg) (xs (v3 + (3 : Int32)).toNatClampNeg) (xs (v3 + (4 : Int32)).toNatClampNeg) (mgs hM [9, 10, 11, 12, 21, 23, 60, 61, 62, 63, 64, 65] mM) ho_7) g_L_23 rfl (DL_law_1 27 rfl) rfl ⟨(Nat.le_of_ble_eq_true rfl), (Nat.le_of_ble_eq_true rfl)⟩ ⟨(Nat.le_of_ble_eq_true rfl), (Nat.le_of_ble_eq_true rfl)⟩ (Nat.le_of_ble_eq_true rfl) [0, 1, 2, 3, 4, 5, 6, 7, 9, 10, 11, 12, 20, 21, 23, 24, 25, 26, 27, 28, 29, 30] [8, 13, 14, 15, 16, 17, 18, 19, 22, 31, 32, 33, 34, 35, 36, 37, 38, 39, 40, 41, 42, 43, 44, 45, 46, 47, 48, 49, 50, 51] rfl rfl rfl rfl (by decide) [30, 31, 32, 33, 34, 35, 36, 37, 0, 38, 39, 40, 41, 1, 2, 3, 4, 5, 6, 7, 42, 43, 8, 44, 45, 46, 47, 48, 49, 50, 51, 9, 10, 11, 12, 13, 14, 15, 16, 17, 18, 19, 20, 21, 22, 23, 24, 25, 26, 27, 28, 29] rfl (ws2 := fun ha_8 => [(a 0, oX8 a), (a 1, oX3 a), (a 2, aI E 16 (hM 2)), (a 3, aI E 16 (hM 3)), (a 4, aI E 256 (hM 4)), (a 5, aI E 128 (hM 5)), (a 6, aI E 128 (hM 6)), (a 7, aI E 128 (hM 7)), (a 8, aI E 128 (hM 8)), (a 9, oX0 a (o_7.2 9)), (a 10, aI E 4096 (o_7.2 10)), (a 11, aI E 120 (o_7.2 11)), (a 12, aI E 120 (o_7.2 12)), (a 13, oX1 a (mM 13)), (a 14, aI E 8 (mM 14)), (a 15, oX7 a (mM 15)), (a 16, aI E 11 (mM 16)), (a 17, aI E 4096 (mM 17)), (a 18, aI E 6272 (mM 18)), (a 19, aI E 98 (mM 19)), (a 20, oX2 a), (a 21, oX6 (o_7.2 21)), (a 22, oX6 (mM 22)), (a 23, oX4 a (o_7.2 23)), (a 24, .inl (xO E, 6, .inr (.inr (.inr (.inr (xhf ha_8)))))), (ha_8 0, oX6 (o_7.2 60)), (ha_8 1, oX6 (o_7.2 61)), (ha_8 2, oX6 (o_7.2 62)), (ha_8 3, oX6 (o_7.2 63)), (ha_8 4, oX6 (o_7.2 64)), (ha_8 5, oX6 (o_7.2 65)), (a 25, oX5 a (mM 25)), (a 26, aC E 24 (mM 26)), (a 27, .inl (xO E, 2, .inr (.inr (.inr (.inr (xsl a)))))), (a 28, oX6 (mM 28)), (a 29, oX6 (mM 29)), (a 30, aZ E 2 (mM 30)), (a 31, oX9 a (mM 31)), (a 32, aI E 8 (mM 32)), (a 33, aI E 48 (mM 33)), (a 34, aI E 16 (mM 34)), (a 35, aZ E 2 (mM 35)), (a 36, aI E 120 (hM 36)), (a 37, aI E 120 (hM 37)), (a 38, aI E 4096 (mM 38)), (a 39, aI E 4096 (mM 39)), (a 40, aI E 4096 (mM 40)), (a 41, aI E 128 (mM 41)), (a 42, aI E 98 (mM 42)), (a 43, aI E 202 (mM 43)), (a 44, aI E 4 (mM 44)), (a 45, aI E 24 (mM 45))]) (fun _ => rfl) (fun ha_8 => ?_)
      refine r.aload_n 2 (DL_law_1 28 rfl) rfl ?_
      refine r.aload_n 0 (DL_law_1 29 rfl) rfl ?_
      refine r.iload_n 3 (DL_law_1 30 rfl) rfl ?_
      refine r.iconst (v := (1 : Int32)) (DL_law_1 31 rfl) rfl ?_
      refine r.iadd (DL_law_1 32 rfl) ?_
      obtain ⟨hin, hxt⟩ := xgd_some hxt
      refine hsld hin (DL_law_1 33 rfl) ?_
      refine r.aload_n 0 (DL_law_1 34 rfl) rfl ?_
      refine r.iload_n 3 (DL_law_1 35 rfl) rfl ?_
      refine r.iconst (v := (2 : Int32)) (DL_law_1 36 rfl) rfl ?_
      refine r.iadd (DL_law_1 37 rfl) ?_
      obtain ⟨hin, hxt⟩ := xgd_some hxt
      refine hsld hin (DL_law_1 38 rfl) ?_
      refine r.aload_n 0 (DL_law_1 39 rfl) rfl ?_
      refine r.iload_n 3 (DL_law_1 40 rfl) rfl ?_
      refine r.iconst (v := (3 : Int32)) (DL_law_1 41 rfl) rfl ?_
      refine r.iadd (DL_law_1 42 rfl) ?_
      obtain ⟨hin, hxt⟩ := xgd_some hxt
      refine hsld hin (DL_law_1 43 rfl) ?_
      refine r.aload_n 0 (DL_law_1 44 rfl) rfl ?_
      refine r.iload_n 3 (DL_law_1 45 rfl) rfl ?_
      refine r.iconst (v := (4 : Int32)) (DL_law_1 46 rfl) rfl ?_
      refine r.iadd (DL_law_1 47 rfl) ?_
      obtain ⟨hin, hxt⟩ := xgd_some hxt
      refine hsld hin (DL_law_1 48 rfl) ?_
      obtain ⟨o_9, ho_9, hxt⟩ := xbd hxt
      refine r.callVI 0 rfl rfl (t_X9_setUp E a (xs (v3 + (1 : Int32)).toNatClampNeg) (xs (v3 + (2 : Int32)).toNatClampNeg) (xs (v3 + (3 : Int32)).toNatClampNeg) (xs (v3 + (4 : Int32)).toNatClampNeg) (mgs hM [31, 32, 33, 38, 39, 40, 41, 42, 43, 44] mM) ho_9) g_L_27 rfl (DL_law_1 49 rfl) rfl ⟨(Nat.le_of_ble_eq_true rfl), (Nat.le_of_ble_eq_true rfl)⟩ ⟨(Nat.le_of_ble_eq_true rfl), (Nat.le_of_ble_eq_true rfl)⟩ (Nat.le_of_ble_eq_true rfl) [37, 38, 39, 42, 43, 44, 45, 46, 47, 48, 49, 50] [0, 1, 2, 3, 4, 5, 6, 7, 8, 9, 10, 11, 12, 13, 14, 15, 16, 17, 18, 19, 20, 21, 22, 23, 24, 25, 26, 27, 28, 29, 30, 31, 32, 33, 34, 35, 36, 40, 41, 51] rfl rfl rfl rfl (by decide) [0, 1, 2, 3, 4, 5, 6, 7, 8, 9, 10, 11, 12, 13, 14, 15, 16, 17, 18, 19, 20, 21, 22, 23, 24, 25, 26, 27, 28, 29, 30, 31, 32, 33, 34, 35, 36, 40, 41, 42, 37, 38, 43, 44, 45, 46, 47, 48, 49, 50, 51, 39] rfl (ws2 := fun _ => [(a 0, oX8 a), (a 1, oX3 a), (a 2, aI E 16 (hM 2)), (a 3, aI E 16 (hM 3)), (a 4, aI E 256 (hM 4)), (a 5, aI E 128 (hM 5)), (a 6, aI E 128 (hM 6)), (a 7, aI E 128 (hM 7)), (a 8, aI E 128 (hM 8)), (a 9, oX0 a (o_7.2 9)), (a 10, aI E 4096 (o_7.2 10)), (a 11, aI E 120 (o_7.2 11)), (a 12, aI E 120 (o_7.2 12)), (a 13, oX1 a (mM 13)), (a 14, aI E 8 (mM 14)), (a 15, oX7 a (mM 15)), (a 16, aI E 11 (mM 16)), (a 17, aI E 4096 (mM 17)), (a 18, aI E 6272 (mM 18)), (a 19, aI E 98 (mM 19)), (a 20, oX2 a), (a 21, oX6 (o_7.2 21)), (a 22, oX6 (mM 22)), (a 23, oX4 a (o_7.2 23)), (a 24, .inl (xO E, 6, .inr (.inr (.inr (.inr (xhf ha_8)))))), (ha_8 0, oX6 (o_7.2 60)), (ha_8 1, oX6 (o_7.2 61)), (ha_8 2, oX6 (o_7.2 62)), (ha_8 3, oX6 (o_7.2 63)), (ha_8 4, oX6 (o_7.2 64)), (ha_8 5, oX6 (o_7.2 65)), (a 25, oX5 a (mM 25)), (a 26, aC E 24 (mM 26)), (a 27, .inl (xO E, 2, .inr (.inr (.inr (.inr (xsl a)))))), (a 28, oX6 (mM 28)), (a 29, oX6 (mM 29)), (a 30, aZ E 2 (mM 30)), (a 31, oX9 a (o_9.2 31)), (a 32, aI E 8 (o_9.2 32)), (a 33, aI E 48 (o_9.2 33)), (a 34, aI E 16 (mM 34)), (a 35, aZ E 2 (mM 35)), (a 36, aI E 120 (hM 36)), (a 37, aI E 120 (hM 37)), (a 38, aI E 4096 (o_9.2 38)), (a 39, aI E 4096 (o_9.2 39)), (a 40, aI E 4096 (o_9.2 40)), (a 41, aI E 128 (o_9.2 41)), (a 42, aI E 98 (o_9.2 42)), (a 43, aI E 202 (o_9.2 43)), (a 44, aI E 4 (o_9.2 44)), (a 45, aI E 24 (mM 45))]) (fun _ => rfl) (fun _ => ?_)
      refine r.icmp_eq 745 (DL_law_1 50 rfl) rfl hxt (fun _ hxt => ?_) (fun _ hxt => ?_)
      · refine r.iinc (v := (v3 + (5 : Int32))) (lo' := [(3, .int (v3 + (5 : Int32))), (0, .ref b), (1, .ref (a 0)), (2, .ref (a 31))]) 3 (DL_law_8 23 rfl) rfl rfl (Nat.le_of_ble_eq_true rfl) rfl ?_
        refine r.goto 18 (DL_law_8 24 rfl) rfl ?_
        refine r.rel (lo' := [(0, .ref b), (1, .ref (a 0)), (2, .ref (a 31)), (3, .int (v3 + (5 : Int32)))]) [1, 2, 3, 0] rfl ?_
        exact ih ha_8 (v3 + (5 : Int32)) (mgs (mgs (mgs hM [9, 10, 11, 12, 21, 23, 60, 61, 62, 63, 64, 65] o_7.2) [13, 14, 15, 16, 17, 18, 19, 22, 25, 26, 28, 29, 30, 34, 35, 45] mM) [31, 32, 33, 38, 39, 40, 41, 42, 43, 44] o_9.2) hxt
      refine r.iconst (v := (0 : Int32)) (DL_law_1 51 rfl) rfl ?_
      exact absurd (Option.some.inj hxt) (by decide)
    refine xif hxt (fun hc hxt => r.tsIn 241 (DL_law_0 21 rfl) hc hn rfl rfl ?_) (fun _ hxt => ?_)
    · refine r.aload_n 1 (DL_law_1 53 rfl) rfl ?_
      refine r.aload_n 0 (DL_law_1 54 rfl) rfl ?_
      refine r.iload_n 3 (DL_law_1 55 rfl) rfl ?_
      refine r.iconst (v := (1 : Int32)) (DL_law_1 56 rfl) rfl ?_
      refine r.iadd (DL_law_1 57 rfl) ?_
      obtain ⟨hin, hxt⟩ := xgd_some hxt
      refine hsld hin (DL_law_1 58 rfl) ?_
      refine r.aload_n 0 (DL_law_1 59 rfl) rfl ?_
      refine r.iload_n 3 (DL_law_2 0 rfl) rfl ?_
      refine r.iconst (v := (2 : Int32)) (DL_law_2 1 rfl) rfl ?_
      refine r.iadd (DL_law_2 2 rfl) ?_
      obtain ⟨hin, hxt⟩ := xgd_some hxt
      refine hsld hin (DL_law_2 3 rfl) ?_
      obtain ⟨o_10, ho_10, hxt⟩ := xbd hxt
      refine r.callVI 0 rfl rfl (t_X8_move E a ha (xs (v3 + (1 : Int32)).toNatClampNeg) (xs (v3 + (2 : Int32)).toNatClampNeg) (mgs hM [21, 23, 60, 61, 62, 63, 64, 65] mM) ho_10) g_L_28 rfl (DL_law_2 4 rfl) rfl ⟨(Nat.le_of_ble_eq_true rfl), (Nat.le_of_ble_eq_true rfl)⟩ ⟨(Nat.le_of_ble_eq_true rfl), (Nat.le_of_ble_eq_true rfl)⟩ (Nat.le_of_ble_eq_true rfl) [0, 1, 2, 3, 20, 21, 23, 24, 25, 26, 27, 28, 29, 30] [4, 5, 6, 7, 8, 9, 10, 11, 12, 13, 14, 15, 16, 17, 18, 19, 22, 31, 32, 33, 34, 35, 36, 37, 38, 39, 40, 41, 42, 43, 44, 45, 46, 47, 48, 49, 50, 51] rfl rfl rfl rfl (by decide) [38, 39, 40, 41, 0, 1, 2, 3, 4, 5, 6, 7, 8, 9, 10, 11, 12, 13, 14, 15, 42, 43, 16, 44, 45, 46, 47, 48, 49, 50, 51, 17, 18, 19, 20, 21, 22, 23, 24, 25, 26, 27, 28, 29, 30, 31, 32, 33, 34, 35, 36, 37] rfl (ws2 := fun ha_11 => [(a 0, oX8 a), (a 1, oX3 a), (a 2, aI E 16 (hM 2)), (a 3, aI E 16 (hM 3)), (a 4, aI E 256 (hM 4)), (a 5, aI E 128 (hM 5)), (a 6, aI E 128 (hM 6)), (a 7, aI E 128 (hM 7)), (a 8, aI E 128 (hM 8)), (a 9, oX0 a (mM 9)), (a 10, aI E 4096 (mM 10)), (a 11, aI E 120 (mM 11)), (a 12, aI E 120 (mM 12)), (a 13, oX1 a (mM 13)), (a 14, aI E 8 (mM 14)), (a 15, oX7 a (mM 15)), (a 16, aI E 11 (mM 16)), (a 17, aI E 4096 (mM 17)), (a 18, aI E 6272 (mM 18)), (a 19, aI E 98 (mM 19)), (a 20, oX2 a), (a 21, oX6 (o_10.2 21)), (a 22, oX6 (mM 22)), (a 23, oX4 a (o_10.2 23)), (a 24, .inl (xO E, 6, .inr (.inr (.inr (.inr (xhf ha_11)))))), (ha_11 0, oX6 (o_10.2 60)), (ha_11 1, oX6 (o_10.2 61)), (ha_11 2, oX6 (o_10.2 62)), (ha_11 3, oX6 (o_10.2 63)), (ha_11 4, oX6 (o_10.2 64)), (ha_11 5, oX6 (o_10.2 65)), (a 25, oX5 a (mM 25)), (a 26, aC E 24 (mM 26)), (a 27, .inl (xO E, 2, .inr (.inr (.inr (.inr (xsl a)))))), (a 28, oX6 (mM 28)), (a 29, oX6 (mM 29)), (a 30, aZ E 2 (mM 30)), (a 31, oX9 a (mM 31)), (a 32, aI E 8 (mM 32)), (a 33, aI E 48 (mM 33)), (a 34, aI E 16 (mM 34)), (a 35, aZ E 2 (mM 35)), (a 36, aI E 120 (hM 36)), (a 37, aI E 120 (hM 37)), (a 38, aI E 4096 (mM 38)), (a 39, aI E 4096 (mM 39)), (a 40, aI E 4096 (mM 40)), (a 41, aI E 128 (mM 41)), (a 42, aI E 98 (mM 42)), (a 43, aI E 202 (mM 43)), (a 44, aI E 4 (mM 44)), (a 45, aI E 24 (mM 45))]) (fun _ => rfl) (fun ha_11 => ?_)
      refine r.aload_n 2 (DL_law_2 5 rfl) rfl ?_
      refine r.aload_n 0 (DL_law_2 6 rfl) rfl ?_
      refine r.iload_n 3 (DL_law_2 7 rfl) rfl ?_
      refine r.iconst (v := (1 : Int32)) (DL_law_2 8 rfl) rfl ?_
      refine r.iadd (DL_law_2 9 rfl) ?_
      obtain ⟨hin, hxt⟩ := xgd_some hxt
      refine hsld hin (DL_law_2 10 rfl) ?_
      refine r.aload_n 0 (DL_law_2 11 rfl) rfl ?_
      refine r.iload_n 3 (DL_law_2 12 rfl) rfl ?_
      refine r.iconst (v := (2 : Int32)) (DL_law_2 13 rfl) rfl ?_
      refine r.iadd (DL_law_2 14 rfl) ?_
      obtain ⟨hin, hxt⟩ := xgd_some hxt
      refine hsld hin (DL_law_2 15 rfl) ?_
      obtain ⟨o_12, ho_12, hxt⟩ := xbd hxt
      refine r.callVI 0 rfl rfl (t_X9_move E a (xs (v3 + (1 : Int32)).toNatClampNeg) (xs (v3 + (2 : Int32)).toNatClampNeg) (mgs hM [31, 32, 33, 38, 39, 40, 41, 42, 43, 44] mM) ho_12) g_L_31 rfl (DL_law_2 16 rfl) rfl ⟨(Nat.le_of_ble_eq_true rfl), (Nat.le_of_ble_eq_true rfl)⟩ ⟨(Nat.le_of_ble_eq_true rfl), (Nat.le_of_ble_eq_true rfl)⟩ (Nat.le_of_ble_eq_true rfl) [37, 38, 39, 42, 43, 44, 45, 46, 47, 48, 49, 50] [0, 1, 2, 3, 4, 5, 6, 7, 8, 9, 10, 11, 12, 13, 14, 15, 16, 17, 18, 19, 20, 21, 22, 23, 24, 25, 26, 27, 28, 29, 30, 31, 32, 33, 34, 35, 36, 40, 41, 51] rfl rfl rfl rfl (by decide) [0, 1, 2, 3, 4, 5, 6, 7, 8, 9, 10, 11, 12, 13, 14, 15, 16, 17, 18, 19, 20, 21, 22, 23, 24, 25, 26, 27, 28, 29, 30, 31, 32, 33, 34, 35, 36, 40, 41, 42, 37, 38, 43, 44, 45, 46, 47, 48, 49, 50, 51, 39] rfl (ws2 := fun _ => [(a 0, oX8 a), (a 1, oX3 a), (a 2, aI E 16 (hM 2)), (a 3, aI E 16 (hM 3)), (a 4, aI E 256 (hM 4)), (a 5, aI E 128 (hM 5)), (a 6, aI E 128 (hM 6)), (a 7, aI E 128 (hM 7)), (a 8, aI E 128 (hM 8)), (a 9, oX0 a (mM 9)), (a 10, aI E 4096 (mM 10)), (a 11, aI E 120 (mM 11)), (a 12, aI E 120 (mM 12)), (a 13, oX1 a (mM 13)), (a 14, aI E 8 (mM 14)), (a 15, oX7 a (mM 15)), (a 16, aI E 11 (mM 16)), (a 17, aI E 4096 (mM 17)), (a 18, aI E 6272 (mM 18)), (a 19, aI E 98 (mM 19)), (a 20, oX2 a), (a 21, oX6 (o_10.2 21)), (a 22, oX6 (mM 22)), (a 23, oX4 a (o_10.2 23)), (a 24, .inl (xO E, 6, .inr (.inr (.inr (.inr (xhf ha_11)))))), (ha_11 0, oX6 (o_10.2 60)), (ha_11 1, oX6 (o_10.2 61)), (ha_11 2, oX6 (o_10.2 62)), (ha_11 3, oX6 (o_10.2 63)), (ha_11 4, oX6 (o_10.2 64)), (ha_11 5, oX6 (o_10.2 65)), (a 25, oX5 a (mM 25)), (a 26, aC E 24 (mM 26)), (a 27, .inl (xO E, 2, .inr (.inr (.inr (.inr (xsl a)))))), (a 28, oX6 (mM 28)), (a 29, oX6 (mM 29)), (a 30, aZ E 2 (mM 30)), (a 31, oX9 a (o_12.2 31)), (a 32, aI E 8 (o_12.2 32)), (a 33, aI E 48 (o_12.2 33)), (a 34, aI E 16 (mM 34)), (a 35, aZ E 2 (mM 35)), (a 36, aI E 120 (hM 36)), (a 37, aI E 120 (hM 37)), (a 38, aI E 4096 (o_12.2 38)), (a 39, aI E 4096 (o_12.2 39)), (a 40, aI E 4096 (o_12.2 40)), (a 41, aI E 128 (o_12.2 41)), (a 42, aI E 98 (o_12.2 42)), (a 43, aI E 202 (o_12.2 43)), (a 44, aI E 4 (o_12.2 44)), (a 45, aI E 24 (mM 45))]) (fun _ => rfl) (fun _ => ?_)
      refine r.icmp_eq 745 (DL_law_2 17 rfl) rfl hxt (fun _ hxt => ?_) (fun _ hxt => ?_)
      · refine r.iinc (v := (v3 + (5 : Int32))) (lo' := [(3, .int (v3 + (5 : Int32))), (0, .ref b), (1, .ref (a 0)), (2, .ref (a 31))]) 3 (DL_law_8 23 rfl) rfl rfl (Nat.le_of_ble_eq_true rfl) rfl ?_
        refine r.goto 18 (DL_law_8 24 rfl) rfl ?_
        refine r.rel (lo' := [(0, .ref b), (1, .ref (a 0)), (2, .ref (a 31)), (3, .int (v3 + (5 : Int32)))]) [1, 2, 3, 0] rfl ?_
        exact ih ha_11 (v3 + (5 : Int32)) (mgs (mgs (mgs hM [9, 10, 11, 12, 13, 14, 15, 16, 17, 18, 19, 22, 25, 26, 28, 29, 30, 34, 35, 45] mM) [21, 23, 60, 61, 62, 63, 64, 65] o_10.2) [31, 32, 33, 38, 39, 40, 41, 42, 43, 44] o_12.2) hxt
      refine r.iconst (v := (0 : Int32)) (DL_law_2 18 rfl) rfl ?_
      exact absurd (Option.some.inj hxt) (by decide)
    refine xif hxt (fun hc hxt => r.tsIn 274 (DL_law_0 21 rfl) hc hn rfl rfl ?_) (fun _ hxt => ?_)
    · refine r.aload_n 1 (DL_law_2 20 rfl) rfl ?_
      obtain ⟨o_13, ho_13, hxt⟩ := xbd hxt
      refine r.callVI 0 rfl rfl (t_X8_play E a ha (mgs hM [9, 10, 11, 12, 21, 23, 60, 61, 62, 63, 64, 65] mM) ho_13) g_L_32 rfl (DL_law_2 21 rfl) rfl ⟨(Nat.le_of_ble_eq_true rfl), (Nat.le_of_ble_eq_true rfl)⟩ ⟨(Nat.le_of_ble_eq_true rfl), (Nat.le_of_ble_eq_true rfl)⟩ (Nat.le_of_ble_eq_true rfl) [0, 1, 2, 3, 4, 5, 6, 7, 9, 10, 11, 12, 20, 21, 23, 24, 25, 26, 27, 28, 29, 30] [8, 13, 14, 15, 16, 17, 18, 19, 22, 31, 32, 33, 34, 35, 36, 37, 38, 39, 40, 41, 42, 43, 44, 45, 46, 47, 48, 49, 50, 51] rfl rfl rfl rfl (by decide) [30, 31, 32, 33, 34, 35, 36, 37, 0, 38, 39, 40, 41, 1, 2, 3, 4, 5, 6, 7, 42, 43, 8, 44, 45, 46, 47, 48, 49, 50, 51, 9, 10, 11, 12, 13, 14, 15, 16, 17, 18, 19, 20, 21, 22, 23, 24, 25, 26, 27, 28, 29] rfl (ws2 := fun ha_14 => [(a 0, oX8 a), (a 1, oX3 a), (a 2, aI E 16 (hM 2)), (a 3, aI E 16 (hM 3)), (a 4, aI E 256 (hM 4)), (a 5, aI E 128 (hM 5)), (a 6, aI E 128 (hM 6)), (a 7, aI E 128 (hM 7)), (a 8, aI E 128 (hM 8)), (a 9, oX0 a (o_13.2 9)), (a 10, aI E 4096 (o_13.2 10)), (a 11, aI E 120 (o_13.2 11)), (a 12, aI E 120 (o_13.2 12)), (a 13, oX1 a (mM 13)), (a 14, aI E 8 (mM 14)), (a 15, oX7 a (mM 15)), (a 16, aI E 11 (mM 16)), (a 17, aI E 4096 (mM 17)), (a 18, aI E 6272 (mM 18)), (a 19, aI E 98 (mM 19)), (a 20, oX2 a), (a 21, oX6 (o_13.2 21)), (a 22, oX6 (mM 22)), (a 23, oX4 a (o_13.2 23)), (a 24, .inl (xO E, 6, .inr (.inr (.inr (.inr (xhf ha_14)))))), (ha_14 0, oX6 (o_13.2 60)), (ha_14 1, oX6 (o_13.2 61)), (ha_14 2, oX6 (o_13.2 62)), (ha_14 3, oX6 (o_13.2 63)), (ha_14 4, oX6 (o_13.2 64)), (ha_14 5, oX6 (o_13.2 65)), (a 25, oX5 a (mM 25)), (a 26, aC E 24 (mM 26)), (a 27, .inl (xO E, 2, .inr (.inr (.inr (.inr (xsl a)))))), (a 28, oX6 (mM 28)), (a 29, oX6 (mM 29)), (a 30, aZ E 2 (mM 30)), (a 31, oX9 a (mM 31)), (a 32, aI E 8 (mM 32)), (a 33, aI E 48 (mM 33)), (a 34, aI E 16 (mM 34)), (a 35, aZ E 2 (mM 35)), (a 36, aI E 120 (hM 36)), (a 37, aI E 120 (hM 37)), (a 38, aI E 4096 (mM 38)), (a 39, aI E 4096 (mM 39)), (a 40, aI E 4096 (mM 40)), (a 41, aI E 128 (mM 41)), (a 42, aI E 98 (mM 42)), (a 43, aI E 202 (mM 43)), (a 44, aI E 4 (mM 44)), (a 45, aI E 24 (mM 45))]) (fun _ => rfl) (fun ha_14 => ?_)
      refine r.aload_n 2 (DL_law_2 22 rfl) rfl ?_
      obtain ⟨o_15, ho_15, hxt⟩ := xbd hxt
      refine r.callVI 0 rfl rfl (t_X9_play E a (mgs hM [31, 32, 33, 38, 39, 40, 41, 42, 43, 44] mM) ho_15) g_L_36 rfl (DL_law_2 23 rfl) rfl ⟨(Nat.le_of_ble_eq_true rfl), (Nat.le_of_ble_eq_true rfl)⟩ ⟨(Nat.le_of_ble_eq_true rfl), (Nat.le_of_ble_eq_true rfl)⟩ (Nat.le_of_ble_eq_true rfl) [37, 38, 39, 42, 43, 44, 45, 46, 47, 48, 49, 50] [0, 1, 2, 3, 4, 5, 6, 7, 8, 9, 10, 11, 12, 13, 14, 15, 16, 17, 18, 19, 20, 21, 22, 23, 24, 25, 26, 27, 28, 29, 30, 31, 32, 33, 34, 35, 36, 40, 41, 51] rfl rfl rfl rfl (by decide) [0, 1, 2, 3, 4, 5, 6, 7, 8, 9, 10, 11, 12, 13, 14, 15, 16, 17, 18, 19, 20, 21, 22, 23, 24, 25, 26, 27, 28, 29, 30, 31, 32, 33, 34, 35, 36, 40, 41, 42, 37, 38, 43, 44, 45, 46, 47, 48, 49, 50, 51, 39] rfl (ws2 := fun _ => [(a 0, oX8 a), (a 1, oX3 a), (a 2, aI E 16 (hM 2)), (a 3, aI E 16 (hM 3)), (a 4, aI E 256 (hM 4)), (a 5, aI E 128 (hM 5)), (a 6, aI E 128 (hM 6)), (a 7, aI E 128 (hM 7)), (a 8, aI E 128 (hM 8)), (a 9, oX0 a (o_13.2 9)), (a 10, aI E 4096 (o_13.2 10)), (a 11, aI E 120 (o_13.2 11)), (a 12, aI E 120 (o_13.2 12)), (a 13, oX1 a (mM 13)), (a 14, aI E 8 (mM 14)), (a 15, oX7 a (mM 15)), (a 16, aI E 11 (mM 16)), (a 17, aI E 4096 (mM 17)), (a 18, aI E 6272 (mM 18)), (a 19, aI E 98 (mM 19)), (a 20, oX2 a), (a 21, oX6 (o_13.2 21)), (a 22, oX6 (mM 22)), (a 23, oX4 a (o_13.2 23)), (a 24, .inl (xO E, 6, .inr (.inr (.inr (.inr (xhf ha_14)))))), (ha_14 0, oX6 (o_13.2 60)), (ha_14 1, oX6 (o_13.2 61)), (ha_14 2, oX6 (o_13.2 62)), (ha_14 3, oX6 (o_13.2 63)), (ha_14 4, oX6 (o_13.2 64)), (ha_14 5, oX6 (o_13.2 65)), (a 25, oX5 a (mM 25)), (a 26, aC E 24 (mM 26)), (a 27, .inl (xO E, 2, .inr (.inr (.inr (.inr (xsl a)))))), (a 28, oX6 (mM 28)), (a 29, oX6 (mM 29)), (a 30, aZ E 2 (mM 30)), (a 31, oX9 a (o_15.2 31)), (a 32, aI E 8 (o_15.2 32)), (a 33, aI E 48 (o_15.2 33)), (a 34, aI E 16 (mM 34)), (a 35, aZ E 2 (mM 35)), (a 36, aI E 120 (hM 36)), (a 37, aI E 120 (hM 37)), (a 38, aI E 4096 (o_15.2 38)), (a 39, aI E 4096 (o_15.2 39)), (a 40, aI E 4096 (o_15.2 40)), (a 41, aI E 128 (o_15.2 41)), (a 42, aI E 98 (o_15.2 42)), (a 43, aI E 202 (o_15.2 43)), (a 44, aI E 4 (o_15.2 44)), (a 45, aI E 24 (mM 45))]) (fun _ => rfl) (fun _ => ?_)
      refine r.icmp_eq 745 (DL_law_2 24 rfl) rfl hxt (fun _ hxt => ?_) (fun _ hxt => ?_)
      · refine r.iinc (v := (v3 + (5 : Int32))) (lo' := [(3, .int (v3 + (5 : Int32))), (0, .ref b), (1, .ref (a 0)), (2, .ref (a 31))]) 3 (DL_law_8 23 rfl) rfl rfl (Nat.le_of_ble_eq_true rfl) rfl ?_
        refine r.goto 18 (DL_law_8 24 rfl) rfl ?_
        refine r.rel (lo' := [(0, .ref b), (1, .ref (a 0)), (2, .ref (a 31)), (3, .int (v3 + (5 : Int32)))]) [1, 2, 3, 0] rfl ?_
        exact ih ha_14 (v3 + (5 : Int32)) (mgs (mgs (mgs hM [9, 10, 11, 12, 21, 23, 60, 61, 62, 63, 64, 65] o_13.2) [13, 14, 15, 16, 17, 18, 19, 22, 25, 26, 28, 29, 30, 34, 35, 45] mM) [31, 32, 33, 38, 39, 40, 41, 42, 43, 44] o_15.2) hxt
      refine r.iconst (v := (0 : Int32)) (DL_law_2 25 rfl) rfl ?_
      exact absurd (Option.some.inj hxt) (by decide)
    refine xif hxt (fun hc hxt => r.tsIn 287 (DL_law_0 21 rfl) hc hn rfl rfl ?_) (fun _ hxt => ?_)
    · refine r.aload_n 1 (DL_law_2 27 rfl) rfl ?_
      obtain ⟨o_16, ho_16, hxt⟩ := xbd hxt
      refine r.callVI 0 rfl rfl (t_X8_readPad E a ha (mgs hM [9, 10, 11, 12, 21, 23, 60, 61, 62, 63, 64, 65, 25, 26] mM) ho_16) g_L_37 rfl (DL_law_2 28 rfl) rfl ⟨(Nat.le_of_ble_eq_true rfl), (Nat.le_of_ble_eq_true rfl)⟩ ⟨(Nat.le_of_ble_eq_true rfl), (Nat.le_of_ble_eq_true rfl)⟩ (Nat.le_of_ble_eq_true rfl) [0, 1, 2, 3, 4, 5, 6, 7, 9, 10, 11, 12, 20, 21, 23, 24, 25, 26, 27, 28, 29, 30, 31, 32] [8, 13, 14, 15, 16, 17, 18, 19, 22, 33, 34, 35, 36, 37, 38, 39, 40, 41, 42, 43, 44, 45, 46, 47, 48, 49, 50, 51] rfl rfl rfl rfl (by decide) [28, 29, 30, 31, 32, 33, 34, 35, 0, 36, 37, 38, 39, 1, 2, 3, 4, 5, 6, 7, 40, 41, 8, 42, 43, 44, 45, 46, 47, 48, 49, 50, 51, 9, 10, 11, 12, 13, 14, 15, 16, 17, 18, 19, 20, 21, 22, 23, 24, 25, 26, 27] rfl (ws2 := fun ha_17 => [(a 0, oX8 a), (a 1, oX3 a), (a 2, aI E 16 (hM 2)), (a 3, aI E 16 (hM 3)), (a 4, aI E 256 (hM 4)), (a 5, aI E 128 (hM 5)), (a 6, aI E 128 (hM 6)), (a 7, aI E 128 (hM 7)), (a 8, aI E 128 (hM 8)), (a 9, oX0 a (o_16.2 9)), (a 10, aI E 4096 (o_16.2 10)), (a 11, aI E 120 (o_16.2 11)), (a 12, aI E 120 (o_16.2 12)), (a 13, oX1 a (mM 13)), (a 14, aI E 8 (mM 14)), (a 15, oX7 a (mM 15)), (a 16, aI E 11 (mM 16)), (a 17, aI E 4096 (mM 17)), (a 18, aI E 6272 (mM 18)), (a 19, aI E 98 (mM 19)), (a 20, oX2 a), (a 21, oX6 (o_16.2 21)), (a 22, oX6 (mM 22)), (a 23, oX4 a (o_16.2 23)), (a 24, .inl (xO E, 6, .inr (.inr (.inr (.inr (xhf ha_17)))))), (ha_17 0, oX6 (o_16.2 60)), (ha_17 1, oX6 (o_16.2 61)), (ha_17 2, oX6 (o_16.2 62)), (ha_17 3, oX6 (o_16.2 63)), (ha_17 4, oX6 (o_16.2 64)), (ha_17 5, oX6 (o_16.2 65)), (a 25, oX5 a (o_16.2 25)), (a 26, aC E 24 (mM 26)), (a 27, .inl (xO E, 2, .inr (.inr (.inr (.inr (xsl a)))))), (a 28, oX6 (mM 28)), (a 29, oX6 (mM 29)), (a 30, aZ E 2 (mM 30)), (a 31, oX9 a (mM 31)), (a 32, aI E 8 (mM 32)), (a 33, aI E 48 (mM 33)), (a 34, aI E 16 (mM 34)), (a 35, aZ E 2 (mM 35)), (a 36, aI E 120 (hM 36)), (a 37, aI E 120 (hM 37)), (a 38, aI E 4096 (mM 38)), (a 39, aI E 4096 (mM 39)), (a 40, aI E 4096 (mM 40)), (a 41, aI E 128 (mM 41)), (a 42, aI E 98 (mM 42)), (a 43, aI E 202 (mM 43)), (a 44, aI E 4 (mM 44)), (a 45, aI E 24 (mM 45))]) (fun _ => rfl) (fun ha_17 => ?_)
      refine r.aload_n 2 (DL_law_2 29 rfl) rfl ?_
      obtain ⟨o_18, ho_18, hxt⟩ := xbd hxt
      refine r.callVI 0 rfl rfl (t_X9_readPad E a (mgs hM [31, 32, 33, 38, 39, 40, 41, 42, 43, 44, 45] mM) ho_18) g_L_40 rfl (DL_law_2 30 rfl) rfl ⟨(Nat.le_of_ble_eq_true rfl), (Nat.le_of_ble_eq_true rfl)⟩ ⟨(Nat.le_of_ble_eq_true rfl), (Nat.le_of_ble_eq_true rfl)⟩ (Nat.le_of_ble_eq_true rfl) [37, 38, 39, 42, 43, 44, 45, 46, 47, 48, 49, 50, 51] [0, 1, 2, 3, 4, 5, 6, 7, 8, 9, 10, 11, 12, 13, 14, 15, 16, 17, 18, 19, 20, 21, 22, 23, 24, 25, 26, 27, 28, 29, 30, 31, 32, 33, 34, 35, 36, 40, 41] rfl rfl rfl rfl (by decide) [0, 1, 2, 3, 4, 5, 6, 7, 8, 9, 10, 11, 12, 13, 14, 15, 16, 17, 18, 19, 20, 21, 22, 23, 24, 25, 26, 27, 28, 29, 30, 31, 32, 33, 34, 35, 36, 39, 40, 41, 37, 38, 42, 43, 44, 45, 46, 47, 48, 49, 50, 51] rfl (ws2 := fun _ => [(a 0, oX8 a), (a 1, oX3 a), (a 2, aI E 16 (hM 2)), (a 3, aI E 16 (hM 3)), (a 4, aI E 256 (hM 4)), (a 5, aI E 128 (hM 5)), (a 6, aI E 128 (hM 6)), (a 7, aI E 128 (hM 7)), (a 8, aI E 128 (hM 8)), (a 9, oX0 a (o_16.2 9)), (a 10, aI E 4096 (o_16.2 10)), (a 11, aI E 120 (o_16.2 11)), (a 12, aI E 120 (o_16.2 12)), (a 13, oX1 a (mM 13)), (a 14, aI E 8 (mM 14)), (a 15, oX7 a (mM 15)), (a 16, aI E 11 (mM 16)), (a 17, aI E 4096 (mM 17)), (a 18, aI E 6272 (mM 18)), (a 19, aI E 98 (mM 19)), (a 20, oX2 a), (a 21, oX6 (o_16.2 21)), (a 22, oX6 (mM 22)), (a 23, oX4 a (o_16.2 23)), (a 24, .inl (xO E, 6, .inr (.inr (.inr (.inr (xhf ha_17)))))), (ha_17 0, oX6 (o_16.2 60)), (ha_17 1, oX6 (o_16.2 61)), (ha_17 2, oX6 (o_16.2 62)), (ha_17 3, oX6 (o_16.2 63)), (ha_17 4, oX6 (o_16.2 64)), (ha_17 5, oX6 (o_16.2 65)), (a 25, oX5 a (o_16.2 25)), (a 26, aC E 24 (mM 26)), (a 27, .inl (xO E, 2, .inr (.inr (.inr (.inr (xsl a)))))), (a 28, oX6 (mM 28)), (a 29, oX6 (mM 29)), (a 30, aZ E 2 (mM 30)), (a 31, oX9 a (o_18.2 31)), (a 32, aI E 8 (o_18.2 32)), (a 33, aI E 48 (o_18.2 33)), (a 34, aI E 16 (mM 34)), (a 35, aZ E 2 (mM 35)), (a 36, aI E 120 (hM 36)), (a 37, aI E 120 (hM 37)), (a 38, aI E 4096 (o_18.2 38)), (a 39, aI E 4096 (o_18.2 39)), (a 40, aI E 4096 (o_18.2 40)), (a 41, aI E 128 (o_18.2 41)), (a 42, aI E 98 (o_18.2 42)), (a 43, aI E 202 (o_18.2 43)), (a 44, aI E 4 (o_18.2 44)), (a 45, aI E 24 (mM 45))]) (fun _ => rfl) (fun _ => ?_)
      refine r.icmp_eq 745 (DL_law_2 31 rfl) rfl hxt (fun _ hxt => ?_) (fun _ hxt => ?_)
      · refine r.iinc (v := (v3 + (5 : Int32))) (lo' := [(3, .int (v3 + (5 : Int32))), (0, .ref b), (1, .ref (a 0)), (2, .ref (a 31))]) 3 (DL_law_8 23 rfl) rfl rfl (Nat.le_of_ble_eq_true rfl) rfl ?_
        refine r.goto 18 (DL_law_8 24 rfl) rfl ?_
        refine r.rel (lo' := [(0, .ref b), (1, .ref (a 0)), (2, .ref (a 31)), (3, .int (v3 + (5 : Int32)))]) [1, 2, 3, 0] rfl ?_
        exact ih ha_17 (v3 + (5 : Int32)) (mgs (mgs (mgs hM [9, 10, 11, 12, 21, 23, 60, 61, 62, 63, 64, 65, 25] o_16.2) [13, 14, 15, 16, 17, 18, 19, 22, 26, 28, 29, 30, 34, 35, 45] mM) [31, 32, 33, 38, 39, 40, 41, 42, 43, 44] o_18.2) hxt
      refine r.iconst (v := (0 : Int32)) (DL_law_2 32 rfl) rfl ?_
      exact absurd (Option.some.inj hxt) (by decide)
    refine xif hxt (fun hc hxt => r.tsIn 300 (DL_law_0 21 rfl) hc hn rfl rfl ?_) (fun _ hxt => ?_)
    · refine r.aload_n 1 (DL_law_2 34 rfl) rfl ?_
      refine r.aload_n 0 (DL_law_2 35 rfl) rfl ?_
      refine r.iload_n 3 (DL_law_2 36 rfl) rfl ?_
      refine r.iconst (v := (1 : Int32)) (DL_law_2 37 rfl) rfl ?_
      refine r.iadd (DL_law_2 38 rfl) ?_
      obtain ⟨hin, hxt⟩ := xgd_some hxt
      refine hsld hin (DL_law_2 39 rfl) ?_
      obtain ⟨o_19, ho_19, hxt⟩ := xbd hxt
      refine r.callVI 0 rfl rfl (t_X8_now E a (xs (v3 + (1 : Int32)).toNatClampNeg) (mgs hM [9, 10, 11, 12, 13, 14, 21, 23, 25] mM) ho_19) g_L_41 rfl (DL_law_2 40 rfl) rfl ⟨(Nat.le_of_ble_eq_true rfl), (Nat.le_of_ble_eq_true rfl)⟩ ⟨(Nat.le_of_ble_eq_true rfl), (Nat.le_of_ble_eq_true rfl)⟩ (Nat.le_of_ble_eq_true rfl) [0, 1, 2, 3, 4, 5, 6, 7, 8, 9, 10, 11, 12, 13, 14, 20, 21, 23, 31] [15, 16, 17, 18, 19, 22, 24, 25, 26, 27, 28, 29, 30, 32, 33, 34, 35, 36, 37, 38, 39, 40, 41, 42, 43, 44, 45, 46, 47, 48, 49, 50, 51] rfl rfl rfl rfl (by decide) [33, 34, 35, 36, 37, 38, 39, 40, 41, 42, 43, 44, 45, 46, 47, 0, 1, 2, 3, 4, 48, 49, 5, 50, 6, 7, 8, 9, 10, 11, 12, 51, 13, 14, 15, 16, 17, 18, 19, 20, 21, 22, 23, 24, 25, 26, 27, 28, 29, 30, 31, 32] rfl (ws2 := fun _ => [(a 0, oX8 a), (a 1, oX3 a), (a 2, aI E 16 (hM 2)), (a 3, aI E 16 (hM 3)), (a 4, aI E 256 (hM 4)), (a 5, aI E 128 (hM 5)), (a 6, aI E 128 (hM 6)), (a 7, aI E 128 (hM 7)), (a 8, aI E 128 (hM 8)), (a 9, oX0 a (o_19.2 9)), (a 10, aI E 4096 (o_19.2 10)), (a 11, aI E 120 (o_19.2 11)), (a 12, aI E 120 (o_19.2 12)), (a 13, oX1 a (o_19.2 13)), (a 14, aI E 8 (o_19.2 14)), (a 15, oX7 a (mM 15)), (a 16, aI E 11 (mM 16)), (a 17, aI E 4096 (mM 17)), (a 18, aI E 6272 (mM 18)), (a 19, aI E 98 (mM 19)), (a 20, oX2 a), (a 21, oX6 (mM 21)), (a 22, oX6 (mM 22)), (a 23, oX4 a (mM 23)), (a 24, .inl (xO E, 6, .inr (.inr (.inr (.inr (xhf ha)))))), (ha 0, oX6 (mM 60)), (ha 1, oX6 (mM 61)), (ha 2, oX6 (mM 62)), (ha 3, oX6 (mM 63)), (ha 4, oX6 (mM 64)), (ha 5, oX6 (mM 65)), (a 25, oX5 a (mM 25)), (a 26, aC E 24 (mM 26)), (a 27, .inl (xO E, 2, .inr (.inr (.inr (.inr (xsl a)))))), (a 28, oX6 (mM 28)), (a 29, oX6 (mM 29)), (a 30, aZ E 2 (mM 30)), (a 31, oX9 a (mM 31)), (a 32, aI E 8 (mM 32)), (a 33, aI E 48 (mM 33)), (a 34, aI E 16 (mM 34)), (a 35, aZ E 2 (mM 35)), (a 36, aI E 120 (hM 36)), (a 37, aI E 120 (hM 37)), (a 38, aI E 4096 (mM 38)), (a 39, aI E 4096 (mM 39)), (a 40, aI E 4096 (mM 40)), (a 41, aI E 128 (mM 41)), (a 42, aI E 98 (mM 42)), (a 43, aI E 202 (mM 43)), (a 44, aI E 4 (mM 44)), (a 45, aI E 24 (mM 45))]) (fun _ => rfl) (fun _ => ?_)
      refine r.aload_n 2 (DL_law_2 41 rfl) rfl ?_
      refine r.aload_n 0 (DL_law_2 42 rfl) rfl ?_
      refine r.iload_n 3 (DL_law_2 43 rfl) rfl ?_
      refine r.iconst (v := (1 : Int32)) (DL_law_2 44 rfl) rfl ?_
      refine r.iadd (DL_law_2 45 rfl) ?_
      obtain ⟨hin, hxt⟩ := xgd_some hxt
      refine hsld hin (DL_law_2 46 rfl) ?_
      obtain ⟨o_20, ho_20, hxt⟩ := xbd hxt
      refine r.callVI 0 rfl rfl (t_X9_now E a (xs (v3 + (1 : Int32)).toNatClampNeg) (mgs hM [31, 32, 38, 39, 40, 41, 42, 43, 44] mM) ho_20) g_L_44 rfl (DL_law_2 47 rfl) rfl ⟨(Nat.le_of_ble_eq_true rfl), (Nat.le_of_ble_eq_true rfl)⟩ ⟨(Nat.le_of_ble_eq_true rfl), (Nat.le_of_ble_eq_true rfl)⟩ (Nat.le_of_ble_eq_true rfl) [37, 38, 42, 43, 44, 45, 46, 47, 48, 49, 50] [0, 1, 2, 3, 4, 5, 6, 7, 8, 9, 10, 11, 12, 13, 14, 15, 16, 17, 18, 19, 20, 21, 22, 23, 24, 25, 26, 27, 28, 29, 30, 31, 32, 33, 34, 35, 36, 39, 40, 41, 51] rfl rfl rfl rfl (by decide) [0, 1, 2, 3, 4, 5, 6, 7, 8, 9, 10, 11, 12, 13, 14, 15, 16, 17, 18, 19, 20, 21, 22, 23, 24, 25, 26, 27, 28, 29, 30, 31, 32, 33, 34, 35, 36, 41, 42, 37, 38, 39, 43, 44, 45, 46, 47, 48, 49, 50, 51, 40] rfl (ws2 := fun _ => [(a 0, oX8 a), (a 1, oX3 a), (a 2, aI E 16 (hM 2)), (a 3, aI E 16 (hM 3)), (a 4, aI E 256 (hM 4)), (a 5, aI E 128 (hM 5)), (a 6, aI E 128 (hM 6)), (a 7, aI E 128 (hM 7)), (a 8, aI E 128 (hM 8)), (a 9, oX0 a (o_19.2 9)), (a 10, aI E 4096 (o_19.2 10)), (a 11, aI E 120 (o_19.2 11)), (a 12, aI E 120 (o_19.2 12)), (a 13, oX1 a (o_19.2 13)), (a 14, aI E 8 (o_19.2 14)), (a 15, oX7 a (mM 15)), (a 16, aI E 11 (mM 16)), (a 17, aI E 4096 (mM 17)), (a 18, aI E 6272 (mM 18)), (a 19, aI E 98 (mM 19)), (a 20, oX2 a), (a 21, oX6 (mM 21)), (a 22, oX6 (mM 22)), (a 23, oX4 a (mM 23)), (a 24, .inl (xO E, 6, .inr (.inr (.inr (.inr (xhf ha)))))), (ha 0, oX6 (mM 60)), (ha 1, oX6 (mM 61)), (ha 2, oX6 (mM 62)), (ha 3, oX6 (mM 63)), (ha 4, oX6 (mM 64)), (ha 5, oX6 (mM 65)), (a 25, oX5 a (mM 25)), (a 26, aC E 24 (mM 26)), (a 27, .inl (xO E, 2, .inr (.inr (.inr (.inr (xsl a)))))), (a 28, oX6 (mM 28)), (a 29, oX6 (mM 29)), (a 30, aZ E 2 (mM 30)), (a 31, oX9 a (o_20.2 31)), (a 32, aI E 8 (mM 32)), (a 33, aI E 48 (mM 33)), (a 34, aI E 16 (mM 34)), (a 35, aZ E 2 (mM 35)), (a 36, aI E 120 (hM 36)), (a 37, aI E 120 (hM 37)), (a 38, aI E 4096 (o_20.2 38)), (a 39, aI E 4096 (o_20.2 39)), (a 40, aI E 4096 (o_20.2 40)), (a 41, aI E 128 (o_20.2 41)), (a 42, aI E 98 (o_20.2 42)), (a 43, aI E 202 (o_20.2 43)), (a 44, aI E 4 (o_20.2 44)), (a 45, aI E 24 (mM 45))]) (fun _ => rfl) (fun _ => ?_)
      refine r.icmp_eq 745 (DL_law_2 48 rfl) rfl hxt (fun _ hxt => ?_) (fun _ hxt => ?_)
      · refine r.iinc (v := (v3 + (5 : Int32))) (lo' := [(3, .int (v3 + (5 : Int32))), (0, .ref b), (1, .ref (a 0)), (2, .ref (a 31))]) 3 (DL_law_8 23 rfl) rfl rfl (Nat.le_of_ble_eq_true rfl) rfl ?_
        refine r.goto 18 (DL_law_8 24 rfl) rfl ?_
        refine r.rel (lo' := [(0, .ref b), (1, .ref (a 0)), (2, .ref (a 31)), (3, .int (v3 + (5 : Int32)))]) [1, 2, 3, 0] rfl ?_
        exact ih ha (v3 + (5 : Int32)) (mgs (mgs (mgs hM [9, 10, 11, 12, 13, 14] o_19.2) [15, 16, 17, 18, 19, 21, 22, 23, 60, 61, 62, 63, 64, 65, 25, 26, 28, 29, 30, 32, 33, 34, 35, 45] mM) [31, 38, 39, 40, 41, 42, 43, 44] o_20.2) hxt
      refine r.iconst (v := (0 : Int32)) (DL_law_2 49 rfl) rfl ?_
      exact absurd (Option.some.inj hxt) (by decide)
    refine xif hxt (fun hc hxt => r.tsIn 323 (DL_law_0 21 rfl) hc hn rfl rfl ?_) (fun _ hxt => ?_)
    · refine r.aload_n 1 (DL_law_2 51 rfl) rfl ?_
      refine r.aload_n 0 (DL_law_2 52 rfl) rfl ?_
      refine r.iload_n 3 (DL_law_2 53 rfl) rfl ?_
      refine r.iconst (v := (1 : Int32)) (DL_law_2 54 rfl) rfl ?_
      refine r.iadd (DL_law_2 55 rfl) ?_
      obtain ⟨hin, hxt⟩ := xgd_some hxt
      refine hsld hin (DL_law_2 56 rfl) ?_
      refine r.aload_n 0 (DL_law_2 57 rfl) rfl ?_
      refine r.iload_n 3 (DL_law_2 58 rfl) rfl ?_
      refine r.iconst (v := (2 : Int32)) (DL_law_2 59 rfl) rfl ?_
      refine r.iadd (DL_law_3 0 rfl) ?_
      obtain ⟨hin, hxt⟩ := xgd_some hxt
      refine hsld hin (DL_law_3 1 rfl) ?_
      refine r.aload_n 0 (DL_law_3 2 rfl) rfl ?_
      refine r.iload_n 3 (DL_law_3 3 rfl) rfl ?_
      refine r.iconst (v := (3 : Int32)) (DL_law_3 4 rfl) rfl ?_
      refine r.iadd (DL_law_3 5 rfl) ?_
      obtain ⟨hin, hxt⟩ := xgd_some hxt
      refine hsld hin (DL_law_3 6 rfl) ?_
      refine r.aload_n 0 (DL_law_3 7 rfl) rfl ?_
      refine r.iload_n 3 (DL_law_3 8 rfl) rfl ?_
      refine r.iconst (v := (4 : Int32)) (DL_law_3 9 rfl) rfl ?_
      refine r.iadd (DL_law_3 10 rfl) ?_
      obtain ⟨hin, hxt⟩ := xgd_some hxt
      refine hsld hin (DL_law_3 11 rfl) ?_
      obtain ⟨o_21, ho_21, hxt⟩ := xbd hxt
      refine r.callVI 0 rfl rfl (t_X8_distance E a (xs (v3 + (1 : Int32)).toNatClampNeg) (xs (v3 + (2 : Int32)).toNatClampNeg) (xs (v3 + (3 : Int32)).toNatClampNeg) (xs (v3 + (4 : Int32)).toNatClampNeg) (mgs hM [9, 10, 11, 12, 21] mM) ho_21) g_L_45 rfl (DL_law_3 12 rfl) rfl ⟨(Nat.le_of_ble_eq_true rfl), (Nat.le_of_ble_eq_true rfl)⟩ ⟨(Nat.le_of_ble_eq_true rfl), (Nat.le_of_ble_eq_true rfl)⟩ (Nat.le_of_ble_eq_true rfl) [0, 1, 2, 3, 4, 5, 6, 7, 9, 10, 11, 12, 21] [8, 13, 14, 15, 16, 17, 18, 19, 20, 22, 23, 24, 25, 26, 27, 28, 29, 30, 31, 32, 33, 34, 35, 36, 37, 38, 39, 40, 41, 42, 43, 44, 45, 46, 47, 48, 49, 50, 51] rfl rfl rfl rfl (by decide) [39, 40, 41, 42, 43, 44, 45, 46, 0, 47, 48, 49, 50, 1, 2, 3, 4, 5, 6, 7, 8, 51, 9, 10, 11, 12, 13, 14, 15, 16, 17, 18, 19, 20, 21, 22, 23, 24, 25, 26, 27, 28, 29, 30, 31, 32, 33, 34, 35, 36, 37, 38] rfl (ws2 := fun _ => [(a 0, oX8 a), (a 1, oX3 a), (a 2, aI E 16 (hM 2)), (a 3, aI E 16 (hM 3)), (a 4, aI E 256 (hM 4)), (a 5, aI E 128 (hM 5)), (a 6, aI E 128 (hM 6)), (a 7, aI E 128 (hM 7)), (a 8, aI E 128 (hM 8)), (a 9, oX0 a (o_21.2 9)), (a 10, aI E 4096 (o_21.2 10)), (a 11, aI E 120 (o_21.2 11)), (a 12, aI E 120 (o_21.2 12)), (a 13, oX1 a (mM 13)), (a 14, aI E 8 (mM 14)), (a 15, oX7 a (mM 15)), (a 16, aI E 11 (mM 16)), (a 17, aI E 4096 (mM 17)), (a 18, aI E 6272 (mM 18)), (a 19, aI E 98 (mM 19)), (a 20, oX2 a), (a 21, oX6 (mM 21)), (a 22, oX6 (mM 22)), (a 23, oX4 a (mM 23)), (a 24, .inl (xO E, 6, .inr (.inr (.inr (.inr (xhf ha)))))), (ha 0, oX6 (mM 60)), (ha 1, oX6 (mM 61)), (ha 2, oX6 (mM 62)), (ha 3, oX6 (mM 63)), (ha 4, oX6 (mM 64)), (ha 5, oX6 (mM 65)), (a 25, oX5 a (mM 25)), (a 26, aC E 24 (mM 26)), (a 27, .inl (xO E, 2, .inr (.inr (.inr (.inr (xsl a)))))), (a 28, oX6 (mM 28)), (a 29, oX6 (mM 29)), (a 30, aZ E 2 (mM 30)), (a 31, oX9 a (mM 31)), (a 32, aI E 8 (mM 32)), (a 33, aI E 48 (mM 33)), (a 34, aI E 16 (mM 34)), (a 35, aZ E 2 (mM 35)), (a 36, aI E 120 (hM 36)), (a 37, aI E 120 (hM 37)), (a 38, aI E 4096 (mM 38)), (a 39, aI E 4096 (mM 39)), (a 40, aI E 4096 (mM 40)), (a 41, aI E 128 (mM 41)), (a 42, aI E 98 (mM 42)), (a 43, aI E 202 (mM 43)), (a 44, aI E 4 (mM 44)), (a 45, aI E 24 (mM 45))]) (fun _ => rfl) (fun _ => ?_)
      refine r.aload_n 2 (DL_law_3 13 rfl) rfl ?_
      refine r.aload_n 0 (DL_law_3 14 rfl) rfl ?_
      refine r.iload_n 3 (DL_law_3 15 rfl) rfl ?_
      refine r.iconst (v := (1 : Int32)) (DL_law_3 16 rfl) rfl ?_
      refine r.iadd (DL_law_3 17 rfl) ?_
      obtain ⟨hin, hxt⟩ := xgd_some hxt
      refine hsld hin (DL_law_3 18 rfl) ?_
      refine r.aload_n 0 (DL_law_3 19 rfl) rfl ?_
      refine r.iload_n 3 (DL_law_3 20 rfl) rfl ?_
      refine r.iconst (v := (2 : Int32)) (DL_law_3 21 rfl) rfl ?_
      refine r.iadd (DL_law_3 22 rfl) ?_
      obtain ⟨hin, hxt⟩ := xgd_some hxt
      refine hsld hin (DL_law_3 23 rfl) ?_
      refine r.aload_n 0 (DL_law_3 24 rfl) rfl ?_
      refine r.iload_n 3 (DL_law_3 25 rfl) rfl ?_
      refine r.iconst (v := (3 : Int32)) (DL_law_3 26 rfl) rfl ?_
      refine r.iadd (DL_law_3 27 rfl) ?_
      obtain ⟨hin, hxt⟩ := xgd_some hxt
      refine hsld hin (DL_law_3 28 rfl) ?_
      refine r.aload_n 0 (DL_law_3 29 rfl) rfl ?_
      refine r.iload_n 3 (DL_law_3 30 rfl) rfl ?_
      refine r.iconst (v := (4 : Int32)) (DL_law_3 31 rfl) rfl ?_
      refine r.iadd (DL_law_3 32 rfl) ?_
      obtain ⟨hin, hxt⟩ := xgd_some hxt
      refine hsld hin (DL_law_3 33 rfl) ?_
      obtain ⟨o_22, ho_22, hxt⟩ := xbd hxt
      refine r.callVI 0 rfl rfl (t_X9_distance E a (xs (v3 + (1 : Int32)).toNatClampNeg) (xs (v3 + (2 : Int32)).toNatClampNeg) (xs (v3 + (3 : Int32)).toNatClampNeg) (xs (v3 + (4 : Int32)).toNatClampNeg) (mgs hM [31, 32, 38, 39, 40, 41, 42, 43, 44] mM) ho_22) g_L_48 rfl (DL_law_3 34 rfl) rfl ⟨(Nat.le_of_ble_eq_true rfl), (Nat.le_of_ble_eq_true rfl)⟩ ⟨(Nat.le_of_ble_eq_true rfl), (Nat.le_of_ble_eq_true rfl)⟩ (Nat.le_of_ble_eq_true rfl) [37, 38, 42, 43, 44, 45, 46, 47, 48, 49, 50] [0, 1, 2, 3, 4, 5, 6, 7, 8, 9, 10, 11, 12, 13, 14, 15, 16, 17, 18, 19, 20, 21, 22, 23, 24, 25, 26, 27, 28, 29, 30, 31, 32, 33, 34, 35, 36, 39, 40, 41, 51] rfl rfl rfl rfl (by decide) [0, 1, 2, 3, 4, 5, 6, 7, 8, 9, 10, 11, 12, 13, 14, 15, 16, 17, 18, 19, 20, 21, 22, 23, 24, 25, 26, 27, 28, 29, 30, 31, 32, 33, 34, 35, 36, 41, 42, 37, 38, 39, 43, 44, 45, 46, 47, 48, 49, 50, 51, 40] rfl (ws2 := fun _ => [(a 0, oX8 a), (a 1, oX3 a), (a 2, aI E 16 (hM 2)), (a 3, aI E 16 (hM 3)), (a 4, aI E 256 (hM 4)), (a 5, aI E 128 (hM 5)), (a 6, aI E 128 (hM 6)), (a 7, aI E 128 (hM 7)), (a 8, aI E 128 (hM 8)), (a 9, oX0 a (o_21.2 9)), (a 10, aI E 4096 (o_21.2 10)), (a 11, aI E 120 (o_21.2 11)), (a 12, aI E 120 (o_21.2 12)), (a 13, oX1 a (mM 13)), (a 14, aI E 8 (mM 14)), (a 15, oX7 a (mM 15)), (a 16, aI E 11 (mM 16)), (a 17, aI E 4096 (mM 17)), (a 18, aI E 6272 (mM 18)), (a 19, aI E 98 (mM 19)), (a 20, oX2 a), (a 21, oX6 (mM 21)), (a 22, oX6 (mM 22)), (a 23, oX4 a (mM 23)), (a 24, .inl (xO E, 6, .inr (.inr (.inr (.inr (xhf ha)))))), (ha 0, oX6 (mM 60)), (ha 1, oX6 (mM 61)), (ha 2, oX6 (mM 62)), (ha 3, oX6 (mM 63)), (ha 4, oX6 (mM 64)), (ha 5, oX6 (mM 65)), (a 25, oX5 a (mM 25)), (a 26, aC E 24 (mM 26)), (a 27, .inl (xO E, 2, .inr (.inr (.inr (.inr (xsl a)))))), (a 28, oX6 (mM 28)), (a 29, oX6 (mM 29)), (a 30, aZ E 2 (mM 30)), (a 31, oX9 a (o_22.2 31)), (a 32, aI E 8 (mM 32)), (a 33, aI E 48 (mM 33)), (a 34, aI E 16 (mM 34)), (a 35, aZ E 2 (mM 35)), (a 36, aI E 120 (hM 36)), (a 37, aI E 120 (hM 37)), (a 38, aI E 4096 (o_22.2 38)), (a 39, aI E 4096 (o_22.2 39)), (a 40, aI E 4096 (o_22.2 40)), (a 41, aI E 128 (o_22.2 41)), (a 42, aI E 98 (o_22.2 42)), (a 43, aI E 202 (o_22.2 43)), (a 44, aI E 4 (o_22.2 44)), (a 45, aI E 24 (mM 45))]) (fun _ => rfl) (fun _ => ?_)
      refine r.icmp_eq 745 (DL_law_3 35 rfl) rfl hxt (fun _ hxt => ?_) (fun _ hxt => ?_)
      · refine r.iinc (v := (v3 + (5 : Int32))) (lo' := [(3, .int (v3 + (5 : Int32))), (0, .ref b), (1, .ref (a 0)), (2, .ref (a 31))]) 3 (DL_law_8 23 rfl) rfl rfl (Nat.le_of_ble_eq_true rfl) rfl ?_
        refine r.goto 18 (DL_law_8 24 rfl) rfl ?_
        refine r.rel (lo' := [(0, .ref b), (1, .ref (a 0)), (2, .ref (a 31)), (3, .int (v3 + (5 : Int32)))]) [1, 2, 3, 0] rfl ?_
        exact ih ha (v3 + (5 : Int32)) (mgs (mgs (mgs hM [9, 10, 11, 12] o_21.2) [13, 14, 15, 16, 17, 18, 19, 21, 22, 23, 60, 61, 62, 63, 64, 65, 25, 26, 28, 29, 30, 32, 33, 34, 35, 45] mM) [31, 38, 39, 40, 41, 42, 43, 44] o_22.2) hxt
      refine r.iconst (v := (0 : Int32)) (DL_law_3 36 rfl) rfl ?_
      exact absurd (Option.some.inj hxt) (by decide)
    refine xif hxt (fun hc hxt => r.tsIn 376 (DL_law_0 21 rfl) hc hn rfl rfl ?_) (fun _ hxt => ?_)
    · refine r.aload_n 1 (DL_law_3 38 rfl) rfl ?_
      refine r.aload_n 0 (DL_law_3 39 rfl) rfl ?_
      refine r.iload_n 3 (DL_law_3 40 rfl) rfl ?_
      refine r.iconst (v := (1 : Int32)) (DL_law_3 41 rfl) rfl ?_
      refine r.iadd (DL_law_3 42 rfl) ?_
      obtain ⟨hin, hxt⟩ := xgd_some hxt
      refine hsld hin (DL_law_3 43 rfl) ?_
      refine r.aload_n 0 (DL_law_3 44 rfl) rfl ?_
      refine r.iload_n 3 (DL_law_3 45 rfl) rfl ?_
      refine r.iconst (v := (2 : Int32)) (DL_law_3 46 rfl) rfl ?_
      refine r.iadd (DL_law_3 47 rfl) ?_
      obtain ⟨hin, hxt⟩ := xgd_some hxt
      refine hsld hin (DL_law_3 48 rfl) ?_
      refine r.aload_n 0 (DL_law_3 49 rfl) rfl ?_
      refine r.iload_n 3 (DL_law_3 50 rfl) rfl ?_
      refine r.iconst (v := (3 : Int32)) (DL_law_3 51 rfl) rfl ?_
      refine r.iadd (DL_law_3 52 rfl) ?_
      obtain ⟨hin, hxt⟩ := xgd_some hxt
      refine hsld hin (DL_law_3 53 rfl) ?_
      refine r.aload_n 0 (DL_law_3 54 rfl) rfl ?_
      refine r.iload_n 3 (DL_law_3 55 rfl) rfl ?_
      refine r.iconst (v := (4 : Int32)) (DL_law_3 56 rfl) rfl ?_
      refine r.iadd (DL_law_3 57 rfl) ?_
      obtain ⟨hin, hxt⟩ := xgd_some hxt
      refine hsld hin (DL_law_3 58 rfl) ?_
      obtain ⟨o_23, ho_23, hxt⟩ := xbd hxt
      refine r.callVI 0 rfl rfl (t_X8_number E a (xs (v3 + (1 : Int32)).toNatClampNeg) (xs (v3 + (2 : Int32)).toNatClampNeg) (xs (v3 + (3 : Int32)).toNatClampNeg) (xs (v3 + (4 : Int32)).toNatClampNeg) (mgs hM [21] mM) ho_23) g_L_49 rfl (DL_law_3 59 rfl) rfl ⟨(Nat.le_of_ble_eq_true rfl), (Nat.le_of_ble_eq_true rfl)⟩ ⟨(Nat.le_of_ble_eq_true rfl), (Nat.le_of_ble_eq_true rfl)⟩ (Nat.le_of_ble_eq_true rfl) [0, 1, 4, 21] [2, 3, 5, 6, 7, 8, 9, 10, 11, 12, 13, 14, 15, 16, 17, 18, 19, 20, 22, 23, 24, 25, 26, 27, 28, 29, 30, 31, 32, 33, 34, 35, 36, 37, 38, 39, 40, 41, 42, 43, 44, 45, 46, 47, 48, 49, 50, 51] rfl rfl rfl rfl (by decide) [48, 49, 0, 1, 50, 2, 3, 4, 5, 6, 7, 8, 9, 10, 11, 12, 13, 14, 15, 16, 17, 51, 18, 19, 20, 21, 22, 23, 24, 25, 26, 27, 28, 29, 30, 31, 32, 33, 34, 35, 36, 37, 38, 39, 40, 41, 42, 43, 44, 45, 46, 47] rfl (ws2 := fun _ => [(a 0, oX8 a), (a 1, oX3 a), (a 2, aI E 16 (hM 2)), (a 3, aI E 16 (hM 3)), (a 4, aI E 256 (hM 4)), (a 5, aI E 128 (hM 5)), (a 6, aI E 128 (hM 6)), (a 7, aI E 128 (hM 7)), (a 8, aI E 128 (hM 8)), (a 9, oX0 a (mM 9)), (a 10, aI E 4096 (mM 10)), (a 11, aI E 120 (mM 11)), (a 12, aI E 120 (mM 12)), (a 13, oX1 a (mM 13)), (a 14, aI E 8 (mM 14)), (a 15, oX7 a (mM 15)), (a 16, aI E 11 (mM 16)), (a 17, aI E 4096 (mM 17)), (a 18, aI E 6272 (mM 18)), (a 19, aI E 98 (mM 19)), (a 20, oX2 a), (a 21, oX6 (mM 21)), (a 22, oX6 (mM 22)), (a 23, oX4 a (mM 23)), (a 24, .inl (xO E, 6, .inr (.inr (.inr (.inr (xhf ha)))))), (ha 0, oX6 (mM 60)), (ha 1, oX6 (mM 61)), (ha 2, oX6 (mM 62)), (ha 3, oX6 (mM 63)), (ha 4, oX6 (mM 64)), (ha 5, oX6 (mM 65)), (a 25, oX5 a (mM 25)), (a 26, aC E 24 (mM 26)), (a 27, .inl (xO E, 2, .inr (.inr (.inr (.inr (xsl a)))))), (a 28, oX6 (mM 28)), (a 29, oX6 (mM 29)), (a 30, aZ E 2 (mM 30)), (a 31, oX9 a (mM 31)), (a 32, aI E 8 (mM 32)), (a 33, aI E 48 (mM 33)), (a 34, aI E 16 (mM 34)), (a 35, aZ E 2 (mM 35)), (a 36, aI E 120 (hM 36)), (a 37, aI E 120 (hM 37)), (a 38, aI E 4096 (mM 38)), (a 39, aI E 4096 (mM 39)), (a 40, aI E 4096 (mM 40)), (a 41, aI E 128 (mM 41)), (a 42, aI E 98 (mM 42)), (a 43, aI E 202 (mM 43)), (a 44, aI E 4 (mM 44)), (a 45, aI E 24 (mM 45))]) (fun _ => rfl) (fun _ => ?_)
      refine r.aload_n 2 (DL_law_4 0 rfl) rfl ?_
      refine r.aload_n 0 (DL_law_4 1 rfl) rfl ?_
      refine r.iload_n 3 (DL_law_4 2 rfl) rfl ?_
      refine r.iconst (v := (1 : Int32)) (DL_law_4 3 rfl) rfl ?_
      refine r.iadd (DL_law_4 4 rfl) ?_
      obtain ⟨hin, hxt⟩ := xgd_some hxt
      refine hsld hin (DL_law_4 5 rfl) ?_
      refine r.aload_n 0 (DL_law_4 6 rfl) rfl ?_
      refine r.iload_n 3 (DL_law_4 7 rfl) rfl ?_
      refine r.iconst (v := (2 : Int32)) (DL_law_4 8 rfl) rfl ?_
      refine r.iadd (DL_law_4 9 rfl) ?_
      obtain ⟨hin, hxt⟩ := xgd_some hxt
      refine hsld hin (DL_law_4 10 rfl) ?_
      refine r.aload_n 0 (DL_law_4 11 rfl) rfl ?_
      refine r.iload_n 3 (DL_law_4 12 rfl) rfl ?_
      refine r.iconst (v := (3 : Int32)) (DL_law_4 13 rfl) rfl ?_
      refine r.iadd (DL_law_4 14 rfl) ?_
      obtain ⟨hin, hxt⟩ := xgd_some hxt
      refine hsld hin (DL_law_4 15 rfl) ?_
      refine r.aload_n 0 (DL_law_4 16 rfl) rfl ?_
      refine r.iload_n 3 (DL_law_4 17 rfl) rfl ?_
      refine r.iconst (v := (4 : Int32)) (DL_law_4 18 rfl) rfl ?_
      refine r.iadd (DL_law_4 19 rfl) ?_
      obtain ⟨hin, hxt⟩ := xgd_some hxt
      refine hsld hin (DL_law_4 20 rfl) ?_
      obtain ⟨o_24, ho_24, hxt⟩ := xbd hxt
      refine r.callVI 0 rfl rfl (t_X9_number E a (xs (v3 + (1 : Int32)).toNatClampNeg) (xs (v3 + (2 : Int32)).toNatClampNeg) (xs (v3 + (3 : Int32)).toNatClampNeg) (xs (v3 + (4 : Int32)).toNatClampNeg) (mgs hM [31, 32] mM) ho_24) g_L_52 rfl (DL_law_4 21 rfl) rfl ⟨(Nat.le_of_ble_eq_true rfl), (Nat.le_of_ble_eq_true rfl)⟩ ⟨(Nat.le_of_ble_eq_true rfl), (Nat.le_of_ble_eq_true rfl)⟩ (Nat.le_of_ble_eq_true rfl) [37, 38] [0, 1, 2, 3, 4, 5, 6, 7, 8, 9, 10, 11, 12, 13, 14, 15, 16, 17, 18, 19, 20, 21, 22, 23, 24, 25, 26, 27, 28, 29, 30, 31, 32, 33, 34, 35, 36, 39, 40, 41, 42, 43, 44, 45, 46, 47, 48, 49, 50, 51] rfl rfl rfl rfl (by decide) [0, 1, 2, 3, 4, 5, 6, 7, 8, 9, 10, 11, 12, 13, 14, 15, 16, 17, 18, 19, 20, 21, 22, 23, 24, 25, 26, 27, 28, 29, 30, 31, 32, 33, 34, 35, 36, 50, 51, 37, 38, 39, 40, 41, 42, 43, 44, 45, 46, 47, 48, 49] rfl (ws2 := fun _ => [(a 0, oX8 a), (a 1, oX3 a), (a 2, aI E 16 (hM 2)), (a 3, aI E 16 (hM 3)), (a 4, aI E 256 (hM 4)), (a 5, aI E 128 (hM 5)), (a 6, aI E 128 (hM 6)), (a 7, aI E 128 (hM 7)), (a 8, aI E 128 (hM 8)), (a 9, oX0 a (mM 9)), (a 10, aI E 4096 (mM 10)), (a 11, aI E 120 (mM 11)), (a 12, aI E 120 (mM 12)), (a 13, oX1 a (mM 13)), (a 14, aI E 8 (mM 14)), (a 15, oX7 a (mM 15)), (a 16, aI E 11 (mM 16)), (a 17, aI E 4096 (mM 17)), (a 18, aI E 6272 (mM 18)), (a 19, aI E 98 (mM 19)), (a 20, oX2 a), (a 21, oX6 (mM 21)), (a 22, oX6 (mM 22)), (a 23, oX4 a (mM 23)), (a 24, .inl (xO E, 6, .inr (.inr (.inr (.inr (xhf ha)))))), (ha 0, oX6 (mM 60)), (ha 1, oX6 (mM 61)), (ha 2, oX6 (mM 62)), (ha 3, oX6 (mM 63)), (ha 4, oX6 (mM 64)), (ha 5, oX6 (mM 65)), (a 25, oX5 a (mM 25)), (a 26, aC E 24 (mM 26)), (a 27, .inl (xO E, 2, .inr (.inr (.inr (.inr (xsl a)))))), (a 28, oX6 (mM 28)), (a 29, oX6 (mM 29)), (a 30, aZ E 2 (mM 30)), (a 31, oX9 a (mM 31)), (a 32, aI E 8 (mM 32)), (a 33, aI E 48 (mM 33)), (a 34, aI E 16 (mM 34)), (a 35, aZ E 2 (mM 35)), (a 36, aI E 120 (hM 36)), (a 37, aI E 120 (hM 37)), (a 38, aI E 4096 (mM 38)), (a 39, aI E 4096 (mM 39)), (a 40, aI E 4096 (mM 40)), (a 41, aI E 128 (mM 41)), (a 42, aI E 98 (mM 42)), (a 43, aI E 202 (mM 43)), (a 44, aI E 4 (mM 44)), (a 45, aI E 24 (mM 45))]) (fun _ => rfl) (fun _ => ?_)
      refine r.icmp_eq 745 (DL_law_4 22 rfl) rfl hxt (fun _ hxt => ?_) (fun _ hxt => ?_)
      · refine r.iinc (v := (v3 + (5 : Int32))) (lo' := [(3, .int (v3 + (5 : Int32))), (0, .ref b), (1, .ref (a 0)), (2, .ref (a 31))]) 3 (DL_law_8 23 rfl) rfl rfl (Nat.le_of_ble_eq_true rfl) rfl ?_
        refine r.goto 18 (DL_law_8 24 rfl) rfl ?_
        refine r.rel (lo' := [(0, .ref b), (1, .ref (a 0)), (2, .ref (a 31)), (3, .int (v3 + (5 : Int32)))]) [1, 2, 3, 0] rfl ?_
        exact ih ha (v3 + (5 : Int32)) (mgs hM [9, 10, 11, 12, 13, 14, 15, 16, 17, 18, 19, 21, 22, 23, 60, 61, 62, 63, 64, 65, 25, 26, 28, 29, 30, 31, 32, 33, 34, 35, 38, 39, 40, 41, 42, 43, 44, 45] mM) hxt
      refine r.iconst (v := (0 : Int32)) (DL_law_4 23 rfl) rfl ?_
      exact absurd (Option.some.inj hxt) (by decide)
    refine xif hxt (fun hc hxt => r.tsIn 429 (DL_law_0 21 rfl) hc hn rfl rfl ?_) (fun _ hxt => ?_)
    · refine r.aload_n 1 (DL_law_4 25 rfl) rfl ?_
      refine r.aload_n 0 (DL_law_4 26 rfl) rfl ?_
      refine r.iload_n 3 (DL_law_4 27 rfl) rfl ?_
      refine r.iconst (v := (1 : Int32)) (DL_law_4 28 rfl) rfl ?_
      refine r.iadd (DL_law_4 29 rfl) ?_
      obtain ⟨hin, hxt⟩ := xgd_some hxt
      refine hsld hin (DL_law_4 30 rfl) ?_
      refine r.aload_n 0 (DL_law_4 31 rfl) rfl ?_
      refine r.iload_n 3 (DL_law_4 32 rfl) rfl ?_
      refine r.iconst (v := (2 : Int32)) (DL_law_4 33 rfl) rfl ?_
      refine r.iadd (DL_law_4 34 rfl) ?_
      obtain ⟨hin, hxt⟩ := xgd_some hxt
      refine hsld hin (DL_law_4 35 rfl) ?_
      refine r.aload_n 0 (DL_law_4 36 rfl) rfl ?_
      refine r.iload_n 3 (DL_law_4 37 rfl) rfl ?_
      refine r.iconst (v := (3 : Int32)) (DL_law_4 38 rfl) rfl ?_
      refine r.iadd (DL_law_4 39 rfl) ?_
      obtain ⟨hin, hxt⟩ := xgd_some hxt
      refine hsld hin (DL_law_4 40 rfl) ?_
      refine r.aload_n 0 (DL_law_4 41 rfl) rfl ?_
      refine r.iload_n 3 (DL_law_4 42 rfl) rfl ?_
      refine r.iconst (v := (4 : Int32)) (DL_law_4 43 rfl) rfl ?_
      refine r.iadd (DL_law_4 44 rfl) ?_
      obtain ⟨hin, hxt⟩ := xgd_some hxt
      refine hsld hin (DL_law_4 45 rfl) ?_
      obtain ⟨o_25, ho_25, hxt⟩ := xbd hxt
      refine r.callVI 0 rfl rfl (t_X8_folded E a (xs (v3 + (1 : Int32)).toNatClampNeg) (xs (v3 + (2 : Int32)).toNatClampNeg) (xs (v3 + (3 : Int32)).toNatClampNeg) (xs (v3 + (4 : Int32)).toNatClampNeg) (mgs hM [13, 14, 21] mM) ho_25) g_L_53 rfl (DL_law_4 46 rfl) rfl ⟨(Nat.le_of_ble_eq_true rfl), (Nat.le_of_ble_eq_true rfl)⟩ ⟨(Nat.le_of_ble_eq_true rfl), (Nat.le_of_ble_eq_true rfl)⟩ (Nat.le_of_ble_eq_true rfl) [0, 1, 4, 5, 6, 8, 13, 14, 21] [2, 3, 7, 9, 10, 11, 12, 15, 16, 17, 18, 19, 20, 22, 23, 24, 25, 26, 27, 28, 29, 30, 31, 32, 33, 34, 35, 36, 37, 38, 39, 40, 41, 42, 43, 44, 45, 46, 47, 48, 49, 50, 51] rfl rfl rfl rfl (by decide) [43, 44, 0, 1, 45, 46, 47, 2, 48, 3, 4, 5, 6, 49, 50, 7, 8, 9, 10, 11, 12, 51, 13, 14, 15, 16, 17, 18, 19, 20, 21, 22, 23, 24, 25, 26, 27, 28, 29, 30, 31, 32, 33, 34, 35, 36, 37, 38, 39, 40, 41, 42] rfl (ws2 := fun _ => [(a 0, oX8 a), (a 1, oX3 a), (a 2, aI E 16 (hM 2)), (a 3, aI E 16 (hM 3)), (a 4, aI E 256 (hM 4)), (a 5, aI E 128 (hM 5)), (a 6, aI E 128 (hM 6)), (a 7, aI E 128 (hM 7)), (a 8, aI E 128 (hM 8)), (a 9, oX0 a (mM 9)), (a 10, aI E 4096 (mM 10)), (a 11, aI E 120 (mM 11)), (a 12, aI E 120 (mM 12)), (a 13, oX1 a (o_25.2 13)), (a 14, aI E 8 (o_25.2 14)), (a 15, oX7 a (mM 15)), (a 16, aI E 11 (mM 16)), (a 17, aI E 4096 (mM 17)), (a 18, aI E 6272 (mM 18)), (a 19, aI E 98 (mM 19)), (a 20, oX2 a), (a 21, oX6 (mM 21)), (a 22, oX6 (mM 22)), (a 23, oX4 a (mM 23)), (a 24, .inl (xO E, 6, .inr (.inr (.inr (.inr (xhf ha)))))), (ha 0, oX6 (mM 60)), (ha 1, oX6 (mM 61)), (ha 2, oX6 (mM 62)), (ha 3, oX6 (mM 63)), (ha 4, oX6 (mM 64)), (ha 5, oX6 (mM 65)), (a 25, oX5 a (mM 25)), (a 26, aC E 24 (mM 26)), (a 27, .inl (xO E, 2, .inr (.inr (.inr (.inr (xsl a)))))), (a 28, oX6 (mM 28)), (a 29, oX6 (mM 29)), (a 30, aZ E 2 (mM 30)), (a 31, oX9 a (mM 31)), (a 32, aI E 8 (mM 32)), (a 33, aI E 48 (mM 33)), (a 34, aI E 16 (mM 34)), (a 35, aZ E 2 (mM 35)), (a 36, aI E 120 (hM 36)), (a 37, aI E 120 (hM 37)), (a 38, aI E 4096 (mM 38)), (a 39, aI E 4096 (mM 39)), (a 40, aI E 4096 (mM 40)), (a 41, aI E 128 (mM 41)), (a 42, aI E 98 (mM 42)), (a 43, aI E 202 (mM 43)), (a 44, aI E 4 (mM 44)), (a 45, aI E 24 (mM 45))]) (fun _ => rfl) (fun _ => ?_)
      refine r.aload_n 2 (DL_law_4 47 rfl) rfl ?_
      refine r.aload_n 0 (DL_law_4 48 rfl) rfl ?_
      refine r.iload_n 3 (DL_law_4 49 rfl) rfl ?_
      refine r.iconst (v := (1 : Int32)) (DL_law_4 50 rfl) rfl ?_
      refine r.iadd (DL_law_4 51 rfl) ?_
      obtain ⟨hin, hxt⟩ := xgd_some hxt
      refine hsld hin (DL_law_4 52 rfl) ?_
      refine r.aload_n 0 (DL_law_4 53 rfl) rfl ?_
      refine r.iload_n 3 (DL_law_4 54 rfl) rfl ?_
      refine r.iconst (v := (2 : Int32)) (DL_law_4 55 rfl) rfl ?_
      refine r.iadd (DL_law_4 56 rfl) ?_
      obtain ⟨hin, hxt⟩ := xgd_some hxt
      refine hsld hin (DL_law_4 57 rfl) ?_
      refine r.aload_n 0 (DL_law_4 58 rfl) rfl ?_
      refine r.iload_n 3 (DL_law_4 59 rfl) rfl ?_
      refine r.iconst (v := (3 : Int32)) (DL_law_5 0 rfl) rfl ?_
      refine r.iadd (DL_law_5 1 rfl) ?_
      obtain ⟨hin, hxt⟩ := xgd_some hxt
      refine hsld hin (DL_law_5 2 rfl) ?_
      refine r.aload_n 0 (DL_law_5 3 rfl) rfl ?_
      refine r.iload_n 3 (DL_law_5 4 rfl) rfl ?_
      refine r.iconst (v := (4 : Int32)) (DL_law_5 5 rfl) rfl ?_
      refine r.iadd (DL_law_5 6 rfl) ?_
      obtain ⟨hin, hxt⟩ := xgd_some hxt
      refine hsld hin (DL_law_5 7 rfl) ?_
      obtain ⟨o_26, ho_26, hxt⟩ := xbd hxt
      refine r.callVI 0 rfl rfl (t_X9_folded E a (xs (v3 + (1 : Int32)).toNatClampNeg) (xs (v3 + (2 : Int32)).toNatClampNeg) (xs (v3 + (3 : Int32)).toNatClampNeg) (xs (v3 + (4 : Int32)).toNatClampNeg) (mgs hM [31, 32, 38, 39, 40, 41, 42, 43, 44] mM) ho_26) g_L_56 rfl (DL_law_5 8 rfl) rfl ⟨(Nat.le_of_ble_eq_true rfl), (Nat.le_of_ble_eq_true rfl)⟩ ⟨(Nat.le_of_ble_eq_true rfl), (Nat.le_of_ble_eq_true rfl)⟩ (Nat.le_of_ble_eq_true rfl) [37, 38, 42, 43, 44, 45, 46, 47, 48, 49, 50] [0, 1, 2, 3, 4, 5, 6, 7, 8, 9, 10, 11, 12, 13, 14, 15, 16, 17, 18, 19, 20, 21, 22, 23, 24, 25, 26, 27, 28, 29, 30, 31, 32, 33, 34, 35, 36, 39, 40, 41, 51] rfl rfl rfl rfl (by decide) [0, 1, 2, 3, 4, 5, 6, 7, 8, 9, 10, 11, 12, 13, 14, 15, 16, 17, 18, 19, 20, 21, 22, 23, 24, 25, 26, 27, 28, 29, 30, 31, 32, 33, 34, 35, 36, 41, 42, 37, 38, 39, 43, 44, 45, 46, 47, 48, 49, 50, 51, 40] rfl (ws2 := fun _ => [(a 0, oX8 a), (a 1, oX3 a), (a 2, aI E 16 (hM 2)), (a 3, aI E 16 (hM 3)), (a 4, aI E 256 (hM 4)), (a 5, aI E 128 (hM 5)), (a 6, aI E 128 (hM 6)), (a 7, aI E 128 (hM 7)), (a 8, aI E 128 (hM 8)), (a 9, oX0 a (mM 9)), (a 10, aI E 4096 (mM 10)), (a 11, aI E 120 (mM 11)), (a 12, aI E 120 (mM 12)), (a 13, oX1 a (o_25.2 13)), (a 14, aI E 8 (o_25.2 14)), (a 15, oX7 a (mM 15)), (a 16, aI E 11 (mM 16)), (a 17, aI E 4096 (mM 17)), (a 18, aI E 6272 (mM 18)), (a 19, aI E 98 (mM 19)), (a 20, oX2 a), (a 21, oX6 (mM 21)), (a 22, oX6 (mM 22)), (a 23, oX4 a (mM 23)), (a 24, .inl (xO E, 6, .inr (.inr (.inr (.inr (xhf ha)))))), (ha 0, oX6 (mM 60)), (ha 1, oX6 (mM 61)), (ha 2, oX6 (mM 62)), (ha 3, oX6 (mM 63)), (ha 4, oX6 (mM 64)), (ha 5, oX6 (mM 65)), (a 25, oX5 a (mM 25)), (a 26, aC E 24 (mM 26)), (a 27, .inl (xO E, 2, .inr (.inr (.inr (.inr (xsl a)))))), (a 28, oX6 (mM 28)), (a 29, oX6 (mM 29)), (a 30, aZ E 2 (mM 30)), (a 31, oX9 a (o_26.2 31)), (a 32, aI E 8 (mM 32)), (a 33, aI E 48 (mM 33)), (a 34, aI E 16 (mM 34)), (a 35, aZ E 2 (mM 35)), (a 36, aI E 120 (hM 36)), (a 37, aI E 120 (hM 37)), (a 38, aI E 4096 (o_26.2 38)), (a 39, aI E 4096 (o_26.2 39)), (a 40, aI E 4096 (o_26.2 40)), (a 41, aI E 128 (o_26.2 41)), (a 42, aI E 98 (o_26.2 42)), (a 43, aI E 202 (o_26.2 43)), (a 44, aI E 4 (o_26.2 44)), (a 45, aI E 24 (mM 45))]) (fun _ => rfl) (fun _ => ?_)
      refine r.icmp_eq 745 (DL_law_5 9 rfl) rfl hxt (fun _ hxt => ?_) (fun _ hxt => ?_)
      · refine r.iinc (v := (v3 + (5 : Int32))) (lo' := [(3, .int (v3 + (5 : Int32))), (0, .ref b), (1, .ref (a 0)), (2, .ref (a 31))]) 3 (DL_law_8 23 rfl) rfl rfl (Nat.le_of_ble_eq_true rfl) rfl ?_
        refine r.goto 18 (DL_law_8 24 rfl) rfl ?_
        refine r.rel (lo' := [(0, .ref b), (1, .ref (a 0)), (2, .ref (a 31)), (3, .int (v3 + (5 : Int32)))]) [1, 2, 3, 0] rfl ?_
        exact ih ha (v3 + (5 : Int32)) (mgs (mgs (mgs hM [9, 10, 11, 12, 15, 16, 17, 18, 19, 21, 22, 23, 60, 61, 62, 63, 64, 65, 25, 26, 28, 29, 30, 32, 33, 34, 35, 45] mM) [13, 14] o_25.2) [31, 38, 39, 40, 41, 42, 43, 44] o_26.2) hxt
      refine r.iconst (v := (0 : Int32)) (DL_law_5 10 rfl) rfl ?_
      exact absurd (Option.some.inj hxt) (by decide)
    refine xif hxt (fun hc hxt => r.tsIn 482 (DL_law_0 21 rfl) hc hn rfl rfl ?_) (fun _ hxt => ?_)
    · refine r.aload_n 1 (DL_law_5 12 rfl) rfl ?_
      refine r.aload_n 0 (DL_law_5 13 rfl) rfl ?_
      refine r.iload_n 3 (DL_law_5 14 rfl) rfl ?_
      refine r.iconst (v := (1 : Int32)) (DL_law_5 15 rfl) rfl ?_
      refine r.iadd (DL_law_5 16 rfl) ?_
      obtain ⟨hin, hxt⟩ := xgd_some hxt
      refine hsld hin (DL_law_5 17 rfl) ?_
      refine r.aload_n 0 (DL_law_5 18 rfl) rfl ?_
      refine r.iload_n 3 (DL_law_5 19 rfl) rfl ?_
      refine r.iconst (v := (2 : Int32)) (DL_law_5 20 rfl) rfl ?_
      refine r.iadd (DL_law_5 21 rfl) ?_
      obtain ⟨hin, hxt⟩ := xgd_some hxt
      refine hsld hin (DL_law_5 22 rfl) ?_
      obtain ⟨o_27, ho_27, hxt⟩ := xbd hxt
      refine r.callVI 0 rfl rfl (t_X8_of E a (xs (v3 + (1 : Int32)).toNatClampNeg) (xs (v3 + (2 : Int32)).toNatClampNeg) (mgs hM [9, 10, 11, 12, 13, 14, 15, 16, 17, 18, 19, 21] mM) ho_27) g_L_57 rfl (DL_law_5 23 rfl) rfl ⟨(Nat.le_of_ble_eq_true rfl), (Nat.le_of_ble_eq_true rfl)⟩ ⟨(Nat.le_of_ble_eq_true rfl), (Nat.le_of_ble_eq_true rfl)⟩ (Nat.le_of_ble_eq_true rfl) [0, 1, 2, 3, 4, 5, 6, 7, 8, 9, 10, 11, 12, 13, 14, 15, 16, 17, 18, 19, 21] [20, 22, 23, 24, 25, 26, 27, 28, 29, 30, 31, 32, 33, 34, 35, 36, 37, 38, 39, 40, 41, 42, 43, 44, 45, 46, 47, 48, 49, 50, 51] rfl rfl rfl rfl (by decide) [31, 32, 33, 34, 35, 36, 37, 38, 39, 40, 41, 42, 43, 44, 45, 46, 47, 48, 49, 50, 0, 51, 1, 2, 3, 4, 5, 6, 7, 8, 9, 10, 11, 12, 13, 14, 15, 16, 17, 18, 19, 20, 21, 22, 23, 24, 25, 26, 27, 28, 29, 30] rfl (ws2 := fun _ => [(a 0, oX8 a), (a 1, oX3 a), (a 2, aI E 16 (hM 2)), (a 3, aI E 16 (hM 3)), (a 4, aI E 256 (hM 4)), (a 5, aI E 128 (hM 5)), (a 6, aI E 128 (hM 6)), (a 7, aI E 128 (hM 7)), (a 8, aI E 128 (hM 8)), (a 9, oX0 a (o_27.2 9)), (a 10, aI E 4096 (o_27.2 10)), (a 11, aI E 120 (o_27.2 11)), (a 12, aI E 120 (o_27.2 12)), (a 13, oX1 a (o_27.2 13)), (a 14, aI E 8 (o_27.2 14)), (a 15, oX7 a (o_27.2 15)), (a 16, aI E 11 (o_27.2 16)), (a 17, aI E 4096 (o_27.2 17)), (a 18, aI E 6272 (o_27.2 18)), (a 19, aI E 98 (o_27.2 19)), (a 20, oX2 a), (a 21, oX6 (mM 21)), (a 22, oX6 (mM 22)), (a 23, oX4 a (mM 23)), (a 24, .inl (xO E, 6, .inr (.inr (.inr (.inr (xhf ha)))))), (ha 0, oX6 (mM 60)), (ha 1, oX6 (mM 61)), (ha 2, oX6 (mM 62)), (ha 3, oX6 (mM 63)), (ha 4, oX6 (mM 64)), (ha 5, oX6 (mM 65)), (a 25, oX5 a (mM 25)), (a 26, aC E 24 (mM 26)), (a 27, .inl (xO E, 2, .inr (.inr (.inr (.inr (xsl a)))))), (a 28, oX6 (mM 28)), (a 29, oX6 (mM 29)), (a 30, aZ E 2 (mM 30)), (a 31, oX9 a (mM 31)), (a 32, aI E 8 (mM 32)), (a 33, aI E 48 (mM 33)), (a 34, aI E 16 (mM 34)), (a 35, aZ E 2 (mM 35)), (a 36, aI E 120 (hM 36)), (a 37, aI E 120 (hM 37)), (a 38, aI E 4096 (mM 38)), (a 39, aI E 4096 (mM 39)), (a 40, aI E 4096 (mM 40)), (a 41, aI E 128 (mM 41)), (a 42, aI E 98 (mM 42)), (a 43, aI E 202 (mM 43)), (a 44, aI E 4 (mM 44)), (a 45, aI E 24 (mM 45))]) (fun _ => rfl) (fun _ => ?_)
      refine r.aload_n 2 (DL_law_5 24 rfl) rfl ?_
      refine r.aload_n 0 (DL_law_5 25 rfl) rfl ?_
      refine r.iload_n 3 (DL_law_5 26 rfl) rfl ?_
      refine r.iconst (v := (1 : Int32)) (DL_law_5 27 rfl) rfl ?_
      refine r.iadd (DL_law_5 28 rfl) ?_
      obtain ⟨hin, hxt⟩ := xgd_some hxt
      refine hsld hin (DL_law_5 29 rfl) ?_
      refine r.aload_n 0 (DL_law_5 30 rfl) rfl ?_
      refine r.iload_n 3 (DL_law_5 31 rfl) rfl ?_
      refine r.iconst (v := (2 : Int32)) (DL_law_5 32 rfl) rfl ?_
      refine r.iadd (DL_law_5 33 rfl) ?_
      obtain ⟨hin, hxt⟩ := xgd_some hxt
      refine hsld hin (DL_law_5 34 rfl) ?_
      obtain ⟨o_28, ho_28, hxt⟩ := xbd hxt
      refine r.callVI 0 rfl rfl (t_X9_of E a (xs (v3 + (1 : Int32)).toNatClampNeg) (xs (v3 + (2 : Int32)).toNatClampNeg) (mgs hM [31, 32, 38, 39, 40, 41, 42, 43, 44] mM) ho_28) g_L_60 rfl (DL_law_5 35 rfl) rfl ⟨(Nat.le_of_ble_eq_true rfl), (Nat.le_of_ble_eq_true rfl)⟩ ⟨(Nat.le_of_ble_eq_true rfl), (Nat.le_of_ble_eq_true rfl)⟩ (Nat.le_of_ble_eq_true rfl) [37, 38, 42, 43, 44, 45, 46, 47, 48, 49, 50] [0, 1, 2, 3, 4, 5, 6, 7, 8, 9, 10, 11, 12, 13, 14, 15, 16, 17, 18, 19, 20, 21, 22, 23, 24, 25, 26, 27, 28, 29, 30, 31, 32, 33, 34, 35, 36, 39, 40, 41, 51] rfl rfl rfl rfl (by decide) [0, 1, 2, 3, 4, 5, 6, 7, 8, 9, 10, 11, 12, 13, 14, 15, 16, 17, 18, 19, 20, 21, 22, 23, 24, 25, 26, 27, 28, 29, 30, 31, 32, 33, 34, 35, 36, 41, 42, 37, 38, 39, 43, 44, 45, 46, 47, 48, 49, 50, 51, 40] rfl (ws2 := fun _ => [(a 0, oX8 a), (a 1, oX3 a), (a 2, aI E 16 (hM 2)), (a 3, aI E 16 (hM 3)), (a 4, aI E 256 (hM 4)), (a 5, aI E 128 (hM 5)), (a 6, aI E 128 (hM 6)), (a 7, aI E 128 (hM 7)), (a 8, aI E 128 (hM 8)), (a 9, oX0 a (o_27.2 9)), (a 10, aI E 4096 (o_27.2 10)), (a 11, aI E 120 (o_27.2 11)), (a 12, aI E 120 (o_27.2 12)), (a 13, oX1 a (o_27.2 13)), (a 14, aI E 8 (o_27.2 14)), (a 15, oX7 a (o_27.2 15)), (a 16, aI E 11 (o_27.2 16)), (a 17, aI E 4096 (o_27.2 17)), (a 18, aI E 6272 (o_27.2 18)), (a 19, aI E 98 (o_27.2 19)), (a 20, oX2 a), (a 21, oX6 (mM 21)), (a 22, oX6 (mM 22)), (a 23, oX4 a (mM 23)), (a 24, .inl (xO E, 6, .inr (.inr (.inr (.inr (xhf ha)))))), (ha 0, oX6 (mM 60)), (ha 1, oX6 (mM 61)), (ha 2, oX6 (mM 62)), (ha 3, oX6 (mM 63)), (ha 4, oX6 (mM 64)), (ha 5, oX6 (mM 65)), (a 25, oX5 a (mM 25)), (a 26, aC E 24 (mM 26)), (a 27, .inl (xO E, 2, .inr (.inr (.inr (.inr (xsl a)))))), (a 28, oX6 (mM 28)), (a 29, oX6 (mM 29)), (a 30, aZ E 2 (mM 30)), (a 31, oX9 a (o_28.2 31)), (a 32, aI E 8 (mM 32)), (a 33, aI E 48 (mM 33)), (a 34, aI E 16 (mM 34)), (a 35, aZ E 2 (mM 35)), (a 36, aI E 120 (hM 36)), (a 37, aI E 120 (hM 37)), (a 38, aI E 4096 (o_28.2 38)), (a 39, aI E 4096 (o_28.2 39)), (a 40, aI E 4096 (o_28.2 40)), (a 41, aI E 128 (o_28.2 41)), (a 42, aI E 98 (o_28.2 42)), (a 43, aI E 202 (o_28.2 43)), (a 44, aI E 4 (o_28.2 44)), (a 45, aI E 24 (mM 45))]) (fun _ => rfl) (fun _ => ?_)
      refine r.icmp_eq 745 (DL_law_5 36 rfl) rfl hxt (fun _ hxt => ?_) (fun _ hxt => ?_)
      · refine r.iinc (v := (v3 + (5 : Int32))) (lo' := [(3, .int (v3 + (5 : Int32))), (0, .ref b), (1, .ref (a 0)), (2, .ref (a 31))]) 3 (DL_law_8 23 rfl) rfl rfl (Nat.le_of_ble_eq_true rfl) rfl ?_
        refine r.goto 18 (DL_law_8 24 rfl) rfl ?_
        refine r.rel (lo' := [(0, .ref b), (1, .ref (a 0)), (2, .ref (a 31)), (3, .int (v3 + (5 : Int32)))]) [1, 2, 3, 0] rfl ?_
        exact ih ha (v3 + (5 : Int32)) (mgs (mgs (mgs hM [9, 10, 11, 12, 13, 14, 15, 16, 17, 18, 19] o_27.2) [21, 22, 23, 60, 61, 62, 63, 64, 65, 25, 26, 28, 29, 30, 32, 33, 34, 35, 45] mM) [31, 38, 39, 40, 41, 42, 43, 44] o_28.2) hxt
      refine r.iconst (v := (0 : Int32)) (DL_law_5 37 rfl) rfl ?_
      exact absurd (Option.some.inj hxt) (by decide)
    refine xif hxt (fun hc hxt => r.tsIn 515 (DL_law_0 21 rfl) hc hn rfl rfl ?_) (fun _ hxt => ?_)
    · refine r.aload_n 1 (DL_law_5 39 rfl) rfl ?_
      refine r.aload_n 0 (DL_law_5 40 rfl) rfl ?_
      refine r.iload_n 3 (DL_law_5 41 rfl) rfl ?_
      refine r.iconst (v := (1 : Int32)) (DL_law_5 42 rfl) rfl ?_
      refine r.iadd (DL_law_5 43 rfl) ?_
      obtain ⟨hin, hxt⟩ := xgd_some hxt
      refine hsld hin (DL_law_5 44 rfl) ?_
      obtain ⟨o_29, ho_29, hxt⟩ := xbd hxt
      refine r.callVI 0 rfl rfl (t_X8_line E a (xs (v3 + (1 : Int32)).toNatClampNeg) (mgs hM [9, 10, 11, 12, 21, 22] mM) ho_29) g_L_61 rfl (DL_law_5 45 rfl) rfl ⟨(Nat.le_of_ble_eq_true rfl), (Nat.le_of_ble_eq_true rfl)⟩ ⟨(Nat.le_of_ble_eq_true rfl), (Nat.le_of_ble_eq_true rfl)⟩ (Nat.le_of_ble_eq_true rfl) [0, 1, 2, 3, 4, 5, 6, 7, 9, 10, 11, 12, 20, 21, 22] [8, 13, 14, 15, 16, 17, 18, 19, 23, 24, 25, 26, 27, 28, 29, 30, 31, 32, 33, 34, 35, 36, 37, 38, 39, 40, 41, 42, 43, 44, 45, 46, 47, 48, 49, 50, 51] rfl rfl rfl rfl (by decide) [37, 38, 39, 40, 41, 42, 43, 44, 0, 45, 46, 47, 48, 1, 2, 3, 4, 5, 6, 7, 49, 50, 51, 8, 9, 10, 11, 12, 13, 14, 15, 16, 17, 18, 19, 20, 21, 22, 23, 24, 25, 26, 27, 28, 29, 30, 31, 32, 33, 34, 35, 36] rfl (ws2 := fun _ => [(a 0, oX8 a), (a 1, oX3 a), (a 2, aI E 16 (hM 2)), (a 3, aI E 16 (hM 3)), (a 4, aI E 256 (hM 4)), (a 5, aI E 128 (hM 5)), (a 6, aI E 128 (hM 6)), (a 7, aI E 128 (hM 7)), (a 8, aI E 128 (hM 8)), (a 9, oX0 a (o_29.2 9)), (a 10, aI E 4096 (o_29.2 10)), (a 11, aI E 120 (o_29.2 11)), (a 12, aI E 120 (o_29.2 12)), (a 13, oX1 a (mM 13)), (a 14, aI E 8 (mM 14)), (a 15, oX7 a (mM 15)), (a 16, aI E 11 (mM 16)), (a 17, aI E 4096 (mM 17)), (a 18, aI E 6272 (mM 18)), (a 19, aI E 98 (mM 19)), (a 20, oX2 a), (a 21, oX6 (mM 21)), (a 22, oX6 (o_29.2 22)), (a 23, oX4 a (mM 23)), (a 24, .inl (xO E, 6, .inr (.inr (.inr (.inr (xhf ha)))))), (ha 0, oX6 (mM 60)), (ha 1, oX6 (mM 61)), (ha 2, oX6 (mM 62)), (ha 3, oX6 (mM 63)), (ha 4, oX6 (mM 64)), (ha 5, oX6 (mM 65)), (a 25, oX5 a (mM 25)), (a 26, aC E 24 (mM 26)), (a 27, .inl (xO E, 2, .inr (.inr (.inr (.inr (xsl a)))))), (a 28, oX6 (mM 28)), (a 29, oX6 (mM 29)), (a 30, aZ E 2 (mM 30)), (a 31, oX9 a (mM 31)), (a 32, aI E 8 (mM 32)), (a 33, aI E 48 (mM 33)), (a 34, aI E 16 (mM 34)), (a 35, aZ E 2 (mM 35)), (a 36, aI E 120 (hM 36)), (a 37, aI E 120 (hM 37)), (a 38, aI E 4096 (mM 38)), (a 39, aI E 4096 (mM 39)), (a 40, aI E 4096 (mM 40)), (a 41, aI E 128 (mM 41)), (a 42, aI E 98 (mM 42)), (a 43, aI E 202 (mM 43)), (a 44, aI E 4 (mM 44)), (a 45, aI E 24 (mM 45))]) (fun _ => rfl) (fun _ => ?_)
      refine r.aload_n 2 (DL_law_5 46 rfl) rfl ?_
      refine r.aload_n 0 (DL_law_5 47 rfl) rfl ?_
      refine r.iload_n 3 (DL_law_5 48 rfl) rfl ?_
      refine r.iconst (v := (1 : Int32)) (DL_law_5 49 rfl) rfl ?_
      refine r.iadd (DL_law_5 50 rfl) ?_
      obtain ⟨hin, hxt⟩ := xgd_some hxt
      refine hsld hin (DL_law_5 51 rfl) ?_
      obtain ⟨o_30, ho_30, hxt⟩ := xbd hxt
      refine r.callVI 0 rfl rfl (t_X9_line E a (xs (v3 + (1 : Int32)).toNatClampNeg) (mgs hM [31, 32, 38, 39, 40, 41, 42, 43, 44] mM) ho_30) g_L_64 rfl (DL_law_5 52 rfl) rfl ⟨(Nat.le_of_ble_eq_true rfl), (Nat.le_of_ble_eq_true rfl)⟩ ⟨(Nat.le_of_ble_eq_true rfl), (Nat.le_of_ble_eq_true rfl)⟩ (Nat.le_of_ble_eq_true rfl) [37, 38, 42, 43, 44, 45, 46, 47, 48, 49, 50] [0, 1, 2, 3, 4, 5, 6, 7, 8, 9, 10, 11, 12, 13, 14, 15, 16, 17, 18, 19, 20, 21, 22, 23, 24, 25, 26, 27, 28, 29, 30, 31, 32, 33, 34, 35, 36, 39, 40, 41, 51] rfl rfl rfl rfl (by decide) [0, 1, 2, 3, 4, 5, 6, 7, 8, 9, 10, 11, 12, 13, 14, 15, 16, 17, 18, 19, 20, 21, 22, 23, 24, 25, 26, 27, 28, 29, 30, 31, 32, 33, 34, 35, 36, 41, 42, 37, 38, 39, 43, 44, 45, 46, 47, 48, 49, 50, 51, 40] rfl (ws2 := fun _ => [(a 0, oX8 a), (a 1, oX3 a), (a 2, aI E 16 (hM 2)), (a 3, aI E 16 (hM 3)), (a 4, aI E 256 (hM 4)), (a 5, aI E 128 (hM 5)), (a 6, aI E 128 (hM 6)), (a 7, aI E 128 (hM 7)), (a 8, aI E 128 (hM 8)), (a 9, oX0 a (o_29.2 9)), (a 10, aI E 4096 (o_29.2 10)), (a 11, aI E 120 (o_29.2 11)), (a 12, aI E 120 (o_29.2 12)), (a 13, oX1 a (mM 13)), (a 14, aI E 8 (mM 14)), (a 15, oX7 a (mM 15)), (a 16, aI E 11 (mM 16)), (a 17, aI E 4096 (mM 17)), (a 18, aI E 6272 (mM 18)), (a 19, aI E 98 (mM 19)), (a 20, oX2 a), (a 21, oX6 (mM 21)), (a 22, oX6 (o_29.2 22)), (a 23, oX4 a (mM 23)), (a 24, .inl (xO E, 6, .inr (.inr (.inr (.inr (xhf ha)))))), (ha 0, oX6 (mM 60)), (ha 1, oX6 (mM 61)), (ha 2, oX6 (mM 62)), (ha 3, oX6 (mM 63)), (ha 4, oX6 (mM 64)), (ha 5, oX6 (mM 65)), (a 25, oX5 a (mM 25)), (a 26, aC E 24 (mM 26)), (a 27, .inl (xO E, 2, .inr (.inr (.inr (.inr (xsl a)))))), (a 28, oX6 (mM 28)), (a 29, oX6 (mM 29)), (a 30, aZ E 2 (mM 30)), (a 31, oX9 a (o_30.2 31)), (a 32, aI E 8 (o_30.2 32)), (a 33, aI E 48 (mM 33)), (a 34, aI E 16 (mM 34)), (a 35, aZ E 2 (mM 35)), (a 36, aI E 120 (hM 36)), (a 37, aI E 120 (hM 37)), (a 38, aI E 4096 (o_30.2 38)), (a 39, aI E 4096 (o_30.2 39)), (a 40, aI E 4096 (o_30.2 40)), (a 41, aI E 128 (o_30.2 41)), (a 42, aI E 98 (o_30.2 42)), (a 43, aI E 202 (o_30.2 43)), (a 44, aI E 4 (o_30.2 44)), (a 45, aI E 24 (mM 45))]) (fun _ => rfl) (fun _ => ?_)
      refine r.icmp_eq 745 (DL_law_5 53 rfl) rfl hxt (fun _ hxt => ?_) (fun _ hxt => ?_)
      · refine r.iinc (v := (v3 + (5 : Int32))) (lo' := [(3, .int (v3 + (5 : Int32))), (0, .ref b), (1, .ref (a 0)), (2, .ref (a 31))]) 3 (DL_law_8 23 rfl) rfl rfl (Nat.le_of_ble_eq_true rfl) rfl ?_
        refine r.goto 18 (DL_law_8 24 rfl) rfl ?_
        refine r.rel (lo' := [(0, .ref b), (1, .ref (a 0)), (2, .ref (a 31)), (3, .int (v3 + (5 : Int32)))]) [1, 2, 3, 0] rfl ?_
        exact ih ha (v3 + (5 : Int32)) (mgs (mgs (mgs hM [9, 10, 11, 12, 22] o_29.2) [13, 14, 15, 16, 17, 18, 19, 21, 23, 60, 61, 62, 63, 64, 65, 25, 26, 28, 29, 30, 33, 34, 35, 45] mM) [31, 32, 38, 39, 40, 41, 42, 43, 44] o_30.2) hxt
      refine r.iconst (v := (0 : Int32)) (DL_law_5 54 rfl) rfl ?_
      exact absurd (Option.some.inj hxt) (by decide)
    refine xif hxt (fun hc hxt => r.tsIn 538 (DL_law_0 21 rfl) hc hn rfl rfl ?_) (fun _ hxt => ?_)
    · refine r.aload_n 1 (DL_law_5 56 rfl) rfl ?_
      refine r.aload_n 0 (DL_law_5 57 rfl) rfl ?_
      refine r.iload_n 3 (DL_law_5 58 rfl) rfl ?_
      refine r.iconst (v := (1 : Int32)) (DL_law_5 59 rfl) rfl ?_
      refine r.iadd (DL_law_6 0 rfl) ?_
      obtain ⟨hin, hxt⟩ := xgd_some hxt
      refine hsld hin (DL_law_6 1 rfl) ?_
      obtain ⟨o_31, ho_31, hxt⟩ := xbd hxt
      refine r.callVI 0 rfl rfl (t_X8_all E a (xs (v3 + (1 : Int32)).toNatClampNeg) (mgs hM [9, 10, 11, 12, 13, 14, 15, 16, 17, 18, 19, 21] mM) ho_31) g_L_65 rfl (DL_law_6 2 rfl) rfl ⟨(Nat.le_of_ble_eq_true rfl), (Nat.le_of_ble_eq_true rfl)⟩ ⟨(Nat.le_of_ble_eq_true rfl), (Nat.le_of_ble_eq_true rfl)⟩ (Nat.le_of_ble_eq_true rfl) [0, 1, 2, 3, 4, 5, 6, 7, 8, 9, 10, 11, 12, 13, 14, 15, 16, 17, 18, 19, 21] [20, 22, 23, 24, 25, 26, 27, 28, 29, 30, 31, 32, 33, 34, 35, 36, 37, 38, 39, 40, 41, 42, 43, 44, 45, 46, 47, 48, 49, 50, 51] rfl rfl rfl rfl (by decide) [31, 32, 33, 34, 35, 36, 37, 38, 39, 40, 41, 42, 43, 44, 45, 46, 47, 48, 49, 50, 0, 51, 1, 2, 3, 4, 5, 6, 7, 8, 9, 10, 11, 12, 13, 14, 15, 16, 17, 18, 19, 20, 21, 22, 23, 24, 25, 26, 27, 28, 29, 30] rfl (ws2 := fun _ => [(a 0, oX8 a), (a 1, oX3 a), (a 2, aI E 16 (hM 2)), (a 3, aI E 16 (hM 3)), (a 4, aI E 256 (hM 4)), (a 5, aI E 128 (hM 5)), (a 6, aI E 128 (hM 6)), (a 7, aI E 128 (hM 7)), (a 8, aI E 128 (hM 8)), (a 9, oX0 a (o_31.2 9)), (a 10, aI E 4096 (o_31.2 10)), (a 11, aI E 120 (o_31.2 11)), (a 12, aI E 120 (o_31.2 12)), (a 13, oX1 a (o_31.2 13)), (a 14, aI E 8 (o_31.2 14)), (a 15, oX7 a (o_31.2 15)), (a 16, aI E 11 (o_31.2 16)), (a 17, aI E 4096 (o_31.2 17)), (a 18, aI E 6272 (o_31.2 18)), (a 19, aI E 98 (o_31.2 19)), (a 20, oX2 a), (a 21, oX6 (mM 21)), (a 22, oX6 (mM 22)), (a 23, oX4 a (mM 23)), (a 24, .inl (xO E, 6, .inr (.inr (.inr (.inr (xhf ha)))))), (ha 0, oX6 (mM 60)), (ha 1, oX6 (mM 61)), (ha 2, oX6 (mM 62)), (ha 3, oX6 (mM 63)), (ha 4, oX6 (mM 64)), (ha 5, oX6 (mM 65)), (a 25, oX5 a (mM 25)), (a 26, aC E 24 (mM 26)), (a 27, .inl (xO E, 2, .inr (.inr (.inr (.inr (xsl a)))))), (a 28, oX6 (mM 28)), (a 29, oX6 (mM 29)), (a 30, aZ E 2 (mM 30)), (a 31, oX9 a (mM 31)), (a 32, aI E 8 (mM 32)), (a 33, aI E 48 (mM 33)), (a 34, aI E 16 (mM 34)), (a 35, aZ E 2 (mM 35)), (a 36, aI E 120 (hM 36)), (a 37, aI E 120 (hM 37)), (a 38, aI E 4096 (mM 38)), (a 39, aI E 4096 (mM 39)), (a 40, aI E 4096 (mM 40)), (a 41, aI E 128 (mM 41)), (a 42, aI E 98 (mM 42)), (a 43, aI E 202 (mM 43)), (a 44, aI E 4 (mM 44)), (a 45, aI E 24 (mM 45))]) (fun _ => rfl) (fun _ => ?_)
      refine r.aload_n 2 (DL_law_6 3 rfl) rfl ?_
      refine r.aload_n 0 (DL_law_6 4 rfl) rfl ?_
      refine r.iload_n 3 (DL_law_6 5 rfl) rfl ?_
      refine r.iconst (v := (1 : Int32)) (DL_law_6 6 rfl) rfl ?_
      refine r.iadd (DL_law_6 7 rfl) ?_
      obtain ⟨hin, hxt⟩ := xgd_some hxt
      refine hsld hin (DL_law_6 8 rfl) ?_
      obtain ⟨o_32, ho_32, hxt⟩ := xbd hxt
      refine r.callVI 0 rfl rfl (t_X9_all E a (xs (v3 + (1 : Int32)).toNatClampNeg) (mgs hM [31, 32, 38, 39, 40, 41, 42, 43, 44] mM) ho_32) g_L_68 rfl (DL_law_6 9 rfl) rfl ⟨(Nat.le_of_ble_eq_true rfl), (Nat.le_of_ble_eq_true rfl)⟩ ⟨(Nat.le_of_ble_eq_true rfl), (Nat.le_of_ble_eq_true rfl)⟩ (Nat.le_of_ble_eq_true rfl) [37, 38, 42, 43, 44, 45, 46, 47, 48, 49, 50] [0, 1, 2, 3, 4, 5, 6, 7, 8, 9, 10, 11, 12, 13, 14, 15, 16, 17, 18, 19, 20, 21, 22, 23, 24, 25, 26, 27, 28, 29, 30, 31, 32, 33, 34, 35, 36, 39, 40, 41, 51] rfl rfl rfl rfl (by decide) [0, 1, 2, 3, 4, 5, 6, 7, 8, 9, 10, 11, 12, 13, 14, 15, 16, 17, 18, 19, 20, 21, 22, 23, 24, 25, 26, 27, 28, 29, 30, 31, 32, 33, 34, 35, 36, 41, 42, 37, 38, 39, 43, 44, 45, 46, 47, 48, 49, 50, 51, 40] rfl (ws2 := fun _ => [(a 0, oX8 a), (a 1, oX3 a), (a 2, aI E 16 (hM 2)), (a 3, aI E 16 (hM 3)), (a 4, aI E 256 (hM 4)), (a 5, aI E 128 (hM 5)), (a 6, aI E 128 (hM 6)), (a 7, aI E 128 (hM 7)), (a 8, aI E 128 (hM 8)), (a 9, oX0 a (o_31.2 9)), (a 10, aI E 4096 (o_31.2 10)), (a 11, aI E 120 (o_31.2 11)), (a 12, aI E 120 (o_31.2 12)), (a 13, oX1 a (o_31.2 13)), (a 14, aI E 8 (o_31.2 14)), (a 15, oX7 a (o_31.2 15)), (a 16, aI E 11 (o_31.2 16)), (a 17, aI E 4096 (o_31.2 17)), (a 18, aI E 6272 (o_31.2 18)), (a 19, aI E 98 (o_31.2 19)), (a 20, oX2 a), (a 21, oX6 (mM 21)), (a 22, oX6 (mM 22)), (a 23, oX4 a (mM 23)), (a 24, .inl (xO E, 6, .inr (.inr (.inr (.inr (xhf ha)))))), (ha 0, oX6 (mM 60)), (ha 1, oX6 (mM 61)), (ha 2, oX6 (mM 62)), (ha 3, oX6 (mM 63)), (ha 4, oX6 (mM 64)), (ha 5, oX6 (mM 65)), (a 25, oX5 a (mM 25)), (a 26, aC E 24 (mM 26)), (a 27, .inl (xO E, 2, .inr (.inr (.inr (.inr (xsl a)))))), (a 28, oX6 (mM 28)), (a 29, oX6 (mM 29)), (a 30, aZ E 2 (mM 30)), (a 31, oX9 a (o_32.2 31)), (a 32, aI E 8 (mM 32)), (a 33, aI E 48 (mM 33)), (a 34, aI E 16 (mM 34)), (a 35, aZ E 2 (mM 35)), (a 36, aI E 120 (hM 36)), (a 37, aI E 120 (hM 37)), (a 38, aI E 4096 (o_32.2 38)), (a 39, aI E 4096 (o_32.2 39)), (a 40, aI E 4096 (o_32.2 40)), (a 41, aI E 128 (o_32.2 41)), (a 42, aI E 98 (o_32.2 42)), (a 43, aI E 202 (o_32.2 43)), (a 44, aI E 4 (o_32.2 44)), (a 45, aI E 24 (mM 45))]) (fun _ => rfl) (fun _ => ?_)
      refine r.icmp_eq 745 (DL_law_6 10 rfl) rfl hxt (fun _ hxt => ?_) (fun _ hxt => ?_)
      · refine r.iinc (v := (v3 + (5 : Int32))) (lo' := [(3, .int (v3 + (5 : Int32))), (0, .ref b), (1, .ref (a 0)), (2, .ref (a 31))]) 3 (DL_law_8 23 rfl) rfl rfl (Nat.le_of_ble_eq_true rfl) rfl ?_
        refine r.goto 18 (DL_law_8 24 rfl) rfl ?_
        refine r.rel (lo' := [(0, .ref b), (1, .ref (a 0)), (2, .ref (a 31)), (3, .int (v3 + (5 : Int32)))]) [1, 2, 3, 0] rfl ?_
        exact ih ha (v3 + (5 : Int32)) (mgs (mgs (mgs hM [9, 10, 11, 12, 13, 14, 15, 16, 17, 18, 19] o_31.2) [21, 22, 23, 60, 61, 62, 63, 64, 65, 25, 26, 28, 29, 30, 32, 33, 34, 35, 45] mM) [31, 38, 39, 40, 41, 42, 43, 44] o_32.2) hxt
      refine r.iconst (v := (0 : Int32)) (DL_law_6 11 rfl) rfl ?_
      exact absurd (Option.some.inj hxt) (by decide)
    refine xif hxt (fun hc hxt => r.tsIn 561 (DL_law_0 21 rfl) hc hn rfl rfl ?_) (fun _ hxt => ?_)
    · refine r.aload_n 1 (DL_law_6 13 rfl) rfl ?_
      refine r.aload_n 0 (DL_law_6 14 rfl) rfl ?_
      refine r.iload_n 3 (DL_law_6 15 rfl) rfl ?_
      refine r.iconst (v := (1 : Int32)) (DL_law_6 16 rfl) rfl ?_
      refine r.iadd (DL_law_6 17 rfl) ?_
      obtain ⟨hin, hxt⟩ := xgd_some hxt
      refine hsld hin (DL_law_6 18 rfl) ?_
      obtain ⟨o_33, ho_33, hxt⟩ := xbd hxt
      refine r.callVI 0 rfl rfl (t_X8_withDistance E a (xs (v3 + (1 : Int32)).toNatClampNeg) (mgs hM [9, 10, 11, 12, 13, 14, 15, 16, 17, 18, 19, 21] mM) ho_33) g_L_69 rfl (DL_law_6 19 rfl) rfl ⟨(Nat.le_of_ble_eq_true rfl), (Nat.le_of_ble_eq_true rfl)⟩ ⟨(Nat.le_of_ble_eq_true rfl), (Nat.le_of_ble_eq_true rfl)⟩ (Nat.le_of_ble_eq_true rfl) [0, 1, 2, 3, 4, 5, 6, 7, 8, 9, 10, 11, 12, 13, 14, 15, 16, 17, 18, 19, 21] [20, 22, 23, 24, 25, 26, 27, 28, 29, 30, 31, 32, 33, 34, 35, 36, 37, 38, 39, 40, 41, 42, 43, 44, 45, 46, 47, 48, 49, 50, 51] rfl rfl rfl rfl (by decide) [31, 32, 33, 34, 35, 36, 37, 38, 39, 40, 41, 42, 43, 44, 45, 46, 47, 48, 49, 50, 0, 51, 1, 2, 3, 4, 5, 6, 7, 8, 9, 10, 11, 12, 13, 14, 15, 16, 17, 18, 19, 20, 21, 22, 23, 24, 25, 26, 27, 28, 29, 30] rfl (ws2 := fun _ => [(a 0, oX8 a), (a 1, oX3 a), (a 2, aI E 16 (hM 2)), (a 3, aI E 16 (hM 3)), (a 4, aI E 256 (hM 4)), (a 5, aI E 128 (hM 5)), (a 6, aI E 128 (hM 6)), (a 7, aI E 128 (hM 7)), (a 8, aI E 128 (hM 8)), (a 9, oX0 a (o_33.2 9)), (a 10, aI E 4096 (o_33.2 10)), (a 11, aI E 120 (o_33.2 11)), (a 12, aI E 120 (o_33.2 12)), (a 13, oX1 a (o_33.2 13)), (a 14, aI E 8 (o_33.2 14)), (a 15, oX7 a (o_33.2 15)), (a 16, aI E 11 (o_33.2 16)), (a 17, aI E 4096 (o_33.2 17)), (a 18, aI E 6272 (o_33.2 18)), (a 19, aI E 98 (o_33.2 19)), (a 20, oX2 a), (a 21, oX6 (mM 21)), (a 22, oX6 (mM 22)), (a 23, oX4 a (mM 23)), (a 24, .inl (xO E, 6, .inr (.inr (.inr (.inr (xhf ha)))))), (ha 0, oX6 (mM 60)), (ha 1, oX6 (mM 61)), (ha 2, oX6 (mM 62)), (ha 3, oX6 (mM 63)), (ha 4, oX6 (mM 64)), (ha 5, oX6 (mM 65)), (a 25, oX5 a (mM 25)), (a 26, aC E 24 (mM 26)), (a 27, .inl (xO E, 2, .inr (.inr (.inr (.inr (xsl a)))))), (a 28, oX6 (mM 28)), (a 29, oX6 (mM 29)), (a 30, aZ E 2 (mM 30)), (a 31, oX9 a (mM 31)), (a 32, aI E 8 (mM 32)), (a 33, aI E 48 (mM 33)), (a 34, aI E 16 (mM 34)), (a 35, aZ E 2 (mM 35)), (a 36, aI E 120 (hM 36)), (a 37, aI E 120 (hM 37)), (a 38, aI E 4096 (mM 38)), (a 39, aI E 4096 (mM 39)), (a 40, aI E 4096 (mM 40)), (a 41, aI E 128 (mM 41)), (a 42, aI E 98 (mM 42)), (a 43, aI E 202 (mM 43)), (a 44, aI E 4 (mM 44)), (a 45, aI E 24 (mM 45))]) (fun _ => rfl) (fun _ => ?_)
      refine r.aload_n 2 (DL_law_6 20 rfl) rfl ?_
      refine r.aload_n 0 (DL_law_6 21 rfl) rfl ?_
      refine r.iload_n 3 (DL_law_6 22 rfl) rfl ?_
      refine r.iconst (v := (1 : Int32)) (DL_law_6 23 rfl) rfl ?_
      refine r.iadd (DL_law_6 24 rfl) ?_
      obtain ⟨hin, hxt⟩ := xgd_some hxt
      refine hsld hin (DL_law_6 25 rfl) ?_
      obtain ⟨o_34, ho_34, hxt⟩ := xbd hxt
      refine r.callVI 0 rfl rfl (t_X9_withDistance E a (xs (v3 + (1 : Int32)).toNatClampNeg) (mgs hM [31, 32, 38, 39, 40, 41, 42, 43, 44] mM) ho_34) g_L_72 rfl (DL_law_6 26 rfl) rfl ⟨(Nat.le_of_ble_eq_true rfl), (Nat.le_of_ble_eq_true rfl)⟩ ⟨(Nat.le_of_ble_eq_true rfl), (Nat.le_of_ble_eq_true rfl)⟩ (Nat.le_of_ble_eq_true rfl) [37, 38, 42, 43, 44, 45, 46, 47, 48, 49, 50] [0, 1, 2, 3, 4, 5, 6, 7, 8, 9, 10, 11, 12, 13, 14, 15, 16, 17, 18, 19, 20, 21, 22, 23, 24, 25, 26, 27, 28, 29, 30, 31, 32, 33, 34, 35, 36, 39, 40, 41, 51] rfl rfl rfl rfl (by decide) [0, 1, 2, 3, 4, 5, 6, 7, 8, 9, 10, 11, 12, 13, 14, 15, 16, 17, 18, 19, 20, 21, 22, 23, 24, 25, 26, 27, 28, 29, 30, 31, 32, 33, 34, 35, 36, 41, 42, 37, 38, 39, 43, 44, 45, 46, 47, 48, 49, 50, 51, 40] rfl (ws2 := fun _ => [(a 0, oX8 a), (a 1, oX3 a), (a 2, aI E 16 (hM 2)), (a 3, aI E 16 (hM 3)), (a 4, aI E 256 (hM 4)), (a 5, aI E 128 (hM 5)), (a 6, aI E 128 (hM 6)), (a 7, aI E 128 (hM 7)), (a 8, aI E 128 (hM 8)), (a 9, oX0 a (o_33.2 9)), (a 10, aI E 4096 (o_33.2 10)), (a 11, aI E 120 (o_33.2 11)), (a 12, aI E 120 (o_33.2 12)), (a 13, oX1 a (o_33.2 13)), (a 14, aI E 8 (o_33.2 14)), (a 15, oX7 a (o_33.2 15)), (a 16, aI E 11 (o_33.2 16)), (a 17, aI E 4096 (o_33.2 17)), (a 18, aI E 6272 (o_33.2 18)), (a 19, aI E 98 (o_33.2 19)), (a 20, oX2 a), (a 21, oX6 (mM 21)), (a 22, oX6 (mM 22)), (a 23, oX4 a (mM 23)), (a 24, .inl (xO E, 6, .inr (.inr (.inr (.inr (xhf ha)))))), (ha 0, oX6 (mM 60)), (ha 1, oX6 (mM 61)), (ha 2, oX6 (mM 62)), (ha 3, oX6 (mM 63)), (ha 4, oX6 (mM 64)), (ha 5, oX6 (mM 65)), (a 25, oX5 a (mM 25)), (a 26, aC E 24 (mM 26)), (a 27, .inl (xO E, 2, .inr (.inr (.inr (.inr (xsl a)))))), (a 28, oX6 (mM 28)), (a 29, oX6 (mM 29)), (a 30, aZ E 2 (mM 30)), (a 31, oX9 a (o_34.2 31)), (a 32, aI E 8 (mM 32)), (a 33, aI E 48 (mM 33)), (a 34, aI E 16 (mM 34)), (a 35, aZ E 2 (mM 35)), (a 36, aI E 120 (hM 36)), (a 37, aI E 120 (hM 37)), (a 38, aI E 4096 (o_34.2 38)), (a 39, aI E 4096 (o_34.2 39)), (a 40, aI E 4096 (o_34.2 40)), (a 41, aI E 128 (o_34.2 41)), (a 42, aI E 98 (o_34.2 42)), (a 43, aI E 202 (o_34.2 43)), (a 44, aI E 4 (o_34.2 44)), (a 45, aI E 24 (mM 45))]) (fun _ => rfl) (fun _ => ?_)
      refine r.icmp_eq 745 (DL_law_6 27 rfl) rfl hxt (fun _ hxt => ?_) (fun _ hxt => ?_)
      · refine r.iinc (v := (v3 + (5 : Int32))) (lo' := [(3, .int (v3 + (5 : Int32))), (0, .ref b), (1, .ref (a 0)), (2, .ref (a 31))]) 3 (DL_law_8 23 rfl) rfl rfl (Nat.le_of_ble_eq_true rfl) rfl ?_
        refine r.goto 18 (DL_law_8 24 rfl) rfl ?_
        refine r.rel (lo' := [(0, .ref b), (1, .ref (a 0)), (2, .ref (a 31)), (3, .int (v3 + (5 : Int32)))]) [1, 2, 3, 0] rfl ?_
        exact ih ha (v3 + (5 : Int32)) (mgs (mgs (mgs hM [9, 10, 11, 12, 13, 14, 15, 16, 17, 18, 19] o_33.2) [21, 22, 23, 60, 61, 62, 63, 64, 65, 25, 26, 28, 29, 30, 32, 33, 34, 35, 45] mM) [31, 38, 39, 40, 41, 42, 43, 44] o_34.2) hxt
      refine r.iconst (v := (0 : Int32)) (DL_law_6 28 rfl) rfl ?_
      exact absurd (Option.some.inj hxt) (by decide)
    refine xif hxt (fun hc hxt => r.tsIn 584 (DL_law_0 21 rfl) hc hn rfl rfl ?_) (fun _ hxt => ?_)
    · refine r.aload_n 1 (DL_law_6 30 rfl) rfl ?_
      refine r.aload_n 0 (DL_law_6 31 rfl) rfl ?_
      refine r.iload_n 3 (DL_law_6 32 rfl) rfl ?_
      refine r.iconst (v := (1 : Int32)) (DL_law_6 33 rfl) rfl ?_
      refine r.iadd (DL_law_6 34 rfl) ?_
      obtain ⟨hin, hxt⟩ := xgd_some hxt
      refine hsld hin (DL_law_6 35 rfl) ?_
      obtain ⟨o_35, ho_35, hxt⟩ := xbd hxt
      refine r.callVI 0 rfl rfl (t_X8_rule E a (xs (v3 + (1 : Int32)).toNatClampNeg) (mgs hM [9, 10, 11, 12, 13, 14, 15, 16, 17, 18, 19, 21] mM) ho_35) g_L_73 rfl (DL_law_6 36 rfl) rfl ⟨(Nat.le_of_ble_eq_true rfl), (Nat.le_of_ble_eq_true rfl)⟩ ⟨(Nat.le_of_ble_eq_true rfl), (Nat.le_of_ble_eq_true rfl)⟩ (Nat.le_of_ble_eq_true rfl) [0, 1, 2, 3, 4, 5, 6, 7, 8, 9, 10, 11, 12, 13, 14, 15, 16, 17, 18, 19, 21] [20, 22, 23, 24, 25, 26, 27, 28, 29, 30, 31, 32, 33, 34, 35, 36, 37, 38, 39, 40, 41, 42, 43, 44, 45, 46, 47, 48, 49, 50, 51] rfl rfl rfl rfl (by decide) [31, 32, 33, 34, 35, 36, 37, 38, 39, 40, 41, 42, 43, 44, 45, 46, 47, 48, 49, 50, 0, 51, 1, 2, 3, 4, 5, 6, 7, 8, 9, 10, 11, 12, 13, 14, 15, 16, 17, 18, 19, 20, 21, 22, 23, 24, 25, 26, 27, 28, 29, 30] rfl (ws2 := fun _ => [(a 0, oX8 a), (a 1, oX3 a), (a 2, aI E 16 (hM 2)), (a 3, aI E 16 (hM 3)), (a 4, aI E 256 (hM 4)), (a 5, aI E 128 (hM 5)), (a 6, aI E 128 (hM 6)), (a 7, aI E 128 (hM 7)), (a 8, aI E 128 (hM 8)), (a 9, oX0 a (o_35.2 9)), (a 10, aI E 4096 (o_35.2 10)), (a 11, aI E 120 (o_35.2 11)), (a 12, aI E 120 (o_35.2 12)), (a 13, oX1 a (o_35.2 13)), (a 14, aI E 8 (o_35.2 14)), (a 15, oX7 a (o_35.2 15)), (a 16, aI E 11 (o_35.2 16)), (a 17, aI E 4096 (o_35.2 17)), (a 18, aI E 6272 (o_35.2 18)), (a 19, aI E 98 (o_35.2 19)), (a 20, oX2 a), (a 21, oX6 (mM 21)), (a 22, oX6 (mM 22)), (a 23, oX4 a (mM 23)), (a 24, .inl (xO E, 6, .inr (.inr (.inr (.inr (xhf ha)))))), (ha 0, oX6 (mM 60)), (ha 1, oX6 (mM 61)), (ha 2, oX6 (mM 62)), (ha 3, oX6 (mM 63)), (ha 4, oX6 (mM 64)), (ha 5, oX6 (mM 65)), (a 25, oX5 a (mM 25)), (a 26, aC E 24 (mM 26)), (a 27, .inl (xO E, 2, .inr (.inr (.inr (.inr (xsl a)))))), (a 28, oX6 (mM 28)), (a 29, oX6 (mM 29)), (a 30, aZ E 2 (mM 30)), (a 31, oX9 a (mM 31)), (a 32, aI E 8 (mM 32)), (a 33, aI E 48 (mM 33)), (a 34, aI E 16 (mM 34)), (a 35, aZ E 2 (mM 35)), (a 36, aI E 120 (hM 36)), (a 37, aI E 120 (hM 37)), (a 38, aI E 4096 (mM 38)), (a 39, aI E 4096 (mM 39)), (a 40, aI E 4096 (mM 40)), (a 41, aI E 128 (mM 41)), (a 42, aI E 98 (mM 42)), (a 43, aI E 202 (mM 43)), (a 44, aI E 4 (mM 44)), (a 45, aI E 24 (mM 45))]) (fun _ => rfl) (fun _ => ?_)
      refine r.aload_n 2 (DL_law_6 37 rfl) rfl ?_
      refine r.aload_n 0 (DL_law_6 38 rfl) rfl ?_
      refine r.iload_n 3 (DL_law_6 39 rfl) rfl ?_
      refine r.iconst (v := (1 : Int32)) (DL_law_6 40 rfl) rfl ?_
      refine r.iadd (DL_law_6 41 rfl) ?_
      obtain ⟨hin, hxt⟩ := xgd_some hxt
      refine hsld hin (DL_law_6 42 rfl) ?_
      obtain ⟨o_36, ho_36, hxt⟩ := xbd hxt
      refine r.callVI 0 rfl rfl (t_X9_rule E a (xs (v3 + (1 : Int32)).toNatClampNeg) (mgs hM [31, 32, 38, 39, 40, 41, 42, 43, 44] mM) ho_36) g_L_76 rfl (DL_law_6 43 rfl) rfl ⟨(Nat.le_of_ble_eq_true rfl), (Nat.le_of_ble_eq_true rfl)⟩ ⟨(Nat.le_of_ble_eq_true rfl), (Nat.le_of_ble_eq_true rfl)⟩ (Nat.le_of_ble_eq_true rfl) [37, 38, 42, 43, 44, 45, 46, 47, 48, 49, 50] [0, 1, 2, 3, 4, 5, 6, 7, 8, 9, 10, 11, 12, 13, 14, 15, 16, 17, 18, 19, 20, 21, 22, 23, 24, 25, 26, 27, 28, 29, 30, 31, 32, 33, 34, 35, 36, 39, 40, 41, 51] rfl rfl rfl rfl (by decide) [0, 1, 2, 3, 4, 5, 6, 7, 8, 9, 10, 11, 12, 13, 14, 15, 16, 17, 18, 19, 20, 21, 22, 23, 24, 25, 26, 27, 28, 29, 30, 31, 32, 33, 34, 35, 36, 41, 42, 37, 38, 39, 43, 44, 45, 46, 47, 48, 49, 50, 51, 40] rfl (ws2 := fun _ => [(a 0, oX8 a), (a 1, oX3 a), (a 2, aI E 16 (hM 2)), (a 3, aI E 16 (hM 3)), (a 4, aI E 256 (hM 4)), (a 5, aI E 128 (hM 5)), (a 6, aI E 128 (hM 6)), (a 7, aI E 128 (hM 7)), (a 8, aI E 128 (hM 8)), (a 9, oX0 a (o_35.2 9)), (a 10, aI E 4096 (o_35.2 10)), (a 11, aI E 120 (o_35.2 11)), (a 12, aI E 120 (o_35.2 12)), (a 13, oX1 a (o_35.2 13)), (a 14, aI E 8 (o_35.2 14)), (a 15, oX7 a (o_35.2 15)), (a 16, aI E 11 (o_35.2 16)), (a 17, aI E 4096 (o_35.2 17)), (a 18, aI E 6272 (o_35.2 18)), (a 19, aI E 98 (o_35.2 19)), (a 20, oX2 a), (a 21, oX6 (mM 21)), (a 22, oX6 (mM 22)), (a 23, oX4 a (mM 23)), (a 24, .inl (xO E, 6, .inr (.inr (.inr (.inr (xhf ha)))))), (ha 0, oX6 (mM 60)), (ha 1, oX6 (mM 61)), (ha 2, oX6 (mM 62)), (ha 3, oX6 (mM 63)), (ha 4, oX6 (mM 64)), (ha 5, oX6 (mM 65)), (a 25, oX5 a (mM 25)), (a 26, aC E 24 (mM 26)), (a 27, .inl (xO E, 2, .inr (.inr (.inr (.inr (xsl a)))))), (a 28, oX6 (mM 28)), (a 29, oX6 (mM 29)), (a 30, aZ E 2 (mM 30)), (a 31, oX9 a (o_36.2 31)), (a 32, aI E 8 (mM 32)), (a 33, aI E 48 (mM 33)), (a 34, aI E 16 (mM 34)), (a 35, aZ E 2 (mM 35)), (a 36, aI E 120 (hM 36)), (a 37, aI E 120 (hM 37)), (a 38, aI E 4096 (o_36.2 38)), (a 39, aI E 4096 (o_36.2 39)), (a 40, aI E 4096 (o_36.2 40)), (a 41, aI E 128 (o_36.2 41)), (a 42, aI E 98 (o_36.2 42)), (a 43, aI E 202 (o_36.2 43)), (a 44, aI E 4 (o_36.2 44)), (a 45, aI E 24 (mM 45))]) (fun _ => rfl) (fun _ => ?_)
      refine r.icmp_eq 745 (DL_law_6 44 rfl) rfl hxt (fun _ hxt => ?_) (fun _ hxt => ?_)
      · refine r.iinc (v := (v3 + (5 : Int32))) (lo' := [(3, .int (v3 + (5 : Int32))), (0, .ref b), (1, .ref (a 0)), (2, .ref (a 31))]) 3 (DL_law_8 23 rfl) rfl rfl (Nat.le_of_ble_eq_true rfl) rfl ?_
        refine r.goto 18 (DL_law_8 24 rfl) rfl ?_
        refine r.rel (lo' := [(0, .ref b), (1, .ref (a 0)), (2, .ref (a 31)), (3, .int (v3 + (5 : Int32)))]) [1, 2, 3, 0] rfl ?_
        exact ih ha (v3 + (5 : Int32)) (mgs (mgs (mgs hM [9, 10, 11, 12, 13, 14, 15, 16, 17, 18, 19] o_35.2) [21, 22, 23, 60, 61, 62, 63, 64, 65, 25, 26, 28, 29, 30, 32, 33, 34, 35, 45] mM) [31, 38, 39, 40, 41, 42, 43, 44] o_36.2) hxt
      refine r.iconst (v := (0 : Int32)) (DL_law_6 45 rfl) rfl ?_
      exact absurd (Option.some.inj hxt) (by decide)
    refine xif hxt (fun hc hxt => r.tsIn 607 (DL_law_0 21 rfl) hc hn rfl rfl ?_) (fun _ hxt => ?_)
    · refine r.aload_n 1 (DL_law_6 47 rfl) rfl ?_
      refine r.aload_n 0 (DL_law_6 48 rfl) rfl ?_
      refine r.iload_n 3 (DL_law_6 49 rfl) rfl ?_
      refine r.iconst (v := (1 : Int32)) (DL_law_6 50 rfl) rfl ?_
      refine r.iadd (DL_law_6 51 rfl) ?_
      obtain ⟨hin, hxt⟩ := xgd_some hxt
      refine hsld hin (DL_law_6 52 rfl) ?_
      refine r.i2l (DL_law_6 53 rfl) ?_
      refine r.bipush (v := (32 : Int32)) (DL_law_6 54 rfl) rfl ?_
      refine r.lshl (DL_law_6 55 rfl) ?_
      refine r.aload_n 0 (DL_law_6 56 rfl) rfl ?_
      refine r.iload_n 3 (DL_law_6 57 rfl) rfl ?_
      refine r.iconst (v := (2 : Int32)) (DL_law_6 58 rfl) rfl ?_
      refine r.iadd (DL_law_6 59 rfl) ?_
      obtain ⟨hin, hxt⟩ := xgd_some hxt
      refine hsld hin (DL_law_7 0 rfl) ?_
      refine r.i2l (DL_law_7 1 rfl) ?_
      refine r.ldc2 (v := (4294967295 : Int64)) (DL_law_7 2 rfl) m1087 ?_
      refine r.land (DL_law_7 3 rfl) ?_
      refine r.lor (DL_law_7 4 rfl) ?_
      obtain ⟨o_37, ho_37, hxt⟩ := xbd hxt
      refine r.callVI 0 rfl rfl (t_X8_put E a (((xs (v3 + (1 : Int32)).toNatClampNeg).toInt64 <<< ((32 : Int32).toInt64 &&& 63)) ||| ((xs (v3 + (2 : Int32)).toNatClampNeg).toInt64 &&& (4294967295 : Int64))) (mgs hM [25, 26] mM) ho_37) g_L_79 rfl (DL_law_7 5 rfl) rfl ⟨(Nat.le_of_ble_eq_true rfl), (Nat.le_of_ble_eq_true rfl)⟩ ⟨(Nat.le_of_ble_eq_true rfl), (Nat.le_of_ble_eq_true rfl)⟩ (Nat.le_of_ble_eq_true rfl) [0, 31, 32] [1, 2, 3, 4, 5, 6, 7, 8, 9, 10, 11, 12, 13, 14, 15, 16, 17, 18, 19, 20, 21, 22, 23, 24, 25, 26, 27, 28, 29, 30, 33, 34, 35, 36, 37, 38, 39, 40, 41, 42, 43, 44, 45, 46, 47, 48, 49, 50, 51] rfl rfl rfl rfl (by decide) [49, 0, 1, 2, 3, 4, 5, 6, 7, 8, 9, 10, 11, 12, 13, 14, 15, 16, 17, 18, 19, 20, 21, 22, 23, 24, 25, 26, 27, 28, 29, 50, 51, 30, 31, 32, 33, 34, 35, 36, 37, 38, 39, 40, 41, 42, 43, 44, 45, 46, 47, 48] rfl (ws2 := fun _ => [(a 0, oX8 a), (a 1, oX3 a), (a 2, aI E 16 (hM 2)), (a 3, aI E 16 (hM 3)), (a 4, aI E 256 (hM 4)), (a 5, aI E 128 (hM 5)), (a 6, aI E 128 (hM 6)), (a 7, aI E 128 (hM 7)), (a 8, aI E 128 (hM 8)), (a 9, oX0 a (mM 9)), (a 10, aI E 4096 (mM 10)), (a 11, aI E 120 (mM 11)), (a 12, aI E 120 (mM 12)), (a 13, oX1 a (mM 13)), (a 14, aI E 8 (mM 14)), (a 15, oX7 a (mM 15)), (a 16, aI E 11 (mM 16)), (a 17, aI E 4096 (mM 17)), (a 18, aI E 6272 (mM 18)), (a 19, aI E 98 (mM 19)), (a 20, oX2 a), (a 21, oX6 (mM 21)), (a 22, oX6 (mM 22)), (a 23, oX4 a (mM 23)), (a 24, .inl (xO E, 6, .inr (.inr (.inr (.inr (xhf ha)))))), (ha 0, oX6 (mM 60)), (ha 1, oX6 (mM 61)), (ha 2, oX6 (mM 62)), (ha 3, oX6 (mM 63)), (ha 4, oX6 (mM 64)), (ha 5, oX6 (mM 65)), (a 25, oX5 a (o_37.2 25)), (a 26, aC E 24 (o_37.2 26)), (a 27, .inl (xO E, 2, .inr (.inr (.inr (.inr (xsl a)))))), (a 28, oX6 (mM 28)), (a 29, oX6 (mM 29)), (a 30, aZ E 2 (mM 30)), (a 31, oX9 a (mM 31)), (a 32, aI E 8 (mM 32)), (a 33, aI E 48 (mM 33)), (a 34, aI E 16 (mM 34)), (a 35, aZ E 2 (mM 35)), (a 36, aI E 120 (hM 36)), (a 37, aI E 120 (hM 37)), (a 38, aI E 4096 (mM 38)), (a 39, aI E 4096 (mM 39)), (a 40, aI E 4096 (mM 40)), (a 41, aI E 128 (mM 41)), (a 42, aI E 98 (mM 42)), (a 43, aI E 202 (mM 43)), (a 44, aI E 4 (mM 44)), (a 45, aI E 24 (mM 45))]) (fun _ => rfl) (fun _ => ?_)
      refine r.aload_n 2 (DL_law_7 6 rfl) rfl ?_
      refine r.aload_n 0 (DL_law_7 7 rfl) rfl ?_
      refine r.iload_n 3 (DL_law_7 8 rfl) rfl ?_
      refine r.iconst (v := (1 : Int32)) (DL_law_7 9 rfl) rfl ?_
      refine r.iadd (DL_law_7 10 rfl) ?_
      obtain ⟨hin, hxt⟩ := xgd_some hxt
      refine hsld hin (DL_law_7 11 rfl) ?_
      refine r.i2l (DL_law_7 12 rfl) ?_
      refine r.bipush (v := (32 : Int32)) (DL_law_7 13 rfl) rfl ?_
      refine r.lshl (DL_law_7 14 rfl) ?_
      refine r.aload_n 0 (DL_law_7 15 rfl) rfl ?_
      refine r.iload_n 3 (DL_law_7 16 rfl) rfl ?_
      refine r.iconst (v := (2 : Int32)) (DL_law_7 17 rfl) rfl ?_
      refine r.iadd (DL_law_7 18 rfl) ?_
      obtain ⟨hin, hxt⟩ := xgd_some hxt
      refine hsld hin (DL_law_7 19 rfl) ?_
      refine r.i2l (DL_law_7 20 rfl) ?_
      refine r.ldc2 (v := (4294967295 : Int64)) (DL_law_7 21 rfl) m1087 ?_
      refine r.land (DL_law_7 22 rfl) ?_
      refine r.lor (DL_law_7 23 rfl) ?_
      obtain ⟨o_38, ho_38, hxt⟩ := xbd hxt
      refine r.callVI 0 rfl rfl (t_X9_put E a (((xs (v3 + (1 : Int32)).toNatClampNeg).toInt64 <<< ((32 : Int32).toInt64 &&& 63)) ||| ((xs (v3 + (2 : Int32)).toNatClampNeg).toInt64 &&& (4294967295 : Int64))) (mgs hM [31, 45] mM) ho_38) g_L_83 rfl (DL_law_7 24 rfl) rfl ⟨(Nat.le_of_ble_eq_true rfl), (Nat.le_of_ble_eq_true rfl)⟩ ⟨(Nat.le_of_ble_eq_true rfl), (Nat.le_of_ble_eq_true rfl)⟩ (Nat.le_of_ble_eq_true rfl) [37, 51] [0, 1, 2, 3, 4, 5, 6, 7, 8, 9, 10, 11, 12, 13, 14, 15, 16, 17, 18, 19, 20, 21, 22, 23, 24, 25, 26, 27, 28, 29, 30, 31, 32, 33, 34, 35, 36, 38, 39, 40, 41, 42, 43, 44, 45, 46, 47, 48, 49, 50] rfl rfl rfl rfl (by decide) [0, 1, 2, 3, 4, 5, 6, 7, 8, 9, 10, 11, 12, 13, 14, 15, 16, 17, 18, 19, 20, 21, 22, 23, 24, 25, 26, 27, 28, 29, 30, 31, 32, 33, 34, 35, 36, 50, 37, 38, 39, 40, 41, 42, 43, 44, 45, 46, 47, 48, 49, 51] rfl (ws2 := fun _ => [(a 0, oX8 a), (a 1, oX3 a), (a 2, aI E 16 (hM 2)), (a 3, aI E 16 (hM 3)), (a 4, aI E 256 (hM 4)), (a 5, aI E 128 (hM 5)), (a 6, aI E 128 (hM 6)), (a 7, aI E 128 (hM 7)), (a 8, aI E 128 (hM 8)), (a 9, oX0 a (mM 9)), (a 10, aI E 4096 (mM 10)), (a 11, aI E 120 (mM 11)), (a 12, aI E 120 (mM 12)), (a 13, oX1 a (mM 13)), (a 14, aI E 8 (mM 14)), (a 15, oX7 a (mM 15)), (a 16, aI E 11 (mM 16)), (a 17, aI E 4096 (mM 17)), (a 18, aI E 6272 (mM 18)), (a 19, aI E 98 (mM 19)), (a 20, oX2 a), (a 21, oX6 (mM 21)), (a 22, oX6 (mM 22)), (a 23, oX4 a (mM 23)), (a 24, .inl (xO E, 6, .inr (.inr (.inr (.inr (xhf ha)))))), (ha 0, oX6 (mM 60)), (ha 1, oX6 (mM 61)), (ha 2, oX6 (mM 62)), (ha 3, oX6 (mM 63)), (ha 4, oX6 (mM 64)), (ha 5, oX6 (mM 65)), (a 25, oX5 a (o_37.2 25)), (a 26, aC E 24 (o_37.2 26)), (a 27, .inl (xO E, 2, .inr (.inr (.inr (.inr (xsl a)))))), (a 28, oX6 (mM 28)), (a 29, oX6 (mM 29)), (a 30, aZ E 2 (mM 30)), (a 31, oX9 a (o_38.2 31)), (a 32, aI E 8 (mM 32)), (a 33, aI E 48 (mM 33)), (a 34, aI E 16 (mM 34)), (a 35, aZ E 2 (mM 35)), (a 36, aI E 120 (hM 36)), (a 37, aI E 120 (hM 37)), (a 38, aI E 4096 (mM 38)), (a 39, aI E 4096 (mM 39)), (a 40, aI E 4096 (mM 40)), (a 41, aI E 128 (mM 41)), (a 42, aI E 98 (mM 42)), (a 43, aI E 202 (mM 43)), (a 44, aI E 4 (mM 44)), (a 45, aI E 24 (o_38.2 45))]) (fun _ => rfl) (fun _ => ?_)
      refine r.icmp_eq 745 (DL_law_7 25 rfl) rfl hxt (fun _ hxt => ?_) (fun _ hxt => ?_)
      · refine r.iinc (v := (v3 + (5 : Int32))) (lo' := [(3, .int (v3 + (5 : Int32))), (0, .ref b), (1, .ref (a 0)), (2, .ref (a 31))]) 3 (DL_law_8 23 rfl) rfl rfl (Nat.le_of_ble_eq_true rfl) rfl ?_
        refine r.goto 18 (DL_law_8 24 rfl) rfl ?_
        refine r.rel (lo' := [(0, .ref b), (1, .ref (a 0)), (2, .ref (a 31)), (3, .int (v3 + (5 : Int32)))]) [1, 2, 3, 0] rfl ?_
        exact ih ha (v3 + (5 : Int32)) (mgs (mgs (mgs hM [9, 10, 11, 12, 13, 14, 15, 16, 17, 18, 19, 21, 22, 23, 60, 61, 62, 63, 64, 65, 28, 29, 30, 32, 33, 34, 35, 38, 39, 40, 41, 42, 43, 44] mM) [25, 26] o_37.2) [31, 45] o_38.2) hxt
      refine r.iconst (v := (0 : Int32)) (DL_law_7 26 rfl) rfl ?_
      exact absurd (Option.some.inj hxt) (by decide)
    refine xif hxt (fun hc hxt => r.tsIn 660 (DL_law_0 21 rfl) hc hn rfl rfl ?_) (fun _ hxt => ?_)
    · refine r.aload_n 1 (DL_law_7 28 rfl) rfl ?_
      obtain ⟨o_39, ho_39, hxt⟩ := xbd hxt
      refine r.callVI 0 rfl rfl (t_X8_wipe E a (mgs hM [25] mM) ho_39) g_L_84 rfl (DL_law_7 29 rfl) rfl ⟨(Nat.le_of_ble_eq_true rfl), (Nat.le_of_ble_eq_true rfl)⟩ ⟨(Nat.le_of_ble_eq_true rfl), (Nat.le_of_ble_eq_true rfl)⟩ (Nat.le_of_ble_eq_true rfl) [0, 31] [1, 2, 3, 4, 5, 6, 7, 8, 9, 10, 11, 12, 13, 14, 15, 16, 17, 18, 19, 20, 21, 22, 23, 24, 25, 26, 27, 28, 29, 30, 32, 33, 34, 35, 36, 37, 38, 39, 40, 41, 42, 43, 44, 45, 46, 47, 48, 49, 50, 51] rfl rfl rfl rfl (by decide) [50, 0, 1, 2, 3, 4, 5, 6, 7, 8, 9, 10, 11, 12, 13, 14, 15, 16, 17, 18, 19, 20, 21, 22, 23, 24, 25, 26, 27, 28, 29, 51, 30, 31, 32, 33, 34, 35, 36, 37, 38, 39, 40, 41, 42, 43, 44, 45, 46, 47, 48, 49] rfl (ws2 := fun _ => [(a 0, oX8 a), (a 1, oX3 a), (a 2, aI E 16 (hM 2)), (a 3, aI E 16 (hM 3)), (a 4, aI E 256 (hM 4)), (a 5, aI E 128 (hM 5)), (a 6, aI E 128 (hM 6)), (a 7, aI E 128 (hM 7)), (a 8, aI E 128 (hM 8)), (a 9, oX0 a (mM 9)), (a 10, aI E 4096 (mM 10)), (a 11, aI E 120 (mM 11)), (a 12, aI E 120 (mM 12)), (a 13, oX1 a (mM 13)), (a 14, aI E 8 (mM 14)), (a 15, oX7 a (mM 15)), (a 16, aI E 11 (mM 16)), (a 17, aI E 4096 (mM 17)), (a 18, aI E 6272 (mM 18)), (a 19, aI E 98 (mM 19)), (a 20, oX2 a), (a 21, oX6 (mM 21)), (a 22, oX6 (mM 22)), (a 23, oX4 a (mM 23)), (a 24, .inl (xO E, 6, .inr (.inr (.inr (.inr (xhf ha)))))), (ha 0, oX6 (mM 60)), (ha 1, oX6 (mM 61)), (ha 2, oX6 (mM 62)), (ha 3, oX6 (mM 63)), (ha 4, oX6 (mM 64)), (ha 5, oX6 (mM 65)), (a 25, oX5 a (o_39.2 25)), (a 26, aC E 24 (mM 26)), (a 27, .inl (xO E, 2, .inr (.inr (.inr (.inr (xsl a)))))), (a 28, oX6 (mM 28)), (a 29, oX6 (mM 29)), (a 30, aZ E 2 (mM 30)), (a 31, oX9 a (mM 31)), (a 32, aI E 8 (mM 32)), (a 33, aI E 48 (mM 33)), (a 34, aI E 16 (mM 34)), (a 35, aZ E 2 (mM 35)), (a 36, aI E 120 (hM 36)), (a 37, aI E 120 (hM 37)), (a 38, aI E 4096 (mM 38)), (a 39, aI E 4096 (mM 39)), (a 40, aI E 4096 (mM 40)), (a 41, aI E 128 (mM 41)), (a 42, aI E 98 (mM 42)), (a 43, aI E 202 (mM 43)), (a 44, aI E 4 (mM 44)), (a 45, aI E 24 (mM 45))]) (fun _ => rfl) (fun _ => ?_)
      refine r.aload_n 2 (DL_law_7 30 rfl) rfl ?_
      obtain ⟨o_40, ho_40, hxt⟩ := xbd hxt
      refine r.callVI 0 rfl rfl (t_X9_wipe E a (mgs hM [31] mM) ho_40) g_L_87 rfl (DL_law_7 31 rfl) rfl ⟨(Nat.le_of_ble_eq_true rfl), (Nat.le_of_ble_eq_true rfl)⟩ ⟨(Nat.le_of_ble_eq_true rfl), (Nat.le_of_ble_eq_true rfl)⟩ (Nat.le_of_ble_eq_true rfl) [37] [0, 1, 2, 3, 4, 5, 6, 7, 8, 9, 10, 11, 12, 13, 14, 15, 16, 17, 18, 19, 20, 21, 22, 23, 24, 25, 26, 27, 28, 29, 30, 31, 32, 33, 34, 35, 36, 38, 39, 40, 41, 42, 43, 44, 45, 46, 47, 48, 49, 50, 51] rfl rfl rfl rfl (by decide) [0, 1, 2, 3, 4, 5, 6, 7, 8, 9, 10, 11, 12, 13, 14, 15, 16, 17, 18, 19, 20, 21, 22, 23, 24, 25, 26, 27, 28, 29, 30, 31, 32, 33, 34, 35, 36, 51, 37, 38, 39, 40, 41, 42, 43, 44, 45, 46, 47, 48, 49, 50] rfl (ws2 := fun _ => [(a 0, oX8 a), (a 1, oX3 a), (a 2, aI E 16 (hM 2)), (a 3, aI E 16 (hM 3)), (a 4, aI E 256 (hM 4)), (a 5, aI E 128 (hM 5)), (a 6, aI E 128 (hM 6)), (a 7, aI E 128 (hM 7)), (a 8, aI E 128 (hM 8)), (a 9, oX0 a (mM 9)), (a 10, aI E 4096 (mM 10)), (a 11, aI E 120 (mM 11)), (a 12, aI E 120 (mM 12)), (a 13, oX1 a (mM 13)), (a 14, aI E 8 (mM 14)), (a 15, oX7 a (mM 15)), (a 16, aI E 11 (mM 16)), (a 17, aI E 4096 (mM 17)), (a 18, aI E 6272 (mM 18)), (a 19, aI E 98 (mM 19)), (a 20, oX2 a), (a 21, oX6 (mM 21)), (a 22, oX6 (mM 22)), (a 23, oX4 a (mM 23)), (a 24, .inl (xO E, 6, .inr (.inr (.inr (.inr (xhf ha)))))), (ha 0, oX6 (mM 60)), (ha 1, oX6 (mM 61)), (ha 2, oX6 (mM 62)), (ha 3, oX6 (mM 63)), (ha 4, oX6 (mM 64)), (ha 5, oX6 (mM 65)), (a 25, oX5 a (o_39.2 25)), (a 26, aC E 24 (mM 26)), (a 27, .inl (xO E, 2, .inr (.inr (.inr (.inr (xsl a)))))), (a 28, oX6 (mM 28)), (a 29, oX6 (mM 29)), (a 30, aZ E 2 (mM 30)), (a 31, oX9 a (o_40.2 31)), (a 32, aI E 8 (mM 32)), (a 33, aI E 48 (mM 33)), (a 34, aI E 16 (mM 34)), (a 35, aZ E 2 (mM 35)), (a 36, aI E 120 (hM 36)), (a 37, aI E 120 (hM 37)), (a 38, aI E 4096 (mM 38)), (a 39, aI E 4096 (mM 39)), (a 40, aI E 4096 (mM 40)), (a 41, aI E 128 (mM 41)), (a 42, aI E 98 (mM 42)), (a 43, aI E 202 (mM 43)), (a 44, aI E 4 (mM 44)), (a 45, aI E 24 (mM 45))]) (fun _ => rfl) (fun _ => ?_)
      refine r.icmp_eq 745 (DL_law_7 32 rfl) rfl hxt (fun _ hxt => ?_) (fun _ hxt => ?_)
      · refine r.iinc (v := (v3 + (5 : Int32))) (lo' := [(3, .int (v3 + (5 : Int32))), (0, .ref b), (1, .ref (a 0)), (2, .ref (a 31))]) 3 (DL_law_8 23 rfl) rfl rfl (Nat.le_of_ble_eq_true rfl) rfl ?_
        refine r.goto 18 (DL_law_8 24 rfl) rfl ?_
        refine r.rel (lo' := [(0, .ref b), (1, .ref (a 0)), (2, .ref (a 31)), (3, .int (v3 + (5 : Int32)))]) [1, 2, 3, 0] rfl ?_
        exact ih ha (v3 + (5 : Int32)) (mgs (mgs (mgs hM [9, 10, 11, 12, 13, 14, 15, 16, 17, 18, 19, 21, 22, 23, 60, 61, 62, 63, 64, 65, 26, 28, 29, 30, 32, 33, 34, 35, 38, 39, 40, 41, 42, 43, 44, 45] mM) [25] o_39.2) [31] o_40.2) hxt
      refine r.iconst (v := (0 : Int32)) (DL_law_7 33 rfl) rfl ?_
      exact absurd (Option.some.inj hxt) (by decide)
    refine xif hxt (fun hc hxt => r.tsIn 673 (DL_law_0 21 rfl) hc hn rfl rfl ?_) (fun _ hxt => ?_)
    · refine r.aload_n 1 (DL_law_7 35 rfl) rfl ?_
      obtain ⟨o_41, ho_41, hxt⟩ := xbd hxt
      refine r.callVI 0 rfl rfl (t_X8_fault E a (mgs hM [25, 26] mM) ho_41) g_L_88 rfl (DL_law_7 36 rfl) rfl ⟨(Nat.le_of_ble_eq_true rfl), (Nat.le_of_ble_eq_true rfl)⟩ ⟨(Nat.le_of_ble_eq_true rfl), (Nat.le_of_ble_eq_true rfl)⟩ (Nat.le_of_ble_eq_true rfl) [0, 31, 32] [1, 2, 3, 4, 5, 6, 7, 8, 9, 10, 11, 12, 13, 14, 15, 16, 17, 18, 19, 20, 21, 22, 23, 24, 25, 26, 27, 28, 29, 30, 33, 34, 35, 36, 37, 38, 39, 40, 41, 42, 43, 44, 45, 46, 47, 48, 49, 50, 51] rfl rfl rfl rfl (by decide) [49, 0, 1, 2, 3, 4, 5, 6, 7, 8, 9, 10, 11, 12, 13, 14, 15, 16, 17, 18, 19, 20, 21, 22, 23, 24, 25, 26, 27, 28, 29, 50, 51, 30, 31, 32, 33, 34, 35, 36, 37, 38, 39, 40, 41, 42, 43, 44, 45, 46, 47, 48] rfl (ws2 := fun _ => [(a 0, oX8 a), (a 1, oX3 a), (a 2, aI E 16 (hM 2)), (a 3, aI E 16 (hM 3)), (a 4, aI E 256 (hM 4)), (a 5, aI E 128 (hM 5)), (a 6, aI E 128 (hM 6)), (a 7, aI E 128 (hM 7)), (a 8, aI E 128 (hM 8)), (a 9, oX0 a (mM 9)), (a 10, aI E 4096 (mM 10)), (a 11, aI E 120 (mM 11)), (a 12, aI E 120 (mM 12)), (a 13, oX1 a (mM 13)), (a 14, aI E 8 (mM 14)), (a 15, oX7 a (mM 15)), (a 16, aI E 11 (mM 16)), (a 17, aI E 4096 (mM 17)), (a 18, aI E 6272 (mM 18)), (a 19, aI E 98 (mM 19)), (a 20, oX2 a), (a 21, oX6 (mM 21)), (a 22, oX6 (mM 22)), (a 23, oX4 a (mM 23)), (a 24, .inl (xO E, 6, .inr (.inr (.inr (.inr (xhf ha)))))), (ha 0, oX6 (mM 60)), (ha 1, oX6 (mM 61)), (ha 2, oX6 (mM 62)), (ha 3, oX6 (mM 63)), (ha 4, oX6 (mM 64)), (ha 5, oX6 (mM 65)), (a 25, oX5 a (mM 25)), (a 26, aC E 24 (mM 26)), (a 27, .inl (xO E, 2, .inr (.inr (.inr (.inr (xsl a)))))), (a 28, oX6 (mM 28)), (a 29, oX6 (mM 29)), (a 30, aZ E 2 (mM 30)), (a 31, oX9 a (mM 31)), (a 32, aI E 8 (mM 32)), (a 33, aI E 48 (mM 33)), (a 34, aI E 16 (mM 34)), (a 35, aZ E 2 (mM 35)), (a 36, aI E 120 (hM 36)), (a 37, aI E 120 (hM 37)), (a 38, aI E 4096 (mM 38)), (a 39, aI E 4096 (mM 39)), (a 40, aI E 4096 (mM 40)), (a 41, aI E 128 (mM 41)), (a 42, aI E 98 (mM 42)), (a 43, aI E 202 (mM 43)), (a 44, aI E 4 (mM 44)), (a 45, aI E 24 (mM 45))]) (fun _ => rfl) (fun _ => ?_)
      refine r.aload_n 2 (DL_law_7 37 rfl) rfl ?_
      obtain ⟨o_42, ho_42, hxt⟩ := xbd hxt
      refine r.callVI 0 rfl rfl (t_X9_fault E a (mgs hM [31, 45] mM) ho_42) g_L_91 rfl (DL_law_7 38 rfl) rfl ⟨(Nat.le_of_ble_eq_true rfl), (Nat.le_of_ble_eq_true rfl)⟩ ⟨(Nat.le_of_ble_eq_true rfl), (Nat.le_of_ble_eq_true rfl)⟩ (Nat.le_of_ble_eq_true rfl) [37, 51] [0, 1, 2, 3, 4, 5, 6, 7, 8, 9, 10, 11, 12, 13, 14, 15, 16, 17, 18, 19, 20, 21, 22, 23, 24, 25, 26, 27, 28, 29, 30, 31, 32, 33, 34, 35, 36, 38, 39, 40, 41, 42, 43, 44, 45, 46, 47, 48, 49, 50] rfl rfl rfl rfl (by decide) [0, 1, 2, 3, 4, 5, 6, 7, 8, 9, 10, 11, 12, 13, 14, 15, 16, 17, 18, 19, 20, 21, 22, 23, 24, 25, 26, 27, 28, 29, 30, 31, 32, 33, 34, 35, 36, 50, 37, 38, 39, 40, 41, 42, 43, 44, 45, 46, 47, 48, 49, 51] rfl (ws2 := fun _ => [(a 0, oX8 a), (a 1, oX3 a), (a 2, aI E 16 (hM 2)), (a 3, aI E 16 (hM 3)), (a 4, aI E 256 (hM 4)), (a 5, aI E 128 (hM 5)), (a 6, aI E 128 (hM 6)), (a 7, aI E 128 (hM 7)), (a 8, aI E 128 (hM 8)), (a 9, oX0 a (mM 9)), (a 10, aI E 4096 (mM 10)), (a 11, aI E 120 (mM 11)), (a 12, aI E 120 (mM 12)), (a 13, oX1 a (mM 13)), (a 14, aI E 8 (mM 14)), (a 15, oX7 a (mM 15)), (a 16, aI E 11 (mM 16)), (a 17, aI E 4096 (mM 17)), (a 18, aI E 6272 (mM 18)), (a 19, aI E 98 (mM 19)), (a 20, oX2 a), (a 21, oX6 (mM 21)), (a 22, oX6 (mM 22)), (a 23, oX4 a (mM 23)), (a 24, .inl (xO E, 6, .inr (.inr (.inr (.inr (xhf ha)))))), (ha 0, oX6 (mM 60)), (ha 1, oX6 (mM 61)), (ha 2, oX6 (mM 62)), (ha 3, oX6 (mM 63)), (ha 4, oX6 (mM 64)), (ha 5, oX6 (mM 65)), (a 25, oX5 a (mM 25)), (a 26, aC E 24 (mM 26)), (a 27, .inl (xO E, 2, .inr (.inr (.inr (.inr (xsl a)))))), (a 28, oX6 (mM 28)), (a 29, oX6 (mM 29)), (a 30, aZ E 2 (mM 30)), (a 31, oX9 a (mM 31)), (a 32, aI E 8 (mM 32)), (a 33, aI E 48 (mM 33)), (a 34, aI E 16 (mM 34)), (a 35, aZ E 2 (mM 35)), (a 36, aI E 120 (hM 36)), (a 37, aI E 120 (hM 37)), (a 38, aI E 4096 (mM 38)), (a 39, aI E 4096 (mM 39)), (a 40, aI E 4096 (mM 40)), (a 41, aI E 128 (mM 41)), (a 42, aI E 98 (mM 42)), (a 43, aI E 202 (mM 43)), (a 44, aI E 4 (mM 44)), (a 45, aI E 24 (mM 45))]) (fun _ => rfl) (fun _ => ?_)
      refine r.icmp_eq 745 (DL_law_7 39 rfl) rfl hxt (fun _ hxt => ?_) (fun _ hxt => ?_)
      · refine r.iinc (v := (v3 + (5 : Int32))) (lo' := [(3, .int (v3 + (5 : Int32))), (0, .ref b), (1, .ref (a 0)), (2, .ref (a 31))]) 3 (DL_law_8 23 rfl) rfl rfl (Nat.le_of_ble_eq_true rfl) rfl ?_
        refine r.goto 18 (DL_law_8 24 rfl) rfl ?_
        refine r.rel (lo' := [(0, .ref b), (1, .ref (a 0)), (2, .ref (a 31)), (3, .int (v3 + (5 : Int32)))]) [1, 2, 3, 0] rfl ?_
        exact ih ha (v3 + (5 : Int32)) (mgs hM [9, 10, 11, 12, 13, 14, 15, 16, 17, 18, 19, 21, 22, 23, 60, 61, 62, 63, 64, 65, 25, 26, 28, 29, 30, 31, 32, 33, 34, 35, 38, 39, 40, 41, 42, 43, 44, 45] mM) hxt
      refine r.iconst (v := (0 : Int32)) (DL_law_7 40 rfl) rfl ?_
      exact absurd (Option.some.inj hxt) (by decide)
    refine xif hxt (fun hc hxt => r.tsIn 686 (DL_law_0 21 rfl) hc hn rfl rfl ?_) (fun _ hxt => ?_)
    · refine r.aload_n 1 (DL_law_7 42 rfl) rfl ?_
      obtain ⟨o_43, ho_43, hxt⟩ := xbd hxt
      refine r.callVI 0 rfl rfl (t_X8_undo E a ha (mgs hM [21, 23, 60, 61, 62, 63, 64, 65] mM) ho_43) g_L_92 rfl (DL_law_7 43 rfl) rfl ⟨(Nat.le_of_ble_eq_true rfl), (Nat.le_of_ble_eq_true rfl)⟩ ⟨(Nat.le_of_ble_eq_true rfl), (Nat.le_of_ble_eq_true rfl)⟩ (Nat.le_of_ble_eq_true rfl) [0, 21, 23, 24, 25, 26, 27, 28, 29, 30] [1, 2, 3, 4, 5, 6, 7, 8, 9, 10, 11, 12, 13, 14, 15, 16, 17, 18, 19, 20, 22, 31, 32, 33, 34, 35, 36, 37, 38, 39, 40, 41, 42, 43, 44, 45, 46, 47, 48, 49, 50, 51] rfl rfl rfl rfl (by decide) [42, 0, 1, 2, 3, 4, 5, 6, 7, 8, 9, 10, 11, 12, 13, 14, 15, 16, 17, 18, 19, 43, 20, 44, 45, 46, 47, 48, 49, 50, 51, 21, 22, 23, 24, 25, 26, 27, 28, 29, 30, 31, 32, 33, 34, 35, 36, 37, 38, 39, 40, 41] rfl (ws2 := fun _ => [(a 0, oX8 a), (a 1, oX3 a), (a 2, aI E 16 (hM 2)), (a 3, aI E 16 (hM 3)), (a 4, aI E 256 (hM 4)), (a 5, aI E 128 (hM 5)), (a 6, aI E 128 (hM 6)), (a 7, aI E 128 (hM 7)), (a 8, aI E 128 (hM 8)), (a 9, oX0 a (mM 9)), (a 10, aI E 4096 (mM 10)), (a 11, aI E 120 (mM 11)), (a 12, aI E 120 (mM 12)), (a 13, oX1 a (mM 13)), (a 14, aI E 8 (mM 14)), (a 15, oX7 a (mM 15)), (a 16, aI E 11 (mM 16)), (a 17, aI E 4096 (mM 17)), (a 18, aI E 6272 (mM 18)), (a 19, aI E 98 (mM 19)), (a 20, oX2 a), (a 21, oX6 (o_43.2 21)), (a 22, oX6 (mM 22)), (a 23, oX4 a (o_43.2 23)), (a 24, .inl (xO E, 6, .inr (.inr (.inr (.inr (xhf ha)))))), (ha 0, oX6 (mM 60)), (ha 1, oX6 (mM 61)), (ha 2, oX6 (mM 62)), (ha 3, oX6 (mM 63)), (ha 4, oX6 (mM 64)), (ha 5, oX6 (mM 65)), (a 25, oX5 a (mM 25)), (a 26, aC E 24 (mM 26)), (a 27, .inl (xO E, 2, .inr (.inr (.inr (.inr (xsl a)))))), (a 28, oX6 (mM 28)), (a 29, oX6 (mM 29)), (a 30, aZ E 2 (mM 30)), (a 31, oX9 a (mM 31)), (a 32, aI E 8 (mM 32)), (a 33, aI E 48 (mM 33)), (a 34, aI E 16 (mM 34)), (a 35, aZ E 2 (mM 35)), (a 36, aI E 120 (hM 36)), (a 37, aI E 120 (hM 37)), (a 38, aI E 4096 (mM 38)), (a 39, aI E 4096 (mM 39)), (a 40, aI E 4096 (mM 40)), (a 41, aI E 128 (mM 41)), (a 42, aI E 98 (mM 42)), (a 43, aI E 202 (mM 43)), (a 44, aI E 4 (mM 44)), (a 45, aI E 24 (mM 45))]) (fun _ => rfl) (fun _ => ?_)
      refine r.aload_n 2 (DL_law_7 44 rfl) rfl ?_
      obtain ⟨o_44, ho_44, hxt⟩ := xbd hxt
      refine r.callVI 0 rfl rfl (t_X9_undo E a (mgs hM [31, 32, 33] mM) ho_44) g_L_95 rfl (DL_law_7 45 rfl) rfl ⟨(Nat.le_of_ble_eq_true rfl), (Nat.le_of_ble_eq_true rfl)⟩ ⟨(Nat.le_of_ble_eq_true rfl), (Nat.le_of_ble_eq_true rfl)⟩ (Nat.le_of_ble_eq_true rfl) [37, 38, 39] [0, 1, 2, 3, 4, 5, 6, 7, 8, 9, 10, 11, 12, 13, 14, 15, 16, 17, 18, 19, 20, 21, 22, 23, 24, 25, 26, 27, 28, 29, 30, 31, 32, 33, 34, 35, 36, 40, 41, 42, 43, 44, 45, 46, 47, 48, 49, 50, 51] rfl rfl rfl rfl (by decide) [0, 1, 2, 3, 4, 5, 6, 7, 8, 9, 10, 11, 12, 13, 14, 15, 16, 17, 18, 19, 20, 21, 22, 23, 24, 25, 26, 27, 28, 29, 30, 31, 32, 33, 34, 35, 36, 49, 50, 51, 37, 38, 39, 40, 41, 42, 43, 44, 45, 46, 47, 48] rfl (ws2 := fun _ => [(a 0, oX8 a), (a 1, oX3 a), (a 2, aI E 16 (hM 2)), (a 3, aI E 16 (hM 3)), (a 4, aI E 256 (hM 4)), (a 5, aI E 128 (hM 5)), (a 6, aI E 128 (hM 6)), (a 7, aI E 128 (hM 7)), (a 8, aI E 128 (hM 8)), (a 9, oX0 a (mM 9)), (a 10, aI E 4096 (mM 10)), (a 11, aI E 120 (mM 11)), (a 12, aI E 120 (mM 12)), (a 13, oX1 a (mM 13)), (a 14, aI E 8 (mM 14)), (a 15, oX7 a (mM 15)), (a 16, aI E 11 (mM 16)), (a 17, aI E 4096 (mM 17)), (a 18, aI E 6272 (mM 18)), (a 19, aI E 98 (mM 19)), (a 20, oX2 a), (a 21, oX6 (o_43.2 21)), (a 22, oX6 (mM 22)), (a 23, oX4 a (o_43.2 23)), (a 24, .inl (xO E, 6, .inr (.inr (.inr (.inr (xhf ha)))))), (ha 0, oX6 (mM 60)), (ha 1, oX6 (mM 61)), (ha 2, oX6 (mM 62)), (ha 3, oX6 (mM 63)), (ha 4, oX6 (mM 64)), (ha 5, oX6 (mM 65)), (a 25, oX5 a (mM 25)), (a 26, aC E 24 (mM 26)), (a 27, .inl (xO E, 2, .inr (.inr (.inr (.inr (xsl a)))))), (a 28, oX6 (mM 28)), (a 29, oX6 (mM 29)), (a 30, aZ E 2 (mM 30)), (a 31, oX9 a (o_44.2 31)), (a 32, aI E 8 (o_44.2 32)), (a 33, aI E 48 (mM 33)), (a 34, aI E 16 (mM 34)), (a 35, aZ E 2 (mM 35)), (a 36, aI E 120 (hM 36)), (a 37, aI E 120 (hM 37)), (a 38, aI E 4096 (mM 38)), (a 39, aI E 4096 (mM 39)), (a 40, aI E 4096 (mM 40)), (a 41, aI E 128 (mM 41)), (a 42, aI E 98 (mM 42)), (a 43, aI E 202 (mM 43)), (a 44, aI E 4 (mM 44)), (a 45, aI E 24 (mM 45))]) (fun _ => rfl) (fun _ => ?_)
      refine r.icmp_eq 745 (DL_law_7 46 rfl) rfl hxt (fun _ hxt => ?_) (fun _ hxt => ?_)
      · refine r.iinc (v := (v3 + (5 : Int32))) (lo' := [(3, .int (v3 + (5 : Int32))), (0, .ref b), (1, .ref (a 0)), (2, .ref (a 31))]) 3 (DL_law_8 23 rfl) rfl rfl (Nat.le_of_ble_eq_true rfl) rfl ?_
        refine r.goto 18 (DL_law_8 24 rfl) rfl ?_
        refine r.rel (lo' := [(0, .ref b), (1, .ref (a 0)), (2, .ref (a 31)), (3, .int (v3 + (5 : Int32)))]) [1, 2, 3, 0] rfl ?_
        exact ih ha (v3 + (5 : Int32)) (mgs (mgs (mgs hM [9, 10, 11, 12, 13, 14, 15, 16, 17, 18, 19, 22, 60, 61, 62, 63, 64, 65, 25, 26, 28, 29, 30, 33, 34, 35, 38, 39, 40, 41, 42, 43, 44, 45] mM) [21, 23] o_43.2) [31, 32] o_44.2) hxt
      refine r.iconst (v := (0 : Int32)) (DL_law_7 47 rfl) rfl ?_
      exact absurd (Option.some.inj hxt) (by decide)
    refine xif hxt (fun hc hxt => r.tsIn 699 (DL_law_0 21 rfl) hc hn rfl rfl ?_) (fun _ hxt => ?_)
    · refine r.aload_n 1 (DL_law_7 49 rfl) rfl ?_
      refine r.aload_n 0 (DL_law_7 50 rfl) rfl ?_
      refine r.iload_n 3 (DL_law_7 51 rfl) rfl ?_
      refine r.iconst (v := (1 : Int32)) (DL_law_7 52 rfl) rfl ?_
      refine r.iadd (DL_law_7 53 rfl) ?_
      obtain ⟨hin, hxt⟩ := xgd_some hxt
      refine hsld hin (DL_law_7 54 rfl) ?_
      obtain ⟨o_45, ho_45, hxt⟩ := xbd hxt
      refine r.callVI 0 rfl rfl (t_X8_save E a (xs (v3 + (1 : Int32)).toNatClampNeg) (mgs hM [21, 28, 29, 30] mM) ho_45) g_L_96 rfl (DL_law_7 55 rfl) rfl ⟨(Nat.le_of_ble_eq_true rfl), (Nat.le_of_ble_eq_true rfl)⟩ ⟨(Nat.le_of_ble_eq_true rfl), (Nat.le_of_ble_eq_true rfl)⟩ (Nat.le_of_ble_eq_true rfl) [0, 21, 33, 34, 35, 36] [1, 2, 3, 4, 5, 6, 7, 8, 9, 10, 11, 12, 13, 14, 15, 16, 17, 18, 19, 20, 22, 23, 24, 25, 26, 27, 28, 29, 30, 31, 32, 37, 38, 39, 40, 41, 42, 43, 44, 45, 46, 47, 48, 49, 50, 51] rfl rfl rfl rfl (by decide) [46, 0, 1, 2, 3, 4, 5, 6, 7, 8, 9, 10, 11, 12, 13, 14, 15, 16, 17, 18, 19, 47, 20, 21, 22, 23, 24, 25, 26, 27, 28, 29, 30, 48, 49, 50, 51, 31, 32, 33, 34, 35, 36, 37, 38, 39, 40, 41, 42, 43, 44, 45] rfl (ws2 := fun _ => [(a 0, oX8 a), (a 1, oX3 a), (a 2, aI E 16 (hM 2)), (a 3, aI E 16 (hM 3)), (a 4, aI E 256 (hM 4)), (a 5, aI E 128 (hM 5)), (a 6, aI E 128 (hM 6)), (a 7, aI E 128 (hM 7)), (a 8, aI E 128 (hM 8)), (a 9, oX0 a (mM 9)), (a 10, aI E 4096 (mM 10)), (a 11, aI E 120 (mM 11)), (a 12, aI E 120 (mM 12)), (a 13, oX1 a (mM 13)), (a 14, aI E 8 (mM 14)), (a 15, oX7 a (mM 15)), (a 16, aI E 11 (mM 16)), (a 17, aI E 4096 (mM 17)), (a 18, aI E 6272 (mM 18)), (a 19, aI E 98 (mM 19)), (a 20, oX2 a), (a 21, oX6 (mM 21)), (a 22, oX6 (mM 22)), (a 23, oX4 a (mM 23)), (a 24, .inl (xO E, 6, .inr (.inr (.inr (.inr (xhf ha)))))), (ha 0, oX6 (mM 60)), (ha 1, oX6 (mM 61)), (ha 2, oX6 (mM 62)), (ha 3, oX6 (mM 63)), (ha 4, oX6 (mM 64)), (ha 5, oX6 (mM 65)), (a 25, oX5 a (mM 25)), (a 26, aC E 24 (mM 26)), (a 27, .inl (xO E, 2, .inr (.inr (.inr (.inr (xsl a)))))), (a 28, oX6 (o_45.2 28)), (a 29, oX6 (o_45.2 29)), (a 30, aZ E 2 (o_45.2 30)), (a 31, oX9 a (mM 31)), (a 32, aI E 8 (mM 32)), (a 33, aI E 48 (mM 33)), (a 34, aI E 16 (mM 34)), (a 35, aZ E 2 (mM 35)), (a 36, aI E 120 (hM 36)), (a 37, aI E 120 (hM 37)), (a 38, aI E 4096 (mM 38)), (a 39, aI E 4096 (mM 39)), (a 40, aI E 4096 (mM 40)), (a 41, aI E 128 (mM 41)), (a 42, aI E 98 (mM 42)), (a 43, aI E 202 (mM 43)), (a 44, aI E 4 (mM 44)), (a 45, aI E 24 (mM 45))]) (fun _ => rfl) (fun _ => ?_)
      refine r.aload_n 2 (DL_law_7 56 rfl) rfl ?_
      refine r.aload_n 0 (DL_law_7 57 rfl) rfl ?_
      refine r.iload_n 3 (DL_law_7 58 rfl) rfl ?_
      refine r.iconst (v := (1 : Int32)) (DL_law_7 59 rfl) rfl ?_
      refine r.iadd (DL_law_8 0 rfl) ?_
      obtain ⟨hin, hxt⟩ := xgd_some hxt
      refine hsld hin (DL_law_8 1 rfl) ?_
      obtain ⟨o_46, ho_46, hxt⟩ := xbd hxt
      refine r.callVI 0 rfl rfl (t_X9_save E a (xs (v3 + (1 : Int32)).toNatClampNeg) (mgs hM [31, 32, 34, 35] mM) ho_46) g_L_99 rfl (DL_law_8 2 rfl) rfl ⟨(Nat.le_of_ble_eq_true rfl), (Nat.le_of_ble_eq_true rfl)⟩ ⟨(Nat.le_of_ble_eq_true rfl), (Nat.le_of_ble_eq_true rfl)⟩ (Nat.le_of_ble_eq_true rfl) [37, 38, 40, 41] [0, 1, 2, 3, 4, 5, 6, 7, 8, 9, 10, 11, 12, 13, 14, 15, 16, 17, 18, 19, 20, 21, 22, 23, 24, 25, 26, 27, 28, 29, 30, 31, 32, 33, 34, 35, 36, 39, 42, 43, 44, 45, 46, 47, 48, 49, 50, 51] rfl rfl rfl rfl (by decide) [0, 1, 2, 3, 4, 5, 6, 7, 8, 9, 10, 11, 12, 13, 14, 15, 16, 17, 18, 19, 20, 21, 22, 23, 24, 25, 26, 27, 28, 29, 30, 31, 32, 33, 34, 35, 36, 48, 49, 37, 50, 51, 38, 39, 40, 41, 42, 43, 44, 45, 46, 47] rfl (ws2 := fun _ => [(a 0, oX8 a), (a 1, oX3 a), (a 2, aI E 16 (hM 2)), (a 3, aI E 16 (hM 3)), (a 4, aI E 256 (hM 4)), (a 5, aI E 128 (hM 5)), (a 6, aI E 128 (hM 6)), (a 7, aI E 128 (hM 7)), (a 8, aI E 128 (hM 8)), (a 9, oX0 a (mM 9)), (a 10, aI E 4096 (mM 10)), (a 11, aI E 120 (mM 11)), (a 12, aI E 120 (mM 12)), (a 13, oX1 a (mM 13)), (a 14, aI E 8 (mM 14)), (a 15, oX7 a (mM 15)), (a 16, aI E 11 (mM 16)), (a 17, aI E 4096 (mM 17)), (a 18, aI E 6272 (mM 18)), (a 19, aI E 98 (mM 19)), (a 20, oX2 a), (a 21, oX6 (mM 21)), (a 22, oX6 (mM 22)), (a 23, oX4 a (mM 23)), (a 24, .inl (xO E, 6, .inr (.inr (.inr (.inr (xhf ha)))))), (ha 0, oX6 (mM 60)), (ha 1, oX6 (mM 61)), (ha 2, oX6 (mM 62)), (ha 3, oX6 (mM 63)), (ha 4, oX6 (mM 64)), (ha 5, oX6 (mM 65)), (a 25, oX5 a (mM 25)), (a 26, aC E 24 (mM 26)), (a 27, .inl (xO E, 2, .inr (.inr (.inr (.inr (xsl a)))))), (a 28, oX6 (o_45.2 28)), (a 29, oX6 (o_45.2 29)), (a 30, aZ E 2 (o_45.2 30)), (a 31, oX9 a (mM 31)), (a 32, aI E 8 (mM 32)), (a 33, aI E 48 (mM 33)), (a 34, aI E 16 (o_46.2 34)), (a 35, aZ E 2 (o_46.2 35)), (a 36, aI E 120 (hM 36)), (a 37, aI E 120 (hM 37)), (a 38, aI E 4096 (mM 38)), (a 39, aI E 4096 (mM 39)), (a 40, aI E 4096 (mM 40)), (a 41, aI E 128 (mM 41)), (a 42, aI E 98 (mM 42)), (a 43, aI E 202 (mM 43)), (a 44, aI E 4 (mM 44)), (a 45, aI E 24 (mM 45))]) (fun _ => rfl) (fun _ => ?_)
      refine r.icmp_eq 745 (DL_law_8 3 rfl) rfl hxt (fun _ hxt => ?_) (fun _ hxt => ?_)
      · refine r.iinc (v := (v3 + (5 : Int32))) (lo' := [(3, .int (v3 + (5 : Int32))), (0, .ref b), (1, .ref (a 0)), (2, .ref (a 31))]) 3 (DL_law_8 23 rfl) rfl rfl (Nat.le_of_ble_eq_true rfl) rfl ?_
        refine r.goto 18 (DL_law_8 24 rfl) rfl ?_
        refine r.rel (lo' := [(0, .ref b), (1, .ref (a 0)), (2, .ref (a 31)), (3, .int (v3 + (5 : Int32)))]) [1, 2, 3, 0] rfl ?_
        exact ih ha (v3 + (5 : Int32)) (mgs (mgs (mgs hM [9, 10, 11, 12, 13, 14, 15, 16, 17, 18, 19, 21, 22, 23, 60, 61, 62, 63, 64, 65, 25, 26, 31, 32, 33, 38, 39, 40, 41, 42, 43, 44, 45] mM) [28, 29, 30] o_45.2) [34, 35] o_46.2) hxt
      refine r.iconst (v := (0 : Int32)) (DL_law_8 4 rfl) rfl ?_
      exact absurd (Option.some.inj hxt) (by decide)
    refine xif hxt (fun hc hxt => r.tsIn 722 (DL_law_0 21 rfl) hc hn rfl rfl ?_) (fun _ hxt => ?_)
    · refine r.aload_n 1 (DL_law_8 6 rfl) rfl ?_
      refine r.aload_n 0 (DL_law_8 7 rfl) rfl ?_
      refine r.iload_n 3 (DL_law_8 8 rfl) rfl ?_
      refine r.iconst (v := (1 : Int32)) (DL_law_8 9 rfl) rfl ?_
      refine r.iadd (DL_law_8 10 rfl) ?_
      obtain ⟨hin, hxt⟩ := xgd_some hxt
      refine hsld hin (DL_law_8 11 rfl) ?_
      obtain ⟨o_47, ho_47, hxt⟩ := xbd hxt
      refine r.callVI 0 rfl rfl (t_X8_restore E a ha (xs (v3 + (1 : Int32)).toNatClampNeg) (mgs hM [21, 23, 60, 61, 62, 63, 64, 65, 28, 29, 30] mM) ho_47) g_L_100 rfl (DL_law_8 12 rfl) rfl ⟨(Nat.le_of_ble_eq_true rfl), (Nat.le_of_ble_eq_true rfl)⟩ ⟨(Nat.le_of_ble_eq_true rfl), (Nat.le_of_ble_eq_true rfl)⟩ (Nat.le_of_ble_eq_true rfl) [0, 21, 23, 24, 25, 26, 27, 28, 29, 30, 33, 34, 35, 36] [1, 2, 3, 4, 5, 6, 7, 8, 9, 10, 11, 12, 13, 14, 15, 16, 17, 18, 19, 20, 22, 31, 32, 37, 38, 39, 40, 41, 42, 43, 44, 45, 46, 47, 48, 49, 50, 51] rfl rfl rfl rfl (by decide) [38, 0, 1, 2, 3, 4, 5, 6, 7, 8, 9, 10, 11, 12, 13, 14, 15, 16, 17, 18, 19, 39, 20, 40, 41, 42, 43, 44, 45, 46, 47, 21, 22, 48, 49, 50, 51, 23, 24, 25, 26, 27, 28, 29, 30, 31, 32, 33, 34, 35, 36, 37] rfl (ws2 := fun ha_48 => [(a 0, oX8 a), (a 1, oX3 a), (a 2, aI E 16 (hM 2)), (a 3, aI E 16 (hM 3)), (a 4, aI E 256 (hM 4)), (a 5, aI E 128 (hM 5)), (a 6, aI E 128 (hM 6)), (a 7, aI E 128 (hM 7)), (a 8, aI E 128 (hM 8)), (a 9, oX0 a (mM 9)), (a 10, aI E 4096 (mM 10)), (a 11, aI E 120 (mM 11)), (a 12, aI E 120 (mM 12)), (a 13, oX1 a (mM 13)), (a 14, aI E 8 (mM 14)), (a 15, oX7 a (mM 15)), (a 16, aI E 11 (mM 16)), (a 17, aI E 4096 (mM 17)), (a 18, aI E 6272 (mM 18)), (a 19, aI E 98 (mM 19)), (a 20, oX2 a), (a 21, oX6 (o_47.2 21)), (a 22, oX6 (mM 22)), (a 23, oX4 a (o_47.2 23)), (a 24, .inl (xO E, 6, .inr (.inr (.inr (.inr (xhf ha_48)))))), (ha_48 0, oX6 (o_47.2 60)), (ha_48 1, oX6 (o_47.2 61)), (ha_48 2, oX6 (o_47.2 62)), (ha_48 3, oX6 (o_47.2 63)), (ha_48 4, oX6 (o_47.2 64)), (ha_48 5, oX6 (o_47.2 65)), (a 25, oX5 a (mM 25)), (a 26, aC E 24 (mM 26)), (a 27, .inl (xO E, 2, .inr (.inr (.inr (.inr (xsl a)))))), (a 28, oX6 (mM 28)), (a 29, oX6 (mM 29)), (a 30, aZ E 2 (mM 30)), (a 31, oX9 a (mM 31)), (a 32, aI E 8 (mM 32)), (a 33, aI E 48 (mM 33)), (a 34, aI E 16 (mM 34)), (a 35, aZ E 2 (mM 35)), (a 36, aI E 120 (hM 36)), (a 37, aI E 120 (hM 37)), (a 38, aI E 4096 (mM 38)), (a 39, aI E 4096 (mM 39)), (a 40, aI E 4096 (mM 40)), (a 41, aI E 128 (mM 41)), (a 42, aI E 98 (mM 42)), (a 43, aI E 202 (mM 43)), (a 44, aI E 4 (mM 44)), (a 45, aI E 24 (mM 45))]) (fun _ => rfl) (fun ha_48 => ?_)
      refine r.aload_n 2 (DL_law_8 13 rfl) rfl ?_
      refine r.aload_n 0 (DL_law_8 14 rfl) rfl ?_
      refine r.iload_n 3 (DL_law_8 15 rfl) rfl ?_
      refine r.iconst (v := (1 : Int32)) (DL_law_8 16 rfl) rfl ?_
      refine r.iadd (DL_law_8 17 rfl) ?_
      obtain ⟨hin, hxt⟩ := xgd_some hxt
      refine hsld hin (DL_law_8 18 rfl) ?_
      obtain ⟨o_49, ho_49, hxt⟩ := xbd hxt
      refine r.callVI 0 rfl rfl (t_X9_restore E a (xs (v3 + (1 : Int32)).toNatClampNeg) (mgs hM [31, 32, 33, 34, 35] mM) ho_49) g_L_103 rfl (DL_law_8 19 rfl) rfl ⟨(Nat.le_of_ble_eq_true rfl), (Nat.le_of_ble_eq_true rfl)⟩ ⟨(Nat.le_of_ble_eq_true rfl), (Nat.le_of_ble_eq_true rfl)⟩ (Nat.le_of_ble_eq_true rfl) [37, 38, 39, 40, 41] [0, 1, 2, 3, 4, 5, 6, 7, 8, 9, 10, 11, 12, 13, 14, 15, 16, 17, 18, 19, 20, 21, 22, 23, 24, 25, 26, 27, 28, 29, 30, 31, 32, 33, 34, 35, 36, 42, 43, 44, 45, 46, 47, 48, 49, 50, 51] rfl rfl rfl rfl (by decide) [0, 1, 2, 3, 4, 5, 6, 7, 8, 9, 10, 11, 12, 13, 14, 15, 16, 17, 18, 19, 20, 21, 22, 23, 24, 25, 26, 27, 28, 29, 30, 31, 32, 33, 34, 35, 36, 47, 48, 49, 50, 51, 37, 38, 39, 40, 41, 42, 43, 44, 45, 46] rfl (ws2 := fun _ => [(a 0, oX8 a), (a 1, oX3 a), (a 2, aI E 16 (hM 2)), (a 3, aI E 16 (hM 3)), (a 4, aI E 256 (hM 4)), (a 5, aI E 128 (hM 5)), (a 6, aI E 128 (hM 6)), (a 7, aI E 128 (hM 7)), (a 8, aI E 128 (hM 8)), (a 9, oX0 a (mM 9)), (a 10, aI E 4096 (mM 10)), (a 11, aI E 120 (mM 11)), (a 12, aI E 120 (mM 12)), (a 13, oX1 a (mM 13)), (a 14, aI E 8 (mM 14)), (a 15, oX7 a (mM 15)), (a 16, aI E 11 (mM 16)), (a 17, aI E 4096 (mM 17)), (a 18, aI E 6272 (mM 18)), (a 19, aI E 98 (mM 19)), (a 20, oX2 a), (a 21, oX6 (o_47.2 21)), (a 22, oX6 (mM 22)), (a 23, oX4 a (o_47.2 23)), (a 24, .inl (xO E, 6, .inr (.inr (.inr (.inr (xhf ha_48)))))), (ha_48 0, oX6 (o_47.2 60)), (ha_48 1, oX6 (o_47.2 61)), (ha_48 2, oX6 (o_47.2 62)), (ha_48 3, oX6 (o_47.2 63)), (ha_48 4, oX6 (o_47.2 64)), (ha_48 5, oX6 (o_47.2 65)), (a 25, oX5 a (mM 25)), (a 26, aC E 24 (mM 26)), (a 27, .inl (xO E, 2, .inr (.inr (.inr (.inr (xsl a)))))), (a 28, oX6 (mM 28)), (a 29, oX6 (mM 29)), (a 30, aZ E 2 (mM 30)), (a 31, oX9 a (o_49.2 31)), (a 32, aI E 8 (o_49.2 32)), (a 33, aI E 48 (o_49.2 33)), (a 34, aI E 16 (mM 34)), (a 35, aZ E 2 (mM 35)), (a 36, aI E 120 (hM 36)), (a 37, aI E 120 (hM 37)), (a 38, aI E 4096 (mM 38)), (a 39, aI E 4096 (mM 39)), (a 40, aI E 4096 (mM 40)), (a 41, aI E 128 (mM 41)), (a 42, aI E 98 (mM 42)), (a 43, aI E 202 (mM 43)), (a 44, aI E 4 (mM 44)), (a 45, aI E 24 (mM 45))]) (fun _ => rfl) (fun _ => ?_)
      refine r.icmp_eq 745 (DL_law_8 20 rfl) rfl hxt (fun _ hxt => ?_) (fun _ hxt => ?_)
      · refine r.iinc (v := (v3 + (5 : Int32))) (lo' := [(3, .int (v3 + (5 : Int32))), (0, .ref b), (1, .ref (a 0)), (2, .ref (a 31))]) 3 (DL_law_8 23 rfl) rfl rfl (Nat.le_of_ble_eq_true rfl) rfl ?_
        refine r.goto 18 (DL_law_8 24 rfl) rfl ?_
        refine r.rel (lo' := [(0, .ref b), (1, .ref (a 0)), (2, .ref (a 31)), (3, .int (v3 + (5 : Int32)))]) [1, 2, 3, 0] rfl ?_
        exact ih ha_48 (v3 + (5 : Int32)) (mgs (mgs (mgs hM [9, 10, 11, 12, 13, 14, 15, 16, 17, 18, 19, 22, 25, 26, 28, 29, 30, 34, 35, 38, 39, 40, 41, 42, 43, 44, 45] mM) [21, 23, 60, 61, 62, 63, 64, 65] o_47.2) [31, 32, 33] o_49.2) hxt
      refine r.iconst (v := (0 : Int32)) (DL_law_8 21 rfl) rfl ?_
      exact absurd (Option.some.inj hxt) (by decide)
    cases hxt
