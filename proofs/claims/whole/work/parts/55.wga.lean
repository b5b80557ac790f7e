set_option maxRecDepth 100000 in
set_option maxHeartbeats 4000000 in
theorem t_X8_set (E : xE) (a : Nat → Nat) (ha : Nat → Nat) (x1 : Int32) (x2 : Int32) (hM : Mem) {o : Int32 × Mem} (hxt : xt_X8_set x1 x2 hM = some o) : xMI (S := Nat → Nat) E yX8_set cX8_set 4 .int 2 0 0 [.ref (a 0), .int x1, .int x2] [(a 0, oX8 a), (a 21, oX6 (hM 21)), (a 23, oX4 a (hM 23)), (a 24, .inl (xO E, 6, .inr (.inr (.inr (.inr (xhf ha)))))), (ha 0, oX6 (hM 60)), (ha 1, oX6 (hM 61)), (ha 2, oX6 (hM 62)), (ha 3, oX6 (hM 63)), (ha 4, oX6 (hM 64)), (ha 5, oX6 (hM 65))] (fun _ => o.1) (fun u => [(a 0, oX8 a), (a 21, oX6 (o.2 21)), (a 23, oX4 a (o.2 23)), (a 24, .inl (xO E, 6, .inr (.inr (.inr (.inr (xhf u)))))), (u 0, oX6 (o.2 60)), (u 1, oX6 (o.2 61)), (u 2, oX6 (o.2 62)), (u 3, oX6 (o.2 63)), (u 4, oX6 (o.2 64)), (u 5, oX6 (o.2 65))]) := by
  refine xMI.of (own := RX8) (lo0 := [(0, .ref (a 0)), (1, .int x1), (2, .int x2)]) (by decide +kernel) rfl rfl (Nat.le_of_ble_eq_true rfl) (fun V r hret => ?_)
  unfold xt_X8_set at hxt
  refine r.iload_n 1 (DX8_set 0 rfl) rfl ?_
  refine r.if_lt 18 (DX8_set 1 rfl) rfl hxt (fun _ hxt => ?_) (fun _ hxt => ?_)
  · refine r.bipush (v := (-2 : Int32)) (DX8_set 10 rfl) rfl ?_
    cases hxt
    exact hret _ _ _ _ (DX8_set 11 rfl) rfl ⟨ha, rfl, rfl⟩
  refine r.iload_n 1 (DX8_set 2 rfl) rfl ?_
  refine r.iconst (v := (2 : Int32)) (DX8_set 3 rfl) rfl ?_
  refine r.icmp_gt 18 (DX8_set 4 rfl) rfl hxt (fun _ hxt => ?_) (fun _ hxt => ?_)
  · refine r.bipush (v := (-2 : Int32)) (DX8_set 10 rfl) rfl ?_
    cases hxt
    exact hret _ _ _ _ (DX8_set 11 rfl) rfl ⟨ha, rfl, rfl⟩
  refine r.iload_n 2 (DX8_set 5 rfl) rfl ?_
  refine r.if_lt 18 (DX8_set 6 rfl) rfl hxt (fun _ hxt => ?_) (fun _ hxt => ?_)
  · refine r.bipush (v := (-2 : Int32)) (DX8_set 10 rfl) rfl ?_
    cases hxt
    exact hret _ _ _ _ (DX8_set 11 rfl) rfl ⟨ha, rfl, rfl⟩
  refine r.iload_n 2 (DX8_set 7 rfl) rfl ?_
  refine r.iconst (v := (1 : Int32)) (DX8_set 8 rfl) rfl ?_
  refine r.icmp_le 21 (DX8_set 9 rfl) rfl hxt (fun _ hxt => ?_) (fun _ hxt => ?_)
  · refine r.aload_n 0 (DX8_set 12 rfl) rfl ?_
    refine r.get (v := .ref (a 23)) kX8 f_X8_63 rfl 0 rfl rfl (DX8_set 13 rfl) ?_
    refine r.aload_n 0 (DX8_set 14 rfl) rfl ?_
    refine r.get (v := .ref (a 21)) kX8 f_X8_53 rfl 0 rfl rfl (DX8_set 15 rfl) ?_
    obtain ⟨o_1, ho_1, hxt⟩ := xbd hxt
    refine r.callVV 0 rfl rfl (t_X4_record E a ha (a 21) (hM 21) hM ho_1) g_X8_86 rfl (DX8_set 16 rfl) rfl ⟨(Nat.le_of_ble_eq_true rfl), (Nat.le_of_ble_eq_true rfl)⟩ ⟨(Nat.le_of_ble_eq_true rfl), (Nat.le_of_ble_eq_true rfl)⟩ (Nat.le_of_ble_eq_true rfl) [2, 3, 4, 5, 6, 7, 8, 9, 1] [0] rfl rfl rfl rfl (by decide) [0, 9, 1, 2, 3, 4, 5, 6, 7, 8] rfl (ws2 := fun ha_2 => [(a 0, oX8 a), (a 21, oX6 (hM 21)), (a 23, oX4 a (o_1 23)), (a 24, .inl (xO E, 6, .inr (.inr (.inr (.inr (xhf ha_2)))))), (ha_2 0, oX6 (o_1 60)), (ha_2 1, oX6 (o_1 61)), (ha_2 2, oX6 (o_1 62)), (ha_2 3, oX6 (o_1 63)), (ha_2 4, oX6 (o_1 64)), (ha_2 5, oX6 (o_1 65))]) (fun _ => rfl) (fun ha_2 => ?_)
    refine r.aload_n 0 (DX8_set 17 rfl) rfl ?_
    refine r.get (v := .ref (a 21)) kX8 f_X8_53 rfl 0 rfl rfl (DX8_set 18 rfl) ?_
    refine r.iload_n 1 (DX8_set 19 rfl) rfl ?_
    obtain ⟨o_3, ho_3, hxt⟩ := xbd hxt
    refine r.callVI 0 rfl rfl (t_X6_setting E a (a 21) x1 (hM 21) ho_3) g_X8_90 rfl (DX8_set 20 rfl) rfl ⟨(Nat.le_of_ble_eq_true rfl), (Nat.le_of_ble_eq_true rfl)⟩ ⟨(Nat.le_of_ble_eq_true rfl), (Nat.le_of_ble_eq_true rfl)⟩ (Nat.le_of_ble_eq_true rfl) [1] [0, 2, 3, 4, 5, 6, 7, 8, 9] rfl rfl rfl rfl (by decide) [0, 9, 1, 2, 3, 4, 5, 6, 7, 8] rfl (ws2 := fun _ => [(a 0, oX8 a), (a 21, oX6 (hM 21)), (a 23, oX4 a (o_1 23)), (a 24, .inl (xO E, 6, .inr (.inr (.inr (.inr (xhf ha_2)))))), (ha_2 0, oX6 (o_1 60)), (ha_2 1, oX6 (o_1 61)), (ha_2 2, oX6 (o_1 62)), (ha_2 3, oX6 (o_1 63)), (ha_2 4, oX6 (o_1 64)), (ha_2 5, oX6 (o_1 65))]) (fun _ => rfl) (fun _ => ?_)
    refine r.istore_n (lo' := [(3, .int o_3), (0, .ref (a 0)), (1, .int x1), (2, .int x2)]) (DX8_set 21 rfl) (Nat.le_of_ble_eq_true rfl) rfl ?_
    refine r.aload_n 1 (DX8_set 22 rfl) rfl ?_
    refine r.get (v := .ref (a 21)) kX8 f_X8_53 rfl 0 rfl rfl (DX8_set 23 rfl) ?_
    refine r.iload_n 2 (DX8_set 24 rfl) rfl ?_
    refine r.iload_n 3 (DX8_set 25 rfl) rfl ?_
    obtain ⟨o_4, ho_4, hxt⟩ := xbd hxt
    refine r.callVV 0 rfl rfl (t_X6_change E a (a 21) x1 x2 (hM 21) ho_4) g_X8_94 rfl (DX8_set 26 rfl) rfl ⟨(Nat.le_of_ble_eq_true rfl), (Nat.le_of_ble_eq_true rfl)⟩ ⟨(Nat.le_of_ble_eq_true rfl), (Nat.le_of_ble_eq_true rfl)⟩ (Nat.le_of_ble_eq_true rfl) [1] [0, 2, 3, 4, 5, 6, 7, 8, 9] rfl rfl rfl rfl (by decide) [0, 9, 1, 2, 3, 4, 5, 6, 7, 8] rfl (ws2 := fun _ => [(a 0, oX8 a), (a 21, oX6 o_4), (a 23, oX4 a (o_1 23)), (a 24, .inl (xO E, 6, .inr (.inr (.inr (.inr (xhf ha_2)))))), (ha_2 0, oX6 (o_1 60)), (ha_2 1, oX6 (o_1 61)), (ha_2 2, oX6 (o_1 62)), (ha_2 3, oX6 (o_1 63)), (ha_2 4, oX6 (o_1 64)), (ha_2 5, oX6 (o_1 65))]) (fun _ => rfl) (fun _ => ?_)
    refine r.iload_n 0 (DX8_set 27 rfl) rfl ?_
    cases hxt
    exact hret _ _ _ _ (DX8_set 28 rfl) rfl ⟨ha_2, rfl, rfl⟩
  refine r.bipush (v := (-2 : Int32)) (DX8_set 10 rfl) rfl ?_
  cases hxt
  exact hret _ _ _ _ (DX8_set 11 rfl) rfl ⟨ha, rfl, rfl⟩
set_option maxRecDepth 100000 in
set_option maxHeartbeats 4000000 in
theorem t_X8_block (E : xE) (a : Nat → Nat) (ha : Nat → Nat) (x1 : Int32) (hM : Mem) {o : Int32 × Mem} (hxt : xt_X8_block x1 hM = some o) : xMI (S := Nat → Nat) E yX8_block cX8_block 4 .int 2 0 0 [.ref (a 0), .int x1] [(a 0, oX8 a), (a 21, oX6 (hM 21)), (a 23, oX4 a (hM 23)), (a 24, .inl (xO E, 6, .inr (.inr (.inr (.inr (xhf ha)))))), (ha 0, oX6 (hM 60)), (ha 1, oX6 (hM 61)), (ha 2, oX6 (hM 62)), (ha 3, oX6 (hM 63)), (ha 4, oX6 (hM 64)), (ha 5, oX6 (hM 65))] (fun _ => o.1) (fun u => [(a 0, oX8 a), (a 21, oX6 (o.2 21)), (a 23, oX4 a (o.2 23)), (a 24, .inl (xO E, 6, .inr (.inr (.inr (.inr (xhf u)))))), (u 0, oX6 (o.2 60)), (u 1, oX6 (o.2 61)), (u 2, oX6 (o.2 62)), (u 3, oX6 (o.2 63)), (u 4, oX6 (o.2 64)), (u 5, oX6 (o.2 65))]) := by
  refine xMI.of (own := RX8) (lo0 := [(0, .ref (a 0)), (1, .int x1)]) (by decide +kernel) rfl rfl (Nat.le_of_ble_eq_true rfl) (fun V r hret => ?_)
  unfold xt_X8_block at hxt
  refine r.iload_n 1 (DX8_block 0 rfl) rfl ?_
  obtain ⟨o_1, ho_1, hxt⟩ := xbd hxt
  refine r.callSI0 (t_X3_isPlace E x1 ho_1) g_X8_98 rfl (DX8_block 1 rfl) rfl ⟨(Nat.le_of_ble_eq_true rfl), (Nat.le_of_ble_eq_true rfl)⟩ (Nat.le_of_ble_eq_true rfl) ?_
  refine r.if_ne 9 (DX8_block 2 rfl) rfl hxt (fun _ hxt => ?_) (fun _ hxt => ?_)
  · refine r.iconst (v := (1 : Int32)) (DX8_block 5 rfl) rfl ?_
    refine r.iload_n 1 (DX8_block 6 rfl) rfl ?_
    refine r.ishl (DX8_block 7 rfl) ?_
    refine r.istore_n (lo' := [(2, .int ((1 : Int32) <<< (x1 &&& 31))), (0, .ref (a 0)), (1, .int x1)]) (DX8_block 8 rfl) (Nat.le_of_ble_eq_true rfl) rfl ?_
    refine r.aload_n 1 (DX8_block 9 rfl) rfl ?_
    refine r.get (v := .ref (a 21)) kX8 f_X8_53 rfl 0 rfl rfl (DX8_block 10 rfl) ?_
    refine r.get (v := .int ((hM 21) 1)) kX6 f_X8_102 rfl 1 rfl rfl (DX8_block 11 rfl) ?_
    refine r.iload_n 0 (DX8_block 12 rfl) rfl ?_
    refine r.iand (DX8_block 13 rfl) ?_
    refine r.if_ne 29 (DX8_block 14 rfl) rfl hxt (fun _ hxt => ?_) (fun _ hxt => ?_)
    · refine r.iconst (v := (0 : Int32)) (DX8_block 17 rfl) rfl ?_
      refine r.istore_n (lo' := [(3, .int (0 : Int32)), (2, .int ((1 : Int32) <<< (x1 &&& 31))), (0, .ref (a 0)), (1, .int x1)]) (DX8_block 18 rfl) (Nat.le_of_ble_eq_true rfl) rfl ?_
      refine r.iload_n 0 (DX8_block 19 rfl) rfl ?_
      refine r.if_eqT 53 (DX8_block 20 rfl) rfl (by decide) ?_
      refine r.aload_n 2 (DX8_block 29 rfl) rfl ?_
      refine r.get (v := .ref (a 21)) kX8 f_X8_53 rfl 0 rfl rfl (DX8_block 30 rfl) ?_
      obtain ⟨o_2, ho_2, hxt⟩ := xbd hxt
      refine r.callVI 0 rfl rfl (t_X6_taken E a (a 21) (hM 21) ho_2) g_X8_111 rfl (DX8_block 31 rfl) rfl ⟨(Nat.le_of_ble_eq_true rfl), (Nat.le_of_ble_eq_true rfl)⟩ ⟨(Nat.le_of_ble_eq_true rfl), (Nat.le_of_ble_eq_true rfl)⟩ (Nat.le_of_ble_eq_true rfl) [1] [0, 2, 3, 4, 5, 6, 7, 8, 9] rfl rfl rfl rfl (by decide) [0, 9, 1, 2, 3, 4, 5, 6, 7, 8] rfl (ws2 := fun _ => [(a 0, oX8 a), (a 21, oX6 (hM 21)), (a 23, oX4 a (hM 23)), (a 24, .inl (xO E, 6, .inr (.inr (.inr (.inr (xhf ha)))))), (ha 0, oX6 (hM 60)), (ha 1, oX6 (hM 61)), (ha 2, oX6 (hM 62)), (ha 3, oX6 (hM 63)), (ha 4, oX6 (hM 64)), (ha 5, oX6 (hM 65))]) (fun _ => rfl) (fun _ => ?_)
      refine r.iload_n 1 (DX8_block 32 rfl) rfl ?_
      refine r.iand (DX8_block 33 rfl) ?_
      refine r.if_eq 68 (DX8_block 34 rfl) rfl hxt (fun _ hxt => ?_) (fun _ hxt => ?_)
      · refine r.aload_n 2 (DX8_block 37 rfl) rfl ?_
        refine r.get (v := .ref (a 23)) kX8 f_X8_63 rfl 0 rfl rfl (DX8_block 38 rfl) ?_
        refine r.aload_n 2 (DX8_block 39 rfl) rfl ?_
        refine r.get (v := .ref (a 21)) kX8 f_X8_53 rfl 0 rfl rfl (DX8_block 40 rfl) ?_
        obtain ⟨o_3, ho_3, hxt⟩ := xbd hxt
        refine r.callVV 0 rfl rfl (t_X4_record E a ha (a 21) (hM 21) hM ho_3) g_X8_86 rfl (DX8_block 41 rfl) rfl ⟨(Nat.le_of_ble_eq_true rfl), (Nat.le_of_ble_eq_true rfl)⟩ ⟨(Nat.le_of_ble_eq_true rfl), (Nat.le_of_ble_eq_true rfl)⟩ (Nat.le_of_ble_eq_true rfl) [2, 3, 4, 5, 6, 7, 8, 9, 1] [0] rfl rfl rfl rfl (by decide) [0, 9, 1, 2, 3, 4, 5, 6, 7, 8] rfl (ws2 := fun ha_4 => [(a 0, oX8 a), (a 21, oX6 (hM 21)), (a 23, oX4 a (o_3 23)), (a 24, .inl (xO E, 6, .inr (.inr (.inr (.inr (xhf ha_4)))))), (ha_4 0, oX6 (o_3 60)), (ha_4 1, oX6 (o_3 61)), (ha_4 2, oX6 (o_3 62)), (ha_4 3, oX6 (o_3 63)), (ha_4 4, oX6 (o_3 64)), (ha_4 5, oX6 (o_3 65))]) (fun _ => rfl) (fun ha_4 => ?_)
        refine r.aload_n 2 (DX8_block 42 rfl) rfl ?_
        refine r.get (v := .ref (a 21)) kX8 f_X8_53 rfl 0 rfl rfl (DX8_block 43 rfl) ?_
        refine r.dup (DX8_block 44 rfl) rfl ?_
        refine r.get (v := .int ((hM 21) 1)) kX6 f_X8_102 rfl 1 rfl rfl (DX8_block 45 rfl) ?_
        refine r.iload_n 1 (DX8_block 46 rfl) rfl ?_
        refine r.ixor (DX8_block 47 rfl) ?_
        refine r.put (ws' := [(a 0, oX8 a), (a 21, oX6 (upd (hM 21) 1 (((hM 21) 1) ^^^ ((1 : Int32) <<< (x1 &&& 31))))), (a 23, oX4 a (o_3 23)), (a 24, .inl (xO E, 6, .inr (.inr (.inr (.inr (xhf ha_4)))))), (ha_4 0, oX6 (o_3 60)), (ha_4 1, oX6 (o_3 61)), (ha_4 2, oX6 (o_3 62)), (ha_4 3, oX6 (o_3 63)), (ha_4 4, oX6 (o_3 64)), (ha_4 5, oX6 (o_3 65))]) kX6 f_X8_102 1 rfl rfl rfl rfl (Nat.le_of_ble_eq_true rfl) rfl (DX8_block 48 rfl) ?_
        refine r.aload_n 2 (DX8_block 49 rfl) rfl ?_
        refine r.get (v := .ref (a 21)) kX8 f_X8_53 rfl 0 rfl rfl (DX8_block 50 rfl) ?_
        refine r.get (v := .int (((hM 21) 1) ^^^ ((1 : Int32) <<< (x1 &&& 31)))) kX6 f_X8_102 rfl 1 rfl rfl (DX8_block 51 rfl) ?_
        obtain ⟨o_5, ho_5, hxt⟩ := xbd hxt
        refine r.callSI0 (t_J6_bitCount_0f7a4 E (((hM 21) 1) ^^^ ((1 : Int32) <<< (x1 &&& 31))) ho_5) g_X8_106 rfl (DX8_block 52 rfl) rfl ⟨(Nat.le_of_ble_eq_true rfl), (Nat.le_of_ble_eq_true rfl)⟩ (Nat.le_of_ble_eq_true rfl) ?_
        cases hxt
        exact hret _ _ _ _ (DX8_block 53 rfl) rfl ⟨ha_4, rfl, rfl⟩
      refine r.bipush (v := (-5 : Int32)) (DX8_block 35 rfl) rfl ?_
      cases hxt
      exact hret _ _ _ _ (DX8_block 36 rfl) rfl ⟨ha, rfl, rfl⟩
    refine r.iconst (v := (1 : Int32)) (DX8_block 15 rfl) rfl ?_
    refine r.goto 30 (DX8_block 16 rfl) rfl ?_
    refine r.istore_n (lo' := [(3, .int (1 : Int32)), (2, .int ((1 : Int32) <<< (x1 &&& 31))), (0, .ref (a 0)), (1, .int x1)]) (DX8_block 18 rfl) (Nat.le_of_ble_eq_true rfl) rfl ?_
    refine r.iload_n 0 (DX8_block 19 rfl) rfl ?_
    refine r.if_eqF 53 (DX8_block 20 rfl) rfl (by decide) ?_
    refine r.aload_n 2 (DX8_block 21 rfl) rfl ?_
    refine r.get (v := .ref (a 21)) kX8 f_X8_53 rfl 0 rfl rfl (DX8_block 22 rfl) ?_
    refine r.get (v := .int ((hM 21) 1)) kX6 f_X8_102 rfl 1 rfl rfl (DX8_block 23 rfl) ?_
    obtain ⟨o_6, ho_6, hxt⟩ := xbd hxt
    refine r.callSI0 (t_J6_bitCount_0f7a4 E ((hM 21) 1) ho_6) g_X8_106 rfl (DX8_block 24 rfl) rfl ⟨(Nat.le_of_ble_eq_true rfl), (Nat.le_of_ble_eq_true rfl)⟩ (Nat.le_of_ble_eq_true rfl) ?_
    refine r.bipush (v := (6 : Int32)) (DX8_block 25 rfl) rfl ?_
    refine r.icmp_lt 53 (DX8_block 26 rfl) rfl hxt (fun _ hxt => ?_) (fun _ hxt => ?_)
    · refine r.aload_n 2 (DX8_block 29 rfl) rfl ?_
      refine r.get (v := .ref (a 21)) kX8 f_X8_53 rfl 0 rfl rfl (DX8_block 30 rfl) ?_
      obtain ⟨o_7, ho_7, hxt⟩ := xbd hxt
      refine r.callVI 0 rfl rfl (t_X6_taken E a (a 21) (hM 21) ho_7) g_X8_111 rfl (DX8_block 31 rfl) rfl ⟨(Nat.le_of_ble_eq_true rfl), (Nat.le_of_ble_eq_true rfl)⟩ ⟨(Nat.le_of_ble_eq_true rfl), (Nat.le_of_ble_eq_true rfl)⟩ (Nat.le_of_ble_eq_true rfl) [1] [0, 2, 3, 4, 5, 6, 7, 8, 9] rfl rfl rfl rfl (by decide) [0, 9, 1, 2, 3, 4, 5, 6, 7, 8] rfl (ws2 := fun _ => [(a 0, oX8 a), (a 21, oX6 (hM 21)), (a 23, oX4 a (hM 23)), (a 24, .inl (xO E, 6, .inr (.inr (.inr (.inr (xhf ha)))))), (ha 0, oX6 (hM 60)), (ha 1, oX6 (hM 61)), (ha 2, oX6 (hM 62)), (ha 3, oX6 (hM 63)), (ha 4, oX6 (hM 64)), (ha 5, oX6 (hM 65))]) (fun _ => rfl) (fun _ => ?_)
      refine r.iload_n 1 (DX8_block 32 rfl) rfl ?_
      refine r.iand (DX8_block 33 rfl) ?_
      refine r.if_eq 68 (DX8_block 34 rfl) rfl hxt (fun _ hxt => ?_) (fun _ hxt => ?_)
      · refine r.aload_n 2 (DX8_block 37 rfl) rfl ?_
        refine r.get (v := .ref (a 23)) kX8 f_X8_63 rfl 0 rfl rfl (DX8_block 38 rfl) ?_
        refine r.aload_n 2 (DX8_block 39 rfl) rfl ?_
        refine r.get (v := .ref (a 21)) kX8 f_X8_53 rfl 0 rfl rfl (DX8_block 40 rfl) ?_
        obtain ⟨o_8, ho_8, hxt⟩ := xbd hxt
        refine r.callVV 0 rfl rfl (t_X4_record E a ha (a 21) (hM 21) hM ho_8) g_X8_86 rfl (DX8_block 41 rfl) rfl ⟨(Nat.le_of_ble_eq_true rfl), (Nat.le_of_ble_eq_true rfl)⟩ ⟨(Nat.le_of_ble_eq_true rfl), (Nat.le_of_ble_eq_true rfl)⟩ (Nat.le_of_ble_eq_true rfl) [2, 3, 4, 5, 6, 7, 8, 9, 1] [0] rfl rfl rfl rfl (by decide) [0, 9, 1, 2, 3, 4, 5, 6, 7, 8] rfl (ws2 := fun ha_9 => [(a 0, oX8 a), (a 21, oX6 (hM 21)), (a 23, oX4 a (o_8 23)), (a 24, .inl (xO E, 6, .inr (.inr (.inr (.inr (xhf ha_9)))))), (ha_9 0, oX6 (o_8 60)), (ha_9 1, oX6 (o_8 61)), (ha_9 2, oX6 (o_8 62)), (ha_9 3, oX6 (o_8 63)), (ha_9 4, oX6 (o_8 64)), (ha_9 5, oX6 (o_8 65))]) (fun _ => rfl) (fun ha_9 => ?_)
        refine r.aload_n 2 (DX8_block 42 rfl) rfl ?_
        refine r.get (v := .ref (a 21)) kX8 f_X8_53 rfl 0 rfl rfl (DX8_block 43 rfl) ?_
        refine r.dup (DX8_block 44 rfl) rfl ?_
        refine r.get (v := .int ((hM 21) 1)) kX6 f_X8_102 rfl 1 rfl rfl (DX8_block 45 rfl) ?_
        refine r.iload_n 1 (DX8_block 46 rfl) rfl ?_
        refine r.ixor (DX8_block 47 rfl) ?_
        refine r.put (ws' := [(a 0, oX8 a), (a 21, oX6 (upd (hM 21) 1 (((hM 21) 1) ^^^ ((1 : Int32) <<< (x1 &&& 31))))), (a 23, oX4 a (o_8 23)), (a 24, .inl (xO E, 6, .inr (.inr (.inr (.inr (xhf ha_9)))))), (ha_9 0, oX6 (o_8 60)), (ha_9 1, oX6 (o_8 61)), (ha_9 2, oX6 (o_8 62)), (ha_9 3, oX6 (o_8 63)), (ha_9 4, oX6 (o_8 64)), (ha_9 5, oX6 (o_8 65))]) kX6 f_X8_102 1 rfl rfl rfl rfl (Nat.le_of_ble_eq_true rfl) rfl (DX8_block 48 rfl) ?_
        refine r.aload_n 2 (DX8_block 49 rfl) rfl ?_
        refine r.get (v := .ref (a 21)) kX8 f_X8_53 rfl 0 rfl rfl (DX8_block 50 rfl) ?_
        refine r.get (v := .int (((hM 21) 1) ^^^ ((1 : Int32) <<< (x1 &&& 31)))) kX6 f_X8_102 rfl 1 rfl rfl (DX8_block 51 rfl) ?_
        obtain ⟨o_10, ho_10, hxt⟩ := xbd hxt
        refine r.callSI0 (t_J6_bitCount_0f7a4 E (((hM 21) 1) ^^^ ((1 : Int32) <<< (x1 &&& 31))) ho_10) g_X8_106 rfl (DX8_block 52 rfl) rfl ⟨(Nat.le_of_ble_eq_true rfl), (Nat.le_of_ble_eq_true rfl)⟩ (Nat.le_of_ble_eq_true rfl) ?_
        cases hxt
        exact hret _ _ _ _ (DX8_block 53 rfl) rfl ⟨ha_9, rfl, rfl⟩
      refine r.bipush (v := (-5 : Int32)) (DX8_block 35 rfl) rfl ?_
      cases hxt
      exact hret _ _ _ _ (DX8_block 36 rfl) rfl ⟨ha, rfl, rfl⟩
    refine r.bipush (v := (-4 : Int32)) (DX8_block 27 rfl) rfl ?_
    cases hxt
    exact hret _ _ _ _ (DX8_block 28 rfl) rfl ⟨ha, rfl, rfl⟩
  refine r.iconst (v := (-1 : Int32)) (DX8_block 3 rfl) rfl ?_
  cases hxt
  exact hret _ _ _ _ (DX8_block 4 rfl) rfl ⟨ha, rfl, rfl⟩
set_option maxRecDepth 100000 in
set_option maxHeartbeats 4000000 in
theorem t_X8_errorOf (E : xE) (a : Nat → Nat) (x1 : Int32) (x2 : Int32) (x3 : Int32) (x4 : Int32) (hM : Mem) {o : Int32} (hxt : xt_X8_errorOf x1 x2 x3 x4 hM = some o) : xMI (S := Unit) E yX8_errorOf cX8_errorOf 8 .int 1 0 0 [.ref (a 0), .int x1, .int x2, .int x3, .int x4] [(a 0, oX8 a), (a 21, oX6 (hM 21))] (fun _ => o) (fun _ => [(a 0, oX8 a), (a 21, oX6 (hM 21))]) := by
  refine xMI.of (own := RX8) (lo0 := [(0, .ref (a 0)), (1, .int x1), (2, .int x2), (3, .int x3), (4, .int x4)]) (by decide +kernel) rfl rfl (Nat.le_of_ble_eq_true rfl) (fun V r hret => ?_)
  unfold xt_X8_errorOf at hxt
  refine r.iload_n 2 (DX8_errorOf 0 rfl) rfl ?_
  obtain ⟨o_1, ho_1, hxt⟩ := xbd hxt
  refine r.callSI0 (t_X3_isPlace E x2 ho_1) g_X8_98 rfl (DX8_errorOf 1 rfl) rfl ⟨(Nat.le_of_ble_eq_true rfl), (Nat.le_of_ble_eq_true rfl)⟩ (Nat.le_of_ble_eq_true rfl) ?_
  refine r.if_eq 22 (DX8_errorOf 2 rfl) rfl hxt (fun _ hxt => ?_) (fun _ hxt => ?_)
  · refine r.iconst (v := (-1 : Int32)) (DX8_errorOf 9 rfl) rfl ?_
    cases hxt
    exact hret _ _ _ _ (DX8_errorOf 10 rfl) rfl ⟨(), rfl, rfl⟩
  refine r.iload_n 3 (DX8_errorOf 3 rfl) rfl ?_
  obtain ⟨o_2, ho_2, hxt⟩ := xbd hxt
  refine r.callSI0 (t_X3_isPlace E x3 ho_2) g_X8_98 rfl (DX8_errorOf 4 rfl) rfl ⟨(Nat.le_of_ble_eq_true rfl), (Nat.le_of_ble_eq_true rfl)⟩ (Nat.le_of_ble_eq_true rfl) ?_
  refine r.if_eq 22 (DX8_errorOf 5 rfl) rfl hxt (fun _ hxt => ?_) (fun _ hxt => ?_)
  · refine r.iconst (v := (-1 : Int32)) (DX8_errorOf 9 rfl) rfl ?_
    cases hxt
    exact hret _ _ _ _ (DX8_errorOf 10 rfl) rfl ⟨(), rfl, rfl⟩
  refine r.iload 4 (DX8_errorOf 6 rfl) rfl ?_
  obtain ⟨o_3, ho_3, hxt⟩ := xbd hxt
  refine r.callSI0 (t_X3_isPlace E x4 ho_3) g_X8_98 rfl (DX8_errorOf 7 rfl) rfl ⟨(Nat.le_of_ble_eq_true rfl), (Nat.le_of_ble_eq_true rfl)⟩ (Nat.le_of_ble_eq_true rfl) ?_
  refine r.if_ne 24 (DX8_errorOf 8 rfl) rfl hxt (fun _ hxt => ?_) (fun _ hxt => ?_)
  · refine r.iconst (v := (1 : Int32)) (DX8_errorOf 11 rfl) rfl ?_
    refine r.iload_n 2 (DX8_errorOf 12 rfl) rfl ?_
    refine r.ishl (DX8_errorOf 13 rfl) ?_
    refine r.iconst (v := (1 : Int32)) (DX8_errorOf 14 rfl) rfl ?_
    refine r.iload_n 3 (DX8_errorOf 15 rfl) rfl ?_
    refine r.ishl (DX8_errorOf 16 rfl) ?_
    refine r.ior (DX8_errorOf 17 rfl) ?_
    refine r.iconst (v := (1 : Int32)) (DX8_errorOf 18 rfl) rfl ?_
    refine r.iload 4 (DX8_errorOf 19 rfl) rfl ?_
    refine r.ishl (DX8_errorOf 20 rfl) ?_
    refine r.ior (DX8_errorOf 21 rfl) ?_
    refine r.istore (lo' := [(5, .int ((((1 : Int32) <<< (x2 &&& 31)) ||| ((1 : Int32) <<< (x3 &&& 31))) ||| ((1 : Int32) <<< (x4 &&& 31)))), (0, .ref (a 0)), (1, .int x1), (2, .int x2), (3, .int x3), (4, .int x4)]) (DX8_errorOf 22 rfl) (Nat.le_of_ble_eq_true rfl) rfl ?_
    refine r.iload 0 (DX8_errorOf 23 rfl) rfl ?_
    obtain ⟨o_4, ho_4, hxt⟩ := xbd hxt
    refine r.callSI0 (t_J6_bitCount_0f7a4 E ((((1 : Int32) <<< (x2 &&& 31)) ||| ((1 : Int32) <<< (x3 &&& 31))) ||| ((1 : Int32) <<< (x4 &&& 31))) ho_4) g_X8_106 rfl (DX8_errorOf 24 rfl) rfl ⟨(Nat.le_of_ble_eq_true rfl), (Nat.le_of_ble_eq_true rfl)⟩ (Nat.le_of_ble_eq_true rfl) ?_
    refine r.iconst (v := (3 : Int32)) (DX8_errorOf 25 rfl) rfl ?_
    refine r.icmp_ne 51 (DX8_errorOf 26 rfl) rfl hxt (fun _ hxt => ?_) (fun _ hxt => ?_)
    · refine r.iconst (v := (0 : Int32)) (DX8_errorOf 29 rfl) rfl ?_
      refine r.istore (lo' := [(6, .int (0 : Int32)), (5, .int ((((1 : Int32) <<< (x2 &&& 31)) ||| ((1 : Int32) <<< (x3 &&& 31))) ||| ((1 : Int32) <<< (x4 &&& 31)))), (0, .ref (a 0)), (1, .int x1), (2, .int x2), (3, .int x3), (4, .int x4)]) (DX8_errorOf 30 rfl) (Nat.le_of_ble_eq_true rfl) rfl ?_
      refine r.iload_n 3 (DX8_errorOf 31 rfl) rfl ?_
      refine r.if_eq 63 (DX8_errorOf 32 rfl) rfl hxt (fun _ hxt => ?_) (fun _ hxt => ?_)
      · refine r.iload 0 (DX8_errorOf 36 rfl) rfl ?_
        refine r.if_eqT 85 (DX8_errorOf 37 rfl) rfl (by decide) ?_
        refine r.iconst (v := (0 : Int32)) (DX8_errorOf 46 rfl) rfl ?_
        refine r.istore (lo' := [(7, .int (0 : Int32)), (6, .int (0 : Int32)), (5, .int ((((1 : Int32) <<< (x2 &&& 31)) ||| ((1 : Int32) <<< (x3 &&& 31))) ||| ((1 : Int32) <<< (x4 &&& 31)))), (0, .ref (a 0)), (1, .int x1), (2, .int x2), (3, .int x3), (4, .int x4)]) (DX8_errorOf 47 rfl) (Nat.le_of_ble_eq_true rfl) rfl ?_
        refine r.iload 0 (DX8_errorOf 48 rfl) rfl ?_
        refine r.if_eqT 97 (DX8_errorOf 49 rfl) rfl (by decide) ?_
        refine r.bipush (v := (-2 : Int32)) (DX8_errorOf 52 rfl) rfl ?_
        cases hxt
        exact hret _ _ _ _ (DX8_errorOf 53 rfl) rfl ⟨(), rfl, rfl⟩
      refine r.iload_n 3 (DX8_errorOf 33 rfl) rfl ?_
      refine r.iconst (v := (1 : Int32)) (DX8_errorOf 34 rfl) rfl ?_
      refine r.icmp_ne 85 (DX8_errorOf 35 rfl) rfl hxt (fun _ hxt => ?_) (fun _ hxt => ?_)
      · refine r.iconst (v := (0 : Int32)) (DX8_errorOf 46 rfl) rfl ?_
        refine r.istore (lo' := [(7, .int (0 : Int32)), (6, .int (0 : Int32)), (5, .int ((((1 : Int32) <<< (x2 &&& 31)) ||| ((1 : Int32) <<< (x3 &&& 31))) ||| ((1 : Int32) <<< (x4 &&& 31)))), (0, .ref (a 0)), (1, .int x1), (2, .int x2), (3, .int x3), (4, .int x4)]) (DX8_errorOf 47 rfl) (Nat.le_of_ble_eq_true rfl) rfl ?_
        refine r.iload 0 (DX8_errorOf 48 rfl) rfl ?_
        refine r.if_eqT 97 (DX8_errorOf 49 rfl) rfl (by decide) ?_
        refine r.bipush (v := (-2 : Int32)) (DX8_errorOf 52 rfl) rfl ?_
        cases hxt
        exact hret _ _ _ _ (DX8_errorOf 53 rfl) rfl ⟨(), rfl, rfl⟩
      refine r.iload 0 (DX8_errorOf 36 rfl) rfl ?_
      refine r.if_eqT 85 (DX8_errorOf 37 rfl) rfl (by decide) ?_
      refine r.iconst (v := (0 : Int32)) (DX8_errorOf 46 rfl) rfl ?_
      refine r.istore (lo' := [(7, .int (0 : Int32)), (6, .int (0 : Int32)), (5, .int ((((1 : Int32) <<< (x2 &&& 31)) ||| ((1 : Int32) <<< (x3 &&& 31))) ||| ((1 : Int32) <<< (x4 &&& 31)))), (0, .ref (a 0)), (1, .int x1), (2, .int x2), (3, .int x3), (4, .int x4)]) (DX8_errorOf 47 rfl) (Nat.le_of_ble_eq_true rfl) rfl ?_
      refine r.iload 0 (DX8_errorOf 48 rfl) rfl ?_
      refine r.if_eqT 97 (DX8_errorOf 49 rfl) rfl (by decide) ?_
      refine r.bipush (v := (-2 : Int32)) (DX8_errorOf 52 rfl) rfl ?_
      cases hxt
      exact hret _ _ _ _ (DX8_errorOf 53 rfl) rfl ⟨(), rfl, rfl⟩
    refine r.iconst (v := (1 : Int32)) (DX8_errorOf 27 rfl) rfl ?_
    refine r.goto 52 (DX8_errorOf 28 rfl) rfl ?_
    refine r.istore (lo' := [(6, .int (1 : Int32)), (5, .int ((((1 : Int32) <<< (x2 &&& 31)) ||| ((1 : Int32) <<< (x3 &&& 31))) ||| ((1 : Int32) <<< (x4 &&& 31)))), (0, .ref (a 0)), (1, .int x1), (2, .int x2), (3, .int x3), (4, .int x4)]) (DX8_errorOf 30 rfl) (Nat.le_of_ble_eq_true rfl) rfl ?_
    refine r.iload_n 3 (DX8_errorOf 31 rfl) rfl ?_
    refine r.if_eq 63 (DX8_errorOf 32 rfl) rfl hxt (fun _ hxt => ?_) (fun _ hxt => ?_)
    · refine r.iload 0 (DX8_errorOf 36 rfl) rfl ?_
      refine r.if_eqF 85 (DX8_errorOf 37 rfl) rfl (by decide) ?_
      refine r.iload 1 (DX8_errorOf 38 rfl) rfl ?_
      refine r.aload_n 2 (DX8_errorOf 39 rfl) rfl ?_
      refine r.get (v := .ref (a 21)) kX8 f_X8_53 rfl 0 rfl rfl (DX8_errorOf 40 rfl) ?_
      refine r.get (v := .int ((hM 21) 1)) kX6 f_X8_102 rfl 1 rfl rfl (DX8_errorOf 41 rfl) ?_
      refine r.iand (DX8_errorOf 42 rfl) ?_
      refine r.if_ne 85 (DX8_errorOf 43 rfl) rfl hxt (fun _ hxt => ?_) (fun _ hxt => ?_)
      · refine r.iconst (v := (0 : Int32)) (DX8_errorOf 46 rfl) rfl ?_
        refine r.istore (lo' := [(7, .int (0 : Int32)), (6, .int (1 : Int32)), (5, .int ((((1 : Int32) <<< (x2 &&& 31)) ||| ((1 : Int32) <<< (x3 &&& 31))) ||| ((1 : Int32) <<< (x4 &&& 31)))), (0, .ref (a 0)), (1, .int x1), (2, .int x2), (3, .int x3), (4, .int x4)]) (DX8_errorOf 47 rfl) (Nat.le_of_ble_eq_true rfl) rfl ?_
        refine r.iload 0 (DX8_errorOf 48 rfl) rfl ?_
        refine r.if_eqT 97 (DX8_errorOf 49 rfl) rfl (by decide) ?_
        refine r.bipush (v := (-2 : Int32)) (DX8_errorOf 52 rfl) rfl ?_
        cases hxt
        exact hret _ _ _ _ (DX8_errorOf 53 rfl) rfl ⟨(), rfl, rfl⟩
      refine r.iconst (v := (1 : Int32)) (DX8_errorOf 44 rfl) rfl ?_
      refine r.goto 86 (DX8_errorOf 45 rfl) rfl ?_
      refine r.istore (lo' := [(7, .int (1 : Int32)), (6, .int (1 : Int32)), (5, .int ((((1 : Int32) <<< (x2 &&& 31)) ||| ((1 : Int32) <<< (x3 &&& 31))) ||| ((1 : Int32) <<< (x4 &&& 31)))), (0, .ref (a 0)), (1, .int x1), (2, .int x2), (3, .int x3), (4, .int x4)]) (DX8_errorOf 47 rfl) (Nat.le_of_ble_eq_true rfl) rfl ?_
      refine r.iload 0 (DX8_errorOf 48 rfl) rfl ?_
      refine r.if_eqF 97 (DX8_errorOf 49 rfl) rfl (by decide) ?_
      refine r.iconst (v := (0 : Int32)) (DX8_errorOf 50 rfl) rfl ?_
      refine r.goto 99 (DX8_errorOf 51 rfl) rfl ?_
      cases hxt
      exact hret _ _ _ _ (DX8_errorOf 53 rfl) rfl ⟨(), rfl, rfl⟩
    refine r.iload_n 3 (DX8_errorOf 33 rfl) rfl ?_
    refine r.iconst (v := (1 : Int32)) (DX8_errorOf 34 rfl) rfl ?_
    refine r.icmp_ne 85 (DX8_errorOf 35 rfl) rfl hxt (fun _ hxt => ?_) (fun _ hxt => ?_)
    · refine r.iconst (v := (0 : Int32)) (DX8_errorOf 46 rfl) rfl ?_
      refine r.istore (lo' := [(7, .int (0 : Int32)), (6, .int (1 : Int32)), (5, .int ((((1 : Int32) <<< (x2 &&& 31)) ||| ((1 : Int32) <<< (x3 &&& 31))) ||| ((1 : Int32) <<< (x4 &&& 31)))), (0, .ref (a 0)), (1, .int x1), (2, .int x2), (3, .int x3), (4, .int x4)]) (DX8_errorOf 47 rfl) (Nat.le_of_ble_eq_true rfl) rfl ?_
      refine r.iload 0 (DX8_errorOf 48 rfl) rfl ?_
      refine r.if_eqT 97 (DX8_errorOf 49 rfl) rfl (by decide) ?_
      refine r.bipush (v := (-2 : Int32)) (DX8_errorOf 52 rfl) rfl ?_
      cases hxt
      exact hret _ _ _ _ (DX8_errorOf 53 rfl) rfl ⟨(), rfl, rfl⟩
    refine r.iload 0 (DX8_errorOf 36 rfl) rfl ?_
    refine r.if_eqF 85 (DX8_errorOf 37 rfl) rfl (by decide) ?_
    refine r.iload 1 (DX8_errorOf 38 rfl) rfl ?_
    refine r.aload_n 2 (DX8_errorOf 39 rfl) rfl ?_
    refine r.get (v := .ref (a 21)) kX8 f_X8_53 rfl 0 rfl rfl (DX8_errorOf 40 rfl) ?_
    refine r.get (v := .int ((hM 21) 1)) kX6 f_X8_102 rfl 1 rfl rfl (DX8_errorOf 41 rfl) ?_
    refine r.iand (DX8_errorOf 42 rfl) ?_
    refine r.if_ne 85 (DX8_errorOf 43 rfl) rfl hxt (fun _ hxt => ?_) (fun _ hxt => ?_)
    · refine r.iconst (v := (0 : Int32)) (DX8_errorOf 46 rfl) rfl ?_
      refine r.istore (lo' := [(7, .int (0 : Int32)), (6, .int (1 : Int32)), (5, .int ((((1 : Int32) <<< (x2 &&& 31)) ||| ((1 : Int32) <<< (x3 &&& 31))) ||| ((1 : Int32) <<< (x4 &&& 31)))), (0, .ref (a 0)), (1, .int x1), (2, .int x2), (3, .int x3), (4, .int x4)]) (DX8_errorOf 47 rfl) (Nat.le_of_ble_eq_true rfl) rfl ?_
      refine r.iload 0 (DX8_errorOf 48 rfl) rfl ?_
      refine r.if_eqT 97 (DX8_errorOf 49 rfl) rfl (by decide) ?_
      refine r.bipush (v := (-2 : Int32)) (DX8_errorOf 52 rfl) rfl ?_
      cases hxt
      exact hret _ _ _ _ (DX8_errorOf 53 rfl) rfl ⟨(), rfl, rfl⟩
    refine r.iconst (v := (1 : Int32)) (DX8_errorOf 44 rfl) rfl ?_
    refine r.goto 86 (DX8_errorOf 45 rfl) rfl ?_
    refine r.istore (lo' := [(7, .int (1 : Int32)), (6, .int (1 : Int32)), (5, .int ((((1 : Int32) <<< (x2 &&& 31)) ||| ((1 : Int32) <<< (x3 &&& 31))) ||| ((1 : Int32) <<< (x4 &&& 31)))), (0, .ref (a 0)), (1, .int x1), (2, .int x2), (3, .int x3), (4, .int x4)]) (DX8_errorOf 47 rfl) (Nat.le_of_ble_eq_true rfl) rfl ?_
    refine r.iload 0 (DX8_errorOf 48 rfl) rfl ?_
    refine r.if_eqF 97 (DX8_errorOf 49 rfl) rfl (by decide) ?_
    refine r.iconst (v := (0 : Int32)) (DX8_errorOf 50 rfl) rfl ?_
    refine r.goto 99 (DX8_errorOf 51 rfl) rfl ?_
    cases hxt
    exact hret _ _ _ _ (DX8_errorOf 53 rfl) rfl ⟨(), rfl, rfl⟩
  refine r.iconst (v := (-1 : Int32)) (DX8_errorOf 9 rfl) rfl ?_
  cases hxt
  exact hret _ _ _ _ (DX8_errorOf 10 rfl) rfl ⟨(), rfl, rfl⟩
set_option maxRecDepth 100000 in
set_option maxHeartbeats 4000000 in
theorem t_X8_numberNow (E : xE) (a : Nat → Nat) (hp1 : Nat) (sp1 : Nat → Int32) (hM : Mem) {o : Int32} (hxt : xt_X8_numberNow sp1 hM = some o) : xMI (S := Unit) E yX8_numberNow cX8_numberNow 2 .int 2 0 0 [.ref (a 0), .ref hp1] [(a 0, oX8 a), (a 1, oX3 a), (a 4, aI E 256 (hM 4)), (hp1, oX6 sp1)] (fun _ => o) (fun _ => [(a 0, oX8 a), (a 1, oX3 a), (a 4, aI E 256 (hM 4)), (hp1, oX6 sp1)]) := by
  refine xMI.of (own := RX8) (lo0 := [(0, .ref (a 0)), (1, .ref hp1)]) (by decide +kernel) rfl rfl (Nat.le_of_ble_eq_true rfl) (fun V r hret => ?_)
  unfold xt_X8_numberNow at hxt
  refine r.aload_n 0 (DX8_numberNow 0 rfl) rfl ?_
  refine r.get (v := .ref (a 1)) kX8 f_X8_10 rfl 0 rfl rfl (DX8_numberNow 1 rfl) ?_
  refine r.aload_n 1 (DX8_numberNow 2 rfl) rfl ?_
  refine r.get (v := .int (sp1 2)) kX6 f_X8_160 rfl 3 rfl rfl (DX8_numberNow 3 rfl) ?_
  refine r.aload_n 1 (DX8_numberNow 4 rfl) rfl ?_
  refine r.get (v := .int (sp1 3)) kX6 f_X8_163 rfl 3 rfl rfl (DX8_numberNow 5 rfl) ?_
  refine r.aload_n 1 (DX8_numberNow 6 rfl) rfl ?_
  refine r.get (v := .int (sp1 4)) kX6 f_X8_166 rfl 3 rfl rfl (DX8_numberNow 7 rfl) ?_
  refine r.aload_n 1 (DX8_numberNow 8 rfl) rfl ?_
  refine r.get (v := .int (sp1 5)) kX6 f_X8_169 rfl 3 rfl rfl (DX8_numberNow 9 rfl) ?_
  obtain ⟨o_1, ho_1, hxt⟩ := xbd hxt
  refine r.callVI 0 rfl rfl (t_X3_numberOf E a (sp1 2) (sp1 3) (sp1 4) (sp1 5) hM ho_1) g_X8_192 rfl (DX8_numberNow 10 rfl) rfl ⟨(Nat.le_of_ble_eq_true rfl), (Nat.le_of_ble_eq_true rfl)⟩ ⟨(Nat.le_of_ble_eq_true rfl), (Nat.le_of_ble_eq_true rfl)⟩ (Nat.le_of_ble_eq_true rfl) [1, 2] [0, 3] rfl rfl rfl rfl (by decide) [0, 2, 3, 1] rfl (ws2 := fun _ => [(a 0, oX8 a), (a 1, oX3 a), (a 4, aI E 256 (hM 4)), (hp1, oX6 sp1)]) (fun _ => rfl) (fun _ => ?_)
  cases hxt
  exact hret _ _ _ _ (DX8_numberNow 11 rfl) rfl ⟨(), rfl, rfl⟩
set_option maxRecDepth 100000 in
set_option maxHeartbeats 4000000 in
theorem t_X8_distanceNow (E : xE) (a : Nat → Nat) (hM : Mem) {o : Int32 × Mem} (hxt : xt_X8_distanceNow hM = some o) : xMI (S := Unit) E yX8_distanceNow cX8_distanceNow 1 .int 5 0 0 [.ref (a 0)] [(a 0, oX8 a), (a 1, oX3 a), (a 2, aI E 16 (hM 2)), (a 3, aI E 16 (hM 3)), (a 4, aI E 256 (hM 4)), (a 5, aI E 128 (hM 5)), (a 6, aI E 128 (hM 6)), (a 7, aI E 128 (hM 7)), (a 9, oX0 a (hM 9)), (a 10, aI E 4096 (hM 10)), (a 11, aI E 120 (hM 11)), (a 12, aI E 120 (hM 12)), (a 20, oX2 a), (a 21, oX6 (hM 21))] (fun _ => o.1) (fun _ => [(a 0, oX8 a), (a 1, oX3 a), (a 2, aI E 16 (hM 2)), (a 3, aI E 16 (hM 3)), (a 4, aI E 256 (hM 4)), (a 5, aI E 128 (hM 5)), (a 6, aI E 128 (hM 6)), (a 7, aI E 128 (hM 7)), (a 9, oX0 a (o.2 9)), (a 10, aI E 4096 (o.2 10)), (a 11, aI E 120 (o.2 11)), (a 12, aI E 120 (o.2 12)), (a 20, oX2 a), (a 21, oX6 (hM 21))]) := by
  refine xMI.of (own := RX8) (lo0 := [(0, .ref (a 0))]) (by decide +kernel) rfl rfl (Nat.le_of_ble_eq_true rfl) (fun V r hret => ?_)
  unfold xt_X8_distanceNow at hxt
  refine r.aload_n 0 (DX8_distanceNow 0 rfl) rfl ?_
  refine r.get (v := .ref (a 20)) kX8 f_X8_46 rfl 0 rfl rfl (DX8_distanceNow 1 rfl) ?_
  refine r.aload_n 0 (DX8_distanceNow 2 rfl) rfl ?_
  refine r.get (v := .ref (a 21)) kX8 f_X8_53 rfl 0 rfl rfl (DX8_distanceNow 3 rfl) ?_
  obtain ⟨o_1, ho_1, hxt⟩ := xbd hxt
  refine r.callVI 3 rfl rfl (t_X2_caught E a (a 21) (hM 21) hM ho_1) g_X8_172 rfl (DX8_distanceNow 4 rfl) rfl ⟨(Nat.le_of_ble_eq_true rfl), (Nat.le_of_ble_eq_true rfl)⟩ ⟨(Nat.le_of_ble_eq_true rfl), (Nat.le_of_ble_eq_true rfl)⟩ (Nat.le_of_ble_eq_true rfl) [1, 2, 3, 12, 13] [0, 4, 5, 6, 7, 8, 9, 10, 11] rfl rfl rfl rfl (by decide) [0, 9, 10, 11, 1, 2, 3, 4, 5, 6, 7, 8, 12, 13] rfl (ws2 := fun _ => [(a 0, oX8 a), (a 1, oX3 a), (a 2, aI E 16 (hM 2)), (a 3, aI E 16 (hM 3)), (a 4, aI E 256 (hM 4)), (a 5, aI E 128 (hM 5)), (a 6, aI E 128 (hM 6)), (a 7, aI E 128 (hM 7)), (a 9, oX0 a (hM 9)), (a 10, aI E 4096 (hM 10)), (a 11, aI E 120 (hM 11)), (a 12, aI E 120 (hM 12)), (a 20, oX2 a), (a 21, oX6 (hM 21))]) (fun _ => rfl) (fun _ => ?_)
  refine r.if_eq 16 (DX8_distanceNow 5 rfl) rfl hxt (fun _ hxt => ?_) (fun _ hxt => ?_)
  · refine r.aload_n 0 (DX8_distanceNow 8 rfl) rfl ?_
    refine r.get (v := .ref (a 9)) kX8 f_X8_21 rfl 0 rfl rfl (DX8_distanceNow 9 rfl) ?_
    refine r.aload_n 0 (DX8_distanceNow 10 rfl) rfl ?_
    refine r.get (v := .ref (a 21)) kX8 f_X8_53 rfl 0 rfl rfl (DX8_distanceNow 11 rfl) ?_
    obtain ⟨o_2, ho_2, hxt⟩ := xbd hxt
    refine r.callVV 7 rfl rfl (t_X0_prepare E a (a 21) (hM 21) hM ho_2) g_X8_189 rfl (DX8_distanceNow 12 rfl) rfl ⟨(Nat.le_of_ble_eq_true rfl), (Nat.le_of_ble_eq_true rfl)⟩ ⟨(Nat.le_of_ble_eq_true rfl), (Nat.le_of_ble_eq_true rfl)⟩ (Nat.le_of_ble_eq_true rfl) [1, 2, 3, 4, 5, 6, 7, 8, 9, 10, 11, 13] [0, 12] rfl rfl rfl rfl (by decide) [0, 2, 3, 4, 5, 6, 7, 8, 9, 10, 11, 12, 1, 13] rfl (ws2 := fun _ => [(a 0, oX8 a), (a 1, oX3 a), (a 2, aI E 16 (hM 2)), (a 3, aI E 16 (hM 3)), (a 4, aI E 256 (hM 4)), (a 5, aI E 128 (hM 5)), (a 6, aI E 128 (hM 6)), (a 7, aI E 128 (hM 7)), (a 9, oX0 a (o_2 9)), (a 10, aI E 4096 (o_2 10)), (a 11, aI E 120 (o_2 11)), (a 12, aI E 120 (o_2 12)), (a 20, oX2 a), (a 21, oX6 (hM 21))]) (fun _ => rfl) (fun _ => ?_)
    refine r.aload_n 0 (DX8_distanceNow 13 rfl) rfl ?_
    refine r.get (v := .ref (a 9)) kX8 f_X8_21 rfl 0 rfl rfl (DX8_distanceNow 14 rfl) ?_
    refine r.aload_n 0 (DX8_distanceNow 15 rfl) rfl ?_
    refine r.aload_n 0 (DX8_distanceNow 16 rfl) rfl ?_
    refine r.get (v := .ref (a 21)) kX8 f_X8_53 rfl 0 rfl rfl (DX8_distanceNow 17 rfl) ?_
    obtain ⟨o_3, ho_3, hxt⟩ := xbd hxt
    refine r.callVI 0 rfl rfl (t_X8_numberNow E a (a 21) (hM 21) hM ho_3) g_X8_179 rfl (DX8_distanceNow 18 rfl) rfl ⟨(Nat.le_of_ble_eq_true rfl), (Nat.le_of_ble_eq_true rfl)⟩ ⟨(Nat.le_of_ble_eq_true rfl), (Nat.le_of_ble_eq_true rfl)⟩ (Nat.le_of_ble_eq_true rfl) [0, 1, 4, 13] [2, 3, 5, 6, 7, 8, 9, 10, 11, 12] rfl rfl rfl rfl (by decide) [10, 11, 0, 1, 12, 2, 3, 4, 5, 6, 7, 8, 9, 13] rfl (ws2 := fun _ => [(a 0, oX8 a), (a 1, oX3 a), (a 2, aI E 16 (hM 2)), (a 3, aI E 16 (hM 3)), (a 4, aI E 256 (hM 4)), (a 5, aI E 128 (hM 5)), (a 6, aI E 128 (hM 6)), (a 7, aI E 128 (hM 7)), (a 9, oX0 a (o_2 9)), (a 10, aI E 4096 (o_2 10)), (a 11, aI E 120 (o_2 11)), (a 12, aI E 120 (o_2 12)), (a 20, oX2 a), (a 21, oX6 (hM 21))]) (fun _ => rfl) (fun _ => ?_)
    obtain ⟨o_4, ho_4, hxt⟩ := xbd hxt
    refine r.callVI 0 rfl rfl (t_X0_at E a o_3 (mgs hM [9, 10] o_2) ho_4) g_X8_195 rfl (DX8_distanceNow 19 rfl) rfl ⟨(Nat.le_of_ble_eq_true rfl), (Nat.le_of_ble_eq_true rfl)⟩ ⟨(Nat.le_of_ble_eq_true rfl), (Nat.le_of_ble_eq_true rfl)⟩ (Nat.le_of_ble_eq_true rfl) [8, 9] [0, 1, 2, 3, 4, 5, 6, 7, 10, 11, 12, 13] rfl rfl rfl rfl (by decide) [0, 1, 2, 3, 4, 5, 6, 7, 12, 13, 8, 9, 10, 11] rfl (ws2 := fun _ => [(a 0, oX8 a), (a 1, oX3 a), (a 2, aI E 16 (hM 2)), (a 3, aI E 16 (hM 3)), (a 4, aI E 256 (hM 4)), (a 5, aI E 128 (hM 5)), (a 6, aI E 128 (hM 6)), (a 7, aI E 128 (hM 7)), (a 9, oX0 a (o_2 9)), (a 10, aI E 4096 (o_2 10)), (a 11, aI E 120 (o_2 11)), (a 12, aI E 120 (o_2 12)), (a 20, oX2 a), (a 21, oX6 (hM 21))]) (fun _ => rfl) (fun _ => ?_)
    cases hxt
    exact hret _ _ _ _ (DX8_distanceNow 20 rfl) rfl ⟨(), rfl, rfl⟩
  refine r.iconst (v := (0 : Int32)) (DX8_distanceNow 6 rfl) rfl ?_
  cases hxt
  exact hret _ _ _ _ (DX8_distanceNow 7 rfl) rfl ⟨(), rfl, rfl⟩
set_option maxRecDepth 100000 in
set_option maxHeartbeats 4000000 in
theorem t_X8_setUp (E : xE) (a : Nat → Nat) (ha : Nat → Nat) (x1 : Int32) (x2 : Int32) (x3 : Int32) (x4 : Int32) (hM : Mem) {o : Int32 × Mem} (hxt : xt_X8_setUp x1 x2 x3 x4 hM = some o) : xMI (S := Nat → Nat) E yX8_setUp cX8_setUp 6 .int 6 0 0 [.ref (a 0), .int x1, .int x2, .int x3, .int x4] [(a 0, oX8 a), (a 1, oX3 a), (a 2, aI E 16 (hM 2)), (a 3, aI E 16 (hM 3)), (a 4, aI E 256 (hM 4)), (a 5, aI E 128 (hM 5)), (a 6, aI E 128 (hM 6)), (a 7, aI E 128 (hM 7)), (a 9, oX0 a (hM 9)), (a 10, aI E 4096 (hM 10)), (a 11, aI E 120 (hM 11)), (a 12, aI E 120 (hM 12)), (a 20, oX2 a), (a 21, oX6 (hM 21)), (a 23, oX4 a (hM 23)), (a 24, .inl (xO E, 6, .inr (.inr (.inr (.inr (xhf ha)))))), (ha 0, oX6 (hM 60)), (ha 1, oX6 (hM 61)), (ha 2, oX6 (hM 62)), (ha 3, oX6 (hM 63)), (ha 4, oX6 (hM 64)), (ha 5, oX6 (hM 65))] (fun _ => o.1) (fun u => [(a 0, oX8 a), (a 1, oX3 a), (a 2, aI E 16 (hM 2)), (a 3, aI E 16 (hM 3)), (a 4, aI E 256 (hM 4)), (a 5, aI E 128 (hM 5)), (a 6, aI E 128 (hM 6)), (a 7, aI E 128 (hM 7)), (a 9, oX0 a (o.2 9)), (a 10, aI E 4096 (o.2 10)), (a 11, aI E 120 (o.2 11)), (a 12, aI E 120 (o.2 12)), (a 20, oX2 a), (a 21, oX6 (o.2 21)), (a 23, oX4 a (o.2 23)), (a 24, .inl (xO E, 6, .inr (.inr (.inr (.inr (xhf u)))))), (u 0, oX6 (o.2 60)), (u 1, oX6 (o.2 61)), (u 2, oX6 (o.2 62)), (u 3, oX6 (o.2 63)), (u 4, oX6 (o.2 64)), (u 5, oX6 (o.2 65))]) := by
  refine xMI.of (own := RX8) (lo0 := [(0, .ref (a 0)), (1, .int x1), (2, .int x2), (3, .int x3), (4, .int x4)]) (by decide +kernel) rfl rfl (Nat.le_of_ble_eq_true rfl) (fun V r hret => ?_)
  unfold xt_X8_setUp at hxt
  refine r.aload_n 0 (DX8_setUp 0 rfl) rfl ?_
  refine r.iload_n 1 (DX8_setUp 1 rfl) rfl ?_
  refine r.iload_n 2 (DX8_setUp 2 rfl) rfl ?_
  refine r.iload_n 3 (DX8_setUp 3 rfl) rfl ?_
  refine r.iload 4 (DX8_setUp 4 rfl) rfl ?_
  obtain ⟨o_1, ho_1, hxt⟩ := xbd hxt
  refine r.callVI 0 rfl rfl (t_X8_errorOf E a x1 x2 x3 x4 hM ho_1) g_X8_115 rfl (DX8_setUp 5 rfl) rfl ⟨(Nat.le_of_ble_eq_true rfl), (Nat.le_of_ble_eq_true rfl)⟩ ⟨(Nat.le_of_ble_eq_true rfl), (Nat.le_of_ble_eq_true rfl)⟩ (Nat.le_of_ble_eq_true rfl) [0, 13] [1, 2, 3, 4, 5, 6, 7, 8, 9, 10, 11, 12, 14, 15, 16, 17, 18, 19, 20, 21] rfl rfl rfl rfl (by decide) [20, 0, 1, 2, 3, 4, 5, 6, 7, 8, 9, 10, 11, 21, 12, 13, 14, 15, 16, 17, 18, 19] rfl (ws2 := fun _ => [(a 0, oX8 a), (a 1, oX3 a), (a 2, aI E 16 (hM 2)), (a 3, aI E 16 (hM 3)), (a 4, aI E 256 (hM 4)), (a 5, aI E 128 (hM 5)), (a 6, aI E 128 (hM 6)), (a 7, aI E 128 (hM 7)), (a 9, oX0 a (hM 9)), (a 10, aI E 4096 (hM 10)), (a 11, aI E 120 (hM 11)), (a 12, aI E 120 (hM 12)), (a 20, oX2 a), (a 21, oX6 (hM 21)), (a 23, oX4 a (hM 23)), (a 24, .inl (xO E, 6, .inr (.inr (.inr (.inr (xhf ha)))))), (ha 0, oX6 (hM 60)), (ha 1, oX6 (hM 61)), (ha 2, oX6 (hM 62)), (ha 3, oX6 (hM 63)), (ha 4, oX6 (hM 64)), (ha 5, oX6 (hM 65))]) (fun _ => rfl) (fun _ => ?_)
  refine r.istore (lo' := [(5, .int o_1), (0, .ref (a 0)), (1, .int x1), (2, .int x2), (3, .int x3), (4, .int x4)]) (DX8_setUp 6 rfl) (Nat.le_of_ble_eq_true rfl) rfl ?_
  refine r.iload 0 (DX8_setUp 7 rfl) rfl ?_
  refine r.if_eq 19 (DX8_setUp 8 rfl) rfl hxt (fun _ hxt => ?_) (fun _ hxt => ?_)
  · refine r.aload_n 1 (DX8_setUp 11 rfl) rfl ?_
    refine r.get (v := .ref (a 23)) kX8 f_X8_63 rfl 0 rfl rfl (DX8_setUp 12 rfl) ?_
    refine r.aload_n 1 (DX8_setUp 13 rfl) rfl ?_
    refine r.get (v := .ref (a 21)) kX8 f_X8_53 rfl 0 rfl rfl (DX8_setUp 14 rfl) ?_
    obtain ⟨o_2, ho_2, hxt⟩ := xbd hxt
    refine r.callVV 0 rfl rfl (t_X4_record E a ha (a 21) (hM 21) hM ho_2) g_X8_86 rfl (DX8_setUp 15 rfl) rfl ⟨(Nat.le_of_ble_eq_true rfl), (Nat.le_of_ble_eq_true rfl)⟩ ⟨(Nat.le_of_ble_eq_true rfl), (Nat.le_of_ble_eq_true rfl)⟩ (Nat.le_of_ble_eq_true rfl) [14, 15, 16, 17, 18, 19, 20, 21, 13] [0, 1, 2, 3, 4, 5, 6, 7, 8, 9, 10, 11, 12] rfl rfl rfl rfl (by decide) [0, 1, 2, 3, 4, 5, 6, 7, 8, 9, 10, 11, 12, 21, 13, 14, 15, 16, 17, 18, 19, 20] rfl (ws2 := fun ha_3 => [(a 0, oX8 a), (a 1, oX3 a), (a 2, aI E 16 (hM 2)), (a 3, aI E 16 (hM 3)), (a 4, aI E 256 (hM 4)), (a 5, aI E 128 (hM 5)), (a 6, aI E 128 (hM 6)), (a 7, aI E 128 (hM 7)), (a 9, oX0 a (hM 9)), (a 10, aI E 4096 (hM 10)), (a 11, aI E 120 (hM 11)), (a 12, aI E 120 (hM 12)), (a 20, oX2 a), (a 21, oX6 (hM 21)), (a 23, oX4 a (o_2 23)), (a 24, .inl (xO E, 6, .inr (.inr (.inr (.inr (xhf ha_3)))))), (ha_3 0, oX6 (o_2 60)), (ha_3 1, oX6 (o_2 61)), (ha_3 2, oX6 (o_2 62)), (ha_3 3, oX6 (o_2 63)), (ha_3 4, oX6 (o_2 64)), (ha_3 5, oX6 (o_2 65))]) (fun _ => rfl) (fun ha_3 => ?_)
    refine r.aload_n 1 (DX8_setUp 16 rfl) rfl ?_
    refine r.get (v := .ref (a 21)) kX8 f_X8_53 rfl 0 rfl rfl (DX8_setUp 17 rfl) ?_
    refine r.iload_n 2 (DX8_setUp 18 rfl) rfl ?_
    refine r.iload_n 3 (DX8_setUp 19 rfl) rfl ?_
    refine r.iload_n 4 (DX8_setUp 20 rfl) rfl ?_
    refine r.iload 5 (DX8_setUp 21 rfl) rfl ?_
    obtain ⟨o_4, ho_4, hxt⟩ := xbd hxt
    refine r.callVV 0 rfl rfl (t_X6_place E a (a 21) x1 x2 x3 x4 (hM 21) ho_4) g_X8_82 rfl (DX8_setUp 22 rfl) rfl ⟨(Nat.le_of_ble_eq_true rfl), (Nat.le_of_ble_eq_true rfl)⟩ ⟨(Nat.le_of_ble_eq_true rfl), (Nat.le_of_ble_eq_true rfl)⟩ (Nat.le_of_ble_eq_true rfl) [13] [0, 1, 2, 3, 4, 5, 6, 7, 8, 9, 10, 11, 12, 14, 15, 16, 17, 18, 19, 20, 21] rfl rfl rfl rfl (by decide) [0, 1, 2, 3, 4, 5, 6, 7, 8, 9, 10, 11, 12, 21, 13, 14, 15, 16, 17, 18, 19, 20] rfl (ws2 := fun _ => [(a 0, oX8 a), (a 1, oX3 a), (a 2, aI E 16 (hM 2)), (a 3, aI E 16 (hM 3)), (a 4, aI E 256 (hM 4)), (a 5, aI E 128 (hM 5)), (a 6, aI E 128 (hM 6)), (a 7, aI E 128 (hM 7)), (a 9, oX0 a (hM 9)), (a 10, aI E 4096 (hM 10)), (a 11, aI E 120 (hM 11)), (a 12, aI E 120 (hM 12)), (a 20, oX2 a), (a 21, oX6 o_4), (a 23, oX4 a (o_2 23)), (a 24, .inl (xO E, 6, .inr (.inr (.inr (.inr (xhf ha_3)))))), (ha_3 0, oX6 (o_2 60)), (ha_3 1, oX6 (o_2 61)), (ha_3 2, oX6 (o_2 62)), (ha_3 3, oX6 (o_2 63)), (ha_3 4, oX6 (o_2 64)), (ha_3 5, oX6 (o_2 65))]) (fun _ => rfl) (fun _ => ?_)
    refine r.aload_n 1 (DX8_setUp 23 rfl) rfl ?_
    obtain ⟨o_5, ho_5, hxt⟩ := xbd hxt
    refine r.callVI 0 rfl rfl (t_X8_distanceNow E a (mset hM 21 o_4) ho_5) g_X8_119 rfl (DX8_setUp 24 rfl) rfl ⟨(Nat.le_of_ble_eq_true rfl), (Nat.le_of_ble_eq_true rfl)⟩ ⟨(Nat.le_of_ble_eq_true rfl), (Nat.le_of_ble_eq_true rfl)⟩ (Nat.le_of_ble_eq_true rfl) [0, 1, 2, 3, 4, 5, 6, 7, 8, 9, 10, 11, 12, 13] [14, 15, 16, 17, 18, 19, 20, 21] rfl rfl rfl rfl (by decide) [8, 9, 10, 11, 12, 13, 14, 15, 16, 17, 18, 19, 20, 21, 0, 1, 2, 3, 4, 5, 6, 7] rfl (ws2 := fun _ => [(a 0, oX8 a), (a 1, oX3 a), (a 2, aI E 16 (hM 2)), (a 3, aI E 16 (hM 3)), (a 4, aI E 256 (hM 4)), (a 5, aI E 128 (hM 5)), (a 6, aI E 128 (hM 6)), (a 7, aI E 128 (hM 7)), (a 9, oX0 a (o_5.2 9)), (a 10, aI E 4096 (o_5.2 10)), (a 11, aI E 120 (o_5.2 11)), (a 12, aI E 120 (o_5.2 12)), (a 20, oX2 a), (a 21, oX6 o_4), (a 23, oX4 a (o_2 23)), (a 24, .inl (xO E, 6, .inr (.inr (.inr (.inr (xhf ha_3)))))), (ha_3 0, oX6 (o_2 60)), (ha_3 1, oX6 (o_2 61)), (ha_3 2, oX6 (o_2 62)), (ha_3 3, oX6 (o_2 63)), (ha_3 4, oX6 (o_2 64)), (ha_3 5, oX6 (o_2 65))]) (fun _ => rfl) (fun _ => ?_)
    cases hxt
    exact hret _ _ _ _ (DX8_setUp 25 rfl) rfl ⟨ha_3, rfl, rfl⟩
  refine r.iload 0 (DX8_setUp 9 rfl) rfl ?_
  cases hxt
  exact hret _ _ _ _ (DX8_setUp 10 rfl) rfl ⟨ha, rfl, rfl⟩
set_option maxRecDepth 100000 in
set_option maxHeartbeats 4000000 in
theorem t_X8_makeMove (E : xE) (a : Nat → Nat) (ha : Nat → Nat) (x1 : Int32) (x2 : Int32) (hM : Mem) {o : Int32 × Mem} (hxt : xt_X8_makeMove x1 x2 hM = some o) : xMI (S := Nat → Nat) E yX8_makeMove cX8_makeMove 3 .int 3 0 0 [.ref (a 0), .int x1, .int x2] [(a 0, oX8 a), (a 1, oX3 a), (a 2, aI E 16 (hM 2)), (a 3, aI E 16 (hM 3)), (a 20, oX2 a), (a 21, oX6 (hM 21)), (a 23, oX4 a (hM 23)), (a 24, .inl (xO E, 6, .inr (.inr (.inr (.inr (xhf ha)))))), (ha 0, oX6 (hM 60)), (ha 1, oX6 (hM 61)), (ha 2, oX6 (hM 62)), (ha 3, oX6 (hM 63)), (ha 4, oX6 (hM 64)), (ha 5, oX6 (hM 65))] (fun _ => o.1) (fun u => [(a 0, oX8 a), (a 1, oX3 a), (a 2, aI E 16 (hM 2)), (a 3, aI E 16 (hM 3)), (a 20, oX2 a), (a 21, oX6 (o.2 21)), (a 23, oX4 a (o.2 23)), (a 24, .inl (xO E, 6, .inr (.inr (.inr (.inr (xhf u)))))), (u 0, oX6 (o.2 60)), (u 1, oX6 (o.2 61)), (u 2, oX6 (o.2 62)), (u 3, oX6 (o.2 63)), (u 4, oX6 (o.2 64)), (u 5, oX6 (o.2 65))]) := by
  refine xMI.of (own := RX8) (lo0 := [(0, .ref (a 0)), (1, .int x1), (2, .int x2)]) (by decide +kernel) rfl rfl (Nat.le_of_ble_eq_true rfl) (fun V r hret => ?_)
  unfold xt_X8_makeMove at hxt
  refine r.aload_n 0 (DX8_makeMove 0 rfl) rfl ?_
  refine r.get (v := .ref (a 23)) kX8 f_X8_63 rfl 0 rfl rfl (DX8_makeMove 1 rfl) ?_
  refine r.aload_n 0 (DX8_makeMove 2 rfl) rfl ?_
  refine r.get (v := .ref (a 21)) kX8 f_X8_53 rfl 0 rfl rfl (DX8_makeMove 3 rfl) ?_
  obtain ⟨o_1, ho_1, hxt⟩ := xbd hxt
  refine r.callVV 0 rfl rfl (t_X4_record E a ha (a 21) (hM 21) hM ho_1) g_X8_86 rfl (DX8_makeMove 4 rfl) rfl ⟨(Nat.le_of_ble_eq_true rfl), (Nat.le_of_ble_eq_true rfl)⟩ ⟨(Nat.le_of_ble_eq_true rfl), (Nat.le_of_ble_eq_true rfl)⟩ (Nat.le_of_ble_eq_true rfl) [6, 7, 8, 9, 10, 11, 12, 13, 5] [0, 1, 2, 3, 4] rfl rfl rfl rfl (by decide) [0, 1, 2, 3, 4, 13, 5, 6, 7, 8, 9, 10, 11, 12] rfl (ws2 := fun ha_2 => [(a 0, oX8 a), (a 1, oX3 a), (a 2, aI E 16 (hM 2)), (a 3, aI E 16 (hM 3)), (a 20, oX2 a), (a 21, oX6 (hM 21)), (a 23, oX4 a (o_1 23)), (a 24, .inl (xO E, 6, .inr (.inr (.inr (.inr (xhf ha_2)))))), (ha_2 0, oX6 (o_1 60)), (ha_2 1, oX6 (o_1 61)), (ha_2 2, oX6 (o_1 62)), (ha_2 3, oX6 (o_1 63)), (ha_2 4, oX6 (o_1 64)), (ha_2 5, oX6 (o_1 65))]) (fun _ => rfl) (fun ha_2 => ?_)
  refine r.aload_n 0 (DX8_makeMove 5 rfl) rfl ?_
  refine r.get (v := .ref (a 20)) kX8 f_X8_46 rfl 0 rfl rfl (DX8_makeMove 6 rfl) ?_
  refine r.aload_n 0 (DX8_makeMove 7 rfl) rfl ?_
  refine r.get (v := .ref (a 21)) kX8 f_X8_53 rfl 0 rfl rfl (DX8_makeMove 8 rfl) ?_
  refine r.iload_n 1 (DX8_makeMove 9 rfl) rfl ?_
  refine r.iload_n 2 (DX8_makeMove 10 rfl) rfl ?_
  obtain ⟨o_3, ho_3, hxt⟩ := xbd hxt
  refine r.callVV 0 rfl rfl (t_X2_make E a (a 21) x1 x2 (hM 21) ho_3) g_X8_233 rfl (DX8_makeMove 11 rfl) rfl ⟨(Nat.le_of_ble_eq_true rfl), (Nat.le_of_ble_eq_true rfl)⟩ ⟨(Nat.le_of_ble_eq_true rfl), (Nat.le_of_ble_eq_true rfl)⟩ (Nat.le_of_ble_eq_true rfl) [4, 5] [0, 1, 2, 3, 6, 7, 8, 9, 10, 11, 12, 13] rfl rfl rfl rfl (by decide) [0, 1, 2, 3, 12, 13, 4, 5, 6, 7, 8, 9, 10, 11] rfl (ws2 := fun _ => [(a 0, oX8 a), (a 1, oX3 a), (a 2, aI E 16 (hM 2)), (a 3, aI E 16 (hM 3)), (a 20, oX2 a), (a 21, oX6 o_3), (a 23, oX4 a (o_1 23)), (a 24, .inl (xO E, 6, .inr (.inr (.inr (.inr (xhf ha_2)))))), (ha_2 0, oX6 (o_1 60)), (ha_2 1, oX6 (o_1 61)), (ha_2 2, oX6 (o_1 62)), (ha_2 3, oX6 (o_1 63)), (ha_2 4, oX6 (o_1 64)), (ha_2 5, oX6 (o_1 65))]) (fun _ => rfl) (fun _ => ?_)
  refine r.aload_n 0 (DX8_makeMove 12 rfl) rfl ?_
  refine r.get (v := .ref (a 20)) kX8 f_X8_46 rfl 0 rfl rfl (DX8_makeMove 13 rfl) ?_
  refine r.aload_n 0 (DX8_makeMove 14 rfl) rfl ?_
  refine r.get (v := .ref (a 21)) kX8 f_X8_53 rfl 0 rfl rfl (DX8_makeMove 15 rfl) ?_
  obtain ⟨o_4, ho_4, hxt⟩ := xbd hxt
  refine r.callVI 3 rfl rfl (t_X2_caught E a (a 21) o_3 hM ho_4) g_X8_172 rfl (DX8_makeMove 16 rfl) rfl ⟨(Nat.le_of_ble_eq_true rfl), (Nat.le_of_ble_eq_true rfl)⟩ ⟨(Nat.le_of_ble_eq_true rfl), (Nat.le_of_ble_eq_true rfl)⟩ (Nat.le_of_ble_eq_true rfl) [1, 2, 3, 4, 5] [0, 6, 7, 8, 9, 10, 11, 12, 13] rfl rfl rfl rfl (by decide) [0, 9, 10, 11, 12, 13, 1, 2, 3, 4, 5, 6, 7, 8] rfl (ws2 := fun _ => [(a 0, oX8 a), (a 1, oX3 a), (a 2, aI E 16 (hM 2)), (a 3, aI E 16 (hM 3)), (a 20, oX2 a), (a 21, oX6 o_3), (a 23, oX4 a (o_1 23)), (a 24, .inl (xO E, 6, .inr (.inr (.inr (.inr (xhf ha_2)))))), (ha_2 0, oX6 (o_1 60)), (ha_2 1, oX6 (o_1 61)), (ha_2 2, oX6 (o_1 62)), (ha_2 3, oX6 (o_1 63)), (ha_2 4, oX6 (o_1 64)), (ha_2 5, oX6 (o_1 65))]) (fun _ => rfl) (fun _ => ?_)
  refine r.if_eq 42 (DX8_makeMove 17 rfl) rfl hxt (fun _ hxt => ?_) (fun _ hxt => ?_)
  · refine r.iconst (v := (0 : Int32)) (DX8_makeMove 20 rfl) rfl ?_
    cases hxt
    exact hret _ _ _ _ (DX8_makeMove 21 rfl) rfl ⟨ha_2, rfl, rfl⟩
  refine r.iconst (v := (1 : Int32)) (DX8_makeMove 18 rfl) rfl ?_
  refine r.goto 43 (DX8_makeMove 19 rfl) rfl ?_
  cases hxt
  exact hret _ _ _ _ (DX8_makeMove 21 rfl) rfl ⟨ha_2, rfl, rfl⟩
set_option maxRecDepth 100000 in
set_option maxHeartbeats 4000000 in
theorem t_X8_move (E : xE) (a : Nat → Nat) (ha : Nat → Nat) (x1 : Int32) (x2 : Int32) (hM : Mem) {o : Int32 × Mem} (hxt : xt_X8_move x1 x2 hM = some o) : xMI (S := Nat → Nat) E yX8_move cX8_move 3 .int 4 0 0 [.ref (a 0), .int x1, .int x2] [(a 0, oX8 a), (a 1, oX3 a), (a 2, aI E 16 (hM 2)), (a 3, aI E 16 (hM 3)), (a 20, oX2 a), (a 21, oX6 (hM 21)), (a 23, oX4 a (hM 23)), (a 24, .inl (xO E, 6, .inr (.inr (.inr (.inr (xhf ha)))))), (ha 0, oX6 (hM 60)), (ha 1, oX6 (hM 61)), (ha 2, oX6 (hM 62)), (ha 3, oX6 (hM 63)), (ha 4, oX6 (hM 64)), (ha 5, oX6 (hM 65))] (fun _ => o.1) (fun u => [(a 0, oX8 a), (a 1, oX3 a), (a 2, aI E 16 (hM 2)), (a 3, aI E 16 (hM 3)), (a 20, oX2 a), (a 21, oX6 (o.2 21)), (a 23, oX4 a (o.2 23)), (a 24, .inl (xO E, 6, .inr (.inr (.inr (.inr (xhf u)))))), (u 0, oX6 (o.2 60)), (u 1, oX6 (o.2 61)), (u 2, oX6 (o.2 62)), (u 3, oX6 (o.2 63)), (u 4, oX6 (o.2 64)), (u 5, oX6 (o.2 65))]) := by
  refine xMI.of (own := RX8) (lo0 := [(0, .ref (a 0)), (1, .int x1), (2, .int x2)]) (by decide +kernel) rfl rfl (Nat.le_of_ble_eq_true rfl) (fun V r hret => ?_)
  unfold xt_X8_move at hxt
  refine r.iload_n 1 (DX8_move 0 rfl) rfl ?_
  obtain ⟨o_1, ho_1, hxt⟩ := xbd hxt
  refine r.callSI0 (t_X3_isPlace E x1 ho_1) g_X8_98 rfl (DX8_move 1 rfl) rfl ⟨(Nat.le_of_ble_eq_true rfl), (Nat.le_of_ble_eq_true rfl)⟩ (Nat.le_of_ble_eq_true rfl) ?_
  refine r.if_eq 14 (DX8_move 2 rfl) rfl hxt (fun _ hxt => ?_) (fun _ hxt => ?_)
  · refine r.iconst (v := (-1 : Int32)) (DX8_move 6 rfl) rfl ?_
    cases hxt
    exact hret _ _ _ _ (DX8_move 7 rfl) rfl ⟨ha, rfl, rfl⟩
  refine r.iload_n 2 (DX8_move 3 rfl) rfl ?_
  obtain ⟨o_2, ho_2, hxt⟩ := xbd hxt
  refine r.callSI0 (t_X3_isPlace E x2 ho_2) g_X8_98 rfl (DX8_move 4 rfl) rfl ⟨(Nat.le_of_ble_eq_true rfl), (Nat.le_of_ble_eq_true rfl)⟩ (Nat.le_of_ble_eq_true rfl) ?_
  refine r.if_ne 16 (DX8_move 5 rfl) rfl hxt (fun _ hxt => ?_) (fun _ hxt => ?_)
  · refine r.aload_n 0 (DX8_move 8 rfl) rfl ?_
    refine r.get (v := .ref (a 20)) kX8 f_X8_46 rfl 0 rfl rfl (DX8_move 9 rfl) ?_
    refine r.aload_n 0 (DX8_move 10 rfl) rfl ?_
    refine r.get (v := .ref (a 21)) kX8 f_X8_53 rfl 0 rfl rfl (DX8_move 11 rfl) ?_
    refine r.iload_n 1 (DX8_move 12 rfl) rfl ?_
    refine r.iload_n 2 (DX8_move 13 rfl) rfl ?_
    obtain ⟨o_3, ho_3, hxt⟩ := xbd hxt
    refine r.callVI 3 rfl rfl (t_X2_allows E a (a 21) x1 x2 (hM 21) hM ho_3) g_X8_122 rfl (DX8_move 14 rfl) rfl ⟨(Nat.le_of_ble_eq_true rfl), (Nat.le_of_ble_eq_true rfl)⟩ ⟨(Nat.le_of_ble_eq_true rfl), (Nat.le_of_ble_eq_true rfl)⟩ (Nat.le_of_ble_eq_true rfl) [1, 2, 3, 4, 5] [0, 6, 7, 8, 9, 10, 11, 12, 13] rfl rfl rfl rfl (by decide) [0, 9, 10, 11, 12, 13, 1, 2, 3, 4, 5, 6, 7, 8] rfl (ws2 := fun _ => [(a 0, oX8 a), (a 1, oX3 a), (a 2, aI E 16 (hM 2)), (a 3, aI E 16 (hM 3)), (a 20, oX2 a), (a 21, oX6 (hM 21)), (a 23, oX4 a (hM 23)), (a 24, .inl (xO E, 6, .inr (.inr (.inr (.inr (xhf ha)))))), (ha 0, oX6 (hM 60)), (ha 1, oX6 (hM 61)), (ha 2, oX6 (hM 62)), (ha 3, oX6 (hM 63)), (ha 4, oX6 (hM 64)), (ha 5, oX6 (hM 65))]) (fun _ => rfl) (fun _ => ?_)
    refine r.if_ne 35 (DX8_move 15 rfl) rfl hxt (fun _ hxt => ?_) (fun _ hxt => ?_)
    · refine r.aload_n 0 (DX8_move 18 rfl) rfl ?_
      refine r.iload_n 1 (DX8_move 19 rfl) rfl ?_
      refine r.iload_n 2 (DX8_move 20 rfl) rfl ?_
      obtain ⟨o_4, ho_4, hxt⟩ := xbd hxt
      refine r.callVI 0 rfl rfl (t_X8_makeMove E a ha x1 x2 hM ho_4) g_X8_126 rfl (DX8_move 21 rfl) rfl ⟨(Nat.le_of_ble_eq_true rfl), (Nat.le_of_ble_eq_true rfl)⟩ ⟨(Nat.le_of_ble_eq_true rfl), (Nat.le_of_ble_eq_true rfl)⟩ (Nat.le_of_ble_eq_true rfl) [0, 1, 2, 3, 4, 5, 6, 7, 8, 9, 10, 11, 12, 13] [] rfl rfl rfl rfl (by decide) [0, 1, 2, 3, 4, 5, 6, 7, 8, 9, 10, 11, 12, 13] rfl (ws2 := fun ha_5 => [(a 0, oX8 a), (a 1, oX3 a), (a 2, aI E 16 (hM 2)), (a 3, aI E 16 (hM 3)), (a 20, oX2 a), (a 21, oX6 (o_4.2 21)), (a 23, oX4 a (o_4.2 23)), (a 24, .inl (xO E, 6, .inr (.inr (.inr (.inr (xhf ha_5)))))), (ha_5 0, oX6 (o_4.2 60)), (ha_5 1, oX6 (o_4.2 61)), (ha_5 2, oX6 (o_4.2 62)), (ha_5 3, oX6 (o_4.2 63)), (ha_5 4, oX6 (o_4.2 64)), (ha_5 5, oX6 (o_4.2 65))]) (fun _ => rfl) (fun ha_5 => ?_)
      cases hxt
      exact hret _ _ _ _ (DX8_move 22 rfl) rfl ⟨ha_5, rfl, rfl⟩
    refine r.bipush (v := (-5 : Int32)) (DX8_move 16 rfl) rfl ?_
    cases hxt
    exact hret _ _ _ _ (DX8_move 17 rfl) rfl ⟨ha, rfl, rfl⟩
  refine r.iconst (v := (-1 : Int32)) (DX8_move 6 rfl) rfl ?_
  cases hxt
  exact hret _ _ _ _ (DX8_move 7 rfl) rfl ⟨ha, rfl, rfl⟩
set_option maxRecDepth 100000 in
set_option maxHeartbeats 4000000 in
theorem t_X8_play (E : xE) (a : Nat → Nat) (ha : Nat → Nat) (hM : Mem) {o : Int32 × Mem} (hxt : xt_X8_play hM = some o) : xMI (S := Nat → Nat) E yX8_play cX8_play 2 .int 6 0 0 [.ref (a 0)] [(a 0, oX8 a), (a 1, oX3 a), (a 2, aI E 16 (hM 2)), (a 3, aI E 16 (hM 3)), (a 4, aI E 256 (hM 4)), (a 5, aI E 128 (hM 5)), (a 6, aI E 128 (hM 6)), (a 7, aI E 128 (hM 7)), (a 9, oX0 a (hM 9)), (a 10, aI E 4096 (hM 10)), (a 11, aI E 120 (hM 11)), (a 12, aI E 120 (hM 12)), (a 20, oX2 a), (a 21, oX6 (hM 21)), (a 23, oX4 a (hM 23)), (a 24, .inl (xO E, 6, .inr (.inr (.inr (.inr (xhf ha)))))), (ha 0, oX6 (hM 60)), (ha 1, oX6 (hM 61)), (ha 2, oX6 (hM 62)), (ha 3, oX6 (hM 63)), (ha 4, oX6 (hM 64)), (ha 5, oX6 (hM 65))] (fun _ => o.1) (fun u => [(a 0, oX8 a), (a 1, oX3 a), (a 2, aI E 16 (hM 2)), (a 3, aI E 16 (hM 3)), (a 4, aI E 256 (hM 4)), (a 5, aI E 128 (hM 5)), (a 6, aI E 128 (hM 6)), (a 7, aI E 128 (hM 7)), (a 9, oX0 a (o.2 9)), (a 10, aI E 4096 (o.2 10)), (a 11, aI E 120 (o.2 11)), (a 12, aI E 120 (o.2 12)), (a 20, oX2 a), (a 21, oX6 (o.2 21)), (a 23, oX4 a (o.2 23)), (a 24, .inl (xO E, 6, .inr (.inr (.inr (.inr (xhf u)))))), (u 0, oX6 (o.2 60)), (u 1, oX6 (o.2 61)), (u 2, oX6 (o.2 62)), (u 3, oX6 (o.2 63)), (u 4, oX6 (o.2 64)), (u 5, oX6 (o.2 65))]) := by
  refine xMI.of (own := RX8) (lo0 := [(0, .ref (a 0))]) (by decide +kernel) rfl rfl (Nat.le_of_ble_eq_true rfl) (fun V r hret => ?_)
  unfold xt_X8_play at hxt
  refine r.aload_n 0 (DX8_play 0 rfl) rfl ?_
  refine r.get (v := .ref (a 20)) kX8 f_X8_46 rfl 0 rfl rfl (DX8_play 1 rfl) ?_
  refine r.aload_n 0 (DX8_play 2 rfl) rfl ?_
  refine r.get (v := .ref (a 21)) kX8 f_X8_53 rfl 0 rfl rfl (DX8_play 3 rfl) ?_
  obtain ⟨o_1, ho_1, hxt⟩ := xbd hxt
  refine r.callVI 11 rfl rfl (t_X2_bestMove E a (a 21) (hM 21) hM ho_1) g_X8_130 rfl (DX8_play 4 rfl) rfl ⟨(Nat.le_of_ble_eq_true rfl), (Nat.le_of_ble_eq_true rfl)⟩ ⟨(Nat.le_of_ble_eq_true rfl), (Nat.le_of_ble_eq_true rfl)⟩ (Nat.le_of_ble_eq_true rfl) [1, 2, 3, 4, 5, 6, 7, 8, 9, 10, 11, 12, 13] [0, 14, 15, 16, 17, 18, 19, 20, 21] rfl rfl rfl rfl (by decide) [0, 9, 10, 11, 12, 13, 14, 15, 16, 17, 18, 19, 20, 21, 1, 2, 3, 4, 5, 6, 7, 8] rfl (ws2 := fun _ => [(a 0, oX8 a), (a 1, oX3 a), (a 2, aI E 16 (hM 2)), (a 3, aI E 16 (hM 3)), (a 4, aI E 256 (hM 4)), (a 5, aI E 128 (hM 5)), (a 6, aI E 128 (hM 6)), (a 7, aI E 128 (hM 7)), (a 9, oX0 a (o_1.2 9)), (a 10, aI E 4096 (o_1.2 10)), (a 11, aI E 120 (o_1.2 11)), (a 12, aI E 120 (o_1.2 12)), (a 20, oX2 a), (a 21, oX6 (hM 21)), (a 23, oX4 a (hM 23)), (a 24, .inl (xO E, 6, .inr (.inr (.inr (.inr (xhf ha)))))), (ha 0, oX6 (hM 60)), (ha 1, oX6 (hM 61)), (ha 2, oX6 (hM 62)), (ha 3, oX6 (hM 63)), (ha 4, oX6 (hM 64)), (ha 5, oX6 (hM 65))]) (fun _ => rfl) (fun _ => ?_)
  refine r.istore_n (lo' := [(1, .int o_1.1), (0, .ref (a 0))]) (DX8_play 5 rfl) (Nat.le_of_ble_eq_true rfl) rfl ?_
  refine r.iload_n 0 (DX8_play 6 rfl) rfl ?_
  refine r.bipush (v := (-6 : Int32)) (DX8_play 7 rfl) rfl ?_
  refine r.icmp_ne 21 (DX8_play 8 rfl) rfl hxt (fun _ hxt => ?_) (fun _ hxt => ?_)
  · refine r.aload_n 1 (DX8_play 11 rfl) rfl ?_
    refine r.iload_n 0 (DX8_play 12 rfl) rfl ?_
    obtain ⟨o_2, ho_2, hxt⟩ := xbd hxt
    refine r.callSI0 (t_X2_fromOf E o_1.1 ho_2) g_X8_134 rfl (DX8_play 13 rfl) rfl ⟨(Nat.le_of_ble_eq_true rfl), (Nat.le_of_ble_eq_true rfl)⟩ (Nat.le_of_ble_eq_true rfl) ?_
    refine r.iload_n 0 (DX8_play 14 rfl) rfl ?_
    obtain ⟨o_3, ho_3, hxt⟩ := xbd hxt
    refine r.callSI0 (t_X2_toOf E o_1.1 ho_3) g_X8_137 rfl (DX8_play 15 rfl) rfl ⟨(Nat.le_of_ble_eq_true rfl), (Nat.le_of_ble_eq_true rfl)⟩ (Nat.le_of_ble_eq_true rfl) ?_
    obtain ⟨o_4, ho_4, hxt⟩ := xbd hxt
    refine r.callVI 0 rfl rfl (t_X8_makeMove E a ha o_2 o_3 hM ho_4) g_X8_126 rfl (DX8_play 16 rfl) rfl ⟨(Nat.le_of_ble_eq_true rfl), (Nat.le_of_ble_eq_true rfl)⟩ ⟨(Nat.le_of_ble_eq_true rfl), (Nat.le_of_ble_eq_true rfl)⟩ (Nat.le_of_ble_eq_true rfl) [0, 1, 2, 3, 12, 13, 14, 15, 16, 17, 18, 19, 20, 21] [4, 5, 6, 7, 8, 9, 10, 11] rfl rfl rfl rfl (by decide) [8, 9, 10, 11, 0, 1, 2, 3, 4, 5, 6, 7, 12, 13, 14, 15, 16, 17, 18, 19, 20, 21] rfl (ws2 := fun ha_5 => [(a 0, oX8 a), (a 1, oX3 a), (a 2, aI E 16 (hM 2)), (a 3, aI E 16 (hM 3)), (a 4, aI E 256 (hM 4)), (a 5, aI E 128 (hM 5)), (a 6, aI E 128 (hM 6)), (a 7, aI E 128 (hM 7)), (a 9, oX0 a (o_1.2 9)), (a 10, aI E 4096 (o_1.2 10)), (a 11, aI E 120 (o_1.2 11)), (a 12, aI E 120 (o_1.2 12)), (a 20, oX2 a), (a 21, oX6 (o_4.2 21)), (a 23, oX4 a (o_4.2 23)), (a 24, .inl (xO E, 6, .inr (.inr (.inr (.inr (xhf ha_5)))))), (ha_5 0, oX6 (o_4.2 60)), (ha_5 1, oX6 (o_4.2 61)), (ha_5 2, oX6 (o_4.2 62)), (ha_5 3, oX6 (o_4.2 63)), (ha_5 4, oX6 (o_4.2 64)), (ha_5 5, oX6 (o_4.2 65))]) (fun _ => rfl) (fun ha_5 => ?_)
    cases hxt
    exact hret _ _ _ _ (DX8_play 17 rfl) rfl ⟨ha_5, rfl, rfl⟩
  refine r.bipush (v := (-5 : Int32)) (DX8_play 9 rfl) rfl ?_
  cases hxt
  exact hret _ _ _ _ (DX8_play 10 rfl) rfl ⟨ha, rfl, rfl⟩
set_option maxRecDepth 100000 in
set_option maxHeartbeats 4000000 in
theorem t_X8_readPad (E : xE) (a : Nat → Nat) (ha : Nat → Nat) (hM : Mem) {o : Int32 × Mem} (hxt : xt_X8_readPad hM = some o) : xMI (S := Nat → Nat) E yX8_readPad cX8_readPad 4 .int 6 0 0 [.ref (a 0)] [(a 0, oX8 a), (a 1, oX3 a), (a 2, aI E 16 (hM 2)), (a 3, aI E 16 (hM 3)), (a 4, aI E 256 (hM 4)), (a 5, aI E 128 (hM 5)), (a 6, aI E 128 (hM 6)), (a 7, aI E 128 (hM 7)), (a 9, oX0 a (hM 9)), (a 10, aI E 4096 (hM 10)), (a 11, aI E 120 (hM 11)), (a 12, aI E 120 (hM 12)), (a 20, oX2 a), (a 21, oX6 (hM 21)), (a 23, oX4 a (hM 23)), (a 24, .inl (xO E, 6, .inr (.inr (.inr (.inr (xhf ha)))))), (ha 0, oX6 (hM 60)), (ha 1, oX6 (hM 61)), (ha 2, oX6 (hM 62)), (ha 3, oX6 (hM 63)), (ha 4, oX6 (hM 64)), (ha 5, oX6 (hM 65)), (a 25, oX5 a (hM 25)), (a 26, aC E 24 (hM 26))] (fun _ => o.1) (fun u => [(a 0, oX8 a), (a 1, oX3 a), (a 2, aI E 16 (hM 2)), (a 3, aI E 16 (hM 3)), (a 4, aI E 256 (hM 4)), (a 5, aI E 128 (hM 5)), (a 6, aI E 128 (hM 6)), (a 7, aI E 128 (hM 7)), (a 9, oX0 a (o.2 9)), (a 10, aI E 4096 (o.2 10)), (a 11, aI E 120 (o.2 11)), (a 12, aI E 120 (o.2 12)), (a 20, oX2 a), (a 21, oX6 (o.2 21)), (a 23, oX4 a (o.2 23)), (a 24, .inl (xO E, 6, .inr (.inr (.inr (.inr (xhf u)))))), (u 0, oX6 (o.2 60)), (u 1, oX6 (o.2 61)), (u 2, oX6 (o.2 62)), (u 3, oX6 (o.2 63)), (u 4, oX6 (o.2 64)), (u 5, oX6 (o.2 65)), (a 25, oX5 a (o.2 25)), (a 26, aC E 24 (hM 26))]) := by
  refine xMI.of (own := RX8) (lo0 := [(0, .ref (a 0))]) (by decide +kernel) rfl rfl (Nat.le_of_ble_eq_true rfl) (fun V r hret => ?_)
  unfold xt_X8_readPad at hxt
  refine r.aload_n 0 (DX8_readPad_0 0 rfl) rfl ?_
  refine r.get (v := .ref (a 25)) kX8 f_X8_70 rfl 0 rfl rfl (DX8_readPad_0 1 rfl) ?_
  obtain ⟨o_1, ho_1, hxt⟩ := xbd hxt
  refine r.callVI 0 rfl rfl (t_X5_firstFault E a hM ho_1) g_X8_140 rfl (DX8_readPad_0 2 rfl) rfl ⟨(Nat.le_of_ble_eq_true rfl), (Nat.le_of_ble_eq_true rfl)⟩ ⟨(Nat.le_of_ble_eq_true rfl), (Nat.le_of_ble_eq_true rfl)⟩ (Nat.le_of_ble_eq_true rfl) [22, 23] [0, 1, 2, 3, 4, 5, 6, 7, 8, 9, 10, 11, 12, 13, 14, 15, 16, 17, 18, 19, 20, 21] rfl rfl rfl rfl (by decide) [0, 1, 2, 3, 4, 5, 6, 7, 8, 9, 10, 11, 12, 13, 14, 15, 16, 17, 18, 19, 20, 21, 22, 23] rfl (ws2 := fun _ => [(a 0, oX8 a), (a 1, oX3 a), (a 2, aI E 16 (hM 2)), (a 3, aI E 16 (hM 3)), (a 4, aI E 256 (hM 4)), (a 5, aI E 128 (hM 5)), (a 6, aI E 128 (hM 6)), (a 7, aI E 128 (hM 7)), (a 9, oX0 a (hM 9)), (a 10, aI E 4096 (hM 10)), (a 11, aI E 120 (hM 11)), (a 12, aI E 120 (hM 12)), (a 20, oX2 a), (a 21, oX6 (hM 21)), (a 23, oX4 a (hM 23)), (a 24, .inl (xO E, 6, .inr (.inr (.inr (.inr (xhf ha)))))), (ha 0, oX6 (hM 60)), (ha 1, oX6 (hM 61)), (ha 2, oX6 (hM 62)), (ha 3, oX6 (hM 63)), (ha 4, oX6 (hM 64)), (ha 5, oX6 (hM 65)), (a 25, oX5 a (hM 25)), (a 26, aC E 24 (hM 26))]) (fun _ => rfl) (fun _ => ?_)
  refine r.bipush (v := (-6 : Int32)) (DX8_readPad_0 3 rfl) rfl ?_
  refine r.icmp_eq 15 (DX8_readPad_0 4 rfl) rfl hxt (fun _ hxt => ?_) (fun _ hxt => ?_)
  · refine r.aload_n 0 (DX8_readPad_0 7 rfl) rfl ?_
    refine r.get (v := .ref (a 25)) kX8 f_X8_70 rfl 0 rfl rfl (DX8_readPad_0 8 rfl) ?_
    refine r.bipush (v := (70 : Int32)) (DX8_readPad_0 9 rfl) rfl ?_
    obtain ⟨o_2, ho_2, hxt⟩ := xbd hxt
    refine r.callVI 0 rfl rfl (t_X5_placesOf E a (70 : Int32) hM ho_2) g_X8_143 rfl (DX8_readPad_0 10 rfl) rfl ⟨(Nat.le_of_ble_eq_true rfl), (Nat.le_of_ble_eq_true rfl)⟩ ⟨(Nat.le_of_ble_eq_true rfl), (Nat.le_of_ble_eq_true rfl)⟩ (Nat.le_of_ble_eq_true rfl) [22, 23] [0, 1, 2, 3, 4, 5, 6, 7, 8, 9, 10, 11, 12, 13, 14, 15, 16, 17, 18, 19, 20, 21] rfl rfl rfl rfl (by decide) [0, 1, 2, 3, 4, 5, 6, 7, 8, 9, 10, 11, 12, 13, 14, 15, 16, 17, 18, 19, 20, 21, 22, 23] rfl (ws2 := fun _ => [(a 0, oX8 a), (a 1, oX3 a), (a 2, aI E 16 (hM 2)), (a 3, aI E 16 (hM 3)), (a 4, aI E 256 (hM 4)), (a 5, aI E 128 (hM 5)), (a 6, aI E 128 (hM 6)), (a 7, aI E 128 (hM 7)), (a 9, oX0 a (hM 9)), (a 10, aI E 4096 (hM 10)), (a 11, aI E 120 (hM 11)), (a 12, aI E 120 (hM 12)), (a 20, oX2 a), (a 21, oX6 (hM 21)), (a 23, oX4 a (hM 23)), (a 24, .inl (xO E, 6, .inr (.inr (.inr (.inr (xhf ha)))))), (ha 0, oX6 (hM 60)), (ha 1, oX6 (hM 61)), (ha 2, oX6 (hM 62)), (ha 3, oX6 (hM 63)), (ha 4, oX6 (hM 64)), (ha 5, oX6 (hM 65)), (a 25, oX5 a (hM 25)), (a 26, aC E 24 (hM 26))]) (fun _ => rfl) (fun _ => ?_)
    refine r.istore_n (lo' := [(1, .int o_2), (0, .ref (a 0))]) (DX8_readPad_0 11 rfl) (Nat.le_of_ble_eq_true rfl) rfl ?_
    refine r.aload_n 1 (DX8_readPad_0 12 rfl) rfl ?_
    refine r.get (v := .ref (a 25)) kX8 f_X8_70 rfl 0 rfl rfl (DX8_readPad_0 13 rfl) ?_
    refine r.bipush (v := (72 : Int32)) (DX8_readPad_0 14 rfl) rfl ?_
    obtain ⟨o_3, ho_3, hxt⟩ := xbd hxt
    refine r.callVI 0 rfl rfl (t_X5_placesOf E a (72 : Int32) hM ho_3) g_X8_143 rfl (DX8_readPad_0 15 rfl) rfl ⟨(Nat.le_of_ble_eq_true rfl), (Nat.le_of_ble_eq_true rfl)⟩ ⟨(Nat.le_of_ble_eq_true rfl), (Nat.le_of_ble_eq_true rfl)⟩ (Nat.le_of_ble_eq_true rfl) [22, 23] [0, 1, 2, 3, 4, 5, 6, 7, 8, 9, 10, 11, 12, 13, 14, 15, 16, 17, 18, 19, 20, 21] rfl rfl rfl rfl (by decide) [0, 1, 2, 3, 4, 5, 6, 7, 8, 9, 10, 11, 12, 13, 14, 15, 16, 17, 18, 19, 20, 21, 22, 23] rfl (ws2 := fun _ => [(a 0, oX8 a), (a 1, oX3 a), (a 2, aI E 16 (hM 2)), (a 3, aI E 16 (hM 3)), (a 4, aI E 256 (hM 4)), (a 5, aI E 128 (hM 5)), (a 6, aI E 128 (hM 6)), (a 7, aI E 128 (hM 7)), (a 9, oX0 a (hM 9)), (a 10, aI E 4096 (hM 10)), (a 11, aI E 120 (hM 11)), (a 12, aI E 120 (hM 12)), (a 20, oX2 a), (a 21, oX6 (hM 21)), (a 23, oX4 a (hM 23)), (a 24, .inl (xO E, 6, .inr (.inr (.inr (.inr (xhf ha)))))), (ha 0, oX6 (hM 60)), (ha 1, oX6 (hM 61)), (ha 2, oX6 (hM 62)), (ha 3, oX6 (hM 63)), (ha 4, oX6 (hM 64)), (ha 5, oX6 (hM 65)), (a 25, oX5 a (hM 25)), (a 26, aC E 24 (hM 26))]) (fun _ => rfl) (fun _ => ?_)
    refine r.istore_n (lo' := [(2, .int o_3), (1, .int o_2), (0, .ref (a 0))]) (DX8_readPad_0 16 rfl) (Nat.le_of_ble_eq_true rfl) rfl ?_
    refine r.aload_n 2 (DX8_readPad_0 17 rfl) rfl ?_
    refine r.get (v := .ref (a 25)) kX8 f_X8_70 rfl 0 rfl rfl (DX8_readPad_0 18 rfl) ?_
    refine r.bipush (v := (35 : Int32)) (DX8_readPad_0 19 rfl) rfl ?_
    obtain ⟨o_4, ho_4, hxt⟩ := xbd hxt
    refine r.callVI 0 rfl rfl (t_X5_placesOf E a (35 : Int32) hM ho_4) g_X8_143 rfl (DX8_readPad_0 20 rfl) rfl ⟨(Nat.le_of_ble_eq_true rfl), (Nat.le_of_ble_eq_true rfl)⟩ ⟨(Nat.le_of_ble_eq_true rfl), (Nat.le_of_ble_eq_true rfl)⟩ (Nat.le_of_ble_eq_true rfl) [22, 23] [0, 1, 2, 3, 4, 5, 6, 7, 8, 9, 10, 11, 12, 13, 14, 15, 16, 17, 18, 19, 20, 21] rfl rfl rfl rfl (by decide) [0, 1, 2, 3, 4, 5, 6, 7, 8, 9, 10, 11, 12, 13, 14, 15, 16, 17, 18, 19, 20, 21, 22, 23] rfl (ws2 := fun _ => [(a 0, oX8 a), (a 1, oX3 a), (a 2, aI E 16 (hM 2)), (a 3, aI E 16 (hM 3)), (a 4, aI E 256 (hM 4)), (a 5, aI E 128 (hM 5)), (a 6, aI E 128 (hM 6)), (a 7, aI E 128 (hM 7)), (a 9, oX0 a (hM 9)), (a 10, aI E 4096 (hM 10)), (a 11, aI E 120 (hM 11)), (a 12, aI E 120 (hM 12)), (a 20, oX2 a), (a 21, oX6 (hM 21)), (a 23, oX4 a (hM 23)), (a 24, .inl (xO E, 6, .inr (.inr (.inr (.inr (xhf ha)))))), (ha 0, oX6 (hM 60)), (ha 1, oX6 (hM 61)), (ha 2, oX6 (hM 62)), (ha 3, oX6 (hM 63)), (ha 4, oX6 (hM 64)), (ha 5, oX6 (hM 65)), (a 25, oX5 a (hM 25)), (a 26, aC E 24 (hM 26))]) (fun _ => rfl) (fun _ => ?_)
    refine r.istore_n (lo' := [(3, .int o_4), (2, .int o_3), (1, .int o_2), (0, .ref (a 0))]) (DX8_readPad_0 21 rfl) (Nat.le_of_ble_eq_true rfl) rfl ?_
    refine r.iload_n 2 (DX8_readPad_0 22 rfl) rfl ?_
    obtain ⟨o_5, ho_5, hxt⟩ := xbd hxt
    refine r.callSI0 (t_J6_bitCount_0f7a4 E o_2 ho_5) g_X8_106 rfl (DX8_readPad_0 23 rfl) rfl ⟨(Nat.le_of_ble_eq_true rfl), (Nat.le_of_ble_eq_true rfl)⟩ (Nat.le_of_ble_eq_true rfl) ?_
    refine r.iconst (v := (1 : Int32)) (DX8_readPad_0 24 rfl) rfl ?_
    refine r.icmp_ne 61 (DX8_readPad_0 25 rfl) rfl hxt (fun _ hxt => ?_) (fun _ hxt => ?_)
    · refine r.bipush (v := (-5 : Int32)) (DX8_readPad_0 30 rfl) rfl ?_
      cases hxt
      exact hret _ _ _ _ (DX8_readPad_0 31 rfl) rfl ⟨ha, rfl, rfl⟩
    refine r.iload_n 1 (DX8_readPad_0 26 rfl) rfl ?_
    obtain ⟨o_6, ho_6, hxt⟩ := xbd hxt
    refine r.callSI0 (t_J6_bitCount_0f7a4 E o_3 ho_6) g_X8_106 rfl (DX8_readPad_0 27 rfl) rfl ⟨(Nat.le_of_ble_eq_true rfl), (Nat.le_of_ble_eq_true rfl)⟩ (Nat.le_of_ble_eq_true rfl) ?_
    refine r.iconst (v := (2 : Int32)) (DX8_readPad_0 28 rfl) rfl ?_
    refine r.icmp_eq 64 (DX8_readPad_0 29 rfl) rfl hxt (fun _ hxt => ?_) (fun _ hxt => ?_)
    · refine r.iload_n 0 (DX8_readPad_0 32 rfl) rfl ?_
      obtain ⟨o_7, ho_7, hxt⟩ := xbd hxt
      refine r.callSI0 (t_J6_bitCount_0f7a4 E o_4 ho_7) g_X8_106 rfl (DX8_readPad_0 33 rfl) rfl ⟨(Nat.le_of_ble_eq_true rfl), (Nat.le_of_ble_eq_true rfl)⟩ (Nat.le_of_ble_eq_true rfl) ?_
      refine r.bipush (v := (6 : Int32)) (DX8_readPad_0 34 rfl) rfl ?_
      refine r.icmp_le 76 (DX8_readPad_0 35 rfl) rfl hxt (fun _ hxt => ?_) (fun _ hxt => ?_)
      · refine r.aload_n 3 (DX8_readPad_0 38 rfl) rfl ?_
        refine r.get (v := .ref (a 23)) kX8 f_X8_63 rfl 0 rfl rfl (DX8_readPad_0 39 rfl) ?_
        refine r.aload_n 3 (DX8_readPad_0 40 rfl) rfl ?_
        refine r.get (v := .ref (a 21)) kX8 f_X8_53 rfl 0 rfl rfl (DX8_readPad_0 41 rfl) ?_
        obtain ⟨o_8, ho_8, hxt⟩ := xbd hxt
        refine r.callVV 0 rfl rfl (t_X4_record E a ha (a 21) (hM 21) hM ho_8) g_X8_86 rfl (DX8_readPad_0 42 rfl) rfl ⟨(Nat.le_of_ble_eq_true rfl), (Nat.le_of_ble_eq_true rfl)⟩ ⟨(Nat.le_of_ble_eq_true rfl), (Nat.le_of_ble_eq_true rfl)⟩ (Nat.le_of_ble_eq_true rfl) [14, 15, 16, 17, 18, 19, 20, 21, 13] [0, 1, 2, 3, 4, 5, 6, 7, 8, 9, 10, 11, 12, 22, 23] rfl rfl rfl rfl (by decide) [0, 1, 2, 3, 4, 5, 6, 7, 8, 9, 10, 11, 12, 23, 15, 16, 17, 18, 19, 20, 21, 22, 13, 14] rfl (ws2 := fun ha_9 => [(a 0, oX8 a), (a 1, oX3 a), (a 2, aI E 16 (hM 2)), (a 3, aI E 16 (hM 3)), (a 4, aI E 256 (hM 4)), (a 5, aI E 128 (hM 5)), (a 6, aI E 128 (hM 6)), (a 7, aI E 128 (hM 7)), (a 9, oX0 a (hM 9)), (a 10, aI E 4096 (hM 10)), (a 11, aI E 120 (hM 11)), (a 12, aI E 120 (hM 12)), (a 20, oX2 a), (a 21, oX6 (hM 21)), (a 23, oX4 a (o_8 23)), (a 24, .inl (xO E, 6, .inr (.inr (.inr (.inr (xhf ha_9)))))), (ha_9 0, oX6 (o_8 60)), (ha_9 1, oX6 (o_8 61)), (ha_9 2, oX6 (o_8 62)), (ha_9 3, oX6 (o_8 63)), (ha_9 4, oX6 (o_8 64)), (ha_9 5, oX6 (o_8 65)), (a 25, oX5 a (hM 25)), (a 26, aC E 24 (hM 26))]) (fun _ => rfl) (fun ha_9 => ?_)
        refine r.aload_n 3 (DX8_readPad_0 43 rfl) rfl ?_
        refine r.get (v := .ref (a 21)) kX8 f_X8_53 rfl 0 rfl rfl (DX8_readPad_0 44 rfl) ?_
        refine r.iload_n 0 (DX8_readPad_0 45 rfl) rfl ?_
        refine r.put (ws' := [(a 0, oX8 a), (a 1, oX3 a), (a 2, aI E 16 (hM 2)), (a 3, aI E 16 (hM 3)), (a 4, aI E 256 (hM 4)), (a 5, aI E 128 (hM 5)), (a 6, aI E 128 (hM 6)), (a 7, aI E 128 (hM 7)), (a 9, oX0 a (hM 9)), (a 10, aI E 4096 (hM 10)), (a 11, aI E 120 (hM 11)), (a 12, aI E 120 (hM 12)), (a 20, oX2 a), (a 21, oX6 (upd (hM 21) 1 o_4)), (a 23, oX4 a (o_8 23)), (a 24, .inl (xO E, 6, .inr (.inr (.inr (.inr (xhf ha_9)))))), (ha_9 0, oX6 (o_8 60)), (ha_9 1, oX6 (o_8 61)), (ha_9 2, oX6 (o_8 62)), (ha_9 3, oX6 (o_8 63)), (ha_9 4, oX6 (o_8 64)), (ha_9 5, oX6 (o_8 65)), (a 25, oX5 a (hM 25)), (a 26, aC E 24 (hM 26))]) kX6 f_X8_102 13 rfl rfl rfl rfl (Nat.le_of_ble_eq_true rfl) rfl (DX8_readPad_0 46 rfl) ?_
        refine r.aload_n 3 (DX8_readPad_0 47 rfl) rfl ?_
        refine r.get (v := .ref (a 21)) kX8 f_X8_53 rfl 0 rfl rfl (DX8_readPad_0 48 rfl) ?_
        refine r.aload_n 3 (DX8_readPad_0 49 rfl) rfl ?_
        refine r.get (v := .ref (a 25)) kX8 f_X8_70 rfl 0 rfl rfl (DX8_readPad_0 50 rfl) ?_
        obtain ⟨o_10, ho_10, hxt⟩ := xbd hxt
        refine r.callVI 0 rfl rfl (t_X5_foxMoves E a hM ho_10) g_X8_147 rfl (DX8_readPad_0 51 rfl) rfl ⟨(Nat.le_of_ble_eq_true rfl), (Nat.le_of_ble_eq_true rfl)⟩ ⟨(Nat.le_of_ble_eq_true rfl), (Nat.le_of_ble_eq_true rfl)⟩ (Nat.le_of_ble_eq_true rfl) [22, 23] [0, 1, 2, 3, 4, 5, 6, 7, 8, 9, 10, 11, 12, 13, 14, 15, 16, 17, 18, 19, 20, 21] rfl rfl rfl rfl (by decide) [0, 1, 2, 3, 4, 5, 6, 7, 8, 9, 10, 11, 12, 13, 14, 15, 16, 17, 18, 19, 20, 21, 22, 23] rfl (ws2 := fun _ => [(a 0, oX8 a), (a 1, oX3 a), (a 2, aI E 16 (hM 2)), (a 3, aI E 16 (hM 3)), (a 4, aI E 256 (hM 4)), (a 5, aI E 128 (hM 5)), (a 6, aI E 128 (hM 6)), (a 7, aI E 128 (hM 7)), (a 9, oX0 a (hM 9)), (a 10, aI E 4096 (hM 10)), (a 11, aI E 120 (hM 11)), (a 12, aI E 120 (hM 12)), (a 20, oX2 a), (a 21, oX6 (upd (hM 21) 1 o_4)), (a 23, oX4 a (o_8 23)), (a 24, .inl (xO E, 6, .inr (.inr (.inr (.inr (xhf ha_9)))))), (ha_9 0, oX6 (o_8 60)), (ha_9 1, oX6 (o_8 61)), (ha_9 2, oX6 (o_8 62)), (ha_9 3, oX6 (o_8 63)), (ha_9 4, oX6 (o_8 64)), (ha_9 5, oX6 (o_8 65)), (a 25, oX5 a (hM 25)), (a 26, aC E 24 (hM 26))]) (fun _ => rfl) (fun _ => ?_)
        refine r.if_eq 113 (DX8_readPad_0 52 rfl) rfl hxt (fun _ hxt => ?_) (fun _ hxt => ?_)
        · refine r.iconst (v := (0 : Int32)) (DX8_readPad_0 55 rfl) rfl ?_
          refine r.iload_n 2 (DX8_readPad_0 56 rfl) rfl ?_
          obtain ⟨o_11, ho_11, hxt⟩ := xbd hxt
          refine r.callSI0 (t_X3_lowest E o_2 ho_11) g_X8_151 rfl (DX8_readPad_0 57 rfl) rfl ⟨(Nat.le_of_ble_eq_true rfl), (Nat.le_of_ble_eq_true rfl)⟩ (Nat.le_of_ble_eq_true rfl) ?_
          refine r.iload_n 1 (DX8_readPad_0 58 rfl) rfl ?_
          obtain ⟨o_12, ho_12, hxt⟩ := xbd hxt
          refine r.callSI0 (t_X3_lowest E o_3 ho_12) g_X8_151 rfl (DX8_readPad_0 59 rfl) rfl ⟨(Nat.le_of_ble_eq_true rfl), (Nat.le_of_ble_eq_true rfl)⟩ (Nat.le_of_ble_eq_true rfl) ?_
          refine r.iload_n 1 (DX8_readPad_1 0 rfl) rfl ?_
          obtain ⟨o_13, ho_13, hxt⟩ := xbd hxt
          refine r.callSI0 (t_X3_highest E o_3 ho_13) g_X8_154 rfl (DX8_readPad_1 1 rfl) rfl ⟨(Nat.le_of_ble_eq_true rfl), (Nat.le_of_ble_eq_true rfl)⟩ (Nat.le_of_ble_eq_true rfl) ?_
          obtain ⟨o_14, ho_14, hxt⟩ := xbd hxt
          refine r.callVV 0 rfl rfl (t_X6_place E a (a 21) (0 : Int32) o_11 o_12 o_13 (upd (hM 21) 1 o_4) ho_14) g_X8_82 rfl (DX8_readPad_1 2 rfl) rfl ⟨(Nat.le_of_ble_eq_true rfl), (Nat.le_of_ble_eq_true rfl)⟩ ⟨(Nat.le_of_ble_eq_true rfl), (Nat.le_of_ble_eq_true rfl)⟩ (Nat.le_of_ble_eq_true rfl) [13] [0, 1, 2, 3, 4, 5, 6, 7, 8, 9, 10, 11, 12, 14, 15, 16, 17, 18, 19, 20, 21, 22, 23] rfl rfl rfl rfl (by decide) [0, 1, 2, 3, 4, 5, 6, 7, 8, 9, 10, 11, 12, 23, 13, 14, 15, 16, 17, 18, 19, 20, 21, 22] rfl (ws2 := fun _ => [(a 0, oX8 a), (a 1, oX3 a), (a 2, aI E 16 (hM 2)), (a 3, aI E 16 (hM 3)), (a 4, aI E 256 (hM 4)), (a 5, aI E 128 (hM 5)), (a 6, aI E 128 (hM 6)), (a 7, aI E 128 (hM 7)), (a 9, oX0 a (hM 9)), (a 10, aI E 4096 (hM 10)), (a 11, aI E 120 (hM 11)), (a 12, aI E 120 (hM 12)), (a 20, oX2 a), (a 21, oX6 o_14), (a 23, oX4 a (o_8 23)), (a 24, .inl (xO E, 6, .inr (.inr (.inr (.inr (xhf ha_9)))))), (ha_9 0, oX6 (o_8 60)), (ha_9 1, oX6 (o_8 61)), (ha_9 2, oX6 (o_8 62)), (ha_9 3, oX6 (o_8 63)), (ha_9 4, oX6 (o_8 64)), (ha_9 5, oX6 (o_8 65)), (a 25, oX5 a (hM 25)), (a 26, aC E 24 (hM 26))]) (fun _ => rfl) (fun _ => ?_)
          refine r.aload_n 3 (DX8_readPad_1 3 rfl) rfl ?_
          refine r.get (v := .ref (a 25)) kX8 f_X8_70 rfl 0 rfl rfl (DX8_readPad_1 4 rfl) ?_
          obtain ⟨o_15, ho_15, hxt⟩ := xbd hxt
          refine r.callVV 0 rfl rfl (t_X5_empty E a hM ho_15) g_X8_157 rfl (DX8_readPad_1 5 rfl) rfl ⟨(Nat.le_of_ble_eq_true rfl), (Nat.le_of_ble_eq_true rfl)⟩ ⟨(Nat.le_of_ble_eq_true rfl), (Nat.le_of_ble_eq_true rfl)⟩ (Nat.le_of_ble_eq_true rfl) [22] [0, 1, 2, 3, 4, 5, 6, 7, 8, 9, 10, 11, 12, 13, 14, 15, 16, 17, 18, 19, 20, 21, 23] rfl rfl rfl rfl (by decide) [0, 1, 2, 3, 4, 5, 6, 7, 8, 9, 10, 11, 12, 13, 14, 15, 16, 17, 18, 19, 20, 21, 23, 22] rfl (ws2 := fun _ => [(a 0, oX8 a), (a 1, oX3 a), (a 2, aI E 16 (hM 2)), (a 3, aI E 16 (hM 3)), (a 4, aI E 256 (hM 4)), (a 5, aI E 128 (hM 5)), (a 6, aI E 128 (hM 6)), (a 7, aI E 128 (hM 7)), (a 9, oX0 a (hM 9)), (a 10, aI E 4096 (hM 10)), (a 11, aI E 120 (hM 11)), (a 12, aI E 120 (hM 12)), (a 20, oX2 a), (a 21, oX6 o_14), (a 23, oX4 a (o_8 23)), (a 24, .inl (xO E, 6, .inr (.inr (.inr (.inr (xhf ha_9)))))), (ha_9 0, oX6 (o_8 60)), (ha_9 1, oX6 (o_8 61)), (ha_9 2, oX6 (o_8 62)), (ha_9 3, oX6 (o_8 63)), (ha_9 4, oX6 (o_8 64)), (ha_9 5, oX6 (o_8 65)), (a 25, oX5 a (o_15 25)), (a 26, aC E 24 (hM 26))]) (fun _ => rfl) (fun _ => ?_)
          refine r.aload_n 3 (DX8_readPad_1 6 rfl) rfl ?_
          obtain ⟨o_16, ho_16, hxt⟩ := xbd hxt
          refine r.callVI 0 rfl rfl (t_X8_distanceNow E a (mset hM 21 o_14) ho_16) g_X8_119 rfl (DX8_readPad_1 7 rfl) rfl ⟨(Nat.le_of_ble_eq_true rfl), (Nat.le_of_ble_eq_true rfl)⟩ ⟨(Nat.le_of_ble_eq_true rfl), (Nat.le_of_ble_eq_true rfl)⟩ (Nat.le_of_ble_eq_true rfl) [0, 1, 2, 3, 4, 5, 6, 7, 8, 9, 10, 11, 12, 13] [14, 15, 16, 17, 18, 19, 20, 21, 22, 23] rfl rfl rfl rfl (by decide) [10, 11, 12, 13, 14, 15, 16, 17, 18, 19, 20, 21, 22, 23, 0, 1, 2, 3, 4, 5, 6, 7, 8, 9] rfl (ws2 := fun _ => [(a 0, oX8 a), (a 1, oX3 a), (a 2, aI E 16 (hM 2)), (a 3, aI E 16 (hM 3)), (a 4, aI E 256 (hM 4)), (a 5, aI E 128 (hM 5)), (a 6, aI E 128 (hM 6)), (a 7, aI E 128 (hM 7)), (a 9, oX0 a (o_16.2 9)), (a 10, aI E 4096 (o_16.2 10)), (a 11, aI E 120 (o_16.2 11)), (a 12, aI E 120 (o_16.2 12)), (a 20, oX2 a), (a 21, oX6 o_14), (a 23, oX4 a (o_8 23)), (a 24, .inl (xO E, 6, .inr (.inr (.inr (.inr (xhf ha_9)))))), (ha_9 0, oX6 (o_8 60)), (ha_9 1, oX6 (o_8 61)), (ha_9 2, oX6 (o_8 62)), (ha_9 3, oX6 (o_8 63)), (ha_9 4, oX6 (o_8 64)), (ha_9 5, oX6 (o_8 65)), (a 25, oX5 a (o_15 25)), (a 26, aC E 24 (hM 26))]) (fun _ => rfl) (fun _ => ?_)
          cases hxt
          exact hret _ _ _ _ (DX8_readPad_1 8 rfl) rfl ⟨ha_9, rfl, rfl⟩
        refine r.iconst (v := (1 : Int32)) (DX8_readPad_0 53 rfl) rfl ?_
        refine r.goto 114 (DX8_readPad_0 54 rfl) rfl ?_
        refine r.iload_n 2 (DX8_readPad_0 56 rfl) rfl ?_
        obtain ⟨o_17, ho_17, hxt⟩ := xbd hxt
        refine r.callSI0 (t_X3_lowest E o_2 ho_17) g_X8_151 rfl (DX8_readPad_0 57 rfl) rfl ⟨(Nat.le_of_ble_eq_true rfl), (Nat.le_of_ble_eq_true rfl)⟩ (Nat.le_of_ble_eq_true rfl) ?_
        refine r.iload_n 1 (DX8_readPad_0 58 rfl) rfl ?_
        obtain ⟨o_18, ho_18, hxt⟩ := xbd hxt
        refine r.callSI0 (t_X3_lowest E o_3 ho_18) g_X8_151 rfl (DX8_readPad_0 59 rfl) rfl ⟨(Nat.le_of_ble_eq_true rfl), (Nat.le_of_ble_eq_true rfl)⟩ (Nat.le_of_ble_eq_true rfl) ?_
        refine r.iload_n 1 (DX8_readPad_1 0 rfl) rfl ?_
        obtain ⟨o_19, ho_19, hxt⟩ := xbd hxt
        refine r.callSI0 (t_X3_highest E o_3 ho_19) g_X8_154 rfl (DX8_readPad_1 1 rfl) rfl ⟨(Nat.le_of_ble_eq_true rfl), (Nat.le_of_ble_eq_true rfl)⟩ (Nat.le_of_ble_eq_true rfl) ?_
        obtain ⟨o_20, ho_20, hxt⟩ := xbd hxt
        refine r.callVV 0 rfl rfl (t_X6_place E a (a 21) (1 : Int32) o_17 o_18 o_19 (upd (hM 21) 1 o_4) ho_20) g_X8_82 rfl (DX8_readPad_1 2 rfl) rfl ⟨(Nat.le_of_ble_eq_true rfl), (Nat.le_of_ble_eq_true rfl)⟩ ⟨(Nat.le_of_ble_eq_true rfl), (Nat.le_of_ble_eq_true rfl)⟩ (Nat.le_of_ble_eq_true rfl) [13] [0, 1, 2, 3, 4, 5, 6, 7, 8, 9, 10, 11, 12, 14, 15, 16, 17, 18, 19, 20, 21, 22, 23] rfl rfl rfl rfl (by decide) [0, 1, 2, 3, 4, 5, 6, 7, 8, 9, 10, 11, 12, 23, 13, 14, 15, 16, 17, 18, 19, 20, 21, 22] rfl (ws2 := fun _ => [(a 0, oX8 a), (a 1, oX3 a), (a 2, aI E 16 (hM 2)), (a 3, aI E 16 (hM 3)), (a 4, aI E 256 (hM 4)), (a 5, aI E 128 (hM 5)), (a 6, aI E 128 (hM 6)), (a 7, aI E 128 (hM 7)), (a 9, oX0 a (hM 9)), (a 10, aI E 4096 (hM 10)), (a 11, aI E 120 (hM 11)), (a 12, aI E 120 (hM 12)), (a 20, oX2 a), (a 21, oX6 o_20), (a 23, oX4 a (o_8 23)), (a 24, .inl (xO E, 6, .inr (.inr (.inr (.inr (xhf ha_9)))))), (ha_9 0, oX6 (o_8 60)), (ha_9 1, oX6 (o_8 61)), (ha_9 2, oX6 (o_8 62)), (ha_9 3, oX6 (o_8 63)), (ha_9 4, oX6 (o_8 64)), (ha_9 5, oX6 (o_8 65)), (a 25, oX5 a (hM 25)), (a 26, aC E 24 (hM 26))]) (fun _ => rfl) (fun _ => ?_)
        refine r.aload_n 3 (DX8_readPad_1 3 rfl) rfl ?_
        refine r.get (v := .ref (a 25)) kX8 f_X8_70 rfl 0 rfl rfl (DX8_readPad_1 4 rfl) ?_
        obtain ⟨o_21, ho_21, hxt⟩ := xbd hxt
        refine r.callVV 0 rfl rfl (t_X5_empty E a hM ho_21) g_X8_157 rfl (DX8_readPad_1 5 rfl) rfl ⟨(Nat.le_of_ble_eq_true rfl), (Nat.le_of_ble_eq_true rfl)⟩ ⟨(Nat.le_of_ble_eq_true rfl), (Nat.le_of_ble_eq_true rfl)⟩ (Nat.le_of_ble_eq_true rfl) [22] [0, 1, 2, 3, 4, 5, 6, 7, 8, 9, 10, 11, 12, 13, 14, 15, 16, 17, 18, 19, 20, 21, 23] rfl rfl rfl rfl (by decide) [0, 1, 2, 3, 4, 5, 6, 7, 8, 9, 10, 11, 12, 13, 14, 15, 16, 17, 18, 19, 20, 21, 23, 22] rfl (ws2 := fun _ => [(a 0, oX8 a), (a 1, oX3 a), (a 2, aI E 16 (hM 2)), (a 3, aI E 16 (hM 3)), (a 4, aI E 256 (hM 4)), (a 5, aI E 128 (hM 5)), (a 6, aI E 128 (hM 6)), (a 7, aI E 128 (hM 7)), (a 9, oX0 a (hM 9)), (a 10, aI E 4096 (hM 10)), (a 11, aI E 120 (hM 11)), (a 12, aI E 120 (hM 12)), (a 20, oX2 a), (a 21, oX6 o_20), (a 23, oX4 a (o_8 23)), (a 24, .inl (xO E, 6, .inr (.inr (.inr (.inr (xhf ha_9)))))), (ha_9 0, oX6 (o_8 60)), (ha_9 1, oX6 (o_8 61)), (ha_9 2, oX6 (o_8 62)), (ha_9 3, oX6 (o_8 63)), (ha_9 4, oX6 (o_8 64)), (ha_9 5, oX6 (o_8 65)), (a 25, oX5 a (o_21 25)), (a 26, aC E 24 (hM 26))]) (fun _ => rfl) (fun _ => ?_)
        refine r.aload_n 3 (DX8_readPad_1 6 rfl) rfl ?_
        obtain ⟨o_22, ho_22, hxt⟩ := xbd hxt
        refine r.callVI 0 rfl rfl (t_X8_distanceNow E a (mset hM 21 o_20) ho_22) g_X8_119 rfl (DX8_readPad_1 7 rfl) rfl ⟨(Nat.le_of_ble_eq_true rfl), (Nat.le_of_ble_eq_true rfl)⟩ ⟨(Nat.le_of_ble_eq_true rfl), (Nat.le_of_ble_eq_true rfl)⟩ (Nat.le_of_ble_eq_true rfl) [0, 1, 2, 3, 4, 5, 6, 7, 8, 9, 10, 11, 12, 13] [14, 15, 16, 17, 18, 19, 20, 21, 22, 23] rfl rfl rfl rfl (by decide) [10, 11, 12, 13, 14, 15, 16, 17, 18, 19, 20, 21, 22, 23, 0, 1, 2, 3, 4, 5, 6, 7, 8, 9] rfl (ws2 := fun _ => [(a 0, oX8 a), (a 1, oX3 a), (a 2, aI E 16 (hM 2)), (a 3, aI E 16 (hM 3)), (a 4, aI E 256 (hM 4)), (a 5, aI E 128 (hM 5)), (a 6, aI E 128 (hM 6)), (a 7, aI E 128 (hM 7)), (a 9, oX0 a (o_22.2 9)), (a 10, aI E 4096 (o_22.2 10)), (a 11, aI E 120 (o_22.2 11)), (a 12, aI E 120 (o_22.2 12)), (a 20, oX2 a), (a 21, oX6 o_20), (a 23, oX4 a (o_8 23)), (a 24, .inl (xO E, 6, .inr (.inr (.inr (.inr (xhf ha_9)))))), (ha_9 0, oX6 (o_8 60)), (ha_9 1, oX6 (o_8 61)), (ha_9 2, oX6 (o_8 62)), (ha_9 3, oX6 (o_8 63)), (ha_9 4, oX6 (o_8 64)), (ha_9 5, oX6 (o_8 65)), (a 25, oX5 a (o_21 25)), (a 26, aC E 24 (hM 26))]) (fun _ => rfl) (fun _ => ?_)
        cases hxt
        exact hret _ _ _ _ (DX8_readPad_1 8 rfl) rfl ⟨ha_9, rfl, rfl⟩
      refine r.bipush (v := (-4 : Int32)) (DX8_readPad_0 36 rfl) rfl ?_
      cases hxt
      exact hret _ _ _ _ (DX8_readPad_0 37 rfl) rfl ⟨ha, rfl, rfl⟩
    refine r.bipush (v := (-5 : Int32)) (DX8_readPad_0 30 rfl) rfl ?_
    cases hxt
    exact hret _ _ _ _ (DX8_readPad_0 31 rfl) rfl ⟨ha, rfl, rfl⟩
  refine r.bipush (v := (-3 : Int32)) (DX8_readPad_0 5 rfl) rfl ?_
  cases hxt
  exact hret _ _ _ _ (DX8_readPad_0 6 rfl) rfl ⟨ha, rfl, rfl⟩
set_option maxRecDepth 100000 in
set_option maxHeartbeats 4000000 in
theorem t_X8_foldedNumber (E : xE) (a : Nat → Nat) (x1 : Int32) (hM : Mem) {o : Int32 × Mem} (hxt : xt_X8_foldedNumber x1 hM = some o) : xMI (S := Unit) E yX8_foldedNumber cX8_foldedNumber 2 .int 4 0 0 [.ref (a 0), .int x1] [(a 0, oX8 a), (a 1, oX3 a), (a 4, aI E 256 (hM 4)), (a 5, aI E 128 (hM 5)), (a 6, aI E 128 (hM 6)), (a 8, aI E 128 (hM 8)), (a 13, oX1 a (hM 13)), (a 14, aI E 8 (hM 14)), (a 21, oX6 (hM 21))] (fun _ => o.1) (fun _ => [(a 0, oX8 a), (a 1, oX3 a), (a 4, aI E 256 (hM 4)), (a 5, aI E 128 (hM 5)), (a 6, aI E 128 (hM 6)), (a 8, aI E 128 (hM 8)), (a 13, oX1 a (o.2 13)), (a 14, aI E 8 (o.2 14)), (a 21, oX6 (hM 21))]) := by
  refine xMI.of (own := RX8) (lo0 := [(0, .ref (a 0)), (1, .int x1)]) (by decide +kernel) rfl rfl (Nat.le_of_ble_eq_true rfl) (fun V r hret => ?_)
  unfold xt_X8_foldedNumber at hxt
  refine r.aload_n 0 (DX8_foldedNumber 0 rfl) rfl ?_
  refine r.get (v := .ref (a 13)) kX8 f_X8_28 rfl 0 rfl rfl (DX8_foldedNumber 1 rfl) ?_
  refine r.aload_n 0 (DX8_foldedNumber 2 rfl) rfl ?_
  refine r.get (v := .ref (a 21)) kX8 f_X8_53 rfl 0 rfl rfl (DX8_foldedNumber 3 rfl) ?_
  refine r.get (v := .int ((hM 21) 1)) kX6 f_X8_102 rfl 8 rfl rfl (DX8_foldedNumber 4 rfl) ?_
  obtain ⟨o_1, ho_1, hxt⟩ := xbd hxt
  refine r.callVV 2 rfl rfl (t_X1_prepare E a ((hM 21) 1) hM ho_1) g_X8_224 rfl (DX8_foldedNumber 5 rfl) rfl ⟨(Nat.le_of_ble_eq_true rfl), (Nat.le_of_ble_eq_true rfl)⟩ ⟨(Nat.le_of_ble_eq_true rfl), (Nat.le_of_ble_eq_true rfl)⟩ (Nat.le_of_ble_eq_true rfl) [1, 5, 6, 7] [0, 2, 3, 4, 8] rfl rfl rfl rfl (by decide) [0, 5, 1, 2, 3, 6, 7, 8, 4] rfl (ws2 := fun _ => [(a 0, oX8 a), (a 1, oX3 a), (a 4, aI E 256 (hM 4)), (a 5, aI E 128 (hM 5)), (a 6, aI E 128 (hM 6)), (a 8, aI E 128 (hM 8)), (a 13, oX1 a (o_1 13)), (a 14, aI E 8 (o_1 14)), (a 21, oX6 (hM 21))]) (fun _ => rfl) (fun _ => ?_)
  refine r.aload_n 0 (DX8_foldedNumber 6 rfl) rfl ?_
  refine r.get (v := .ref (a 13)) kX8 f_X8_28 rfl 0 rfl rfl (DX8_foldedNumber 7 rfl) ?_
  refine r.iload_n 1 (DX8_foldedNumber 8 rfl) rfl ?_
  obtain ⟨o_2, ho_2, hxt⟩ := xbd hxt
  refine r.callVI 5 rfl rfl (t_X1_lowestAlike E a x1 (mgs hM [13, 14] o_1) ho_2) g_X8_254 rfl (DX8_foldedNumber 9 rfl) rfl ⟨(Nat.le_of_ble_eq_true rfl), (Nat.le_of_ble_eq_true rfl)⟩ ⟨(Nat.le_of_ble_eq_true rfl), (Nat.le_of_ble_eq_true rfl)⟩ (Nat.le_of_ble_eq_true rfl) [1, 2, 3, 4, 5, 6, 7] [0, 8] rfl rfl rfl rfl (by decide) [0, 2, 3, 4, 5, 6, 7, 8, 1] rfl (ws2 := fun _ => [(a 0, oX8 a), (a 1, oX3 a), (a 4, aI E 256 (hM 4)), (a 5, aI E 128 (hM 5)), (a 6, aI E 128 (hM 6)), (a 8, aI E 128 (hM 8)), (a 13, oX1 a (o_1 13)), (a 14, aI E 8 (o_1 14)), (a 21, oX6 (hM 21))]) (fun _ => rfl) (fun _ => ?_)
  cases hxt
  exact hret _ _ _ _ (DX8_foldedNumber 10 rfl) rfl ⟨(), rfl, rfl⟩
set_option maxRecDepth 100000 in
set_option maxHeartbeats 4000000 in
theorem t_X8_now (E : xE) (a : Nat → Nat) (x1 : Int32) (hM : Mem) {o : Int32 × Mem} (hxt : xt_X8_now x1 hM = some o) : xMI (S := Unit) E yX8_now cX8_now 2 .int 6 0 0 [.ref (a 0), .int x1] [(a 0, oX8 a), (a 1, oX3 a), (a 2, aI E 16 (hM 2)), (a 3, aI E 16 (hM 3)), (a 4, aI E 256 (hM 4)), (a 5, aI E 128 (hM 5)), (a 6, aI E 128 (hM 6)), (a 7, aI E 128 (hM 7)), (a 8, aI E 128 (hM 8)), (a 9, oX0 a (hM 9)), (a 10, aI E 4096 (hM 10)), (a 11, aI E 120 (hM 11)), (a 12, aI E 120 (hM 12)), (a 13, oX1 a (hM 13)), (a 14, aI E 8 (hM 14)), (a 20, oX2 a), (a 21, oX6 (hM 21)), (a 23, oX4 a (hM 23)), (a 25, oX5 a (hM 25))] (fun _ => o.1) (fun _ => [(a 0, oX8 a), (a 1, oX3 a), (a 2, aI E 16 (hM 2)), (a 3, aI E 16 (hM 3)), (a 4, aI E 256 (hM 4)), (a 5, aI E 128 (hM 5)), (a 6, aI E 128 (hM 6)), (a 7, aI E 128 (hM 7)), (a 8, aI E 128 (hM 8)), (a 9, oX0 a (o.2 9)), (a 10, aI E 4096 (o.2 10)), (a 11, aI E 120 (o.2 11)), (a 12, aI E 120 (o.2 12)), (a 13, oX1 a (o.2 13)), (a 14, aI E 8 (o.2 14)), (a 20, oX2 a), (a 21, oX6 (hM 21)), (a 23, oX4 a (hM 23)), (a 25, oX5 a (hM 25))]) := by
  refine xMI.of (own := RX8) (lo0 := [(0, .ref (a 0)), (1, .int x1)]) (by decide +kernel) rfl rfl (Nat.le_of_ble_eq_true rfl) (fun V r hret => ?_)
  unfold xt_X8_now at hxt
  refine r.iload_n 1 (DX8_now_0 0 rfl) rfl ?_
  refine r.if_lt 10 (DX8_now_0 1 rfl) rfl hxt (fun _ hxt => ?_) (fun _ hxt => ?_)
  · refine r.bipush (v := (-2 : Int32)) (DX8_now_0 5 rfl) rfl ?_
    cases hxt
    exact hret _ _ _ _ (DX8_now_0 6 rfl) rfl ⟨(), rfl, rfl⟩
  refine r.iload_n 1 (DX8_now_0 2 rfl) rfl ?_
  refine r.bipush (v := (15 : Int32)) (DX8_now_0 3 rfl) rfl ?_
  refine r.icmp_le 13 (DX8_now_0 4 rfl) rfl hxt (fun _ hxt => ?_) (fun _ hxt => ?_)
  · refine r.iload_n 1 (DX8_now_0 7 rfl) rfl ?_
    refine xif hxt (fun hc hxt => r.tsOut 255 (DX8_now_0 8 rfl) hc rfl ?_) (fun hn hxt => ?_)
    · refine r.aload_n 0 (DX8_now_1 28 rfl) rfl ?_
      refine r.get (v := .ref (a 21)) kX8 f_X8_53 rfl 0 rfl rfl (DX8_now_1 29 rfl) ?_
      refine r.iload_n 1 (DX8_now_1 30 rfl) rfl ?_
      refine r.bipush (v := (11 : Int32)) (DX8_now_1 31 rfl) rfl ?_
      refine r.isub (DX8_now_1 32 rfl) ?_
      obtain ⟨o_1, ho_1, hxt⟩ := xbd hxt
      refine r.callVI 0 rfl rfl (t_X6_setting E a (a 21) (x1 - (11 : Int32)) (hM 21) ho_1) g_X8_90 rfl (DX8_now_1 33 rfl) rfl ⟨(Nat.le_of_ble_eq_true rfl), (Nat.le_of_ble_eq_true rfl)⟩ ⟨(Nat.le_of_ble_eq_true rfl), (Nat.le_of_ble_eq_true rfl)⟩ (Nat.le_of_ble_eq_true rfl) [16] [0, 1, 2, 3, 4, 5, 6, 7, 8, 9, 10, 11, 12, 13, 14, 15, 17, 18] rfl rfl rfl rfl (by decide) [0, 1, 2, 3, 4, 5, 6, 7, 8, 9, 10, 11, 12, 13, 14, 15, 18, 16, 17] rfl (ws2 := fun _ => [(a 0, oX8 a), (a 1, oX3 a), (a 2, aI E 16 (hM 2)), (a 3, aI E 16 (hM 3)), (a 4, aI E 256 (hM 4)), (a 5, aI E 128 (hM 5)), (a 6, aI E 128 (hM 6)), (a 7, aI E 128 (hM 7)), (a 8, aI E 128 (hM 8)), (a 9, oX0 a (hM 9)), (a 10, aI E 4096 (hM 10)), (a 11, aI E 120 (hM 11)), (a 12, aI E 120 (hM 12)), (a 13, oX1 a (hM 13)), (a 14, aI E 8 (hM 14)), (a 20, oX2 a), (a 21, oX6 (hM 21)), (a 23, oX4 a (hM 23)), (a 25, oX5 a (hM 25))]) (fun _ => rfl) (fun _ => ?_)
      cases hxt
      exact hret _ _ _ _ (DX8_now_1 34 rfl) rfl ⟨(), rfl, rfl⟩
    refine xif hxt (fun hc hxt => r.tsIn 92 (DX8_now_0 8 rfl) hc hn rfl rfl ?_) (fun _ hxt => ?_)
    · refine r.aload_n 0 (DX8_now_0 9 rfl) rfl ?_
      refine r.get (v := .ref (a 21)) kX8 f_X8_53 rfl 0 rfl rfl (DX8_now_0 10 rfl) ?_
      refine r.get (v := .int ((hM 21) 2)) kX6 f_X8_160 rfl 16 rfl rfl (DX8_now_0 11 rfl) ?_
      cases hxt
      exact hret _ _ _ _ (DX8_now_0 12 rfl) rfl ⟨(), rfl, rfl⟩
    refine xif hxt (fun hc hxt => r.tsIn 100 (DX8_now_0 8 rfl) hc hn rfl rfl ?_) (fun _ hxt => ?_)
    · refine r.aload_n 0 (DX8_now_0 13 rfl) rfl ?_
      refine r.get (v := .ref (a 21)) kX8 f_X8_53 rfl 0 rfl rfl (DX8_now_0 14 rfl) ?_
      refine r.get (v := .int ((hM 21) 3)) kX6 f_X8_163 rfl 16 rfl rfl (DX8_now_0 15 rfl) ?_
      cases hxt
      exact hret _ _ _ _ (DX8_now_0 16 rfl) rfl ⟨(), rfl, rfl⟩
    refine xif hxt (fun hc hxt => r.tsIn 108 (DX8_now_0 8 rfl) hc hn rfl rfl ?_) (fun _ hxt => ?_)
    · refine r.aload_n 0 (DX8_now_0 17 rfl) rfl ?_
      refine r.get (v := .ref (a 21)) kX8 f_X8_53 rfl 0 rfl rfl (DX8_now_0 18 rfl) ?_
      refine r.get (v := .int ((hM 21) 4)) kX6 f_X8_166 rfl 16 rfl rfl (DX8_now_0 19 rfl) ?_
      cases hxt
      exact hret _ _ _ _ (DX8_now_0 20 rfl) rfl ⟨(), rfl, rfl⟩
    refine xif hxt (fun hc hxt => r.tsIn 116 (DX8_now_0 8 rfl) hc hn rfl rfl ?_) (fun _ hxt => ?_)
    · refine r.aload_n 0 (DX8_now_0 21 rfl) rfl ?_
      refine r.get (v := .ref (a 21)) kX8 f_X8_53 rfl 0 rfl rfl (DX8_now_0 22 rfl) ?_
      refine r.get (v := .int ((hM 21) 5)) kX6 f_X8_169 rfl 16 rfl rfl (DX8_now_0 23 rfl) ?_
      cases hxt
      exact hret _ _ _ _ (DX8_now_0 24 rfl) rfl ⟨(), rfl, rfl⟩
    refine xif hxt (fun hc hxt => r.tsIn 124 (DX8_now_0 8 rfl) hc hn rfl rfl ?_) (fun _ hxt => ?_)
    · refine r.aload_n 0 (DX8_now_0 25 rfl) rfl ?_
      refine r.get (v := .ref (a 20)) kX8 f_X8_46 rfl 0 rfl rfl (DX8_now_0 26 rfl) ?_
      refine r.aload_n 0 (DX8_now_0 27 rfl) rfl ?_
      refine r.get (v := .ref (a 21)) kX8 f_X8_53 rfl 0 rfl rfl (DX8_now_0 28 rfl) ?_
      obtain ⟨o_2, ho_2, hxt⟩ := xbd hxt
      refine r.callVI 3 rfl rfl (t_X2_caught E a (a 21) (hM 21) hM ho_2) g_X8_172 rfl (DX8_now_0 29 rfl) rfl ⟨(Nat.le_of_ble_eq_true rfl), (Nat.le_of_ble_eq_true rfl)⟩ ⟨(Nat.le_of_ble_eq_true rfl), (Nat.le_of_ble_eq_true rfl)⟩ (Nat.le_of_ble_eq_true rfl) [1, 2, 3, 15, 16] [0, 4, 5, 6, 7, 8, 9, 10, 11, 12, 13, 14, 17, 18] rfl rfl rfl rfl (by decide) [0, 14, 15, 16, 1, 2, 3, 4, 5, 6, 7, 8, 9, 10, 11, 17, 18, 12, 13] rfl (ws2 := fun _ => [(a 0, oX8 a), (a 1, oX3 a), (a 2, aI E 16 (hM 2)), (a 3, aI E 16 (hM 3)), (a 4, aI E 256 (hM 4)), (a 5, aI E 128 (hM 5)), (a 6, aI E 128 (hM 6)), (a 7, aI E 128 (hM 7)), (a 8, aI E 128 (hM 8)), (a 9, oX0 a (hM 9)), (a 10, aI E 4096 (hM 10)), (a 11, aI E 120 (hM 11)), (a 12, aI E 120 (hM 12)), (a 13, oX1 a (hM 13)), (a 14, aI E 8 (hM 14)), (a 20, oX2 a), (a 21, oX6 (hM 21)), (a 23, oX4 a (hM 23)), (a 25, oX5 a (hM 25))]) (fun _ => rfl) (fun _ => ?_)
      refine r.if_eq 142 (DX8_now_0 30 rfl) rfl hxt (fun _ hxt => ?_) (fun _ hxt => ?_)
      · refine r.iconst (v := (0 : Int32)) (DX8_now_0 33 rfl) rfl ?_
        cases hxt
        exact hret _ _ _ _ (DX8_now_0 34 rfl) rfl ⟨(), rfl, rfl⟩
      refine r.iconst (v := (1 : Int32)) (DX8_now_0 31 rfl) rfl ?_
      refine r.goto 143 (DX8_now_0 32 rfl) rfl ?_
      cases hxt
      exact hret _ _ _ _ (DX8_now_0 34 rfl) rfl ⟨(), rfl, rfl⟩
    refine xif hxt (fun hc hxt => r.tsIn 144 (DX8_now_0 8 rfl) hc hn rfl rfl ?_) (fun _ hxt => ?_)
    · refine r.aload_n 0 (DX8_now_0 35 rfl) rfl ?_
      obtain ⟨o_3, ho_3, hxt⟩ := xbd hxt
      refine r.callVI 0 rfl rfl (t_X8_distanceNow E a hM ho_3) g_X8_119 rfl (DX8_now_0 36 rfl) rfl ⟨(Nat.le_of_ble_eq_true rfl), (Nat.le_of_ble_eq_true rfl)⟩ ⟨(Nat.le_of_ble_eq_true rfl), (Nat.le_of_ble_eq_true rfl)⟩ (Nat.le_of_ble_eq_true rfl) [0, 1, 2, 3, 4, 5, 6, 7, 9, 10, 11, 12, 15, 16] [8, 13, 14, 17, 18] rfl rfl rfl rfl (by decide) [5, 6, 7, 8, 9, 10, 11, 12, 0, 13, 14, 15, 16, 1, 2, 17, 18, 3, 4] rfl (ws2 := fun _ => [(a 0, oX8 a), (a 1, oX3 a), (a 2, aI E 16 (hM 2)), (a 3, aI E 16 (hM 3)), (a 4, aI E 256 (hM 4)), (a 5, aI E 128 (hM 5)), (a 6, aI E 128 (hM 6)), (a 7, aI E 128 (hM 7)), (a 8, aI E 128 (hM 8)), (a 9, oX0 a (o_3.2 9)), (a 10, aI E 4096 (o_3.2 10)), (a 11, aI E 120 (o_3.2 11)), (a 12, aI E 120 (o_3.2 12)), (a 13, oX1 a (hM 13)), (a 14, aI E 8 (hM 14)), (a 20, oX2 a), (a 21, oX6 (hM 21)), (a 23, oX4 a (hM 23)), (a 25, oX5 a (hM 25))]) (fun _ => rfl) (fun _ => ?_)
      cases hxt
      exact hret _ _ _ _ (DX8_now_0 37 rfl) rfl ⟨(), rfl, rfl⟩
    refine xif hxt (fun hc hxt => r.tsIn 149 (DX8_now_0 8 rfl) hc hn rfl rfl ?_) (fun _ hxt => ?_)
    · refine r.aload_n 0 (DX8_now_0 38 rfl) rfl ?_
      refine r.get (v := .ref (a 20)) kX8 f_X8_46 rfl 0 rfl rfl (DX8_now_0 39 rfl) ?_
      refine r.aload_n 0 (DX8_now_0 40 rfl) rfl ?_
      refine r.get (v := .ref (a 21)) kX8 f_X8_53 rfl 0 rfl rfl (DX8_now_0 41 rfl) ?_
      obtain ⟨o_4, ho_4, hxt⟩ := xbd hxt
      refine r.callVI 11 rfl rfl (t_X2_bestMove E a (a 21) (hM 21) hM ho_4) g_X8_130 rfl (DX8_now_0 42 rfl) rfl ⟨(Nat.le_of_ble_eq_true rfl), (Nat.le_of_ble_eq_true rfl)⟩ ⟨(Nat.le_of_ble_eq_true rfl), (Nat.le_of_ble_eq_true rfl)⟩ (Nat.le_of_ble_eq_true rfl) [1, 2, 3, 4, 5, 6, 7, 9, 10, 11, 12, 15, 16] [0, 8, 13, 14, 17, 18] rfl rfl rfl rfl (by decide) [0, 6, 7, 8, 9, 10, 11, 12, 1, 13, 14, 15, 16, 2, 3, 17, 18, 4, 5] rfl (ws2 := fun _ => [(a 0, oX8 a), (a 1, oX3 a), (a 2, aI E 16 (hM 2)), (a 3, aI E 16 (hM 3)), (a 4, aI E 256 (hM 4)), (a 5, aI E 128 (hM 5)), (a 6, aI E 128 (hM 6)), (a 7, aI E 128 (hM 7)), (a 8, aI E 128 (hM 8)), (a 9, oX0 a (o_4.2 9)), (a 10, aI E 4096 (o_4.2 10)), (a 11, aI E 120 (o_4.2 11)), (a 12, aI E 120 (o_4.2 12)), (a 13, oX1 a (hM 13)), (a 14, aI E 8 (hM 14)), (a 20, oX2 a), (a 21, oX6 (hM 21)), (a 23, oX4 a (hM 23)), (a 25, oX5 a (hM 25))]) (fun _ => rfl) (fun _ => ?_)
      obtain ⟨o_5, ho_5, hxt⟩ := xbd hxt
      refine r.callSI0 (t_X2_fromOf E o_4.1 ho_5) g_X8_134 rfl (DX8_now_0 43 rfl) rfl ⟨(Nat.le_of_ble_eq_true rfl), (Nat.le_of_ble_eq_true rfl)⟩ (Nat.le_of_ble_eq_true rfl) ?_
      cases hxt
      exact hret _ _ _ _ (DX8_now_0 44 rfl) rfl ⟨(), rfl, rfl⟩
    refine xif hxt (fun hc hxt => r.tsIn 164 (DX8_now_0 8 rfl) hc hn rfl rfl ?_) (fun _ hxt => ?_)
    · refine r.aload_n 0 (DX8_now_0 45 rfl) rfl ?_
      refine r.get (v := .ref (a 20)) kX8 f_X8_46 rfl 0 rfl rfl (DX8_now_0 46 rfl) ?_
      refine r.aload_n 0 (DX8_now_0 47 rfl) rfl ?_
      refine r.get (v := .ref (a 21)) kX8 f_X8_53 rfl 0 rfl rfl (DX8_now_0 48 rfl) ?_
      obtain ⟨o_6, ho_6, hxt⟩ := xbd hxt
      refine r.callVI 11 rfl rfl (t_X2_bestMove E a (a 21) (hM 21) hM ho_6) g_X8_130 rfl (DX8_now_0 49 rfl) rfl ⟨(Nat.le_of_ble_eq_true rfl), (Nat.le_of_ble_eq_true rfl)⟩ ⟨(Nat.le_of_ble_eq_true rfl), (Nat.le_of_ble_eq_true rfl)⟩ (Nat.le_of_ble_eq_true rfl) [1, 2, 3, 4, 5, 6, 7, 9, 10, 11, 12, 15, 16] [0, 8, 13, 14, 17, 18] rfl rfl rfl rfl (by decide) [0, 6, 7, 8, 9, 10, 11, 12, 1, 13, 14, 15, 16, 2, 3, 17, 18, 4, 5] rfl (ws2 := fun _ => [(a 0, oX8 a), (a 1, oX3 a), (a 2, aI E 16 (hM 2)), (a 3, aI E 16 (hM 3)), (a 4, aI E 256 (hM 4)), (a 5, aI E 128 (hM 5)), (a 6, aI E 128 (hM 6)), (a 7, aI E 128 (hM 7)), (a 8, aI E 128 (hM 8)), (a 9, oX0 a (o_6.2 9)), (a 10, aI E 4096 (o_6.2 10)), (a 11, aI E 120 (o_6.2 11)), (a 12, aI E 120 (o_6.2 12)), (a 13, oX1 a (hM 13)), (a 14, aI E 8 (hM 14)), (a 20, oX2 a), (a 21, oX6 (hM 21)), (a 23, oX4 a (hM 23)), (a 25, oX5 a (hM 25))]) (fun _ => rfl) (fun _ => ?_)
      obtain ⟨o_7, ho_7, hxt⟩ := xbd hxt
      refine r.callSI0 (t_X2_toOf E o_6.1 ho_7) g_X8_137 rfl (DX8_now_0 50 rfl) rfl ⟨(Nat.le_of_ble_eq_true rfl), (Nat.le_of_ble_eq_true rfl)⟩ (Nat.le_of_ble_eq_true rfl) ?_
      cases hxt
      exact hret _ _ _ _ (DX8_now_0 51 rfl) rfl ⟨(), rfl, rfl⟩
    refine xif hxt (fun hc hxt => r.tsIn 179 (DX8_now_0 8 rfl) hc hn rfl rfl ?_) (fun _ hxt => ?_)
    · refine r.aload_n 0 (DX8_now_0 52 rfl) rfl ?_
      refine r.get (v := .ref (a 21)) kX8 f_X8_53 rfl 0 rfl rfl (DX8_now_0 53 rfl) ?_
      obtain ⟨o_8, ho_8, hxt⟩ := xbd hxt
      refine r.callVI 0 rfl rfl (t_X6_hunterOnFox E a (a 21) (hM 21) ho_8) g_X8_176 rfl (DX8_now_0 54 rfl) rfl ⟨(Nat.le_of_ble_eq_true rfl), (Nat.le_of_ble_eq_true rfl)⟩ ⟨(Nat.le_of_ble_eq_true rfl), (Nat.le_of_ble_eq_true rfl)⟩ (Nat.le_of_ble_eq_true rfl) [16] [0, 1, 2, 3, 4, 5, 6, 7, 8, 9, 10, 11, 12, 13, 14, 15, 17, 18] rfl rfl rfl rfl (by decide) [0, 1, 2, 3, 4, 5, 6, 7, 8, 9, 10, 11, 12, 13, 14, 15, 18, 16, 17] rfl (ws2 := fun _ => [(a 0, oX8 a), (a 1, oX3 a), (a 2, aI E 16 (hM 2)), (a 3, aI E 16 (hM 3)), (a 4, aI E 256 (hM 4)), (a 5, aI E 128 (hM 5)), (a 6, aI E 128 (hM 6)), (a 7, aI E 128 (hM 7)), (a 8, aI E 128 (hM 8)), (a 9, oX0 a (hM 9)), (a 10, aI E 4096 (hM 10)), (a 11, aI E 120 (hM 11)), (a 12, aI E 120 (hM 12)), (a 13, oX1 a (hM 13)), (a 14, aI E 8 (hM 14)), (a 20, oX2 a), (a 21, oX6 (hM 21)), (a 23, oX4 a (hM 23)), (a 25, oX5 a (hM 25))]) (fun _ => rfl) (fun _ => ?_)
      refine r.if_eq 194 (DX8_now_0 55 rfl) rfl hxt (fun _ hxt => ?_) (fun _ hxt => ?_)
      · refine r.aload_n 0 (DX8_now_0 58 rfl) rfl ?_
        refine r.aload_n 0 (DX8_now_0 59 rfl) rfl ?_
        refine r.get (v := .ref (a 21)) kX8 f_X8_53 rfl 0 rfl rfl (DX8_now_1 0 rfl) ?_
        obtain ⟨o_9, ho_9, hxt⟩ := xbd hxt
        refine r.callVI 0 rfl rfl (t_X8_numberNow E a (a 21) (hM 21) hM ho_9) g_X8_179 rfl (DX8_now_1 1 rfl) rfl ⟨(Nat.le_of_ble_eq_true rfl), (Nat.le_of_ble_eq_true rfl)⟩ ⟨(Nat.le_of_ble_eq_true rfl), (Nat.le_of_ble_eq_true rfl)⟩ (Nat.le_of_ble_eq_true rfl) [0, 1, 4, 16] [2, 3, 5, 6, 7, 8, 9, 10, 11, 12, 13, 14, 15, 17, 18] rfl rfl rfl rfl (by decide) [15, 16, 0, 1, 17, 2, 3, 4, 5, 6, 7, 8, 9, 10, 11, 12, 18, 13, 14] rfl (ws2 := fun _ => [(a 0, oX8 a), (a 1, oX3 a), (a 2, aI E 16 (hM 2)), (a 3, aI E 16 (hM 3)), (a 4, aI E 256 (hM 4)), (a 5, aI E 128 (hM 5)), (a 6, aI E 128 (hM 6)), (a 7, aI E 128 (hM 7)), (a 8, aI E 128 (hM 8)), (a 9, oX0 a (hM 9)), (a 10, aI E 4096 (hM 10)), (a 11, aI E 120 (hM 11)), (a 12, aI E 120 (hM 12)), (a 13, oX1 a (hM 13)), (a 14, aI E 8 (hM 14)), (a 20, oX2 a), (a 21, oX6 (hM 21)), (a 23, oX4 a (hM 23)), (a 25, oX5 a (hM 25))]) (fun _ => rfl) (fun _ => ?_)
        cases hxt
        exact hret _ _ _ _ (DX8_now_1 2 rfl) rfl ⟨(), rfl, rfl⟩
      refine r.bipush (v := (-6 : Int32)) (DX8_now_0 56 rfl) rfl ?_
      refine r.goto 202 (DX8_now_0 57 rfl) rfl ?_
      cases hxt
      exact hret _ _ _ _ (DX8_now_1 2 rfl) rfl ⟨(), rfl, rfl⟩
    refine xif hxt (fun hc hxt => r.tsIn 203 (DX8_now_0 8 rfl) hc hn rfl rfl ?_) (fun _ hxt => ?_)
    · refine r.aload_n 0 (DX8_now_1 3 rfl) rfl ?_
      refine r.get (v := .ref (a 21)) kX8 f_X8_53 rfl 0 rfl rfl (DX8_now_1 4 rfl) ?_
      obtain ⟨o_10, ho_10, hxt⟩ := xbd hxt
      refine r.callVI 0 rfl rfl (t_X6_hunterOnFox E a (a 21) (hM 21) ho_10) g_X8_176 rfl (DX8_now_1 5 rfl) rfl ⟨(Nat.le_of_ble_eq_true rfl), (Nat.le_of_ble_eq_true rfl)⟩ ⟨(Nat.le_of_ble_eq_true rfl), (Nat.le_of_ble_eq_true rfl)⟩ (Nat.le_of_ble_eq_true rfl) [16] [0, 1, 2, 3, 4, 5, 6, 7, 8, 9, 10, 11, 12, 13, 14, 15, 17, 18] rfl rfl rfl rfl (by decide) [0, 1, 2, 3, 4, 5, 6, 7, 8, 9, 10, 11, 12, 13, 14, 15, 18, 16, 17] rfl (ws2 := fun _ => [(a 0, oX8 a), (a 1, oX3 a), (a 2, aI E 16 (hM 2)), (a 3, aI E 16 (hM 3)), (a 4, aI E 256 (hM 4)), (a 5, aI E 128 (hM 5)), (a 6, aI E 128 (hM 6)), (a 7, aI E 128 (hM 7)), (a 8, aI E 128 (hM 8)), (a 9, oX0 a (hM 9)), (a 10, aI E 4096 (hM 10)), (a 11, aI E 120 (hM 11)), (a 12, aI E 120 (hM 12)), (a 13, oX1 a (hM 13)), (a 14, aI E 8 (hM 14)), (a 20, oX2 a), (a 21, oX6 (hM 21)), (a 23, oX4 a (hM 23)), (a 25, oX5 a (hM 25))]) (fun _ => rfl) (fun _ => ?_)
      refine r.if_eq 218 (DX8_now_1 6 rfl) rfl hxt (fun _ hxt => ?_) (fun _ hxt => ?_)
      · refine r.aload_n 0 (DX8_now_1 9 rfl) rfl ?_
        refine r.aload_n 0 (DX8_now_1 10 rfl) rfl ?_
        refine r.aload_n 0 (DX8_now_1 11 rfl) rfl ?_
        refine r.get (v := .ref (a 21)) kX8 f_X8_53 rfl 0 rfl rfl (DX8_now_1 12 rfl) ?_
        obtain ⟨o_11, ho_11, hxt⟩ := xbd hxt
        refine r.callVI 0 rfl rfl (t_X8_numberNow E a (a 21) (hM 21) hM ho_11) g_X8_179 rfl (DX8_now_1 13 rfl) rfl ⟨(Nat.le_of_ble_eq_true rfl), (Nat.le_of_ble_eq_true rfl)⟩ ⟨(Nat.le_of_ble_eq_true rfl), (Nat.le_of_ble_eq_true rfl)⟩ (Nat.le_of_ble_eq_true rfl) [0, 1, 4, 16] [2, 3, 5, 6, 7, 8, 9, 10, 11, 12, 13, 14, 15, 17, 18] rfl rfl rfl rfl (by decide) [15, 16, 0, 1, 17, 2, 3, 4, 5, 6, 7, 8, 9, 10, 11, 12, 18, 13, 14] rfl (ws2 := fun _ => [(a 0, oX8 a), (a 1, oX3 a), (a 2, aI E 16 (hM 2)), (a 3, aI E 16 (hM 3)), (a 4, aI E 256 (hM 4)), (a 5, aI E 128 (hM 5)), (a 6, aI E 128 (hM 6)), (a 7, aI E 128 (hM 7)), (a 8, aI E 128 (hM 8)), (a 9, oX0 a (hM 9)), (a 10, aI E 4096 (hM 10)), (a 11, aI E 120 (hM 11)), (a 12, aI E 120 (hM 12)), (a 13, oX1 a (hM 13)), (a 14, aI E 8 (hM 14)), (a 20, oX2 a), (a 21, oX6 (hM 21)), (a 23, oX4 a (hM 23)), (a 25, oX5 a (hM 25))]) (fun _ => rfl) (fun _ => ?_)
        obtain ⟨o_12, ho_12, hxt⟩ := xbd hxt
        refine r.callVI 0 rfl rfl (t_X8_foldedNumber E a o_11 hM ho_12) g_X8_182 rfl (DX8_now_1 14 rfl) rfl ⟨(Nat.le_of_ble_eq_true rfl), (Nat.le_of_ble_eq_true rfl)⟩ ⟨(Nat.le_of_ble_eq_true rfl), (Nat.le_of_ble_eq_true rfl)⟩ (Nat.le_of_ble_eq_true rfl) [0, 1, 4, 5, 6, 8, 13, 14, 16] [2, 3, 7, 9, 10, 11, 12, 15, 17, 18] rfl rfl rfl rfl (by decide) [10, 11, 0, 1, 12, 13, 14, 2, 15, 3, 4, 5, 6, 16, 17, 7, 18, 8, 9] rfl (ws2 := fun _ => [(a 0, oX8 a), (a 1, oX3 a), (a 2, aI E 16 (hM 2)), (a 3, aI E 16 (hM 3)), (a 4, aI E 256 (hM 4)), (a 5, aI E 128 (hM 5)), (a 6, aI E 128 (hM 6)), (a 7, aI E 128 (hM 7)), (a 8, aI E 128 (hM 8)), (a 9, oX0 a (hM 9)), (a 10, aI E 4096 (hM 10)), (a 11, aI E 120 (hM 11)), (a 12, aI E 120 (hM 12)), (a 13, oX1 a (o_12.2 13)), (a 14, aI E 8 (o_12.2 14)), (a 20, oX2 a), (a 21, oX6 (hM 21)), (a 23, oX4 a (hM 23)), (a 25, oX5 a (hM 25))]) (fun _ => rfl) (fun _ => ?_)
        cases hxt
        exact hret _ _ _ _ (DX8_now_1 15 rfl) rfl ⟨(), rfl, rfl⟩
      refine r.bipush (v := (-6 : Int32)) (DX8_now_1 7 rfl) rfl ?_
      refine r.goto 230 (DX8_now_1 8 rfl) rfl ?_
      cases hxt
      exact hret _ _ _ _ (DX8_now_1 15 rfl) rfl ⟨(), rfl, rfl⟩
    refine xif hxt (fun hc hxt => r.tsIn 231 (DX8_now_0 8 rfl) hc hn rfl rfl ?_) (fun _ hxt => ?_)
    · refine r.aload_n 0 (DX8_now_1 16 rfl) rfl ?_
      refine r.get (v := .ref (a 21)) kX8 f_X8_53 rfl 0 rfl rfl (DX8_now_1 17 rfl) ?_
      refine r.get (v := .int ((hM 21) 1)) kX6 f_X8_102 rfl 16 rfl rfl (DX8_now_1 18 rfl) ?_
      cases hxt
      exact hret _ _ _ _ (DX8_now_1 19 rfl) rfl ⟨(), rfl, rfl⟩
    refine xif hxt (fun hc hxt => r.tsIn 255 (DX8_now_0 8 rfl) hc hn rfl rfl ?_) (fun _ hxt => ?_)
    · refine r.aload_n 0 (DX8_now_1 28 rfl) rfl ?_
      refine r.get (v := .ref (a 21)) kX8 f_X8_53 rfl 0 rfl rfl (DX8_now_1 29 rfl) ?_
      refine r.iload_n 1 (DX8_now_1 30 rfl) rfl ?_
      refine r.bipush (v := (11 : Int32)) (DX8_now_1 31 rfl) rfl ?_
      refine r.isub (DX8_now_1 32 rfl) ?_
      obtain ⟨o_13, ho_13, hxt⟩ := xbd hxt
      refine r.callVI 0 rfl rfl (t_X6_setting E a (a 21) (x1 - (11 : Int32)) (hM 21) ho_13) g_X8_90 rfl (DX8_now_1 33 rfl) rfl ⟨(Nat.le_of_ble_eq_true rfl), (Nat.le_of_ble_eq_true rfl)⟩ ⟨(Nat.le_of_ble_eq_true rfl), (Nat.le_of_ble_eq_true rfl)⟩ (Nat.le_of_ble_eq_true rfl) [16] [0, 1, 2, 3, 4, 5, 6, 7, 8, 9, 10, 11, 12, 13, 14, 15, 17, 18] rfl rfl rfl rfl (by decide) [0, 1, 2, 3, 4, 5, 6, 7, 8, 9, 10, 11, 12, 13, 14, 15, 18, 16, 17] rfl (ws2 := fun _ => [(a 0, oX8 a), (a 1, oX3 a), (a 2, aI E 16 (hM 2)), (a 3, aI E 16 (hM 3)), (a 4, aI E 256 (hM 4)), (a 5, aI E 128 (hM 5)), (a 6, aI E 128 (hM 6)), (a 7, aI E 128 (hM 7)), (a 8, aI E 128 (hM 8)), (a 9, oX0 a (hM 9)), (a 10, aI E 4096 (hM 10)), (a 11, aI E 120 (hM 11)), (a 12, aI E 120 (hM 12)), (a 13, oX1 a (hM 13)), (a 14, aI E 8 (hM 14)), (a 20, oX2 a), (a 21, oX6 (hM 21)), (a 23, oX4 a (hM 23)), (a 25, oX5 a (hM 25))]) (fun _ => rfl) (fun _ => ?_)
      cases hxt
      exact hret _ _ _ _ (DX8_now_1 34 rfl) rfl ⟨(), rfl, rfl⟩
    refine xif hxt (fun hc hxt => r.tsIn 255 (DX8_now_0 8 rfl) hc hn rfl rfl ?_) (fun _ hxt => ?_)
    · refine r.aload_n 0 (DX8_now_1 28 rfl) rfl ?_
      refine r.get (v := .ref (a 21)) kX8 f_X8_53 rfl 0 rfl rfl (DX8_now_1 29 rfl) ?_
      refine r.iload_n 1 (DX8_now_1 30 rfl) rfl ?_
      refine r.bipush (v := (11 : Int32)) (DX8_now_1 31 rfl) rfl ?_
      refine r.isub (DX8_now_1 32 rfl) ?_
      obtain ⟨o_14, ho_14, hxt⟩ := xbd hxt
      refine r.callVI 0 rfl rfl (t_X6_setting E a (a 21) (x1 - (11 : Int32)) (hM 21) ho_14) g_X8_90 rfl (DX8_now_1 33 rfl) rfl ⟨(Nat.le_of_ble_eq_true rfl), (Nat.le_of_ble_eq_true rfl)⟩ ⟨(Nat.le_of_ble_eq_true rfl), (Nat.le_of_ble_eq_true rfl)⟩ (Nat.le_of_ble_eq_true rfl) [16] [0, 1, 2, 3, 4, 5, 6, 7, 8, 9, 10, 11, 12, 13, 14, 15, 17, 18] rfl rfl rfl rfl (by decide) [0, 1, 2, 3, 4, 5, 6, 7, 8, 9, 10, 11, 12, 13, 14, 15, 18, 16, 17] rfl (ws2 := fun _ => [(a 0, oX8 a), (a 1, oX3 a), (a 2, aI E 16 (hM 2)), (a 3, aI E 16 (hM 3)), (a 4, aI E 256 (hM 4)), (a 5, aI E 128 (hM 5)), (a 6, aI E 128 (hM 6)), (a 7, aI E 128 (hM 7)), (a 8, aI E 128 (hM 8)), (a 9, oX0 a (hM 9)), (a 10, aI E 4096 (hM 10)), (a 11, aI E 120 (hM 11)), (a 12, aI E 120 (hM 12)), (a 13, oX1 a (hM 13)), (a 14, aI E 8 (hM 14)), (a 20, oX2 a), (a 21, oX6 (hM 21)), (a 23, oX4 a (hM 23)), (a 25, oX5 a (hM 25))]) (fun _ => rfl) (fun _ => ?_)
      cases hxt
      exact hret _ _ _ _ (DX8_now_1 34 rfl) rfl ⟨(), rfl, rfl⟩
    refine xif hxt (fun hc hxt => r.tsIn 255 (DX8_now_0 8 rfl) hc hn rfl rfl ?_) (fun _ hxt => ?_)
    · refine r.aload_n 0 (DX8_now_1 28 rfl) rfl ?_
      refine r.get (v := .ref (a 21)) kX8 f_X8_53 rfl 0 rfl rfl (DX8_now_1 29 rfl) ?_
      refine r.iload_n 1 (DX8_now_1 30 rfl) rfl ?_
      refine r.bipush (v := (11 : Int32)) (DX8_now_1 31 rfl) rfl ?_
      refine r.isub (DX8_now_1 32 rfl) ?_
      obtain ⟨o_15, ho_15, hxt⟩ := xbd hxt
      refine r.callVI 0 rfl rfl (t_X6_setting E a (a 21) (x1 - (11 : Int32)) (hM 21) ho_15) g_X8_90 rfl (DX8_now_1 33 rfl) rfl ⟨(Nat.le_of_ble_eq_true rfl), (Nat.le_of_ble_eq_true rfl)⟩ ⟨(Nat.le_of_ble_eq_true rfl), (Nat.le_of_ble_eq_true rfl)⟩ (Nat.le_of_ble_eq_true rfl) [16] [0, 1, 2, 3, 4, 5, 6, 7, 8, 9, 10, 11, 12, 13, 14, 15, 17, 18] rfl rfl rfl rfl (by decide) [0, 1, 2, 3, 4, 5, 6, 7, 8, 9, 10, 11, 12, 13, 14, 15, 18, 16, 17] rfl (ws2 := fun _ => [(a 0, oX8 a), (a 1, oX3 a), (a 2, aI E 16 (hM 2)), (a 3, aI E 16 (hM 3)), (a 4, aI E 256 (hM 4)), (a 5, aI E 128 (hM 5)), (a 6, aI E 128 (hM 6)), (a 7, aI E 128 (hM 7)), (a 8, aI E 128 (hM 8)), (a 9, oX0 a (hM 9)), (a 10, aI E 4096 (hM 10)), (a 11, aI E 120 (hM 11)), (a 12, aI E 120 (hM 12)), (a 13, oX1 a (hM 13)), (a 14, aI E 8 (hM 14)), (a 20, oX2 a), (a 21, oX6 (hM 21)), (a 23, oX4 a (hM 23)), (a 25, oX5 a (hM 25))]) (fun _ => rfl) (fun _ => ?_)
      cases hxt
      exact hret _ _ _ _ (DX8_now_1 34 rfl) rfl ⟨(), rfl, rfl⟩
    refine xif hxt (fun hc hxt => r.tsIn 239 (DX8_now_0 8 rfl) hc hn rfl rfl ?_) (fun _ hxt => ?_)
    · refine r.aload_n 0 (DX8_now_1 20 rfl) rfl ?_
      refine r.get (v := .ref (a 25)) kX8 f_X8_70 rfl 0 rfl rfl (DX8_now_1 21 rfl) ?_
      obtain ⟨o_16, ho_16, hxt⟩ := xbd hxt
      refine r.callVI 0 rfl rfl (t_X5_length E a hM ho_16) g_X8_185 rfl (DX8_now_1 22 rfl) rfl ⟨(Nat.le_of_ble_eq_true rfl), (Nat.le_of_ble_eq_true rfl)⟩ ⟨(Nat.le_of_ble_eq_true rfl), (Nat.le_of_ble_eq_true rfl)⟩ (Nat.le_of_ble_eq_true rfl) [18] [0, 1, 2, 3, 4, 5, 6, 7, 8, 9, 10, 11, 12, 13, 14, 15, 16, 17] rfl rfl rfl rfl (by decide) [0, 1, 2, 3, 4, 5, 6, 7, 8, 9, 10, 11, 12, 13, 14, 15, 16, 17, 18] rfl (ws2 := fun _ => [(a 0, oX8 a), (a 1, oX3 a), (a 2, aI E 16 (hM 2)), (a 3, aI E 16 (hM 3)), (a 4, aI E 256 (hM 4)), (a 5, aI E 128 (hM 5)), (a 6, aI E 128 (hM 6)), (a 7, aI E 128 (hM 7)), (a 8, aI E 128 (hM 8)), (a 9, oX0 a (hM 9)), (a 10, aI E 4096 (hM 10)), (a 11, aI E 120 (hM 11)), (a 12, aI E 120 (hM 12)), (a 13, oX1 a (hM 13)), (a 14, aI E 8 (hM 14)), (a 20, oX2 a), (a 21, oX6 (hM 21)), (a 23, oX4 a (hM 23)), (a 25, oX5 a (hM 25))]) (fun _ => rfl) (fun _ => ?_)
      cases hxt
      exact hret _ _ _ _ (DX8_now_1 23 rfl) rfl ⟨(), rfl, rfl⟩
    refine xif hxt (fun hc hxt => r.tsIn 247 (DX8_now_0 8 rfl) hc hn rfl rfl ?_) (fun _ hxt => ?_)
    · refine r.aload_n 0 (DX8_now_1 24 rfl) rfl ?_
      refine r.get (v := .ref (a 23)) kX8 f_X8_63 rfl 0 rfl rfl (DX8_now_1 25 rfl) ?_
      obtain ⟨o_17, ho_17, hxt⟩ := xbd hxt
      refine r.callVI 0 rfl rfl (t_X4_length E a hM ho_17) g_X8_188 rfl (DX8_now_1 26 rfl) rfl ⟨(Nat.le_of_ble_eq_true rfl), (Nat.le_of_ble_eq_true rfl)⟩ ⟨(Nat.le_of_ble_eq_true rfl), (Nat.le_of_ble_eq_true rfl)⟩ (Nat.le_of_ble_eq_true rfl) [17] [0, 1, 2, 3, 4, 5, 6, 7, 8, 9, 10, 11, 12, 13, 14, 15, 16, 18] rfl rfl rfl rfl (by decide) [0, 1, 2, 3, 4, 5, 6, 7, 8, 9, 10, 11, 12, 13, 14, 15, 16, 18, 17] rfl (ws2 := fun _ => [(a 0, oX8 a), (a 1, oX3 a), (a 2, aI E 16 (hM 2)), (a 3, aI E 16 (hM 3)), (a 4, aI E 256 (hM 4)), (a 5, aI E 128 (hM 5)), (a 6, aI E 128 (hM 6)), (a 7, aI E 128 (hM 7)), (a 8, aI E 128 (hM 8)), (a 9, oX0 a (hM 9)), (a 10, aI E 4096 (hM 10)), (a 11, aI E 120 (hM 11)), (a 12, aI E 120 (hM 12)), (a 13, oX1 a (hM 13)), (a 14, aI E 8 (hM 14)), (a 20, oX2 a), (a 21, oX6 (hM 21)), (a 23, oX4 a (hM 23)), (a 25, oX5 a (hM 25))]) (fun _ => rfl) (fun _ => ?_)
      cases hxt
      exact hret _ _ _ _ (DX8_now_1 27 rfl) rfl ⟨(), rfl, rfl⟩
    cases hxt
  refine r.bipush (v := (-2 : Int32)) (DX8_now_0 5 rfl) rfl ?_
  cases hxt
  exact hret _ _ _ _ (DX8_now_0 6 rfl) rfl ⟨(), rfl, rfl⟩
set_option maxRecDepth 100000 in
set_option maxHeartbeats 4000000 in
theorem t_X8_distance (E : xE) (a : Nat → Nat) (x1 : Int32) (x2 : Int32) (x3 : Int32) (x4 : Int32) (hM : Mem) {o : Int32 × Mem} (hxt : xt_X8_distance x1 x2 x3 x4 hM = some o) : xMI (S := Unit) E yX8_distance cX8_distance 6 .int 5 0 0 [.ref (a 0), .int x1, .int x2, .int x3, .int x4] [(a 0, oX8 a), (a 1, oX3 a), (a 2, aI E 16 (hM 2)), (a 3, aI E 16 (hM 3)), (a 4, aI E 256 (hM 4)), (a 5, aI E 128 (hM 5)), (a 6, aI E 128 (hM 6)), (a 7, aI E 128 (hM 7)), (a 9, oX0 a (hM 9)), (a 10, aI E 4096 (hM 10)), (a 11, aI E 120 (hM 11)), (a 12, aI E 120 (hM 12)), (a 21, oX6 (hM 21))] (fun _ => o.1) (fun _ => [(a 0, oX8 a), (a 1, oX3 a), (a 2, aI E 16 (hM 2)), (a 3, aI E 16 (hM 3)), (a 4, aI E 256 (hM 4)), (a 5, aI E 128 (hM 5)), (a 6, aI E 128 (hM 6)), (a 7, aI E 128 (hM 7)), (a 9, oX0 a (o.2 9)), (a 10, aI E 4096 (o.2 10)), (a 11, aI E 120 (o.2 11)), (a 12, aI E 120 (o.2 12)), (a 21, oX6 (hM 21))]) := by
  refine xMI.of (own := RX8) (lo0 := [(0, .ref (a 0)), (1, .int x1), (2, .int x2), (3, .int x3), (4, .int x4)]) (by decide +kernel) rfl rfl (Nat.le_of_ble_eq_true rfl) (fun V r hret => ?_)
  unfold xt_X8_distance at hxt
  refine r.aload_n 0 (DX8_distance 0 rfl) rfl ?_
  refine r.iload_n 1 (DX8_distance 1 rfl) rfl ?_
  refine r.iload_n 2 (DX8_distance 2 rfl) rfl ?_
  refine r.iload_n 3 (DX8_distance 3 rfl) rfl ?_
  refine r.iload 4 (DX8_distance 4 rfl) rfl ?_
  obtain ⟨o_1, ho_1, hxt⟩ := xbd hxt
  refine r.callVI 0 rfl rfl (t_X8_errorOf E a x1 x2 x3 x4 hM ho_1) g_X8_115 rfl (DX8_distance 5 rfl) rfl ⟨(Nat.le_of_ble_eq_true rfl), (Nat.le_of_ble_eq_true rfl)⟩ ⟨(Nat.le_of_ble_eq_true rfl), (Nat.le_of_ble_eq_true rfl)⟩ (Nat.le_of_ble_eq_true rfl) [0, 12] [1, 2, 3, 4, 5, 6, 7, 8, 9, 10, 11] rfl rfl rfl rfl (by decide) [11, 0, 1, 2, 3, 4, 5, 6, 7, 8, 9, 10, 12] rfl (ws2 := fun _ => [(a 0, oX8 a), (a 1, oX3 a), (a 2, aI E 16 (hM 2)), (a 3, aI E 16 (hM 3)), (a 4, aI E 256 (hM 4)), (a 5, aI E 128 (hM 5)), (a 6, aI E 128 (hM 6)), (a 7, aI E 128 (hM 7)), (a 9, oX0 a (hM 9)), (a 10, aI E 4096 (hM 10)), (a 11, aI E 120 (hM 11)), (a 12, aI E 120 (hM 12)), (a 21, oX6 (hM 21))]) (fun _ => rfl) (fun _ => ?_)
  refine r.istore (lo' := [(5, .int o_1), (0, .ref (a 0)), (1, .int x1), (2, .int x2), (3, .int x3), (4, .int x4)]) (DX8_distance 6 rfl) (Nat.le_of_ble_eq_true rfl) rfl ?_
  refine r.iload 0 (DX8_distance 7 rfl) rfl ?_
  refine r.if_eq 19 (DX8_distance 8 rfl) rfl hxt (fun _ hxt => ?_) (fun _ hxt => ?_)
  · refine r.aload_n 1 (DX8_distance 11 rfl) rfl ?_
    refine r.get (v := .ref (a 9)) kX8 f_X8_21 rfl 0 rfl rfl (DX8_distance 12 rfl) ?_
    refine r.aload_n 1 (DX8_distance 13 rfl) rfl ?_
    refine r.get (v := .ref (a 21)) kX8 f_X8_53 rfl 0 rfl rfl (DX8_distance 14 rfl) ?_
    obtain ⟨o_2, ho_2, hxt⟩ := xbd hxt
    refine r.callVV 7 rfl rfl (t_X0_prepare E a (a 21) (hM 21) hM ho_2) g_X8_189 rfl (DX8_distance 15 rfl) rfl ⟨(Nat.le_of_ble_eq_true rfl), (Nat.le_of_ble_eq_true rfl)⟩ ⟨(Nat.le_of_ble_eq_true rfl), (Nat.le_of_ble_eq_true rfl)⟩ (Nat.le_of_ble_eq_true rfl) [1, 2, 3, 4, 5, 6, 7, 8, 9, 10, 11, 12] [0] rfl rfl rfl rfl (by decide) [0, 1, 2, 3, 4, 5, 6, 7, 8, 9, 10, 11, 12] rfl (ws2 := fun _ => [(a 0, oX8 a), (a 1, oX3 a), (a 2, aI E 16 (hM 2)), (a 3, aI E 16 (hM 3)), (a 4, aI E 256 (hM 4)), (a 5, aI E 128 (hM 5)), (a 6, aI E 128 (hM 6)), (a 7, aI E 128 (hM 7)), (a 9, oX0 a (o_2 9)), (a 10, aI E 4096 (o_2 10)), (a 11, aI E 120 (o_2 11)), (a 12, aI E 120 (o_2 12)), (a 21, oX6 (hM 21))]) (fun _ => rfl) (fun _ => ?_)
    refine r.aload_n 1 (DX8_distance 16 rfl) rfl ?_
    refine r.get (v := .ref (a 9)) kX8 f_X8_21 rfl 0 rfl rfl (DX8_distance 17 rfl) ?_
    refine r.aload_n 1 (DX8_distance 18 rfl) rfl ?_
    refine r.get (v := .ref (a 1)) kX8 f_X8_10 rfl 0 rfl rfl (DX8_distance 19 rfl) ?_
    refine r.iload_n 2 (DX8_distance 20 rfl) rfl ?_
    refine r.iload_n 3 (DX8_distance 21 rfl) rfl ?_
    refine r.iload_n 4 (DX8_distance 22 rfl) rfl ?_
    refine r.iload 5 (DX8_distance 23 rfl) rfl ?_
    obtain ⟨o_3, ho_3, hxt⟩ := xbd hxt
    refine r.callVI 0 rfl rfl (t_X3_numberOf E a x1 x2 x3 x4 hM ho_3) g_X8_192 rfl (DX8_distance 24 rfl) rfl ⟨(Nat.le_of_ble_eq_true rfl), (Nat.le_of_ble_eq_true rfl)⟩ ⟨(Nat.le_of_ble_eq_true rfl), (Nat.le_of_ble_eq_true rfl)⟩ (Nat.le_of_ble_eq_true rfl) [1, 4] [0, 2, 3, 5, 6, 7, 8, 9, 10, 11, 12] rfl rfl rfl rfl (by decide) [0, 11, 1, 2, 12, 3, 4, 5, 6, 7, 8, 9, 10] rfl (ws2 := fun _ => [(a 0, oX8 a), (a 1, oX3 a), (a 2, aI E 16 (hM 2)), (a 3, aI E 16 (hM 3)), (a 4, aI E 256 (hM 4)), (a 5, aI E 128 (hM 5)), (a 6, aI E 128 (hM 6)), (a 7, aI E 128 (hM 7)), (a 9, oX0 a (o_2 9)), (a 10, aI E 4096 (o_2 10)), (a 11, aI E 120 (o_2 11)), (a 12, aI E 120 (o_2 12)), (a 21, oX6 (hM 21))]) (fun _ => rfl) (fun _ => ?_)
    obtain ⟨o_4, ho_4, hxt⟩ := xbd hxt
    refine r.callVI 0 rfl rfl (t_X0_at E a o_3 (mgs hM [9, 10] o_2) ho_4) g_X8_195 rfl (DX8_distance 25 rfl) rfl ⟨(Nat.le_of_ble_eq_true rfl), (Nat.le_of_ble_eq_true rfl)⟩ ⟨(Nat.le_of_ble_eq_true rfl), (Nat.le_of_ble_eq_true rfl)⟩ (Nat.le_of_ble_eq_true rfl) [8, 9] [0, 1, 2, 3, 4, 5, 6, 7, 10, 11, 12] rfl rfl rfl rfl (by decide) [0, 1, 2, 3, 4, 5, 6, 7, 11, 12, 8, 9, 10] rfl (ws2 := fun _ => [(a 0, oX8 a), (a 1, oX3 a), (a 2, aI E 16 (hM 2)), (a 3, aI E 16 (hM 3)), (a 4, aI E 256 (hM 4)), (a 5, aI E 128 (hM 5)), (a 6, aI E 128 (hM 6)), (a 7, aI E 128 (hM 7)), (a 9, oX0 a (o_2 9)), (a 10, aI E 4096 (o_2 10)), (a 11, aI E 120 (o_2 11)), (a 12, aI E 120 (o_2 12)), (a 21, oX6 (hM 21))]) (fun _ => rfl) (fun _ => ?_)
    cases hxt
    exact hret _ _ _ _ (DX8_distance 26 rfl) rfl ⟨(), rfl, rfl⟩
  refine r.iload 0 (DX8_distance 9 rfl) rfl ?_
  cases hxt
  exact hret _ _ _ _ (DX8_distance 10 rfl) rfl ⟨(), rfl, rfl⟩
set_option maxRecDepth 100000 in
set_option maxHeartbeats 4000000 in
theorem t_X8_number (E : xE) (a : Nat → Nat) (x1 : Int32) (x2 : Int32) (x3 : Int32) (x4 : Int32) (hM : Mem) {o : Int32} (hxt : xt_X8_number x1 x2 x3 x4 hM = some o) : xMI (S := Unit) E yX8_number cX8_number 6 .int 2 0 0 [.ref (a 0), .int x1, .int x2, .int x3, .int x4] [(a 0, oX8 a), (a 1, oX3 a), (a 4, aI E 256 (hM 4)), (a 21, oX6 (hM 21))] (fun _ => o) (fun _ => [(a 0, oX8 a), (a 1, oX3 a), (a 4, aI E 256 (hM 4)), (a 21, oX6 (hM 21))]) := by
  refine xMI.of (own := RX8) (lo0 := [(0, .ref (a 0)), (1, .int x1), (2, .int x2), (3, .int x3), (4, .int x4)]) (by decide +kernel) rfl rfl (Nat.le_of_ble_eq_true rfl) (fun V r hret => ?_)
  unfold xt_X8_number at hxt
  refine r.aload_n 0 (DX8_number 0 rfl) rfl ?_
  refine r.iload_n 1 (DX8_number 1 rfl) rfl ?_
  refine r.iload_n 2 (DX8_number 2 rfl) rfl ?_
  refine r.iload_n 3 (DX8_number 3 rfl) rfl ?_
  refine r.iload 4 (DX8_number 4 rfl) rfl ?_
  obtain ⟨o_1, ho_1, hxt⟩ := xbd hxt
  refine r.callVI 0 rfl rfl (t_X8_errorOf E a x1 x2 x3 x4 hM ho_1) g_X8_115 rfl (DX8_number 5 rfl) rfl ⟨(Nat.le_of_ble_eq_true rfl), (Nat.le_of_ble_eq_true rfl)⟩ ⟨(Nat.le_of_ble_eq_true rfl), (Nat.le_of_ble_eq_true rfl)⟩ (Nat.le_of_ble_eq_true rfl) [0, 3] [1, 2] rfl rfl rfl rfl (by decide) [2, 0, 1, 3] rfl (ws2 := fun _ => [(a 0, oX8 a), (a 1, oX3 a), (a 4, aI E 256 (hM 4)), (a 21, oX6 (hM 21))]) (fun _ => rfl) (fun _ => ?_)
  refine r.istore (lo' := [(5, .int o_1), (0, .ref (a 0)), (1, .int x1), (2, .int x2), (3, .int x3), (4, .int x4)]) (DX8_number 6 rfl) (Nat.le_of_ble_eq_true rfl) rfl ?_
  refine r.iload 0 (DX8_number 7 rfl) rfl ?_
  refine r.if_eq 21 (DX8_number 8 rfl) rfl hxt (fun _ hxt => ?_) (fun _ hxt => ?_)
  · refine r.aload_n 1 (DX8_number 11 rfl) rfl ?_
    refine r.get (v := .ref (a 1)) kX8 f_X8_10 rfl 0 rfl rfl (DX8_number 12 rfl) ?_
    refine r.iload_n 2 (DX8_number 13 rfl) rfl ?_
    refine r.iload_n 3 (DX8_number 14 rfl) rfl ?_
    refine r.iload_n 4 (DX8_number 15 rfl) rfl ?_
    refine r.iload 5 (DX8_number 16 rfl) rfl ?_
    obtain ⟨o_2, ho_2, hxt⟩ := xbd hxt
    refine r.callVI 0 rfl rfl (t_X3_numberOf E a x1 x2 x3 x4 hM ho_2) g_X8_192 rfl (DX8_number 17 rfl) rfl ⟨(Nat.le_of_ble_eq_true rfl), (Nat.le_of_ble_eq_true rfl)⟩ ⟨(Nat.le_of_ble_eq_true rfl), (Nat.le_of_ble_eq_true rfl)⟩ (Nat.le_of_ble_eq_true rfl) [1, 2] [0, 3] rfl rfl rfl rfl (by decide) [0, 2, 3, 1] rfl (ws2 := fun _ => [(a 0, oX8 a), (a 1, oX3 a), (a 4, aI E 256 (hM 4)), (a 21, oX6 (hM 21))]) (fun _ => rfl) (fun _ => ?_)
    cases hxt
    exact hret _ _ _ _ (DX8_number 18 rfl) rfl ⟨(), rfl, rfl⟩
  refine r.iload 0 (DX8_number 9 rfl) rfl ?_
  refine r.goto 33 (DX8_number 10 rfl) rfl ?_
  cases hxt
  exact hret _ _ _ _ (DX8_number 18 rfl) rfl ⟨(), rfl, rfl⟩
set_option maxRecDepth 100000 in
set_option maxHeartbeats 4000000 in
theorem t_X8_folded (E : xE) (a : Nat → Nat) (x1 : Int32) (x2 : Int32) (x3 : Int32) (x4 : Int32) (hM : Mem) {o : Int32 × Mem} (hxt : xt_X8_folded x1 x2 x3 x4 hM = some o) : xMI (S := Unit) E yX8_folded cX8_folded 6 .int 5 0 0 [.ref (a 0), .int x1, .int x2, .int x3, .int x4] [(a 0, oX8 a), (a 1, oX3 a), (a 4, aI E 256 (hM 4)), (a 5, aI E 128 (hM 5)), (a 6, aI E 128 (hM 6)), (a 8, aI E 128 (hM 8)), (a 13, oX1 a (hM 13)), (a 14, aI E 8 (hM 14)), (a 21, oX6 (hM 21))] (fun _ => o.1) (fun _ => [(a 0, oX8 a), (a 1, oX3 a), (a 4, aI E 256 (hM 4)), (a 5, aI E 128 (hM 5)), (a 6, aI E 128 (hM 6)), (a 8, aI E 128 (hM 8)), (a 13, oX1 a (o.2 13)), (a 14, aI E 8 (o.2 14)), (a 21, oX6 (hM 21))]) := by
  refine xMI.of (own := RX8) (lo0 := [(0, .ref (a 0)), (1, .int x1), (2, .int x2), (3, .int x3), (4, .int x4)]) (by decide +kernel) rfl rfl (Nat.le_of_ble_eq_true rfl) (fun V r hret => ?_)
  unfold xt_X8_folded at hxt
  refine r.aload_n 0 (DX8_folded 0 rfl) rfl ?_
  refine r.iload_n 1 (DX8_folded 1 rfl) rfl ?_
  refine r.iload_n 2 (DX8_folded 2 rfl) rfl ?_
  refine r.iload_n 3 (DX8_folded 3 rfl) rfl ?_
  refine r.iload 4 (DX8_folded 4 rfl) rfl ?_
  obtain ⟨o_1, ho_1, hxt⟩ := xbd hxt
  refine r.callVI 0 rfl rfl (t_X8_errorOf E a x1 x2 x3 x4 hM ho_1) g_X8_115 rfl (DX8_folded 5 rfl) rfl ⟨(Nat.le_of_ble_eq_true rfl), (Nat.le_of_ble_eq_true rfl)⟩ ⟨(Nat.le_of_ble_eq_true rfl), (Nat.le_of_ble_eq_true rfl)⟩ (Nat.le_of_ble_eq_true rfl) [0, 8] [1, 2, 3, 4, 5, 6, 7] rfl rfl rfl rfl (by decide) [7, 0, 1, 2, 3, 4, 5, 6, 8] rfl (ws2 := fun _ => [(a 0, oX8 a), (a 1, oX3 a), (a 4, aI E 256 (hM 4)), (a 5, aI E 128 (hM 5)), (a 6, aI E 128 (hM 6)), (a 8, aI E 128 (hM 8)), (a 13, oX1 a (hM 13)), (a 14, aI E 8 (hM 14)), (a 21, oX6 (hM 21))]) (fun _ => rfl) (fun _ => ?_)
  refine r.istore (lo' := [(5, .int o_1), (0, .ref (a 0)), (1, .int x1), (2, .int x2), (3, .int x3), (4, .int x4)]) (DX8_folded 6 rfl) (Nat.le_of_ble_eq_true rfl) rfl ?_
  refine r.iload 0 (DX8_folded 7 rfl) rfl ?_
  refine r.if_eq 21 (DX8_folded 8 rfl) rfl hxt (fun _ hxt => ?_) (fun _ hxt => ?_)
  · refine r.aload_n 1 (DX8_folded 11 rfl) rfl ?_
    refine r.aload_n 1 (DX8_folded 12 rfl) rfl ?_
    refine r.get (v := .ref (a 1)) kX8 f_X8_10 rfl 0 rfl rfl (DX8_folded 13 rfl) ?_
    refine r.iload_n 2 (DX8_folded 14 rfl) rfl ?_
    refine r.iload_n 3 (DX8_folded 15 rfl) rfl ?_
    refine r.iload_n 4 (DX8_folded 16 rfl) rfl ?_
    refine r.iload 5 (DX8_folded 17 rfl) rfl ?_
    obtain ⟨o_2, ho_2, hxt⟩ := xbd hxt
    refine r.callVI 0 rfl rfl (t_X3_numberOf E a x1 x2 x3 x4 hM ho_2) g_X8_192 rfl (DX8_folded 18 rfl) rfl ⟨(Nat.le_of_ble_eq_true rfl), (Nat.le_of_ble_eq_true rfl)⟩ ⟨(Nat.le_of_ble_eq_true rfl), (Nat.le_of_ble_eq_true rfl)⟩ (Nat.le_of_ble_eq_true rfl) [1, 2] [0, 3, 4, 5, 6, 7, 8] rfl rfl rfl rfl (by decide) [0, 7, 8, 1, 2, 3, 4, 5, 6] rfl (ws2 := fun _ => [(a 0, oX8 a), (a 1, oX3 a), (a 4, aI E 256 (hM 4)), (a 5, aI E 128 (hM 5)), (a 6, aI E 128 (hM 6)), (a 8, aI E 128 (hM 8)), (a 13, oX1 a (hM 13)), (a 14, aI E 8 (hM 14)), (a 21, oX6 (hM 21))]) (fun _ => rfl) (fun _ => ?_)
    obtain ⟨o_3, ho_3, hxt⟩ := xbd hxt
    refine r.callVI 0 rfl rfl (t_X8_foldedNumber E a o_2 hM ho_3) g_X8_182 rfl (DX8_folded 19 rfl) rfl ⟨(Nat.le_of_ble_eq_true rfl), (Nat.le_of_ble_eq_true rfl)⟩ ⟨(Nat.le_of_ble_eq_true rfl), (Nat.le_of_ble_eq_true rfl)⟩ (Nat.le_of_ble_eq_true rfl) [0, 1, 2, 3, 4, 5, 6, 7, 8] [] rfl rfl rfl rfl (by decide) [0, 1, 2, 3, 4, 5, 6, 7, 8] rfl (ws2 := fun _ => [(a 0, oX8 a), (a 1, oX3 a), (a 4, aI E 256 (hM 4)), (a 5, aI E 128 (hM 5)), (a 6, aI E 128 (hM 6)), (a 8, aI E 128 (hM 8)), (a 13, oX1 a (o_3.2 13)), (a 14, aI E 8 (o_3.2 14)), (a 21, oX6 (hM 21))]) (fun _ => rfl) (fun _ => ?_)
    cases hxt
    exact hret _ _ _ _ (DX8_folded 20 rfl) rfl ⟨(), rfl, rfl⟩
  refine r.iload 0 (DX8_folded 9 rfl) rfl ?_
  refine r.goto 37 (DX8_folded 10 rfl) rfl ?_
  cases hxt
  exact hret _ _ _ _ (DX8_folded 20 rfl) rfl ⟨(), rfl, rfl⟩
set_option maxRecDepth 100000 in
set_option maxHeartbeats 4000000 in
theorem t_X8_of (E : xE) (a : Nat → Nat) (x1 : Int32) (x2 : Int32) (hM : Mem) {o : Int32 × Mem} (hxt : xt_X8_of x1 x2 hM = some o) : xMI (S := Unit) E yX8_of cX8_of 3 .int 6 0 0 [.ref (a 0), .int x1, .int x2] [(a 0, oX8 a), (a 1, oX3 a), (a 2, aI E 16 (hM 2)), (a 3, aI E 16 (hM 3)), (a 4, aI E 256 (hM 4)), (a 5, aI E 128 (hM 5)), (a 6, aI E 128 (hM 6)), (a 7, aI E 128 (hM 7)), (a 8, aI E 128 (hM 8)), (a 9, oX0 a (hM 9)), (a 10, aI E 4096 (hM 10)), (a 11, aI E 120 (hM 11)), (a 12, aI E 120 (hM 12)), (a 13, oX1 a (hM 13)), (a 14, aI E 8 (hM 14)), (a 15, oX7 a (hM 15)), (a 16, aI E 11 (hM 16)), (a 17, aI E 4096 (hM 17)), (a 18, aI E 6272 (hM 18)), (a 19, aI E 98 (hM 19)), (a 21, oX6 (hM 21))] (fun _ => o.1) (fun _ => [(a 0, oX8 a), (a 1, oX3 a), (a 2, aI E 16 (hM 2)), (a 3, aI E 16 (hM 3)), (a 4, aI E 256 (hM 4)), (a 5, aI E 128 (hM 5)), (a 6, aI E 128 (hM 6)), (a 7, aI E 128 (hM 7)), (a 8, aI E 128 (hM 8)), (a 9, oX0 a (o.2 9)), (a 10, aI E 4096 (o.2 10)), (a 11, aI E 120 (o.2 11)), (a 12, aI E 120 (o.2 12)), (a 13, oX1 a (o.2 13)), (a 14, aI E 8 (o.2 14)), (a 15, oX7 a (o.2 15)), (a 16, aI E 11 (o.2 16)), (a 17, aI E 4096 (o.2 17)), (a 18, aI E 6272 (o.2 18)), (a 19, aI E 98 (o.2 19)), (a 21, oX6 (hM 21))]) := by
  refine xMI.of (own := RX8) (lo0 := [(0, .ref (a 0)), (1, .int x1), (2, .int x2)]) (by decide +kernel) rfl rfl (Nat.le_of_ble_eq_true rfl) (fun V r hret => ?_)
  unfold xt_X8_of at hxt
  refine r.iload_n 1 (DX8_of_0 0 rfl) rfl ?_
  refine r.if_lt 21 (DX8_of_0 1 rfl) rfl hxt (fun _ hxt => ?_) (fun _ hxt => ?_)
  · refine r.bipush (v := (-2 : Int32)) (DX8_of_0 10 rfl) rfl ?_
    cases hxt
    exact hret _ _ _ _ (DX8_of_0 11 rfl) rfl ⟨(), rfl, rfl⟩
  refine r.iload_n 1 (DX8_of_0 2 rfl) rfl ?_
  refine r.sipush (v := (4096 : Int32)) (DX8_of_0 3 rfl) rfl ?_
  refine r.icmp_ge 21 (DX8_of_0 4 rfl) rfl hxt (fun _ hxt => ?_) (fun _ hxt => ?_)
  · refine r.bipush (v := (-2 : Int32)) (DX8_of_0 10 rfl) rfl ?_
    cases hxt
    exact hret _ _ _ _ (DX8_of_0 11 rfl) rfl ⟨(), rfl, rfl⟩
  refine r.iload_n 2 (DX8_of_0 5 rfl) rfl ?_
  refine r.if_lt 21 (DX8_of_0 6 rfl) rfl hxt (fun _ hxt => ?_) (fun _ hxt => ?_)
  · refine r.bipush (v := (-2 : Int32)) (DX8_of_0 10 rfl) rfl ?_
    cases hxt
    exact hret _ _ _ _ (DX8_of_0 11 rfl) rfl ⟨(), rfl, rfl⟩
  refine r.iload_n 2 (DX8_of_0 7 rfl) rfl ?_
  refine r.bipush (v := (6 : Int32)) (DX8_of_0 8 rfl) rfl ?_
  refine r.icmp_le 24 (DX8_of_0 9 rfl) rfl hxt (fun _ hxt => ?_) (fun _ hxt => ?_)
  · refine r.aload_n 0 (DX8_of_0 12 rfl) rfl ?_
    refine r.get (v := .ref (a 1)) kX8 f_X8_10 rfl 0 rfl rfl (DX8_of_0 13 rfl) ?_
    refine r.iload_n 1 (DX8_of_0 14 rfl) rfl ?_
    refine r.aload_n 0 (DX8_of_0 15 rfl) rfl ?_
    refine r.get (v := .ref (a 21)) kX8 f_X8_53 rfl 0 rfl rfl (DX8_of_0 16 rfl) ?_
    refine r.get (v := .int ((hM 21) 1)) kX6 f_X8_102 rfl 20 rfl rfl (DX8_of_0 17 rfl) ?_
    obtain ⟨o_1, ho_1, hxt⟩ := xbd hxt
    refine r.callVI 0 rfl rfl (t_X3_isPosition E a x1 ((hM 21) 1) hM ho_1) g_X8_198 rfl (DX8_of_0 18 rfl) rfl ⟨(Nat.le_of_ble_eq_true rfl), (Nat.le_of_ble_eq_true rfl)⟩ ⟨(Nat.le_of_ble_eq_true rfl), (Nat.le_of_ble_eq_true rfl)⟩ (Nat.le_of_ble_eq_true rfl) [1, 7] [0, 2, 3, 4, 5, 6, 8, 9, 10, 11, 12, 13, 14, 15, 16, 17, 18, 19, 20] rfl rfl rfl rfl (by decide) [0, 19, 1, 2, 3, 4, 5, 20, 6, 7, 8, 9, 10, 11, 12, 13, 14, 15, 16, 17, 18] rfl (ws2 := fun _ => [(a 0, oX8 a), (a 1, oX3 a), (a 2, aI E 16 (hM 2)), (a 3, aI E 16 (hM 3)), (a 4, aI E 256 (hM 4)), (a 5, aI E 128 (hM 5)), (a 6, aI E 128 (hM 6)), (a 7, aI E 128 (hM 7)), (a 8, aI E 128 (hM 8)), (a 9, oX0 a (hM 9)), (a 10, aI E 4096 (hM 10)), (a 11, aI E 120 (hM 11)), (a 12, aI E 120 (hM 12)), (a 13, oX1 a (hM 13)), (a 14, aI E 8 (hM 14)), (a 15, oX7 a (hM 15)), (a 16, aI E 11 (hM 16)), (a 17, aI E 4096 (hM 17)), (a 18, aI E 6272 (hM 18)), (a 19, aI E 98 (hM 19)), (a 21, oX6 (hM 21))]) (fun _ => rfl) (fun _ => ?_)
    refine r.if_ne 44 (DX8_of_0 19 rfl) rfl hxt (fun _ hxt => ?_) (fun _ hxt => ?_)
    · refine r.iload_n 2 (DX8_of_0 22 rfl) rfl ?_
      refine xif hxt (fun hc hxt => r.tsOut 165 (DX8_of_0 23 rfl) hc rfl ?_) (fun hn hxt => ?_)
      · refine r.aload_n 0 (DX8_of_1 5 rfl) rfl ?_
        refine r.get (v := .ref (a 13)) kX8 f_X8_28 rfl 0 rfl rfl (DX8_of_1 6 rfl) ?_
        refine r.aload_n 0 (DX8_of_1 7 rfl) rfl ?_
        refine r.get (v := .ref (a 21)) kX8 f_X8_53 rfl 0 rfl rfl (DX8_of_1 8 rfl) ?_
        refine r.get (v := .int ((hM 21) 1)) kX6 f_X8_102 rfl 20 rfl rfl (DX8_of_1 9 rfl) ?_
        obtain ⟨o_2, ho_2, hxt⟩ := xbd hxt
        refine r.callVV 2 rfl rfl (t_X1_prepare E a ((hM 21) 1) hM ho_2) g_X8_224 rfl (DX8_of_1 10 rfl) rfl ⟨(Nat.le_of_ble_eq_true rfl), (Nat.le_of_ble_eq_true rfl)⟩ ⟨(Nat.le_of_ble_eq_true rfl), (Nat.le_of_ble_eq_true rfl)⟩ (Nat.le_of_ble_eq_true rfl) [1, 8, 13, 14] [0, 2, 3, 4, 5, 6, 7, 9, 10, 11, 12, 15, 16, 17, 18, 19, 20] rfl rfl rfl rfl (by decide) [0, 17, 1, 2, 3, 4, 5, 6, 18, 7, 8, 9, 10, 19, 20, 11, 12, 13, 14, 15, 16] rfl (ws2 := fun _ => [(a 0, oX8 a), (a 1, oX3 a), (a 2, aI E 16 (hM 2)), (a 3, aI E 16 (hM 3)), (a 4, aI E 256 (hM 4)), (a 5, aI E 128 (hM 5)), (a 6, aI E 128 (hM 6)), (a 7, aI E 128 (hM 7)), (a 8, aI E 128 (hM 8)), (a 9, oX0 a (hM 9)), (a 10, aI E 4096 (hM 10)), (a 11, aI E 120 (hM 11)), (a 12, aI E 120 (hM 12)), (a 13, oX1 a (o_2 13)), (a 14, aI E 8 (o_2 14)), (a 15, oX7 a (hM 15)), (a 16, aI E 11 (hM 16)), (a 17, aI E 4096 (hM 17)), (a 18, aI E 6272 (hM 18)), (a 19, aI E 98 (hM 19)), (a 21, oX6 (hM 21))]) (fun _ => rfl) (fun _ => ?_)
        refine r.aload_n 0 (DX8_of_1 11 rfl) rfl ?_
        refine r.get (v := .ref (a 13)) kX8 f_X8_28 rfl 0 rfl rfl (DX8_of_1 12 rfl) ?_
        refine r.iload_n 1 (DX8_of_1 13 rfl) rfl ?_
        obtain ⟨o_3, ho_3, hxt⟩ := xbd hxt
        refine r.callVI 5 rfl rfl (t_X1_alike E a x1 (mgs hM [13, 14] o_2) ho_3) g_X8_227 rfl (DX8_of_1 14 rfl) rfl ⟨(Nat.le_of_ble_eq_true rfl), (Nat.le_of_ble_eq_true rfl)⟩ ⟨(Nat.le_of_ble_eq_true rfl), (Nat.le_of_ble_eq_true rfl)⟩ (Nat.le_of_ble_eq_true rfl) [1, 4, 5, 6, 8, 13, 14] [0, 2, 3, 7, 9, 10, 11, 12, 15, 16, 17, 18, 19, 20] rfl rfl rfl rfl (by decide) [0, 14, 1, 2, 15, 16, 17, 3, 18, 4, 5, 6, 7, 19, 20, 8, 9, 10, 11, 12, 13] rfl (ws2 := fun _ => [(a 0, oX8 a), (a 1, oX3 a), (a 2, aI E 16 (hM 2)), (a 3, aI E 16 (hM 3)), (a 4, aI E 256 (hM 4)), (a 5, aI E 128 (hM 5)), (a 6, aI E 128 (hM 6)), (a 7, aI E 128 (hM 7)), (a 8, aI E 128 (hM 8)), (a 9, oX0 a (hM 9)), (a 10, aI E 4096 (hM 10)), (a 11, aI E 120 (hM 11)), (a 12, aI E 120 (hM 12)), (a 13, oX1 a (o_2 13)), (a 14, aI E 8 (o_2 14)), (a 15, oX7 a (hM 15)), (a 16, aI E 11 (hM 16)), (a 17, aI E 4096 (hM 17)), (a 18, aI E 6272 (hM 18)), (a 19, aI E 98 (hM 19)), (a 21, oX6 (hM 21))]) (fun _ => rfl) (fun _ => ?_)
        cases hxt
        exact hret _ _ _ _ (DX8_of_1 15 rfl) rfl ⟨(), rfl, rfl⟩
      refine xif hxt (fun hc hxt => r.tsIn 84 (DX8_of_0 23 rfl) hc hn rfl rfl ?_) (fun _ hxt => ?_)
      · refine r.iload_n 1 (DX8_of_0 24 rfl) rfl ?_
        obtain ⟨o_4, ho_4, hxt⟩ := xbd hxt
        refine r.callSI0 (t_X3_whoOf E x1 ho_4) g_X8_202 rfl (DX8_of_0 25 rfl) rfl ⟨(Nat.le_of_ble_eq_true rfl), (Nat.le_of_ble_eq_true rfl)⟩ (Nat.le_of_ble_eq_true rfl) ?_
        cases hxt
        exact hret _ _ _ _ (DX8_of_0 26 rfl) rfl ⟨(), rfl, rfl⟩
      refine xif hxt (fun hc hxt => r.tsIn 89 (DX8_of_0 23 rfl) hc hn rfl rfl ?_) (fun _ hxt => ?_)
      · refine r.iload_n 1 (DX8_of_0 27 rfl) rfl ?_
        obtain ⟨o_5, ho_5, hxt⟩ := xbd hxt
        refine r.callSI0 (t_X3_foxOf E x1 ho_5) g_X8_205 rfl (DX8_of_0 28 rfl) rfl ⟨(Nat.le_of_ble_eq_true rfl), (Nat.le_of_ble_eq_true rfl)⟩ (Nat.le_of_ble_eq_true rfl) ?_
        cases hxt
        exact hret _ _ _ _ (DX8_of_0 29 rfl) rfl ⟨(), rfl, rfl⟩
      refine xif hxt (fun hc hxt => r.tsIn 94 (DX8_of_0 23 rfl) hc hn rfl rfl ?_) (fun _ hxt => ?_)
      · refine r.aload_n 0 (DX8_of_0 30 rfl) rfl ?_
        refine r.get (v := .ref (a 1)) kX8 f_X8_10 rfl 0 rfl rfl (DX8_of_0 31 rfl) ?_
        refine r.iload_n 1 (DX8_of_0 32 rfl) rfl ?_
        obtain ⟨o_6, ho_6, hxt⟩ := xbd hxt
        refine r.callSI0 (t_X3_pairIn E x1 ho_6) g_X8_208 rfl (DX8_of_0 33 rfl) rfl ⟨(Nat.le_of_ble_eq_true rfl), (Nat.le_of_ble_eq_true rfl)⟩ (Nat.le_of_ble_eq_true rfl) ?_
        obtain ⟨o_7, ho_7, hxt⟩ := xbd hxt
        refine r.callVI 0 rfl rfl (t_X3_lowerOf E a o_6 hM ho_7) g_X8_211 rfl (DX8_of_0 34 rfl) rfl ⟨(Nat.le_of_ble_eq_true rfl), (Nat.le_of_ble_eq_true rfl)⟩ ⟨(Nat.le_of_ble_eq_true rfl), (Nat.le_of_ble_eq_true rfl)⟩ (Nat.le_of_ble_eq_true rfl) [1, 5] [0, 2, 3, 4, 6, 7, 8, 9, 10, 11, 12, 13, 14, 15, 16, 17, 18, 19, 20] rfl rfl rfl rfl (by decide) [0, 19, 1, 2, 3, 20, 4, 5, 6, 7, 8, 9, 10, 11, 12, 13, 14, 15, 16, 17, 18] rfl (ws2 := fun _ => [(a 0, oX8 a), (a 1, oX3 a), (a 2, aI E 16 (hM 2)), (a 3, aI E 16 (hM 3)), (a 4, aI E 256 (hM 4)), (a 5, aI E 128 (hM 5)), (a 6, aI E 128 (hM 6)), (a 7, aI E 128 (hM 7)), (a 8, aI E 128 (hM 8)), (a 9, oX0 a (hM 9)), (a 10, aI E 4096 (hM 10)), (a 11, aI E 120 (hM 11)), (a 12, aI E 120 (hM 12)), (a 13, oX1 a (hM 13)), (a 14, aI E 8 (hM 14)), (a 15, oX7 a (hM 15)), (a 16, aI E 11 (hM 16)), (a 17, aI E 4096 (hM 17)), (a 18, aI E 6272 (hM 18)), (a 19, aI E 98 (hM 19)), (a 21, oX6 (hM 21))]) (fun _ => rfl) (fun _ => ?_)
        cases hxt
        exact hret _ _ _ _ (DX8_of_0 35 rfl) rfl ⟨(), rfl, rfl⟩
      refine xif hxt (fun hc hxt => r.tsIn 106 (DX8_of_0 23 rfl) hc hn rfl rfl ?_) (fun _ hxt => ?_)
      · refine r.aload_n 0 (DX8_of_0 36 rfl) rfl ?_
        refine r.get (v := .ref (a 1)) kX8 f_X8_10 rfl 0 rfl rfl (DX8_of_0 37 rfl) ?_
        refine r.iload_n 1 (DX8_of_0 38 rfl) rfl ?_
        obtain ⟨o_8, ho_8, hxt⟩ := xbd hxt
        refine r.callSI0 (t_X3_pairIn E x1 ho_8) g_X8_208 rfl (DX8_of_0 39 rfl) rfl ⟨(Nat.le_of_ble_eq_true rfl), (Nat.le_of_ble_eq_true rfl)⟩ (Nat.le_of_ble_eq_true rfl) ?_
        obtain ⟨o_9, ho_9, hxt⟩ := xbd hxt
        refine r.callVI 0 rfl rfl (t_X3_higherOf E a o_8 hM ho_9) g_X8_214 rfl (DX8_of_0 40 rfl) rfl ⟨(Nat.le_of_ble_eq_true rfl), (Nat.le_of_ble_eq_true rfl)⟩ ⟨(Nat.le_of_ble_eq_true rfl), (Nat.le_of_ble_eq_true rfl)⟩ (Nat.le_of_ble_eq_true rfl) [1, 6] [0, 2, 3, 4, 5, 7, 8, 9, 10, 11, 12, 13, 14, 15, 16, 17, 18, 19, 20] rfl rfl rfl rfl (by decide) [0, 19, 1, 2, 3, 4, 20, 5, 6, 7, 8, 9, 10, 11, 12, 13, 14, 15, 16, 17, 18] rfl (ws2 := fun _ => [(a 0, oX8 a), (a 1, oX3 a), (a 2, aI E 16 (hM 2)), (a 3, aI E 16 (hM 3)), (a 4, aI E 256 (hM 4)), (a 5, aI E 128 (hM 5)), (a 6, aI E 128 (hM 6)), (a 7, aI E 128 (hM 7)), (a 8, aI E 128 (hM 8)), (a 9, oX0 a (hM 9)), (a 10, aI E 4096 (hM 10)), (a 11, aI E 120 (hM 11)), (a 12, aI E 120 (hM 12)), (a 13, oX1 a (hM 13)), (a 14, aI E 8 (hM 14)), (a 15, oX7 a (hM 15)), (a 16, aI E 11 (hM 16)), (a 17, aI E 4096 (hM 17)), (a 18, aI E 6272 (hM 18)), (a 19, aI E 98 (hM 19)), (a 21, oX6 (hM 21))]) (fun _ => rfl) (fun _ => ?_)
        cases hxt
        exact hret _ _ _ _ (DX8_of_0 41 rfl) rfl ⟨(), rfl, rfl⟩
      refine xif hxt (fun hc hxt => r.tsIn 118 (DX8_of_0 23 rfl) hc hn rfl rfl ?_) (fun _ hxt => ?_)
      · refine r.aload_n 0 (DX8_of_0 42 rfl) rfl ?_
        refine r.get (v := .ref (a 9)) kX8 f_X8_21 rfl 0 rfl rfl (DX8_of_0 43 rfl) ?_
        refine r.aload_n 0 (DX8_of_0 44 rfl) rfl ?_
        refine r.get (v := .ref (a 21)) kX8 f_X8_53 rfl 0 rfl rfl (DX8_of_0 45 rfl) ?_
        obtain ⟨o_10, ho_10, hxt⟩ := xbd hxt
        refine r.callVV 7 rfl rfl (t_X0_prepare E a (a 21) (hM 21) hM ho_10) g_X8_189 rfl (DX8_of_0 46 rfl) rfl ⟨(Nat.le_of_ble_eq_true rfl), (Nat.le_of_ble_eq_true rfl)⟩ ⟨(Nat.le_of_ble_eq_true rfl), (Nat.le_of_ble_eq_true rfl)⟩ (Nat.le_of_ble_eq_true rfl) [1, 2, 3, 4, 5, 6, 7, 9, 10, 11, 12, 20] [0, 8, 13, 14, 15, 16, 17, 18, 19] rfl rfl rfl rfl (by decide) [0, 9, 10, 11, 12, 13, 14, 15, 1, 16, 17, 18, 19, 2, 3, 4, 5, 6, 7, 8, 20] rfl (ws2 := fun _ => [(a 0, oX8 a), (a 1, oX3 a), (a 2, aI E 16 (hM 2)), (a 3, aI E 16 (hM 3)), (a 4, aI E 256 (hM 4)), (a 5, aI E 128 (hM 5)), (a 6, aI E 128 (hM 6)), (a 7, aI E 128 (hM 7)), (a 8, aI E 128 (hM 8)), (a 9, oX0 a (o_10 9)), (a 10, aI E 4096 (o_10 10)), (a 11, aI E 120 (o_10 11)), (a 12, aI E 120 (o_10 12)), (a 13, oX1 a (hM 13)), (a 14, aI E 8 (hM 14)), (a 15, oX7 a (hM 15)), (a 16, aI E 11 (hM 16)), (a 17, aI E 4096 (hM 17)), (a 18, aI E 6272 (hM 18)), (a 19, aI E 98 (hM 19)), (a 21, oX6 (hM 21))]) (fun _ => rfl) (fun _ => ?_)
        refine r.aload_n 0 (DX8_of_0 47 rfl) rfl ?_
        refine r.get (v := .ref (a 9)) kX8 f_X8_21 rfl 0 rfl rfl (DX8_of_0 48 rfl) ?_
        refine r.iload_n 1 (DX8_of_0 49 rfl) rfl ?_
        obtain ⟨o_11, ho_11, hxt⟩ := xbd hxt
        refine r.callVI 0 rfl rfl (t_X0_at E a x1 (mgs hM [9, 10] o_10) ho_11) g_X8_195 rfl (DX8_of_0 50 rfl) rfl ⟨(Nat.le_of_ble_eq_true rfl), (Nat.le_of_ble_eq_true rfl)⟩ ⟨(Nat.le_of_ble_eq_true rfl), (Nat.le_of_ble_eq_true rfl)⟩ (Nat.le_of_ble_eq_true rfl) [9, 10] [0, 1, 2, 3, 4, 5, 6, 7, 8, 11, 12, 13, 14, 15, 16, 17, 18, 19, 20] rfl rfl rfl rfl (by decide) [0, 1, 2, 3, 4, 5, 6, 7, 8, 19, 20, 9, 10, 11, 12, 13, 14, 15, 16, 17, 18] rfl (ws2 := fun _ => [(a 0, oX8 a), (a 1, oX3 a), (a 2, aI E 16 (hM 2)), (a 3, aI E 16 (hM 3)), (a 4, aI E 256 (hM 4)), (a 5, aI E 128 (hM 5)), (a 6, aI E 128 (hM 6)), (a 7, aI E 128 (hM 7)), (a 8, aI E 128 (hM 8)), (a 9, oX0 a (o_10 9)), (a 10, aI E 4096 (o_10 10)), (a 11, aI E 120 (o_10 11)), (a 12, aI E 120 (o_10 12)), (a 13, oX1 a (hM 13)), (a 14, aI E 8 (hM 14)), (a 15, oX7 a (hM 15)), (a 16, aI E 11 (hM 16)), (a 17, aI E 4096 (hM 17)), (a 18, aI E 6272 (hM 18)), (a 19, aI E 98 (hM 19)), (a 21, oX6 (hM 21))]) (fun _ => rfl) (fun _ => ?_)
        cases hxt
        exact hret _ _ _ _ (DX8_of_0 51 rfl) rfl ⟨(), rfl, rfl⟩
      refine xif hxt (fun hc hxt => r.tsIn 138 (DX8_of_0 23 rfl) hc hn rfl rfl ?_) (fun _ hxt => ?_)
      · refine r.aload_n 0 (DX8_of_0 52 rfl) rfl ?_
        refine r.get (v := .ref (a 15)) kX8 f_X8_37 rfl 0 rfl rfl (DX8_of_0 53 rfl) ?_
        refine r.aload_n 0 (DX8_of_0 54 rfl) rfl ?_
        refine r.get (v := .ref (a 21)) kX8 f_X8_53 rfl 0 rfl rfl (DX8_of_0 55 rfl) ?_
        obtain ⟨o_12, ho_12, hxt⟩ := xbd hxt
        refine r.callVV 14 rfl rfl (t_X7_prepare E a (a 21) (hM 21) hM ho_12) g_X8_217 rfl (DX8_of_0 56 rfl) rfl ⟨(Nat.le_of_ble_eq_true rfl), (Nat.le_of_ble_eq_true rfl)⟩ ⟨(Nat.le_of_ble_eq_true rfl), (Nat.le_of_ble_eq_true rfl)⟩ (Nat.le_of_ble_eq_true rfl) [1, 2, 3, 4, 5, 6, 7, 8, 9, 10, 11, 12, 13, 14, 15, 16, 17, 18, 19, 20] [0] rfl rfl rfl rfl (by decide) [0, 1, 2, 3, 4, 5, 6, 7, 8, 9, 10, 11, 12, 13, 14, 15, 16, 17, 18, 19, 20] rfl (ws2 := fun _ => [(a 0, oX8 a), (a 1, oX3 a), (a 2, aI E 16 (hM 2)), (a 3, aI E 16 (hM 3)), (a 4, aI E 256 (hM 4)), (a 5, aI E 128 (hM 5)), (a 6, aI E 128 (hM 6)), (a 7, aI E 128 (hM 7)), (a 8, aI E 128 (hM 8)), (a 9, oX0 a (o_12 9)), (a 10, aI E 4096 (o_12 10)), (a 11, aI E 120 (o_12 11)), (a 12, aI E 120 (o_12 12)), (a 13, oX1 a (o_12 13)), (a 14, aI E 8 (o_12 14)), (a 15, oX7 a (o_12 15)), (a 16, aI E 11 (o_12 16)), (a 17, aI E 4096 (o_12 17)), (a 18, aI E 6272 (o_12 18)), (a 19, aI E 98 (o_12 19)), (a 21, oX6 (hM 21))]) (fun _ => rfl) (fun _ => ?_)
        refine r.aload_n 0 (DX8_of_0 57 rfl) rfl ?_
        refine r.get (v := .ref (a 15)) kX8 f_X8_37 rfl 0 rfl rfl (DX8_of_0 58 rfl) ?_
        refine r.aload_n 0 (DX8_of_0 59 rfl) rfl ?_
        refine r.get (v := .ref (a 1)) kX8 f_X8_10 rfl 0 rfl rfl (DX8_of_1 0 rfl) ?_
        refine r.iload_n 1 (DX8_of_1 1 rfl) rfl ?_
        obtain ⟨o_13, ho_13, hxt⟩ := xbd hxt
        refine r.callVI 0 rfl rfl (t_X3_keyOf E a x1 hM ho_13) g_X8_218 rfl (DX8_of_1 2 rfl) rfl ⟨(Nat.le_of_ble_eq_true rfl), (Nat.le_of_ble_eq_true rfl)⟩ ⟨(Nat.le_of_ble_eq_true rfl), (Nat.le_of_ble_eq_true rfl)⟩ (Nat.le_of_ble_eq_true rfl) [1, 5, 6] [0, 2, 3, 4, 7, 8, 9, 10, 11, 12, 13, 14, 15, 16, 17, 18, 19, 20] rfl rfl rfl rfl (by decide) [0, 18, 1, 2, 3, 19, 20, 4, 5, 6, 7, 8, 9, 10, 11, 12, 13, 14, 15, 16, 17] rfl (ws2 := fun _ => [(a 0, oX8 a), (a 1, oX3 a), (a 2, aI E 16 (hM 2)), (a 3, aI E 16 (hM 3)), (a 4, aI E 256 (hM 4)), (a 5, aI E 128 (hM 5)), (a 6, aI E 128 (hM 6)), (a 7, aI E 128 (hM 7)), (a 8, aI E 128 (hM 8)), (a 9, oX0 a (o_12 9)), (a 10, aI E 4096 (o_12 10)), (a 11, aI E 120 (o_12 11)), (a 12, aI E 120 (o_12 12)), (a 13, oX1 a (o_12 13)), (a 14, aI E 8 (o_12 14)), (a 15, oX7 a (o_12 15)), (a 16, aI E 11 (o_12 16)), (a 17, aI E 4096 (o_12 17)), (a 18, aI E 6272 (o_12 18)), (a 19, aI E 98 (o_12 19)), (a 21, oX6 (hM 21))]) (fun _ => rfl) (fun _ => ?_)
        obtain ⟨o_14, ho_14, hxt⟩ := xbd hxt
        refine r.callVI 0 rfl rfl (t_X7_told E a o_13 (mgs hM [15, 19] o_12) ho_14) g_X8_221 rfl (DX8_of_1 3 rfl) rfl ⟨(Nat.le_of_ble_eq_true rfl), (Nat.le_of_ble_eq_true rfl)⟩ ⟨(Nat.le_of_ble_eq_true rfl), (Nat.le_of_ble_eq_true rfl)⟩ (Nat.le_of_ble_eq_true rfl) [15, 19] [0, 1, 2, 3, 4, 5, 6, 7, 8, 9, 10, 11, 12, 13, 14, 16, 17, 18, 20] rfl rfl rfl rfl (by decide) [0, 1, 2, 3, 4, 5, 6, 7, 8, 9, 10, 11, 12, 13, 14, 19, 15, 16, 17, 20, 18] rfl (ws2 := fun _ => [(a 0, oX8 a), (a 1, oX3 a), (a 2, aI E 16 (hM 2)), (a 3, aI E 16 (hM 3)), (a 4, aI E 256 (hM 4)), (a 5, aI E 128 (hM 5)), (a 6, aI E 128 (hM 6)), (a 7, aI E 128 (hM 7)), (a 8, aI E 128 (hM 8)), (a 9, oX0 a (o_12 9)), (a 10, aI E 4096 (o_12 10)), (a 11, aI E 120 (o_12 11)), (a 12, aI E 120 (o_12 12)), (a 13, oX1 a (o_12 13)), (a 14, aI E 8 (o_12 14)), (a 15, oX7 a (o_12 15)), (a 16, aI E 11 (o_12 16)), (a 17, aI E 4096 (o_12 17)), (a 18, aI E 6272 (o_12 18)), (a 19, aI E 98 (o_12 19)), (a 21, oX6 (hM 21))]) (fun _ => rfl) (fun _ => ?_)
        cases hxt
        exact hret _ _ _ _ (DX8_of_1 4 rfl) rfl ⟨(), rfl, rfl⟩
      cases hxt
    refine r.iconst (v := (-1 : Int32)) (DX8_of_0 20 rfl) rfl ?_
    cases hxt
    exact hret _ _ _ _ (DX8_of_0 21 rfl) rfl ⟨(), rfl, rfl⟩
  refine r.bipush (v := (-2 : Int32)) (DX8_of_0 10 rfl) rfl ?_
  cases hxt
  exact hret _ _ _ _ (DX8_of_0 11 rfl) rfl ⟨(), rfl, rfl⟩
set_option maxRecDepth 100000 in
set_option maxHeartbeats 4000000 in
theorem l_X8_line_27 (E : xE) (a : Nat → Nat) (x1 : Int32) (hM : Mem) {V : xVT} (r : Rl E RX8 cX8_line (xR 6 0 0) 4 false V) {o : Int32 × Mem} (hret : RtI cX8_line V .int 0 0 (fun v ws => ∃ u : Unit, v = o.1 ∧ ws = [(a 0, oX8 a), (a 1, oX3 a), (a 2, aI E 16 (hM 2)), (a 3, aI E 16 (hM 3)), (a 4, aI E 256 (hM 4)), (a 5, aI E 128 (hM 5)), (a 6, aI E 128 (hM 6)), (a 7, aI E 128 (hM 7)), (a 9, oX0 a (o.2 9)), (a 10, aI E 4096 (o.2 10)), (a 11, aI E 120 (o.2 11)), (a 12, aI E 120 (o.2 12)), (a 20, oX2 a), (a 21, oX6 (hM 21)), (a 22, oX6 (o.2 22))])) {k : Mem → Option (Int32 × Mem)} (hk : ∀ (mM : Mem), k mM = some o → V 0 0 78 [(0, .ref (a 0))] [] [(a 0, oX8 a), (a 1, oX3 a), (a 2, aI E 16 (hM 2)), (a 3, aI E 16 (hM 3)), (a 4, aI E 256 (hM 4)), (a 5, aI E 128 (hM 5)), (a 6, aI E 128 (hM 6)), (a 7, aI E 128 (hM 7)), (a 9, oX0 a (mM 9)), (a 10, aI E 4096 (mM 10)), (a 11, aI E 120 (mM 11)), (a 12, aI E 120 (mM 12)), (a 20, oX2 a), (a 21, oX6 (hM 21)), (a 22, oX6 (mM 22))]) : ∀ (n : Nat) (v2 : Int32) (mM : Mem), xt_X8_line_l27 x1 hM k n v2 mM = some o → V 0 0 27 [(0, .ref (a 0)), (1, .int x1), (2, .int v2)] [] [(a 0, oX8 a), (a 1, oX3 a), (a 2, aI E 16 (hM 2)), (a 3, aI E 16 (hM 3)), (a 4, aI E 256 (hM 4)), (a 5, aI E 128 (hM 5)), (a 6, aI E 128 (hM 6)), (a 7, aI E 128 (hM 7)), (a 9, oX0 a (mM 9)), (a 10, aI E 4096 (mM 10)), (a 11, aI E 120 (mM 11)), (a 12, aI E 120 (mM 12)), (a 20, oX2 a), (a 21, oX6 (hM 21)), (a 22, oX6 (mM 22))] := by
  intro n
  induction n with
  | zero => intro v2 mM hxt; exact xno hxt
  | succ n ih =>
    intro v2 mM hxt
    rw [xt_X8_line_l27] at hxt
    refine r.iload_n 2 (DX8_line 15 rfl) rfl ?_
    refine r.iload_n 1 (DX8_line 16 rfl) rfl ?_
    refine r.icmp_ge 78 (DX8_line 17 rfl) rfl hxt (fun _ hxt => ?_) (fun _ hxt => ?_)
    · refine r.rel (lo' := [(0, .ref (a 0))]) [0] rfl ?_
      exact hk (mgs hM [9, 10, 11, 12, 22] mM) hxt
    refine r.aload_n 0 (DX8_line 18 rfl) rfl ?_
    refine r.get (v := .ref (a 20)) kX8 f_X8_46 rfl 0 rfl rfl (DX8_line 19 rfl) ?_
    refine r.aload_n 0 (DX8_line 20 rfl) rfl ?_
    refine r.get (v := .ref (a 22)) kX8 f_X8_57 rfl 0 rfl rfl (DX8_line 21 rfl) ?_
    obtain ⟨o_2, ho_2, hxt⟩ := xbd hxt
    refine r.callVI 11 rfl rfl (t_X2_bestMove E a (a 22) (mM 22) (mgs hM [9, 10, 11, 12] mM) ho_2) g_X8_130 rfl (DX8_line 22 rfl) rfl ⟨(Nat.le_of_ble_eq_true rfl), (Nat.le_of_ble_eq_true rfl)⟩ ⟨(Nat.le_of_ble_eq_true rfl), (Nat.le_of_ble_eq_true rfl)⟩ (Nat.le_of_ble_eq_true rfl) [1, 2, 3, 4, 5, 6, 7, 8, 9, 10, 11, 12, 14] [0, 13] rfl rfl rfl rfl (by decide) [0, 2, 3, 4, 5, 6, 7, 8, 9, 10, 11, 12, 13, 1, 14] rfl (ws2 := fun _ => [(a 0, oX8 a), (a 1, oX3 a), (a 2, aI E 16 (hM 2)), (a 3, aI E 16 (hM 3)), (a 4, aI E 256 (hM 4)), (a 5, aI E 128 (hM 5)), (a 6, aI E 128 (hM 6)), (a 7, aI E 128 (hM 7)), (a 9, oX0 a (o_2.2 9)), (a 10, aI E 4096 (o_2.2 10)), (a 11, aI E 120 (o_2.2 11)), (a 12, aI E 120 (o_2.2 12)), (a 20, oX2 a), (a 21, oX6 (hM 21)), (a 22, oX6 (mM 22))]) (fun _ => rfl) (fun _ => ?_)
    refine r.istore_n (lo' := [(3, .int o_2.1), (0, .ref (a 0)), (1, .int x1), (2, .int v2)]) (DX8_line 23 rfl) (Nat.le_of_ble_eq_true rfl) rfl ?_
    refine r.iload_n 0 (DX8_line 24 rfl) rfl ?_
    refine r.bipush (v := (-6 : Int32)) (DX8_line 25 rfl) rfl ?_
    refine r.icmp_ne 53 (DX8_line 26 rfl) rfl hxt (fun _ hxt => ?_) (fun _ hxt => ?_)
    · refine r.aload_n 1 (DX8_line 29 rfl) rfl ?_
      refine r.get (v := .ref (a 20)) kX8 f_X8_46 rfl 0 rfl rfl (DX8_line 30 rfl) ?_
      refine r.aload_n 1 (DX8_line 31 rfl) rfl ?_
      refine r.get (v := .ref (a 22)) kX8 f_X8_57 rfl 0 rfl rfl (DX8_line 32 rfl) ?_
      refine r.iload_n 0 (DX8_line 33 rfl) rfl ?_
      obtain ⟨o_3, ho_3, hxt⟩ := xbd hxt
      refine r.callSI0 (t_X2_fromOf E o_2.1 ho_3) g_X8_134 rfl (DX8_line 34 rfl) rfl ⟨(Nat.le_of_ble_eq_true rfl), (Nat.le_of_ble_eq_true rfl)⟩ (Nat.le_of_ble_eq_true rfl) ?_
      refine r.iload_n 0 (DX8_line 35 rfl) rfl ?_
      obtain ⟨o_4, ho_4, hxt⟩ := xbd hxt
      refine r.callSI0 (t_X2_toOf E o_2.1 ho_4) g_X8_137 rfl (DX8_line 36 rfl) rfl ⟨(Nat.le_of_ble_eq_true rfl), (Nat.le_of_ble_eq_true rfl)⟩ (Nat.le_of_ble_eq_true rfl) ?_
      obtain ⟨o_5, ho_5, hxt⟩ := xbd hxt
      refine r.callVV 0 rfl rfl (t_X2_make E a (a 22) o_3 o_4 (mM 22) ho_5) g_X8_233 rfl (DX8_line 37 rfl) rfl ⟨(Nat.le_of_ble_eq_true rfl), (Nat.le_of_ble_eq_true rfl)⟩ ⟨(Nat.le_of_ble_eq_true rfl), (Nat.le_of_ble_eq_true rfl)⟩ (Nat.le_of_ble_eq_true rfl) [12, 14] [0, 1, 2, 3, 4, 5, 6, 7, 8, 9, 10, 11, 13] rfl rfl rfl rfl (by decide) [0, 1, 2, 3, 4, 5, 6, 7, 8, 9, 10, 11, 13, 12, 14] rfl (ws2 := fun _ => [(a 0, oX8 a), (a 1, oX3 a), (a 2, aI E 16 (hM 2)), (a 3, aI E 16 (hM 3)), (a 4, aI E 256 (hM 4)), (a 5, aI E 128 (hM 5)), (a 6, aI E 128 (hM 6)), (a 7, aI E 128 (hM 7)), (a 9, oX0 a (o_2.2 9)), (a 10, aI E 4096 (o_2.2 10)), (a 11, aI E 120 (o_2.2 11)), (a 12, aI E 120 (o_2.2 12)), (a 20, oX2 a), (a 21, oX6 (hM 21)), (a 22, oX6 o_5)]) (fun _ => rfl) (fun _ => ?_)
      refine r.iinc (v := (v2 + (1 : Int32))) (lo' := [(2, .int (v2 + (1 : Int32))), (3, .int o_2.1), (0, .ref (a 0)), (1, .int x1)]) 3 (DX8_line 38 rfl) rfl rfl (Nat.le_of_ble_eq_true rfl) rfl ?_
      refine r.goto 27 (DX8_line 39 rfl) rfl ?_
      refine r.rel (lo' := [(0, .ref (a 0)), (1, .int x1), (2, .int (v2 + (1 : Int32)))]) [2, 3, 0] rfl ?_
      exact ih (v2 + (1 : Int32)) (mgs (mset hM 22 o_5) [9, 10, 11, 12] o_2.2) hxt
    refine r.bipush (v := (-6 : Int32)) (DX8_line 27 rfl) rfl ?_
    cases hxt
    exact hret _ _ _ _ (DX8_line 28 rfl) rfl ⟨(), rfl, rfl⟩
set_option maxRecDepth 100000 in
set_option maxHeartbeats 4000000 in
theorem t_X8_line (E : xE) (a : Nat → Nat) (x1 : Int32) (hM : Mem) {o : Int32 × Mem} (hxt : xt_X8_line x1 hM = some o) : xMI (S := Unit) E yX8_line cX8_line 4 .int 6 0 0 [.ref (a 0), .int x1] [(a 0, oX8 a), (a 1, oX3 a), (a 2, aI E 16 (hM 2)), (a 3, aI E 16 (hM 3)), (a 4, aI E 256 (hM 4)), (a 5, aI E 128 (hM 5)), (a 6, aI E 128 (hM 6)), (a 7, aI E 128 (hM 7)), (a 9, oX0 a (hM 9)), (a 10, aI E 4096 (hM 10)), (a 11, aI E 120 (hM 11)), (a 12, aI E 120 (hM 12)), (a 20, oX2 a), (a 21, oX6 (hM 21)), (a 22, oX6 (hM 22))] (fun _ => o.1) (fun _ => [(a 0, oX8 a), (a 1, oX3 a), (a 2, aI E 16 (hM 2)), (a 3, aI E 16 (hM 3)), (a 4, aI E 256 (hM 4)), (a 5, aI E 128 (hM 5)), (a 6, aI E 128 (hM 6)), (a 7, aI E 128 (hM 7)), (a 9, oX0 a (o.2 9)), (a 10, aI E 4096 (o.2 10)), (a 11, aI E 120 (o.2 11)), (a 12, aI E 120 (o.2 12)), (a 20, oX2 a), (a 21, oX6 (hM 21)), (a 22, oX6 (o.2 22))]) := by
  refine xMI.of (own := RX8) (lo0 := [(0, .ref (a 0)), (1, .int x1)]) (by decide +kernel) rfl rfl (Nat.le_of_ble_eq_true rfl) (fun V r hret => ?_)
  unfold xt_X8_line at hxt
  refine r.iload_n 1 (DX8_line 0 rfl) rfl ?_
  refine r.iconst (v := (1 : Int32)) (DX8_line 1 rfl) rfl ?_
  refine r.icmp_lt 11 (DX8_line 2 rfl) rfl hxt (fun _ hxt => ?_) (fun _ hxt => ?_)
  · refine r.bipush (v := (-2 : Int32)) (DX8_line 6 rfl) rfl ?_
    cases hxt
    exact hret _ _ _ _ (DX8_line 7 rfl) rfl ⟨(), rfl, rfl⟩
  refine r.iload_n 1 (DX8_line 3 rfl) rfl ?_
  refine r.bipush (v := (60 : Int32)) (DX8_line 4 rfl) rfl ?_
  refine r.icmp_le 14 (DX8_line 5 rfl) rfl hxt (fun _ hxt => ?_) (fun _ hxt => ?_)
  · refine r.aload_n 0 (DX8_line 8 rfl) rfl ?_
    refine r.get (v := .ref (a 22)) kX8 f_X8_57 rfl 0 rfl rfl (DX8_line 9 rfl) ?_
    refine r.aload_n 0 (DX8_line 10 rfl) rfl ?_
    refine r.get (v := .ref (a 21)) kX8 f_X8_53 rfl 0 rfl rfl (DX8_line 11 rfl) ?_
    obtain ⟨o_1, ho_1, hxt⟩ := xbd hxt
    refine r.callVV 0 rfl rfl (t_X6_take E a (a 22) (a 21) (hM 22) (hM 21) ho_1) g_X8_230 rfl (DX8_line 12 rfl) rfl ⟨(Nat.le_of_ble_eq_true rfl), (Nat.le_of_ble_eq_true rfl)⟩ ⟨(Nat.le_of_ble_eq_true rfl), (Nat.le_of_ble_eq_true rfl)⟩ (Nat.le_of_ble_eq_true rfl) [14, 13] [0, 1, 2, 3, 4, 5, 6, 7, 8, 9, 10, 11, 12] rfl rfl rfl rfl (by decide) [0, 1, 2, 3, 4, 5, 6, 7, 8, 9, 10, 11, 12, 14, 13] rfl (ws2 := fun _ => [(a 0, oX8 a), (a 1, oX3 a), (a 2, aI E 16 (hM 2)), (a 3, aI E 16 (hM 3)), (a 4, aI E 256 (hM 4)), (a 5, aI E 128 (hM 5)), (a 6, aI E 128 (hM 6)), (a 7, aI E 128 (hM 7)), (a 9, oX0 a (hM 9)), (a 10, aI E 4096 (hM 10)), (a 11, aI E 120 (hM 11)), (a 12, aI E 120 (hM 12)), (a 20, oX2 a), (a 21, oX6 (hM 21)), (a 22, oX6 o_1)]) (fun _ => rfl) (fun _ => ?_)
    refine r.iconst (v := (0 : Int32)) (DX8_line 13 rfl) rfl ?_
    refine r.istore_n (lo' := [(2, .int (0 : Int32)), (0, .ref (a 0)), (1, .int x1)]) (DX8_line 14 rfl) (Nat.le_of_ble_eq_true rfl) rfl ?_
    refine r.rel (lo' := [(0, .ref (a 0)), (1, .int x1), (2, .int (0 : Int32))]) [1, 2, 0] rfl ?_
    refine l_X8_line_27 E a x1 (mset hM 22 o_1) r hret (fun m_6 hxt => ?_) 10000 (0 : Int32) (mset hM 22 o_1) hxt
    refine r.aload_n 0 (DX8_line 40 rfl) rfl ?_
    refine r.get (v := .ref (a 20)) kX8 f_X8_46 rfl 0 rfl rfl (DX8_line 41 rfl) ?_
    refine r.aload_n 0 (DX8_line 42 rfl) rfl ?_
    refine r.get (v := .ref (a 22)) kX8 f_X8_57 rfl 0 rfl rfl (DX8_line 43 rfl) ?_
    obtain ⟨o_7, ho_7, hxt⟩ := xbd hxt
    refine r.callVI 3 rfl rfl (t_X2_caught E a (a 22) (m_6 22) hM ho_7) g_X8_172 rfl (DX8_line 44 rfl) rfl ⟨(Nat.le_of_ble_eq_true rfl), (Nat.le_of_ble_eq_true rfl)⟩ ⟨(Nat.le_of_ble_eq_true rfl), (Nat.le_of_ble_eq_true rfl)⟩ (Nat.le_of_ble_eq_true rfl) [1, 2, 3, 12, 14] [0, 4, 5, 6, 7, 8, 9, 10, 11, 13] rfl rfl rfl rfl (by decide) [0, 10, 11, 12, 1, 2, 3, 4, 5, 6, 7, 8, 13, 9, 14] rfl (ws2 := fun _ => [(a 0, oX8 a), (a 1, oX3 a), (a 2, aI E 16 (hM 2)), (a 3, aI E 16 (hM 3)), (a 4, aI E 256 (hM 4)), (a 5, aI E 128 (hM 5)), (a 6, aI E 128 (hM 6)), (a 7, aI E 128 (hM 7)), (a 9, oX0 a (m_6 9)), (a 10, aI E 4096 (m_6 10)), (a 11, aI E 120 (m_6 11)), (a 12, aI E 120 (m_6 12)), (a 20, oX2 a), (a 21, oX6 (hM 21)), (a 22, oX6 (m_6 22))]) (fun _ => rfl) (fun _ => ?_)
    refine r.if_eq 97 (DX8_line 45 rfl) rfl hxt (fun _ hxt => ?_) (fun _ hxt => ?_)
    · refine r.aload_n 0 (DX8_line 48 rfl) rfl ?_
      refine r.aload_n 0 (DX8_line 49 rfl) rfl ?_
      refine r.get (v := .ref (a 22)) kX8 f_X8_57 rfl 0 rfl rfl (DX8_line 50 rfl) ?_
      obtain ⟨o_8, ho_8, hxt⟩ := xbd hxt
      refine r.callVI 0 rfl rfl (t_X8_numberNow E a (a 22) (m_6 22) hM ho_8) g_X8_179 rfl (DX8_line 51 rfl) rfl ⟨(Nat.le_of_ble_eq_true rfl), (Nat.le_of_ble_eq_true rfl)⟩ ⟨(Nat.le_of_ble_eq_true rfl), (Nat.le_of_ble_eq_true rfl)⟩ (Nat.le_of_ble_eq_true rfl) [0, 1, 4, 14] [2, 3, 5, 6, 7, 8, 9, 10, 11, 12, 13] rfl rfl rfl rfl (by decide) [11, 12, 0, 1, 13, 2, 3, 4, 5, 6, 7, 8, 9, 10, 14] rfl (ws2 := fun _ => [(a 0, oX8 a), (a 1, oX3 a), (a 2, aI E 16 (hM 2)), (a 3, aI E 16 (hM 3)), (a 4, aI E 256 (hM 4)), (a 5, aI E 128 (hM 5)), (a 6, aI E 128 (hM 6)), (a 7, aI E 128 (hM 7)), (a 9, oX0 a (m_6 9)), (a 10, aI E 4096 (m_6 10)), (a 11, aI E 120 (m_6 11)), (a 12, aI E 120 (m_6 12)), (a 20, oX2 a), (a 21, oX6 (hM 21)), (a 22, oX6 (m_6 22))]) (fun _ => rfl) (fun _ => ?_)
      cases hxt
      exact hret _ _ _ _ (DX8_line 52 rfl) rfl ⟨(), rfl, rfl⟩
    refine r.bipush (v := (-6 : Int32)) (DX8_line 46 rfl) rfl ?_
    refine r.goto 105 (DX8_line 47 rfl) rfl ?_
    cases hxt
    exact hret _ _ _ _ (DX8_line 52 rfl) rfl ⟨(), rfl, rfl⟩
  refine r.bipush (v := (-2 : Int32)) (DX8_line 6 rfl) rfl ?_
  cases hxt
  exact hret _ _ _ _ (DX8_line 7 rfl) rfl ⟨(), rfl, rfl⟩
set_option maxRecDepth 100000 in
set_option maxHeartbeats 4000000 in
theorem t_X8_all (E : xE) (a : Nat → Nat) (x1 : Int32) (hM : Mem) {o : Int32 × Mem} (hxt : xt_X8_all x1 hM = some o) : xMI (S := Unit) E yX8_all cX8_all 2 .int 6 0 0 [.ref (a 0), .int x1] [(a 0, oX8 a), (a 1, oX3 a), (a 2, aI E 16 (hM 2)), (a 3, aI E 16 (hM 3)), (a 4, aI E 256 (hM 4)), (a 5, aI E 128 (hM 5)), (a 6, aI E 128 (hM 6)), (a 7, aI E 128 (hM 7)), (a 8, aI E 128 (hM 8)), (a 9, oX0 a (hM 9)), (a 10, aI E 4096 (hM 10)), (a 11, aI E 120 (hM 11)), (a 12, aI E 120 (hM 12)), (a 13, oX1 a (hM 13)), (a 14, aI E 8 (hM 14)), (a 15, oX7 a (hM 15)), (a 16, aI E 11 (hM 16)), (a 17, aI E 4096 (hM 17)), (a 18, aI E 6272 (hM 18)), (a 19, aI E 98 (hM 19)), (a 21, oX6 (hM 21))] (fun _ => o.1) (fun _ => [(a 0, oX8 a), (a 1, oX3 a), (a 2, aI E 16 (hM 2)), (a 3, aI E 16 (hM 3)), (a 4, aI E 256 (hM 4)), (a 5, aI E 128 (hM 5)), (a 6, aI E 128 (hM 6)), (a 7, aI E 128 (hM 7)), (a 8, aI E 128 (hM 8)), (a 9, oX0 a (o.2 9)), (a 10, aI E 4096 (o.2 10)), (a 11, aI E 120 (o.2 11)), (a 12, aI E 120 (o.2 12)), (a 13, oX1 a (o.2 13)), (a 14, aI E 8 (o.2 14)), (a 15, oX7 a (o.2 15)), (a 16, aI E 11 (o.2 16)), (a 17, aI E 4096 (o.2 17)), (a 18, aI E 6272 (o.2 18)), (a 19, aI E 98 (o.2 19)), (a 21, oX6 (hM 21))]) := by
  refine xMI.of (own := RX8) (lo0 := [(0, .ref (a 0)), (1, .int x1)]) (by decide +kernel) rfl rfl (Nat.le_of_ble_eq_true rfl) (fun V r hret => ?_)
  unfold xt_X8_all at hxt
  refine r.iload_n 1 (DX8_all 0 rfl) rfl ?_
  refine r.if_lt 10 (DX8_all 1 rfl) rfl hxt (fun _ hxt => ?_) (fun _ hxt => ?_)
  · refine r.bipush (v := (-2 : Int32)) (DX8_all 5 rfl) rfl ?_
    cases hxt
    exact hret _ _ _ _ (DX8_all 6 rfl) rfl ⟨(), rfl, rfl⟩
  refine r.iload_n 1 (DX8_all 2 rfl) rfl ?_
  refine r.bipush (v := (11 : Int32)) (DX8_all 3 rfl) rfl ?_
  refine r.icmp_lt 13 (DX8_all 4 rfl) rfl hxt (fun _ hxt => ?_) (fun _ hxt => ?_)
  · refine r.aload_n 0 (DX8_all 7 rfl) rfl ?_
    refine r.get (v := .ref (a 15)) kX8 f_X8_37 rfl 0 rfl rfl (DX8_all 8 rfl) ?_
    refine r.aload_n 0 (DX8_all 9 rfl) rfl ?_
    refine r.get (v := .ref (a 21)) kX8 f_X8_53 rfl 0 rfl rfl (DX8_all 10 rfl) ?_
    obtain ⟨o_1, ho_1, hxt⟩ := xbd hxt
    refine r.callVV 14 rfl rfl (t_X7_prepare E a (a 21) (hM 21) hM ho_1) g_X8_217 rfl (DX8_all 11 rfl) rfl ⟨(Nat.le_of_ble_eq_true rfl), (Nat.le_of_ble_eq_true rfl)⟩ ⟨(Nat.le_of_ble_eq_true rfl), (Nat.le_of_ble_eq_true rfl)⟩ (Nat.le_of_ble_eq_true rfl) [1, 2, 3, 4, 5, 6, 7, 8, 9, 10, 11, 12, 13, 14, 15, 16, 17, 18, 19, 20] [0] rfl rfl rfl rfl (by decide) [0, 1, 2, 3, 4, 5, 6, 7, 8, 9, 10, 11, 12, 13, 14, 15, 16, 17, 18, 19, 20] rfl (ws2 := fun _ => [(a 0, oX8 a), (a 1, oX3 a), (a 2, aI E 16 (hM 2)), (a 3, aI E 16 (hM 3)), (a 4, aI E 256 (hM 4)), (a 5, aI E 128 (hM 5)), (a 6, aI E 128 (hM 6)), (a 7, aI E 128 (hM 7)), (a 8, aI E 128 (hM 8)), (a 9, oX0 a (o_1 9)), (a 10, aI E 4096 (o_1 10)), (a 11, aI E 120 (o_1 11)), (a 12, aI E 120 (o_1 12)), (a 13, oX1 a (o_1 13)), (a 14, aI E 8 (o_1 14)), (a 15, oX7 a (o_1 15)), (a 16, aI E 11 (o_1 16)), (a 17, aI E 4096 (o_1 17)), (a 18, aI E 6272 (o_1 18)), (a 19, aI E 98 (o_1 19)), (a 21, oX6 (hM 21))]) (fun _ => rfl) (fun _ => ?_)
    refine r.aload_n 0 (DX8_all 12 rfl) rfl ?_
    refine r.get (v := .ref (a 15)) kX8 f_X8_37 rfl 0 rfl rfl (DX8_all 13 rfl) ?_
    refine r.iload_n 1 (DX8_all 14 rfl) rfl ?_
    obtain ⟨o_2, ho_2, hxt⟩ := xbd hxt
    refine r.callVI 0 rfl rfl (t_X7_total E a x1 (mgs hM [15, 16] o_1) ho_2) g_X8_237 rfl (DX8_all 15 rfl) rfl ⟨(Nat.le_of_ble_eq_true rfl), (Nat.le_of_ble_eq_true rfl)⟩ ⟨(Nat.le_of_ble_eq_true rfl), (Nat.le_of_ble_eq_true rfl)⟩ (Nat.le_of_ble_eq_true rfl) [15, 16] [0, 1, 2, 3, 4, 5, 6, 7, 8, 9, 10, 11, 12, 13, 14, 17, 18, 19, 20] rfl rfl rfl rfl (by decide) [0, 1, 2, 3, 4, 5, 6, 7, 8, 9, 10, 11, 12, 13, 14, 19, 20, 15, 16, 17, 18] rfl (ws2 := fun _ => [(a 0, oX8 a), (a 1, oX3 a), (a 2, aI E 16 (hM 2)), (a 3, aI E 16 (hM 3)), (a 4, aI E 256 (hM 4)), (a 5, aI E 128 (hM 5)), (a 6, aI E 128 (hM 6)), (a 7, aI E 128 (hM 7)), (a 8, aI E 128 (hM 8)), (a 9, oX0 a (o_1 9)), (a 10, aI E 4096 (o_1 10)), (a 11, aI E 120 (o_1 11)), (a 12, aI E 120 (o_1 12)), (a 13, oX1 a (o_1 13)), (a 14, aI E 8 (o_1 14)), (a 15, oX7 a (o_1 15)), (a 16, aI E 11 (o_1 16)), (a 17, aI E 4096 (o_1 17)), (a 18, aI E 6272 (o_1 18)), (a 19, aI E 98 (o_1 19)), (a 21, oX6 (hM 21))]) (fun _ => rfl) (fun _ => ?_)
    cases hxt
    exact hret _ _ _ _ (DX8_all 16 rfl) rfl ⟨(), rfl, rfl⟩
  refine r.bipush (v := (-2 : Int32)) (DX8_all 5 rfl) rfl ?_
  cases hxt
  exact hret _ _ _ _ (DX8_all 6 rfl) rfl ⟨(), rfl, rfl⟩
set_option maxRecDepth 100000 in
set_option maxHeartbeats 4000000 in
theorem t_X8_withDistance (E : xE) (a : Nat → Nat) (x1 : Int32) (hM : Mem) {o : Int32 × Mem} (hxt : xt_X8_withDistance x1 hM = some o) : xMI (S := Unit) E yX8_withDistance cX8_withDistance 2 .int 6 0 0 [.ref (a 0), .int x1] [(a 0, oX8 a), (a 1, oX3 a), (a 2, aI E 16 (hM 2)), (a 3, aI E 16 (hM 3)), (a 4, aI E 256 (hM 4)), (a 5, aI E 128 (hM 5)), (a 6, aI E 128 (hM 6)), (a 7, aI E 128 (hM 7)), (a 8, aI E 128 (hM 8)), (a 9, oX0 a (hM 9)), (a 10, aI E 4096 (hM 10)), (a 11, aI E 120 (hM 11)), (a 12, aI E 120 (hM 12)), (a 13, oX1 a (hM 13)), (a 14, aI E 8 (hM 14)), (a 15, oX7 a (hM 15)), (a 16, aI E 11 (hM 16)), (a 17, aI E 4096 (hM 17)), (a 18, aI E 6272 (hM 18)), (a 19, aI E 98 (hM 19)), (a 21, oX6 (hM 21))] (fun _ => o.1) (fun _ => [(a 0, oX8 a), (a 1, oX3 a), (a 2, aI E 16 (hM 2)), (a 3, aI E 16 (hM 3)), (a 4, aI E 256 (hM 4)), (a 5, aI E 128 (hM 5)), (a 6, aI E 128 (hM 6)), (a 7, aI E 128 (hM 7)), (a 8, aI E 128 (hM 8)), (a 9, oX0 a (o.2 9)), (a 10, aI E 4096 (o.2 10)), (a 11, aI E 120 (o.2 11)), (a 12, aI E 120 (o.2 12)), (a 13, oX1 a (o.2 13)), (a 14, aI E 8 (o.2 14)), (a 15, oX7 a (o.2 15)), (a 16, aI E 11 (o.2 16)), (a 17, aI E 4096 (o.2 17)), (a 18, aI E 6272 (o.2 18)), (a 19, aI E 98 (o.2 19)), (a 21, oX6 (hM 21))]) := by
  refine xMI.of (own := RX8) (lo0 := [(0, .ref (a 0)), (1, .int x1)]) (by decide +kernel) rfl rfl (Nat.le_of_ble_eq_true rfl) (fun V r hret => ?_)
  unfold xt_X8_withDistance at hxt
  refine r.iload_n 1 (DX8_withDistance 0 rfl) rfl ?_
  refine r.bipush (v := (-6 : Int32)) (DX8_withDistance 1 rfl) rfl ?_
  refine r.icmp_eq 20 (DX8_withDistance 2 rfl) rfl hxt (fun _ hxt => ?_) (fun _ hxt => ?_)
  · refine r.aload_n 0 (DX8_withDistance 10 rfl) rfl ?_
    refine r.get (v := .ref (a 15)) kX8 f_X8_37 rfl 0 rfl rfl (DX8_withDistance 11 rfl) ?_
    refine r.aload_n 0 (DX8_withDistance 12 rfl) rfl ?_
    refine r.get (v := .ref (a 21)) kX8 f_X8_53 rfl 0 rfl rfl (DX8_withDistance 13 rfl) ?_
    obtain ⟨o_1, ho_1, hxt⟩ := xbd hxt
    refine r.callVV 14 rfl rfl (t_X7_prepare E a (a 21) (hM 21) hM ho_1) g_X8_217 rfl (DX8_withDistance 14 rfl) rfl ⟨(Nat.le_of_ble_eq_true rfl), (Nat.le_of_ble_eq_true rfl)⟩ ⟨(Nat.le_of_ble_eq_true rfl), (Nat.le_of_ble_eq_true rfl)⟩ (Nat.le_of_ble_eq_true rfl) [1, 2, 3, 4, 5, 6, 7, 8, 9, 10, 11, 12, 13, 14, 15, 16, 17, 18, 19, 20] [0] rfl rfl rfl rfl (by decide) [0, 1, 2, 3, 4, 5, 6, 7, 8, 9, 10, 11, 12, 13, 14, 15, 16, 17, 18, 19, 20] rfl (ws2 := fun _ => [(a 0, oX8 a), (a 1, oX3 a), (a 2, aI E 16 (hM 2)), (a 3, aI E 16 (hM 3)), (a 4, aI E 256 (hM 4)), (a 5, aI E 128 (hM 5)), (a 6, aI E 128 (hM 6)), (a 7, aI E 128 (hM 7)), (a 8, aI E 128 (hM 8)), (a 9, oX0 a (o_1 9)), (a 10, aI E 4096 (o_1 10)), (a 11, aI E 120 (o_1 11)), (a 12, aI E 120 (o_1 12)), (a 13, oX1 a (o_1 13)), (a 14, aI E 8 (o_1 14)), (a 15, oX7 a (o_1 15)), (a 16, aI E 11 (o_1 16)), (a 17, aI E 4096 (o_1 17)), (a 18, aI E 6272 (o_1 18)), (a 19, aI E 98 (o_1 19)), (a 21, oX6 (hM 21))]) (fun _ => rfl) (fun _ => ?_)
    refine r.aload_n 0 (DX8_withDistance 15 rfl) rfl ?_
    refine r.get (v := .ref (a 15)) kX8 f_X8_37 rfl 0 rfl rfl (DX8_withDistance 16 rfl) ?_
    refine r.iload_n 1 (DX8_withDistance 17 rfl) rfl ?_
    obtain ⟨o_2, ho_2, hxt⟩ := xbd hxt
    refine r.callVI 0 rfl rfl (t_X7_countWith E a x1 (mgs hM [15, 18] o_1) ho_2) g_X8_240 rfl (DX8_withDistance 18 rfl) rfl ⟨(Nat.le_of_ble_eq_true rfl), (Nat.le_of_ble_eq_true rfl)⟩ ⟨(Nat.le_of_ble_eq_true rfl), (Nat.le_of_ble_eq_true rfl)⟩ (Nat.le_of_ble_eq_true rfl) [15, 18] [0, 1, 2, 3, 4, 5, 6, 7, 8, 9, 10, 11, 12, 13, 14, 16, 17, 19, 20] rfl rfl rfl rfl (by decide) [0, 1, 2, 3, 4, 5, 6, 7, 8, 9, 10, 11, 12, 13, 14, 19, 15, 16, 20, 17, 18] rfl (ws2 := fun _ => [(a 0, oX8 a), (a 1, oX3 a), (a 2, aI E 16 (hM 2)), (a 3, aI E 16 (hM 3)), (a 4, aI E 256 (hM 4)), (a 5, aI E 128 (hM 5)), (a 6, aI E 128 (hM 6)), (a 7, aI E 128 (hM 7)), (a 8, aI E 128 (hM 8)), (a 9, oX0 a (o_1 9)), (a 10, aI E 4096 (o_1 10)), (a 11, aI E 120 (o_1 11)), (a 12, aI E 120 (o_1 12)), (a 13, oX1 a (o_1 13)), (a 14, aI E 8 (o_1 14)), (a 15, oX7 a (o_1 15)), (a 16, aI E 11 (o_1 16)), (a 17, aI E 4096 (o_1 17)), (a 18, aI E 6272 (o_1 18)), (a 19, aI E 98 (o_1 19)), (a 21, oX6 (hM 21))]) (fun _ => rfl) (fun _ => ?_)
    cases hxt
    exact hret _ _ _ _ (DX8_withDistance 19 rfl) rfl ⟨(), rfl, rfl⟩
  refine r.iload_n 1 (DX8_withDistance 3 rfl) rfl ?_
  refine r.if_lt 17 (DX8_withDistance 4 rfl) rfl hxt (fun _ hxt => ?_) (fun _ hxt => ?_)
  · refine r.bipush (v := (-2 : Int32)) (DX8_withDistance 8 rfl) rfl ?_
    cases hxt
    exact hret _ _ _ _ (DX8_withDistance 9 rfl) rfl ⟨(), rfl, rfl⟩
  refine r.iload_n 1 (DX8_withDistance 5 rfl) rfl ?_
  refine r.sipush (v := (200 : Int32)) (DX8_withDistance 6 rfl) rfl ?_
  refine r.icmp_le 20 (DX8_withDistance 7 rfl) rfl hxt (fun _ hxt => ?_) (fun _ hxt => ?_)
  · refine r.aload_n 0 (DX8_withDistance 10 rfl) rfl ?_
    refine r.get (v := .ref (a 15)) kX8 f_X8_37 rfl 0 rfl rfl (DX8_withDistance 11 rfl) ?_
    refine r.aload_n 0 (DX8_withDistance 12 rfl) rfl ?_
    refine r.get (v := .ref (a 21)) kX8 f_X8_53 rfl 0 rfl rfl (DX8_withDistance 13 rfl) ?_
    obtain ⟨o_3, ho_3, hxt⟩ := xbd hxt
    refine r.callVV 14 rfl rfl (t_X7_prepare E a (a 21) (hM 21) hM ho_3) g_X8_217 rfl (DX8_withDistance 14 rfl) rfl ⟨(Nat.le_of_ble_eq_true rfl), (Nat.le_of_ble_eq_true rfl)⟩ ⟨(Nat.le_of_ble_eq_true rfl), (Nat.le_of_ble_eq_true rfl)⟩ (Nat.le_of_ble_eq_true rfl) [1, 2, 3, 4, 5, 6, 7, 8, 9, 10, 11, 12, 13, 14, 15, 16, 17, 18, 19, 20] [0] rfl rfl rfl rfl (by decide) [0, 1, 2, 3, 4, 5, 6, 7, 8, 9, 10, 11, 12, 13, 14, 15, 16, 17, 18, 19, 20] rfl (ws2 := fun _ => [(a 0, oX8 a), (a 1, oX3 a), (a 2, aI E 16 (hM 2)), (a 3, aI E 16 (hM 3)), (a 4, aI E 256 (hM 4)), (a 5, aI E 128 (hM 5)), (a 6, aI E 128 (hM 6)), (a 7, aI E 128 (hM 7)), (a 8, aI E 128 (hM 8)), (a 9, oX0 a (o_3 9)), (a 10, aI E 4096 (o_3 10)), (a 11, aI E 120 (o_3 11)), (a 12, aI E 120 (o_3 12)), (a 13, oX1 a (o_3 13)), (a 14, aI E 8 (o_3 14)), (a 15, oX7 a (o_3 15)), (a 16, aI E 11 (o_3 16)), (a 17, aI E 4096 (o_3 17)), (a 18, aI E 6272 (o_3 18)), (a 19, aI E 98 (o_3 19)), (a 21, oX6 (hM 21))]) (fun _ => rfl) (fun _ => ?_)
    refine r.aload_n 0 (DX8_withDistance 15 rfl) rfl ?_
    refine r.get (v := .ref (a 15)) kX8 f_X8_37 rfl 0 rfl rfl (DX8_withDistance 16 rfl) ?_
    refine r.iload_n 1 (DX8_withDistance 17 rfl) rfl ?_
    obtain ⟨o_4, ho_4, hxt⟩ := xbd hxt
    refine r.callVI 0 rfl rfl (t_X7_countWith E a x1 (mgs hM [15, 18] o_3) ho_4) g_X8_240 rfl (DX8_withDistance 18 rfl) rfl ⟨(Nat.le_of_ble_eq_true rfl), (Nat.le_of_ble_eq_true rfl)⟩ ⟨(Nat.le_of_ble_eq_true rfl), (Nat.le_of_ble_eq_true rfl)⟩ (Nat.le_of_ble_eq_true rfl) [15, 18] [0, 1, 2, 3, 4, 5, 6, 7, 8, 9, 10, 11, 12, 13, 14, 16, 17, 19, 20] rfl rfl rfl rfl (by decide) [0, 1, 2, 3, 4, 5, 6, 7, 8, 9, 10, 11, 12, 13, 14, 19, 15, 16, 20, 17, 18] rfl (ws2 := fun _ => [(a 0, oX8 a), (a 1, oX3 a), (a 2, aI E 16 (hM 2)), (a 3, aI E 16 (hM 3)), (a 4, aI E 256 (hM 4)), (a 5, aI E 128 (hM 5)), (a 6, aI E 128 (hM 6)), (a 7, aI E 128 (hM 7)), (a 8, aI E 128 (hM 8)), (a 9, oX0 a (o_3 9)), (a 10, aI E 4096 (o_3 10)), (a 11, aI E 120 (o_3 11)), (a 12, aI E 120 (o_3 12)), (a 13, oX1 a (o_3 13)), (a 14, aI E 8 (o_3 14)), (a 15, oX7 a (o_3 15)), (a 16, aI E 11 (o_3 16)), (a 17, aI E 4096 (o_3 17)), (a 18, aI E 6272 (o_3 18)), (a 19, aI E 98 (o_3 19)), (a 21, oX6 (hM 21))]) (fun _ => rfl) (fun _ => ?_)
    cases hxt
    exact hret _ _ _ _ (DX8_withDistance 19 rfl) rfl ⟨(), rfl, rfl⟩
  refine r.bipush (v := (-2 : Int32)) (DX8_withDistance 8 rfl) rfl ?_
  cases hxt
  exact hret _ _ _ _ (DX8_withDistance 9 rfl) rfl ⟨(), rfl, rfl⟩
set_option maxRecDepth 100000 in
set_option maxHeartbeats 4000000 in
theorem t_X8_rule (E : xE) (a : Nat → Nat) (x1 : Int32) (hM : Mem) {o : Int32 × Mem} (hxt : xt_X8_rule x1 hM = some o) : xMI (S := Unit) E yX8_rule cX8_rule 2 .int 6 0 0 [.ref (a 0), .int x1] [(a 0, oX8 a), (a 1, oX3 a), (a 2, aI E 16 (hM 2)), (a 3, aI E 16 (hM 3)), (a 4, aI E 256 (hM 4)), (a 5, aI E 128 (hM 5)), (a 6, aI E 128 (hM 6)), (a 7, aI E 128 (hM 7)), (a 8, aI E 128 (hM 8)), (a 9, oX0 a (hM 9)), (a 10, aI E 4096 (hM 10)), (a 11, aI E 120 (hM 11)), (a 12, aI E 120 (hM 12)), (a 13, oX1 a (hM 13)), (a 14, aI E 8 (hM 14)), (a 15, oX7 a (hM 15)), (a 16, aI E 11 (hM 16)), (a 17, aI E 4096 (hM 17)), (a 18, aI E 6272 (hM 18)), (a 19, aI E 98 (hM 19)), (a 21, oX6 (hM 21))] (fun _ => o.1) (fun _ => [(a 0, oX8 a), (a 1, oX3 a), (a 2, aI E 16 (hM 2)), (a 3, aI E 16 (hM 3)), (a 4, aI E 256 (hM 4)), (a 5, aI E 128 (hM 5)), (a 6, aI E 128 (hM 6)), (a 7, aI E 128 (hM 7)), (a 8, aI E 128 (hM 8)), (a 9, oX0 a (o.2 9)), (a 10, aI E 4096 (o.2 10)), (a 11, aI E 120 (o.2 11)), (a 12, aI E 120 (o.2 12)), (a 13, oX1 a (o.2 13)), (a 14, aI E 8 (o.2 14)), (a 15, oX7 a (o.2 15)), (a 16, aI E 11 (o.2 16)), (a 17, aI E 4096 (o.2 17)), (a 18, aI E 6272 (o.2 18)), (a 19, aI E 98 (o.2 19)), (a 21, oX6 (hM 21))]) := by
  refine xMI.of (own := RX8) (lo0 := [(0, .ref (a 0)), (1, .int x1)]) (by decide +kernel) rfl rfl (Nat.le_of_ble_eq_true rfl) (fun V r hret => ?_)
  unfold xt_X8_rule at hxt
  refine r.iload_n 1 (DX8_rule 0 rfl) rfl ?_
  refine r.if_lt 10 (DX8_rule 1 rfl) rfl hxt (fun _ hxt => ?_) (fun _ hxt => ?_)
  · refine r.bipush (v := (-2 : Int32)) (DX8_rule 5 rfl) rfl ?_
    cases hxt
    exact hret _ _ _ _ (DX8_rule 6 rfl) rfl ⟨(), rfl, rfl⟩
  refine r.iload_n 1 (DX8_rule 2 rfl) rfl ?_
  refine r.bipush (v := (98 : Int32)) (DX8_rule 3 rfl) rfl ?_
  refine r.icmp_lt 13 (DX8_rule 4 rfl) rfl hxt (fun _ hxt => ?_) (fun _ hxt => ?_)
  · refine r.aload_n 0 (DX8_rule 7 rfl) rfl ?_
    refine r.get (v := .ref (a 15)) kX8 f_X8_37 rfl 0 rfl rfl (DX8_rule 8 rfl) ?_
    refine r.aload_n 0 (DX8_rule 9 rfl) rfl ?_
    refine r.get (v := .ref (a 21)) kX8 f_X8_53 rfl 0 rfl rfl (DX8_rule 10 rfl) ?_
    obtain ⟨o_1, ho_1, hxt⟩ := xbd hxt
    refine r.callVV 14 rfl rfl (t_X7_prepare E a (a 21) (hM 21) hM ho_1) g_X8_217 rfl (DX8_rule 11 rfl) rfl ⟨(Nat.le_of_ble_eq_true rfl), (Nat.le_of_ble_eq_true rfl)⟩ ⟨(Nat.le_of_ble_eq_true rfl), (Nat.le_of_ble_eq_true rfl)⟩ (Nat.le_of_ble_eq_true rfl) [1, 2, 3, 4, 5, 6, 7, 8, 9, 10, 11, 12, 13, 14, 15, 16, 17, 18, 19, 20] [0] rfl rfl rfl rfl (by decide) [0, 1, 2, 3, 4, 5, 6, 7, 8, 9, 10, 11, 12, 13, 14, 15, 16, 17, 18, 19, 20] rfl (ws2 := fun _ => [(a 0, oX8 a), (a 1, oX3 a), (a 2, aI E 16 (hM 2)), (a 3, aI E 16 (hM 3)), (a 4, aI E 256 (hM 4)), (a 5, aI E 128 (hM 5)), (a 6, aI E 128 (hM 6)), (a 7, aI E 128 (hM 7)), (a 8, aI E 128 (hM 8)), (a 9, oX0 a (o_1 9)), (a 10, aI E 4096 (o_1 10)), (a 11, aI E 120 (o_1 11)), (a 12, aI E 120 (o_1 12)), (a 13, oX1 a (o_1 13)), (a 14, aI E 8 (o_1 14)), (a 15, oX7 a (o_1 15)), (a 16, aI E 11 (o_1 16)), (a 17, aI E 4096 (o_1 17)), (a 18, aI E 6272 (o_1 18)), (a 19, aI E 98 (o_1 19)), (a 21, oX6 (hM 21))]) (fun _ => rfl) (fun _ => ?_)
    refine r.aload_n 0 (DX8_rule 12 rfl) rfl ?_
    refine r.get (v := .ref (a 15)) kX8 f_X8_37 rfl 0 rfl rfl (DX8_rule 13 rfl) ?_
    refine r.iload_n 1 (DX8_rule 14 rfl) rfl ?_
    obtain ⟨o_2, ho_2, hxt⟩ := xbd hxt
    refine r.callVI 0 rfl rfl (t_X7_told E a x1 (mgs hM [15, 19] o_1) ho_2) g_X8_221 rfl (DX8_rule 15 rfl) rfl ⟨(Nat.le_of_ble_eq_true rfl), (Nat.le_of_ble_eq_true rfl)⟩ ⟨(Nat.le_of_ble_eq_true rfl), (Nat.le_of_ble_eq_true rfl)⟩ (Nat.le_of_ble_eq_true rfl) [15, 19] [0, 1, 2, 3, 4, 5, 6, 7, 8, 9, 10, 11, 12, 13, 14, 16, 17, 18, 20] rfl rfl rfl rfl (by decide) [0, 1, 2, 3, 4, 5, 6, 7, 8, 9, 10, 11, 12, 13, 14, 19, 15, 16, 17, 20, 18] rfl (ws2 := fun _ => [(a 0, oX8 a), (a 1, oX3 a), (a 2, aI E 16 (hM 2)), (a 3, aI E 16 (hM 3)), (a 4, aI E 256 (hM 4)), (a 5, aI E 128 (hM 5)), (a 6, aI E 128 (hM 6)), (a 7, aI E 128 (hM 7)), (a 8, aI E 128 (hM 8)), (a 9, oX0 a (o_1 9)), (a 10, aI E 4096 (o_1 10)), (a 11, aI E 120 (o_1 11)), (a 12, aI E 120 (o_1 12)), (a 13, oX1 a (o_1 13)), (a 14, aI E 8 (o_1 14)), (a 15, oX7 a (o_1 15)), (a 16, aI E 11 (o_1 16)), (a 17, aI E 4096 (o_1 17)), (a 18, aI E 6272 (o_1 18)), (a 19, aI E 98 (o_1 19)), (a 21, oX6 (hM 21))]) (fun _ => rfl) (fun _ => ?_)
    cases hxt
    exact hret _ _ _ _ (DX8_rule 16 rfl) rfl ⟨(), rfl, rfl⟩
  refine r.bipush (v := (-2 : Int32)) (DX8_rule 5 rfl) rfl ?_
  cases hxt
  exact hret _ _ _ _ (DX8_rule 6 rfl) rfl ⟨(), rfl, rfl⟩
set_option maxRecDepth 100000 in
set_option maxHeartbeats 4000000 in
theorem t_X8_put (E : xE) (a : Nat → Nat) (x1 : Int64) (hM : Mem) {o : Int32 × Mem} (hxt : xt_X8_put x1 hM = some o) : xMI (S := Unit) E yX8_put cX8_put 4 .int 1 0 0 [.ref (a 0), .long x1] [(a 0, oX8 a), (a 25, oX5 a (hM 25)), (a 26, aC E 24 (hM 26))] (fun _ => o.1) (fun _ => [(a 0, oX8 a), (a 25, oX5 a (o.2 25)), (a 26, aC E 24 (o.2 26))]) := by
  refine xMI.of (own := RX8) (lo0 := [(0, .ref (a 0)), (1, .long x1)]) (by decide +kernel) rfl rfl (Nat.le_of_ble_eq_true rfl) (fun V r hret => ?_)
  unfold xt_X8_put at hxt
  refine r.lload_n 1 (DX8_put 0 rfl) rfl ?_
  obtain ⟨o_1, ho_1, hxt⟩ := xbd hxt
  refine r.callSI0 (t_X5_countIn E x1 ho_1) g_X8_243 rfl (DX8_put 1 rfl) rfl ⟨(Nat.le_of_ble_eq_true rfl), (Nat.le_of_ble_eq_true rfl)⟩ (Nat.le_of_ble_eq_true rfl) ?_
  refine r.istore_n (lo' := [(3, .int o_1), (0, .ref (a 0)), (1, .long x1)]) (DX8_put 2 rfl) (Nat.le_of_ble_eq_true rfl) rfl ?_
  refine r.iload_n 0 (DX8_put 3 rfl) rfl ?_
  refine r.iconst (v := (1 : Int32)) (DX8_put 4 rfl) rfl ?_
  refine r.icmp_ge 13 (DX8_put 5 rfl) rfl hxt (fun _ hxt => ?_) (fun _ hxt => ?_)
  · refine r.aload_n 1 (DX8_put 8 rfl) rfl ?_
    refine r.get (v := .ref (a 25)) kX8 f_X8_70 rfl 0 rfl rfl (DX8_put 9 rfl) ?_
    obtain ⟨o_2, ho_2, hxt⟩ := xbd hxt
    refine r.callVI 0 rfl rfl (t_X5_length E a hM ho_2) g_X8_185 rfl (DX8_put 10 rfl) rfl ⟨(Nat.le_of_ble_eq_true rfl), (Nat.le_of_ble_eq_true rfl)⟩ ⟨(Nat.le_of_ble_eq_true rfl), (Nat.le_of_ble_eq_true rfl)⟩ (Nat.le_of_ble_eq_true rfl) [1] [0, 2] rfl rfl rfl rfl (by decide) [0, 2, 1] rfl (ws2 := fun _ => [(a 0, oX8 a), (a 25, oX5 a (hM 25)), (a 26, aC E 24 (hM 26))]) (fun _ => rfl) (fun _ => ?_)
    refine r.iload_n 0 (DX8_put 11 rfl) rfl ?_
    refine r.iadd (DX8_put 12 rfl) ?_
    refine r.bipush (v := (24 : Int32)) (DX8_put 13 rfl) rfl ?_
    refine r.icmp_le 30 (DX8_put 14 rfl) rfl hxt (fun _ hxt => ?_) (fun _ hxt => ?_)
    · refine r.aload_n 1 (DX8_put 17 rfl) rfl ?_
      refine r.get (v := .ref (a 25)) kX8 f_X8_70 rfl 0 rfl rfl (DX8_put 18 rfl) ?_
      refine r.lload_n 2 (DX8_put 19 rfl) rfl ?_
      refine r.iload_n 0 (DX8_put 20 rfl) rfl ?_
      obtain ⟨o_3, ho_3, hxt⟩ := xbd hxt
      refine r.callVV 0 rfl rfl (t_X5_append E a x1 o_1 hM ho_3) g_X8_247 rfl (DX8_put 21 rfl) rfl ⟨(Nat.le_of_ble_eq_true rfl), (Nat.le_of_ble_eq_true rfl)⟩ ⟨(Nat.le_of_ble_eq_true rfl), (Nat.le_of_ble_eq_true rfl)⟩ (Nat.le_of_ble_eq_true rfl) [1, 2] [0] rfl rfl rfl rfl (by decide) [0, 1, 2] rfl (ws2 := fun _ => [(a 0, oX8 a), (a 25, oX5 a (o_3 25)), (a 26, aC E 24 (o_3 26))]) (fun _ => rfl) (fun _ => ?_)
      refine r.aload_n 1 (DX8_put 22 rfl) rfl ?_
      refine r.get (v := .ref (a 25)) kX8 f_X8_70 rfl 0 rfl rfl (DX8_put 23 rfl) ?_
      obtain ⟨o_4, ho_4, hxt⟩ := xbd hxt
      refine r.callVI 0 rfl rfl (t_X5_length E a (mgs hM [25] o_3) ho_4) g_X8_185 rfl (DX8_put 24 rfl) rfl ⟨(Nat.le_of_ble_eq_true rfl), (Nat.le_of_ble_eq_true rfl)⟩ ⟨(Nat.le_of_ble_eq_true rfl), (Nat.le_of_ble_eq_true rfl)⟩ (Nat.le_of_ble_eq_true rfl) [1] [0, 2] rfl rfl rfl rfl (by decide) [0, 2, 1] rfl (ws2 := fun _ => [(a 0, oX8 a), (a 25, oX5 a (o_3 25)), (a 26, aC E 24 (o_3 26))]) (fun _ => rfl) (fun _ => ?_)
      cases hxt
      exact hret _ _ _ _ (DX8_put 25 rfl) rfl ⟨(), rfl, rfl⟩
    refine r.bipush (v := (-4 : Int32)) (DX8_put 15 rfl) rfl ?_
    cases hxt
    exact hret _ _ _ _ (DX8_put 16 rfl) rfl ⟨(), rfl, rfl⟩
  refine r.bipush (v := (-2 : Int32)) (DX8_put 6 rfl) rfl ?_
  cases hxt
  exact hret _ _ _ _ (DX8_put 7 rfl) rfl ⟨(), rfl, rfl⟩
set_option maxRecDepth 100000 in
set_option maxHeartbeats 4000000 in
theorem t_X8_wipe (E : xE) (a : Nat → Nat) (hM : Mem) {o : Int32 × Mem} (hxt : xt_X8_wipe hM = some o) : xMI (S := Unit) E yX8_wipe cX8_wipe 2 .int 1 0 0 [.ref (a 0)] [(a 0, oX8 a), (a 25, oX5 a (hM 25))] (fun _ => o.1) (fun _ => [(a 0, oX8 a), (a 25, oX5 a (o.2 25))]) := by
  refine xMI.of (own := RX8) (lo0 := [(0, .ref (a 0))]) (by decide +kernel) rfl rfl (Nat.le_of_ble_eq_true rfl) (fun V r hret => ?_)
  unfold xt_X8_wipe at hxt
  refine r.aload_n 0 (DX8_wipe 0 rfl) rfl ?_
  refine r.get (v := .ref (a 25)) kX8 f_X8_70 rfl 0 rfl rfl (DX8_wipe 1 rfl) ?_
  obtain ⟨o_1, ho_1, hxt⟩ := xbd hxt
  refine r.callVI 0 rfl rfl (t_X5_length E a hM ho_1) g_X8_185 rfl (DX8_wipe 2 rfl) rfl ⟨(Nat.le_of_ble_eq_true rfl), (Nat.le_of_ble_eq_true rfl)⟩ ⟨(Nat.le_of_ble_eq_true rfl), (Nat.le_of_ble_eq_true rfl)⟩ (Nat.le_of_ble_eq_true rfl) [1] [0] rfl rfl rfl rfl (by decide) [0, 1] rfl (ws2 := fun _ => [(a 0, oX8 a), (a 25, oX5 a (hM 25))]) (fun _ => rfl) (fun _ => ?_)
  refine r.istore_n (lo' := [(1, .int o_1), (0, .ref (a 0))]) (DX8_wipe 3 rfl) (Nat.le_of_ble_eq_true rfl) rfl ?_
  refine r.aload_n 1 (DX8_wipe 4 rfl) rfl ?_
  refine r.get (v := .ref (a 25)) kX8 f_X8_70 rfl 0 rfl rfl (DX8_wipe 5 rfl) ?_
  obtain ⟨o_2, ho_2, hxt⟩ := xbd hxt
  refine r.callVV 0 rfl rfl (t_X5_empty E a hM ho_2) g_X8_157 rfl (DX8_wipe 6 rfl) rfl ⟨(Nat.le_of_ble_eq_true rfl), (Nat.le_of_ble_eq_true rfl)⟩ ⟨(Nat.le_of_ble_eq_true rfl), (Nat.le_of_ble_eq_true rfl)⟩ (Nat.le_of_ble_eq_true rfl) [1] [0] rfl rfl rfl rfl (by decide) [0, 1] rfl (ws2 := fun _ => [(a 0, oX8 a), (a 25, oX5 a (o_2 25))]) (fun _ => rfl) (fun _ => ?_)
  refine r.iload_n 0 (DX8_wipe 7 rfl) rfl ?_
  cases hxt
  exact hret _ _ _ _ (DX8_wipe 8 rfl) rfl ⟨(), rfl, rfl⟩
set_option maxRecDepth 100000 in
set_option maxHeartbeats 4000000 in
theorem t_X8_fault (E : xE) (a : Nat → Nat) (hM : Mem) {o : Int32} (hxt : xt_X8_fault hM = some o) : xMI (S := Unit) E yX8_fault cX8_fault 1 .int 2 0 0 [.ref (a 0)] [(a 0, oX8 a), (a 25, oX5 a (hM 25)), (a 26, aC E 24 (hM 26))] (fun _ => o) (fun _ => [(a 0, oX8 a), (a 25, oX5 a (hM 25)), (a 26, aC E 24 (hM 26))]) := by
  refine xMI.of (own := RX8) (lo0 := [(0, .ref (a 0))]) (by decide +kernel) rfl rfl (Nat.le_of_ble_eq_true rfl) (fun V r hret => ?_)
  unfold xt_X8_fault at hxt
  refine r.aload_n 0 (DX8_fault 0 rfl) rfl ?_
  refine r.get (v := .ref (a 25)) kX8 f_X8_70 rfl 0 rfl rfl (DX8_fault 1 rfl) ?_
  obtain ⟨o_1, ho_1, hxt⟩ := xbd hxt
  refine r.callVI 0 rfl rfl (t_X5_firstFault E a hM ho_1) g_X8_140 rfl (DX8_fault 2 rfl) rfl ⟨(Nat.le_of_ble_eq_true rfl), (Nat.le_of_ble_eq_true rfl)⟩ ⟨(Nat.le_of_ble_eq_true rfl), (Nat.le_of_ble_eq_true rfl)⟩ (Nat.le_of_ble_eq_true rfl) [1, 2] [0] rfl rfl rfl rfl (by decide) [0, 1, 2] rfl (ws2 := fun _ => [(a 0, oX8 a), (a 25, oX5 a (hM 25)), (a 26, aC E 24 (hM 26))]) (fun _ => rfl) (fun _ => ?_)
  cases hxt
  exact hret _ _ _ _ (DX8_fault 3 rfl) rfl ⟨(), rfl, rfl⟩
set_option maxRecDepth 100000 in
set_option maxHeartbeats 4000000 in
theorem t_X8_undo (E : xE) (a : Nat → Nat) (ha : Nat → Nat) (hM : Mem) {o : Int32 × Mem} (hxt : xt_X8_undo hM = some o) : xMI (S := Unit) E yX8_undo cX8_undo 1 .int 2 0 0 [.ref (a 0)] [(a 0, oX8 a), (a 21, oX6 (hM 21)), (a 23, oX4 a (hM 23)), (a 24, .inl (xO E, 6, .inr (.inr (.inr (.inr (xhf ha)))))), (ha 0, oX6 (hM 60)), (ha 1, oX6 (hM 61)), (ha 2, oX6 (hM 62)), (ha 3, oX6 (hM 63)), (ha 4, oX6 (hM 64)), (ha 5, oX6 (hM 65))] (fun _ => o.1) (fun _ => [(a 0, oX8 a), (a 21, oX6 (o.2 21)), (a 23, oX4 a (o.2 23)), (a 24, .inl (xO E, 6, .inr (.inr (.inr (.inr (xhf ha)))))), (ha 0, oX6 (hM 60)), (ha 1, oX6 (hM 61)), (ha 2, oX6 (hM 62)), (ha 3, oX6 (hM 63)), (ha 4, oX6 (hM 64)), (ha 5, oX6 (hM 65))]) := by
  refine xMI.of (own := RX8) (lo0 := [(0, .ref (a 0))]) (by decide +kernel) rfl rfl (Nat.le_of_ble_eq_true rfl) (fun V r hret => ?_)
  unfold xt_X8_undo at hxt
  refine r.aload_n 0 (DX8_undo 0 rfl) rfl ?_
  refine r.get (v := .ref (a 23)) kX8 f_X8_63 rfl 0 rfl rfl (DX8_undo 1 rfl) ?_
  obtain ⟨o_1, ho_1, hxt⟩ := xbd hxt
  refine r.callVI 0 rfl rfl (t_X4_length E a hM ho_1) g_X8_188 rfl (DX8_undo 2 rfl) rfl ⟨(Nat.le_of_ble_eq_true rfl), (Nat.le_of_ble_eq_true rfl)⟩ ⟨(Nat.le_of_ble_eq_true rfl), (Nat.le_of_ble_eq_true rfl)⟩ (Nat.le_of_ble_eq_true rfl) [2] [0, 1, 3, 4, 5, 6, 7, 8, 9] rfl rfl rfl rfl (by decide) [0, 1, 9, 2, 3, 4, 5, 6, 7, 8] rfl (ws2 := fun _ => [(a 0, oX8 a), (a 21, oX6 (hM 21)), (a 23, oX4 a (hM 23)), (a 24, .inl (xO E, 6, .inr (.inr (.inr (.inr (xhf ha)))))), (ha 0, oX6 (hM 60)), (ha 1, oX6 (hM 61)), (ha 2, oX6 (hM 62)), (ha 3, oX6 (hM 63)), (ha 4, oX6 (hM 64)), (ha 5, oX6 (hM 65))]) (fun _ => rfl) (fun _ => ?_)
  refine r.if_ne 13 (DX8_undo 3 rfl) rfl hxt (fun _ hxt => ?_) (fun _ hxt => ?_)
  · refine r.aload_n 0 (DX8_undo 6 rfl) rfl ?_
    refine r.get (v := .ref (a 23)) kX8 f_X8_63 rfl 0 rfl rfl (DX8_undo 7 rfl) ?_
    refine r.aload_n 0 (DX8_undo 8 rfl) rfl ?_
    refine r.get (v := .ref (a 21)) kX8 f_X8_53 rfl 0 rfl rfl (DX8_undo 9 rfl) ?_
    obtain ⟨o_2, ho_2, hxt⟩ := xbd hxt
    refine r.callVV 0 rfl rfl (t_X4_takeBack E a ha (a 21) (hM 21) hM ho_2) g_X8_251 rfl (DX8_undo 10 rfl) rfl ⟨(Nat.le_of_ble_eq_true rfl), (Nat.le_of_ble_eq_true rfl)⟩ ⟨(Nat.le_of_ble_eq_true rfl), (Nat.le_of_ble_eq_true rfl)⟩ (Nat.le_of_ble_eq_true rfl) [2, 3, 4, 5, 6, 7, 8, 9, 1] [0] rfl rfl rfl rfl (by decide) [0, 9, 1, 2, 3, 4, 5, 6, 7, 8] rfl (ws2 := fun _ => [(a 0, oX8 a), (a 21, oX6 o_2.1), (a 23, oX4 a (o_2.2 23)), (a 24, .inl (xO E, 6, .inr (.inr (.inr (.inr (xhf ha)))))), (ha 0, oX6 (hM 60)), (ha 1, oX6 (hM 61)), (ha 2, oX6 (hM 62)), (ha 3, oX6 (hM 63)), (ha 4, oX6 (hM 64)), (ha 5, oX6 (hM 65))]) (fun _ => rfl) (fun _ => ?_)
    refine r.aload_n 0 (DX8_undo 11 rfl) rfl ?_
    refine r.get (v := .ref (a 23)) kX8 f_X8_63 rfl 0 rfl rfl (DX8_undo 12 rfl) ?_
    obtain ⟨o_3, ho_3, hxt⟩ := xbd hxt
    refine r.callVI 0 rfl rfl (t_X4_length E a (mgs hM [23] o_2.2) ho_3) g_X8_188 rfl (DX8_undo 13 rfl) rfl ⟨(Nat.le_of_ble_eq_true rfl), (Nat.le_of_ble_eq_true rfl)⟩ ⟨(Nat.le_of_ble_eq_true rfl), (Nat.le_of_ble_eq_true rfl)⟩ (Nat.le_of_ble_eq_true rfl) [2] [0, 1, 3, 4, 5, 6, 7, 8, 9] rfl rfl rfl rfl (by decide) [0, 1, 9, 2, 3, 4, 5, 6, 7, 8] rfl (ws2 := fun _ => [(a 0, oX8 a), (a 21, oX6 o_2.1), (a 23, oX4 a (o_2.2 23)), (a 24, .inl (xO E, 6, .inr (.inr (.inr (.inr (xhf ha)))))), (ha 0, oX6 (hM 60)), (ha 1, oX6 (hM 61)), (ha 2, oX6 (hM 62)), (ha 3, oX6 (hM 63)), (ha 4, oX6 (hM 64)), (ha 5, oX6 (hM 65))]) (fun _ => rfl) (fun _ => ?_)
    cases hxt
    exact hret _ _ _ _ (DX8_undo 14 rfl) rfl ⟨(), rfl, rfl⟩
  refine r.bipush (v := (-5 : Int32)) (DX8_undo 4 rfl) rfl ?_
  cases hxt
  exact hret _ _ _ _ (DX8_undo 5 rfl) rfl ⟨(), rfl, rfl⟩
set_option maxRecDepth 100000 in
set_option maxHeartbeats 4000000 in
theorem t_X8_save (E : xE) (a : Nat → Nat) (x1 : Int32) (hM : Mem) {o : Int32 × Mem} (hxt : xt_X8_save x1 hM = some o) : xMI (S := Unit) E yX8_save cX8_save 2 .int 1 0 0 [.ref (a 0), .int x1] [(a 0, oX8 a), (a 21, oX6 (hM 21)), (a 27, .inl (xO E, 2, .inr (.inr (.inr (.inr (xsl a)))))), (a 28, oX6 (hM 28)), (a 29, oX6 (hM 29)), (a 30, aZ E 2 (hM 30))] (fun _ => o.1) (fun _ => [(a 0, oX8 a), (a 21, oX6 (hM 21)), (a 27, .inl (xO E, 2, .inr (.inr (.inr (.inr (xsl a)))))), (a 28, oX6 (o.2 28)), (a 29, oX6 (o.2 29)), (a 30, aZ E 2 (o.2 30))]) := by
  refine xMI.of (own := RX8) (lo0 := [(0, .ref (a 0)), (1, .int x1)]) (by decide +kernel) rfl rfl (Nat.le_of_ble_eq_true rfl) (fun V r hret => ?_)
  unfold xt_X8_save at hxt
  refine r.iload_n 1 (DX8_save 0 rfl) rfl ?_
  refine r.if_lt 9 (DX8_save 1 rfl) rfl hxt (fun _ hxt => ?_) (fun _ hxt => ?_)
  · refine r.bipush (v := (-2 : Int32)) (DX8_save 5 rfl) rfl ?_
    cases hxt
    exact hret _ _ _ _ (DX8_save 6 rfl) rfl ⟨(), rfl, rfl⟩
  refine r.iload_n 1 (DX8_save 2 rfl) rfl ?_
  refine r.iconst (v := (2 : Int32)) (DX8_save 3 rfl) rfl ?_
  refine r.icmp_lt 12 (DX8_save 4 rfl) rfl hxt (fun _ hxt => ?_) (fun _ hxt => ?_)
  · refine r.aload_n 0 (DX8_save 7 rfl) rfl ?_
    refine r.get (v := .ref (a 27)) kX8 f_X8_74 rfl 0 rfl rfl (DX8_save 8 rfl) ?_
    refine r.iload_n 1 (DX8_save 9 rfl) rfl ?_
    refine xif hxt (fun hc hxt => ?_) (fun _ hxt => ?_)
    · refine r.aald (b := (a 28)) 2 rfl (by rw [hc]; unfold vp_in; decide) (by rw [hc]; rfl) (DX8_save 10 rfl) ?_
      refine r.aload_n 0 (DX8_save 11 rfl) rfl ?_
      refine r.get (v := .ref (a 21)) kX8 f_X8_53 rfl 0 rfl rfl (DX8_save 12 rfl) ?_
      obtain ⟨o_1, ho_1, hxt⟩ := xbd hxt
      refine r.callVV 0 rfl rfl (t_X6_take E a (a 28) (a 21) (hM 28) (hM 21) ho_1) g_X8_230 rfl (DX8_save 13 rfl) rfl ⟨(Nat.le_of_ble_eq_true rfl), (Nat.le_of_ble_eq_true rfl)⟩ ⟨(Nat.le_of_ble_eq_true rfl), (Nat.le_of_ble_eq_true rfl)⟩ (Nat.le_of_ble_eq_true rfl) [3, 1] [0, 2, 4, 5] rfl rfl rfl rfl (by decide) [0, 5, 1, 4, 2, 3] rfl (ws2 := fun _ => [(a 0, oX8 a), (a 21, oX6 (hM 21)), (a 27, .inl (xO E, 2, .inr (.inr (.inr (.inr (xsl a)))))), (a 28, oX6 o_1), (a 29, oX6 (hM 29)), (a 30, aZ E 2 (hM 30))]) (fun _ => rfl) (fun _ => ?_)
      refine r.aload_n 0 (DX8_save 14 rfl) rfl ?_
      refine r.get (v := .ref (a 30)) kX8 f_X8_78 rfl 0 rfl rfl (DX8_save 15 rfl) ?_
      refine r.iload_n 1 (DX8_save 16 rfl) rfl ?_
      refine r.iconst (v := (1 : Int32)) (DX8_save 17 rfl) rfl ?_
      obtain ⟨hin, hxt⟩ := xgd_some hxt
      refine r.zast (ws' := [(a 0, oX8 a), (a 21, oX6 (hM 21)), (a 27, .inl (xO E, 2, .inr (.inr (.inr (.inr (xsl a)))))), (a 28, oX6 o_1), (a 29, oX6 (hM 29)), (a 30, aZ E 2 (upd (hM 30) x1.toNatClampNeg (vp_nar .boolean (1 : Int32))))]) 5 rfl hin rfl (DX8_save 18 rfl) ?_
      refine r.aload_n 0 (DX8_save 19 rfl) rfl ?_
      refine r.get (v := .ref (a 21)) kX8 f_X8_53 rfl 0 rfl rfl (DX8_save 20 rfl) ?_
      refine r.get (v := .int ((hM 21) 1)) kX6 f_X8_102 rfl 1 rfl rfl (DX8_save 21 rfl) ?_
      obtain ⟨o_2, ho_2, hxt⟩ := xbd hxt
      refine r.callSI0 (t_J6_bitCount_0f7a4 E ((hM 21) 1) ho_2) g_X8_106 rfl (DX8_save 22 rfl) rfl ⟨(Nat.le_of_ble_eq_true rfl), (Nat.le_of_ble_eq_true rfl)⟩ (Nat.le_of_ble_eq_true rfl) ?_
      cases hxt
      exact hret _ _ _ _ (DX8_save 23 rfl) rfl ⟨(), rfl, rfl⟩
    refine xif hxt (fun hc hxt => ?_) (fun _ hxt => ?_)
    · refine r.aald (b := (a 29)) 2 rfl (by rw [hc]; unfold vp_in; decide) (by rw [hc]; rfl) (DX8_save 10 rfl) ?_
      refine r.aload_n 0 (DX8_save 11 rfl) rfl ?_
      refine r.get (v := .ref (a 21)) kX8 f_X8_53 rfl 0 rfl rfl (DX8_save 12 rfl) ?_
      obtain ⟨o_3, ho_3, hxt⟩ := xbd hxt
      refine r.callVV 0 rfl rfl (t_X6_take E a (a 29) (a 21) (hM 29) (hM 21) ho_3) g_X8_230 rfl (DX8_save 13 rfl) rfl ⟨(Nat.le_of_ble_eq_true rfl), (Nat.le_of_ble_eq_true rfl)⟩ ⟨(Nat.le_of_ble_eq_true rfl), (Nat.le_of_ble_eq_true rfl)⟩ (Nat.le_of_ble_eq_true rfl) [4, 1] [0, 2, 3, 5] rfl rfl rfl rfl (by decide) [0, 5, 1, 2, 4, 3] rfl (ws2 := fun _ => [(a 0, oX8 a), (a 21, oX6 (hM 21)), (a 27, .inl (xO E, 2, .inr (.inr (.inr (.inr (xsl a)))))), (a 28, oX6 (hM 28)), (a 29, oX6 o_3), (a 30, aZ E 2 (hM 30))]) (fun _ => rfl) (fun _ => ?_)
      refine r.aload_n 0 (DX8_save 14 rfl) rfl ?_
      refine r.get (v := .ref (a 30)) kX8 f_X8_78 rfl 0 rfl rfl (DX8_save 15 rfl) ?_
      refine r.iload_n 1 (DX8_save 16 rfl) rfl ?_
      refine r.iconst (v := (1 : Int32)) (DX8_save 17 rfl) rfl ?_
      obtain ⟨hin, hxt⟩ := xgd_some hxt
      refine r.zast (ws' := [(a 0, oX8 a), (a 21, oX6 (hM 21)), (a 27, .inl (xO E, 2, .inr (.inr (.inr (.inr (xsl a)))))), (a 28, oX6 (hM 28)), (a 29, oX6 o_3), (a 30, aZ E 2 (upd (hM 30) x1.toNatClampNeg (vp_nar .boolean (1 : Int32))))]) 5 rfl hin rfl (DX8_save 18 rfl) ?_
      refine r.aload_n 0 (DX8_save 19 rfl) rfl ?_
      refine r.get (v := .ref (a 21)) kX8 f_X8_53 rfl 0 rfl rfl (DX8_save 20 rfl) ?_
      refine r.get (v := .int ((hM 21) 1)) kX6 f_X8_102 rfl 1 rfl rfl (DX8_save 21 rfl) ?_
      obtain ⟨o_4, ho_4, hxt⟩ := xbd hxt
      refine r.callSI0 (t_J6_bitCount_0f7a4 E ((hM 21) 1) ho_4) g_X8_106 rfl (DX8_save 22 rfl) rfl ⟨(Nat.le_of_ble_eq_true rfl), (Nat.le_of_ble_eq_true rfl)⟩ (Nat.le_of_ble_eq_true rfl) ?_
      cases hxt
      exact hret _ _ _ _ (DX8_save 23 rfl) rfl ⟨(), rfl, rfl⟩
    cases hxt
  refine r.bipush (v := (-2 : Int32)) (DX8_save 5 rfl) rfl ?_
  cases hxt
  exact hret _ _ _ _ (DX8_save 6 rfl) rfl ⟨(), rfl, rfl⟩
