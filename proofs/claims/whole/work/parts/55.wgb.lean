set_option maxRecDepth 100000 in
set_option maxHeartbeats 4000000 in
theorem t_X8_restore (E : xE) (a : Nat → Nat) (ha : Nat → Nat) (x1 : Int32) (hM : Mem) {o : Int32 × Mem} (hxt : xt_X8_restore x1 hM = some o) : xMI (S := Nat → Nat) E yX8_restore cX8_restore 2 .int 2 0 0 [.ref (a 0), .int x1] [(a 0, oX8 a), (a 21, oX6 (hM 21)), (a 23, oX4 a (hM 23)), (a 24, .inl (xO E, 6, .inr (.inr (.inr (.inr (xhf ha)))))), (ha 0, oX6 (hM 60)), (ha 1, oX6 (hM 61)), (ha 2, oX6 (hM 62)), (ha 3, oX6 (hM 63)), (ha 4, oX6 (hM 64)), (ha 5, oX6 (hM 65)), (a 27, .inl (xO E, 2, .inr (.inr (.inr (.inr (xsl a)))))), (a 28, oX6 (hM 28)), (a 29, oX6 (hM 29)), (a 30, aZ E 2 (hM 30))] (fun _ => o.1) (fun u => [(a 0, oX8 a), (a 21, oX6 (o.2 21)), (a 23, oX4 a (o.2 23)), (a 24, .inl (xO E, 6, .inr (.inr (.inr (.inr (xhf u)))))), (u 0, oX6 (o.2 60)), (u 1, oX6 (o.2 61)), (u 2, oX6 (o.2 62)), (u 3, oX6 (o.2 63)), (u 4, oX6 (o.2 64)), (u 5, oX6 (o.2 65)), (a 27, .inl (xO E, 2, .inr (.inr (.inr (.inr (xsl a)))))), (a 28, oX6 (hM 28)), (a 29, oX6 (hM 29)), (a 30, aZ E 2 (hM 30))]) := by
  refine xMI.of (own := RX8) (lo0 := [(0, .ref (a 0)), (1, .int x1)]) (by decide +kernel) rfl rfl (Nat.le_of_ble_eq_true rfl) (fun V r hret => ?_)
  unfold xt_X8_restore at hxt
  refine r.iload_n 1 (DX8_restore 0 rfl) rfl ?_
  refine r.if_lt 9 (DX8_restore 1 rfl) rfl hxt (fun _ hxt => ?_) (fun _ hxt => ?_)
  · refine r.bipush (v := (-2 : Int32)) (DX8_restore 5 rfl) rfl ?_
    cases hxt
    exact hret _ _ _ _ (DX8_restore 6 rfl) rfl ⟨ha, rfl, rfl⟩
  refine r.iload_n 1 (DX8_restore 2 rfl) rfl ?_
  refine r.iconst (v := (2 : Int32)) (DX8_restore 3 rfl) rfl ?_
  refine r.icmp_lt 12 (DX8_restore 4 rfl) rfl hxt (fun _ hxt => ?_) (fun _ hxt => ?_)
  · refine r.aload_n 0 (DX8_restore 7 rfl) rfl ?_
    refine r.get (v := .ref (a 30)) kX8 f_X8_78 rfl 0 rfl rfl (DX8_restore 8 rfl) ?_
    refine r.iload_n 1 (DX8_restore 9 rfl) rfl ?_
    obtain ⟨hin, hxt⟩ := xgd_some hxt
    refine r.zald 13 rfl hin (DX8_restore 10 rfl) ?_
    refine r.if_ne 24 (DX8_restore 11 rfl) rfl hxt (fun _ hxt => ?_) (fun _ hxt => ?_)
    · refine r.aload_n 0 (DX8_restore 14 rfl) rfl ?_
      refine r.get (v := .ref (a 23)) kX8 f_X8_63 rfl 0 rfl rfl (DX8_restore 15 rfl) ?_
      refine r.aload_n 0 (DX8_restore 16 rfl) rfl ?_
      refine r.get (v := .ref (a 21)) kX8 f_X8_53 rfl 0 rfl rfl (DX8_restore 17 rfl) ?_
      obtain ⟨o_1, ho_1, hxt⟩ := xbd hxt
      refine r.callVV 0 rfl rfl (t_X4_record E a ha (a 21) (hM 21) hM ho_1) g_X8_86 rfl (DX8_restore 18 rfl) rfl ⟨(Nat.le_of_ble_eq_true rfl), (Nat.le_of_ble_eq_true rfl)⟩ ⟨(Nat.le_of_ble_eq_true rfl), (Nat.le_of_ble_eq_true rfl)⟩ (Nat.le_of_ble_eq_true rfl) [2, 3, 4, 5, 6, 7, 8, 9, 1] [0, 10, 11, 12, 13] rfl rfl rfl rfl (by decide) [0, 13, 5, 6, 7, 8, 9, 10, 11, 12, 1, 2, 3, 4] rfl (ws2 := fun ha_2 => [(a 0, oX8 a), (a 21, oX6 (hM 21)), (a 23, oX4 a (o_1 23)), (a 24, .inl (xO E, 6, .inr (.inr (.inr (.inr (xhf ha_2)))))), (ha_2 0, oX6 (o_1 60)), (ha_2 1, oX6 (o_1 61)), (ha_2 2, oX6 (o_1 62)), (ha_2 3, oX6 (o_1 63)), (ha_2 4, oX6 (o_1 64)), (ha_2 5, oX6 (o_1 65)), (a 27, .inl (xO E, 2, .inr (.inr (.inr (.inr (xsl a)))))), (a 28, oX6 (hM 28)), (a 29, oX6 (hM 29)), (a 30, aZ E 2 (hM 30))]) (fun _ => rfl) (fun ha_2 => ?_)
      refine r.aload_n 0 (DX8_restore 19 rfl) rfl ?_
      refine r.get (v := .ref (a 21)) kX8 f_X8_53 rfl 0 rfl rfl (DX8_restore 20 rfl) ?_
      refine r.aload_n 0 (DX8_restore 21 rfl) rfl ?_
      refine r.get (v := .ref (a 27)) kX8 f_X8_74 rfl 0 rfl rfl (DX8_restore 22 rfl) ?_
      refine r.iload_n 1 (DX8_restore 23 rfl) rfl ?_
      refine xif hxt (fun hc hxt => ?_) (fun _ hxt => ?_)
      · refine r.aald (b := (a 28)) 10 rfl (by rw [hc]; unfold vp_in; decide) (by rw [hc]; rfl) (DX8_restore 24 rfl) ?_
        obtain ⟨o_3, ho_3, hxt⟩ := xbd hxt
        refine r.callVV 0 rfl rfl (t_X6_take E a (a 21) (a 28) (hM 21) (hM 28) ho_3) g_X8_230 rfl (DX8_restore 25 rfl) rfl ⟨(Nat.le_of_ble_eq_true rfl), (Nat.le_of_ble_eq_true rfl)⟩ ⟨(Nat.le_of_ble_eq_true rfl), (Nat.le_of_ble_eq_true rfl)⟩ (Nat.le_of_ble_eq_true rfl) [1, 11] [0, 2, 3, 4, 5, 6, 7, 8, 9, 10, 12, 13] rfl rfl rfl rfl (by decide) [0, 12, 1, 2, 3, 4, 5, 6, 7, 8, 9, 13, 10, 11] rfl (ws2 := fun _ => [(a 0, oX8 a), (a 21, oX6 o_3), (a 23, oX4 a (o_1 23)), (a 24, .inl (xO E, 6, .inr (.inr (.inr (.inr (xhf ha_2)))))), (ha_2 0, oX6 (o_1 60)), (ha_2 1, oX6 (o_1 61)), (ha_2 2, oX6 (o_1 62)), (ha_2 3, oX6 (o_1 63)), (ha_2 4, oX6 (o_1 64)), (ha_2 5, oX6 (o_1 65)), (a 27, .inl (xO E, 2, .inr (.inr (.inr (.inr (xsl a)))))), (a 28, oX6 (hM 28)), (a 29, oX6 (hM 29)), (a 30, aZ E 2 (hM 30))]) (fun _ => rfl) (fun _ => ?_)
        refine r.aload_n 0 (DX8_restore 26 rfl) rfl ?_
        refine r.get (v := .ref (a 21)) kX8 f_X8_53 rfl 0 rfl rfl (DX8_restore 27 rfl) ?_
        refine r.get (v := .int (o_3 1)) kX6 f_X8_102 rfl 1 rfl rfl (DX8_restore 28 rfl) ?_
        obtain ⟨o_4, ho_4, hxt⟩ := xbd hxt
        refine r.callSI0 (t_J6_bitCount_0f7a4 E (o_3 1) ho_4) g_X8_106 rfl (DX8_restore 29 rfl) rfl ⟨(Nat.le_of_ble_eq_true rfl), (Nat.le_of_ble_eq_true rfl)⟩ (Nat.le_of_ble_eq_true rfl) ?_
        cases hxt
        exact hret _ _ _ _ (DX8_restore 30 rfl) rfl ⟨ha_2, rfl, rfl⟩
      refine xif hxt (fun hc hxt => ?_) (fun _ hxt => ?_)
      · refine r.aald (b := (a 29)) 10 rfl (by rw [hc]; unfold vp_in; decide) (by rw [hc]; rfl) (DX8_restore 24 rfl) ?_
        obtain ⟨o_5, ho_5, hxt⟩ := xbd hxt
        refine r.callVV 0 rfl rfl (t_X6_take E a (a 21) (a 29) (hM 21) (hM 29) ho_5) g_X8_230 rfl (DX8_restore 25 rfl) rfl ⟨(Nat.le_of_ble_eq_true rfl), (Nat.le_of_ble_eq_true rfl)⟩ ⟨(Nat.le_of_ble_eq_true rfl), (Nat.le_of_ble_eq_true rfl)⟩ (Nat.le_of_ble_eq_true rfl) [1, 12] [0, 2, 3, 4, 5, 6, 7, 8, 9, 10, 11, 13] rfl rfl rfl rfl (by decide) [0, 12, 1, 2, 3, 4, 5, 6, 7, 8, 9, 10, 13, 11] rfl (ws2 := fun _ => [(a 0, oX8 a), (a 21, oX6 o_5), (a 23, oX4 a (o_1 23)), (a 24, .inl (xO E, 6, .inr (.inr (.inr (.inr (xhf ha_2)))))), (ha_2 0, oX6 (o_1 60)), (ha_2 1, oX6 (o_1 61)), (ha_2 2, oX6 (o_1 62)), (ha_2 3, oX6 (o_1 63)), (ha_2 4, oX6 (o_1 64)), (ha_2 5, oX6 (o_1 65)), (a 27, .inl (xO E, 2, .inr (.inr (.inr (.inr (xsl a)))))), (a 28, oX6 (hM 28)), (a 29, oX6 (hM 29)), (a 30, aZ E 2 (hM 30))]) (fun _ => rfl) (fun _ => ?_)
        refine r.aload_n 0 (DX8_restore 26 rfl) rfl ?_
        refine r.get (v := .ref (a 21)) kX8 f_X8_53 rfl 0 rfl rfl (DX8_restore 27 rfl) ?_
        refine r.get (v := .int (o_5 1)) kX6 f_X8_102 rfl 1 rfl rfl (DX8_restore 28 rfl) ?_
        obtain ⟨o_6, ho_6, hxt⟩ := xbd hxt
        refine r.callSI0 (t_J6_bitCount_0f7a4 E (o_5 1) ho_6) g_X8_106 rfl (DX8_restore 29 rfl) rfl ⟨(Nat.le_of_ble_eq_true rfl), (Nat.le_of_ble_eq_true rfl)⟩ (Nat.le_of_ble_eq_true rfl) ?_
        cases hxt
        exact hret _ _ _ _ (DX8_restore 30 rfl) rfl ⟨ha_2, rfl, rfl⟩
      cases hxt
    refine r.bipush (v := (-5 : Int32)) (DX8_restore 12 rfl) rfl ?_
    cases hxt
    exact hret _ _ _ _ (DX8_restore 13 rfl) rfl ⟨ha, rfl, rfl⟩
  refine r.bipush (v := (-2 : Int32)) (DX8_restore 5 rfl) rfl ?_
  cases hxt
  exact hret _ _ _ _ (DX8_restore 6 rfl) rfl ⟨ha, rfl, rfl⟩
