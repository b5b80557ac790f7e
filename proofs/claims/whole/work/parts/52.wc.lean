set_option maxRecDepth 100000 in
set_option maxHeartbeats 4000000 in
theorem t_X0_signOf (E : xE) (a : Nat → Nat) (hp0 : Nat) (sp0 : Nat → Int32) {o : Int32} (hxt : xt_X0_signOf sp0 = some o) : xMI (S := Unit) E yX0_signOf cX0_signOf 1 .int 0 0 0 [.ref hp0] [(hp0, oX6 sp0)] (fun _ => o) (fun _ => [(hp0, oX6 sp0)]) := by
  refine xMI.of (own := RX0) (lo0 := [(0, .ref hp0)]) (by decide +kernel) rfl rfl (Nat.le_of_ble_eq_true rfl) (fun V r hret => ?_)
  unfold xt_X0_signOf at hxt
  refine r.aload_n 0 (DX0_signOf 0 rfl) rfl ?_
  refine r.get (v := .int (sp0 0)) kX6 f_X0_31 rfl 0 rfl rfl (DX0_signOf 1 rfl) ?_
  refine r.bipush (v := (16 : Int32)) (DX0_signOf 2 rfl) rfl ?_
  refine r.ishl (DX0_signOf 3 rfl) ?_
  refine r.aload_n 0 (DX0_signOf 4 rfl) rfl ?_
  refine r.get (v := .int (sp0 1)) kX6 f_X0_36 rfl 0 rfl rfl (DX0_signOf 5 rfl) ?_
  refine r.ior (DX0_signOf 6 rfl) ?_
  cases hxt
  exact hret _ _ _ _ (DX0_signOf 7 rfl) rfl ⟨(), rfl, rfl⟩
set_option maxRecDepth 100000 in
set_option maxHeartbeats 4000000 in
theorem t_X0_placesForFox (E : xE) (a : Nat → Nat) (x1 : Int32) (hM : Mem) {o : Int32} (hxt : xt_X0_placesForFox x1 hM = some o) : xMI (S := Unit) E yX0_placesForFox cX0_placesForFox 3 .int 1 0 0 [.ref (a 9), .int x1] [(a 1, oX3 a), (a 7, aI E 128 (hM 7)), (a 9, oX0 a (hM 9))] (fun _ => o) (fun _ => [(a 1, oX3 a), (a 7, aI E 128 (hM 7)), (a 9, oX0 a (hM 9))]) := by
  refine xMI.of (own := RX0) (lo0 := [(0, .ref (a 9)), (1, .int x1)]) (by decide +kernel) rfl rfl (Nat.le_of_ble_eq_true rfl) (fun V r hret => ?_)
  unfold xt_X0_placesForFox at hxt
  refine r.aload_n 0 (DX0_placesForFox 0 rfl) rfl ?_
  refine r.get (v := .ref (a 1)) kX0 f_X0_9 rfl 2 rfl rfl (DX0_placesForFox 1 rfl) ?_
  refine r.iload_n 1 (DX0_placesForFox 2 rfl) rfl ?_
  obtain ⟨o_1, ho_1, hxt⟩ := xbd hxt
  refine r.callVI 0 rfl rfl (t_X3_placesOf E a x1 hM ho_1) g_X0_77 rfl (DX0_placesForFox 3 rfl) rfl ⟨(Nat.le_of_ble_eq_true rfl), (Nat.le_of_ble_eq_true rfl)⟩ ⟨(Nat.le_of_ble_eq_true rfl), (Nat.le_of_ble_eq_true rfl)⟩ (Nat.le_of_ble_eq_true rfl) [0, 1] [2] rfl rfl rfl rfl (by decide) [1, 2, 0] rfl (ws2 := fun _ => [(a 1, oX3 a), (a 7, aI E 128 (hM 7)), (a 9, oX0 a (hM 9))]) (fun _ => rfl) (fun _ => ?_)
  refine r.istore_n (lo' := [(2, .int o_1), (0, .ref (a 9)), (1, .int x1)]) (DX0_placesForFox 4 rfl) (Nat.le_of_ble_eq_true rfl) rfl ?_
  refine r.iload_n 0 (DX0_placesForFox 5 rfl) rfl ?_
  refine r.aload_n 1 (DX0_placesForFox 6 rfl) rfl ?_
  refine r.get (v := .int ((hM 9) 5)) kX0 f_X0_44 rfl 2 rfl rfl (DX0_placesForFox 7 rfl) ?_
  refine r.iand (DX0_placesForFox 8 rfl) ?_
  refine r.iload_n 0 (DX0_placesForFox 9 rfl) rfl ?_
  refine r.icmp_ne 30 (DX0_placesForFox 10 rfl) rfl hxt (fun _ hxt => ?_) (fun _ hxt => ?_)
  · refine r.iconst (v := (0 : Int32)) (DX0_placesForFox 18 rfl) rfl ?_
    cases hxt
    exact hret _ _ _ _ (DX0_placesForFox 19 rfl) rfl ⟨(), rfl, rfl⟩
  refine r.aload_n 1 (DX0_placesForFox 11 rfl) rfl ?_
  refine r.get (v := .int ((hM 9) 5)) kX0 f_X0_44 rfl 2 rfl rfl (DX0_placesForFox 12 rfl) ?_
  refine r.iload_n 0 (DX0_placesForFox 13 rfl) rfl ?_
  refine r.iconst (v := (-1 : Int32)) (DX0_placesForFox 14 rfl) rfl ?_
  refine r.ixor (DX0_placesForFox 15 rfl) ?_
  refine r.iand (DX0_placesForFox 16 rfl) ?_
  refine r.goto 31 (DX0_placesForFox 17 rfl) rfl ?_
  cases hxt
  exact hret _ _ _ _ (DX0_placesForFox 19 rfl) rfl ⟨(), rfl, rfl⟩
set_option maxRecDepth 100000 in
set_option maxHeartbeats 4000000 in
theorem l_X0_keep_8 (E : xE) (a : Nat → Nat) (x1 : Int32) (x2 : Int32) (x3 : Int32) (x4 : Int32) (hM : Mem) {V : xVT} (r : Rl E RX0 cX0_keep (xR 0 0 0) 6 false V) {o : Mem} {k : Mem → Option (Mem)} (hk : ∀ (mM : Mem), k mM = some o → V 0 0 55 [] [] [(a 9, oX0 a (hM 9)), (a 10, aI E 4096 (mM 10))]) : ∀ (n : Nat) (v5 : Int32) (mM : Mem), xt_X0_keep_l8 x1 x2 x3 x4 hM k n v5 mM = some o → V 0 0 8 [(0, .ref (a 9)), (1, .int x1), (2, .int x2), (3, .int x3), (4, .int x4), (5, .int v5)] [] [(a 9, oX0 a (hM 9)), (a 10, aI E 4096 (mM 10))] := by
  intro n
  induction n with
  | zero => intro v5 mM hxt; exact xno hxt
  | succ n ih =>
    intro v5 mM hxt
    rw [xt_X0_keep_l8] at hxt
    refine r.iload 5 (DX0_keep 5 rfl) rfl ?_
    refine r.bipush (v := (16 : Int32)) (DX0_keep 6 rfl) rfl ?_
    refine r.icmp_ge 55 (DX0_keep 7 rfl) rfl hxt (fun _ hxt => ?_) (fun _ hxt => ?_)
    · refine r.rel (lo' := []) [] rfl ?_
      exact hk (mgs hM [10] mM) hxt
    refine r.iload_n 1 (DX0_keep 8 rfl) rfl ?_
    refine r.iload 5 (DX0_keep 9 rfl) rfl ?_
    refine r.ishr (DX0_keep 10 rfl) ?_
    refine r.iconst (v := (1 : Int32)) (DX0_keep 11 rfl) rfl ?_
    refine r.iand (DX0_keep 12 rfl) ?_
    refine r.if_eq 49 (DX0_keep 13 rfl) rfl hxt (fun _ hxt => ?_) (fun _ hxt => ?_)
    · refine r.iinc (v := (v5 + (1 : Int32))) (lo' := [(5, .int (v5 + (1 : Int32))), (0, .ref (a 9)), (1, .int x1), (2, .int x2), (3, .int x3), (4, .int x4)]) 5 (DX0_keep 29 rfl) rfl rfl (Nat.le_of_ble_eq_true rfl) rfl ?_
      refine r.goto 8 (DX0_keep 30 rfl) rfl ?_
      refine r.rel (lo' := [(0, .ref (a 9)), (1, .int x1), (2, .int x2), (3, .int x3), (4, .int x4), (5, .int (v5 + (1 : Int32)))]) [1, 2, 3, 4, 5, 0] rfl ?_
      exact ih (v5 + (1 : Int32)) (mgs hM [10] mM) hxt
    refine r.aload_n 0 (DX0_keep 14 rfl) rfl ?_
    refine r.get (v := .ref (a 10)) kX0 f_X0_17 rfl 0 rfl rfl (DX0_keep 15 rfl) ?_
    refine r.sipush (v := (2048 : Int32)) (DX0_keep 16 rfl) rfl ?_
    refine r.iload_n 2 (DX0_keep 17 rfl) rfl ?_
    refine r.imul (DX0_keep 18 rfl) ?_
    refine r.sipush (v := (128 : Int32)) (DX0_keep 19 rfl) rfl ?_
    refine r.iload 5 (DX0_keep 20 rfl) rfl ?_
    refine r.imul (DX0_keep 21 rfl) ?_
    refine r.iadd (DX0_keep 22 rfl) ?_
    refine r.iload_n 3 (DX0_keep 23 rfl) rfl ?_
    refine r.iadd (DX0_keep 24 rfl) ?_
    refine r.sipush (v := (4095 : Int32)) (DX0_keep 25 rfl) rfl ?_
    refine r.iand (DX0_keep 26 rfl) ?_
    refine r.iload 4 (DX0_keep 27 rfl) rfl ?_
    obtain ⟨hin, hxt⟩ := xgd_some hxt
    refine r.iast (ws' := [(a 9, oX0 a (hM 9)), (a 10, aI E 4096 (upd (mM 10) (((((2048 : Int32) * x2) + ((128 : Int32) * v5)) + x3) &&& (4095 : Int32)).toNatClampNeg x4))]) 1 rfl hin rfl (DX0_keep 28 rfl) ?_
    refine r.iinc (v := (v5 + (1 : Int32))) (lo' := [(5, .int (v5 + (1 : Int32))), (0, .ref (a 9)), (1, .int x1), (2, .int x2), (3, .int x3), (4, .int x4)]) 5 (DX0_keep 29 rfl) rfl rfl (Nat.le_of_ble_eq_true rfl) rfl ?_
    refine r.goto 8 (DX0_keep 30 rfl) rfl ?_
    refine r.rel (lo' := [(0, .ref (a 9)), (1, .int x1), (2, .int x2), (3, .int x3), (4, .int x4), (5, .int (v5 + (1 : Int32)))]) [1, 2, 3, 4, 5, 0] rfl ?_
    exact ih (v5 + (1 : Int32)) (mset hM 10 (upd (mM 10) (((((2048 : Int32) * x2) + ((128 : Int32) * v5)) + x3) &&& (4095 : Int32)).toNatClampNeg x4)) hxt
set_option maxRecDepth 100000 in
set_option maxHeartbeats 4000000 in
theorem t_X0_keep (E : xE) (a : Nat → Nat) (x1 : Int32) (x2 : Int32) (x3 : Int32) (x4 : Int32) (hM : Mem) {o : Mem} (hxt : xt_X0_keep x1 x2 x3 x4 hM = some o) : xMV (S := Unit) E yX0_keep cX0_keep 6 0 0 0 [.ref (a 9), .int x1, .int x2, .int x3, .int x4] [(a 9, oX0 a (hM 9)), (a 10, aI E 4096 (hM 10))] (fun _ => [(a 9, oX0 a (hM 9)), (a 10, aI E 4096 (o 10))]) := by
  refine xMV.of (own := RX0) (lo0 := [(0, .ref (a 9)), (1, .int x1), (2, .int x2), (3, .int x3), (4, .int x4)]) (ini := false) (fun h => nomatch h) (by decide +kernel) rfl rfl (Nat.le_of_ble_eq_true rfl) (fun V r hret => ?_)
  unfold xt_X0_keep at hxt
  refine r.iload_n 1 (DX0_keep 0 rfl) rfl ?_
  refine r.if_ne 5 (DX0_keep 1 rfl) rfl hxt (fun _ hxt => ?_) (fun _ hxt => ?_)
  · refine r.iconst (v := (0 : Int32)) (DX0_keep 3 rfl) rfl ?_
    refine r.istore (lo' := [(5, .int (0 : Int32)), (0, .ref (a 9)), (1, .int x1), (2, .int x2), (3, .int x3), (4, .int x4)]) (DX0_keep 4 rfl) (Nat.le_of_ble_eq_true rfl) rfl ?_
    refine r.rel (lo' := [(0, .ref (a 9)), (1, .int x1), (2, .int x2), (3, .int x3), (4, .int x4), (5, .int (0 : Int32))]) [1, 2, 3, 4, 5, 0] rfl ?_
    refine l_X0_keep_8 E a x1 x2 x3 x4 hM r (fun m_1 hxt => ?_) 10000 (0 : Int32) hM hxt
    cases hxt
    exact hret _ _ _ (DX0_keep 31 rfl) ⟨(), rfl⟩
  cases hxt
  exact hret _ _ _ (DX0_keep 2 rfl) ⟨(), rfl⟩
set_option maxRecDepth 100000 in
set_option maxHeartbeats 4000000 in
theorem l_X0_foxLevel_37 (E : xE) (a : Nat → Nat) (x1 : Int32) (x2 : Int32) (x3 : Int32) (x4 : Int32) (hM : Mem) {V : xVT} (r : Rl E RX0 cX0_foxLevel (xR 2 0 0) 7 false V) {o : Int32 × Mem} {k : Int32 → Option (Int32 × Mem)} (hk : ∀ (v5 : Int32), k v5 = some o → V 0 0 87 [(0, .ref (a 9)), (1, .int x1), (2, .int x2), (5, .int v5)] [] [(a 1, oX3 a), (a 2, aI E 16 (hM 2)), (a 3, aI E 16 (hM 3)), (a 7, aI E 128 (hM 7)), (a 9, oX0 a (hM 9)), (a 10, aI E 4096 (hM 10)), (a 11, aI E 120 (hM 11)), (a 12, aI E 120 (hM 12))]) : ∀ (n : Nat) (v5 : Int32) (v6 : Int32), xt_X0_foxLevel_l37 x1 x2 x3 x4 hM k n v5 v6 = some o → V 0 0 37 [(0, .ref (a 9)), (1, .int x1), (2, .int x2), (3, .int x3), (4, .int x4), (5, .int v5), (6, .int v6)] [] [(a 1, oX3 a), (a 2, aI E 16 (hM 2)), (a 3, aI E 16 (hM 3)), (a 7, aI E 128 (hM 7)), (a 9, oX0 a (hM 9)), (a 10, aI E 4096 (hM 10)), (a 11, aI E 120 (hM 11)), (a 12, aI E 120 (hM 12))] := by
  intro n
  induction n with
  | zero => intro v5 v6 hxt; exact xno hxt
  | succ n ih =>
    intro v5 v6 hxt
    rw [xt_X0_foxLevel_l37] at hxt
    refine r.iload 6 (DX0_foxLevel_0 26 rfl) rfl ?_
    refine r.bipush (v := (16 : Int32)) (DX0_foxLevel_0 27 rfl) rfl ?_
    refine r.icmp_ge 87 (DX0_foxLevel_0 28 rfl) rfl hxt (fun _ hxt => ?_) (fun _ hxt => ?_)
    · refine r.rel (lo' := [(0, .ref (a 9)), (1, .int x1), (2, .int x2), (5, .int v5)]) [0, 1, 2, 5] rfl ?_
      exact hk v5 hxt
    refine r.iload_n 3 (DX0_foxLevel_0 29 rfl) rfl ?_
    refine r.iload 6 (DX0_foxLevel_0 30 rfl) rfl ?_
    refine r.ishr (DX0_foxLevel_0 31 rfl) ?_
    refine r.iconst (v := (1 : Int32)) (DX0_foxLevel_0 32 rfl) rfl ?_
    refine r.iand (DX0_foxLevel_0 33 rfl) ?_
    refine r.if_eq 81 (DX0_foxLevel_0 34 rfl) rfl hxt (fun _ hxt => ?_) (fun _ hxt => ?_)
    · refine r.iinc (v := (v6 + (1 : Int32))) (lo' := [(6, .int (v6 + (1 : Int32))), (0, .ref (a 9)), (1, .int x1), (2, .int x2), (3, .int x3), (4, .int x4), (5, .int v5)]) 6 (DX0_foxLevel_0 50 rfl) rfl rfl (Nat.le_of_ble_eq_true rfl) rfl ?_
      refine r.goto 37 (DX0_foxLevel_0 51 rfl) rfl ?_
      refine r.rel (lo' := [(0, .ref (a 9)), (1, .int x1), (2, .int x2), (3, .int x3), (4, .int x4), (5, .int v5), (6, .int (v6 + (1 : Int32)))]) [1, 2, 3, 4, 5, 6, 0] rfl ?_
      exact ih v5 (v6 + (1 : Int32)) hxt
    refine r.aload_n 0 (DX0_foxLevel_0 35 rfl) rfl ?_
    refine r.get (v := .ref (a 1)) kX0 f_X0_9 rfl 4 rfl rfl (DX0_foxLevel_0 36 rfl) ?_
    refine r.iload 6 (DX0_foxLevel_0 37 rfl) rfl ?_
    refine r.aload_n 0 (DX0_foxLevel_0 38 rfl) rfl ?_
    refine r.get (v := .int ((hM 9) 6)) kX0 f_X0_51 rfl 4 rfl rfl (DX0_foxLevel_0 39 rfl) ?_
    obtain ⟨o_3, ho_3, hxt⟩ := xbd hxt
    refine r.callVI 0 rfl rfl (t_X3_stepsFrom E a v6 ((hM 9) 6) hM ho_3) g_X0_83 rfl (DX0_foxLevel_0 40 rfl) rfl ⟨(Nat.le_of_ble_eq_true rfl), (Nat.le_of_ble_eq_true rfl)⟩ ⟨(Nat.le_of_ble_eq_true rfl), (Nat.le_of_ble_eq_true rfl)⟩ (Nat.le_of_ble_eq_true rfl) [0, 1, 2] [3, 4, 5, 6, 7] rfl rfl rfl rfl (by decide) [5, 6, 7, 0, 1, 2, 3, 4] rfl (ws2 := fun _ => [(a 1, oX3 a), (a 2, aI E 16 (hM 2)), (a 3, aI E 16 (hM 3)), (a 7, aI E 128 (hM 7)), (a 9, oX0 a (hM 9)), (a 10, aI E 4096 (hM 10)), (a 11, aI E 120 (hM 11)), (a 12, aI E 120 (hM 12))]) (fun _ => rfl) (fun _ => ?_)
    refine r.iload 4 (DX0_foxLevel_0 41 rfl) rfl ?_
    refine r.iand (DX0_foxLevel_0 42 rfl) ?_
    refine r.if_ne 81 (DX0_foxLevel_0 43 rfl) rfl hxt (fun _ hxt => ?_) (fun _ hxt => ?_)
    · refine r.iinc (v := (v6 + (1 : Int32))) (lo' := [(6, .int (v6 + (1 : Int32))), (0, .ref (a 9)), (1, .int x1), (2, .int x2), (3, .int x3), (4, .int x4), (5, .int v5)]) 6 (DX0_foxLevel_0 50 rfl) rfl rfl (Nat.le_of_ble_eq_true rfl) rfl ?_
      refine r.goto 37 (DX0_foxLevel_0 51 rfl) rfl ?_
      refine r.rel (lo' := [(0, .ref (a 9)), (1, .int x1), (2, .int x2), (3, .int x3), (4, .int x4), (5, .int v5), (6, .int (v6 + (1 : Int32)))]) [1, 2, 3, 4, 5, 6, 0] rfl ?_
      exact ih v5 (v6 + (1 : Int32)) hxt
    refine r.iload 5 (DX0_foxLevel_0 44 rfl) rfl ?_
    refine r.iconst (v := (1 : Int32)) (DX0_foxLevel_0 45 rfl) rfl ?_
    refine r.iload 6 (DX0_foxLevel_0 46 rfl) rfl ?_
    refine r.ishl (DX0_foxLevel_0 47 rfl) ?_
    refine r.ior (DX0_foxLevel_0 48 rfl) ?_
    refine r.istore (lo' := [(5, .int (v5 ||| ((1 : Int32) <<< (v6 &&& 31)))), (0, .ref (a 9)), (1, .int x1), (2, .int x2), (3, .int x3), (4, .int x4), (6, .int v6)]) (DX0_foxLevel_0 49 rfl) (Nat.le_of_ble_eq_true rfl) rfl ?_
    refine r.iinc (v := (v6 + (1 : Int32))) (lo' := [(6, .int (v6 + (1 : Int32))), (5, .int (v5 ||| ((1 : Int32) <<< (v6 &&& 31)))), (0, .ref (a 9)), (1, .int x1), (2, .int x2), (3, .int x3), (4, .int x4)]) 6 (DX0_foxLevel_0 50 rfl) rfl rfl (Nat.le_of_ble_eq_true rfl) rfl ?_
    refine r.goto 37 (DX0_foxLevel_0 51 rfl) rfl ?_
    refine r.rel (lo' := [(0, .ref (a 9)), (1, .int x1), (2, .int x2), (3, .int x3), (4, .int x4), (5, .int (v5 ||| ((1 : Int32) <<< (v6 &&& 31)))), (6, .int (v6 + (1 : Int32)))]) [2, 3, 4, 5, 6, 1, 0] rfl ?_
    exact ih (v5 ||| ((1 : Int32) <<< (v6 &&& 31))) (v6 + (1 : Int32)) hxt
set_option maxRecDepth 100000 in
set_option maxHeartbeats 4000000 in
theorem t_X0_foxLevel (E : xE) (a : Nat → Nat) (x1 : Int32) (x2 : Int32) (hM : Mem) {o : Int32 × Mem} (hxt : xt_X0_foxLevel x1 x2 hM = some o) : xMI (S := Unit) E yX0_foxLevel cX0_foxLevel 7 .int 2 0 0 [.ref (a 9), .int x1, .int x2] [(a 1, oX3 a), (a 2, aI E 16 (hM 2)), (a 3, aI E 16 (hM 3)), (a 7, aI E 128 (hM 7)), (a 9, oX0 a (hM 9)), (a 10, aI E 4096 (hM 10)), (a 11, aI E 120 (hM 11)), (a 12, aI E 120 (hM 12))] (fun _ => o.1) (fun _ => [(a 1, oX3 a), (a 2, aI E 16 (hM 2)), (a 3, aI E 16 (hM 3)), (a 7, aI E 128 (hM 7)), (a 9, oX0 a (hM 9)), (a 10, aI E 4096 (o.2 10)), (a 11, aI E 120 (o.2 11)), (a 12, aI E 120 (hM 12))]) := by
  refine xMI.of (own := RX0) (lo0 := [(0, .ref (a 9)), (1, .int x1), (2, .int x2)]) (by decide +kernel) rfl rfl (Nat.le_of_ble_eq_true rfl) (fun V r hret => ?_)
  unfold xt_X0_foxLevel at hxt
  refine r.aload_n 0 (DX0_foxLevel_0 0 rfl) rfl ?_
  refine r.iload_n 1 (DX0_foxLevel_0 1 rfl) rfl ?_
  obtain ⟨o_1, ho_1, hxt⟩ := xbd hxt
  refine r.callVI 2 rfl rfl (t_X0_placesForFox E a x1 hM ho_1) g_X0_80 rfl (DX0_foxLevel_0 2 rfl) rfl ⟨(Nat.le_of_ble_eq_true rfl), (Nat.le_of_ble_eq_true rfl)⟩ ⟨(Nat.le_of_ble_eq_true rfl), (Nat.le_of_ble_eq_true rfl)⟩ (Nat.le_of_ble_eq_true rfl) [0, 3, 4] [1, 2, 5, 6, 7] rfl rfl rfl rfl (by decide) [5, 0, 1, 6, 7, 2, 3, 4] rfl (ws2 := fun _ => [(a 1, oX3 a), (a 2, aI E 16 (hM 2)), (a 3, aI E 16 (hM 3)), (a 7, aI E 128 (hM 7)), (a 9, oX0 a (hM 9)), (a 10, aI E 4096 (hM 10)), (a 11, aI E 120 (hM 11)), (a 12, aI E 120 (hM 12))]) (fun _ => rfl) (fun _ => ?_)
  refine r.aload_n 0 (DX0_foxLevel_0 3 rfl) rfl ?_
  refine r.get (v := .ref (a 11)) kX0 f_X0_21 rfl 4 rfl rfl (DX0_foxLevel_0 4 rfl) ?_
  refine r.iload_n 1 (DX0_foxLevel_0 5 rfl) rfl ?_
  obtain ⟨hin, hxt⟩ := xgd_some hxt
  refine r.iald 6 rfl hin (DX0_foxLevel_0 6 rfl) ?_
  refine r.iconst (v := (-1 : Int32)) (DX0_foxLevel_0 7 rfl) rfl ?_
  refine r.ixor (DX0_foxLevel_0 8 rfl) ?_
  refine r.iand (DX0_foxLevel_0 9 rfl) ?_
  refine r.istore_n (lo' := [(3, .int (o_1 &&& (((hM 11) x1.toNatClampNeg) ^^^ (-1 : Int32)))), (0, .ref (a 9)), (1, .int x1), (2, .int x2)]) (DX0_foxLevel_0 10 rfl) (Nat.le_of_ble_eq_true rfl) rfl ?_
  refine r.aload_n 1 (DX0_foxLevel_0 11 rfl) rfl ?_
  refine r.iload_n 2 (DX0_foxLevel_0 12 rfl) rfl ?_
  obtain ⟨o_2, ho_2, hxt⟩ := xbd hxt
  refine r.callVI 2 rfl rfl (t_X0_placesForFox E a x1 hM ho_2) g_X0_80 rfl (DX0_foxLevel_0 13 rfl) rfl ⟨(Nat.le_of_ble_eq_true rfl), (Nat.le_of_ble_eq_true rfl)⟩ ⟨(Nat.le_of_ble_eq_true rfl), (Nat.le_of_ble_eq_true rfl)⟩ (Nat.le_of_ble_eq_true rfl) [0, 3, 4] [1, 2, 5, 6, 7] rfl rfl rfl rfl (by decide) [5, 0, 1, 6, 7, 2, 3, 4] rfl (ws2 := fun _ => [(a 1, oX3 a), (a 2, aI E 16 (hM 2)), (a 3, aI E 16 (hM 3)), (a 7, aI E 128 (hM 7)), (a 9, oX0 a (hM 9)), (a 10, aI E 4096 (hM 10)), (a 11, aI E 120 (hM 11)), (a 12, aI E 120 (hM 12))]) (fun _ => rfl) (fun _ => ?_)
  refine r.aload_n 1 (DX0_foxLevel_0 14 rfl) rfl ?_
  refine r.get (v := .ref (a 12)) kX0 f_X0_24 rfl 4 rfl rfl (DX0_foxLevel_0 15 rfl) ?_
  refine r.iload_n 2 (DX0_foxLevel_0 16 rfl) rfl ?_
  obtain ⟨hin, hxt⟩ := xgd_some hxt
  refine r.iald 7 rfl hin (DX0_foxLevel_0 17 rfl) ?_
  refine r.iconst (v := (-1 : Int32)) (DX0_foxLevel_0 18 rfl) rfl ?_
  refine r.ixor (DX0_foxLevel_0 19 rfl) ?_
  refine r.iand (DX0_foxLevel_0 20 rfl) ?_
  refine r.istore (lo' := [(4, .int (o_2 &&& (((hM 12) x1.toNatClampNeg) ^^^ (-1 : Int32)))), (3, .int (o_1 &&& (((hM 11) x1.toNatClampNeg) ^^^ (-1 : Int32)))), (0, .ref (a 9)), (1, .int x1), (2, .int x2)]) (DX0_foxLevel_0 21 rfl) (Nat.le_of_ble_eq_true rfl) rfl ?_
  refine r.iconst (v := (0 : Int32)) (DX0_foxLevel_0 22 rfl) rfl ?_
  refine r.istore (lo' := [(5, .int (0 : Int32)), (4, .int (o_2 &&& (((hM 12) x1.toNatClampNeg) ^^^ (-1 : Int32)))), (3, .int (o_1 &&& (((hM 11) x1.toNatClampNeg) ^^^ (-1 : Int32)))), (0, .ref (a 9)), (1, .int x1), (2, .int x2)]) (DX0_foxLevel_0 23 rfl) (Nat.le_of_ble_eq_true rfl) rfl ?_
  refine r.iconst (v := (0 : Int32)) (DX0_foxLevel_0 24 rfl) rfl ?_
  refine r.istore (lo' := [(6, .int (0 : Int32)), (5, .int (0 : Int32)), (4, .int (o_2 &&& (((hM 12) x1.toNatClampNeg) ^^^ (-1 : Int32)))), (3, .int (o_1 &&& (((hM 11) x1.toNatClampNeg) ^^^ (-1 : Int32)))), (0, .ref (a 9)), (1, .int x1), (2, .int x2)]) (DX0_foxLevel_0 25 rfl) (Nat.le_of_ble_eq_true rfl) rfl ?_
  refine r.rel (lo' := [(0, .ref (a 9)), (1, .int x1), (2, .int x2), (3, .int (o_1 &&& (((hM 11) x1.toNatClampNeg) ^^^ (-1 : Int32)))), (4, .int (o_2 &&& (((hM 12) x1.toNatClampNeg) ^^^ (-1 : Int32)))), (5, .int (0 : Int32)), (6, .int (0 : Int32))]) [4, 5, 6, 3, 2, 1, 0] rfl ?_
  refine l_X0_foxLevel_37 E a x1 x2 (o_1 &&& (((hM 11) x1.toNatClampNeg) ^^^ (-1 : Int32))) (o_2 &&& (((hM 12) x1.toNatClampNeg) ^^^ (-1 : Int32))) hM r (fun v5_4 hxt => ?_) 10000 (0 : Int32) (0 : Int32) hxt
  refine r.aload_n 0 (DX0_foxLevel_0 52 rfl) rfl ?_
  refine r.get (v := .ref (a 11)) kX0 f_X0_21 rfl 4 rfl rfl (DX0_foxLevel_0 53 rfl) ?_
  refine r.iload_n 1 (DX0_foxLevel_0 54 rfl) rfl ?_
  refine r.dup2 (DX0_foxLevel_0 55 rfl) rfl rfl ?_
  obtain ⟨hin, hxt⟩ := xgd_some hxt
  refine r.iald 6 rfl hin (DX0_foxLevel_0 56 rfl) ?_
  refine r.iload 3 (DX0_foxLevel_0 57 rfl) rfl ?_
  refine r.ior (DX0_foxLevel_0 58 rfl) ?_
  obtain ⟨hin, hxt⟩ := xgd_some hxt
  refine r.iast (ws' := [(a 1, oX3 a), (a 2, aI E 16 (hM 2)), (a 3, aI E 16 (hM 3)), (a 7, aI E 128 (hM 7)), (a 9, oX0 a (hM 9)), (a 10, aI E 4096 (hM 10)), (a 11, aI E 120 (upd (hM 11) x1.toNatClampNeg (((hM 11) x1.toNatClampNeg) ||| v5_4))), (a 12, aI E 120 (hM 12))]) 6 rfl hin rfl (DX0_foxLevel_0 59 rfl) ?_
  refine r.aload_n 0 (DX0_foxLevel_1 0 rfl) rfl ?_
  refine r.iload 3 (DX0_foxLevel_1 1 rfl) rfl ?_
  refine r.iconst (v := (1 : Int32)) (DX0_foxLevel_1 2 rfl) rfl ?_
  refine r.iload_n 1 (DX0_foxLevel_1 3 rfl) rfl ?_
  refine r.iload_n 2 (DX0_foxLevel_1 4 rfl) rfl ?_
  obtain ⟨o_5, ho_5, hxt⟩ := xbd hxt
  refine r.callVV 0 rfl rfl (t_X0_keep E a v5_4 (1 : Int32) x1 x2 hM ho_5) g_X0_87 rfl (DX0_foxLevel_1 5 rfl) rfl ⟨(Nat.le_of_ble_eq_true rfl), (Nat.le_of_ble_eq_true rfl)⟩ ⟨(Nat.le_of_ble_eq_true rfl), (Nat.le_of_ble_eq_true rfl)⟩ (Nat.le_of_ble_eq_true rfl) [4, 5] [0, 1, 2, 3, 6, 7] rfl rfl rfl rfl (by decide) [0, 1, 2, 3, 6, 7, 4, 5] rfl (ws2 := fun _ => [(a 1, oX3 a), (a 2, aI E 16 (hM 2)), (a 3, aI E 16 (hM 3)), (a 7, aI E 128 (hM 7)), (a 9, oX0 a (hM 9)), (a 10, aI E 4096 (o_5 10)), (a 11, aI E 120 (upd (hM 11) x1.toNatClampNeg (((hM 11) x1.toNatClampNeg) ||| v5_4))), (a 12, aI E 120 (hM 12))]) (fun _ => rfl) (fun _ => ?_)
  refine r.iload 3 (DX0_foxLevel_1 6 rfl) rfl ?_
  cases hxt
  exact hret _ _ _ _ (DX0_foxLevel_1 7 rfl) rfl ⟨(), rfl, rfl⟩
set_option maxRecDepth 100000 in
set_option maxHeartbeats 4000000 in
theorem t_X0_knownWith (E : xE) (a : Nat → Nat) (x1 : Int32) (hM : Mem) {o : Int32} (hxt : xt_X0_knownWith x1 hM = some o) : xMI (S := Unit) E yX0_knownWith cX0_knownWith 2 .int 0 0 0 [.ref (a 9), .int x1] [(a 9, oX0 a (hM 9)), (a 11, aI E 120 (hM 11))] (fun _ => o) (fun _ => [(a 9, oX0 a (hM 9)), (a 11, aI E 120 (hM 11))]) := by
  refine xMI.of (own := RX0) (lo0 := [(0, .ref (a 9)), (1, .int x1)]) (by decide +kernel) rfl rfl (Nat.le_of_ble_eq_true rfl) (fun V r hret => ?_)
  unfold xt_X0_knownWith at hxt
  refine r.iload_n 1 (DX0_knownWith 0 rfl) rfl ?_
  refine r.if_lt 19 (DX0_knownWith 1 rfl) rfl hxt (fun _ hxt => ?_) (fun _ hxt => ?_)
  · refine r.iconst (v := (0 : Int32)) (DX0_knownWith 10 rfl) rfl ?_
    cases hxt
    exact hret _ _ _ _ (DX0_knownWith 11 rfl) rfl ⟨(), rfl, rfl⟩
  refine r.iload_n 1 (DX0_knownWith 2 rfl) rfl ?_
  refine r.bipush (v := (120 : Int32)) (DX0_knownWith 3 rfl) rfl ?_
  refine r.icmp_ge 19 (DX0_knownWith 4 rfl) rfl hxt (fun _ hxt => ?_) (fun _ hxt => ?_)
  · refine r.iconst (v := (0 : Int32)) (DX0_knownWith 10 rfl) rfl ?_
    cases hxt
    exact hret _ _ _ _ (DX0_knownWith 11 rfl) rfl ⟨(), rfl, rfl⟩
  refine r.aload_n 0 (DX0_knownWith 5 rfl) rfl ?_
  refine r.get (v := .ref (a 11)) kX0 f_X0_21 rfl 0 rfl rfl (DX0_knownWith 6 rfl) ?_
  refine r.iload_n 1 (DX0_knownWith 7 rfl) rfl ?_
  obtain ⟨hin, hxt⟩ := xgd_some hxt
  refine r.iald 1 rfl hin (DX0_knownWith 8 rfl) ?_
  refine r.goto 20 (DX0_knownWith 9 rfl) rfl ?_
  cases hxt
  exact hret _ _ _ _ (DX0_knownWith 11 rfl) rfl ⟨(), rfl, rfl⟩
set_option maxRecDepth 100000 in
set_option maxHeartbeats 4000000 in
theorem l_X0_reachedBy_30 (E : xE) (a : Nat → Nat) (x2 : Int32) (x3 : Int32) (hM : Mem) {V : xVT} (r : Rl E RX0 cX0_reachedBy (xR 1 0 0) 6 false V) {o : Int32} {k : Int32 → Option (Int32)} (hk : ∀ (v4 : Int32), k v4 = some o → V 0 0 71 [(4, .int v4)] [] [(a 1, oX3 a), (a 2, aI E 16 (hM 2)), (a 3, aI E 16 (hM 3)), (a 4, aI E 256 (hM 4)), (a 9, oX0 a (hM 9)), (a 11, aI E 120 (hM 11))]) : ∀ (n : Nat) (v4 : Int32) (v5 : Int32), xt_X0_reachedBy_l30 x2 x3 hM k n v4 v5 = some o → V 0 0 30 [(0, .ref (a 9)), (2, .int x2), (3, .int x3), (4, .int v4), (5, .int v5)] [] [(a 1, oX3 a), (a 2, aI E 16 (hM 2)), (a 3, aI E 16 (hM 3)), (a 4, aI E 256 (hM 4)), (a 9, oX0 a (hM 9)), (a 11, aI E 120 (hM 11))] := by
  intro n
  induction n with
  | zero => intro v4 v5 hxt; exact xno hxt
  | succ n ih =>
    intro v4 v5 hxt
    rw [xt_X0_reachedBy_l30] at hxt
    refine r.iload 4 (DX0_reachedBy 20 rfl) rfl ?_
    refine r.bipush (v := (16 : Int32)) (DX0_reachedBy 21 rfl) rfl ?_
    refine r.icmp_ge 71 (DX0_reachedBy 22 rfl) rfl hxt (fun _ hxt => ?_) (fun _ hxt => ?_)
    · refine r.rel (lo' := [(4, .int v4)]) [3] rfl ?_
      exact hk v4 hxt
    refine r.iload_n 2 (DX0_reachedBy 23 rfl) rfl ?_
    refine r.iload 4 (DX0_reachedBy 24 rfl) rfl ?_
    refine r.ishr (DX0_reachedBy 25 rfl) ?_
    refine r.iconst (v := (1 : Int32)) (DX0_reachedBy 26 rfl) rfl ?_
    refine r.iand (DX0_reachedBy 27 rfl) ?_
    refine r.if_eq 65 (DX0_reachedBy 28 rfl) rfl hxt (fun _ hxt => ?_) (fun _ hxt => ?_)
    · refine r.iinc (v := (v5 + (1 : Int32))) (lo' := [(5, .int (v5 + (1 : Int32))), (0, .ref (a 9)), (2, .int x2), (3, .int x3), (4, .int v4)]) 4 (DX0_reachedBy 39 rfl) rfl rfl (Nat.le_of_ble_eq_true rfl) rfl ?_
      refine r.goto 30 (DX0_reachedBy 40 rfl) rfl ?_
      refine r.rel (lo' := [(0, .ref (a 9)), (2, .int x2), (3, .int x3), (4, .int v4), (5, .int (v5 + (1 : Int32)))]) [1, 2, 3, 4, 0] rfl ?_
      exact ih v4 (v5 + (1 : Int32)) hxt
    refine r.iload 3 (DX0_reachedBy 29 rfl) rfl ?_
    refine r.aload_n 0 (DX0_reachedBy 30 rfl) rfl ?_
    refine r.aload_n 0 (DX0_reachedBy 31 rfl) rfl ?_
    refine r.get (v := .ref (a 1)) kX0 f_X0_9 rfl 4 rfl rfl (DX0_reachedBy 32 rfl) ?_
    refine r.iload 4 (DX0_reachedBy 33 rfl) rfl ?_
    refine r.iload_n 1 (DX0_reachedBy 34 rfl) rfl ?_
    obtain ⟨o_2, ho_2, hxt⟩ := xbd hxt
    refine r.callVI 0 rfl rfl (t_X3_pairOf E a v5 x2 hM ho_2) g_X0_100 rfl (DX0_reachedBy 35 rfl) rfl ⟨(Nat.le_of_ble_eq_true rfl), (Nat.le_of_ble_eq_true rfl)⟩ ⟨(Nat.le_of_ble_eq_true rfl), (Nat.le_of_ble_eq_true rfl)⟩ (Nat.le_of_ble_eq_true rfl) [0, 3] [1, 2, 4, 5] rfl rfl rfl rfl (by decide) [4, 0, 1, 5, 2, 3] rfl (ws2 := fun _ => [(a 1, oX3 a), (a 2, aI E 16 (hM 2)), (a 3, aI E 16 (hM 3)), (a 4, aI E 256 (hM 4)), (a 9, oX0 a (hM 9)), (a 11, aI E 120 (hM 11))]) (fun _ => rfl) (fun _ => ?_)
    obtain ⟨o_3, ho_3, hxt⟩ := xbd hxt
    refine r.callVI 0 rfl rfl (t_X0_knownWith E a o_2 hM ho_3) g_X0_103 rfl (DX0_reachedBy 36 rfl) rfl ⟨(Nat.le_of_ble_eq_true rfl), (Nat.le_of_ble_eq_true rfl)⟩ ⟨(Nat.le_of_ble_eq_true rfl), (Nat.le_of_ble_eq_true rfl)⟩ (Nat.le_of_ble_eq_true rfl) [4, 5] [0, 1, 2, 3] rfl rfl rfl rfl (by decide) [0, 1, 2, 3, 4, 5] rfl (ws2 := fun _ => [(a 1, oX3 a), (a 2, aI E 16 (hM 2)), (a 3, aI E 16 (hM 3)), (a 4, aI E 256 (hM 4)), (a 9, oX0 a (hM 9)), (a 11, aI E 120 (hM 11))]) (fun _ => rfl) (fun _ => ?_)
    refine r.ior (DX0_reachedBy 37 rfl) ?_
    refine r.istore (lo' := [(4, .int (v4 ||| o_3)), (0, .ref (a 9)), (2, .int x2), (3, .int x3), (5, .int v5)]) (DX0_reachedBy 38 rfl) (Nat.le_of_ble_eq_true rfl) rfl ?_
    refine r.iinc (v := (v5 + (1 : Int32))) (lo' := [(5, .int (v5 + (1 : Int32))), (4, .int (v4 ||| o_3)), (0, .ref (a 9)), (2, .int x2), (3, .int x3)]) 4 (DX0_reachedBy 39 rfl) rfl rfl (Nat.le_of_ble_eq_true rfl) rfl ?_
    refine r.goto 30 (DX0_reachedBy 40 rfl) rfl ?_
    refine r.rel (lo' := [(0, .ref (a 9)), (2, .int x2), (3, .int x3), (4, .int (v4 ||| o_3)), (5, .int (v5 + (1 : Int32)))]) [2, 3, 4, 1, 0] rfl ?_
    exact ih (v4 ||| o_3) (v5 + (1 : Int32)) hxt
set_option maxRecDepth 100000 in
set_option maxHeartbeats 4000000 in
theorem t_X0_reachedBy (E : xE) (a : Nat → Nat) (x1 : Int32) (x2 : Int32) (hM : Mem) {o : Int32} (hxt : xt_X0_reachedBy x1 x2 hM = some o) : xMI (S := Unit) E yX0_reachedBy cX0_reachedBy 6 .int 1 0 0 [.ref (a 9), .int x1, .int x2] [(a 1, oX3 a), (a 2, aI E 16 (hM 2)), (a 3, aI E 16 (hM 3)), (a 4, aI E 256 (hM 4)), (a 9, oX0 a (hM 9)), (a 11, aI E 120 (hM 11))] (fun _ => o) (fun _ => [(a 1, oX3 a), (a 2, aI E 16 (hM 2)), (a 3, aI E 16 (hM 3)), (a 4, aI E 256 (hM 4)), (a 9, oX0 a (hM 9)), (a 11, aI E 120 (hM 11))]) := by
  refine xMI.of (own := RX0) (lo0 := [(0, .ref (a 9)), (1, .int x1), (2, .int x2)]) (by decide +kernel) rfl rfl (Nat.le_of_ble_eq_true rfl) (fun V r hret => ?_)
  unfold xt_X0_reachedBy at hxt
  refine r.aload_n 0 (DX0_reachedBy 0 rfl) rfl ?_
  refine r.get (v := .ref (a 1)) kX0 f_X0_9 rfl 4 rfl rfl (DX0_reachedBy 1 rfl) ?_
  refine r.iload_n 1 (DX0_reachedBy 2 rfl) rfl ?_
  refine r.aload_n 0 (DX0_reachedBy 3 rfl) rfl ?_
  refine r.get (v := .int ((hM 9) 7)) kX0 f_X0_55 rfl 4 rfl rfl (DX0_reachedBy 4 rfl) ?_
  obtain ⟨o_1, ho_1, hxt⟩ := xbd hxt
  refine r.callVI 0 rfl rfl (t_X3_stepsFrom E a x1 ((hM 9) 7) hM ho_1) g_X0_83 rfl (DX0_reachedBy 5 rfl) rfl ⟨(Nat.le_of_ble_eq_true rfl), (Nat.le_of_ble_eq_true rfl)⟩ ⟨(Nat.le_of_ble_eq_true rfl), (Nat.le_of_ble_eq_true rfl)⟩ (Nat.le_of_ble_eq_true rfl) [0, 1, 2] [3, 4, 5] rfl rfl rfl rfl (by decide) [3, 4, 5, 0, 1, 2] rfl (ws2 := fun _ => [(a 1, oX3 a), (a 2, aI E 16 (hM 2)), (a 3, aI E 16 (hM 3)), (a 4, aI E 256 (hM 4)), (a 9, oX0 a (hM 9)), (a 11, aI E 120 (hM 11))]) (fun _ => rfl) (fun _ => ?_)
  refine r.aload_n 0 (DX0_reachedBy 6 rfl) rfl ?_
  refine r.get (v := .int ((hM 9) 5)) kX0 f_X0_44 rfl 4 rfl rfl (DX0_reachedBy 7 rfl) ?_
  refine r.iand (DX0_reachedBy 8 rfl) ?_
  refine r.iconst (v := (1 : Int32)) (DX0_reachedBy 9 rfl) rfl ?_
  refine r.iload_n 2 (DX0_reachedBy 10 rfl) rfl ?_
  refine r.ishl (DX0_reachedBy 11 rfl) ?_
  refine r.iconst (v := (-1 : Int32)) (DX0_reachedBy 12 rfl) rfl ?_
  refine r.ixor (DX0_reachedBy 13 rfl) ?_
  refine r.iand (DX0_reachedBy 14 rfl) ?_
  refine r.istore_n (lo' := [(3, .int ((o_1 &&& ((hM 9) 5)) &&& (((1 : Int32) <<< (x2 &&& 31)) ^^^ (-1 : Int32)))), (0, .ref (a 9)), (1, .int x1), (2, .int x2)]) (DX0_reachedBy 15 rfl) (Nat.le_of_ble_eq_true rfl) rfl ?_
  refine r.iload_n 0 (DX0_reachedBy 16 rfl) rfl ?_
  refine r.istore (lo' := [(4, .int ((o_1 &&& ((hM 9) 5)) &&& (((1 : Int32) <<< (x2 &&& 31)) ^^^ (-1 : Int32)))), (3, .int ((o_1 &&& ((hM 9) 5)) &&& (((1 : Int32) <<< (x2 &&& 31)) ^^^ (-1 : Int32)))), (0, .ref (a 9)), (1, .int x1), (2, .int x2)]) (DX0_reachedBy 17 rfl) (Nat.le_of_ble_eq_true rfl) rfl ?_
  refine r.iconst (v := (0 : Int32)) (DX0_reachedBy 18 rfl) rfl ?_
  refine r.istore (lo' := [(5, .int (0 : Int32)), (4, .int ((o_1 &&& ((hM 9) 5)) &&& (((1 : Int32) <<< (x2 &&& 31)) ^^^ (-1 : Int32)))), (3, .int ((o_1 &&& ((hM 9) 5)) &&& (((1 : Int32) <<< (x2 &&& 31)) ^^^ (-1 : Int32)))), (0, .ref (a 9)), (1, .int x1), (2, .int x2)]) (DX0_reachedBy 19 rfl) (Nat.le_of_ble_eq_true rfl) rfl ?_
  refine r.rel (lo' := [(0, .ref (a 9)), (2, .int x2), (3, .int ((o_1 &&& ((hM 9) 5)) &&& (((1 : Int32) <<< (x2 &&& 31)) ^^^ (-1 : Int32)))), (4, .int ((o_1 &&& ((hM 9) 5)) &&& (((1 : Int32) <<< (x2 &&& 31)) ^^^ (-1 : Int32)))), (5, .int (0 : Int32))]) [3, 5, 2, 1, 0] rfl ?_
  refine l_X0_reachedBy_30 E a x2 ((o_1 &&& ((hM 9) 5)) &&& (((1 : Int32) <<< (x2 &&& 31)) ^^^ (-1 : Int32))) hM r (fun v4_4 hxt => ?_) 10000 ((o_1 &&& ((hM 9) 5)) &&& (((1 : Int32) <<< (x2 &&& 31)) ^^^ (-1 : Int32))) (0 : Int32) hxt
  refine r.iload 0 (DX0_reachedBy 41 rfl) rfl ?_
  cases hxt
  exact hret _ _ _ _ (DX0_reachedBy 42 rfl) rfl ⟨(), rfl, rfl⟩
set_option maxRecDepth 100000 in
set_option maxHeartbeats 4000000 in
theorem t_X0_huntersLevel (E : xE) (a : Nat → Nat) (x1 : Int32) (x2 : Int32) (hM : Mem) {o : Int32 × Mem} (hxt : xt_X0_huntersLevel x1 x2 hM = some o) : xMI (S := Unit) E yX0_huntersLevel cX0_huntersLevel 8 .int 2 0 0 [.ref (a 9), .int x1, .int x2] [(a 1, oX3 a), (a 2, aI E 16 (hM 2)), (a 3, aI E 16 (hM 3)), (a 4, aI E 256 (hM 4)), (a 5, aI E 128 (hM 5)), (a 6, aI E 128 (hM 6)), (a 7, aI E 128 (hM 7)), (a 9, oX0 a (hM 9)), (a 10, aI E 4096 (hM 10)), (a 11, aI E 120 (hM 11)), (a 12, aI E 120 (hM 12))] (fun _ => o.1) (fun _ => [(a 1, oX3 a), (a 2, aI E 16 (hM 2)), (a 3, aI E 16 (hM 3)), (a 4, aI E 256 (hM 4)), (a 5, aI E 128 (hM 5)), (a 6, aI E 128 (hM 6)), (a 7, aI E 128 (hM 7)), (a 9, oX0 a (hM 9)), (a 10, aI E 4096 (o.2 10)), (a 11, aI E 120 (hM 11)), (a 12, aI E 120 (o.2 12))]) := by
  refine xMI.of (own := RX0) (lo0 := [(0, .ref (a 9)), (1, .int x1), (2, .int x2)]) (by decide +kernel) rfl rfl (Nat.le_of_ble_eq_true rfl) (fun V r hret => ?_)
  unfold xt_X0_huntersLevel at hxt
  refine r.aload_n 0 (DX0_huntersLevel_0 0 rfl) rfl ?_
  refine r.iload_n 1 (DX0_huntersLevel_0 1 rfl) rfl ?_
  obtain ⟨o_1, ho_1, hxt⟩ := xbd hxt
  refine r.callVI 2 rfl rfl (t_X0_placesForFox E a x1 hM ho_1) g_X0_80 rfl (DX0_huntersLevel_0 2 rfl) rfl ⟨(Nat.le_of_ble_eq_true rfl), (Nat.le_of_ble_eq_true rfl)⟩ ⟨(Nat.le_of_ble_eq_true rfl), (Nat.le_of_ble_eq_true rfl)⟩ (Nat.le_of_ble_eq_true rfl) [0, 6, 7] [1, 2, 3, 4, 5, 8, 9, 10] rfl rfl rfl rfl (by decide) [8, 0, 1, 2, 3, 4, 9, 10, 5, 6, 7] rfl (ws2 := fun _ => [(a 1, oX3 a), (a 2, aI E 16 (hM 2)), (a 3, aI E 16 (hM 3)), (a 4, aI E 256 (hM 4)), (a 5, aI E 128 (hM 5)), (a 6, aI E 128 (hM 6)), (a 7, aI E 128 (hM 7)), (a 9, oX0 a (hM 9)), (a 10, aI E 4096 (hM 10)), (a 11, aI E 120 (hM 11)), (a 12, aI E 120 (hM 12))]) (fun _ => rfl) (fun _ => ?_)
  refine r.aload_n 0 (DX0_huntersLevel_0 3 rfl) rfl ?_
  refine r.get (v := .ref (a 12)) kX0 f_X0_24 rfl 7 rfl rfl (DX0_huntersLevel_0 4 rfl) ?_
  refine r.iload_n 1 (DX0_huntersLevel_0 5 rfl) rfl ?_
  obtain ⟨hin, hxt⟩ := xgd_some hxt
  refine r.iald 10 rfl hin (DX0_huntersLevel_0 6 rfl) ?_
  refine r.iconst (v := (-1 : Int32)) (DX0_huntersLevel_0 7 rfl) rfl ?_
  refine r.ixor (DX0_huntersLevel_0 8 rfl) ?_
  refine r.iand (DX0_huntersLevel_0 9 rfl) ?_
  refine r.istore_n (lo' := [(3, .int (o_1 &&& (((hM 12) x1.toNatClampNeg) ^^^ (-1 : Int32)))), (0, .ref (a 9)), (1, .int x1), (2, .int x2)]) (DX0_huntersLevel_0 10 rfl) (Nat.le_of_ble_eq_true rfl) rfl ?_
  refine r.iload_n 0 (DX0_huntersLevel_0 11 rfl) rfl ?_
  refine r.if_ne 21 (DX0_huntersLevel_0 12 rfl) rfl hxt (fun _ hxt => ?_) (fun _ hxt => ?_)
  · refine r.aload_n 1 (DX0_huntersLevel_0 15 rfl) rfl ?_
    refine r.get (v := .ref (a 1)) kX0 f_X0_9 rfl 7 rfl rfl (DX0_huntersLevel_0 16 rfl) ?_
    refine r.iload_n 2 (DX0_huntersLevel_0 17 rfl) rfl ?_
    obtain ⟨o_2, ho_2, hxt⟩ := xbd hxt
    refine r.callVI 0 rfl rfl (t_X3_lowerOf E a x1 hM ho_2) g_X0_91 rfl (DX0_huntersLevel_0 18 rfl) rfl ⟨(Nat.le_of_ble_eq_true rfl), (Nat.le_of_ble_eq_true rfl)⟩ ⟨(Nat.le_of_ble_eq_true rfl), (Nat.le_of_ble_eq_true rfl)⟩ (Nat.le_of_ble_eq_true rfl) [0, 4] [1, 2, 3, 5, 6, 7, 8, 9, 10] rfl rfl rfl rfl (by decide) [9, 0, 1, 2, 10, 3, 4, 5, 6, 7, 8] rfl (ws2 := fun _ => [(a 1, oX3 a), (a 2, aI E 16 (hM 2)), (a 3, aI E 16 (hM 3)), (a 4, aI E 256 (hM 4)), (a 5, aI E 128 (hM 5)), (a 6, aI E 128 (hM 6)), (a 7, aI E 128 (hM 7)), (a 9, oX0 a (hM 9)), (a 10, aI E 4096 (hM 10)), (a 11, aI E 120 (hM 11)), (a 12, aI E 120 (hM 12))]) (fun _ => rfl) (fun _ => ?_)
    refine r.istore (lo' := [(4, .int o_2), (3, .int (o_1 &&& (((hM 12) x1.toNatClampNeg) ^^^ (-1 : Int32)))), (0, .ref (a 9)), (1, .int x1), (2, .int x2)]) (DX0_huntersLevel_0 19 rfl) (Nat.le_of_ble_eq_true rfl) rfl ?_
    refine r.aload_n 2 (DX0_huntersLevel_0 20 rfl) rfl ?_
    refine r.get (v := .ref (a 1)) kX0 f_X0_9 rfl 7 rfl rfl (DX0_huntersLevel_0 21 rfl) ?_
    refine r.iload_n 3 (DX0_huntersLevel_0 22 rfl) rfl ?_
    obtain ⟨o_3, ho_3, hxt⟩ := xbd hxt
    refine r.callVI 0 rfl rfl (t_X3_higherOf E a x1 hM ho_3) g_X0_94 rfl (DX0_huntersLevel_0 23 rfl) rfl ⟨(Nat.le_of_ble_eq_true rfl), (Nat.le_of_ble_eq_true rfl)⟩ ⟨(Nat.le_of_ble_eq_true rfl), (Nat.le_of_ble_eq_true rfl)⟩ (Nat.le_of_ble_eq_true rfl) [0, 5] [1, 2, 3, 4, 6, 7, 8, 9, 10] rfl rfl rfl rfl (by decide) [9, 0, 1, 2, 3, 10, 4, 5, 6, 7, 8] rfl (ws2 := fun _ => [(a 1, oX3 a), (a 2, aI E 16 (hM 2)), (a 3, aI E 16 (hM 3)), (a 4, aI E 256 (hM 4)), (a 5, aI E 128 (hM 5)), (a 6, aI E 128 (hM 6)), (a 7, aI E 128 (hM 7)), (a 9, oX0 a (hM 9)), (a 10, aI E 4096 (hM 10)), (a 11, aI E 120 (hM 11)), (a 12, aI E 120 (hM 12))]) (fun _ => rfl) (fun _ => ?_)
    refine r.istore (lo' := [(5, .int o_3), (4, .int o_2), (3, .int (o_1 &&& (((hM 12) x1.toNatClampNeg) ^^^ (-1 : Int32)))), (0, .ref (a 9)), (1, .int x1), (2, .int x2)]) (DX0_huntersLevel_0 24 rfl) (Nat.le_of_ble_eq_true rfl) rfl ?_
    refine r.aload_n 3 (DX0_huntersLevel_0 25 rfl) rfl ?_
    refine r.iload 1 (DX0_huntersLevel_0 26 rfl) rfl ?_
    refine r.iload 0 (DX0_huntersLevel_0 27 rfl) rfl ?_
    obtain ⟨o_4, ho_4, hxt⟩ := xbd hxt
    refine r.callVI 4 rfl rfl (t_X0_reachedBy E a o_2 o_3 hM ho_4) g_X0_97 rfl (DX0_huntersLevel_0 28 rfl) rfl ⟨(Nat.le_of_ble_eq_true rfl), (Nat.le_of_ble_eq_true rfl)⟩ ⟨(Nat.le_of_ble_eq_true rfl), (Nat.le_of_ble_eq_true rfl)⟩ (Nat.le_of_ble_eq_true rfl) [0, 1, 2, 3, 7, 9] [4, 5, 6, 8, 10] rfl rfl rfl rfl (by decide) [5, 6, 7, 8, 0, 1, 2, 9, 3, 10, 4] rfl (ws2 := fun _ => [(a 1, oX3 a), (a 2, aI E 16 (hM 2)), (a 3, aI E 16 (hM 3)), (a 4, aI E 256 (hM 4)), (a 5, aI E 128 (hM 5)), (a 6, aI E 128 (hM 6)), (a 7, aI E 128 (hM 7)), (a 9, oX0 a (hM 9)), (a 10, aI E 4096 (hM 10)), (a 11, aI E 120 (hM 11)), (a 12, aI E 120 (hM 12))]) (fun _ => rfl) (fun _ => ?_)
    refine r.aload_n 3 (DX0_huntersLevel_0 29 rfl) rfl ?_
    refine r.iload 0 (DX0_huntersLevel_0 30 rfl) rfl ?_
    refine r.iload 1 (DX0_huntersLevel_0 31 rfl) rfl ?_
    obtain ⟨o_5, ho_5, hxt⟩ := xbd hxt
    refine r.callVI 4 rfl rfl (t_X0_reachedBy E a o_3 o_2 hM ho_5) g_X0_97 rfl (DX0_huntersLevel_0 32 rfl) rfl ⟨(Nat.le_of_ble_eq_true rfl), (Nat.le_of_ble_eq_true rfl)⟩ ⟨(Nat.le_of_ble_eq_true rfl), (Nat.le_of_ble_eq_true rfl)⟩ (Nat.le_of_ble_eq_true rfl) [0, 1, 2, 3, 7, 9] [4, 5, 6, 8, 10] rfl rfl rfl rfl (by decide) [5, 6, 7, 8, 0, 1, 2, 9, 3, 10, 4] rfl (ws2 := fun _ => [(a 1, oX3 a), (a 2, aI E 16 (hM 2)), (a 3, aI E 16 (hM 3)), (a 4, aI E 256 (hM 4)), (a 5, aI E 128 (hM 5)), (a 6, aI E 128 (hM 6)), (a 7, aI E 128 (hM 7)), (a 9, oX0 a (hM 9)), (a 10, aI E 4096 (hM 10)), (a 11, aI E 120 (hM 11)), (a 12, aI E 120 (hM 12))]) (fun _ => rfl) (fun _ => ?_)
    refine r.ior (DX0_huntersLevel_0 33 rfl) ?_
    refine r.istore (lo' := [(6, .int (o_4 ||| o_5)), (5, .int o_3), (4, .int o_2), (3, .int (o_1 &&& (((hM 12) x1.toNatClampNeg) ^^^ (-1 : Int32)))), (0, .ref (a 9)), (1, .int x1), (2, .int x2)]) (DX0_huntersLevel_0 34 rfl) (Nat.le_of_ble_eq_true rfl) rfl ?_
    refine r.aload_n 4 (DX0_huntersLevel_0 35 rfl) rfl ?_
    refine r.get (v := .int ((hM 9) 8)) kX0 f_X0_58 rfl 7 rfl rfl (DX0_huntersLevel_0 36 rfl) ?_
    refine r.if_eq 78 (DX0_huntersLevel_0 37 rfl) rfl hxt (fun _ hxt => ?_) (fun _ hxt => ?_)
    · refine r.iload_n 3 (DX0_huntersLevel_0 45 rfl) rfl ?_
      refine r.iload 0 (DX0_huntersLevel_0 46 rfl) rfl ?_
      refine r.iand (DX0_huntersLevel_0 47 rfl) ?_
      refine r.istore (lo' := [(7, .int ((o_1 &&& (((hM 12) x1.toNatClampNeg) ^^^ (-1 : Int32))) &&& (o_4 ||| o_5))), (6, .int (o_4 ||| o_5)), (5, .int o_3), (4, .int o_2), (3, .int (o_1 &&& (((hM 12) x1.toNatClampNeg) ^^^ (-1 : Int32)))), (0, .ref (a 9)), (1, .int x1), (2, .int x2)]) (DX0_huntersLevel_0 48 rfl) (Nat.le_of_ble_eq_true rfl) rfl ?_
      refine r.aload_n 5 (DX0_huntersLevel_0 49 rfl) rfl ?_
      refine r.get (v := .ref (a 12)) kX0 f_X0_24 rfl 7 rfl rfl (DX0_huntersLevel_0 50 rfl) ?_
      refine r.iload_n 6 (DX0_huntersLevel_0 51 rfl) rfl ?_
      refine r.dup2 (DX0_huntersLevel_0 52 rfl) rfl rfl ?_
      obtain ⟨hin, hxt⟩ := xgd_some hxt
      refine r.iald 10 rfl hin (DX0_huntersLevel_0 53 rfl) ?_
      refine r.iload 0 (DX0_huntersLevel_0 54 rfl) rfl ?_
      refine r.ior (DX0_huntersLevel_0 55 rfl) ?_
      obtain ⟨hin, hxt⟩ := xgd_some hxt
      refine r.iast (ws' := [(a 1, oX3 a), (a 2, aI E 16 (hM 2)), (a 3, aI E 16 (hM 3)), (a 4, aI E 256 (hM 4)), (a 5, aI E 128 (hM 5)), (a 6, aI E 128 (hM 6)), (a 7, aI E 128 (hM 7)), (a 9, oX0 a (hM 9)), (a 10, aI E 4096 (hM 10)), (a 11, aI E 120 (hM 11)), (a 12, aI E 120 (upd (hM 12) x1.toNatClampNeg (((hM 12) x1.toNatClampNeg) ||| ((o_1 &&& (((hM 12) x1.toNatClampNeg) ^^^ (-1 : Int32))) &&& (o_4 ||| o_5)))))]) 10 rfl hin rfl (DX0_huntersLevel_0 56 rfl) ?_
      refine r.aload_n 5 (DX0_huntersLevel_0 57 rfl) rfl ?_
      refine r.iload 0 (DX0_huntersLevel_0 58 rfl) rfl ?_
      refine r.iconst (v := (0 : Int32)) (DX0_huntersLevel_0 59 rfl) rfl ?_
      refine r.iload_n 6 (DX0_huntersLevel_1 0 rfl) rfl ?_
      refine r.iload_n 7 (DX0_huntersLevel_1 1 rfl) rfl ?_
      obtain ⟨o_6, ho_6, hxt⟩ := xbd hxt
      refine r.callVV 0 rfl rfl (t_X0_keep E a ((o_1 &&& (((hM 12) x1.toNatClampNeg) ^^^ (-1 : Int32))) &&& (o_4 ||| o_5)) (0 : Int32) x1 x2 hM ho_6) g_X0_87 rfl (DX0_huntersLevel_1 2 rfl) rfl ⟨(Nat.le_of_ble_eq_true rfl), (Nat.le_of_ble_eq_true rfl)⟩ ⟨(Nat.le_of_ble_eq_true rfl), (Nat.le_of_ble_eq_true rfl)⟩ (Nat.le_of_ble_eq_true rfl) [7, 8] [0, 1, 2, 3, 4, 5, 6, 9, 10] rfl rfl rfl rfl (by decide) [0, 1, 2, 3, 4, 5, 6, 9, 10, 7, 8] rfl (ws2 := fun _ => [(a 1, oX3 a), (a 2, aI E 16 (hM 2)), (a 3, aI E 16 (hM 3)), (a 4, aI E 256 (hM 4)), (a 5, aI E 128 (hM 5)), (a 6, aI E 128 (hM 6)), (a 7, aI E 128 (hM 7)), (a 9, oX0 a (hM 9)), (a 10, aI E 4096 (o_6 10)), (a 11, aI E 120 (hM 11)), (a 12, aI E 120 (upd (hM 12) x1.toNatClampNeg (((hM 12) x1.toNatClampNeg) ||| ((o_1 &&& (((hM 12) x1.toNatClampNeg) ^^^ (-1 : Int32))) &&& (o_4 ||| o_5)))))]) (fun _ => rfl) (fun _ => ?_)
      refine r.iload 0 (DX0_huntersLevel_1 3 rfl) rfl ?_
      cases hxt
      exact hret _ _ _ _ (DX0_huntersLevel_1 4 rfl) rfl ⟨(), rfl, rfl⟩
    refine r.iload 0 (DX0_huntersLevel_0 38 rfl) rfl ?_
    refine r.aload_n 4 (DX0_huntersLevel_0 39 rfl) rfl ?_
    refine r.get (v := .ref (a 11)) kX0 f_X0_21 rfl 7 rfl rfl (DX0_huntersLevel_0 40 rfl) ?_
    refine r.iload_n 5 (DX0_huntersLevel_0 41 rfl) rfl ?_
    obtain ⟨hin, hxt⟩ := xgd_some hxt
    refine r.iald 9 rfl hin (DX0_huntersLevel_0 42 rfl) ?_
    refine r.ior (DX0_huntersLevel_0 43 rfl) ?_
    refine r.istore (lo' := [(6, .int ((o_4 ||| o_5) ||| ((hM 11) x1.toNatClampNeg))), (5, .int o_3), (4, .int o_2), (3, .int (o_1 &&& (((hM 12) x1.toNatClampNeg) ^^^ (-1 : Int32)))), (0, .ref (a 9)), (1, .int x1), (2, .int x2)]) (DX0_huntersLevel_0 44 rfl) (Nat.le_of_ble_eq_true rfl) rfl ?_
    refine r.iload_n 3 (DX0_huntersLevel_0 45 rfl) rfl ?_
    refine r.iload 0 (DX0_huntersLevel_0 46 rfl) rfl ?_
    refine r.iand (DX0_huntersLevel_0 47 rfl) ?_
    refine r.istore (lo' := [(7, .int ((o_1 &&& (((hM 12) x1.toNatClampNeg) ^^^ (-1 : Int32))) &&& ((o_4 ||| o_5) ||| ((hM 11) x1.toNatClampNeg)))), (6, .int ((o_4 ||| o_5) ||| ((hM 11) x1.toNatClampNeg))), (5, .int o_3), (4, .int o_2), (3, .int (o_1 &&& (((hM 12) x1.toNatClampNeg) ^^^ (-1 : Int32)))), (0, .ref (a 9)), (1, .int x1), (2, .int x2)]) (DX0_huntersLevel_0 48 rfl) (Nat.le_of_ble_eq_true rfl) rfl ?_
    refine r.aload_n 5 (DX0_huntersLevel_0 49 rfl) rfl ?_
    refine r.get (v := .ref (a 12)) kX0 f_X0_24 rfl 7 rfl rfl (DX0_huntersLevel_0 50 rfl) ?_
    refine r.iload_n 6 (DX0_huntersLevel_0 51 rfl) rfl ?_
    refine r.dup2 (DX0_huntersLevel_0 52 rfl) rfl rfl ?_
    obtain ⟨hin, hxt⟩ := xgd_some hxt
    refine r.iald 10 rfl hin (DX0_huntersLevel_0 53 rfl) ?_
    refine r.iload 0 (DX0_huntersLevel_0 54 rfl) rfl ?_
    refine r.ior (DX0_huntersLevel_0 55 rfl) ?_
    obtain ⟨hin, hxt⟩ := xgd_some hxt
    refine r.iast (ws' := [(a 1, oX3 a), (a 2, aI E 16 (hM 2)), (a 3, aI E 16 (hM 3)), (a 4, aI E 256 (hM 4)), (a 5, aI E 128 (hM 5)), (a 6, aI E 128 (hM 6)), (a 7, aI E 128 (hM 7)), (a 9, oX0 a (hM 9)), (a 10, aI E 4096 (hM 10)), (a 11, aI E 120 (hM 11)), (a 12, aI E 120 (upd (hM 12) x1.toNatClampNeg (((hM 12) x1.toNatClampNeg) ||| ((o_1 &&& (((hM 12) x1.toNatClampNeg) ^^^ (-1 : Int32))) &&& ((o_4 ||| o_5) ||| ((hM 11) x1.toNatClampNeg))))))]) 10 rfl hin rfl (DX0_huntersLevel_0 56 rfl) ?_
    refine r.aload_n 5 (DX0_huntersLevel_0 57 rfl) rfl ?_
    refine r.iload 0 (DX0_huntersLevel_0 58 rfl) rfl ?_
    refine r.iconst (v := (0 : Int32)) (DX0_huntersLevel_0 59 rfl) rfl ?_
    refine r.iload_n 6 (DX0_huntersLevel_1 0 rfl) rfl ?_
    refine r.iload_n 7 (DX0_huntersLevel_1 1 rfl) rfl ?_
    obtain ⟨o_7, ho_7, hxt⟩ := xbd hxt
    refine r.callVV 0 rfl rfl (t_X0_keep E a ((o_1 &&& (((hM 12) x1.toNatClampNeg) ^^^ (-1 : Int32))) &&& ((o_4 ||| o_5) ||| ((hM 11) x1.toNatClampNeg))) (0 : Int32) x1 x2 hM ho_7) g_X0_87 rfl (DX0_huntersLevel_1 2 rfl) rfl ⟨(Nat.le_of_ble_eq_true rfl), (Nat.le_of_ble_eq_true rfl)⟩ ⟨(Nat.le_of_ble_eq_true rfl), (Nat.le_of_ble_eq_true rfl)⟩ (Nat.le_of_ble_eq_true rfl) [7, 8] [0, 1, 2, 3, 4, 5, 6, 9, 10] rfl rfl rfl rfl (by decide) [0, 1, 2, 3, 4, 5, 6, 9, 10, 7, 8] rfl (ws2 := fun _ => [(a 1, oX3 a), (a 2, aI E 16 (hM 2)), (a 3, aI E 16 (hM 3)), (a 4, aI E 256 (hM 4)), (a 5, aI E 128 (hM 5)), (a 6, aI E 128 (hM 6)), (a 7, aI E 128 (hM 7)), (a 9, oX0 a (hM 9)), (a 10, aI E 4096 (o_7 10)), (a 11, aI E 120 (hM 11)), (a 12, aI E 120 (upd (hM 12) x1.toNatClampNeg (((hM 12) x1.toNatClampNeg) ||| ((o_1 &&& (((hM 12) x1.toNatClampNeg) ^^^ (-1 : Int32))) &&& ((o_4 ||| o_5) ||| ((hM 11) x1.toNatClampNeg))))))]) (fun _ => rfl) (fun _ => ?_)
    refine r.iload 0 (DX0_huntersLevel_1 3 rfl) rfl ?_
    cases hxt
    exact hret _ _ _ _ (DX0_huntersLevel_1 4 rfl) rfl ⟨(), rfl, rfl⟩
  refine r.iconst (v := (0 : Int32)) (DX0_huntersLevel_0 13 rfl) rfl ?_
  cases hxt
  exact hret _ _ _ _ (DX0_huntersLevel_0 14 rfl) rfl ⟨(), rfl, rfl⟩
set_option maxRecDepth 100000 in
set_option maxHeartbeats 4000000 in
theorem l_X0_workOut_45 (E : xE) (a : Nat → Nat) (x2 : Int32) (hM : Mem) {V : xVT} (r : Rl E RX0 cX0_workOut (xR 3 0 0) 5 false V) {o : Mem} {k : Int32 → Mem → Option (Mem)} (hk : ∀ (v3 : Int32) (mM : Mem), k v3 mM = some o → V 0 0 68 [(0, .ref (a 9)), (2, .int x2), (3, .int v3)] [] [(a 1, oX3 a), (a 2, aI E 16 (hM 2)), (a 3, aI E 16 (hM 3)), (a 4, aI E 256 (hM 4)), (a 5, aI E 128 (hM 5)), (a 6, aI E 128 (hM 6)), (a 7, aI E 128 (hM 7)), (a 9, oX0 a (hM 9)), (a 10, aI E 4096 (mM 10)), (a 11, aI E 120 (mM 11)), (a 12, aI E 120 (hM 12))]) : ∀ (n : Nat) (v3 : Int32) (v4 : Int32) (mM : Mem), xt_X0_workOut_l45 x2 hM k n v3 v4 mM = some o → V 0 0 45 [(0, .ref (a 9)), (2, .int x2), (3, .int v3), (4, .int v4)] [] [(a 1, oX3 a), (a 2, aI E 16 (hM 2)), (a 3, aI E 16 (hM 3)), (a 4, aI E 256 (hM 4)), (a 5, aI E 128 (hM 5)), (a 6, aI E 128 (hM 6)), (a 7, aI E 128 (hM 7)), (a 9, oX0 a (hM 9)), (a 10, aI E 4096 (mM 10)), (a 11, aI E 120 (mM 11)), (a 12, aI E 120 (hM 12))] := by
  intro n
  induction n with
  | zero => intro v3 v4 mM hxt; exact xno hxt
  | succ n ih =>
    intro v3 v4 mM hxt
    rw [xt_X0_workOut_l45] at hxt
    refine r.iload 3 (DX0_workOut_0 25 rfl) rfl ?_
    refine r.bipush (v := (120 : Int32)) (DX0_workOut_0 26 rfl) rfl ?_
    refine r.icmp_ge 68 (DX0_workOut_0 27 rfl) rfl hxt (fun _ hxt => ?_) (fun _ hxt => ?_)
    · refine r.rel (lo' := [(0, .ref (a 9)), (2, .int x2), (3, .int v3)]) [0, 1, 2] rfl ?_
      exact hk v3 (mgs hM [10, 11] mM) hxt
    refine r.iload_n 2 (DX0_workOut_0 28 rfl) rfl ?_
    refine r.aload_n 0 (DX0_workOut_0 29 rfl) rfl ?_
    refine r.iload 3 (DX0_workOut_0 30 rfl) rfl ?_
    refine r.iload_n 1 (DX0_workOut_0 31 rfl) rfl ?_
    obtain ⟨o_4, ho_4, hxt⟩ := xbd hxt
    refine r.callVI 4 rfl rfl (t_X0_foxLevel E a v4 x2 (mgs hM [10, 11] mM) ho_4) g_X0_70 rfl (DX0_workOut_0 32 rfl) rfl ⟨(Nat.le_of_ble_eq_true rfl), (Nat.le_of_ble_eq_true rfl)⟩ ⟨(Nat.le_of_ble_eq_true rfl), (Nat.le_of_ble_eq_true rfl)⟩ (Nat.le_of_ble_eq_true rfl) [0, 1, 2, 6, 7, 8, 9, 10] [3, 4, 5] rfl rfl rfl rfl (by decide) [3, 4, 5, 0, 1, 2, 6, 7, 8, 9, 10] rfl (ws2 := fun _ => [(a 1, oX3 a), (a 2, aI E 16 (hM 2)), (a 3, aI E 16 (hM 3)), (a 4, aI E 256 (hM 4)), (a 5, aI E 128 (hM 5)), (a 6, aI E 128 (hM 6)), (a 7, aI E 128 (hM 7)), (a 9, oX0 a (hM 9)), (a 10, aI E 4096 (o_4.2 10)), (a 11, aI E 120 (o_4.2 11)), (a 12, aI E 120 (hM 12))]) (fun _ => rfl) (fun _ => ?_)
    refine r.ior (DX0_workOut_0 33 rfl) ?_
    refine r.istore_n (lo' := [(3, .int (v3 ||| o_4.1)), (0, .ref (a 9)), (2, .int x2), (4, .int v4)]) (DX0_workOut_0 34 rfl) (Nat.le_of_ble_eq_true rfl) rfl ?_
    refine r.iinc (v := (v4 + (1 : Int32))) (lo' := [(4, .int (v4 + (1 : Int32))), (3, .int (v3 ||| o_4.1)), (0, .ref (a 9)), (2, .int x2)]) 3 (DX0_workOut_0 35 rfl) rfl rfl (Nat.le_of_ble_eq_true rfl) rfl ?_
    refine r.goto 45 (DX0_workOut_0 36 rfl) rfl ?_
    refine r.rel (lo' := [(0, .ref (a 9)), (2, .int x2), (3, .int (v3 ||| o_4.1)), (4, .int (v4 + (1 : Int32)))]) [2, 3, 1, 0] rfl ?_
    exact ih (v3 ||| o_4.1) (v4 + (1 : Int32)) (mgs hM [10, 11] o_4.2) hxt
set_option maxRecDepth 100000 in
set_option maxHeartbeats 4000000 in
theorem l_X0_workOut_71 (E : xE) (a : Nat → Nat) (x2 : Int32) (hM : Mem) {V : xVT} (r : Rl E RX0 cX0_workOut (xR 3 0 0) 5 false V) {o : Mem} {k : Int32 → Mem → Option (Mem)} (hk : ∀ (v3 : Int32) (mM : Mem), k v3 mM = some o → V 0 0 96 [(0, .ref (a 9)), (2, .int x2), (3, .int v3)] [] [(a 1, oX3 a), (a 2, aI E 16 (hM 2)), (a 3, aI E 16 (hM 3)), (a 4, aI E 256 (hM 4)), (a 5, aI E 128 (hM 5)), (a 6, aI E 128 (hM 6)), (a 7, aI E 128 (hM 7)), (a 9, oX0 a (hM 9)), (a 10, aI E 4096 (mM 10)), (a 11, aI E 120 (hM 11)), (a 12, aI E 120 (mM 12))]) : ∀ (n : Nat) (v3 : Int32) (v4 : Int32) (mM : Mem), xt_X0_workOut_l71 x2 hM k n v3 v4 mM = some o → V 0 0 71 [(0, .ref (a 9)), (2, .int x2), (3, .int v3), (4, .int v4)] [] [(a 1, oX3 a), (a 2, aI E 16 (hM 2)), (a 3, aI E 16 (hM 3)), (a 4, aI E 256 (hM 4)), (a 5, aI E 128 (hM 5)), (a 6, aI E 128 (hM 6)), (a 7, aI E 128 (hM 7)), (a 9, oX0 a (hM 9)), (a 10, aI E 4096 (mM 10)), (a 11, aI E 120 (hM 11)), (a 12, aI E 120 (mM 12))] := by
  intro n
  induction n with
  | zero => intro v3 v4 mM hxt; exact xno hxt
  | succ n ih =>
    intro v3 v4 mM hxt
    rw [xt_X0_workOut_l71] at hxt
    refine r.iload 3 (DX0_workOut_0 39 rfl) rfl ?_
    refine r.bipush (v := (120 : Int32)) (DX0_workOut_0 40 rfl) rfl ?_
    refine r.icmp_ge 96 (DX0_workOut_0 41 rfl) rfl hxt (fun _ hxt => ?_) (fun _ hxt => ?_)
    · refine r.rel (lo' := [(0, .ref (a 9)), (2, .int x2), (3, .int v3)]) [0, 1, 2] rfl ?_
      exact hk v3 (mgs hM [10, 12] mM) hxt
    refine r.iload_n 2 (DX0_workOut_0 42 rfl) rfl ?_
    refine r.aload_n 0 (DX0_workOut_0 43 rfl) rfl ?_
    refine r.iload 3 (DX0_workOut_0 44 rfl) rfl ?_
    refine r.iload_n 1 (DX0_workOut_0 45 rfl) rfl ?_
    refine r.iconst (v := (1 : Int32)) (DX0_workOut_0 46 rfl) rfl ?_
    refine r.iadd (DX0_workOut_0 47 rfl) ?_
    obtain ⟨o_7, ho_7, hxt⟩ := xbd hxt
    refine r.callVI 7 rfl rfl (t_X0_huntersLevel E a v4 (x2 + (1 : Int32)) (mgs hM [10, 12] mM) ho_7) g_X0_74 rfl (DX0_workOut_0 48 rfl) rfl ⟨(Nat.le_of_ble_eq_true rfl), (Nat.le_of_ble_eq_true rfl)⟩ ⟨(Nat.le_of_ble_eq_true rfl), (Nat.le_of_ble_eq_true rfl)⟩ (Nat.le_of_ble_eq_true rfl) [0, 1, 2, 3, 4, 5, 6, 7, 8, 9, 10] [] rfl rfl rfl rfl (by decide) [0, 1, 2, 3, 4, 5, 6, 7, 8, 9, 10] rfl (ws2 := fun _ => [(a 1, oX3 a), (a 2, aI E 16 (hM 2)), (a 3, aI E 16 (hM 3)), (a 4, aI E 256 (hM 4)), (a 5, aI E 128 (hM 5)), (a 6, aI E 128 (hM 6)), (a 7, aI E 128 (hM 7)), (a 9, oX0 a (hM 9)), (a 10, aI E 4096 (o_7.2 10)), (a 11, aI E 120 (hM 11)), (a 12, aI E 120 (o_7.2 12))]) (fun _ => rfl) (fun _ => ?_)
    refine r.ior (DX0_workOut_0 49 rfl) ?_
    refine r.istore_n (lo' := [(3, .int (v3 ||| o_7.1)), (0, .ref (a 9)), (2, .int x2), (4, .int v4)]) (DX0_workOut_0 50 rfl) (Nat.le_of_ble_eq_true rfl) rfl ?_
    refine r.iinc (v := (v4 + (1 : Int32))) (lo' := [(4, .int (v4 + (1 : Int32))), (3, .int (v3 ||| o_7.1)), (0, .ref (a 9)), (2, .int x2)]) 3 (DX0_workOut_0 51 rfl) rfl rfl (Nat.le_of_ble_eq_true rfl) rfl ?_
    refine r.goto 71 (DX0_workOut_0 52 rfl) rfl ?_
    refine r.rel (lo' := [(0, .ref (a 9)), (2, .int x2), (3, .int (v3 ||| o_7.1)), (4, .int (v4 + (1 : Int32)))]) [2, 3, 1, 0] rfl ?_
    exact ih (v3 ||| o_7.1) (v4 + (1 : Int32)) (mgs hM [10, 12] o_7.2) hxt
set_option maxRecDepth 100000 in
set_option maxHeartbeats 4000000 in
theorem l_X0_workOut_29 (E : xE) (a : Nat → Nat) (hM : Mem) {V : xVT} (r : Rl E RX0 cX0_workOut (xR 3 0 0) 5 false V) {o : Mem} {k : Mem → Option (Mem)} (hk : ∀ (mM : Mem), k mM = some o → V 0 0 112 [] [] [(a 1, oX3 a), (a 2, aI E 16 (hM 2)), (a 3, aI E 16 (hM 3)), (a 4, aI E 256 (hM 4)), (a 5, aI E 128 (hM 5)), (a 6, aI E 128 (hM 6)), (a 7, aI E 128 (hM 7)), (a 9, oX0 a (hM 9)), (a 10, aI E 4096 (mM 10)), (a 11, aI E 120 (mM 11)), (a 12, aI E 120 (mM 12))]) : ∀ (n : Nat) (v1 : Int32) (v2 : Int32) (mM : Mem), xt_X0_workOut_l29 hM k n v1 v2 mM = some o → V 0 0 29 [(0, .ref (a 9)), (1, .int v1), (2, .int v2)] [] [(a 1, oX3 a), (a 2, aI E 16 (hM 2)), (a 3, aI E 16 (hM 3)), (a 4, aI E 256 (hM 4)), (a 5, aI E 128 (hM 5)), (a 6, aI E 128 (hM 6)), (a 7, aI E 128 (hM 7)), (a 9, oX0 a (hM 9)), (a 10, aI E 4096 (mM 10)), (a 11, aI E 120 (mM 11)), (a 12, aI E 120 (mM 12))] := by
  intro n
  induction n with
  | zero => intro v1 v2 mM hxt; exact xno hxt
  | succ n ih =>
    intro v1 v2 mM hxt
    rw [xt_X0_workOut_l29] at hxt
    refine r.iload_n 1 (DX0_workOut_0 16 rfl) rfl ?_
    refine r.if_eq 112 (DX0_workOut_0 17 rfl) rfl hxt (fun _ hxt => ?_) (fun _ hxt => ?_)
    · refine r.rel (lo' := []) [] rfl ?_
      exact hk (mgs hM [10, 11, 12] mM) hxt
    refine r.iload_n 2 (DX0_workOut_0 18 rfl) rfl ?_
    refine r.sipush (v := (4096 : Int32)) (DX0_workOut_0 19 rfl) rfl ?_
    refine r.icmp_ge 112 (DX0_workOut_0 20 rfl) rfl hxt (fun _ hxt => ?_) (fun _ hxt => ?_)
    · refine r.rel (lo' := []) [] rfl ?_
      exact hk (mgs hM [10, 11, 12] mM) hxt
    refine r.iconst (v := (0 : Int32)) (DX0_workOut_0 21 rfl) rfl ?_
    refine r.istore_n (lo' := [(3, .int (0 : Int32)), (0, .ref (a 9)), (1, .int v1), (2, .int v2)]) (DX0_workOut_0 22 rfl) (Nat.le_of_ble_eq_true rfl) rfl ?_
    refine r.iconst (v := (0 : Int32)) (DX0_workOut_0 23 rfl) rfl ?_
    refine r.istore (lo' := [(4, .int (0 : Int32)), (3, .int (0 : Int32)), (0, .ref (a 9)), (1, .int v1), (2, .int v2)]) (DX0_workOut_0 24 rfl) (Nat.le_of_ble_eq_true rfl) rfl ?_
    refine r.rel (lo' := [(0, .ref (a 9)), (2, .int v2), (3, .int (0 : Int32)), (4, .int (0 : Int32))]) [2, 4, 1, 0] rfl ?_
    refine l_X0_workOut_45 E a v2 (mgs hM [10, 11, 12] mM) r (fun v3_5 m_6 hxt => ?_) 10000 (0 : Int32) (0 : Int32) (mgs hM [10, 11] mM) hxt
    refine r.iconst (v := (0 : Int32)) (DX0_workOut_0 37 rfl) rfl ?_
    refine r.istore (lo' := [(4, .int (0 : Int32)), (0, .ref (a 9)), (2, .int v2), (3, .int v3_5)]) (DX0_workOut_0 38 rfl) (Nat.le_of_ble_eq_true rfl) rfl ?_
    refine r.rel (lo' := [(0, .ref (a 9)), (2, .int v2), (3, .int v3_5), (4, .int (0 : Int32))]) [1, 2, 3, 0] rfl ?_
    refine l_X0_workOut_71 E a v2 (mgs (mgs hM [10, 11] m_6) [12] mM) r (fun v3_8 m_9 hxt => ?_) 10000 v3_5 (0 : Int32) (mgs (mgs hM [10] m_6) [12] mM) hxt
    refine r.iload_n 2 (DX0_workOut_0 53 rfl) rfl ?_
    refine r.if_eq 104 (DX0_workOut_0 54 rfl) rfl hxt (fun _ hxt => ?_) (fun _ hxt => ?_)
    · refine r.iconst (v := (0 : Int32)) (DX0_workOut_0 57 rfl) rfl ?_
      refine r.istore_n (lo' := [(1, .int (0 : Int32)), (0, .ref (a 9)), (2, .int v2), (3, .int v3_8)]) (DX0_workOut_0 58 rfl) (Nat.le_of_ble_eq_true rfl) rfl ?_
      refine r.iinc (v := (v2 + (2 : Int32))) (lo' := [(2, .int (v2 + (2 : Int32))), (1, .int (0 : Int32)), (0, .ref (a 9)), (3, .int v3_8)]) 2 (DX0_workOut_0 59 rfl) rfl rfl (Nat.le_of_ble_eq_true rfl) rfl ?_
      refine r.goto 29 (DX0_workOut_1 0 rfl) rfl ?_
      refine r.rel (lo' := [(0, .ref (a 9)), (1, .int (0 : Int32)), (2, .int (v2 + (2 : Int32)))]) [2, 1, 0] rfl ?_
      exact ih (0 : Int32) (v2 + (2 : Int32)) (mgs (mgs hM [10, 12] m_9) [11] m_6) hxt
    refine r.iconst (v := (1 : Int32)) (DX0_workOut_0 55 rfl) rfl ?_
    refine r.goto 105 (DX0_workOut_0 56 rfl) rfl ?_
    refine r.istore_n (lo' := [(1, .int (1 : Int32)), (0, .ref (a 9)), (2, .int v2), (3, .int v3_8)]) (DX0_workOut_0 58 rfl) (Nat.le_of_ble_eq_true rfl) rfl ?_
    refine r.iinc (v := (v2 + (2 : Int32))) (lo' := [(2, .int (v2 + (2 : Int32))), (1, .int (1 : Int32)), (0, .ref (a 9)), (3, .int v3_8)]) 2 (DX0_workOut_0 59 rfl) rfl rfl (Nat.le_of_ble_eq_true rfl) rfl ?_
    refine r.goto 29 (DX0_workOut_1 0 rfl) rfl ?_
    refine r.rel (lo' := [(0, .ref (a 9)), (1, .int (1 : Int32)), (2, .int (v2 + (2 : Int32)))]) [2, 1, 0] rfl ?_
    exact ih (1 : Int32) (v2 + (2 : Int32)) (mgs (mgs hM [10, 12] m_9) [11] m_6) hxt
set_option maxRecDepth 100000 in
set_option maxHeartbeats 4000000 in
theorem t_X0_workOut (E : xE) (a : Nat → Nat) (hM : Mem) {o : Mem} (hxt : xt_X0_workOut hM = some o) : xMV (S := Unit) E yX0_workOut cX0_workOut 5 3 0 0 [.ref (a 9)] [(a 1, oX3 a), (a 2, aI E 16 (hM 2)), (a 3, aI E 16 (hM 3)), (a 4, aI E 256 (hM 4)), (a 5, aI E 128 (hM 5)), (a 6, aI E 128 (hM 6)), (a 7, aI E 128 (hM 7)), (a 9, oX0 a (hM 9)), (a 10, aI E 4096 (hM 10)), (a 11, aI E 120 (hM 11)), (a 12, aI E 120 (hM 12))] (fun _ => [(a 1, oX3 a), (a 2, aI E 16 (hM 2)), (a 3, aI E 16 (hM 3)), (a 4, aI E 256 (hM 4)), (a 5, aI E 128 (hM 5)), (a 6, aI E 128 (hM 6)), (a 7, aI E 128 (hM 7)), (a 9, oX0 a (hM 9)), (a 10, aI E 4096 (o 10)), (a 11, aI E 120 (o 11)), (a 12, aI E 120 (o 12))]) := by
  refine xMV.of (own := RX0) (lo0 := [(0, .ref (a 9))]) (ini := false) (fun h => nomatch h) (by decide +kernel) rfl rfl (Nat.le_of_ble_eq_true rfl) (fun V r hret => ?_)
  unfold xt_X0_workOut at hxt
  refine r.aload_n 0 (DX0_workOut_0 0 rfl) rfl ?_
  refine r.get (v := .ref (a 10)) kX0 f_X0_17 rfl 7 rfl rfl (DX0_workOut_0 1 rfl) ?_
  refine r.bipush (v := (-6 : Int32)) (DX0_workOut_0 2 rfl) rfl ?_
  obtain ⟨o_1, ho_1, hxt⟩ := xbd hxt
  refine r.callSV (t_J7_fill_53178 E a (a 10) 4096 (-6 : Int32) (hM 10) ho_1) g_X0_64 rfl (DX0_workOut_0 3 rfl) rfl ⟨(Nat.le_of_ble_eq_true rfl), (Nat.le_of_ble_eq_true rfl)⟩ ⟨(Nat.le_of_ble_eq_true rfl), (Nat.le_of_ble_eq_true rfl)⟩ (Nat.le_of_ble_eq_true rfl) [8] [0, 1, 2, 3, 4, 5, 6, 7, 9, 10] rfl rfl rfl rfl (by decide) [0, 1, 2, 3, 4, 5, 6, 7, 10, 8, 9] rfl (ws2 := fun _ => [(a 1, oX3 a), (a 2, aI E 16 (hM 2)), (a 3, aI E 16 (hM 3)), (a 4, aI E 256 (hM 4)), (a 5, aI E 128 (hM 5)), (a 6, aI E 128 (hM 6)), (a 7, aI E 128 (hM 7)), (a 9, oX0 a (hM 9)), (a 10, aI E 4096 o_1), (a 11, aI E 120 (hM 11)), (a 12, aI E 120 (hM 12))]) (fun _ => rfl) (fun _ => ?_)
  refine r.aload_n 0 (DX0_workOut_0 4 rfl) rfl ?_
  refine r.get (v := .ref (a 11)) kX0 f_X0_21 rfl 7 rfl rfl (DX0_workOut_0 5 rfl) ?_
  refine r.iconst (v := (0 : Int32)) (DX0_workOut_0 6 rfl) rfl ?_
  obtain ⟨o_2, ho_2, hxt⟩ := xbd hxt
  refine r.callSV (t_J7_fill_53178 E a (a 11) 120 (0 : Int32) (hM 11) ho_2) g_X0_64 rfl (DX0_workOut_0 7 rfl) rfl ⟨(Nat.le_of_ble_eq_true rfl), (Nat.le_of_ble_eq_true rfl)⟩ ⟨(Nat.le_of_ble_eq_true rfl), (Nat.le_of_ble_eq_true rfl)⟩ (Nat.le_of_ble_eq_true rfl) [9] [0, 1, 2, 3, 4, 5, 6, 7, 8, 10] rfl rfl rfl rfl (by decide) [0, 1, 2, 3, 4, 5, 6, 7, 8, 10, 9] rfl (ws2 := fun _ => [(a 1, oX3 a), (a 2, aI E 16 (hM 2)), (a 3, aI E 16 (hM 3)), (a 4, aI E 256 (hM 4)), (a 5, aI E 128 (hM 5)), (a 6, aI E 128 (hM 6)), (a 7, aI E 128 (hM 7)), (a 9, oX0 a (hM 9)), (a 10, aI E 4096 o_1), (a 11, aI E 120 o_2), (a 12, aI E 120 (hM 12))]) (fun _ => rfl) (fun _ => ?_)
  refine r.aload_n 0 (DX0_workOut_0 8 rfl) rfl ?_
  refine r.get (v := .ref (a 12)) kX0 f_X0_24 rfl 7 rfl rfl (DX0_workOut_0 9 rfl) ?_
  refine r.iconst (v := (0 : Int32)) (DX0_workOut_0 10 rfl) rfl ?_
  obtain ⟨o_3, ho_3, hxt⟩ := xbd hxt
  refine r.callSV (t_J7_fill_53178 E a (a 12) 120 (0 : Int32) (hM 12) ho_3) g_X0_64 rfl (DX0_workOut_0 11 rfl) rfl ⟨(Nat.le_of_ble_eq_true rfl), (Nat.le_of_ble_eq_true rfl)⟩ ⟨(Nat.le_of_ble_eq_true rfl), (Nat.le_of_ble_eq_true rfl)⟩ (Nat.le_of_ble_eq_true rfl) [10] [0, 1, 2, 3, 4, 5, 6, 7, 8, 9] rfl rfl rfl rfl (by decide) [0, 1, 2, 3, 4, 5, 6, 7, 8, 9, 10] rfl (ws2 := fun _ => [(a 1, oX3 a), (a 2, aI E 16 (hM 2)), (a 3, aI E 16 (hM 3)), (a 4, aI E 256 (hM 4)), (a 5, aI E 128 (hM 5)), (a 6, aI E 128 (hM 6)), (a 7, aI E 128 (hM 7)), (a 9, oX0 a (hM 9)), (a 10, aI E 4096 o_1), (a 11, aI E 120 o_2), (a 12, aI E 120 o_3)]) (fun _ => rfl) (fun _ => ?_)
  refine r.iconst (v := (1 : Int32)) (DX0_workOut_0 12 rfl) rfl ?_
  refine r.istore_n (lo' := [(1, .int (1 : Int32)), (0, .ref (a 9))]) (DX0_workOut_0 13 rfl) (Nat.le_of_ble_eq_true rfl) rfl ?_
  refine r.iconst (v := (0 : Int32)) (DX0_workOut_0 14 rfl) rfl ?_
  refine r.istore_n (lo' := [(2, .int (0 : Int32)), (1, .int (1 : Int32)), (0, .ref (a 9))]) (DX0_workOut_0 15 rfl) (Nat.le_of_ble_eq_true rfl) rfl ?_
  refine r.rel (lo' := [(0, .ref (a 9)), (1, .int (1 : Int32)), (2, .int (0 : Int32))]) [2, 1, 0] rfl ?_
  refine l_X0_workOut_29 E a (mset (mset (mset hM 10 o_1) 11 o_2) 12 o_3) r (fun m_10 hxt => ?_) 10000 (1 : Int32) (0 : Int32) (mset (mset (mset hM 10 o_1) 11 o_2) 12 o_3) hxt
  cases hxt
  exact hret _ _ _ (DX0_workOut_1 1 rfl) ⟨(), rfl⟩
set_option maxRecDepth 100000 in
set_option maxHeartbeats 4000000 in
theorem t_X0_prepare (E : xE) (a : Nat → Nat) (hp1 : Nat) (sp1 : Nat → Int32) (hM : Mem) {o : Mem} (hxt : xt_X0_prepare sp1 hM = some o) : xMV (S := Unit) E yX0_prepare cX0_prepare 2 4 0 0 [.ref (a 9), .ref hp1] [(a 1, oX3 a), (a 2, aI E 16 (hM 2)), (a 3, aI E 16 (hM 3)), (a 4, aI E 256 (hM 4)), (a 5, aI E 128 (hM 5)), (a 6, aI E 128 (hM 6)), (a 7, aI E 128 (hM 7)), (a 9, oX0 a (hM 9)), (a 10, aI E 4096 (hM 10)), (a 11, aI E 120 (hM 11)), (a 12, aI E 120 (hM 12)), (hp1, oX6 sp1)] (fun _ => [(a 1, oX3 a), (a 2, aI E 16 (hM 2)), (a 3, aI E 16 (hM 3)), (a 4, aI E 256 (hM 4)), (a 5, aI E 128 (hM 5)), (a 6, aI E 128 (hM 6)), (a 7, aI E 128 (hM 7)), (a 9, oX0 a (o 9)), (a 10, aI E 4096 (o 10)), (a 11, aI E 120 (o 11)), (a 12, aI E 120 (o 12)), (hp1, oX6 sp1)]) := by
  refine xMV.of (own := RX0) (lo0 := [(0, .ref (a 9)), (1, .ref hp1)]) (ini := false) (fun h => nomatch h) (by decide +kernel) rfl rfl (Nat.le_of_ble_eq_true rfl) (fun V r hret => ?_)
  unfold xt_X0_prepare at hxt
  refine r.aload_n 0 (DX0_prepare 0 rfl) rfl ?_
  refine r.get (v := .int ((hM 9) 4)) kX0 f_X0_27 rfl 7 rfl rfl (DX0_prepare 1 rfl) ?_
  refine r.aload_n 1 (DX0_prepare 2 rfl) rfl ?_
  obtain ⟨o_1, ho_1, hxt⟩ := xbd hxt
  refine r.callSI (t_X0_signOf E a hp1 sp1 ho_1) g_X0_39 rfl (DX0_prepare 3 rfl) rfl ⟨(Nat.le_of_ble_eq_true rfl), (Nat.le_of_ble_eq_true rfl)⟩ ⟨(Nat.le_of_ble_eq_true rfl), (Nat.le_of_ble_eq_true rfl)⟩ (Nat.le_of_ble_eq_true rfl) [11] [0, 1, 2, 3, 4, 5, 6, 7, 8, 9, 10] rfl rfl rfl rfl (by decide) [0, 1, 2, 3, 4, 5, 6, 7, 8, 9, 10, 11] rfl (ws2 := fun _ => [(a 1, oX3 a), (a 2, aI E 16 (hM 2)), (a 3, aI E 16 (hM 3)), (a 4, aI E 256 (hM 4)), (a 5, aI E 128 (hM 5)), (a 6, aI E 128 (hM 6)), (a 7, aI E 128 (hM 7)), (a 9, oX0 a (hM 9)), (a 10, aI E 4096 (hM 10)), (a 11, aI E 120 (hM 11)), (a 12, aI E 120 (hM 12)), (hp1, oX6 sp1)]) (fun _ => rfl) (fun _ => ?_)
  refine r.icmp_ne 12 (DX0_prepare 4 rfl) rfl hxt (fun _ hxt => ?_) (fun _ hxt => ?_)
  · refine r.aload_n 0 (DX0_prepare 6 rfl) rfl ?_
    refine r.aload_n 1 (DX0_prepare 7 rfl) rfl ?_
    obtain ⟨o_2, ho_2, hxt⟩ := xbd hxt
    refine r.callSI (t_X0_signOf E a hp1 sp1 ho_2) g_X0_39 rfl (DX0_prepare 8 rfl) rfl ⟨(Nat.le_of_ble_eq_true rfl), (Nat.le_of_ble_eq_true rfl)⟩ ⟨(Nat.le_of_ble_eq_true rfl), (Nat.le_of_ble_eq_true rfl)⟩ (Nat.le_of_ble_eq_true rfl) [11] [0, 1, 2, 3, 4, 5, 6, 7, 8, 9, 10] rfl rfl rfl rfl (by decide) [0, 1, 2, 3, 4, 5, 6, 7, 8, 9, 10, 11] rfl (ws2 := fun _ => [(a 1, oX3 a), (a 2, aI E 16 (hM 2)), (a 3, aI E 16 (hM 3)), (a 4, aI E 256 (hM 4)), (a 5, aI E 128 (hM 5)), (a 6, aI E 128 (hM 6)), (a 7, aI E 128 (hM 7)), (a 9, oX0 a (hM 9)), (a 10, aI E 4096 (hM 10)), (a 11, aI E 120 (hM 11)), (a 12, aI E 120 (hM 12)), (hp1, oX6 sp1)]) (fun _ => rfl) (fun _ => ?_)
    refine r.put (ws' := [(a 1, oX3 a), (a 2, aI E 16 (hM 2)), (a 3, aI E 16 (hM 3)), (a 4, aI E 256 (hM 4)), (a 5, aI E 128 (hM 5)), (a 6, aI E 128 (hM 6)), (a 7, aI E 128 (hM 7)), (a 9, oX0 a (upd (hM 9) 4 o_2)), (a 10, aI E 4096 (hM 10)), (a 11, aI E 120 (hM 11)), (a 12, aI E 120 (hM 12)), (hp1, oX6 sp1)]) kX0 f_X0_27 7 rfl rfl rfl rfl (Nat.le_of_ble_eq_true rfl) rfl (DX0_prepare 9 rfl) ?_
    refine r.aload_n 0 (DX0_prepare 10 rfl) rfl ?_
    refine r.ldc (v := (65535 : Int32)) (DX0_prepare 11 rfl) m361 ?_
    refine r.aload_n 1 (DX0_prepare 12 rfl) rfl ?_
    refine r.get (v := .int (sp1 1)) kX6 f_X0_36 rfl 11 rfl rfl (DX0_prepare 13 rfl) ?_
    refine r.iconst (v := (-1 : Int32)) (DX0_prepare 14 rfl) rfl ?_
    refine r.ixor (DX0_prepare 15 rfl) ?_
    refine r.iand (DX0_prepare 16 rfl) ?_
    refine r.put (ws' := [(a 1, oX3 a), (a 2, aI E 16 (hM 2)), (a 3, aI E 16 (hM 3)), (a 4, aI E 256 (hM 4)), (a 5, aI E 128 (hM 5)), (a 6, aI E 128 (hM 6)), (a 7, aI E 128 (hM 7)), (a 9, oX0 a (upd (upd (hM 9) 4 o_2) 5 ((65535 : Int32) &&& ((sp1 1) ^^^ (-1 : Int32))))), (a 10, aI E 4096 (hM 10)), (a 11, aI E 120 (hM 11)), (a 12, aI E 120 (hM 12)), (hp1, oX6 sp1)]) kX0 f_X0_44 7 rfl rfl rfl rfl (Nat.le_of_ble_eq_true rfl) rfl (DX0_prepare 17 rfl) ?_
    refine r.aload_n 0 (DX0_prepare 18 rfl) rfl ?_
    refine r.aload_n 1 (DX0_prepare 19 rfl) rfl ?_
    refine r.iconst (v := (0 : Int32)) (DX0_prepare 20 rfl) rfl ?_
    obtain ⟨o_3, ho_3, hxt⟩ := xbd hxt
    refine r.callVI 0 rfl rfl (t_X6_setting E a hp1 (0 : Int32) sp1 ho_3) g_X0_47 rfl (DX0_prepare 21 rfl) rfl ⟨(Nat.le_of_ble_eq_true rfl), (Nat.le_of_ble_eq_true rfl)⟩ ⟨(Nat.le_of_ble_eq_true rfl), (Nat.le_of_ble_eq_true rfl)⟩ (Nat.le_of_ble_eq_true rfl) [11] [0, 1, 2, 3, 4, 5, 6, 7, 8, 9, 10] rfl rfl rfl rfl (by decide) [0, 1, 2, 3, 4, 5, 6, 7, 8, 9, 10, 11] rfl (ws2 := fun _ => [(a 1, oX3 a), (a 2, aI E 16 (hM 2)), (a 3, aI E 16 (hM 3)), (a 4, aI E 256 (hM 4)), (a 5, aI E 128 (hM 5)), (a 6, aI E 128 (hM 6)), (a 7, aI E 128 (hM 7)), (a 9, oX0 a (upd (upd (hM 9) 4 o_2) 5 ((65535 : Int32) &&& ((sp1 1) ^^^ (-1 : Int32))))), (a 10, aI E 4096 (hM 10)), (a 11, aI E 120 (hM 11)), (a 12, aI E 120 (hM 12)), (hp1, oX6 sp1)]) (fun _ => rfl) (fun _ => ?_)
    refine r.iconst (v := (1 : Int32)) (DX0_prepare 22 rfl) rfl ?_
    refine r.icmp_ne 47 (DX0_prepare 23 rfl) rfl hxt (fun _ hxt => ?_) (fun _ hxt => ?_)
    · refine r.iconst (v := (0 : Int32)) (DX0_prepare 26 rfl) rfl ?_
      refine r.put (ws' := [(a 1, oX3 a), (a 2, aI E 16 (hM 2)), (a 3, aI E 16 (hM 3)), (a 4, aI E 256 (hM 4)), (a 5, aI E 128 (hM 5)), (a 6, aI E 128 (hM 6)), (a 7, aI E 128 (hM 7)), (a 9, oX0 a (upd (upd (upd (hM 9) 4 o_2) 5 ((65535 : Int32) &&& ((sp1 1) ^^^ (-1 : Int32)))) 6 (0 : Int32))), (a 10, aI E 4096 (hM 10)), (a 11, aI E 120 (hM 11)), (a 12, aI E 120 (hM 12)), (hp1, oX6 sp1)]) kX0 f_X0_51 7 rfl rfl rfl rfl (Nat.le_of_ble_eq_true rfl) rfl (DX0_prepare 27 rfl) ?_
      refine r.aload_n 0 (DX0_prepare 28 rfl) rfl ?_
      refine r.aload_n 1 (DX0_prepare 29 rfl) rfl ?_
      refine r.iconst (v := (1 : Int32)) (DX0_prepare 30 rfl) rfl ?_
      obtain ⟨o_4, ho_4, hxt⟩ := xbd hxt
      refine r.callVI 0 rfl rfl (t_X6_setting E a hp1 (1 : Int32) sp1 ho_4) g_X0_47 rfl (DX0_prepare 31 rfl) rfl ⟨(Nat.le_of_ble_eq_true rfl), (Nat.le_of_ble_eq_true rfl)⟩ ⟨(Nat.le_of_ble_eq_true rfl), (Nat.le_of_ble_eq_true rfl)⟩ (Nat.le_of_ble_eq_true rfl) [11] [0, 1, 2, 3, 4, 5, 6, 7, 8, 9, 10] rfl rfl rfl rfl (by decide) [0, 1, 2, 3, 4, 5, 6, 7, 8, 9, 10, 11] rfl (ws2 := fun _ => [(a 1, oX3 a), (a 2, aI E 16 (hM 2)), (a 3, aI E 16 (hM 3)), (a 4, aI E 256 (hM 4)), (a 5, aI E 128 (hM 5)), (a 6, aI E 128 (hM 6)), (a 7, aI E 128 (hM 7)), (a 9, oX0 a (upd (upd (upd (hM 9) 4 o_2) 5 ((65535 : Int32) &&& ((sp1 1) ^^^ (-1 : Int32)))) 6 (0 : Int32))), (a 10, aI E 4096 (hM 10)), (a 11, aI E 120 (hM 11)), (a 12, aI E 120 (hM 12)), (hp1, oX6 sp1)]) (fun _ => rfl) (fun _ => ?_)
      refine r.iconst (v := (1 : Int32)) (DX0_prepare 32 rfl) rfl ?_
      refine r.icmp_ne 65 (DX0_prepare 33 rfl) rfl hxt (fun _ hxt => ?_) (fun _ hxt => ?_)
      · refine r.iconst (v := (0 : Int32)) (DX0_prepare 36 rfl) rfl ?_
        refine r.put (ws' := [(a 1, oX3 a), (a 2, aI E 16 (hM 2)), (a 3, aI E 16 (hM 3)), (a 4, aI E 256 (hM 4)), (a 5, aI E 128 (hM 5)), (a 6, aI E 128 (hM 6)), (a 7, aI E 128 (hM 7)), (a 9, oX0 a (upd (upd (upd (upd (hM 9) 4 o_2) 5 ((65535 : Int32) &&& ((sp1 1) ^^^ (-1 : Int32)))) 6 (0 : Int32)) 7 (0 : Int32))), (a 10, aI E 4096 (hM 10)), (a 11, aI E 120 (hM 11)), (a 12, aI E 120 (hM 12)), (hp1, oX6 sp1)]) kX0 f_X0_55 7 rfl rfl rfl rfl (Nat.le_of_ble_eq_true rfl) rfl (DX0_prepare 37 rfl) ?_
        refine r.aload_n 0 (DX0_prepare 38 rfl) rfl ?_
        refine r.aload_n 1 (DX0_prepare 39 rfl) rfl ?_
        refine r.iconst (v := (2 : Int32)) (DX0_prepare 40 rfl) rfl ?_
        obtain ⟨o_5, ho_5, hxt⟩ := xbd hxt
        refine r.callVI 0 rfl rfl (t_X6_setting E a hp1 (2 : Int32) sp1 ho_5) g_X0_47 rfl (DX0_prepare 41 rfl) rfl ⟨(Nat.le_of_ble_eq_true rfl), (Nat.le_of_ble_eq_true rfl)⟩ ⟨(Nat.le_of_ble_eq_true rfl), (Nat.le_of_ble_eq_true rfl)⟩ (Nat.le_of_ble_eq_true rfl) [11] [0, 1, 2, 3, 4, 5, 6, 7, 8, 9, 10] rfl rfl rfl rfl (by decide) [0, 1, 2, 3, 4, 5, 6, 7, 8, 9, 10, 11] rfl (ws2 := fun _ => [(a 1, oX3 a), (a 2, aI E 16 (hM 2)), (a 3, aI E 16 (hM 3)), (a 4, aI E 256 (hM 4)), (a 5, aI E 128 (hM 5)), (a 6, aI E 128 (hM 6)), (a 7, aI E 128 (hM 7)), (a 9, oX0 a (upd (upd (upd (upd (hM 9) 4 o_2) 5 ((65535 : Int32) &&& ((sp1 1) ^^^ (-1 : Int32)))) 6 (0 : Int32)) 7 (0 : Int32))), (a 10, aI E 4096 (hM 10)), (a 11, aI E 120 (hM 11)), (a 12, aI E 120 (hM 12)), (hp1, oX6 sp1)]) (fun _ => rfl) (fun _ => ?_)
        refine r.iconst (v := (1 : Int32)) (DX0_prepare 42 rfl) rfl ?_
        refine r.icmp_ne 83 (DX0_prepare 43 rfl) rfl hxt (fun _ hxt => ?_) (fun _ hxt => ?_)
        · refine r.iconst (v := (0 : Int32)) (DX0_prepare 46 rfl) rfl ?_
          refine r.put (ws' := [(a 1, oX3 a), (a 2, aI E 16 (hM 2)), (a 3, aI E 16 (hM 3)), (a 4, aI E 256 (hM 4)), (a 5, aI E 128 (hM 5)), (a 6, aI E 128 (hM 6)), (a 7, aI E 128 (hM 7)), (a 9, oX0 a (upd (upd (upd (upd (upd (hM 9) 4 o_2) 5 ((65535 : Int32) &&& ((sp1 1) ^^^ (-1 : Int32)))) 6 (0 : Int32)) 7 (0 : Int32)) 8 (0 : Int32))), (a 10, aI E 4096 (hM 10)), (a 11, aI E 120 (hM 11)), (a 12, aI E 120 (hM 12)), (hp1, oX6 sp1)]) kX0 f_X0_58 7 rfl rfl rfl rfl (Nat.le_of_ble_eq_true rfl) rfl (DX0_prepare 47 rfl) ?_
          refine r.aload_n 0 (DX0_prepare 48 rfl) rfl ?_
          obtain ⟨o_6, ho_6, hxt⟩ := xbd hxt
          refine r.callVV 7 rfl rfl (t_X0_workOut E a (mset hM 9 (upd (upd (upd (upd (upd (hM 9) 4 o_2) 5 ((65535 : Int32) &&& ((sp1 1) ^^^ (-1 : Int32)))) 6 (0 : Int32)) 7 (0 : Int32)) 8 (0 : Int32))) ho_6) g_X0_61 rfl (DX0_prepare 49 rfl) rfl ⟨(Nat.le_of_ble_eq_true rfl), (Nat.le_of_ble_eq_true rfl)⟩ ⟨(Nat.le_of_ble_eq_true rfl), (Nat.le_of_ble_eq_true rfl)⟩ (Nat.le_of_ble_eq_true rfl) [0, 1, 2, 3, 4, 5, 6, 7, 8, 9, 10] [11] rfl rfl rfl rfl (by decide) [1, 2, 3, 4, 5, 6, 7, 8, 9, 10, 11, 0] rfl (ws2 := fun _ => [(a 1, oX3 a), (a 2, aI E 16 (hM 2)), (a 3, aI E 16 (hM 3)), (a 4, aI E 256 (hM 4)), (a 5, aI E 128 (hM 5)), (a 6, aI E 128 (hM 6)), (a 7, aI E 128 (hM 7)), (a 9, oX0 a (upd (upd (upd (upd (upd (hM 9) 4 o_2) 5 ((65535 : Int32) &&& ((sp1 1) ^^^ (-1 : Int32)))) 6 (0 : Int32)) 7 (0 : Int32)) 8 (0 : Int32))), (a 10, aI E 4096 (o_6 10)), (a 11, aI E 120 (o_6 11)), (a 12, aI E 120 (o_6 12)), (hp1, oX6 sp1)]) (fun _ => rfl) (fun _ => ?_)
          cases hxt
          exact hret _ _ _ (DX0_prepare 50 rfl) ⟨(), rfl⟩
        refine r.iconst (v := (1 : Int32)) (DX0_prepare 44 rfl) rfl ?_
        refine r.goto 84 (DX0_prepare 45 rfl) rfl ?_
        refine r.put (ws' := [(a 1, oX3 a), (a 2, aI E 16 (hM 2)), (a 3, aI E 16 (hM 3)), (a 4, aI E 256 (hM 4)), (a 5, aI E 128 (hM 5)), (a 6, aI E 128 (hM 6)), (a 7, aI E 128 (hM 7)), (a 9, oX0 a (upd (upd (upd (upd (upd (hM 9) 4 o_2) 5 ((65535 : Int32) &&& ((sp1 1) ^^^ (-1 : Int32)))) 6 (0 : Int32)) 7 (0 : Int32)) 8 (1 : Int32))), (a 10, aI E 4096 (hM 10)), (a 11, aI E 120 (hM 11)), (a 12, aI E 120 (hM 12)), (hp1, oX6 sp1)]) kX0 f_X0_58 7 rfl rfl rfl rfl (Nat.le_of_ble_eq_true rfl) rfl (DX0_prepare 47 rfl) ?_
        refine r.aload_n 0 (DX0_prepare 48 rfl) rfl ?_
        obtain ⟨o_7, ho_7, hxt⟩ := xbd hxt
        refine r.callVV 7 rfl rfl (t_X0_workOut E a (mset hM 9 (upd (upd (upd (upd (upd (hM 9) 4 o_2) 5 ((65535 : Int32) &&& ((sp1 1) ^^^ (-1 : Int32)))) 6 (0 : Int32)) 7 (0 : Int32)) 8 (1 : Int32))) ho_7) g_X0_61 rfl (DX0_prepare 49 rfl) rfl ⟨(Nat.le_of_ble_eq_true rfl), (Nat.le_of_ble_eq_true rfl)⟩ ⟨(Nat.le_of_ble_eq_true rfl), (Nat.le_of_ble_eq_true rfl)⟩ (Nat.le_of_ble_eq_true rfl) [0, 1, 2, 3, 4, 5, 6, 7, 8, 9, 10] [11] rfl rfl rfl rfl (by decide) [1, 2, 3, 4, 5, 6, 7, 8, 9, 10, 11, 0] rfl (ws2 := fun _ => [(a 1, oX3 a), (a 2, aI E 16 (hM 2)), (a 3, aI E 16 (hM 3)), (a 4, aI E 256 (hM 4)), (a 5, aI E 128 (hM 5)), (a 6, aI E 128 (hM 6)), (a 7, aI E 128 (hM 7)), (a 9, oX0 a (upd (upd (upd (upd (upd (hM 9) 4 o_2) 5 ((65535 : Int32) &&& ((sp1 1) ^^^ (-1 : Int32)))) 6 (0 : Int32)) 7 (0 : Int32)) 8 (1 : Int32))), (a 10, aI E 4096 (o_7 10)), (a 11, aI E 120 (o_7 11)), (a 12, aI E 120 (o_7 12)), (hp1, oX6 sp1)]) (fun _ => rfl) (fun _ => ?_)
        cases hxt
        exact hret _ _ _ (DX0_prepare 50 rfl) ⟨(), rfl⟩
      refine r.iconst (v := (1 : Int32)) (DX0_prepare 34 rfl) rfl ?_
      refine r.goto 66 (DX0_prepare 35 rfl) rfl ?_
      refine r.put (ws' := [(a 1, oX3 a), (a 2, aI E 16 (hM 2)), (a 3, aI E 16 (hM 3)), (a 4, aI E 256 (hM 4)), (a 5, aI E 128 (hM 5)), (a 6, aI E 128 (hM 6)), (a 7, aI E 128 (hM 7)), (a 9, oX0 a (upd (upd (upd (upd (hM 9) 4 o_2) 5 ((65535 : Int32) &&& ((sp1 1) ^^^ (-1 : Int32)))) 6 (0 : Int32)) 7 (1 : Int32))), (a 10, aI E 4096 (hM 10)), (a 11, aI E 120 (hM 11)), (a 12, aI E 120 (hM 12)), (hp1, oX6 sp1)]) kX0 f_X0_55 7 rfl rfl rfl rfl (Nat.le_of_ble_eq_true rfl) rfl (DX0_prepare 37 rfl) ?_
      refine r.aload_n 0 (DX0_prepare 38 rfl) rfl ?_
      refine r.aload_n 1 (DX0_prepare 39 rfl) rfl ?_
      refine r.iconst (v := (2 : Int32)) (DX0_prepare 40 rfl) rfl ?_
      obtain ⟨o_8, ho_8, hxt⟩ := xbd hxt
      refine r.callVI 0 rfl rfl (t_X6_setting E a hp1 (2 : Int32) sp1 ho_8) g_X0_47 rfl (DX0_prepare 41 rfl) rfl ⟨(Nat.le_of_ble_eq_true rfl), (Nat.le_of_ble_eq_true rfl)⟩ ⟨(Nat.le_of_ble_eq_true rfl), (Nat.le_of_ble_eq_true rfl)⟩ (Nat.le_of_ble_eq_true rfl) [11] [0, 1, 2, 3, 4, 5, 6, 7, 8, 9, 10] rfl rfl rfl rfl (by decide) [0, 1, 2, 3, 4, 5, 6, 7, 8, 9, 10, 11] rfl (ws2 := fun _ => [(a 1, oX3 a), (a 2, aI E 16 (hM 2)), (a 3, aI E 16 (hM 3)), (a 4, aI E 256 (hM 4)), (a 5, aI E 128 (hM 5)), (a 6, aI E 128 (hM 6)), (a 7, aI E 128 (hM 7)), (a 9, oX0 a (upd (upd (upd (upd (hM 9) 4 o_2) 5 ((65535 : Int32) &&& ((sp1 1) ^^^ (-1 : Int32)))) 6 (0 : Int32)) 7 (1 : Int32))), (a 10, aI E 4096 (hM 10)), (a 11, aI E 120 (hM 11)), (a 12, aI E 120 (hM 12)), (hp1, oX6 sp1)]) (fun _ => rfl) (fun _ => ?_)
      refine r.iconst (v := (1 : Int32)) (DX0_prepare 42 rfl) rfl ?_
      refine r.icmp_ne 83 (DX0_prepare 43 rfl) rfl hxt (fun _ hxt => ?_) (fun _ hxt => ?_)
      · refine r.iconst (v := (0 : Int32)) (DX0_prepare 46 rfl) rfl ?_
        refine r.put (ws' := [(a 1, oX3 a), (a 2, aI E 16 (hM 2)), (a 3, aI E 16 (hM 3)), (a 4, aI E 256 (hM 4)), (a 5, aI E 128 (hM 5)), (a 6, aI E 128 (hM 6)), (a 7, aI E 128 (hM 7)), (a 9, oX0 a (upd (upd (upd (upd (upd (hM 9) 4 o_2) 5 ((65535 : Int32) &&& ((sp1 1) ^^^ (-1 : Int32)))) 6 (0 : Int32)) 7 (1 : Int32)) 8 (0 : Int32))), (a 10, aI E 4096 (hM 10)), (a 11, aI E 120 (hM 11)), (a 12, aI E 120 (hM 12)), (hp1, oX6 sp1)]) kX0 f_X0_58 7 rfl rfl rfl rfl (Nat.le_of_ble_eq_true rfl) rfl (DX0_prepare 47 rfl) ?_
        refine r.aload_n 0 (DX0_prepare 48 rfl) rfl ?_
        obtain ⟨o_9, ho_9, hxt⟩ := xbd hxt
        refine r.callVV 7 rfl rfl (t_X0_workOut E a (mset hM 9 (upd (upd (upd (upd (upd (hM 9) 4 o_2) 5 ((65535 : Int32) &&& ((sp1 1) ^^^ (-1 : Int32)))) 6 (0 : Int32)) 7 (1 : Int32)) 8 (0 : Int32))) ho_9) g_X0_61 rfl (DX0_prepare 49 rfl) rfl ⟨(Nat.le_of_ble_eq_true rfl), (Nat.le_of_ble_eq_true rfl)⟩ ⟨(Nat.le_of_ble_eq_true rfl), (Nat.le_of_ble_eq_true rfl)⟩ (Nat.le_of_ble_eq_true rfl) [0, 1, 2, 3, 4, 5, 6, 7, 8, 9, 10] [11] rfl rfl rfl rfl (by decide) [1, 2, 3, 4, 5, 6, 7, 8, 9, 10, 11, 0] rfl (ws2 := fun _ => [(a 1, oX3 a), (a 2, aI E 16 (hM 2)), (a 3, aI E 16 (hM 3)), (a 4, aI E 256 (hM 4)), (a 5, aI E 128 (hM 5)), (a 6, aI E 128 (hM 6)), (a 7, aI E 128 (hM 7)), (a 9, oX0 a (upd (upd (upd (upd (upd (hM 9) 4 o_2) 5 ((65535 : Int32) &&& ((sp1 1) ^^^ (-1 : Int32)))) 6 (0 : Int32)) 7 (1 : Int32)) 8 (0 : Int32))), (a 10, aI E 4096 (o_9 10)), (a 11, aI E 120 (o_9 11)), (a 12, aI E 120 (o_9 12)), (hp1, oX6 sp1)]) (fun _ => rfl) (fun _ => ?_)
        cases hxt
        exact hret _ _ _ (DX0_prepare 50 rfl) ⟨(), rfl⟩
      refine r.iconst (v := (1 : Int32)) (DX0_prepare 44 rfl) rfl ?_
      refine r.goto 84 (DX0_prepare 45 rfl) rfl ?_
      refine r.put (ws' := [(a 1, oX3 a), (a 2, aI E 16 (hM 2)), (a 3, aI E 16 (hM 3)), (a 4, aI E 256 (hM 4)), (a 5, aI E 128 (hM 5)), (a 6, aI E 128 (hM 6)), (a 7, aI E 128 (hM 7)), (a 9, oX0 a (upd (upd (upd (upd (upd (hM 9) 4 o_2) 5 ((65535 : Int32) &&& ((sp1 1) ^^^ (-1 : Int32)))) 6 (0 : Int32)) 7 (1 : Int32)) 8 (1 : Int32))), (a 10, aI E 4096 (hM 10)), (a 11, aI E 120 (hM 11)), (a 12, aI E 120 (hM 12)), (hp1, oX6 sp1)]) kX0 f_X0_58 7 rfl rfl rfl rfl (Nat.le_of_ble_eq_true rfl) rfl (DX0_prepare 47 rfl) ?_
      refine r.aload_n 0 (DX0_prepare 48 rfl) rfl ?_
      obtain ⟨o_10, ho_10, hxt⟩ := xbd hxt
      refine r.callVV 7 rfl rfl (t_X0_workOut E a (mset hM 9 (upd (upd (upd (upd (upd (hM 9) 4 o_2) 5 ((65535 : Int32) &&& ((sp1 1) ^^^ (-1 : Int32)))) 6 (0 : Int32)) 7 (1 : Int32)) 8 (1 : Int32))) ho_10) g_X0_61 rfl (DX0_prepare 49 rfl) rfl ⟨(Nat.le_of_ble_eq_true rfl), (Nat.le_of_ble_eq_true rfl)⟩ ⟨(Nat.le_of_ble_eq_true rfl), (Nat.le_of_ble_eq_true rfl)⟩ (Nat.le_of_ble_eq_true rfl) [0, 1, 2, 3, 4, 5, 6, 7, 8, 9, 10] [11] rfl rfl rfl rfl (by decide) [1, 2, 3, 4, 5, 6, 7, 8, 9, 10, 11, 0] rfl (ws2 := fun _ => [(a 1, oX3 a), (a 2, aI E 16 (hM 2)), (a 3, aI E 16 (hM 3)), (a 4, aI E 256 (hM 4)), (a 5, aI E 128 (hM 5)), (a 6, aI E 128 (hM 6)), (a 7, aI E 128 (hM 7)), (a 9, oX0 a (upd (upd (upd (upd (upd (hM 9) 4 o_2) 5 ((65535 : Int32) &&& ((sp1 1) ^^^ (-1 : Int32)))) 6 (0 : Int32)) 7 (1 : Int32)) 8 (1 : Int32))), (a 10, aI E 4096 (o_10 10)), (a 11, aI E 120 (o_10 11)), (a 12, aI E 120 (o_10 12)), (hp1, oX6 sp1)]) (fun _ => rfl) (fun _ => ?_)
      cases hxt
      exact hret _ _ _ (DX0_prepare 50 rfl) ⟨(), rfl⟩
    refine r.iconst (v := (1 : Int32)) (DX0_prepare 24 rfl) rfl ?_
    refine r.goto 48 (DX0_prepare 25 rfl) rfl ?_
    refine r.put (ws' := [(a 1, oX3 a), (a 2, aI E 16 (hM 2)), (a 3, aI E 16 (hM 3)), (a 4, aI E 256 (hM 4)), (a 5, aI E 128 (hM 5)), (a 6, aI E 128 (hM 6)), (a 7, aI E 128 (hM 7)), (a 9, oX0 a (upd (upd (upd (hM 9) 4 o_2) 5 ((65535 : Int32) &&& ((sp1 1) ^^^ (-1 : Int32)))) 6 (1 : Int32))), (a 10, aI E 4096 (hM 10)), (a 11, aI E 120 (hM 11)), (a 12, aI E 120 (hM 12)), (hp1, oX6 sp1)]) kX0 f_X0_51 7 rfl rfl rfl rfl (Nat.le_of_ble_eq_true rfl) rfl (DX0_prepare 27 rfl) ?_
    refine r.aload_n 0 (DX0_prepare 28 rfl) rfl ?_
    refine r.aload_n 1 (DX0_prepare 29 rfl) rfl ?_
    refine r.iconst (v := (1 : Int32)) (DX0_prepare 30 rfl) rfl ?_
    obtain ⟨o_11, ho_11, hxt⟩ := xbd hxt
    refine r.callVI 0 rfl rfl (t_X6_setting E a hp1 (1 : Int32) sp1 ho_11) g_X0_47 rfl (DX0_prepare 31 rfl) rfl ⟨(Nat.le_of_ble_eq_true rfl), (Nat.le_of_ble_eq_true rfl)⟩ ⟨(Nat.le_of_ble_eq_true rfl), (Nat.le_of_ble_eq_true rfl)⟩ (Nat.le_of_ble_eq_true rfl) [11] [0, 1, 2, 3, 4, 5, 6, 7, 8, 9, 10] rfl rfl rfl rfl (by decide) [0, 1, 2, 3, 4, 5, 6, 7, 8, 9, 10, 11] rfl (ws2 := fun _ => [(a 1, oX3 a), (a 2, aI E 16 (hM 2)), (a 3, aI E 16 (hM 3)), (a 4, aI E 256 (hM 4)), (a 5, aI E 128 (hM 5)), (a 6, aI E 128 (hM 6)), (a 7, aI E 128 (hM 7)), (a 9, oX0 a (upd (upd (upd (hM 9) 4 o_2) 5 ((65535 : Int32) &&& ((sp1 1) ^^^ (-1 : Int32)))) 6 (1 : Int32))), (a 10, aI E 4096 (hM 10)), (a 11, aI E 120 (hM 11)), (a 12, aI E 120 (hM 12)), (hp1, oX6 sp1)]) (fun _ => rfl) (fun _ => ?_)
    refine r.iconst (v := (1 : Int32)) (DX0_prepare 32 rfl) rfl ?_
    refine r.icmp_ne 65 (DX0_prepare 33 rfl) rfl hxt (fun _ hxt => ?_) (fun _ hxt => ?_)
    · refine r.iconst (v := (0 : Int32)) (DX0_prepare 36 rfl) rfl ?_
      refine r.put (ws' := [(a 1, oX3 a), (a 2, aI E 16 (hM 2)), (a 3, aI E 16 (hM 3)), (a 4, aI E 256 (hM 4)), (a 5, aI E 128 (hM 5)), (a 6, aI E 128 (hM 6)), (a 7, aI E 128 (hM 7)), (a 9, oX0 a (upd (upd (upd (upd (hM 9) 4 o_2) 5 ((65535 : Int32) &&& ((sp1 1) ^^^ (-1 : Int32)))) 6 (1 : Int32)) 7 (0 : Int32))), (a 10, aI E 4096 (hM 10)), (a 11, aI E 120 (hM 11)), (a 12, aI E 120 (hM 12)), (hp1, oX6 sp1)]) kX0 f_X0_55 7 rfl rfl rfl rfl (Nat.le_of_ble_eq_true rfl) rfl (DX0_prepare 37 rfl) ?_
      refine r.aload_n 0 (DX0_prepare 38 rfl) rfl ?_
      refine r.aload_n 1 (DX0_prepare 39 rfl) rfl ?_
      refine r.iconst (v := (2 : Int32)) (DX0_prepare 40 rfl) rfl ?_
      obtain ⟨o_12, ho_12, hxt⟩ := xbd hxt
      refine r.callVI 0 rfl rfl (t_X6_setting E a hp1 (2 : Int32) sp1 ho_12) g_X0_47 rfl (DX0_prepare 41 rfl) rfl ⟨(Nat.le_of_ble_eq_true rfl), (Nat.le_of_ble_eq_true rfl)⟩ ⟨(Nat.le_of_ble_eq_true rfl), (Nat.le_of_ble_eq_true rfl)⟩ (Nat.le_of_ble_eq_true rfl) [11] [0, 1, 2, 3, 4, 5, 6, 7, 8, 9, 10] rfl rfl rfl rfl (by decide) [0, 1, 2, 3, 4, 5, 6, 7, 8, 9, 10, 11] rfl (ws2 := fun _ => [(a 1, oX3 a), (a 2, aI E 16 (hM 2)), (a 3, aI E 16 (hM 3)), (a 4, aI E 256 (hM 4)), (a 5, aI E 128 (hM 5)), (a 6, aI E 128 (hM 6)), (a 7, aI E 128 (hM 7)), (a 9, oX0 a (upd (upd (upd (upd (hM 9) 4 o_2) 5 ((65535 : Int32) &&& ((sp1 1) ^^^ (-1 : Int32)))) 6 (1 : Int32)) 7 (0 : Int32))), (a 10, aI E 4096 (hM 10)), (a 11, aI E 120 (hM 11)), (a 12, aI E 120 (hM 12)), (hp1, oX6 sp1)]) (fun _ => rfl) (fun _ => ?_)
      refine r.iconst (v := (1 : Int32)) (DX0_prepare 42 rfl) rfl ?_
      refine r.icmp_ne 83 (DX0_prepare 43 rfl) rfl hxt (fun _ hxt => ?_) (fun _ hxt => ?_)
      · refine r.iconst (v := (0 : Int32)) (DX0_prepare 46 rfl) rfl ?_
        refine r.put (ws' := [(a 1, oX3 a), (a 2, aI E 16 (hM 2)), (a 3, aI E 16 (hM 3)), (a 4, aI E 256 (hM 4)), (a 5, aI E 128 (hM 5)), (a 6, aI E 128 (hM 6)), (a 7, aI E 128 (hM 7)), (a 9, oX0 a (upd (upd (upd (upd (upd (hM 9) 4 o_2) 5 ((65535 : Int32) &&& ((sp1 1) ^^^ (-1 : Int32)))) 6 (1 : Int32)) 7 (0 : Int32)) 8 (0 : Int32))), (a 10, aI E 4096 (hM 10)), (a 11, aI E 120 (hM 11)), (a 12, aI E 120 (hM 12)), (hp1, oX6 sp1)]) kX0 f_X0_58 7 rfl rfl rfl rfl (Nat.le_of_ble_eq_true rfl) rfl (DX0_prepare 47 rfl) ?_
        refine r.aload_n 0 (DX0_prepare 48 rfl) rfl ?_
        obtain ⟨o_13, ho_13, hxt⟩ := xbd hxt
        refine r.callVV 7 rfl rfl (t_X0_workOut E a (mset hM 9 (upd (upd (upd (upd (upd (hM 9) 4 o_2) 5 ((65535 : Int32) &&& ((sp1 1) ^^^ (-1 : Int32)))) 6 (1 : Int32)) 7 (0 : Int32)) 8 (0 : Int32))) ho_13) g_X0_61 rfl (DX0_prepare 49 rfl) rfl ⟨(Nat.le_of_ble_eq_true rfl), (Nat.le_of_ble_eq_true rfl)⟩ ⟨(Nat.le_of_ble_eq_true rfl), (Nat.le_of_ble_eq_true rfl)⟩ (Nat.le_of_ble_eq_true rfl) [0, 1, 2, 3, 4, 5, 6, 7, 8, 9, 10] [11] rfl rfl rfl rfl (by decide) [1, 2, 3, 4, 5, 6, 7, 8, 9, 10, 11, 0] rfl (ws2 := fun _ => [(a 1, oX3 a), (a 2, aI E 16 (hM 2)), (a 3, aI E 16 (hM 3)), (a 4, aI E 256 (hM 4)), (a 5, aI E 128 (hM 5)), (a 6, aI E 128 (hM 6)), (a 7, aI E 128 (hM 7)), (a 9, oX0 a (upd (upd (upd (upd (upd (hM 9) 4 o_2) 5 ((65535 : Int32) &&& ((sp1 1) ^^^ (-1 : Int32)))) 6 (1 : Int32)) 7 (0 : Int32)) 8 (0 : Int32))), (a 10, aI E 4096 (o_13 10)), (a 11, aI E 120 (o_13 11)), (a 12, aI E 120 (o_13 12)), (hp1, oX6 sp1)]) (fun _ => rfl) (fun _ => ?_)
        cases hxt
        exact hret _ _ _ (DX0_prepare 50 rfl) ⟨(), rfl⟩
      refine r.iconst (v := (1 : Int32)) (DX0_prepare 44 rfl) rfl ?_
      refine r.goto 84 (DX0_prepare 45 rfl) rfl ?_
      refine r.put (ws' := [(a 1, oX3 a), (a 2, aI E 16 (hM 2)), (a 3, aI E 16 (hM 3)), (a 4, aI E 256 (hM 4)), (a 5, aI E 128 (hM 5)), (a 6, aI E 128 (hM 6)), (a 7, aI E 128 (hM 7)), (a 9, oX0 a (upd (upd (upd (upd (upd (hM 9) 4 o_2) 5 ((65535 : Int32) &&& ((sp1 1) ^^^ (-1 : Int32)))) 6 (1 : Int32)) 7 (0 : Int32)) 8 (1 : Int32))), (a 10, aI E 4096 (hM 10)), (a 11, aI E 120 (hM 11)), (a 12, aI E 120 (hM 12)), (hp1, oX6 sp1)]) kX0 f_X0_58 7 rfl rfl rfl rfl (Nat.le_of_ble_eq_true rfl) rfl (DX0_prepare 47 rfl) ?_
      refine r.aload_n 0 (DX0_prepare 48 rfl) rfl ?_
      obtain ⟨o_14, ho_14, hxt⟩ := xbd hxt
      refine r.callVV 7 rfl rfl (t_X0_workOut E a (mset hM 9 (upd (upd (upd (upd (upd (hM 9) 4 o_2) 5 ((65535 : Int32) &&& ((sp1 1) ^^^ (-1 : Int32)))) 6 (1 : Int32)) 7 (0 : Int32)) 8 (1 : Int32))) ho_14) g_X0_61 rfl (DX0_prepare 49 rfl) rfl ⟨(Nat.le_of_ble_eq_true rfl), (Nat.le_of_ble_eq_true rfl)⟩ ⟨(Nat.le_of_ble_eq_true rfl), (Nat.le_of_ble_eq_true rfl)⟩ (Nat.le_of_ble_eq_true rfl) [0, 1, 2, 3, 4, 5, 6, 7, 8, 9, 10] [11] rfl rfl rfl rfl (by decide) [1, 2, 3, 4, 5, 6, 7, 8, 9, 10, 11, 0] rfl (ws2 := fun _ => [(a 1, oX3 a), (a 2, aI E 16 (hM 2)), (a 3, aI E 16 (hM 3)), (a 4, aI E 256 (hM 4)), (a 5, aI E 128 (hM 5)), (a 6, aI E 128 (hM 6)), (a 7, aI E 128 (hM 7)), (a 9, oX0 a (upd (upd (upd (upd (upd (hM 9) 4 o_2) 5 ((65535 : Int32) &&& ((sp1 1) ^^^ (-1 : Int32)))) 6 (1 : Int32)) 7 (0 : Int32)) 8 (1 : Int32))), (a 10, aI E 4096 (o_14 10)), (a 11, aI E 120 (o_14 11)), (a 12, aI E 120 (o_14 12)), (hp1, oX6 sp1)]) (fun _ => rfl) (fun _ => ?_)
      cases hxt
      exact hret _ _ _ (DX0_prepare 50 rfl) ⟨(), rfl⟩
    refine r.iconst (v := (1 : Int32)) (DX0_prepare 34 rfl) rfl ?_
    refine r.goto 66 (DX0_prepare 35 rfl) rfl ?_
    refine r.put (ws' := [(a 1, oX3 a), (a 2, aI E 16 (hM 2)), (a 3, aI E 16 (hM 3)), (a 4, aI E 256 (hM 4)), (a 5, aI E 128 (hM 5)), (a 6, aI E 128 (hM 6)), (a 7, aI E 128 (hM 7)), (a 9, oX0 a (upd (upd (upd (upd (hM 9) 4 o_2) 5 ((65535 : Int32) &&& ((sp1 1) ^^^ (-1 : Int32)))) 6 (1 : Int32)) 7 (1 : Int32))), (a 10, aI E 4096 (hM 10)), (a 11, aI E 120 (hM 11)), (a 12, aI E 120 (hM 12)), (hp1, oX6 sp1)]) kX0 f_X0_55 7 rfl rfl rfl rfl (Nat.le_of_ble_eq_true rfl) rfl (DX0_prepare 37 rfl) ?_
    refine r.aload_n 0 (DX0_prepare 38 rfl) rfl ?_
    refine r.aload_n 1 (DX0_prepare 39 rfl) rfl ?_
    refine r.iconst (v := (2 : Int32)) (DX0_prepare 40 rfl) rfl ?_
    obtain ⟨o_15, ho_15, hxt⟩ := xbd hxt
    refine r.callVI 0 rfl rfl (t_X6_setting E a hp1 (2 : Int32) sp1 ho_15) g_X0_47 rfl (DX0_prepare 41 rfl) rfl ⟨(Nat.le_of_ble_eq_true rfl), (Nat.le_of_ble_eq_true rfl)⟩ ⟨(Nat.le_of_ble_eq_true rfl), (Nat.le_of_ble_eq_true rfl)⟩ (Nat.le_of_ble_eq_true rfl) [11] [0, 1, 2, 3, 4, 5, 6, 7, 8, 9, 10] rfl rfl rfl rfl (by decide) [0, 1, 2, 3, 4, 5, 6, 7, 8, 9, 10, 11] rfl (ws2 := fun _ => [(a 1, oX3 a), (a 2, aI E 16 (hM 2)), (a 3, aI E 16 (hM 3)), (a 4, aI E 256 (hM 4)), (a 5, aI E 128 (hM 5)), (a 6, aI E 128 (hM 6)), (a 7, aI E 128 (hM 7)), (a 9, oX0 a (upd (upd (upd (upd (hM 9) 4 o_2) 5 ((65535 : Int32) &&& ((sp1 1) ^^^ (-1 : Int32)))) 6 (1 : Int32)) 7 (1 : Int32))), (a 10, aI E 4096 (hM 10)), (a 11, aI E 120 (hM 11)), (a 12, aI E 120 (hM 12)), (hp1, oX6 sp1)]) (fun _ => rfl) (fun _ => ?_)
    refine r.iconst (v := (1 : Int32)) (DX0_prepare 42 rfl) rfl ?_
    refine r.icmp_ne 83 (DX0_prepare 43 rfl) rfl hxt (fun _ hxt => ?_) (fun _ hxt => ?_)
    · refine r.iconst (v := (0 : Int32)) (DX0_prepare 46 rfl) rfl ?_
      refine r.put (ws' := [(a 1, oX3 a), (a 2, aI E 16 (hM 2)), (a 3, aI E 16 (hM 3)), (a 4, aI E 256 (hM 4)), (a 5, aI E 128 (hM 5)), (a 6, aI E 128 (hM 6)), (a 7, aI E 128 (hM 7)), (a 9, oX0 a (upd (upd (upd (upd (upd (hM 9) 4 o_2) 5 ((65535 : Int32) &&& ((sp1 1) ^^^ (-1 : Int32)))) 6 (1 : Int32)) 7 (1 : Int32)) 8 (0 : Int32))), (a 10, aI E 4096 (hM 10)), (a 11, aI E 120 (hM 11)), (a 12, aI E 120 (hM 12)), (hp1, oX6 sp1)]) kX0 f_X0_58 7 rfl rfl rfl rfl (Nat.le_of_ble_eq_true rfl) rfl (DX0_prepare 47 rfl) ?_
      refine r.aload_n 0 (DX0_prepare 48 rfl) rfl ?_
      obtain ⟨o_16, ho_16, hxt⟩ := xbd hxt
      refine r.callVV 7 rfl rfl (t_X0_workOut E a (mset hM 9 (upd (upd (upd (upd (upd (hM 9) 4 o_2) 5 ((65535 : Int32) &&& ((sp1 1) ^^^ (-1 : Int32)))) 6 (1 : Int32)) 7 (1 : Int32)) 8 (0 : Int32))) ho_16) g_X0_61 rfl (DX0_prepare 49 rfl) rfl ⟨(Nat.le_of_ble_eq_true rfl), (Nat.le_of_ble_eq_true rfl)⟩ ⟨(Nat.le_of_ble_eq_true rfl), (Nat.le_of_ble_eq_true rfl)⟩ (Nat.le_of_ble_eq_true rfl) [0, 1, 2, 3, 4, 5, 6, 7, 8, 9, 10] [11] rfl rfl rfl rfl (by decide) [1, 2, 3, 4, 5, 6, 7, 8, 9, 10, 11, 0] rfl (ws2 := fun _ => [(a 1, oX3 a), (a 2, aI E 16 (hM 2)), (a 3, aI E 16 (hM 3)), (a 4, aI E 256 (hM 4)), (a 5, aI E 128 (hM 5)), (a 6, aI E 128 (hM 6)), (a 7, aI E 128 (hM 7)), (a 9, oX0 a (upd (upd (upd (upd (upd (hM 9) 4 o_2) 5 ((65535 : Int32) &&& ((sp1 1) ^^^ (-1 : Int32)))) 6 (1 : Int32)) 7 (1 : Int32)) 8 (0 : Int32))), (a 10, aI E 4096 (o_16 10)), (a 11, aI E 120 (o_16 11)), (a 12, aI E 120 (o_16 12)), (hp1, oX6 sp1)]) (fun _ => rfl) (fun _ => ?_)
      cases hxt
      exact hret _ _ _ (DX0_prepare 50 rfl) ⟨(), rfl⟩
    refine r.iconst (v := (1 : Int32)) (DX0_prepare 44 rfl) rfl ?_
    refine r.goto 84 (DX0_prepare 45 rfl) rfl ?_
    refine r.put (ws' := [(a 1, oX3 a), (a 2, aI E 16 (hM 2)), (a 3, aI E 16 (hM 3)), (a 4, aI E 256 (hM 4)), (a 5, aI E 128 (hM 5)), (a 6, aI E 128 (hM 6)), (a 7, aI E 128 (hM 7)), (a 9, oX0 a (upd (upd (upd (upd (upd (hM 9) 4 o_2) 5 ((65535 : Int32) &&& ((sp1 1) ^^^ (-1 : Int32)))) 6 (1 : Int32)) 7 (1 : Int32)) 8 (1 : Int32))), (a 10, aI E 4096 (hM 10)), (a 11, aI E 120 (hM 11)), (a 12, aI E 120 (hM 12)), (hp1, oX6 sp1)]) kX0 f_X0_58 7 rfl rfl rfl rfl (Nat.le_of_ble_eq_true rfl) rfl (DX0_prepare 47 rfl) ?_
    refine r.aload_n 0 (DX0_prepare 48 rfl) rfl ?_
    obtain ⟨o_17, ho_17, hxt⟩ := xbd hxt
    refine r.callVV 7 rfl rfl (t_X0_workOut E a (mset hM 9 (upd (upd (upd (upd (upd (hM 9) 4 o_2) 5 ((65535 : Int32) &&& ((sp1 1) ^^^ (-1 : Int32)))) 6 (1 : Int32)) 7 (1 : Int32)) 8 (1 : Int32))) ho_17) g_X0_61 rfl (DX0_prepare 49 rfl) rfl ⟨(Nat.le_of_ble_eq_true rfl), (Nat.le_of_ble_eq_true rfl)⟩ ⟨(Nat.le_of_ble_eq_true rfl), (Nat.le_of_ble_eq_true rfl)⟩ (Nat.le_of_ble_eq_true rfl) [0, 1, 2, 3, 4, 5, 6, 7, 8, 9, 10] [11] rfl rfl rfl rfl (by decide) [1, 2, 3, 4, 5, 6, 7, 8, 9, 10, 11, 0] rfl (ws2 := fun _ => [(a 1, oX3 a), (a 2, aI E 16 (hM 2)), (a 3, aI E 16 (hM 3)), (a 4, aI E 256 (hM 4)), (a 5, aI E 128 (hM 5)), (a 6, aI E 128 (hM 6)), (a 7, aI E 128 (hM 7)), (a 9, oX0 a (upd (upd (upd (upd (upd (hM 9) 4 o_2) 5 ((65535 : Int32) &&& ((sp1 1) ^^^ (-1 : Int32)))) 6 (1 : Int32)) 7 (1 : Int32)) 8 (1 : Int32))), (a 10, aI E 4096 (o_17 10)), (a 11, aI E 120 (o_17 11)), (a 12, aI E 120 (o_17 12)), (hp1, oX6 sp1)]) (fun _ => rfl) (fun _ => ?_)
    cases hxt
    exact hret _ _ _ (DX0_prepare 50 rfl) ⟨(), rfl⟩
  cases hxt
  exact hret _ _ _ (DX0_prepare 5 rfl) ⟨(), rfl⟩
set_option maxRecDepth 100000 in
set_option maxHeartbeats 4000000 in
theorem t_X0_at (E : xE) (a : Nat → Nat) (x1 : Int32) (hM : Mem) {o : Int32} (hxt : xt_X0_at x1 hM = some o) : xMI (S := Unit) E yX0_at cX0_at 2 .int 0 0 0 [.ref (a 9), .int x1] [(a 9, oX0 a (hM 9)), (a 10, aI E 4096 (hM 10))] (fun _ => o) (fun _ => [(a 9, oX0 a (hM 9)), (a 10, aI E 4096 (hM 10))]) := by
  refine xMI.of (own := RX0) (lo0 := [(0, .ref (a 9)), (1, .int x1)]) (by decide +kernel) rfl rfl (Nat.le_of_ble_eq_true rfl) (fun V r hret => ?_)
  unfold xt_X0_at at hxt
  refine r.iload_n 1 (DX0_at 0 rfl) rfl ?_
  refine r.if_lt 20 (DX0_at 1 rfl) rfl hxt (fun _ hxt => ?_) (fun _ hxt => ?_)
  · refine r.bipush (v := (-6 : Int32)) (DX0_at 10 rfl) rfl ?_
    cases hxt
    exact hret _ _ _ _ (DX0_at 11 rfl) rfl ⟨(), rfl, rfl⟩
  refine r.iload_n 1 (DX0_at 2 rfl) rfl ?_
  refine r.sipush (v := (4096 : Int32)) (DX0_at 3 rfl) rfl ?_
  refine r.icmp_ge 20 (DX0_at 4 rfl) rfl hxt (fun _ hxt => ?_) (fun _ hxt => ?_)
  · refine r.bipush (v := (-6 : Int32)) (DX0_at 10 rfl) rfl ?_
    cases hxt
    exact hret _ _ _ _ (DX0_at 11 rfl) rfl ⟨(), rfl, rfl⟩
  refine r.aload_n 0 (DX0_at 5 rfl) rfl ?_
  refine r.get (v := .ref (a 10)) kX0 f_X0_17 rfl 0 rfl rfl (DX0_at 6 rfl) ?_
  refine r.iload_n 1 (DX0_at 7 rfl) rfl ?_
  obtain ⟨hin, hxt⟩ := xgd_some hxt
  refine r.iald 1 rfl hin (DX0_at 8 rfl) ?_
  refine r.goto 22 (DX0_at 9 rfl) rfl ?_
  cases hxt
  exact hret _ _ _ _ (DX0_at 11 rfl) rfl ⟨(), rfl, rfl⟩
