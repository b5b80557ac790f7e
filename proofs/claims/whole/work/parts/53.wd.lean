set_option maxRecDepth 100000 in
set_option maxHeartbeats 4000000 in
theorem l_X1_imageOf_5 (E : xE) (a : Nat → Nat) (x1 : Int32) (x2 : Int32) (hM : Mem) {V : xVT} (r : Rl E RX1 cX1_imageOf (xR 1 0 0) 5 false V) {o : Int32} {k : Int32 → Option (Int32)} (hk : ∀ (v3 : Int32), k v3 = some o → V 0 0 42 [(3, .int v3)] [] [(a 1, oX3 a), (a 8, aI E 128 (hM 8)), (a 13, oX1 a (hM 13))]) : ∀ (n : Nat) (v3 : Int32) (v4 : Int32), xt_X1_imageOf_l5 x1 x2 hM k n v3 v4 = some o → V 0 0 5 [(0, .ref (a 13)), (1, .int x1), (2, .int x2), (3, .int v3), (4, .int v4)] [] [(a 1, oX3 a), (a 8, aI E 128 (hM 8)), (a 13, oX1 a (hM 13))] := by
  intro n
  induction n with
  | zero => intro v3 v4 hxt; exact xno hxt
  | succ n ih =>
    intro v3 v4 hxt
    rw [xt_X1_imageOf_l5] at hxt
    refine r.iload 4 (DX1_imageOf 4 rfl) rfl ?_
    refine r.bipush (v := (16 : Int32)) (DX1_imageOf 5 rfl) rfl ?_
    refine r.icmp_ge 42 (DX1_imageOf 6 rfl) rfl hxt (fun _ hxt => ?_) (fun _ hxt => ?_)
    · refine r.rel (lo' := [(3, .int v3)]) [3] rfl ?_
      exact hk v3 hxt
    refine r.iload_n 2 (DX1_imageOf 7 rfl) rfl ?_
    refine r.iload 4 (DX1_imageOf 8 rfl) rfl ?_
    refine r.ishr (DX1_imageOf 9 rfl) ?_
    refine r.iconst (v := (1 : Int32)) (DX1_imageOf 10 rfl) rfl ?_
    refine r.iand (DX1_imageOf 11 rfl) ?_
    refine r.if_eq 36 (DX1_imageOf 12 rfl) rfl hxt (fun _ hxt => ?_) (fun _ hxt => ?_)
    · refine r.iinc (v := (v4 + (1 : Int32))) (lo' := [(4, .int (v4 + (1 : Int32))), (0, .ref (a 13)), (1, .int x1), (2, .int x2), (3, .int v3)]) 4 (DX1_imageOf 23 rfl) rfl rfl (Nat.le_of_ble_eq_true rfl) rfl ?_
      refine r.goto 5 (DX1_imageOf 24 rfl) rfl ?_
      refine r.rel (lo' := [(0, .ref (a 13)), (1, .int x1), (2, .int x2), (3, .int v3), (4, .int (v4 + (1 : Int32)))]) [1, 2, 3, 4, 0] rfl ?_
      exact ih v3 (v4 + (1 : Int32)) hxt
    refine r.iload_n 3 (DX1_imageOf 13 rfl) rfl ?_
    refine r.iconst (v := (1 : Int32)) (DX1_imageOf 14 rfl) rfl ?_
    refine r.aload_n 0 (DX1_imageOf 15 rfl) rfl ?_
    refine r.get (v := .ref (a 1)) kX1 f_X1_7 rfl 2 rfl rfl (DX1_imageOf 16 rfl) ?_
    refine r.iload_n 1 (DX1_imageOf 17 rfl) rfl ?_
    refine r.iload 4 (DX1_imageOf 18 rfl) rfl ?_
    obtain ⟨o_1, ho_1, hxt⟩ := xbd hxt
    refine r.callVI 0 rfl rfl (t_X3_image E a x1 v4 hM ho_1) g_X1_30 rfl (DX1_imageOf 19 rfl) rfl ⟨(Nat.le_of_ble_eq_true rfl), (Nat.le_of_ble_eq_true rfl)⟩ ⟨(Nat.le_of_ble_eq_true rfl), (Nat.le_of_ble_eq_true rfl)⟩ (Nat.le_of_ble_eq_true rfl) [0, 1] [2] rfl rfl rfl rfl (by decide) [1, 2, 0] rfl (ws2 := fun _ => [(a 1, oX3 a), (a 8, aI E 128 (hM 8)), (a 13, oX1 a (hM 13))]) (fun _ => rfl) (fun _ => ?_)
    refine r.ishl (DX1_imageOf 20 rfl) ?_
    refine r.ior (DX1_imageOf 21 rfl) ?_
    refine r.istore_n (lo' := [(3, .int (v3 ||| ((1 : Int32) <<< (o_1 &&& 31)))), (0, .ref (a 13)), (1, .int x1), (2, .int x2), (4, .int v4)]) (DX1_imageOf 22 rfl) (Nat.le_of_ble_eq_true rfl) rfl ?_
    refine r.iinc (v := (v4 + (1 : Int32))) (lo' := [(4, .int (v4 + (1 : Int32))), (3, .int (v3 ||| ((1 : Int32) <<< (o_1 &&& 31)))), (0, .ref (a 13)), (1, .int x1), (2, .int x2)]) 4 (DX1_imageOf 23 rfl) rfl rfl (Nat.le_of_ble_eq_true rfl) rfl ?_
    refine r.goto 5 (DX1_imageOf 24 rfl) rfl ?_
    refine r.rel (lo' := [(0, .ref (a 13)), (1, .int x1), (2, .int x2), (3, .int (v3 ||| ((1 : Int32) <<< (o_1 &&& 31)))), (4, .int (v4 + (1 : Int32)))]) [2, 3, 4, 1, 0] rfl ?_
    exact ih (v3 ||| ((1 : Int32) <<< (o_1 &&& 31))) (v4 + (1 : Int32)) hxt
set_option maxRecDepth 100000 in
set_option maxHeartbeats 4000000 in
theorem t_X1_imageOf (E : xE) (a : Nat → Nat) (x1 : Int32) (x2 : Int32) (hM : Mem) {o : Int32} (hxt : xt_X1_imageOf x1 x2 hM = some o) : xMI (S := Unit) E yX1_imageOf cX1_imageOf 5 .int 1 0 0 [.ref (a 13), .int x1, .int x2] [(a 1, oX3 a), (a 8, aI E 128 (hM 8)), (a 13, oX1 a (hM 13))] (fun _ => o) (fun _ => [(a 1, oX3 a), (a 8, aI E 128 (hM 8)), (a 13, oX1 a (hM 13))]) := by
  refine xMI.of (own := RX1) (lo0 := [(0, .ref (a 13)), (1, .int x1), (2, .int x2)]) (by decide +kernel) rfl rfl (Nat.le_of_ble_eq_true rfl) (fun V r hret => ?_)
  unfold xt_X1_imageOf at hxt
  refine r.iconst (v := (0 : Int32)) (DX1_imageOf 0 rfl) rfl ?_
  refine r.istore_n (lo' := [(3, .int (0 : Int32)), (0, .ref (a 13)), (1, .int x1), (2, .int x2)]) (DX1_imageOf 1 rfl) (Nat.le_of_ble_eq_true rfl) rfl ?_
  refine r.iconst (v := (0 : Int32)) (DX1_imageOf 2 rfl) rfl ?_
  refine r.istore (lo' := [(4, .int (0 : Int32)), (3, .int (0 : Int32)), (0, .ref (a 13)), (1, .int x1), (2, .int x2)]) (DX1_imageOf 3 rfl) (Nat.le_of_ble_eq_true rfl) rfl ?_
  refine r.rel (lo' := [(0, .ref (a 13)), (1, .int x1), (2, .int x2), (3, .int (0 : Int32)), (4, .int (0 : Int32))]) [2, 3, 4, 1, 0] rfl ?_
  refine l_X1_imageOf_5 E a x1 x2 hM r (fun v3_2 hxt => ?_) 10000 (0 : Int32) (0 : Int32) hxt
  refine r.iload_n 0 (DX1_imageOf 25 rfl) rfl ?_
  cases hxt
  exact hret _ _ _ _ (DX1_imageOf 26 rfl) rfl ⟨(), rfl, rfl⟩
set_option maxRecDepth 100000 in
set_option maxHeartbeats 4000000 in
theorem l_X1_prepare_21 (E : xE) (a : Nat → Nat) (x1 : Int32) (hM : Mem) {V : xVT} (r : Rl E RX1 cX1_prepare (xR 2 0 0) 3 false V) {o : Mem} {k : Mem → Option (Mem)} (hk : ∀ (mM : Mem), k mM = some o → V 0 0 66 [] [] [(a 1, oX3 a), (a 8, aI E 128 (hM 8)), (a 13, oX1 a (mM 13)), (a 14, aI E 8 (mM 14))]) : ∀ (n : Nat) (v2 : Int32) (mM : Mem), xt_X1_prepare_l21 x1 hM k n v2 mM = some o → V 0 0 21 [(0, .ref (a 13)), (1, .int x1), (2, .int v2)] [] [(a 1, oX3 a), (a 8, aI E 128 (hM 8)), (a 13, oX1 a (mM 13)), (a 14, aI E 8 (mM 14))] := by
  intro n
  induction n with
  | zero => intro v2 mM hxt; exact xno hxt
  | succ n ih =>
    intro v2 mM hxt
    rw [xt_X1_prepare_l21] at hxt
    refine r.iload_n 2 (DX1_prepare 13 rfl) rfl ?_
    refine r.bipush (v := (8 : Int32)) (DX1_prepare 14 rfl) rfl ?_
    refine r.icmp_ge 66 (DX1_prepare 15 rfl) rfl hxt (fun _ hxt => ?_) (fun _ hxt => ?_)
    · refine r.rel (lo' := []) [] rfl ?_
      exact hk (mgs hM [13, 14] mM) hxt
    refine r.aload_n 0 (DX1_prepare 16 rfl) rfl ?_
    refine r.iload_n 2 (DX1_prepare 17 rfl) rfl ?_
    refine r.iload_n 1 (DX1_prepare 18 rfl) rfl ?_
    obtain ⟨o_1, ho_1, hxt⟩ := xbd hxt
    refine r.callVI 2 rfl rfl (t_X1_imageOf E a v2 x1 (mgs hM [13] mM) ho_1) g_X1_26 rfl (DX1_prepare 19 rfl) rfl ⟨(Nat.le_of_ble_eq_true rfl), (Nat.le_of_ble_eq_true rfl)⟩ ⟨(Nat.le_of_ble_eq_true rfl), (Nat.le_of_ble_eq_true rfl)⟩ (Nat.le_of_ble_eq_true rfl) [0, 1, 2] [3] rfl rfl rfl rfl (by decide) [1, 2, 3, 0] rfl (ws2 := fun _ => [(a 1, oX3 a), (a 8, aI E 128 (hM 8)), (a 13, oX1 a (mM 13)), (a 14, aI E 8 (mM 14))]) (fun _ => rfl) (fun _ => ?_)
    refine r.iload_n 1 (DX1_prepare 20 rfl) rfl ?_
    refine r.icmp_ne 60 (DX1_prepare 21 rfl) rfl hxt (fun _ hxt => ?_) (fun _ hxt => ?_)
    · refine r.iinc (v := (v2 + (1 : Int32))) (lo' := [(2, .int (v2 + (1 : Int32))), (0, .ref (a 13)), (1, .int x1)]) 2 (DX1_prepare 36 rfl) rfl rfl (Nat.le_of_ble_eq_true rfl) rfl ?_
      refine r.goto 21 (DX1_prepare 37 rfl) rfl ?_
      refine r.rel (lo' := [(0, .ref (a 13)), (1, .int x1), (2, .int (v2 + (1 : Int32)))]) [1, 2, 0] rfl ?_
      exact ih (v2 + (1 : Int32)) (mgs hM [13, 14] mM) hxt
    refine r.aload_n 0 (DX1_prepare 22 rfl) rfl ?_
    refine r.get (v := .ref (a 14)) kX1 f_X1_15 rfl 2 rfl rfl (DX1_prepare 23 rfl) ?_
    refine r.aload_n 0 (DX1_prepare 24 rfl) rfl ?_
    refine r.get (v := .int ((mM 13) 2)) kX1 f_X1_23 rfl 2 rfl rfl (DX1_prepare 25 rfl) ?_
    refine r.bipush (v := (7 : Int32)) (DX1_prepare 26 rfl) rfl ?_
    refine r.iand (DX1_prepare 27 rfl) ?_
    refine r.iload_n 2 (DX1_prepare 28 rfl) rfl ?_
    obtain ⟨hin, hxt⟩ := xgd_some hxt
    refine r.iast (ws' := [(a 1, oX3 a), (a 8, aI E 128 (hM 8)), (a 13, oX1 a (mM 13)), (a 14, aI E 8 (upd (mM 14) (((mM 13) 2) &&& (7 : Int32)).toNatClampNeg v2))]) 3 rfl hin rfl (DX1_prepare 29 rfl) ?_
    refine r.aload_n 0 (DX1_prepare 30 rfl) rfl ?_
    refine r.dup (DX1_prepare 31 rfl) rfl ?_
    refine r.get (v := .int ((mM 13) 2)) kX1 f_X1_23 rfl 2 rfl rfl (DX1_prepare 32 rfl) ?_
    refine r.iconst (v := (1 : Int32)) (DX1_prepare 33 rfl) rfl ?_
    refine r.iadd (DX1_prepare 34 rfl) ?_
    refine r.put (ws' := [(a 1, oX3 a), (a 8, aI E 128 (hM 8)), (a 13, oX1 a (upd (mM 13) 2 (((mM 13) 2) + (1 : Int32)))), (a 14, aI E 8 (upd (mM 14) (((mM 13) 2) &&& (7 : Int32)).toNatClampNeg v2))]) kX1 f_X1_23 2 rfl rfl rfl rfl (Nat.le_of_ble_eq_true rfl) rfl (DX1_prepare 35 rfl) ?_
    refine r.iinc (v := (v2 + (1 : Int32))) (lo' := [(2, .int (v2 + (1 : Int32))), (0, .ref (a 13)), (1, .int x1)]) 2 (DX1_prepare 36 rfl) rfl rfl (Nat.le_of_ble_eq_true rfl) rfl ?_
    refine r.goto 21 (DX1_prepare 37 rfl) rfl ?_
    refine r.rel (lo' := [(0, .ref (a 13)), (1, .int x1), (2, .int (v2 + (1 : Int32)))]) [1, 2, 0] rfl ?_
    exact ih (v2 + (1 : Int32)) (mset (mset hM 13 (upd (mM 13) 2 (((mM 13) 2) + (1 : Int32)))) 14 (upd (mM 14) (((mM 13) 2) &&& (7 : Int32)).toNatClampNeg v2)) hxt
set_option maxRecDepth 100000 in
set_option maxHeartbeats 4000000 in
theorem t_X1_prepare (E : xE) (a : Nat → Nat) (x1 : Int32) (hM : Mem) {o : Mem} (hxt : xt_X1_prepare x1 hM = some o) : xMV (S := Unit) E yX1_prepare cX1_prepare 3 2 0 0 [.ref (a 13), .int x1] [(a 1, oX3 a), (a 8, aI E 128 (hM 8)), (a 13, oX1 a (hM 13)), (a 14, aI E 8 (hM 14))] (fun _ => [(a 1, oX3 a), (a 8, aI E 128 (hM 8)), (a 13, oX1 a (o 13)), (a 14, aI E 8 (o 14))]) := by
  refine xMV.of (own := RX1) (lo0 := [(0, .ref (a 13)), (1, .int x1)]) (ini := false) (fun h => nomatch h) (by decide +kernel) rfl rfl (Nat.le_of_ble_eq_true rfl) (fun V r hret => ?_)
  unfold xt_X1_prepare at hxt
  refine r.aload_n 0 (DX1_prepare 0 rfl) rfl ?_
  refine r.get (v := .int ((hM 13) 3)) kX1 f_X1_19 rfl 2 rfl rfl (DX1_prepare 1 rfl) ?_
  refine r.iload_n 1 (DX1_prepare 2 rfl) rfl ?_
  refine r.icmp_ne 9 (DX1_prepare 3 rfl) rfl hxt (fun _ hxt => ?_) (fun _ hxt => ?_)
  · refine r.aload_n 0 (DX1_prepare 5 rfl) rfl ?_
    refine r.iload_n 1 (DX1_prepare 6 rfl) rfl ?_
    refine r.put (ws' := [(a 1, oX3 a), (a 8, aI E 128 (hM 8)), (a 13, oX1 a (upd (hM 13) 3 x1)), (a 14, aI E 8 (hM 14))]) kX1 f_X1_19 2 rfl rfl rfl rfl (Nat.le_of_ble_eq_true rfl) rfl (DX1_prepare 7 rfl) ?_
    refine r.aload_n 0 (DX1_prepare 8 rfl) rfl ?_
    refine r.iconst (v := (0 : Int32)) (DX1_prepare 9 rfl) rfl ?_
    refine r.put (ws' := [(a 1, oX3 a), (a 8, aI E 128 (hM 8)), (a 13, oX1 a (upd (upd (hM 13) 2 (0 : Int32)) 3 x1)), (a 14, aI E 8 (hM 14))]) kX1 f_X1_23 2 rfl rfl rfl rfl (Nat.le_of_ble_eq_true rfl) rfl (DX1_prepare 10 rfl) ?_
    refine r.iconst (v := (1 : Int32)) (DX1_prepare 11 rfl) rfl ?_
    refine r.istore_n (lo' := [(2, .int (1 : Int32)), (0, .ref (a 13)), (1, .int x1)]) (DX1_prepare 12 rfl) (Nat.le_of_ble_eq_true rfl) rfl ?_
    refine r.rel (lo' := [(0, .ref (a 13)), (1, .int x1), (2, .int (1 : Int32))]) [1, 2, 0] rfl ?_
    refine l_X1_prepare_21 E a x1 (mset hM 13 (upd (upd (hM 13) 2 (0 : Int32)) 3 x1)) r (fun m_2 hxt => ?_) 10000 (1 : Int32) (mset hM 13 (upd (upd (hM 13) 2 (0 : Int32)) 3 x1)) hxt
    cases hxt
    exact hret _ _ _ (DX1_prepare 38 rfl) ⟨(), rfl⟩
  cases hxt
  exact hret _ _ _ (DX1_prepare 4 rfl) ⟨(), rfl⟩
set_option maxRecDepth 100000 in
set_option maxHeartbeats 4000000 in
theorem t_X1_imageOfNumber (E : xE) (a : Nat → Nat) (x1 : Int32) (x2 : Int32) (hM : Mem) {o : Int32} (hxt : xt_X1_imageOfNumber x1 x2 hM = some o) : xMI (S := Unit) E yX1_imageOfNumber cX1_imageOfNumber 7 .int 2 0 0 [.ref (a 13), .int x1, .int x2] [(a 1, oX3 a), (a 4, aI E 256 (hM 4)), (a 5, aI E 128 (hM 5)), (a 6, aI E 128 (hM 6)), (a 8, aI E 128 (hM 8)), (a 13, oX1 a (hM 13))] (fun _ => o) (fun _ => [(a 1, oX3 a), (a 4, aI E 256 (hM 4)), (a 5, aI E 128 (hM 5)), (a 6, aI E 128 (hM 6)), (a 8, aI E 128 (hM 8)), (a 13, oX1 a (hM 13))]) := by
  refine xMI.of (own := RX1) (lo0 := [(0, .ref (a 13)), (1, .int x1), (2, .int x2)]) (by decide +kernel) rfl rfl (Nat.le_of_ble_eq_true rfl) (fun V r hret => ?_)
  unfold xt_X1_imageOfNumber at hxt
  refine r.iload_n 2 (DX1_imageOfNumber 0 rfl) rfl ?_
  obtain ⟨o_1, ho_1, hxt⟩ := xbd hxt
  refine r.callSI0 (t_X3_pairIn E x2 ho_1) g_X1_33 rfl (DX1_imageOfNumber 1 rfl) rfl ⟨(Nat.le_of_ble_eq_true rfl), (Nat.le_of_ble_eq_true rfl)⟩ (Nat.le_of_ble_eq_true rfl) ?_
  refine r.istore_n (lo' := [(3, .int o_1), (0, .ref (a 13)), (1, .int x1), (2, .int x2)]) (DX1_imageOfNumber 2 rfl) (Nat.le_of_ble_eq_true rfl) rfl ?_
  refine r.aload_n 1 (DX1_imageOfNumber 3 rfl) rfl ?_
  refine r.get (v := .ref (a 1)) kX1 f_X1_7 rfl 5 rfl rfl (DX1_imageOfNumber 4 rfl) ?_
  refine r.iload_n 2 (DX1_imageOfNumber 5 rfl) rfl ?_
  refine r.iload_n 3 (DX1_imageOfNumber 6 rfl) rfl ?_
  obtain ⟨o_2, ho_2, hxt⟩ := xbd hxt
  refine r.callSI0 (t_X3_foxOf E x2 ho_2) g_X1_37 rfl (DX1_imageOfNumber 7 rfl) rfl ⟨(Nat.le_of_ble_eq_true rfl), (Nat.le_of_ble_eq_true rfl)⟩ (Nat.le_of_ble_eq_true rfl) ?_
  obtain ⟨o_3, ho_3, hxt⟩ := xbd hxt
  refine r.callVI 0 rfl rfl (t_X3_image E a x1 o_2 hM ho_3) g_X1_30 rfl (DX1_imageOfNumber 8 rfl) rfl ⟨(Nat.le_of_ble_eq_true rfl), (Nat.le_of_ble_eq_true rfl)⟩ ⟨(Nat.le_of_ble_eq_true rfl), (Nat.le_of_ble_eq_true rfl)⟩ (Nat.le_of_ble_eq_true rfl) [0, 4] [1, 2, 3, 5] rfl rfl rfl rfl (by decide) [4, 0, 1, 2, 5, 3] rfl (ws2 := fun _ => [(a 1, oX3 a), (a 4, aI E 256 (hM 4)), (a 5, aI E 128 (hM 5)), (a 6, aI E 128 (hM 6)), (a 8, aI E 128 (hM 8)), (a 13, oX1 a (hM 13))]) (fun _ => rfl) (fun _ => ?_)
  refine r.istore (lo' := [(4, .int o_3), (3, .int o_1), (0, .ref (a 13)), (1, .int x1), (2, .int x2)]) (DX1_imageOfNumber 9 rfl) (Nat.le_of_ble_eq_true rfl) rfl ?_
  refine r.aload_n 2 (DX1_imageOfNumber 10 rfl) rfl ?_
  refine r.get (v := .ref (a 1)) kX1 f_X1_7 rfl 5 rfl rfl (DX1_imageOfNumber 11 rfl) ?_
  refine r.iload_n 3 (DX1_imageOfNumber 12 rfl) rfl ?_
  refine r.aload_n 2 (DX1_imageOfNumber 13 rfl) rfl ?_
  refine r.get (v := .ref (a 1)) kX1 f_X1_7 rfl 5 rfl rfl (DX1_imageOfNumber 14 rfl) ?_
  refine r.iload_n 1 (DX1_imageOfNumber 15 rfl) rfl ?_
  obtain ⟨o_4, ho_4, hxt⟩ := xbd hxt
  refine r.callVI 0 rfl rfl (t_X3_lowerOf E a o_1 hM ho_4) g_X1_40 rfl (DX1_imageOfNumber 16 rfl) rfl ⟨(Nat.le_of_ble_eq_true rfl), (Nat.le_of_ble_eq_true rfl)⟩ ⟨(Nat.le_of_ble_eq_true rfl), (Nat.le_of_ble_eq_true rfl)⟩ (Nat.le_of_ble_eq_true rfl) [0, 2] [1, 3, 4, 5] rfl rfl rfl rfl (by decide) [4, 0, 5, 1, 2, 3] rfl (ws2 := fun _ => [(a 1, oX3 a), (a 4, aI E 256 (hM 4)), (a 5, aI E 128 (hM 5)), (a 6, aI E 128 (hM 6)), (a 8, aI E 128 (hM 8)), (a 13, oX1 a (hM 13))]) (fun _ => rfl) (fun _ => ?_)
  obtain ⟨o_5, ho_5, hxt⟩ := xbd hxt
  refine r.callVI 0 rfl rfl (t_X3_image E a x1 o_4 hM ho_5) g_X1_30 rfl (DX1_imageOfNumber 17 rfl) rfl ⟨(Nat.le_of_ble_eq_true rfl), (Nat.le_of_ble_eq_true rfl)⟩ ⟨(Nat.le_of_ble_eq_true rfl), (Nat.le_of_ble_eq_true rfl)⟩ (Nat.le_of_ble_eq_true rfl) [0, 4] [1, 2, 3, 5] rfl rfl rfl rfl (by decide) [4, 0, 1, 2, 5, 3] rfl (ws2 := fun _ => [(a 1, oX3 a), (a 4, aI E 256 (hM 4)), (a 5, aI E 128 (hM 5)), (a 6, aI E 128 (hM 6)), (a 8, aI E 128 (hM 8)), (a 13, oX1 a (hM 13))]) (fun _ => rfl) (fun _ => ?_)
  refine r.istore (lo' := [(5, .int o_5), (4, .int o_3), (3, .int o_1), (0, .ref (a 13)), (1, .int x1), (2, .int x2)]) (DX1_imageOfNumber 18 rfl) (Nat.le_of_ble_eq_true rfl) rfl ?_
  refine r.aload_n 3 (DX1_imageOfNumber 19 rfl) rfl ?_
  refine r.get (v := .ref (a 1)) kX1 f_X1_7 rfl 5 rfl rfl (DX1_imageOfNumber 20 rfl) ?_
  refine r.iload_n 4 (DX1_imageOfNumber 21 rfl) rfl ?_
  refine r.aload_n 3 (DX1_imageOfNumber 22 rfl) rfl ?_
  refine r.get (v := .ref (a 1)) kX1 f_X1_7 rfl 5 rfl rfl (DX1_imageOfNumber 23 rfl) ?_
  refine r.iload_n 2 (DX1_imageOfNumber 24 rfl) rfl ?_
  obtain ⟨o_6, ho_6, hxt⟩ := xbd hxt
  refine r.callVI 0 rfl rfl (t_X3_higherOf E a o_1 hM ho_6) g_X1_43 rfl (DX1_imageOfNumber 25 rfl) rfl ⟨(Nat.le_of_ble_eq_true rfl), (Nat.le_of_ble_eq_true rfl)⟩ ⟨(Nat.le_of_ble_eq_true rfl), (Nat.le_of_ble_eq_true rfl)⟩ (Nat.le_of_ble_eq_true rfl) [0, 3] [1, 2, 4, 5] rfl rfl rfl rfl (by decide) [4, 0, 1, 5, 2, 3] rfl (ws2 := fun _ => [(a 1, oX3 a), (a 4, aI E 256 (hM 4)), (a 5, aI E 128 (hM 5)), (a 6, aI E 128 (hM 6)), (a 8, aI E 128 (hM 8)), (a 13, oX1 a (hM 13))]) (fun _ => rfl) (fun _ => ?_)
  obtain ⟨o_7, ho_7, hxt⟩ := xbd hxt
  refine r.callVI 0 rfl rfl (t_X3_image E a x1 o_6 hM ho_7) g_X1_30 rfl (DX1_imageOfNumber 26 rfl) rfl ⟨(Nat.le_of_ble_eq_true rfl), (Nat.le_of_ble_eq_true rfl)⟩ ⟨(Nat.le_of_ble_eq_true rfl), (Nat.le_of_ble_eq_true rfl)⟩ (Nat.le_of_ble_eq_true rfl) [0, 4] [1, 2, 3, 5] rfl rfl rfl rfl (by decide) [4, 0, 1, 2, 5, 3] rfl (ws2 := fun _ => [(a 1, oX3 a), (a 4, aI E 256 (hM 4)), (a 5, aI E 128 (hM 5)), (a 6, aI E 128 (hM 6)), (a 8, aI E 128 (hM 8)), (a 13, oX1 a (hM 13))]) (fun _ => rfl) (fun _ => ?_)
  refine r.istore (lo' := [(6, .int o_7), (5, .int o_5), (4, .int o_3), (3, .int o_1), (0, .ref (a 13)), (1, .int x1), (2, .int x2)]) (DX1_imageOfNumber 27 rfl) (Nat.le_of_ble_eq_true rfl) rfl ?_
  refine r.aload_n 4 (DX1_imageOfNumber 28 rfl) rfl ?_
  refine r.get (v := .ref (a 1)) kX1 f_X1_7 rfl 5 rfl rfl (DX1_imageOfNumber 29 rfl) ?_
  refine r.iload_n 6 (DX1_imageOfNumber 30 rfl) rfl ?_
  obtain ⟨o_8, ho_8, hxt⟩ := xbd hxt
  refine r.callSI0 (t_X3_whoOf E x2 ho_8) g_X1_46 rfl (DX1_imageOfNumber 31 rfl) rfl ⟨(Nat.le_of_ble_eq_true rfl), (Nat.le_of_ble_eq_true rfl)⟩ (Nat.le_of_ble_eq_true rfl) ?_
  refine r.iload 2 (DX1_imageOfNumber 32 rfl) rfl ?_
  refine r.iload 1 (DX1_imageOfNumber 33 rfl) rfl ?_
  refine r.iload 0 (DX1_imageOfNumber 34 rfl) rfl ?_
  obtain ⟨o_9, ho_9, hxt⟩ := xbd hxt
  refine r.callVI 0 rfl rfl (t_X3_numberOf E a o_8 o_3 o_5 o_7 hM ho_9) g_X1_49 rfl (DX1_imageOfNumber 35 rfl) rfl ⟨(Nat.le_of_ble_eq_true rfl), (Nat.le_of_ble_eq_true rfl)⟩ ⟨(Nat.le_of_ble_eq_true rfl), (Nat.le_of_ble_eq_true rfl)⟩ (Nat.le_of_ble_eq_true rfl) [0, 1] [2, 3, 4, 5] rfl rfl rfl rfl (by decide) [4, 5, 0, 1, 2, 3] rfl (ws2 := fun _ => [(a 1, oX3 a), (a 4, aI E 256 (hM 4)), (a 5, aI E 128 (hM 5)), (a 6, aI E 128 (hM 6)), (a 8, aI E 128 (hM 8)), (a 13, oX1 a (hM 13))]) (fun _ => rfl) (fun _ => ?_)
  cases hxt
  exact hret _ _ _ _ (DX1_imageOfNumber 36 rfl) rfl ⟨(), rfl, rfl⟩
set_option maxRecDepth 100000 in
set_option maxHeartbeats 4000000 in
theorem l_X1_lowestAlike_4 (E : xE) (a : Nat → Nat) (x1 : Int32) (hM : Mem) {V : xVT} (r : Rl E RX1 cX1_lowestAlike (xR 3 0 0) 4 false V) {o : Int32} {k : Int32 → Option (Int32)} (hk : ∀ (v2 : Int32), k v2 = some o → V 0 0 43 [(2, .int v2)] [] [(a 1, oX3 a), (a 4, aI E 256 (hM 4)), (a 5, aI E 128 (hM 5)), (a 6, aI E 128 (hM 6)), (a 8, aI E 128 (hM 8)), (a 13, oX1 a (hM 13)), (a 14, aI E 8 (hM 14))]) : ∀ (n : Nat) (v2 : Int32) (v3 : Int32), xt_X1_lowestAlike_l4 x1 hM k n v2 v3 = some o → V 0 0 4 [(0, .ref (a 13)), (1, .int x1), (2, .int v2), (3, .int v3)] [] [(a 1, oX3 a), (a 4, aI E 256 (hM 4)), (a 5, aI E 128 (hM 5)), (a 6, aI E 128 (hM 6)), (a 8, aI E 128 (hM 8)), (a 13, oX1 a (hM 13)), (a 14, aI E 8 (hM 14))] := by
  intro n
  induction n with
  | zero => intro v2 v3 hxt; exact xno hxt
  | succ n ih =>
    intro v2 v3 hxt
    rw [xt_X1_lowestAlike_l4] at hxt
    refine r.iload_n 3 (DX1_lowestAlike 4 rfl) rfl ?_
    refine r.aload_n 0 (DX1_lowestAlike 5 rfl) rfl ?_
    refine r.get (v := .int ((hM 13) 2)) kX1 f_X1_23 rfl 5 rfl rfl (DX1_lowestAlike 6 rfl) ?_
    refine r.icmp_ge 43 (DX1_lowestAlike 7 rfl) rfl hxt (fun _ hxt => ?_) (fun _ hxt => ?_)
    · refine r.rel (lo' := [(2, .int v2)]) [2] rfl ?_
      exact hk v2 hxt
    refine r.iload_n 3 (DX1_lowestAlike 8 rfl) rfl ?_
    refine r.aload_n 0 (DX1_lowestAlike 9 rfl) rfl ?_
    refine r.get (v := .ref (a 14)) kX1 f_X1_15 rfl 5 rfl rfl (DX1_lowestAlike 10 rfl) ?_
    refine r.alen (v := (Int32.ofNat 8)) 6 0 rfl rfl rfl (DX1_lowestAlike 11 rfl) ?_
    refine r.icmp_ge 43 (DX1_lowestAlike 12 rfl) rfl hxt (fun _ hxt => ?_) (fun _ hxt => ?_)
    · refine r.rel (lo' := [(2, .int v2)]) [2] rfl ?_
      exact hk v2 hxt
    refine r.iload_n 2 (DX1_lowestAlike 13 rfl) rfl ?_
    refine r.aload_n 0 (DX1_lowestAlike 14 rfl) rfl ?_
    refine r.aload_n 0 (DX1_lowestAlike 15 rfl) rfl ?_
    refine r.get (v := .ref (a 14)) kX1 f_X1_15 rfl 5 rfl rfl (DX1_lowestAlike 16 rfl) ?_
    refine r.iload_n 3 (DX1_lowestAlike 17 rfl) rfl ?_
    obtain ⟨hin, hxt⟩ := xgd_some hxt
    refine r.iald 6 rfl hin (DX1_lowestAlike 18 rfl) ?_
    refine r.iload_n 1 (DX1_lowestAlike 19 rfl) rfl ?_
    obtain ⟨o_1, ho_1, hxt⟩ := xbd hxt
    refine r.callVI 5 rfl rfl (t_X1_imageOfNumber E a ((hM 14) v3.toNatClampNeg) x1 hM ho_1) g_X1_53 rfl (DX1_lowestAlike 20 rfl) rfl ⟨(Nat.le_of_ble_eq_true rfl), (Nat.le_of_ble_eq_true rfl)⟩ ⟨(Nat.le_of_ble_eq_true rfl), (Nat.le_of_ble_eq_true rfl)⟩ (Nat.le_of_ble_eq_true rfl) [0, 1, 2, 3, 4, 5] [6] rfl rfl rfl rfl (by decide) [1, 2, 3, 4, 5, 6, 0] rfl (ws2 := fun _ => [(a 1, oX3 a), (a 4, aI E 256 (hM 4)), (a 5, aI E 128 (hM 5)), (a 6, aI E 128 (hM 6)), (a 8, aI E 128 (hM 8)), (a 13, oX1 a (hM 13)), (a 14, aI E 8 (hM 14))]) (fun _ => rfl) (fun _ => ?_)
    obtain ⟨o_2, ho_2, hxt⟩ := xbd hxt
    refine r.callSI0 (t_J9_min_7cf53 E v2 o_1 ho_2) g_X1_56 rfl (DX1_lowestAlike 21 rfl) rfl ⟨(Nat.le_of_ble_eq_true rfl), (Nat.le_of_ble_eq_true rfl)⟩ (Nat.le_of_ble_eq_true rfl) ?_
    refine r.istore_n (lo' := [(2, .int o_2), (0, .ref (a 13)), (1, .int x1), (3, .int v3)]) (DX1_lowestAlike 22 rfl) (Nat.le_of_ble_eq_true rfl) rfl ?_
    refine r.iinc (v := (v3 + (1 : Int32))) (lo' := [(3, .int (v3 + (1 : Int32))), (2, .int o_2), (0, .ref (a 13)), (1, .int x1)]) 3 (DX1_lowestAlike 23 rfl) rfl rfl (Nat.le_of_ble_eq_true rfl) rfl ?_
    refine r.goto 4 (DX1_lowestAlike 24 rfl) rfl ?_
    refine r.rel (lo' := [(0, .ref (a 13)), (1, .int x1), (2, .int o_2), (3, .int (v3 + (1 : Int32)))]) [2, 3, 1, 0] rfl ?_
    exact ih o_2 (v3 + (1 : Int32)) hxt
set_option maxRecDepth 100000 in
set_option maxHeartbeats 4000000 in
theorem t_X1_lowestAlike (E : xE) (a : Nat → Nat) (x1 : Int32) (hM : Mem) {o : Int32} (hxt : xt_X1_lowestAlike x1 hM = some o) : xMI (S := Unit) E yX1_lowestAlike cX1_lowestAlike 4 .int 3 0 0 [.ref (a 13), .int x1] [(a 1, oX3 a), (a 4, aI E 256 (hM 4)), (a 5, aI E 128 (hM 5)), (a 6, aI E 128 (hM 6)), (a 8, aI E 128 (hM 8)), (a 13, oX1 a (hM 13)), (a 14, aI E 8 (hM 14))] (fun _ => o) (fun _ => [(a 1, oX3 a), (a 4, aI E 256 (hM 4)), (a 5, aI E 128 (hM 5)), (a 6, aI E 128 (hM 6)), (a 8, aI E 128 (hM 8)), (a 13, oX1 a (hM 13)), (a 14, aI E 8 (hM 14))]) := by
  refine xMI.of (own := RX1) (lo0 := [(0, .ref (a 13)), (1, .int x1)]) (by decide +kernel) rfl rfl (Nat.le_of_ble_eq_true rfl) (fun V r hret => ?_)
  unfold xt_X1_lowestAlike at hxt
  refine r.iload_n 1 (DX1_lowestAlike 0 rfl) rfl ?_
  refine r.istore_n (lo' := [(2, .int x1), (0, .ref (a 13)), (1, .int x1)]) (DX1_lowestAlike 1 rfl) (Nat.le_of_ble_eq_true rfl) rfl ?_
  refine r.iconst (v := (0 : Int32)) (DX1_lowestAlike 2 rfl) rfl ?_
  refine r.istore_n (lo' := [(3, .int (0 : Int32)), (2, .int x1), (0, .ref (a 13)), (1, .int x1)]) (DX1_lowestAlike 3 rfl) (Nat.le_of_ble_eq_true rfl) rfl ?_
  refine r.rel (lo' := [(0, .ref (a 13)), (1, .int x1), (2, .int x1), (3, .int (0 : Int32))]) [2, 3, 1, 0] rfl ?_
  refine l_X1_lowestAlike_4 E a x1 hM r (fun v2_3 hxt => ?_) 10000 x1 (0 : Int32) hxt
  refine r.iload_n 0 (DX1_lowestAlike 25 rfl) rfl ?_
  cases hxt
  exact hret _ _ _ _ (DX1_lowestAlike 26 rfl) rfl ⟨(), rfl, rfl⟩
set_option maxRecDepth 100000 in
set_option maxHeartbeats 4000000 in
theorem t_X1_symmetries (E : xE) (a : Nat → Nat) (hM : Mem) {o : Int32} (hxt : xt_X1_symmetries hM = some o) : xMI (S := Unit) E yX1_symmetries cX1_symmetries 1 .int 0 0 0 [.ref (a 13)] [(a 13, oX1 a (hM 13))] (fun _ => o) (fun _ => [(a 13, oX1 a (hM 13))]) := by
  refine xMI.of (own := RX1) (lo0 := [(0, .ref (a 13))]) (by decide +kernel) rfl rfl (Nat.le_of_ble_eq_true rfl) (fun V r hret => ?_)
  unfold xt_X1_symmetries at hxt
  refine r.aload_n 0 (DX1_symmetries 0 rfl) rfl ?_
  refine r.get (v := .int ((hM 13) 2)) kX1 f_X1_23 rfl 0 rfl rfl (DX1_symmetries 1 rfl) ?_
  refine r.iconst (v := (1 : Int32)) (DX1_symmetries 2 rfl) rfl ?_
  refine r.iadd (DX1_symmetries 3 rfl) ?_
  cases hxt
  exact hret _ _ _ _ (DX1_symmetries 4 rfl) rfl ⟨(), rfl, rfl⟩
set_option maxRecDepth 100000 in
set_option maxHeartbeats 4000000 in
theorem l_X1_standsForItself_2 (E : xE) (a : Nat → Nat) (x1 : Int32) (hM : Mem) {V : xVT} (r : Rl E RX1 cX1_standsForItself (xR 3 0 0) 3 false V) {o : Int32} (hret : RtI cX1_standsForItself V .boolean 0 0 (fun v ws => ∃ u : Unit, v = o ∧ ws = [(a 1, oX3 a), (a 4, aI E 256 (hM 4)), (a 5, aI E 128 (hM 5)), (a 6, aI E 128 (hM 6)), (a 8, aI E 128 (hM 8)), (a 13, oX1 a (hM 13)), (a 14, aI E 8 (hM 14))])) {k : Unit → Option (Int32)} (hk : ∀ (_ : Unit), k () = some o → V 0 0 42 [] [] [(a 1, oX3 a), (a 4, aI E 256 (hM 4)), (a 5, aI E 128 (hM 5)), (a 6, aI E 128 (hM 6)), (a 8, aI E 128 (hM 8)), (a 13, oX1 a (hM 13)), (a 14, aI E 8 (hM 14))]) : ∀ (n : Nat) (v2 : Int32), xt_X1_standsForItself_l2 x1 hM k n v2 = some o → V 0 0 2 [(0, .ref (a 13)), (1, .int x1), (2, .int v2)] [] [(a 1, oX3 a), (a 4, aI E 256 (hM 4)), (a 5, aI E 128 (hM 5)), (a 6, aI E 128 (hM 6)), (a 8, aI E 128 (hM 8)), (a 13, oX1 a (hM 13)), (a 14, aI E 8 (hM 14))] := by
  intro n
  induction n with
  | zero => intro v2 hxt; exact xno hxt
  | succ n ih =>
    intro v2 hxt
    rw [xt_X1_standsForItself_l2] at hxt
    refine r.iload_n 2 (DX1_standsForItself 2 rfl) rfl ?_
    refine r.aload_n 0 (DX1_standsForItself 3 rfl) rfl ?_
    refine r.get (v := .int ((hM 13) 2)) kX1 f_X1_23 rfl 5 rfl rfl (DX1_standsForItself 4 rfl) ?_
    refine r.icmp_ge 42 (DX1_standsForItself 5 rfl) rfl hxt (fun _ hxt => ?_) (fun _ hxt => ?_)
    · refine r.rel (lo' := []) [] rfl ?_
      exact hk () hxt
    refine r.iload_n 2 (DX1_standsForItself 6 rfl) rfl ?_
    refine r.aload_n 0 (DX1_standsForItself 7 rfl) rfl ?_
    refine r.get (v := .ref (a 14)) kX1 f_X1_15 rfl 5 rfl rfl (DX1_standsForItself 8 rfl) ?_
    refine r.alen (v := (Int32.ofNat 8)) 6 0 rfl rfl rfl (DX1_standsForItself 9 rfl) ?_
    refine r.icmp_ge 42 (DX1_standsForItself 10 rfl) rfl hxt (fun _ hxt => ?_) (fun _ hxt => ?_)
    · refine r.rel (lo' := []) [] rfl ?_
      exact hk () hxt
    refine r.aload_n 0 (DX1_standsForItself 11 rfl) rfl ?_
    refine r.aload_n 0 (DX1_standsForItself 12 rfl) rfl ?_
    refine r.get (v := .ref (a 14)) kX1 f_X1_15 rfl 5 rfl rfl (DX1_standsForItself 13 rfl) ?_
    refine r.iload_n 2 (DX1_standsForItself 14 rfl) rfl ?_
    obtain ⟨hin, hxt⟩ := xgd_some hxt
    refine r.iald 6 rfl hin (DX1_standsForItself 15 rfl) ?_
    refine r.iload_n 1 (DX1_standsForItself 16 rfl) rfl ?_
    obtain ⟨o_1, ho_1, hxt⟩ := xbd hxt
    refine r.callVI 5 rfl rfl (t_X1_imageOfNumber E a ((hM 14) v2.toNatClampNeg) x1 hM ho_1) g_X1_53 rfl (DX1_standsForItself 17 rfl) rfl ⟨(Nat.le_of_ble_eq_true rfl), (Nat.le_of_ble_eq_true rfl)⟩ ⟨(Nat.le_of_ble_eq_true rfl), (Nat.le_of_ble_eq_true rfl)⟩ (Nat.le_of_ble_eq_true rfl) [0, 1, 2, 3, 4, 5] [6] rfl rfl rfl rfl (by decide) [1, 2, 3, 4, 5, 6, 0] rfl (ws2 := fun _ => [(a 1, oX3 a), (a 4, aI E 256 (hM 4)), (a 5, aI E 128 (hM 5)), (a 6, aI E 128 (hM 6)), (a 8, aI E 128 (hM 8)), (a 13, oX1 a (hM 13)), (a 14, aI E 8 (hM 14))]) (fun _ => rfl) (fun _ => ?_)
    refine r.iload_n 1 (DX1_standsForItself 18 rfl) rfl ?_
    refine r.icmp_ge 36 (DX1_standsForItself 19 rfl) rfl hxt (fun _ hxt => ?_) (fun _ hxt => ?_)
    · refine r.iinc (v := (v2 + (1 : Int32))) (lo' := [(2, .int (v2 + (1 : Int32))), (0, .ref (a 13)), (1, .int x1)]) 2 (DX1_standsForItself 22 rfl) rfl rfl (Nat.le_of_ble_eq_true rfl) rfl ?_
      refine r.goto 2 (DX1_standsForItself 23 rfl) rfl ?_
      refine r.rel (lo' := [(0, .ref (a 13)), (1, .int x1), (2, .int (v2 + (1 : Int32)))]) [1, 2, 0] rfl ?_
      exact ih (v2 + (1 : Int32)) hxt
    refine r.iconst (v := (0 : Int32)) (DX1_standsForItself 20 rfl) rfl ?_
    cases hxt
    exact hret _ _ _ _ (DX1_standsForItself 21 rfl) rfl ⟨(), rfl, rfl⟩
set_option maxRecDepth 100000 in
set_option maxHeartbeats 4000000 in
theorem t_X1_standsForItself (E : xE) (a : Nat → Nat) (x1 : Int32) (hM : Mem) {o : Int32} (hxt : xt_X1_standsForItself x1 hM = some o) : xMI (S := Unit) E yX1_standsForItself cX1_standsForItself 3 .boolean 3 0 0 [.ref (a 13), .int x1] [(a 1, oX3 a), (a 4, aI E 256 (hM 4)), (a 5, aI E 128 (hM 5)), (a 6, aI E 128 (hM 6)), (a 8, aI E 128 (hM 8)), (a 13, oX1 a (hM 13)), (a 14, aI E 8 (hM 14))] (fun _ => o) (fun _ => [(a 1, oX3 a), (a 4, aI E 256 (hM 4)), (a 5, aI E 128 (hM 5)), (a 6, aI E 128 (hM 6)), (a 8, aI E 128 (hM 8)), (a 13, oX1 a (hM 13)), (a 14, aI E 8 (hM 14))]) := by
  refine xMI.of (own := RX1) (lo0 := [(0, .ref (a 13)), (1, .int x1)]) (by decide +kernel) rfl rfl (Nat.le_of_ble_eq_true rfl) (fun V r hret => ?_)
  unfold xt_X1_standsForItself at hxt
  refine r.iconst (v := (0 : Int32)) (DX1_standsForItself 0 rfl) rfl ?_
  refine r.istore_n (lo' := [(2, .int (0 : Int32)), (0, .ref (a 13)), (1, .int x1)]) (DX1_standsForItself 1 rfl) (Nat.le_of_ble_eq_true rfl) rfl ?_
  refine r.rel (lo' := [(0, .ref (a 13)), (1, .int x1), (2, .int (0 : Int32))]) [1, 2, 0] rfl ?_
  refine l_X1_standsForItself_2 E a x1 hM r hret (fun _ hxt => ?_) 10000 (0 : Int32) hxt
  refine r.iconst (v := (1 : Int32)) (DX1_standsForItself 24 rfl) rfl ?_
  cases hxt
  exact hret _ _ _ _ (DX1_standsForItself 25 rfl) rfl ⟨(), rfl, rfl⟩
set_option maxRecDepth 100000 in
set_option maxHeartbeats 4000000 in
theorem t_X7_collect (E : xE) (a : Nat → Nat) (x1 : Int32) (hM : Mem) {o : Mem} (hxt : xt_X7_collect x1 hM = some o) : xMV (S := Unit) E yX7_collect cX7_collect 5 3 0 0 [.ref (a 15), .int x1] [(a 1, oX3 a), (a 5, aI E 128 (hM 5)), (a 6, aI E 128 (hM 6)), (a 9, oX0 a (hM 9)), (a 10, aI E 4096 (hM 10)), (a 15, oX7 a (hM 15)), (a 16, aI E 11 (hM 16)), (a 17, aI E 4096 (hM 17)), (a 18, aI E 6272 (hM 18))] (fun _ => [(a 1, oX3 a), (a 5, aI E 128 (hM 5)), (a 6, aI E 128 (hM 6)), (a 9, oX0 a (hM 9)), (a 10, aI E 4096 (hM 10)), (a 15, oX7 a (hM 15)), (a 16, aI E 11 (o 16)), (a 17, aI E 4096 (o 17)), (a 18, aI E 6272 (o 18))]) := by
  refine xMV.of (own := RX7) (lo0 := [(0, .ref (a 15)), (1, .int x1)]) (ini := false) (fun h => nomatch h) (by decide +kernel) rfl rfl (Nat.le_of_ble_eq_true rfl) (fun V r hret => ?_)
  unfold xt_X7_collect at hxt
  refine r.aload_n 0 (DX7_collect_0 0 rfl) rfl ?_
  refine r.get (v := .ref (a 9)) kX7 f_X7_15 rfl 5 rfl rfl (DX7_collect_0 1 rfl) ?_
  refine r.iload_n 1 (DX7_collect_0 2 rfl) rfl ?_
  obtain ⟨o_1, ho_1, hxt⟩ := xbd hxt
  refine r.callVI 0 rfl rfl (t_X0_at E a x1 hM ho_1) g_X7_92 rfl (DX7_collect_0 3 rfl) rfl ⟨(Nat.le_of_ble_eq_true rfl), (Nat.le_of_ble_eq_true rfl)⟩ ⟨(Nat.le_of_ble_eq_true rfl), (Nat.le_of_ble_eq_true rfl)⟩ (Nat.le_of_ble_eq_true rfl) [3, 4] [0, 1, 2, 5, 6, 7, 8] rfl rfl rfl rfl (by decide) [0, 1, 2, 7, 8, 3, 4, 5, 6] rfl (ws2 := fun _ => [(a 1, oX3 a), (a 5, aI E 128 (hM 5)), (a 6, aI E 128 (hM 6)), (a 9, oX0 a (hM 9)), (a 10, aI E 4096 (hM 10)), (a 15, oX7 a (hM 15)), (a 16, aI E 11 (hM 16)), (a 17, aI E 4096 (hM 17)), (a 18, aI E 6272 (hM 18))]) (fun _ => rfl) (fun _ => ?_)
  refine r.istore_n (lo' := [(2, .int o_1), (0, .ref (a 15)), (1, .int x1)]) (DX7_collect_0 4 rfl) (Nat.le_of_ble_eq_true rfl) rfl ?_
  refine r.iload_n 0 (DX7_collect_0 5 rfl) rfl ?_
  refine r.bipush (v := (-6 : Int32)) (DX7_collect_0 6 rfl) rfl ?_
  refine r.icmp_ne 20 (DX7_collect_0 7 rfl) rfl hxt (fun _ hxt => ?_) (fun _ hxt => ?_)
  · refine r.iload_n 0 (DX7_collect_0 10 rfl) rfl ?_
    refine r.istore_n (lo' := [(3, .int o_1), (2, .int o_1), (0, .ref (a 15)), (1, .int x1)]) (DX7_collect_0 11 rfl) (Nat.le_of_ble_eq_true rfl) rfl ?_
    refine r.aload_n 2 (DX7_collect_0 12 rfl) rfl ?_
    refine r.get (v := .ref (a 1)) kX7 f_X7_11 rfl 5 rfl rfl (DX7_collect_0 13 rfl) ?_
    refine r.iload_n 3 (DX7_collect_0 14 rfl) rfl ?_
    obtain ⟨o_2, ho_2, hxt⟩ := xbd hxt
    refine r.callVI 0 rfl rfl (t_X3_keyOf E a x1 hM ho_2) g_X7_102 rfl (DX7_collect_0 15 rfl) rfl ⟨(Nat.le_of_ble_eq_true rfl), (Nat.le_of_ble_eq_true rfl)⟩ ⟨(Nat.le_of_ble_eq_true rfl), (Nat.le_of_ble_eq_true rfl)⟩ (Nat.le_of_ble_eq_true rfl) [0, 1, 2] [3, 4, 5, 6, 7, 8] rfl rfl rfl rfl (by decide) [6, 7, 8, 0, 1, 2, 3, 4, 5] rfl (ws2 := fun _ => [(a 1, oX3 a), (a 5, aI E 128 (hM 5)), (a 6, aI E 128 (hM 6)), (a 9, oX0 a (hM 9)), (a 10, aI E 4096 (hM 10)), (a 15, oX7 a (hM 15)), (a 16, aI E 11 (hM 16)), (a 17, aI E 4096 (hM 17)), (a 18, aI E 6272 (hM 18))]) (fun _ => rfl) (fun _ => ?_)
    refine r.bipush (v := (64 : Int32)) (DX7_collect_0 16 rfl) rfl ?_
    refine r.imul (DX7_collect_0 17 rfl) ?_
    refine r.iload_n 0 (DX7_collect_0 18 rfl) rfl ?_
    refine r.iadd (DX7_collect_0 19 rfl) ?_
    refine r.istore (lo' := [(4, .int ((o_2 * (64 : Int32)) + o_1)), (3, .int o_1), (2, .int o_1), (0, .ref (a 15)), (1, .int x1)]) (DX7_collect_0 20 rfl) (Nat.le_of_ble_eq_true rfl) rfl ?_
    refine r.iload 0 (DX7_collect_0 21 rfl) rfl ?_
    refine r.if_lt 99 (DX7_collect_0 22 rfl) rfl hxt (fun _ hxt => ?_) (fun _ hxt => ?_)
    · cases hxt
      exact hret _ _ _ (DX7_collect_1 0 rfl) ⟨(), rfl⟩
    refine r.iload 0 (DX7_collect_0 23 rfl) rfl ?_
    refine r.aload_n 3 (DX7_collect_0 24 rfl) rfl ?_
    refine r.get (v := .ref (a 18)) kX7 f_X7_32 rfl 5 rfl rfl (DX7_collect_0 25 rfl) ?_
    refine r.alen (v := (Int32.ofNat 6272)) 8 0 rfl rfl rfl (DX7_collect_0 26 rfl) ?_
    refine r.icmp_ge 99 (DX7_collect_0 27 rfl) rfl hxt (fun _ hxt => ?_) (fun _ hxt => ?_)
    · cases hxt
      exact hret _ _ _ (DX7_collect_1 0 rfl) ⟨(), rfl⟩
    refine r.aload_n 3 (DX7_collect_0 28 rfl) rfl ?_
    refine r.get (v := .ref (a 16)) kX7 f_X7_23 rfl 5 rfl rfl (DX7_collect_0 29 rfl) ?_
    refine r.iconst (v := (1 : Int32)) (DX7_collect_0 30 rfl) rfl ?_
    obtain ⟨hin, hxt⟩ := xgd_some hxt
    refine r.iald 6 rfl hin (DX7_collect_0 31 rfl) ?_
    refine r.aload_n 3 (DX7_collect_0 32 rfl) rfl ?_
    refine r.get (v := .ref (a 17)) kX7 f_X7_29 rfl 5 rfl rfl (DX7_collect_0 33 rfl) ?_
    refine r.alen (v := (Int32.ofNat 4096)) 7 0 rfl rfl rfl (DX7_collect_0 34 rfl) ?_
    refine r.icmp_ge 99 (DX7_collect_0 35 rfl) rfl hxt (fun _ hxt => ?_) (fun _ hxt => ?_)
    · cases hxt
      exact hret _ _ _ (DX7_collect_1 0 rfl) ⟨(), rfl⟩
    refine r.aload_n 3 (DX7_collect_0 36 rfl) rfl ?_
    refine r.get (v := .ref (a 18)) kX7 f_X7_32 rfl 5 rfl rfl (DX7_collect_0 37 rfl) ?_
    refine r.iload 0 (DX7_collect_0 38 rfl) rfl ?_
    refine r.dup2 (DX7_collect_0 39 rfl) rfl rfl ?_
    obtain ⟨hin, hxt⟩ := xgd_some hxt
    refine r.iald 8 rfl hin (DX7_collect_0 40 rfl) ?_
    refine r.iconst (v := (1 : Int32)) (DX7_collect_0 41 rfl) rfl ?_
    refine r.iadd (DX7_collect_0 42 rfl) ?_
    obtain ⟨hin, hxt⟩ := xgd_some hxt
    refine r.iast (ws' := [(a 1, oX3 a), (a 5, aI E 128 (hM 5)), (a 6, aI E 128 (hM 6)), (a 9, oX0 a (hM 9)), (a 10, aI E 4096 (hM 10)), (a 15, oX7 a (hM 15)), (a 16, aI E 11 (hM 16)), (a 17, aI E 4096 (hM 17)), (a 18, aI E 6272 (upd (hM 18) ((o_2 * (64 : Int32)) + o_1).toNatClampNeg (((hM 18) ((o_2 * (64 : Int32)) + o_1).toNatClampNeg) + (1 : Int32))))]) 8 rfl hin rfl (DX7_collect_0 43 rfl) ?_
    refine r.aload_n 3 (DX7_collect_0 44 rfl) rfl ?_
    refine r.get (v := .ref (a 17)) kX7 f_X7_29 rfl 5 rfl rfl (DX7_collect_0 45 rfl) ?_
    refine r.aload_n 3 (DX7_collect_0 46 rfl) rfl ?_
    refine r.get (v := .ref (a 16)) kX7 f_X7_23 rfl 5 rfl rfl (DX7_collect_0 47 rfl) ?_
    refine r.iconst (v := (1 : Int32)) (DX7_collect_0 48 rfl) rfl ?_
    obtain ⟨hin, hxt⟩ := xgd_some hxt
    refine r.iald 6 rfl hin (DX7_collect_0 49 rfl) ?_
    refine r.iload_n 4 (DX7_collect_0 50 rfl) rfl ?_
    obtain ⟨hin, hxt⟩ := xgd_some hxt
    refine r.iast (ws' := [(a 1, oX3 a), (a 5, aI E 128 (hM 5)), (a 6, aI E 128 (hM 6)), (a 9, oX0 a (hM 9)), (a 10, aI E 4096 (hM 10)), (a 15, oX7 a (hM 15)), (a 16, aI E 11 (hM 16)), (a 17, aI E 4096 (upd (hM 17) ((hM 16) (1 : Int32).toNatClampNeg).toNatClampNeg x1)), (a 18, aI E 6272 (upd (hM 18) ((o_2 * (64 : Int32)) + o_1).toNatClampNeg (((hM 18) ((o_2 * (64 : Int32)) + o_1).toNatClampNeg) + (1 : Int32))))]) 7 rfl hin rfl (DX7_collect_0 51 rfl) ?_
    refine r.aload_n 3 (DX7_collect_0 52 rfl) rfl ?_
    refine r.get (v := .ref (a 16)) kX7 f_X7_23 rfl 5 rfl rfl (DX7_collect_0 53 rfl) ?_
    refine r.iconst (v := (1 : Int32)) (DX7_collect_0 54 rfl) rfl ?_
    refine r.dup2 (DX7_collect_0 55 rfl) rfl rfl ?_
    obtain ⟨hin, hxt⟩ := xgd_some hxt
    refine r.iald 6 rfl hin (DX7_collect_0 56 rfl) ?_
    refine r.iconst (v := (1 : Int32)) (DX7_collect_0 57 rfl) rfl ?_
    refine r.iadd (DX7_collect_0 58 rfl) ?_
    obtain ⟨hin, hxt⟩ := xgd_some hxt
    refine r.iast (ws' := [(a 1, oX3 a), (a 5, aI E 128 (hM 5)), (a 6, aI E 128 (hM 6)), (a 9, oX0 a (hM 9)), (a 10, aI E 4096 (hM 10)), (a 15, oX7 a (hM 15)), (a 16, aI E 11 (upd (hM 16) (1 : Int32).toNatClampNeg (((hM 16) (1 : Int32).toNatClampNeg) + (1 : Int32)))), (a 17, aI E 4096 (upd (hM 17) ((hM 16) (1 : Int32).toNatClampNeg).toNatClampNeg x1)), (a 18, aI E 6272 (upd (hM 18) ((o_2 * (64 : Int32)) + o_1).toNatClampNeg (((hM 18) ((o_2 * (64 : Int32)) + o_1).toNatClampNeg) + (1 : Int32))))]) 6 rfl hin rfl (DX7_collect_0 59 rfl) ?_
    cases hxt
    exact hret _ _ _ (DX7_collect_1 0 rfl) ⟨(), rfl⟩
  refine r.bipush (v := (63 : Int32)) (DX7_collect_0 8 rfl) rfl ?_
  refine r.goto 21 (DX7_collect_0 9 rfl) rfl ?_
  refine r.istore_n (lo' := [(3, .int (63 : Int32)), (2, .int o_1), (0, .ref (a 15)), (1, .int x1)]) (DX7_collect_0 11 rfl) (Nat.le_of_ble_eq_true rfl) rfl ?_
  refine r.aload_n 2 (DX7_collect_0 12 rfl) rfl ?_
  refine r.get (v := .ref (a 1)) kX7 f_X7_11 rfl 5 rfl rfl (DX7_collect_0 13 rfl) ?_
  refine r.iload_n 3 (DX7_collect_0 14 rfl) rfl ?_
  obtain ⟨o_3, ho_3, hxt⟩ := xbd hxt
  refine r.callVI 0 rfl rfl (t_X3_keyOf E a x1 hM ho_3) g_X7_102 rfl (DX7_collect_0 15 rfl) rfl ⟨(Nat.le_of_ble_eq_true rfl), (Nat.le_of_ble_eq_true rfl)⟩ ⟨(Nat.le_of_ble_eq_true rfl), (Nat.le_of_ble_eq_true rfl)⟩ (Nat.le_of_ble_eq_true rfl) [0, 1, 2] [3, 4, 5, 6, 7, 8] rfl rfl rfl rfl (by decide) [6, 7, 8, 0, 1, 2, 3, 4, 5] rfl (ws2 := fun _ => [(a 1, oX3 a), (a 5, aI E 128 (hM 5)), (a 6, aI E 128 (hM 6)), (a 9, oX0 a (hM 9)), (a 10, aI E 4096 (hM 10)), (a 15, oX7 a (hM 15)), (a 16, aI E 11 (hM 16)), (a 17, aI E 4096 (hM 17)), (a 18, aI E 6272 (hM 18))]) (fun _ => rfl) (fun _ => ?_)
  refine r.bipush (v := (64 : Int32)) (DX7_collect_0 16 rfl) rfl ?_
  refine r.imul (DX7_collect_0 17 rfl) ?_
  refine r.iload_n 0 (DX7_collect_0 18 rfl) rfl ?_
  refine r.iadd (DX7_collect_0 19 rfl) ?_
  refine r.istore (lo' := [(4, .int ((o_3 * (64 : Int32)) + (63 : Int32))), (3, .int (63 : Int32)), (2, .int o_1), (0, .ref (a 15)), (1, .int x1)]) (DX7_collect_0 20 rfl) (Nat.le_of_ble_eq_true rfl) rfl ?_
  refine r.iload 0 (DX7_collect_0 21 rfl) rfl ?_
  refine r.if_lt 99 (DX7_collect_0 22 rfl) rfl hxt (fun _ hxt => ?_) (fun _ hxt => ?_)
  · cases hxt
    exact hret _ _ _ (DX7_collect_1 0 rfl) ⟨(), rfl⟩
  refine r.iload 0 (DX7_collect_0 23 rfl) rfl ?_
  refine r.aload_n 3 (DX7_collect_0 24 rfl) rfl ?_
  refine r.get (v := .ref (a 18)) kX7 f_X7_32 rfl 5 rfl rfl (DX7_collect_0 25 rfl) ?_
  refine r.alen (v := (Int32.ofNat 6272)) 8 0 rfl rfl rfl (DX7_collect_0 26 rfl) ?_
  refine r.icmp_ge 99 (DX7_collect_0 27 rfl) rfl hxt (fun _ hxt => ?_) (fun _ hxt => ?_)
  · cases hxt
    exact hret _ _ _ (DX7_collect_1 0 rfl) ⟨(), rfl⟩
  refine r.aload_n 3 (DX7_collect_0 28 rfl) rfl ?_
  refine r.get (v := .ref (a 16)) kX7 f_X7_23 rfl 5 rfl rfl (DX7_collect_0 29 rfl) ?_
  refine r.iconst (v := (1 : Int32)) (DX7_collect_0 30 rfl) rfl ?_
  obtain ⟨hin, hxt⟩ := xgd_some hxt
  refine r.iald 6 rfl hin (DX7_collect_0 31 rfl) ?_
  refine r.aload_n 3 (DX7_collect_0 32 rfl) rfl ?_
  refine r.get (v := .ref (a 17)) kX7 f_X7_29 rfl 5 rfl rfl (DX7_collect_0 33 rfl) ?_
  refine r.alen (v := (Int32.ofNat 4096)) 7 0 rfl rfl rfl (DX7_collect_0 34 rfl) ?_
  refine r.icmp_ge 99 (DX7_collect_0 35 rfl) rfl hxt (fun _ hxt => ?_) (fun _ hxt => ?_)
  · cases hxt
    exact hret _ _ _ (DX7_collect_1 0 rfl) ⟨(), rfl⟩
  refine r.aload_n 3 (DX7_collect_0 36 rfl) rfl ?_
  refine r.get (v := .ref (a 18)) kX7 f_X7_32 rfl 5 rfl rfl (DX7_collect_0 37 rfl) ?_
  refine r.iload 0 (DX7_collect_0 38 rfl) rfl ?_
  refine r.dup2 (DX7_collect_0 39 rfl) rfl rfl ?_
  obtain ⟨hin, hxt⟩ := xgd_some hxt
  refine r.iald 8 rfl hin (DX7_collect_0 40 rfl) ?_
  refine r.iconst (v := (1 : Int32)) (DX7_collect_0 41 rfl) rfl ?_
  refine r.iadd (DX7_collect_0 42 rfl) ?_
  obtain ⟨hin, hxt⟩ := xgd_some hxt
  refine r.iast (ws' := [(a 1, oX3 a), (a 5, aI E 128 (hM 5)), (a 6, aI E 128 (hM 6)), (a 9, oX0 a (hM 9)), (a 10, aI E 4096 (hM 10)), (a 15, oX7 a (hM 15)), (a 16, aI E 11 (hM 16)), (a 17, aI E 4096 (hM 17)), (a 18, aI E 6272 (upd (hM 18) ((o_3 * (64 : Int32)) + (63 : Int32)).toNatClampNeg (((hM 18) ((o_3 * (64 : Int32)) + (63 : Int32)).toNatClampNeg) + (1 : Int32))))]) 8 rfl hin rfl (DX7_collect_0 43 rfl) ?_
  refine r.aload_n 3 (DX7_collect_0 44 rfl) rfl ?_
  refine r.get (v := .ref (a 17)) kX7 f_X7_29 rfl 5 rfl rfl (DX7_collect_0 45 rfl) ?_
  refine r.aload_n 3 (DX7_collect_0 46 rfl) rfl ?_
  refine r.get (v := .ref (a 16)) kX7 f_X7_23 rfl 5 rfl rfl (DX7_collect_0 47 rfl) ?_
  refine r.iconst (v := (1 : Int32)) (DX7_collect_0 48 rfl) rfl ?_
  obtain ⟨hin, hxt⟩ := xgd_some hxt
  refine r.iald 6 rfl hin (DX7_collect_0 49 rfl) ?_
  refine r.iload_n 4 (DX7_collect_0 50 rfl) rfl ?_
  obtain ⟨hin, hxt⟩ := xgd_some hxt
  refine r.iast (ws' := [(a 1, oX3 a), (a 5, aI E 128 (hM 5)), (a 6, aI E 128 (hM 6)), (a 9, oX0 a (hM 9)), (a 10, aI E 4096 (hM 10)), (a 15, oX7 a (hM 15)), (a 16, aI E 11 (hM 16)), (a 17, aI E 4096 (upd (hM 17) ((hM 16) (1 : Int32).toNatClampNeg).toNatClampNeg x1)), (a 18, aI E 6272 (upd (hM 18) ((o_3 * (64 : Int32)) + (63 : Int32)).toNatClampNeg (((hM 18) ((o_3 * (64 : Int32)) + (63 : Int32)).toNatClampNeg) + (1 : Int32))))]) 7 rfl hin rfl (DX7_collect_0 51 rfl) ?_
  refine r.aload_n 3 (DX7_collect_0 52 rfl) rfl ?_
  refine r.get (v := .ref (a 16)) kX7 f_X7_23 rfl 5 rfl rfl (DX7_collect_0 53 rfl) ?_
  refine r.iconst (v := (1 : Int32)) (DX7_collect_0 54 rfl) rfl ?_
  refine r.dup2 (DX7_collect_0 55 rfl) rfl rfl ?_
  obtain ⟨hin, hxt⟩ := xgd_some hxt
  refine r.iald 6 rfl hin (DX7_collect_0 56 rfl) ?_
  refine r.iconst (v := (1 : Int32)) (DX7_collect_0 57 rfl) rfl ?_
  refine r.iadd (DX7_collect_0 58 rfl) ?_
  obtain ⟨hin, hxt⟩ := xgd_some hxt
  refine r.iast (ws' := [(a 1, oX3 a), (a 5, aI E 128 (hM 5)), (a 6, aI E 128 (hM 6)), (a 9, oX0 a (hM 9)), (a 10, aI E 4096 (hM 10)), (a 15, oX7 a (hM 15)), (a 16, aI E 11 (upd (hM 16) (1 : Int32).toNatClampNeg (((hM 16) (1 : Int32).toNatClampNeg) + (1 : Int32)))), (a 17, aI E 4096 (upd (hM 17) ((hM 16) (1 : Int32).toNatClampNeg).toNatClampNeg x1)), (a 18, aI E 6272 (upd (hM 18) ((o_3 * (64 : Int32)) + (63 : Int32)).toNatClampNeg (((hM 18) ((o_3 * (64 : Int32)) + (63 : Int32)).toNatClampNeg) + (1 : Int32))))]) 6 rfl hin rfl (DX7_collect_0 59 rfl) ?_
  cases hxt
  exact hret _ _ _ (DX7_collect_1 0 rfl) ⟨(), rfl⟩
set_option maxRecDepth 100000 in
set_option maxHeartbeats 4000000 in
theorem l_X7_goThrough_18 (E : xE) (a : Nat → Nat) (x1 : Int32) (hM : Mem) {V : xVT} (r : Rl E RX7 cX7_goThrough (xR 4 0 0) 3 false V) {o : Mem} {k : Mem → Option (Mem)} (hk : ∀ (mM : Mem), k mM = some o → V 0 0 107 [] [] [(a 1, oX3 a), (a 4, aI E 256 (hM 4)), (a 5, aI E 128 (hM 5)), (a 6, aI E 128 (hM 6)), (a 7, aI E 128 (hM 7)), (a 8, aI E 128 (hM 8)), (a 9, oX0 a (hM 9)), (a 10, aI E 4096 (hM 10)), (a 13, oX1 a (hM 13)), (a 14, aI E 8 (hM 14)), (a 15, oX7 a (hM 15)), (a 16, aI E 11 (mM 16)), (a 17, aI E 4096 (mM 17)), (a 18, aI E 6272 (mM 18))]) : ∀ (n : Nat) (v2 : Int32) (mM : Mem), xt_X7_goThrough_l18 x1 hM k n v2 mM = some o → V 0 0 18 [(0, .ref (a 15)), (1, .int x1), (2, .int v2)] [] [(a 1, oX3 a), (a 4, aI E 256 (hM 4)), (a 5, aI E 128 (hM 5)), (a 6, aI E 128 (hM 6)), (a 7, aI E 128 (hM 7)), (a 8, aI E 128 (hM 8)), (a 9, oX0 a (hM 9)), (a 10, aI E 4096 (hM 10)), (a 13, oX1 a (hM 13)), (a 14, aI E 8 (hM 14)), (a 15, oX7 a (hM 15)), (a 16, aI E 11 (mM 16)), (a 17, aI E 4096 (mM 17)), (a 18, aI E 6272 (mM 18))] := by
  intro n
  induction n with
  | zero => intro v2 mM hxt; exact xno hxt
  | succ n ih =>
    intro v2 mM hxt
    rw [xt_X7_goThrough_l18] at hxt
    refine r.iload_n 2 (DX7_goThrough_0 12 rfl) rfl ?_
    refine r.sipush (v := (4096 : Int32)) (DX7_goThrough_0 13 rfl) rfl ?_
    refine r.icmp_ge 107 (DX7_goThrough_0 14 rfl) rfl hxt (fun _ hxt => ?_) (fun _ hxt => ?_)
    · refine r.rel (lo' := []) [] rfl ?_
      exact hk (mgs hM [16, 17, 18] mM) hxt
    refine r.aload_n 0 (DX7_goThrough_0 15 rfl) rfl ?_
    refine r.get (v := .ref (a 1)) kX7 f_X7_11 rfl 10 rfl rfl (DX7_goThrough_0 16 rfl) ?_
    refine r.iload_n 2 (DX7_goThrough_0 17 rfl) rfl ?_
    refine r.iload_n 1 (DX7_goThrough_0 18 rfl) rfl ?_
    obtain ⟨o_1, ho_1, hxt⟩ := xbd hxt
    refine r.callVI 0 rfl rfl (t_X3_isPosition E a v2 x1 hM ho_1) g_X7_88 rfl (DX7_goThrough_0 19 rfl) rfl ⟨(Nat.le_of_ble_eq_true rfl), (Nat.le_of_ble_eq_true rfl)⟩ ⟨(Nat.le_of_ble_eq_true rfl), (Nat.le_of_ble_eq_true rfl)⟩ (Nat.le_of_ble_eq_true rfl) [0, 4] [1, 2, 3, 5, 6, 7, 8, 9, 10, 11, 12, 13] rfl rfl rfl rfl (by decide) [12, 0, 1, 2, 13, 3, 4, 5, 6, 7, 8, 9, 10, 11] rfl (ws2 := fun _ => [(a 1, oX3 a), (a 4, aI E 256 (hM 4)), (a 5, aI E 128 (hM 5)), (a 6, aI E 128 (hM 6)), (a 7, aI E 128 (hM 7)), (a 8, aI E 128 (hM 8)), (a 9, oX0 a (hM 9)), (a 10, aI E 4096 (hM 10)), (a 13, oX1 a (hM 13)), (a 14, aI E 8 (hM 14)), (a 15, oX7 a (hM 15)), (a 16, aI E 11 (mM 16)), (a 17, aI E 4096 (mM 17)), (a 18, aI E 6272 (mM 18))]) (fun _ => rfl) (fun _ => ?_)
    refine r.if_eq 101 (DX7_goThrough_0 20 rfl) rfl hxt (fun _ hxt => ?_) (fun _ hxt => ?_)
    · refine r.iinc (v := (v2 + (1 : Int32))) (lo' := [(2, .int (v2 + (1 : Int32))), (0, .ref (a 15)), (1, .int x1)]) 2 (DX7_goThrough_0 59 rfl) rfl rfl (Nat.le_of_ble_eq_true rfl) rfl ?_
      refine r.goto 18 (DX7_goThrough_1 0 rfl) rfl ?_
      refine r.rel (lo' := [(0, .ref (a 15)), (1, .int x1), (2, .int (v2 + (1 : Int32)))]) [1, 2, 0] rfl ?_
      exact ih (v2 + (1 : Int32)) (mgs hM [16, 17, 18] mM) hxt
    refine r.aload_n 0 (DX7_goThrough_0 21 rfl) rfl ?_
    refine r.get (v := .ref (a 16)) kX7 f_X7_23 rfl 10 rfl rfl (DX7_goThrough_0 22 rfl) ?_
    refine r.iconst (v := (0 : Int32)) (DX7_goThrough_0 23 rfl) rfl ?_
    refine r.dup2 (DX7_goThrough_0 24 rfl) rfl rfl ?_
    obtain ⟨hin, hxt⟩ := xgd_some hxt
    refine r.iald 11 rfl hin (DX7_goThrough_0 25 rfl) ?_
    refine r.iconst (v := (1 : Int32)) (DX7_goThrough_0 26 rfl) rfl ?_
    refine r.iadd (DX7_goThrough_0 27 rfl) ?_
    obtain ⟨hin, hxt⟩ := xgd_some hxt
    refine r.iast (ws' := [(a 1, oX3 a), (a 4, aI E 256 (hM 4)), (a 5, aI E 128 (hM 5)), (a 6, aI E 128 (hM 6)), (a 7, aI E 128 (hM 7)), (a 8, aI E 128 (hM 8)), (a 9, oX0 a (hM 9)), (a 10, aI E 4096 (hM 10)), (a 13, oX1 a (hM 13)), (a 14, aI E 8 (hM 14)), (a 15, oX7 a (hM 15)), (a 16, aI E 11 (upd (mM 16) (0 : Int32).toNatClampNeg (((mM 16) (0 : Int32).toNatClampNeg) + (1 : Int32)))), (a 17, aI E 4096 (mM 17)), (a 18, aI E 6272 (mM 18))]) 11 rfl hin rfl (DX7_goThrough_0 28 rfl) ?_
    refine r.aload_n 0 (DX7_goThrough_0 29 rfl) rfl ?_
    refine r.get (v := .ref (a 9)) kX7 f_X7_15 rfl 10 rfl rfl (DX7_goThrough_0 30 rfl) ?_
    refine r.iload_n 2 (DX7_goThrough_0 31 rfl) rfl ?_
    obtain ⟨o_2, ho_2, hxt⟩ := xbd hxt
    refine r.callVI 0 rfl rfl (t_X0_at E a v2 hM ho_2) g_X7_92 rfl (DX7_goThrough_0 32 rfl) rfl ⟨(Nat.le_of_ble_eq_true rfl), (Nat.le_of_ble_eq_true rfl)⟩ ⟨(Nat.le_of_ble_eq_true rfl), (Nat.le_of_ble_eq_true rfl)⟩ (Nat.le_of_ble_eq_true rfl) [6, 7] [0, 1, 2, 3, 4, 5, 8, 9, 10, 11, 12, 13] rfl rfl rfl rfl (by decide) [0, 1, 2, 3, 4, 5, 12, 13, 6, 7, 8, 9, 10, 11] rfl (ws2 := fun _ => [(a 1, oX3 a), (a 4, aI E 256 (hM 4)), (a 5, aI E 128 (hM 5)), (a 6, aI E 128 (hM 6)), (a 7, aI E 128 (hM 7)), (a 8, aI E 128 (hM 8)), (a 9, oX0 a (hM 9)), (a 10, aI E 4096 (hM 10)), (a 13, oX1 a (hM 13)), (a 14, aI E 8 (hM 14)), (a 15, oX7 a (hM 15)), (a 16, aI E 11 (upd (mM 16) (0 : Int32).toNatClampNeg (((mM 16) (0 : Int32).toNatClampNeg) + (1 : Int32)))), (a 17, aI E 4096 (mM 17)), (a 18, aI E 6272 (mM 18))]) (fun _ => rfl) (fun _ => ?_)
    refine r.aload_n 0 (DX7_goThrough_0 33 rfl) rfl ?_
    refine r.get (v := .ref (a 16)) kX7 f_X7_23 rfl 10 rfl rfl (DX7_goThrough_0 34 rfl) ?_
    refine r.iconst (v := (3 : Int32)) (DX7_goThrough_0 35 rfl) rfl ?_
    obtain ⟨hin, hxt⟩ := xgd_some hxt
    refine r.iald 11 rfl hin (DX7_goThrough_0 36 rfl) ?_
    refine r.icmp_le 85 (DX7_goThrough_0 37 rfl) rfl hxt (fun _ hxt => ?_) (fun _ hxt => ?_)
    · refine r.aload_n 0 (DX7_goThrough_0 51 rfl) rfl ?_
      refine r.get (v := .ref (a 13)) kX7 f_X7_19 rfl 10 rfl rfl (DX7_goThrough_0 52 rfl) ?_
      refine r.iload_n 2 (DX7_goThrough_0 53 rfl) rfl ?_
      obtain ⟨o_3, ho_3, hxt⟩ := xbd hxt
      refine r.callVI 5 rfl rfl (t_X1_standsForItself E a v2 hM ho_3) g_X7_95 rfl (DX7_goThrough_0 54 rfl) rfl ⟨(Nat.le_of_ble_eq_true rfl), (Nat.le_of_ble_eq_true rfl)⟩ ⟨(Nat.le_of_ble_eq_true rfl), (Nat.le_of_ble_eq_true rfl)⟩ (Nat.le_of_ble_eq_true rfl) [0, 1, 2, 3, 5, 8, 9] [4, 6, 7, 10, 11, 12, 13] rfl rfl rfl rfl (by decide) [7, 8, 9, 10, 0, 11, 1, 2, 12, 13, 3, 4, 5, 6] rfl (ws2 := fun _ => [(a 1, oX3 a), (a 4, aI E 256 (hM 4)), (a 5, aI E 128 (hM 5)), (a 6, aI E 128 (hM 6)), (a 7, aI E 128 (hM 7)), (a 8, aI E 128 (hM 8)), (a 9, oX0 a (hM 9)), (a 10, aI E 4096 (hM 10)), (a 13, oX1 a (hM 13)), (a 14, aI E 8 (hM 14)), (a 15, oX7 a (hM 15)), (a 16, aI E 11 (upd (mM 16) (0 : Int32).toNatClampNeg (((mM 16) (0 : Int32).toNatClampNeg) + (1 : Int32)))), (a 17, aI E 4096 (mM 17)), (a 18, aI E 6272 (mM 18))]) (fun _ => rfl) (fun _ => ?_)
      refine r.if_eq 101 (DX7_goThrough_0 55 rfl) rfl hxt (fun _ hxt => ?_) (fun _ hxt => ?_)
      · refine r.iinc (v := (v2 + (1 : Int32))) (lo' := [(2, .int (v2 + (1 : Int32))), (0, .ref (a 15)), (1, .int x1)]) 2 (DX7_goThrough_0 59 rfl) rfl rfl (Nat.le_of_ble_eq_true rfl) rfl ?_
        refine r.goto 18 (DX7_goThrough_1 0 rfl) rfl ?_
        refine r.rel (lo' := [(0, .ref (a 15)), (1, .int x1), (2, .int (v2 + (1 : Int32)))]) [1, 2, 0] rfl ?_
        exact ih (v2 + (1 : Int32)) (mgs (mset hM 16 (upd (mM 16) (0 : Int32).toNatClampNeg (((mM 16) (0 : Int32).toNatClampNeg) + (1 : Int32)))) [17, 18] mM) hxt
      refine r.aload_n 0 (DX7_goThrough_0 56 rfl) rfl ?_
      refine r.iload_n 2 (DX7_goThrough_0 57 rfl) rfl ?_
      obtain ⟨o_4, ho_4, hxt⟩ := xbd hxt
      refine r.callVV 5 rfl rfl (t_X7_collect E a v2 (mgs (mset hM 16 (upd (mM 16) (0 : Int32).toNatClampNeg (((mM 16) (0 : Int32).toNatClampNeg) + (1 : Int32)))) [17, 18] mM) ho_4) g_X7_99 rfl (DX7_goThrough_0 58 rfl) rfl ⟨(Nat.le_of_ble_eq_true rfl), (Nat.le_of_ble_eq_true rfl)⟩ ⟨(Nat.le_of_ble_eq_true rfl), (Nat.le_of_ble_eq_true rfl)⟩ (Nat.le_of_ble_eq_true rfl) [0, 2, 3, 6, 7, 10, 11, 12, 13] [1, 4, 5, 8, 9] rfl rfl rfl rfl (by decide) [5, 0, 6, 7, 1, 2, 8, 9, 3, 4, 10, 11, 12, 13] rfl (ws2 := fun _ => [(a 1, oX3 a), (a 4, aI E 256 (hM 4)), (a 5, aI E 128 (hM 5)), (a 6, aI E 128 (hM 6)), (a 7, aI E 128 (hM 7)), (a 8, aI E 128 (hM 8)), (a 9, oX0 a (hM 9)), (a 10, aI E 4096 (hM 10)), (a 13, oX1 a (hM 13)), (a 14, aI E 8 (hM 14)), (a 15, oX7 a (hM 15)), (a 16, aI E 11 (o_4 16)), (a 17, aI E 4096 (o_4 17)), (a 18, aI E 6272 (o_4 18))]) (fun _ => rfl) (fun _ => ?_)
      refine r.iinc (v := (v2 + (1 : Int32))) (lo' := [(2, .int (v2 + (1 : Int32))), (0, .ref (a 15)), (1, .int x1)]) 2 (DX7_goThrough_0 59 rfl) rfl rfl (Nat.le_of_ble_eq_true rfl) rfl ?_
      refine r.goto 18 (DX7_goThrough_1 0 rfl) rfl ?_
      refine r.rel (lo' := [(0, .ref (a 15)), (1, .int x1), (2, .int (v2 + (1 : Int32)))]) [1, 2, 0] rfl ?_
      exact ih (v2 + (1 : Int32)) (mgs hM [16, 17, 18] o_4) hxt
    refine r.aload_n 0 (DX7_goThrough_0 38 rfl) rfl ?_
    refine r.get (v := .ref (a 16)) kX7 f_X7_23 rfl 10 rfl rfl (DX7_goThrough_0 39 rfl) ?_
    refine r.iconst (v := (3 : Int32)) (DX7_goThrough_0 40 rfl) rfl ?_
    refine r.aload_n 0 (DX7_goThrough_0 41 rfl) rfl ?_
    refine r.get (v := .ref (a 9)) kX7 f_X7_15 rfl 10 rfl rfl (DX7_goThrough_0 42 rfl) ?_
    refine r.iload_n 2 (DX7_goThrough_0 43 rfl) rfl ?_
    obtain ⟨o_5, ho_5, hxt⟩ := xbd hxt
    refine r.callVI 0 rfl rfl (t_X0_at E a v2 hM ho_5) g_X7_92 rfl (DX7_goThrough_0 44 rfl) rfl ⟨(Nat.le_of_ble_eq_true rfl), (Nat.le_of_ble_eq_true rfl)⟩ ⟨(Nat.le_of_ble_eq_true rfl), (Nat.le_of_ble_eq_true rfl)⟩ (Nat.le_of_ble_eq_true rfl) [6, 7] [0, 1, 2, 3, 4, 5, 8, 9, 10, 11, 12, 13] rfl rfl rfl rfl (by decide) [0, 1, 2, 3, 4, 5, 12, 13, 6, 7, 8, 9, 10, 11] rfl (ws2 := fun _ => [(a 1, oX3 a), (a 4, aI E 256 (hM 4)), (a 5, aI E 128 (hM 5)), (a 6, aI E 128 (hM 6)), (a 7, aI E 128 (hM 7)), (a 8, aI E 128 (hM 8)), (a 9, oX0 a (hM 9)), (a 10, aI E 4096 (hM 10)), (a 13, oX1 a (hM 13)), (a 14, aI E 8 (hM 14)), (a 15, oX7 a (hM 15)), (a 16, aI E 11 (upd (mM 16) (0 : Int32).toNatClampNeg (((mM 16) (0 : Int32).toNatClampNeg) + (1 : Int32)))), (a 17, aI E 4096 (mM 17)), (a 18, aI E 6272 (mM 18))]) (fun _ => rfl) (fun _ => ?_)
    obtain ⟨hin, hxt⟩ := xgd_some hxt
    refine r.iast (ws' := [(a 1, oX3 a), (a 4, aI E 256 (hM 4)), (a 5, aI E 128 (hM 5)), (a 6, aI E 128 (hM 6)), (a 7, aI E 128 (hM 7)), (a 8, aI E 128 (hM 8)), (a 9, oX0 a (hM 9)), (a 10, aI E 4096 (hM 10)), (a 13, oX1 a (hM 13)), (a 14, aI E 8 (hM 14)), (a 15, oX7 a (hM 15)), (a 16, aI E 11 (upd (upd (mM 16) (0 : Int32).toNatClampNeg (((mM 16) (0 : Int32).toNatClampNeg) + (1 : Int32))) (3 : Int32).toNatClampNeg o_5)), (a 17, aI E 4096 (mM 17)), (a 18, aI E 6272 (mM 18))]) 11 rfl hin rfl (DX7_goThrough_0 45 rfl) ?_
    refine r.aload_n 0 (DX7_goThrough_0 46 rfl) rfl ?_
    refine r.get (v := .ref (a 16)) kX7 f_X7_23 rfl 10 rfl rfl (DX7_goThrough_0 47 rfl) ?_
    refine r.iconst (v := (4 : Int32)) (DX7_goThrough_0 48 rfl) rfl ?_
    refine r.iload_n 2 (DX7_goThrough_0 49 rfl) rfl ?_
    obtain ⟨hin, hxt⟩ := xgd_some hxt
    refine r.iast (ws' := [(a 1, oX3 a), (a 4, aI E 256 (hM 4)), (a 5, aI E 128 (hM 5)), (a 6, aI E 128 (hM 6)), (a 7, aI E 128 (hM 7)), (a 8, aI E 128 (hM 8)), (a 9, oX0 a (hM 9)), (a 10, aI E 4096 (hM 10)), (a 13, oX1 a (hM 13)), (a 14, aI E 8 (hM 14)), (a 15, oX7 a (hM 15)), (a 16, aI E 11 (upd (upd (upd (mM 16) (0 : Int32).toNatClampNeg (((mM 16) (0 : Int32).toNatClampNeg) + (1 : Int32))) (3 : Int32).toNatClampNeg o_5) (4 : Int32).toNatClampNeg v2)), (a 17, aI E 4096 (mM 17)), (a 18, aI E 6272 (mM 18))]) 11 rfl hin rfl (DX7_goThrough_0 50 rfl) ?_
    refine r.aload_n 0 (DX7_goThrough_0 51 rfl) rfl ?_
    refine r.get (v := .ref (a 13)) kX7 f_X7_19 rfl 10 rfl rfl (DX7_goThrough_0 52 rfl) ?_
    refine r.iload_n 2 (DX7_goThrough_0 53 rfl) rfl ?_
    obtain ⟨o_6, ho_6, hxt⟩ := xbd hxt
    refine r.callVI 5 rfl rfl (t_X1_standsForItself E a v2 hM ho_6) g_X7_95 rfl (DX7_goThrough_0 54 rfl) rfl ⟨(Nat.le_of_ble_eq_true rfl), (Nat.le_of_ble_eq_true rfl)⟩ ⟨(Nat.le_of_ble_eq_true rfl), (Nat.le_of_ble_eq_true rfl)⟩ (Nat.le_of_ble_eq_true rfl) [0, 1, 2, 3, 5, 8, 9] [4, 6, 7, 10, 11, 12, 13] rfl rfl rfl rfl (by decide) [7, 8, 9, 10, 0, 11, 1, 2, 12, 13, 3, 4, 5, 6] rfl (ws2 := fun _ => [(a 1, oX3 a), (a 4, aI E 256 (hM 4)), (a 5, aI E 128 (hM 5)), (a 6, aI E 128 (hM 6)), (a 7, aI E 128 (hM 7)), (a 8, aI E 128 (hM 8)), (a 9, oX0 a (hM 9)), (a 10, aI E 4096 (hM 10)), (a 13, oX1 a (hM 13)), (a 14, aI E 8 (hM 14)), (a 15, oX7 a (hM 15)), (a 16, aI E 11 (upd (upd (upd (mM 16) (0 : Int32).toNatClampNeg (((mM 16) (0 : Int32).toNatClampNeg) + (1 : Int32))) (3 : Int32).toNatClampNeg o_5) (4 : Int32).toNatClampNeg v2)), (a 17, aI E 4096 (mM 17)), (a 18, aI E 6272 (mM 18))]) (fun _ => rfl) (fun _ => ?_)
    refine r.if_eq 101 (DX7_goThrough_0 55 rfl) rfl hxt (fun _ hxt => ?_) (fun _ hxt => ?_)
    · refine r.iinc (v := (v2 + (1 : Int32))) (lo' := [(2, .int (v2 + (1 : Int32))), (0, .ref (a 15)), (1, .int x1)]) 2 (DX7_goThrough_0 59 rfl) rfl rfl (Nat.le_of_ble_eq_true rfl) rfl ?_
      refine r.goto 18 (DX7_goThrough_1 0 rfl) rfl ?_
      refine r.rel (lo' := [(0, .ref (a 15)), (1, .int x1), (2, .int (v2 + (1 : Int32)))]) [1, 2, 0] rfl ?_
      exact ih (v2 + (1 : Int32)) (mgs (mset hM 16 (upd (upd (upd (mM 16) (0 : Int32).toNatClampNeg (((mM 16) (0 : Int32).toNatClampNeg) + (1 : Int32))) (3 : Int32).toNatClampNeg o_5) (4 : Int32).toNatClampNeg v2)) [17, 18] mM) hxt
    refine r.aload_n 0 (DX7_goThrough_0 56 rfl) rfl ?_
    refine r.iload_n 2 (DX7_goThrough_0 57 rfl) rfl ?_
    obtain ⟨o_7, ho_7, hxt⟩ := xbd hxt
    refine r.callVV 5 rfl rfl (t_X7_collect E a v2 (mgs (mset hM 16 (upd (upd (upd (mM 16) (0 : Int32).toNatClampNeg (((mM 16) (0 : Int32).toNatClampNeg) + (1 : Int32))) (3 : Int32).toNatClampNeg o_5) (4 : Int32).toNatClampNeg v2)) [17, 18] mM) ho_7) g_X7_99 rfl (DX7_goThrough_0 58 rfl) rfl ⟨(Nat.le_of_ble_eq_true rfl), (Nat.le_of_ble_eq_true rfl)⟩ ⟨(Nat.le_of_ble_eq_true rfl), (Nat.le_of_ble_eq_true rfl)⟩ (Nat.le_of_ble_eq_true rfl) [0, 2, 3, 6, 7, 10, 11, 12, 13] [1, 4, 5, 8, 9] rfl rfl rfl rfl (by decide) [5, 0, 6, 7, 1, 2, 8, 9, 3, 4, 10, 11, 12, 13] rfl (ws2 := fun _ => [(a 1, oX3 a), (a 4, aI E 256 (hM 4)), (a 5, aI E 128 (hM 5)), (a 6, aI E 128 (hM 6)), (a 7, aI E 128 (hM 7)), (a 8, aI E 128 (hM 8)), (a 9, oX0 a (hM 9)), (a 10, aI E 4096 (hM 10)), (a 13, oX1 a (hM 13)), (a 14, aI E 8 (hM 14)), (a 15, oX7 a (hM 15)), (a 16, aI E 11 (o_7 16)), (a 17, aI E 4096 (o_7 17)), (a 18, aI E 6272 (o_7 18))]) (fun _ => rfl) (fun _ => ?_)
    refine r.iinc (v := (v2 + (1 : Int32))) (lo' := [(2, .int (v2 + (1 : Int32))), (0, .ref (a 15)), (1, .int x1)]) 2 (DX7_goThrough_0 59 rfl) rfl rfl (Nat.le_of_ble_eq_true rfl) rfl ?_
    refine r.goto 18 (DX7_goThrough_1 0 rfl) rfl ?_
    refine r.rel (lo' := [(0, .ref (a 15)), (1, .int x1), (2, .int (v2 + (1 : Int32)))]) [1, 2, 0] rfl ?_
    exact ih (v2 + (1 : Int32)) (mgs hM [16, 17, 18] o_7) hxt
set_option maxRecDepth 100000 in
set_option maxHeartbeats 4000000 in
theorem t_X7_goThrough (E : xE) (a : Nat → Nat) (x1 : Int32) (hM : Mem) {o : Mem} (hxt : xt_X7_goThrough x1 hM = some o) : xMV (S := Unit) E yX7_goThrough cX7_goThrough 3 4 0 0 [.ref (a 15), .int x1] [(a 1, oX3 a), (a 4, aI E 256 (hM 4)), (a 5, aI E 128 (hM 5)), (a 6, aI E 128 (hM 6)), (a 7, aI E 128 (hM 7)), (a 8, aI E 128 (hM 8)), (a 9, oX0 a (hM 9)), (a 10, aI E 4096 (hM 10)), (a 13, oX1 a (hM 13)), (a 14, aI E 8 (hM 14)), (a 15, oX7 a (hM 15)), (a 16, aI E 11 (hM 16)), (a 17, aI E 4096 (hM 17)), (a 18, aI E 6272 (hM 18))] (fun _ => [(a 1, oX3 a), (a 4, aI E 256 (hM 4)), (a 5, aI E 128 (hM 5)), (a 6, aI E 128 (hM 6)), (a 7, aI E 128 (hM 7)), (a 8, aI E 128 (hM 8)), (a 9, oX0 a (hM 9)), (a 10, aI E 4096 (hM 10)), (a 13, oX1 a (hM 13)), (a 14, aI E 8 (hM 14)), (a 15, oX7 a (hM 15)), (a 16, aI E 11 (o 16)), (a 17, aI E 4096 (o 17)), (a 18, aI E 6272 (o 18))]) := by
  refine xMV.of (own := RX7) (lo0 := [(0, .ref (a 15)), (1, .int x1)]) (ini := false) (fun h => nomatch h) (by decide +kernel) rfl rfl (Nat.le_of_ble_eq_true rfl) (fun V r hret => ?_)
  unfold xt_X7_goThrough at hxt
  refine r.aload_n 0 (DX7_goThrough_0 0 rfl) rfl ?_
  refine r.get (v := .ref (a 16)) kX7 f_X7_23 rfl 10 rfl rfl (DX7_goThrough_0 1 rfl) ?_
  refine r.iconst (v := (3 : Int32)) (DX7_goThrough_0 2 rfl) rfl ?_
  refine r.bipush (v := (-6 : Int32)) (DX7_goThrough_0 3 rfl) rfl ?_
  obtain ⟨hin, hxt⟩ := xgd_some hxt
  refine r.iast (ws' := [(a 1, oX3 a), (a 4, aI E 256 (hM 4)), (a 5, aI E 128 (hM 5)), (a 6, aI E 128 (hM 6)), (a 7, aI E 128 (hM 7)), (a 8, aI E 128 (hM 8)), (a 9, oX0 a (hM 9)), (a 10, aI E 4096 (hM 10)), (a 13, oX1 a (hM 13)), (a 14, aI E 8 (hM 14)), (a 15, oX7 a (hM 15)), (a 16, aI E 11 (upd (hM 16) (3 : Int32).toNatClampNeg (-6 : Int32))), (a 17, aI E 4096 (hM 17)), (a 18, aI E 6272 (hM 18))]) 11 rfl hin rfl (DX7_goThrough_0 4 rfl) ?_
  refine r.aload_n 0 (DX7_goThrough_0 5 rfl) rfl ?_
  refine r.get (v := .ref (a 16)) kX7 f_X7_23 rfl 10 rfl rfl (DX7_goThrough_0 6 rfl) ?_
  refine r.iconst (v := (4 : Int32)) (DX7_goThrough_0 7 rfl) rfl ?_
  refine r.bipush (v := (-6 : Int32)) (DX7_goThrough_0 8 rfl) rfl ?_
  obtain ⟨hin, hxt⟩ := xgd_some hxt
  refine r.iast (ws' := [(a 1, oX3 a), (a 4, aI E 256 (hM 4)), (a 5, aI E 128 (hM 5)), (a 6, aI E 128 (hM 6)), (a 7, aI E 128 (hM 7)), (a 8, aI E 128 (hM 8)), (a 9, oX0 a (hM 9)), (a 10, aI E 4096 (hM 10)), (a 13, oX1 a (hM 13)), (a 14, aI E 8 (hM 14)), (a 15, oX7 a (hM 15)), (a 16, aI E 11 (upd (upd (hM 16) (3 : Int32).toNatClampNeg (-6 : Int32)) (4 : Int32).toNatClampNeg (-6 : Int32))), (a 17, aI E 4096 (hM 17)), (a 18, aI E 6272 (hM 18))]) 11 rfl hin rfl (DX7_goThrough_0 9 rfl) ?_
  refine r.iconst (v := (0 : Int32)) (DX7_goThrough_0 10 rfl) rfl ?_
  refine r.istore_n (lo' := [(2, .int (0 : Int32)), (0, .ref (a 15)), (1, .int x1)]) (DX7_goThrough_0 11 rfl) (Nat.le_of_ble_eq_true rfl) rfl ?_
  refine r.rel (lo' := [(0, .ref (a 15)), (1, .int x1), (2, .int (0 : Int32))]) [1, 2, 0] rfl ?_
  refine l_X7_goThrough_18 E a x1 (mset hM 16 (upd (upd (hM 16) (3 : Int32).toNatClampNeg (-6 : Int32)) (4 : Int32).toNatClampNeg (-6 : Int32))) r (fun m_8 hxt => ?_) 10000 (0 : Int32) (mset hM 16 (upd (upd (hM 16) (3 : Int32).toNatClampNeg (-6 : Int32)) (4 : Int32).toNatClampNeg (-6 : Int32))) hxt
  cases hxt
  exact hret _ _ _ (DX7_goThrough_1 1 rfl) ⟨(), rfl⟩
set_option maxRecDepth 100000 in
set_option maxHeartbeats 4000000 in
theorem t_X7_distanceOf (E : xE) (x0 : Int32) {o : Int32} (hxt : xt_X7_distanceOf x0 = some o) : xMI (S := Unit) E yX7_distanceOf cX7_distanceOf 1 .int 0 0 0 [.int x0] [] (fun _ => o) (fun _ => []) := by
  refine xMI.of (own := RX7) (lo0 := [(0, .int x0)]) (by decide +kernel) rfl rfl (Nat.le_of_ble_eq_true rfl) (fun V r hret => ?_)
  unfold xt_X7_distanceOf at hxt
  refine r.iload_n 0 (DX7_distanceOf 0 rfl) rfl ?_
  refine r.bipush (v := (63 : Int32)) (DX7_distanceOf 1 rfl) rfl ?_
  refine r.icmp_ne 11 (DX7_distanceOf 2 rfl) rfl hxt (fun _ hxt => ?_) (fun _ hxt => ?_)
  · refine r.iload_n 0 (DX7_distanceOf 5 rfl) rfl ?_
    cases hxt
    exact hret _ _ _ _ (DX7_distanceOf 6 rfl) rfl ⟨(), rfl, rfl⟩
  refine r.bipush (v := (-6 : Int32)) (DX7_distanceOf 3 rfl) rfl ?_
  refine r.goto 12 (DX7_distanceOf 4 rfl) rfl ?_
  cases hxt
  exact hret _ _ _ _ (DX7_distanceOf 6 rfl) rfl ⟨(), rfl, rfl⟩
set_option maxRecDepth 100000 in
set_option maxHeartbeats 4000000 in
theorem l_X7_commonest_7 (E : xE) (a : Nat → Nat) (x1 : Int32) (hM : Mem) {V : xVT} (r : Rl E RX7 cX7_commonest (xR 1 0 0) 6 false V) {o : Int32} {k : Int32 → Option (Int32)} (hk : ∀ (v3 : Int32), k v3 = some o → V 0 0 49 [(3, .int v3)] [] [(a 15, oX7 a (hM 15)), (a 18, aI E 6272 (hM 18))]) : ∀ (n : Nat) (v2 : Int32) (v3 : Int32) (v4 : Int32), xt_X7_commonest_l7 x1 hM k n v2 v3 v4 = some o → V 0 0 7 [(0, .ref (a 15)), (1, .int x1), (2, .int v2), (3, .int v3), (4, .int v4)] [] [(a 15, oX7 a (hM 15)), (a 18, aI E 6272 (hM 18))] := by
  intro n
  induction n with
  | zero => intro v2 v3 v4 hxt; exact xno hxt
  | succ n ih =>
    intro v2 v3 v4 hxt
    rw [xt_X7_commonest_l7] at hxt
    refine r.iload 4 (DX7_commonest 6 rfl) rfl ?_
    refine r.bipush (v := (64 : Int32)) (DX7_commonest 7 rfl) rfl ?_
    refine r.icmp_ge 49 (DX7_commonest 8 rfl) rfl hxt (fun _ hxt => ?_) (fun _ hxt => ?_)
    · refine r.rel (lo' := [(3, .int v3)]) [3] rfl ?_
      exact hk v3 hxt
    refine r.aload_n 0 (DX7_commonest 9 rfl) rfl ?_
    refine r.get (v := .ref (a 18)) kX7 f_X7_32 rfl 0 rfl rfl (DX7_commonest 10 rfl) ?_
    refine r.iload_n 1 (DX7_commonest 11 rfl) rfl ?_
    refine r.bipush (v := (64 : Int32)) (DX7_commonest 12 rfl) rfl ?_
    refine r.imul (DX7_commonest 13 rfl) ?_
    refine r.iload 4 (DX7_commonest 14 rfl) rfl ?_
    refine r.iadd (DX7_commonest 15 rfl) ?_
    obtain ⟨hin, hxt⟩ := xgd_some hxt
    refine r.iald 1 rfl hin (DX7_commonest 16 rfl) ?_
    refine r.istore (lo' := [(5, .int ((hM 18) ((x1 * (64 : Int32)) + v4).toNatClampNeg)), (0, .ref (a 15)), (1, .int x1), (2, .int v2), (3, .int v3), (4, .int v4)]) (DX7_commonest 17 rfl) (Nat.le_of_ble_eq_true rfl) rfl ?_
    refine r.iload 0 (DX7_commonest 18 rfl) rfl ?_
    refine r.iload_n 3 (DX7_commonest 19 rfl) rfl ?_
    refine r.icmp_le 43 (DX7_commonest 20 rfl) rfl hxt (fun _ hxt => ?_) (fun _ hxt => ?_)
    · refine r.iinc (v := (v4 + (1 : Int32))) (lo' := [(4, .int (v4 + (1 : Int32))), (5, .int ((hM 18) ((x1 * (64 : Int32)) + v4).toNatClampNeg)), (0, .ref (a 15)), (1, .int x1), (2, .int v2), (3, .int v3)]) 5 (DX7_commonest 26 rfl) rfl rfl (Nat.le_of_ble_eq_true rfl) rfl ?_
      refine r.goto 7 (DX7_commonest 27 rfl) rfl ?_
      refine r.rel (lo' := [(0, .ref (a 15)), (1, .int x1), (2, .int v2), (3, .int v3), (4, .int (v4 + (1 : Int32)))]) [2, 3, 4, 5, 0] rfl ?_
      exact ih v2 v3 (v4 + (1 : Int32)) hxt
    refine r.iload 0 (DX7_commonest 21 rfl) rfl ?_
    refine r.istore_n (lo' := [(2, .int ((hM 18) ((x1 * (64 : Int32)) + v4).toNatClampNeg)), (5, .int ((hM 18) ((x1 * (64 : Int32)) + v4).toNatClampNeg)), (0, .ref (a 15)), (1, .int x1), (3, .int v3), (4, .int v4)]) (DX7_commonest 22 rfl) (Nat.le_of_ble_eq_true rfl) rfl ?_
    refine r.iload 5 (DX7_commonest 23 rfl) rfl ?_
    obtain ⟨o_1, ho_1, hxt⟩ := xbd hxt
    refine r.callSI0 (t_X7_distanceOf E v4 ho_1) g_X7_42 rfl (DX7_commonest 24 rfl) rfl ⟨(Nat.le_of_ble_eq_true rfl), (Nat.le_of_ble_eq_true rfl)⟩ (Nat.le_of_ble_eq_true rfl) ?_
    refine r.istore_n (lo' := [(3, .int o_1), (2, .int ((hM 18) ((x1 * (64 : Int32)) + v4).toNatClampNeg)), (5, .int ((hM 18) ((x1 * (64 : Int32)) + v4).toNatClampNeg)), (0, .ref (a 15)), (1, .int x1), (4, .int v4)]) (DX7_commonest 25 rfl) (Nat.le_of_ble_eq_true rfl) rfl ?_
    refine r.iinc (v := (v4 + (1 : Int32))) (lo' := [(4, .int (v4 + (1 : Int32))), (3, .int o_1), (2, .int ((hM 18) ((x1 * (64 : Int32)) + v4).toNatClampNeg)), (5, .int ((hM 18) ((x1 * (64 : Int32)) + v4).toNatClampNeg)), (0, .ref (a 15)), (1, .int x1)]) 5 (DX7_commonest 26 rfl) rfl rfl (Nat.le_of_ble_eq_true rfl) rfl ?_
    refine r.goto 7 (DX7_commonest 27 rfl) rfl ?_
    refine r.rel (lo' := [(0, .ref (a 15)), (1, .int x1), (2, .int ((hM 18) ((x1 * (64 : Int32)) + v4).toNatClampNeg)), (3, .int o_1), (4, .int (v4 + (1 : Int32)))]) [4, 5, 2, 1, 0] rfl ?_
    exact ih ((hM 18) ((x1 * (64 : Int32)) + v4).toNatClampNeg) o_1 (v4 + (1 : Int32)) hxt
set_option maxRecDepth 100000 in
set_option maxHeartbeats 4000000 in
theorem t_X7_commonest (E : xE) (a : Nat → Nat) (x1 : Int32) (hM : Mem) {o : Int32} (hxt : xt_X7_commonest x1 hM = some o) : xMI (S := Unit) E yX7_commonest cX7_commonest 6 .int 1 0 0 [.ref (a 15), .int x1] [(a 15, oX7 a (hM 15)), (a 18, aI E 6272 (hM 18))] (fun _ => o) (fun _ => [(a 15, oX7 a (hM 15)), (a 18, aI E 6272 (hM 18))]) := by
  refine xMI.of (own := RX7) (lo0 := [(0, .ref (a 15)), (1, .int x1)]) (by decide +kernel) rfl rfl (Nat.le_of_ble_eq_true rfl) (fun V r hret => ?_)
  unfold xt_X7_commonest at hxt
  refine r.iconst (v := (0 : Int32)) (DX7_commonest 0 rfl) rfl ?_
  refine r.istore_n (lo' := [(2, .int (0 : Int32)), (0, .ref (a 15)), (1, .int x1)]) (DX7_commonest 1 rfl) (Nat.le_of_ble_eq_true rfl) rfl ?_
  refine r.iconst (v := (-1 : Int32)) (DX7_commonest 2 rfl) rfl ?_
  refine r.istore_n (lo' := [(3, .int (-1 : Int32)), (2, .int (0 : Int32)), (0, .ref (a 15)), (1, .int x1)]) (DX7_commonest 3 rfl) (Nat.le_of_ble_eq_true rfl) rfl ?_
  refine r.iconst (v := (0 : Int32)) (DX7_commonest 4 rfl) rfl ?_
  refine r.istore (lo' := [(4, .int (0 : Int32)), (3, .int (-1 : Int32)), (2, .int (0 : Int32)), (0, .ref (a 15)), (1, .int x1)]) (DX7_commonest 5 rfl) (Nat.le_of_ble_eq_true rfl) rfl ?_
  refine r.rel (lo' := [(0, .ref (a 15)), (1, .int x1), (2, .int (0 : Int32)), (3, .int (-1 : Int32)), (4, .int (0 : Int32))]) [3, 4, 2, 1, 0] rfl ?_
  refine l_X7_commonest_7 E a x1 hM r (fun v3_2 hxt => ?_) 10000 (0 : Int32) (-1 : Int32) (0 : Int32) hxt
  refine r.iload_n 0 (DX7_commonest 28 rfl) rfl ?_
  cases hxt
  exact hret _ _ _ _ (DX7_commonest 29 rfl) rfl ⟨(), rfl, rfl⟩
set_option maxRecDepth 100000 in
set_option maxHeartbeats 4000000 in
theorem l_X7_makeRule_2 (E : xE) (a : Nat → Nat) (hM : Mem) {V : xVT} (r : Rl E RX7 cX7_makeRule (xR 2 0 0) 2 false V) {o : Mem} {k : Mem → Option (Mem)} (hk : ∀ (mM : Mem), k mM = some o → V 0 0 46 [] [] [(a 15, oX7 a (hM 15)), (a 16, aI E 11 (mM 16)), (a 18, aI E 6272 (hM 18)), (a 19, aI E 98 (mM 19))]) : ∀ (n : Nat) (v1 : Int32) (mM : Mem), xt_X7_makeRule_l2 hM k n v1 mM = some o → V 0 0 2 [(0, .ref (a 15)), (1, .int v1)] [] [(a 15, oX7 a (hM 15)), (a 16, aI E 11 (mM 16)), (a 18, aI E 6272 (hM 18)), (a 19, aI E 98 (mM 19))] := by
  intro n
  induction n with
  | zero => intro v1 mM hxt; exact xno hxt
  | succ n ih =>
    intro v1 mM hxt
    rw [xt_X7_makeRule_l2] at hxt
    refine r.iload_n 1 (DX7_makeRule 2 rfl) rfl ?_
    refine r.bipush (v := (98 : Int32)) (DX7_makeRule 3 rfl) rfl ?_
    refine r.icmp_ge 46 (DX7_makeRule 4 rfl) rfl hxt (fun _ hxt => ?_) (fun _ hxt => ?_)
    · refine r.rel (lo' := []) [] rfl ?_
      exact hk (mgs hM [16, 19] mM) hxt
    refine r.aload_n 0 (DX7_makeRule 5 rfl) rfl ?_
    refine r.get (v := .ref (a 19)) kX7 f_X7_35 rfl 0 rfl rfl (DX7_makeRule 6 rfl) ?_
    refine r.iload_n 1 (DX7_makeRule 7 rfl) rfl ?_
    refine r.aload_n 0 (DX7_makeRule 8 rfl) rfl ?_
    refine r.iload_n 1 (DX7_makeRule 9 rfl) rfl ?_
    obtain ⟨o_1, ho_1, hxt⟩ := xbd hxt
    refine r.callVI 0 rfl rfl (t_X7_commonest E a v1 hM ho_1) g_X7_105 rfl (DX7_makeRule 10 rfl) rfl ⟨(Nat.le_of_ble_eq_true rfl), (Nat.le_of_ble_eq_true rfl)⟩ ⟨(Nat.le_of_ble_eq_true rfl), (Nat.le_of_ble_eq_true rfl)⟩ (Nat.le_of_ble_eq_true rfl) [0, 2] [1, 3] rfl rfl rfl rfl (by decide) [2, 0, 3, 1] rfl (ws2 := fun _ => [(a 15, oX7 a (hM 15)), (a 16, aI E 11 (mM 16)), (a 18, aI E 6272 (hM 18)), (a 19, aI E 98 (mM 19))]) (fun _ => rfl) (fun _ => ?_)
    obtain ⟨hin, hxt⟩ := xgd_some hxt
    refine r.iast (ws' := [(a 15, oX7 a (hM 15)), (a 16, aI E 11 (mM 16)), (a 18, aI E 6272 (hM 18)), (a 19, aI E 98 (upd (mM 19) v1.toNatClampNeg o_1))]) 3 rfl hin rfl (DX7_makeRule 11 rfl) ?_
    refine r.aload_n 0 (DX7_makeRule 12 rfl) rfl ?_
    refine r.get (v := .ref (a 19)) kX7 f_X7_35 rfl 0 rfl rfl (DX7_makeRule 13 rfl) ?_
    refine r.iload_n 1 (DX7_makeRule 14 rfl) rfl ?_
    obtain ⟨hin, hxt⟩ := xgd_some hxt
    refine r.iald 3 rfl hin (DX7_makeRule 15 rfl) ?_
    refine r.iconst (v := (-1 : Int32)) (DX7_makeRule 16 rfl) rfl ?_
    refine r.icmp_eq 40 (DX7_makeRule 17 rfl) rfl hxt (fun _ hxt => ?_) (fun _ hxt => ?_)
    · refine r.iinc (v := (v1 + (1 : Int32))) (lo' := [(1, .int (v1 + (1 : Int32))), (0, .ref (a 15))]) 1 (DX7_makeRule 26 rfl) rfl rfl (Nat.le_of_ble_eq_true rfl) rfl ?_
      refine r.goto 2 (DX7_makeRule 27 rfl) rfl ?_
      refine r.rel (lo' := [(0, .ref (a 15)), (1, .int (v1 + (1 : Int32)))]) [1, 0] rfl ?_
      exact ih (v1 + (1 : Int32)) (mgs (mset hM 19 (upd (mM 19) v1.toNatClampNeg o_1)) [16] mM) hxt
    refine r.aload_n 0 (DX7_makeRule 18 rfl) rfl ?_
    refine r.get (v := .ref (a 16)) kX7 f_X7_23 rfl 0 rfl rfl (DX7_makeRule 19 rfl) ?_
    refine r.bipush (v := (10 : Int32)) (DX7_makeRule 20 rfl) rfl ?_
    refine r.dup2 (DX7_makeRule 21 rfl) rfl rfl ?_
    obtain ⟨hin, hxt⟩ := xgd_some hxt
    refine r.iald 1 rfl hin (DX7_makeRule 22 rfl) ?_
    refine r.iconst (v := (1 : Int32)) (DX7_makeRule 23 rfl) rfl ?_
    refine r.iadd (DX7_makeRule 24 rfl) ?_
    obtain ⟨hin, hxt⟩ := xgd_some hxt
    refine r.iast (ws' := [(a 15, oX7 a (hM 15)), (a 16, aI E 11 (upd (mM 16) (10 : Int32).toNatClampNeg (((mM 16) (10 : Int32).toNatClampNeg) + (1 : Int32)))), (a 18, aI E 6272 (hM 18)), (a 19, aI E 98 (upd (mM 19) v1.toNatClampNeg o_1))]) 1 rfl hin rfl (DX7_makeRule 25 rfl) ?_
    refine r.iinc (v := (v1 + (1 : Int32))) (lo' := [(1, .int (v1 + (1 : Int32))), (0, .ref (a 15))]) 1 (DX7_makeRule 26 rfl) rfl rfl (Nat.le_of_ble_eq_true rfl) rfl ?_
    refine r.goto 2 (DX7_makeRule 27 rfl) rfl ?_
    refine r.rel (lo' := [(0, .ref (a 15)), (1, .int (v1 + (1 : Int32)))]) [1, 0] rfl ?_
    exact ih (v1 + (1 : Int32)) (mset (mset hM 16 (upd (mM 16) (10 : Int32).toNatClampNeg (((mM 16) (10 : Int32).toNatClampNeg) + (1 : Int32)))) 19 (upd (mM 19) v1.toNatClampNeg o_1)) hxt
set_option maxRecDepth 100000 in
set_option maxHeartbeats 4000000 in
theorem t_X7_makeRule (E : xE) (a : Nat → Nat) (hM : Mem) {o : Mem} (hxt : xt_X7_makeRule hM = some o) : xMV (S := Unit) E yX7_makeRule cX7_makeRule 2 2 0 0 [.ref (a 15)] [(a 15, oX7 a (hM 15)), (a 16, aI E 11 (hM 16)), (a 18, aI E 6272 (hM 18)), (a 19, aI E 98 (hM 19))] (fun _ => [(a 15, oX7 a (hM 15)), (a 16, aI E 11 (o 16)), (a 18, aI E 6272 (hM 18)), (a 19, aI E 98 (o 19))]) := by
  refine xMV.of (own := RX7) (lo0 := [(0, .ref (a 15))]) (ini := false) (fun h => nomatch h) (by decide +kernel) rfl rfl (Nat.le_of_ble_eq_true rfl) (fun V r hret => ?_)
  unfold xt_X7_makeRule at hxt
  refine r.iconst (v := (0 : Int32)) (DX7_makeRule 0 rfl) rfl ?_
  refine r.istore_n (lo' := [(1, .int (0 : Int32)), (0, .ref (a 15))]) (DX7_makeRule 1 rfl) (Nat.le_of_ble_eq_true rfl) rfl ?_
  refine r.rel (lo' := [(0, .ref (a 15)), (1, .int (0 : Int32))]) [1, 0] rfl ?_
  refine l_X7_makeRule_2 E a hM r (fun m_2 hxt => ?_) 10000 (0 : Int32) hM hxt
  cases hxt
  exact hret _ _ _ (DX7_makeRule 28 rfl) ⟨(), rfl⟩
set_option maxRecDepth 100000 in
set_option maxHeartbeats 4000000 in
theorem t_X7_told (E : xE) (a : Nat → Nat) (x1 : Int32) (hM : Mem) {o : Int32} (hxt : xt_X7_told x1 hM = some o) : xMI (S := Unit) E yX7_told cX7_told 2 .int 0 0 0 [.ref (a 15), .int x1] [(a 15, oX7 a (hM 15)), (a 19, aI E 98 (hM 19))] (fun _ => o) (fun _ => [(a 15, oX7 a (hM 15)), (a 19, aI E 98 (hM 19))]) := by
  refine xMI.of (own := RX7) (lo0 := [(0, .ref (a 15)), (1, .int x1)]) (by decide +kernel) rfl rfl (Nat.le_of_ble_eq_true rfl) (fun V r hret => ?_)
  unfold xt_X7_told at hxt
  refine r.iload_n 1 (DX7_told 0 rfl) rfl ?_
  refine r.if_lt 19 (DX7_told 1 rfl) rfl hxt (fun _ hxt => ?_) (fun _ hxt => ?_)
  · refine r.iconst (v := (-1 : Int32)) (DX7_told 10 rfl) rfl ?_
    cases hxt
    exact hret _ _ _ _ (DX7_told 11 rfl) rfl ⟨(), rfl, rfl⟩
  refine r.iload_n 1 (DX7_told 2 rfl) rfl ?_
  refine r.bipush (v := (98 : Int32)) (DX7_told 3 rfl) rfl ?_
  refine r.icmp_ge 19 (DX7_told 4 rfl) rfl hxt (fun _ hxt => ?_) (fun _ hxt => ?_)
  · refine r.iconst (v := (-1 : Int32)) (DX7_told 10 rfl) rfl ?_
    cases hxt
    exact hret _ _ _ _ (DX7_told 11 rfl) rfl ⟨(), rfl, rfl⟩
  refine r.aload_n 0 (DX7_told 5 rfl) rfl ?_
  refine r.get (v := .ref (a 19)) kX7 f_X7_35 rfl 0 rfl rfl (DX7_told 6 rfl) ?_
  refine r.iload_n 1 (DX7_told 7 rfl) rfl ?_
  obtain ⟨hin, hxt⟩ := xgd_some hxt
  refine r.iald 1 rfl hin (DX7_told 8 rfl) ?_
  refine r.goto 20 (DX7_told 9 rfl) rfl ?_
  cases hxt
  exact hret _ _ _ _ (DX7_told 11 rfl) rfl ⟨(), rfl, rfl⟩
set_option maxRecDepth 100000 in
set_option maxHeartbeats 4000000 in
theorem t_X7_countException (E : xE) (a : Nat → Nat) (x1 : Int32) (x2 : Int32) (hM : Mem) {o : Mem} (hxt : xt_X7_countException x1 x2 hM = some o) : xMV (S := Unit) E yX7_countException cX7_countException 3 1 0 0 [.ref (a 15), .int x1, .int x2] [(a 15, oX7 a (hM 15)), (a 16, aI E 11 (hM 16))] (fun _ => [(a 15, oX7 a (hM 15)), (a 16, aI E 11 (o 16))]) := by
  refine xMV.of (own := RX7) (lo0 := [(0, .ref (a 15)), (1, .int x1), (2, .int x2)]) (ini := false) (fun h => nomatch h) (by decide +kernel) rfl rfl (Nat.le_of_ble_eq_true rfl) (fun V r hret => ?_)
  unfold xt_X7_countException at hxt
  refine r.aload_n 0 (DX7_countException 0 rfl) rfl ?_
  refine r.get (v := .ref (a 16)) kX7 f_X7_23 rfl 0 rfl rfl (DX7_countException 1 rfl) ?_
  refine r.bipush (v := (6 : Int32)) (DX7_countException 2 rfl) rfl ?_
  refine r.dup2 (DX7_countException 3 rfl) rfl rfl ?_
  obtain ⟨hin, hxt⟩ := xgd_some hxt
  refine r.iald 1 rfl hin (DX7_countException 4 rfl) ?_
  refine r.iconst (v := (1 : Int32)) (DX7_countException 5 rfl) rfl ?_
  refine r.iadd (DX7_countException 6 rfl) ?_
  obtain ⟨hin, hxt⟩ := xgd_some hxt
  refine r.iast (ws' := [(a 15, oX7 a (hM 15)), (a 16, aI E 11 (upd (hM 16) (6 : Int32).toNatClampNeg (((hM 16) (6 : Int32).toNatClampNeg) + (1 : Int32))))]) 1 rfl hin rfl (DX7_countException 7 rfl) ?_
  refine r.iload_n 1 (DX7_countException 8 rfl) rfl ?_
  refine r.iconst (v := (1 : Int32)) (DX7_countException 9 rfl) rfl ?_
  refine r.icmp_ne 27 (DX7_countException 10 rfl) rfl hxt (fun _ hxt => ?_) (fun _ hxt => ?_)
  · refine r.iload_n 2 (DX7_countException 19 rfl) rfl ?_
    refine r.if_eq 42 (DX7_countException 20 rfl) rfl hxt (fun _ hxt => ?_) (fun _ hxt => ?_)
    · refine r.aload_n 0 (DX7_countException 29 rfl) rfl ?_
      refine r.get (v := .ref (a 16)) kX7 f_X7_23 rfl 0 rfl rfl (DX7_countException 30 rfl) ?_
      refine r.bipush (v := (9 : Int32)) (DX7_countException 31 rfl) rfl ?_
      refine r.aload_n 0 (DX7_countException 32 rfl) rfl ?_
      refine r.get (v := .ref (a 16)) kX7 f_X7_23 rfl 0 rfl rfl (DX7_countException 33 rfl) ?_
      refine r.bipush (v := (9 : Int32)) (DX7_countException 34 rfl) rfl ?_
      obtain ⟨hin, hxt⟩ := xgd_some hxt
      refine r.iald 1 rfl hin (DX7_countException 35 rfl) ?_
      refine r.iload_n 1 (DX7_countException 36 rfl) rfl ?_
      obtain ⟨o_1, ho_1, hxt⟩ := xbd hxt
      refine r.callSI0 (t_J9_max_7cf53 E ((upd (hM 16) (6 : Int32).toNatClampNeg (((hM 16) (6 : Int32).toNatClampNeg) + (1 : Int32))) (9 : Int32).toNatClampNeg) x1 ho_1) g_X7_114 rfl (DX7_countException 37 rfl) rfl ⟨(Nat.le_of_ble_eq_true rfl), (Nat.le_of_ble_eq_true rfl)⟩ (Nat.le_of_ble_eq_true rfl) ?_
      obtain ⟨hin, hxt⟩ := xgd_some hxt
      refine r.iast (ws' := [(a 15, oX7 a (hM 15)), (a 16, aI E 11 (upd (upd (hM 16) (6 : Int32).toNatClampNeg (((hM 16) (6 : Int32).toNatClampNeg) + (1 : Int32))) (9 : Int32).toNatClampNeg o_1))]) 1 rfl hin rfl (DX7_countException 38 rfl) ?_
      cases hxt
      exact hret _ _ _ (DX7_countException 39 rfl) ⟨(), rfl⟩
    refine r.aload_n 0 (DX7_countException 21 rfl) rfl ?_
    refine r.get (v := .ref (a 16)) kX7 f_X7_23 rfl 0 rfl rfl (DX7_countException 22 rfl) ?_
    refine r.bipush (v := (8 : Int32)) (DX7_countException 23 rfl) rfl ?_
    refine r.dup2 (DX7_countException 24 rfl) rfl rfl ?_
    obtain ⟨hin, hxt⟩ := xgd_some hxt
    refine r.iald 1 rfl hin (DX7_countException 25 rfl) ?_
    refine r.iconst (v := (1 : Int32)) (DX7_countException 26 rfl) rfl ?_
    refine r.iadd (DX7_countException 27 rfl) ?_
    obtain ⟨hin, hxt⟩ := xgd_some hxt
    refine r.iast (ws' := [(a 15, oX7 a (hM 15)), (a 16, aI E 11 (upd (upd (hM 16) (6 : Int32).toNatClampNeg (((hM 16) (6 : Int32).toNatClampNeg) + (1 : Int32))) (8 : Int32).toNatClampNeg (((upd (hM 16) (6 : Int32).toNatClampNeg (((hM 16) (6 : Int32).toNatClampNeg) + (1 : Int32))) (8 : Int32).toNatClampNeg) + (1 : Int32))))]) 1 rfl hin rfl (DX7_countException 28 rfl) ?_
    refine r.aload_n 0 (DX7_countException 29 rfl) rfl ?_
    refine r.get (v := .ref (a 16)) kX7 f_X7_23 rfl 0 rfl rfl (DX7_countException 30 rfl) ?_
    refine r.bipush (v := (9 : Int32)) (DX7_countException 31 rfl) rfl ?_
    refine r.aload_n 0 (DX7_countException 32 rfl) rfl ?_
    refine r.get (v := .ref (a 16)) kX7 f_X7_23 rfl 0 rfl rfl (DX7_countException 33 rfl) ?_
    refine r.bipush (v := (9 : Int32)) (DX7_countException 34 rfl) rfl ?_
    obtain ⟨hin, hxt⟩ := xgd_some hxt
    refine r.iald 1 rfl hin (DX7_countException 35 rfl) ?_
    refine r.iload_n 1 (DX7_countException 36 rfl) rfl ?_
    obtain ⟨o_2, ho_2, hxt⟩ := xbd hxt
    refine r.callSI0 (t_J9_max_7cf53 E ((upd (upd (hM 16) (6 : Int32).toNatClampNeg (((hM 16) (6 : Int32).toNatClampNeg) + (1 : Int32))) (8 : Int32).toNatClampNeg (((upd (hM 16) (6 : Int32).toNatClampNeg (((hM 16) (6 : Int32).toNatClampNeg) + (1 : Int32))) (8 : Int32).toNatClampNeg) + (1 : Int32))) (9 : Int32).toNatClampNeg) x1 ho_2) g_X7_114 rfl (DX7_countException 37 rfl) rfl ⟨(Nat.le_of_ble_eq_true rfl), (Nat.le_of_ble_eq_true rfl)⟩ (Nat.le_of_ble_eq_true rfl) ?_
    obtain ⟨hin, hxt⟩ := xgd_some hxt
    refine r.iast (ws' := [(a 15, oX7 a (hM 15)), (a 16, aI E 11 (upd (upd (upd (hM 16) (6 : Int32).toNatClampNeg (((hM 16) (6 : Int32).toNatClampNeg) + (1 : Int32))) (8 : Int32).toNatClampNeg (((upd (hM 16) (6 : Int32).toNatClampNeg (((hM 16) (6 : Int32).toNatClampNeg) + (1 : Int32))) (8 : Int32).toNatClampNeg) + (1 : Int32))) (9 : Int32).toNatClampNeg o_2))]) 1 rfl hin rfl (DX7_countException 38 rfl) ?_
    cases hxt
    exact hret _ _ _ (DX7_countException 39 rfl) ⟨(), rfl⟩
  refine r.aload_n 0 (DX7_countException 11 rfl) rfl ?_
  refine r.get (v := .ref (a 16)) kX7 f_X7_23 rfl 0 rfl rfl (DX7_countException 12 rfl) ?_
  refine r.bipush (v := (7 : Int32)) (DX7_countException 13 rfl) rfl ?_
  refine r.dup2 (DX7_countException 14 rfl) rfl rfl ?_
  obtain ⟨hin, hxt⟩ := xgd_some hxt
  refine r.iald 1 rfl hin (DX7_countException 15 rfl) ?_
  refine r.iconst (v := (1 : Int32)) (DX7_countException 16 rfl) rfl ?_
  refine r.iadd (DX7_countException 17 rfl) ?_
  obtain ⟨hin, hxt⟩ := xgd_some hxt
  refine r.iast (ws' := [(a 15, oX7 a (hM 15)), (a 16, aI E 11 (upd (upd (hM 16) (6 : Int32).toNatClampNeg (((hM 16) (6 : Int32).toNatClampNeg) + (1 : Int32))) (7 : Int32).toNatClampNeg (((upd (hM 16) (6 : Int32).toNatClampNeg (((hM 16) (6 : Int32).toNatClampNeg) + (1 : Int32))) (7 : Int32).toNatClampNeg) + (1 : Int32))))]) 1 rfl hin rfl (DX7_countException 18 rfl) ?_
  refine r.iload_n 2 (DX7_countException 19 rfl) rfl ?_
  refine r.if_eq 42 (DX7_countException 20 rfl) rfl hxt (fun _ hxt => ?_) (fun _ hxt => ?_)
  · refine r.aload_n 0 (DX7_countException 29 rfl) rfl ?_
    refine r.get (v := .ref (a 16)) kX7 f_X7_23 rfl 0 rfl rfl (DX7_countException 30 rfl) ?_
    refine r.bipush (v := (9 : Int32)) (DX7_countException 31 rfl) rfl ?_
    refine r.aload_n 0 (DX7_countException 32 rfl) rfl ?_
    refine r.get (v := .ref (a 16)) kX7 f_X7_23 rfl 0 rfl rfl (DX7_countException 33 rfl) ?_
    refine r.bipush (v := (9 : Int32)) (DX7_countException 34 rfl) rfl ?_
    obtain ⟨hin, hxt⟩ := xgd_some hxt
    refine r.iald 1 rfl hin (DX7_countException 35 rfl) ?_
    refine r.iload_n 1 (DX7_countException 36 rfl) rfl ?_
    obtain ⟨o_3, ho_3, hxt⟩ := xbd hxt
    refine r.callSI0 (t_J9_max_7cf53 E ((upd (upd (hM 16) (6 : Int32).toNatClampNeg (((hM 16) (6 : Int32).toNatClampNeg) + (1 : Int32))) (7 : Int32).toNatClampNeg (((upd (hM 16) (6 : Int32).toNatClampNeg (((hM 16) (6 : Int32).toNatClampNeg) + (1 : Int32))) (7 : Int32).toNatClampNeg) + (1 : Int32))) (9 : Int32).toNatClampNeg) x1 ho_3) g_X7_114 rfl (DX7_countException 37 rfl) rfl ⟨(Nat.le_of_ble_eq_true rfl), (Nat.le_of_ble_eq_true rfl)⟩ (Nat.le_of_ble_eq_true rfl) ?_
    obtain ⟨hin, hxt⟩ := xgd_some hxt
    refine r.iast (ws' := [(a 15, oX7 a (hM 15)), (a 16, aI E 11 (upd (upd (upd (hM 16) (6 : Int32).toNatClampNeg (((hM 16) (6 : Int32).toNatClampNeg) + (1 : Int32))) (7 : Int32).toNatClampNeg (((upd (hM 16) (6 : Int32).toNatClampNeg (((hM 16) (6 : Int32).toNatClampNeg) + (1 : Int32))) (7 : Int32).toNatClampNeg) + (1 : Int32))) (9 : Int32).toNatClampNeg o_3))]) 1 rfl hin rfl (DX7_countException 38 rfl) ?_
    cases hxt
    exact hret _ _ _ (DX7_countException 39 rfl) ⟨(), rfl⟩
  refine r.aload_n 0 (DX7_countException 21 rfl) rfl ?_
  refine r.get (v := .ref (a 16)) kX7 f_X7_23 rfl 0 rfl rfl (DX7_countException 22 rfl) ?_
  refine r.bipush (v := (8 : Int32)) (DX7_countException 23 rfl) rfl ?_
  refine r.dup2 (DX7_countException 24 rfl) rfl rfl ?_
  obtain ⟨hin, hxt⟩ := xgd_some hxt
  refine r.iald 1 rfl hin (DX7_countException 25 rfl) ?_
  refine r.iconst (v := (1 : Int32)) (DX7_countException 26 rfl) rfl ?_
  refine r.iadd (DX7_countException 27 rfl) ?_
  obtain ⟨hin, hxt⟩ := xgd_some hxt
  refine r.iast (ws' := [(a 15, oX7 a (hM 15)), (a 16, aI E 11 (upd (upd (upd (hM 16) (6 : Int32).toNatClampNeg (((hM 16) (6 : Int32).toNatClampNeg) + (1 : Int32))) (7 : Int32).toNatClampNeg (((upd (hM 16) (6 : Int32).toNatClampNeg (((hM 16) (6 : Int32).toNatClampNeg) + (1 : Int32))) (7 : Int32).toNatClampNeg) + (1 : Int32))) (8 : Int32).toNatClampNeg (((upd (upd (hM 16) (6 : Int32).toNatClampNeg (((hM 16) (6 : Int32).toNatClampNeg) + (1 : Int32))) (7 : Int32).toNatClampNeg (((upd (hM 16) (6 : Int32).toNatClampNeg (((hM 16) (6 : Int32).toNatClampNeg) + (1 : Int32))) (7 : Int32).toNatClampNeg) + (1 : Int32))) (8 : Int32).toNatClampNeg) + (1 : Int32))))]) 1 rfl hin rfl (DX7_countException 28 rfl) ?_
  refine r.aload_n 0 (DX7_countException 29 rfl) rfl ?_
  refine r.get (v := .ref (a 16)) kX7 f_X7_23 rfl 0 rfl rfl (DX7_countException 30 rfl) ?_
  refine r.bipush (v := (9 : Int32)) (DX7_countException 31 rfl) rfl ?_
  refine r.aload_n 0 (DX7_countException 32 rfl) rfl ?_
  refine r.get (v := .ref (a 16)) kX7 f_X7_23 rfl 0 rfl rfl (DX7_countException 33 rfl) ?_
  refine r.bipush (v := (9 : Int32)) (DX7_countException 34 rfl) rfl ?_
  obtain ⟨hin, hxt⟩ := xgd_some hxt
  refine r.iald 1 rfl hin (DX7_countException 35 rfl) ?_
  refine r.iload_n 1 (DX7_countException 36 rfl) rfl ?_
  obtain ⟨o_4, ho_4, hxt⟩ := xbd hxt
  refine r.callSI0 (t_J9_max_7cf53 E ((upd (upd (upd (hM 16) (6 : Int32).toNatClampNeg (((hM 16) (6 : Int32).toNatClampNeg) + (1 : Int32))) (7 : Int32).toNatClampNeg (((upd (hM 16) (6 : Int32).toNatClampNeg (((hM 16) (6 : Int32).toNatClampNeg) + (1 : Int32))) (7 : Int32).toNatClampNeg) + (1 : Int32))) (8 : Int32).toNatClampNeg (((upd (upd (hM 16) (6 : Int32).toNatClampNeg (((hM 16) (6 : Int32).toNatClampNeg) + (1 : Int32))) (7 : Int32).toNatClampNeg (((upd (hM 16) (6 : Int32).toNatClampNeg (((hM 16) (6 : Int32).toNatClampNeg) + (1 : Int32))) (7 : Int32).toNatClampNeg) + (1 : Int32))) (8 : Int32).toNatClampNeg) + (1 : Int32))) (9 : Int32).toNatClampNeg) x1 ho_4) g_X7_114 rfl (DX7_countException 37 rfl) rfl ⟨(Nat.le_of_ble_eq_true rfl), (Nat.le_of_ble_eq_true rfl)⟩ (Nat.le_of_ble_eq_true rfl) ?_
  obtain ⟨hin, hxt⟩ := xgd_some hxt
  refine r.iast (ws' := [(a 15, oX7 a (hM 15)), (a 16, aI E 11 (upd (upd (upd (upd (hM 16) (6 : Int32).toNatClampNeg (((hM 16) (6 : Int32).toNatClampNeg) + (1 : Int32))) (7 : Int32).toNatClampNeg (((upd (hM 16) (6 : Int32).toNatClampNeg (((hM 16) (6 : Int32).toNatClampNeg) + (1 : Int32))) (7 : Int32).toNatClampNeg) + (1 : Int32))) (8 : Int32).toNatClampNeg (((upd (upd (hM 16) (6 : Int32).toNatClampNeg (((hM 16) (6 : Int32).toNatClampNeg) + (1 : Int32))) (7 : Int32).toNatClampNeg (((upd (hM 16) (6 : Int32).toNatClampNeg (((hM 16) (6 : Int32).toNatClampNeg) + (1 : Int32))) (7 : Int32).toNatClampNeg) + (1 : Int32))) (8 : Int32).toNatClampNeg) + (1 : Int32))) (9 : Int32).toNatClampNeg o_4))]) 1 rfl hin rfl (DX7_countException 38 rfl) ?_
  cases hxt
  exact hret _ _ _ (DX7_countException 39 rfl) ⟨(), rfl⟩
set_option maxRecDepth 100000 in
set_option maxHeartbeats 4000000 in
theorem l_X7_countExceptions_6 (E : xE) (a : Nat → Nat) (hM : Mem) {V : xVT} (r : Rl E RX7 cX7_countExceptions (xR 3 0 0) 5 false V) {o : Mem} {k : Mem → Option (Mem)} (hk : ∀ (mM : Mem), k mM = some o → V 0 0 97 [] [] [(a 1, oX3 a), (a 5, aI E 128 (hM 5)), (a 6, aI E 128 (hM 6)), (a 9, oX0 a (hM 9)), (a 10, aI E 4096 (hM 10)), (a 15, oX7 a (hM 15)), (a 16, aI E 11 (mM 16)), (a 17, aI E 4096 (hM 17)), (a 19, aI E 98 (hM 19))]) : ∀ (n : Nat) (v1 : Int32) (v2 : Int32) (v3 : Int32) (mM : Mem), xt_X7_countExceptions_l6 hM k n v1 v2 v3 mM = some o → V 0 0 6 [(0, .ref (a 15)), (1, .int v1), (2, .int v2), (3, .int v3)] [] [(a 1, oX3 a), (a 5, aI E 128 (hM 5)), (a 6, aI E 128 (hM 6)), (a 9, oX0 a (hM 9)), (a 10, aI E 4096 (hM 10)), (a 15, oX7 a (hM 15)), (a 16, aI E 11 (mM 16)), (a 17, aI E 4096 (hM 17)), (a 19, aI E 98 (hM 19))] := by
  intro n
  induction n with
  | zero => intro v1 v2 v3 mM hxt; exact xno hxt
  | succ n ih =>
    intro v1 v2 v3 mM hxt
    rw [xt_X7_countExceptions_l6] at hxt
    refine r.iload_n 3 (DX7_countExceptions 6 rfl) rfl ?_
    refine r.aload_n 0 (DX7_countExceptions 7 rfl) rfl ?_
    refine r.get (v := .ref (a 16)) kX7 f_X7_23 rfl 5 rfl rfl (DX7_countExceptions 8 rfl) ?_
    refine r.iconst (v := (1 : Int32)) (DX7_countExceptions 9 rfl) rfl ?_
    obtain ⟨hin, hxt⟩ := xgd_some hxt
    refine r.iald 6 rfl hin (DX7_countExceptions 10 rfl) ?_
    refine r.icmp_ge 97 (DX7_countExceptions 11 rfl) rfl hxt (fun _ hxt => ?_) (fun _ hxt => ?_)
    · refine r.rel (lo' := []) [] rfl ?_
      exact hk (mgs hM [16] mM) hxt
    refine r.iload_n 3 (DX7_countExceptions 12 rfl) rfl ?_
    refine r.aload_n 0 (DX7_countExceptions 13 rfl) rfl ?_
    refine r.get (v := .ref (a 17)) kX7 f_X7_29 rfl 5 rfl rfl (DX7_countExceptions 14 rfl) ?_
    refine r.alen (v := (Int32.ofNat 4096)) 7 0 rfl rfl rfl (DX7_countExceptions 15 rfl) ?_
    refine r.icmp_ge 97 (DX7_countExceptions 16 rfl) rfl hxt (fun _ hxt => ?_) (fun _ hxt => ?_)
    · refine r.rel (lo' := []) [] rfl ?_
      exact hk (mgs hM [16] mM) hxt
    refine r.aload_n 0 (DX7_countExceptions 17 rfl) rfl ?_
    refine r.get (v := .ref (a 17)) kX7 f_X7_29 rfl 5 rfl rfl (DX7_countExceptions 18 rfl) ?_
    refine r.iload_n 3 (DX7_countExceptions 19 rfl) rfl ?_
    obtain ⟨hin, hxt⟩ := xgd_some hxt
    refine r.iald 7 rfl hin (DX7_countExceptions 20 rfl) ?_
    refine r.istore (lo' := [(4, .int ((hM 17) v3.toNatClampNeg)), (0, .ref (a 15)), (1, .int v1), (2, .int v2), (3, .int v3)]) (DX7_countExceptions 21 rfl) (Nat.le_of_ble_eq_true rfl) rfl ?_
    refine r.aload_n 1 (DX7_countExceptions 22 rfl) rfl ?_
    refine r.get (v := .ref (a 9)) kX7 f_X7_15 rfl 5 rfl rfl (DX7_countExceptions 23 rfl) ?_
    refine r.iload 0 (DX7_countExceptions 24 rfl) rfl ?_
    obtain ⟨o_1, ho_1, hxt⟩ := xbd hxt
    refine r.callVI 0 rfl rfl (t_X0_at E a ((hM 17) v3.toNatClampNeg) hM ho_1) g_X7_92 rfl (DX7_countExceptions 25 rfl) rfl ⟨(Nat.le_of_ble_eq_true rfl), (Nat.le_of_ble_eq_true rfl)⟩ ⟨(Nat.le_of_ble_eq_true rfl), (Nat.le_of_ble_eq_true rfl)⟩ (Nat.le_of_ble_eq_true rfl) [3, 4] [0, 1, 2, 5, 6, 7, 8] rfl rfl rfl rfl (by decide) [0, 1, 2, 7, 8, 3, 4, 5, 6] rfl (ws2 := fun _ => [(a 1, oX3 a), (a 5, aI E 128 (hM 5)), (a 6, aI E 128 (hM 6)), (a 9, oX0 a (hM 9)), (a 10, aI E 4096 (hM 10)), (a 15, oX7 a (hM 15)), (a 16, aI E 11 (mM 16)), (a 17, aI E 4096 (hM 17)), (a 19, aI E 98 (hM 19))]) (fun _ => rfl) (fun _ => ?_)
    refine r.aload_n 1 (DX7_countExceptions 26 rfl) rfl ?_
    refine r.aload_n 1 (DX7_countExceptions 27 rfl) rfl ?_
    refine r.get (v := .ref (a 1)) kX7 f_X7_11 rfl 5 rfl rfl (DX7_countExceptions 28 rfl) ?_
    refine r.iload 0 (DX7_countExceptions 29 rfl) rfl ?_
    obtain ⟨o_2, ho_2, hxt⟩ := xbd hxt
    refine r.callVI 0 rfl rfl (t_X3_keyOf E a ((hM 17) v3.toNatClampNeg) hM ho_2) g_X7_102 rfl (DX7_countExceptions 30 rfl) rfl ⟨(Nat.le_of_ble_eq_true rfl), (Nat.le_of_ble_eq_true rfl)⟩ ⟨(Nat.le_of_ble_eq_true rfl), (Nat.le_of_ble_eq_true rfl)⟩ (Nat.le_of_ble_eq_true rfl) [0, 1, 2] [3, 4, 5, 6, 7, 8] rfl rfl rfl rfl (by decide) [6, 7, 8, 0, 1, 2, 3, 4, 5] rfl (ws2 := fun _ => [(a 1, oX3 a), (a 5, aI E 128 (hM 5)), (a 6, aI E 128 (hM 6)), (a 9, oX0 a (hM 9)), (a 10, aI E 4096 (hM 10)), (a 15, oX7 a (hM 15)), (a 16, aI E 11 (mM 16)), (a 17, aI E 4096 (hM 17)), (a 19, aI E 98 (hM 19))]) (fun _ => rfl) (fun _ => ?_)
    obtain ⟨o_3, ho_3, hxt⟩ := xbd hxt
    refine r.callVI 0 rfl rfl (t_X7_told E a o_2 hM ho_3) g_X7_108 rfl (DX7_countExceptions 31 rfl) rfl ⟨(Nat.le_of_ble_eq_true rfl), (Nat.le_of_ble_eq_true rfl)⟩ ⟨(Nat.le_of_ble_eq_true rfl), (Nat.le_of_ble_eq_true rfl)⟩ (Nat.le_of_ble_eq_true rfl) [5, 8] [0, 1, 2, 3, 4, 6, 7] rfl rfl rfl rfl (by decide) [0, 1, 2, 3, 4, 7, 5, 6, 8] rfl (ws2 := fun _ => [(a 1, oX3 a), (a 5, aI E 128 (hM 5)), (a 6, aI E 128 (hM 6)), (a 9, oX0 a (hM 9)), (a 10, aI E 4096 (hM 10)), (a 15, oX7 a (hM 15)), (a 16, aI E 11 (mM 16)), (a 17, aI E 4096 (hM 17)), (a 19, aI E 98 (hM 19))]) (fun _ => rfl) (fun _ => ?_)
    refine r.icmp_ne 63 (DX7_countExceptions 32 rfl) rfl hxt (fun _ hxt => ?_) (fun _ hxt => ?_)
    · refine r.iinc (v := (v1 + (1 : Int32))) (lo' := [(1, .int (v1 + (1 : Int32))), (4, .int ((hM 17) v3.toNatClampNeg)), (0, .ref (a 15)), (2, .int v2), (3, .int v3)]) 2 (DX7_countExceptions 36 rfl) rfl rfl (Nat.le_of_ble_eq_true rfl) rfl ?_
      refine r.aload_n 2 (DX7_countExceptions 37 rfl) rfl ?_
      refine r.iload_n 0 (DX7_countExceptions 38 rfl) rfl ?_
      refine r.iload_n 3 (DX7_countExceptions 39 rfl) rfl ?_
      refine r.iload 1 (DX7_countExceptions 40 rfl) rfl ?_
      refine r.bipush (v := (64 : Int32)) (DX7_countExceptions 41 rfl) rfl ?_
      refine r.idiv (DX7_countExceptions 42 rfl) (by decide) ?_
      refine r.icmp_eq 81 (DX7_countExceptions 43 rfl) rfl hxt (fun _ hxt => ?_) (fun _ hxt => ?_)
      · refine r.iconst (v := (0 : Int32)) (DX7_countExceptions 46 rfl) rfl ?_
        obtain ⟨o_4, ho_4, hxt⟩ := xbd hxt
        refine r.callVV 0 rfl rfl (t_X7_countException E a (v1 + (1 : Int32)) (0 : Int32) (mgs hM [16] mM) ho_4) g_X7_110 rfl (DX7_countExceptions 47 rfl) rfl ⟨(Nat.le_of_ble_eq_true rfl), (Nat.le_of_ble_eq_true rfl)⟩ ⟨(Nat.le_of_ble_eq_true rfl), (Nat.le_of_ble_eq_true rfl)⟩ (Nat.le_of_ble_eq_true rfl) [5, 6] [0, 1, 2, 3, 4, 7, 8] rfl rfl rfl rfl (by decide) [0, 1, 2, 3, 4, 7, 8, 5, 6] rfl (ws2 := fun _ => [(a 1, oX3 a), (a 5, aI E 128 (hM 5)), (a 6, aI E 128 (hM 6)), (a 9, oX0 a (hM 9)), (a 10, aI E 4096 (hM 10)), (a 15, oX7 a (hM 15)), (a 16, aI E 11 (o_4 16)), (a 17, aI E 4096 (hM 17)), (a 19, aI E 98 (hM 19))]) (fun _ => rfl) (fun _ => ?_)
        refine r.iload 1 (DX7_countExceptions 48 rfl) rfl ?_
        refine r.bipush (v := (64 : Int32)) (DX7_countExceptions 49 rfl) rfl ?_
        refine r.idiv (DX7_countExceptions 50 rfl) (by decide) ?_
        refine r.istore_n (lo' := [(2, .int (((hM 17) v3.toNatClampNeg) / (64 : Int32))), (1, .int (v1 + (1 : Int32))), (4, .int ((hM 17) v3.toNatClampNeg)), (0, .ref (a 15)), (3, .int v3)]) (DX7_countExceptions 51 rfl) (Nat.le_of_ble_eq_true rfl) rfl ?_
        refine r.iinc (v := (v3 + (1 : Int32))) (lo' := [(3, .int (v3 + (1 : Int32))), (2, .int (((hM 17) v3.toNatClampNeg) / (64 : Int32))), (1, .int (v1 + (1 : Int32))), (4, .int ((hM 17) v3.toNatClampNeg)), (0, .ref (a 15))]) 4 (DX7_countExceptions 52 rfl) rfl rfl (Nat.le_of_ble_eq_true rfl) rfl ?_
        refine r.goto 6 (DX7_countExceptions 53 rfl) rfl ?_
        refine r.rel (lo' := [(0, .ref (a 15)), (1, .int (v1 + (1 : Int32))), (2, .int (((hM 17) v3.toNatClampNeg) / (64 : Int32))), (3, .int (v3 + (1 : Int32)))]) [4, 2, 1, 0] rfl ?_
        exact ih (v1 + (1 : Int32)) (((hM 17) v3.toNatClampNeg) / (64 : Int32)) (v3 + (1 : Int32)) (mgs hM [16] o_4) hxt
      refine r.iconst (v := (1 : Int32)) (DX7_countExceptions 44 rfl) rfl ?_
      refine r.goto 82 (DX7_countExceptions 45 rfl) rfl ?_
      obtain ⟨o_5, ho_5, hxt⟩ := xbd hxt
      refine r.callVV 0 rfl rfl (t_X7_countException E a (v1 + (1 : Int32)) (1 : Int32) (mgs hM [16] mM) ho_5) g_X7_110 rfl (DX7_countExceptions 47 rfl) rfl ⟨(Nat.le_of_ble_eq_true rfl), (Nat.le_of_ble_eq_true rfl)⟩ ⟨(Nat.le_of_ble_eq_true rfl), (Nat.le_of_ble_eq_true rfl)⟩ (Nat.le_of_ble_eq_true rfl) [5, 6] [0, 1, 2, 3, 4, 7, 8] rfl rfl rfl rfl (by decide) [0, 1, 2, 3, 4, 7, 8, 5, 6] rfl (ws2 := fun _ => [(a 1, oX3 a), (a 5, aI E 128 (hM 5)), (a 6, aI E 128 (hM 6)), (a 9, oX0 a (hM 9)), (a 10, aI E 4096 (hM 10)), (a 15, oX7 a (hM 15)), (a 16, aI E 11 (o_5 16)), (a 17, aI E 4096 (hM 17)), (a 19, aI E 98 (hM 19))]) (fun _ => rfl) (fun _ => ?_)
      refine r.iload 1 (DX7_countExceptions 48 rfl) rfl ?_
      refine r.bipush (v := (64 : Int32)) (DX7_countExceptions 49 rfl) rfl ?_
      refine r.idiv (DX7_countExceptions 50 rfl) (by decide) ?_
      refine r.istore_n (lo' := [(2, .int (((hM 17) v3.toNatClampNeg) / (64 : Int32))), (1, .int (v1 + (1 : Int32))), (4, .int ((hM 17) v3.toNatClampNeg)), (0, .ref (a 15)), (3, .int v3)]) (DX7_countExceptions 51 rfl) (Nat.le_of_ble_eq_true rfl) rfl ?_
      refine r.iinc (v := (v3 + (1 : Int32))) (lo' := [(3, .int (v3 + (1 : Int32))), (2, .int (((hM 17) v3.toNatClampNeg) / (64 : Int32))), (1, .int (v1 + (1 : Int32))), (4, .int ((hM 17) v3.toNatClampNeg)), (0, .ref (a 15))]) 4 (DX7_countExceptions 52 rfl) rfl rfl (Nat.le_of_ble_eq_true rfl) rfl ?_
      refine r.goto 6 (DX7_countExceptions 53 rfl) rfl ?_
      refine r.rel (lo' := [(0, .ref (a 15)), (1, .int (v1 + (1 : Int32))), (2, .int (((hM 17) v3.toNatClampNeg) / (64 : Int32))), (3, .int (v3 + (1 : Int32)))]) [4, 2, 1, 0] rfl ?_
      exact ih (v1 + (1 : Int32)) (((hM 17) v3.toNatClampNeg) / (64 : Int32)) (v3 + (1 : Int32)) (mgs hM [16] o_5) hxt
    refine r.iconst (v := (0 : Int32)) (DX7_countExceptions 33 rfl) rfl ?_
    refine r.istore_n (lo' := [(1, .int (0 : Int32)), (4, .int ((hM 17) v3.toNatClampNeg)), (0, .ref (a 15)), (2, .int v2), (3, .int v3)]) (DX7_countExceptions 34 rfl) (Nat.le_of_ble_eq_true rfl) rfl ?_
    refine r.goto 91 (DX7_countExceptions 35 rfl) rfl ?_
    refine r.iinc (v := (v3 + (1 : Int32))) (lo' := [(3, .int (v3 + (1 : Int32))), (1, .int (0 : Int32)), (4, .int ((hM 17) v3.toNatClampNeg)), (0, .ref (a 15)), (2, .int v2)]) 4 (DX7_countExceptions 52 rfl) rfl rfl (Nat.le_of_ble_eq_true rfl) rfl ?_
    refine r.goto 6 (DX7_countExceptions 53 rfl) rfl ?_
    refine r.rel (lo' := [(0, .ref (a 15)), (1, .int (0 : Int32)), (2, .int v2), (3, .int (v3 + (1 : Int32)))]) [3, 1, 4, 0] rfl ?_
    exact ih (0 : Int32) v2 (v3 + (1 : Int32)) (mgs hM [16] mM) hxt
set_option maxRecDepth 100000 in
set_option maxHeartbeats 4000000 in
theorem t_X7_countExceptions (E : xE) (a : Nat → Nat) (hM : Mem) {o : Mem} (hxt : xt_X7_countExceptions hM = some o) : xMV (S := Unit) E yX7_countExceptions cX7_countExceptions 5 3 0 0 [.ref (a 15)] [(a 1, oX3 a), (a 5, aI E 128 (hM 5)), (a 6, aI E 128 (hM 6)), (a 9, oX0 a (hM 9)), (a 10, aI E 4096 (hM 10)), (a 15, oX7 a (hM 15)), (a 16, aI E 11 (hM 16)), (a 17, aI E 4096 (hM 17)), (a 19, aI E 98 (hM 19))] (fun _ => [(a 1, oX3 a), (a 5, aI E 128 (hM 5)), (a 6, aI E 128 (hM 6)), (a 9, oX0 a (hM 9)), (a 10, aI E 4096 (hM 10)), (a 15, oX7 a (hM 15)), (a 16, aI E 11 (o 16)), (a 17, aI E 4096 (hM 17)), (a 19, aI E 98 (hM 19))]) := by
  refine xMV.of (own := RX7) (lo0 := [(0, .ref (a 15))]) (ini := false) (fun h => nomatch h) (by decide +kernel) rfl rfl (Nat.le_of_ble_eq_true rfl) (fun V r hret => ?_)
  unfold xt_X7_countExceptions at hxt
  refine r.iconst (v := (0 : Int32)) (DX7_countExceptions 0 rfl) rfl ?_
  refine r.istore_n (lo' := [(1, .int (0 : Int32)), (0, .ref (a 15))]) (DX7_countExceptions 1 rfl) (Nat.le_of_ble_eq_true rfl) rfl ?_
  refine r.iconst (v := (-1 : Int32)) (DX7_countExceptions 2 rfl) rfl ?_
  refine r.istore_n (lo' := [(2, .int (-1 : Int32)), (1, .int (0 : Int32)), (0, .ref (a 15))]) (DX7_countExceptions 3 rfl) (Nat.le_of_ble_eq_true rfl) rfl ?_
  refine r.iconst (v := (0 : Int32)) (DX7_countExceptions 4 rfl) rfl ?_
  refine r.istore_n (lo' := [(3, .int (0 : Int32)), (2, .int (-1 : Int32)), (1, .int (0 : Int32)), (0, .ref (a 15))]) (DX7_countExceptions 5 rfl) (Nat.le_of_ble_eq_true rfl) rfl ?_
  refine r.rel (lo' := [(0, .ref (a 15)), (1, .int (0 : Int32)), (2, .int (-1 : Int32)), (3, .int (0 : Int32))]) [3, 2, 1, 0] rfl ?_
  refine l_X7_countExceptions_6 E a hM r (fun m_6 hxt => ?_) 10000 (0 : Int32) (-1 : Int32) (0 : Int32) hM hxt
  cases hxt
  exact hret _ _ _ (DX7_countExceptions 54 rfl) ⟨(), rfl⟩
set_option maxRecDepth 100000 in
set_option maxHeartbeats 4000000 in
theorem l_X7_countWith_18 (E : xE) (a : Nat → Nat) (x1 : Int32) (x2 : Int32) (hM : Mem) {V : xVT} (r : Rl E RX7 cX7_countWith (xR 1 0 0) 5 false V) {o : Int32} {k : Int32 → Option (Int32)} (hk : ∀ (v3 : Int32), k v3 = some o → V 0 0 68 [(3, .int v3)] [] [(a 15, oX7 a (hM 15)), (a 18, aI E 6272 (hM 18))]) : ∀ (n : Nat) (v3 : Int32) (v4 : Int32), xt_X7_countWith_l18 x1 x2 hM k n v3 v4 = some o → V 0 0 18 [(0, .ref (a 15)), (1, .int x1), (2, .int x2), (3, .int v3), (4, .int v4)] [] [(a 15, oX7 a (hM 15)), (a 18, aI E 6272 (hM 18))] := by
  intro n
  induction n with
  | zero => intro v3 v4 hxt; exact xno hxt
  | succ n ih =>
    intro v3 v4 hxt
    rw [xt_X7_countWith_l18] at hxt
    refine r.iload 4 (DX7_countWith 11 rfl) rfl ?_
    refine r.bipush (v := (98 : Int32)) (DX7_countWith 12 rfl) rfl ?_
    refine r.icmp_ge 68 (DX7_countWith 13 rfl) rfl hxt (fun _ hxt => ?_) (fun _ hxt => ?_)
    · refine r.rel (lo' := [(3, .int v3)]) [3] rfl ?_
      exact hk v3 hxt
    refine r.iload_n 2 (DX7_countWith 14 rfl) rfl ?_
    refine r.if_lt 68 (DX7_countWith 15 rfl) rfl hxt (fun _ hxt => ?_) (fun _ hxt => ?_)
    · refine r.rel (lo' := [(3, .int v3)]) [3] rfl ?_
      exact hk v3 hxt
    refine r.iload_n 2 (DX7_countWith 16 rfl) rfl ?_
    refine r.bipush (v := (64 : Int32)) (DX7_countWith 17 rfl) rfl ?_
    refine r.icmp_ge 68 (DX7_countWith 18 rfl) rfl hxt (fun _ hxt => ?_) (fun _ hxt => ?_)
    · refine r.rel (lo' := [(3, .int v3)]) [3] rfl ?_
      exact hk v3 hxt
    refine r.iload_n 3 (DX7_countWith 19 rfl) rfl ?_
    refine r.iload_n 2 (DX7_countWith 20 rfl) rfl ?_
    obtain ⟨o_1, ho_1, hxt⟩ := xbd hxt
    refine r.callSI0 (t_X7_distanceOf E x2 ho_1) g_X7_42 rfl (DX7_countWith 21 rfl) rfl ⟨(Nat.le_of_ble_eq_true rfl), (Nat.le_of_ble_eq_true rfl)⟩ (Nat.le_of_ble_eq_true rfl) ?_
    refine r.iload_n 1 (DX7_countWith 22 rfl) rfl ?_
    refine r.icmp_ne 59 (DX7_countWith 23 rfl) rfl hxt (fun _ hxt => ?_) (fun _ hxt => ?_)
    · refine r.iconst (v := (0 : Int32)) (DX7_countWith 33 rfl) rfl ?_
      refine r.iadd (DX7_countWith 34 rfl) ?_
      refine r.istore_n (lo' := [(3, .int (v3 + (0 : Int32))), (0, .ref (a 15)), (1, .int x1), (2, .int x2), (4, .int v4)]) (DX7_countWith 35 rfl) (Nat.le_of_ble_eq_true rfl) rfl ?_
      refine r.iinc (v := (v4 + (1 : Int32))) (lo' := [(4, .int (v4 + (1 : Int32))), (3, .int (v3 + (0 : Int32))), (0, .ref (a 15)), (1, .int x1), (2, .int x2)]) 4 (DX7_countWith 36 rfl) rfl rfl (Nat.le_of_ble_eq_true rfl) rfl ?_
      refine r.goto 18 (DX7_countWith 37 rfl) rfl ?_
      refine r.rel (lo' := [(0, .ref (a 15)), (1, .int x1), (2, .int x2), (3, .int (v3 + (0 : Int32))), (4, .int (v4 + (1 : Int32)))]) [2, 3, 4, 1, 0] rfl ?_
      exact ih (v3 + (0 : Int32)) (v4 + (1 : Int32)) hxt
    refine r.aload_n 0 (DX7_countWith 24 rfl) rfl ?_
    refine r.get (v := .ref (a 18)) kX7 f_X7_32 rfl 0 rfl rfl (DX7_countWith 25 rfl) ?_
    refine r.iload 4 (DX7_countWith 26 rfl) rfl ?_
    refine r.bipush (v := (64 : Int32)) (DX7_countWith 27 rfl) rfl ?_
    refine r.imul (DX7_countWith 28 rfl) ?_
    refine r.iload_n 2 (DX7_countWith 29 rfl) rfl ?_
    refine r.iadd (DX7_countWith 30 rfl) ?_
    obtain ⟨hin, hxt⟩ := xgd_some hxt
    refine r.iald 1 rfl hin (DX7_countWith 31 rfl) ?_
    refine r.goto 60 (DX7_countWith 32 rfl) rfl ?_
    refine r.iadd (DX7_countWith 34 rfl) ?_
    refine r.istore_n (lo' := [(3, .int (v3 + ((hM 18) ((v4 * (64 : Int32)) + x2).toNatClampNeg))), (0, .ref (a 15)), (1, .int x1), (2, .int x2), (4, .int v4)]) (DX7_countWith 35 rfl) (Nat.le_of_ble_eq_true rfl) rfl ?_
    refine r.iinc (v := (v4 + (1 : Int32))) (lo' := [(4, .int (v4 + (1 : Int32))), (3, .int (v3 + ((hM 18) ((v4 * (64 : Int32)) + x2).toNatClampNeg))), (0, .ref (a 15)), (1, .int x1), (2, .int x2)]) 4 (DX7_countWith 36 rfl) rfl rfl (Nat.le_of_ble_eq_true rfl) rfl ?_
    refine r.goto 18 (DX7_countWith 37 rfl) rfl ?_
    refine r.rel (lo' := [(0, .ref (a 15)), (1, .int x1), (2, .int x2), (3, .int (v3 + ((hM 18) ((v4 * (64 : Int32)) + x2).toNatClampNeg))), (4, .int (v4 + (1 : Int32)))]) [2, 3, 4, 1, 0] rfl ?_
    exact ih (v3 + ((hM 18) ((v4 * (64 : Int32)) + x2).toNatClampNeg)) (v4 + (1 : Int32)) hxt
set_option maxRecDepth 100000 in
set_option maxHeartbeats 4000000 in
theorem t_X7_countWith (E : xE) (a : Nat → Nat) (x1 : Int32) (hM : Mem) {o : Int32} (hxt : xt_X7_countWith x1 hM = some o) : xMI (S := Unit) E yX7_countWith cX7_countWith 5 .int 1 0 0 [.ref (a 15), .int x1] [(a 15, oX7 a (hM 15)), (a 18, aI E 6272 (hM 18))] (fun _ => o) (fun _ => [(a 15, oX7 a (hM 15)), (a 18, aI E 6272 (hM 18))]) := by
  refine xMI.of (own := RX7) (lo0 := [(0, .ref (a 15)), (1, .int x1)]) (by decide +kernel) rfl rfl (Nat.le_of_ble_eq_true rfl) (fun V r hret => ?_)
  unfold xt_X7_countWith at hxt
  refine r.iload_n 1 (DX7_countWith 0 rfl) rfl ?_
  refine r.bipush (v := (-6 : Int32)) (DX7_countWith 1 rfl) rfl ?_
  refine r.icmp_ne 11 (DX7_countWith 2 rfl) rfl hxt (fun _ hxt => ?_) (fun _ hxt => ?_)
  · refine r.iload_n 1 (DX7_countWith 5 rfl) rfl ?_
    refine r.istore_n (lo' := [(2, .int x1), (0, .ref (a 15)), (1, .int x1)]) (DX7_countWith 6 rfl) (Nat.le_of_ble_eq_true rfl) rfl ?_
    refine r.iconst (v := (0 : Int32)) (DX7_countWith 7 rfl) rfl ?_
    refine r.istore_n (lo' := [(3, .int (0 : Int32)), (2, .int x1), (0, .ref (a 15)), (1, .int x1)]) (DX7_countWith 8 rfl) (Nat.le_of_ble_eq_true rfl) rfl ?_
    refine r.iconst (v := (0 : Int32)) (DX7_countWith 9 rfl) rfl ?_
    refine r.istore (lo' := [(4, .int (0 : Int32)), (3, .int (0 : Int32)), (2, .int x1), (0, .ref (a 15)), (1, .int x1)]) (DX7_countWith 10 rfl) (Nat.le_of_ble_eq_true rfl) rfl ?_
    refine r.rel (lo' := [(0, .ref (a 15)), (1, .int x1), (2, .int x1), (3, .int (0 : Int32)), (4, .int (0 : Int32))]) [3, 4, 2, 1, 0] rfl ?_
    refine l_X7_countWith_18 E a x1 x1 hM r (fun v3_2 hxt => ?_) 10000 (0 : Int32) (0 : Int32) hxt
    refine r.iload_n 0 (DX7_countWith 38 rfl) rfl ?_
    cases hxt
    exact hret _ _ _ _ (DX7_countWith 39 rfl) rfl ⟨(), rfl, rfl⟩
  refine r.bipush (v := (63 : Int32)) (DX7_countWith 3 rfl) rfl ?_
  refine r.goto 12 (DX7_countWith 4 rfl) rfl ?_
  refine r.istore_n (lo' := [(2, .int (63 : Int32)), (0, .ref (a 15)), (1, .int x1)]) (DX7_countWith 6 rfl) (Nat.le_of_ble_eq_true rfl) rfl ?_
  refine r.iconst (v := (0 : Int32)) (DX7_countWith 7 rfl) rfl ?_
  refine r.istore_n (lo' := [(3, .int (0 : Int32)), (2, .int (63 : Int32)), (0, .ref (a 15)), (1, .int x1)]) (DX7_countWith 8 rfl) (Nat.le_of_ble_eq_true rfl) rfl ?_
  refine r.iconst (v := (0 : Int32)) (DX7_countWith 9 rfl) rfl ?_
  refine r.istore (lo' := [(4, .int (0 : Int32)), (3, .int (0 : Int32)), (2, .int (63 : Int32)), (0, .ref (a 15)), (1, .int x1)]) (DX7_countWith 10 rfl) (Nat.le_of_ble_eq_true rfl) rfl ?_
  refine r.rel (lo' := [(0, .ref (a 15)), (1, .int x1), (2, .int (63 : Int32)), (3, .int (0 : Int32)), (4, .int (0 : Int32))]) [3, 4, 2, 1, 0] rfl ?_
  refine l_X7_countWith_18 E a x1 (63 : Int32) hM r (fun v3_3 hxt => ?_) 10000 (0 : Int32) (0 : Int32) hxt
  refine r.iload_n 0 (DX7_countWith 38 rfl) rfl ?_
  cases hxt
  exact hret _ _ _ _ (DX7_countWith 39 rfl) rfl ⟨(), rfl, rfl⟩
set_option maxRecDepth 100000 in
set_option maxHeartbeats 4000000 in
theorem t_X7_prepare (E : xE) (a : Nat → Nat) (hp1 : Nat) (sp1 : Nat → Int32) (hM : Mem) {o : Mem} (hxt : xt_X7_prepare sp1 hM = some o) : xMV (S := Unit) E yX7_prepare cX7_prepare 2 5 0 0 [.ref (a 15), .ref hp1] [(a 1, oX3 a), (a 2, aI E 16 (hM 2)), (a 3, aI E 16 (hM 3)), (a 4, aI E 256 (hM 4)), (a 5, aI E 128 (hM 5)), (a 6, aI E 128 (hM 6)), (a 7, aI E 128 (hM 7)), (a 8, aI E 128 (hM 8)), (a 9, oX0 a (hM 9)), (a 10, aI E 4096 (hM 10)), (a 11, aI E 120 (hM 11)), (a 12, aI E 120 (hM 12)), (a 13, oX1 a (hM 13)), (a 14, aI E 8 (hM 14)), (a 15, oX7 a (hM 15)), (a 16, aI E 11 (hM 16)), (a 17, aI E 4096 (hM 17)), (a 18, aI E 6272 (hM 18)), (a 19, aI E 98 (hM 19)), (hp1, oX6 sp1)] (fun _ => [(a 1, oX3 a), (a 2, aI E 16 (hM 2)), (a 3, aI E 16 (hM 3)), (a 4, aI E 256 (hM 4)), (a 5, aI E 128 (hM 5)), (a 6, aI E 128 (hM 6)), (a 7, aI E 128 (hM 7)), (a 8, aI E 128 (hM 8)), (a 9, oX0 a (o 9)), (a 10, aI E 4096 (o 10)), (a 11, aI E 120 (o 11)), (a 12, aI E 120 (o 12)), (a 13, oX1 a (o 13)), (a 14, aI E 8 (o 14)), (a 15, oX7 a (o 15)), (a 16, aI E 11 (o 16)), (a 17, aI E 4096 (o 17)), (a 18, aI E 6272 (o 18)), (a 19, aI E 98 (o 19)), (hp1, oX6 sp1)]) := by
  refine xMV.of (own := RX7) (lo0 := [(0, .ref (a 15)), (1, .ref hp1)]) (ini := false) (fun h => nomatch h) (by decide +kernel) rfl rfl (Nat.le_of_ble_eq_true rfl) (fun V r hret => ?_)
  unfold xt_X7_prepare at hxt
  refine r.aload_n 0 (DX7_prepare 0 rfl) rfl ?_
  refine r.get (v := .int ((hM 15) 7)) kX7 f_X7_38 rfl 14 rfl rfl (DX7_prepare 1 rfl) ?_
  refine r.aload_n 1 (DX7_prepare 2 rfl) rfl ?_
  obtain ⟨o_1, ho_1, hxt⟩ := xbd hxt
  refine r.callSI (t_X0_signOf E a hp1 sp1 ho_1) g_X7_46 rfl (DX7_prepare 3 rfl) rfl ⟨(Nat.le_of_ble_eq_true rfl), (Nat.le_of_ble_eq_true rfl)⟩ ⟨(Nat.le_of_ble_eq_true rfl), (Nat.le_of_ble_eq_true rfl)⟩ (Nat.le_of_ble_eq_true rfl) [19] [0, 1, 2, 3, 4, 5, 6, 7, 8, 9, 10, 11, 12, 13, 14, 15, 16, 17, 18] rfl rfl rfl rfl (by decide) [0, 1, 2, 3, 4, 5, 6, 7, 8, 9, 10, 11, 12, 13, 14, 15, 16, 17, 18, 19] rfl (ws2 := fun _ => [(a 1, oX3 a), (a 2, aI E 16 (hM 2)), (a 3, aI E 16 (hM 3)), (a 4, aI E 256 (hM 4)), (a 5, aI E 128 (hM 5)), (a 6, aI E 128 (hM 6)), (a 7, aI E 128 (hM 7)), (a 8, aI E 128 (hM 8)), (a 9, oX0 a (hM 9)), (a 10, aI E 4096 (hM 10)), (a 11, aI E 120 (hM 11)), (a 12, aI E 120 (hM 12)), (a 13, oX1 a (hM 13)), (a 14, aI E 8 (hM 14)), (a 15, oX7 a (hM 15)), (a 16, aI E 11 (hM 16)), (a 17, aI E 4096 (hM 17)), (a 18, aI E 6272 (hM 18)), (a 19, aI E 98 (hM 19)), (hp1, oX6 sp1)]) (fun _ => rfl) (fun _ => ?_)
  refine r.icmp_ne 12 (DX7_prepare 4 rfl) rfl hxt (fun _ hxt => ?_) (fun _ hxt => ?_)
  · refine r.aload_n 0 (DX7_prepare 6 rfl) rfl ?_
    refine r.aload_n 1 (DX7_prepare 7 rfl) rfl ?_
    obtain ⟨o_2, ho_2, hxt⟩ := xbd hxt
    refine r.callSI (t_X0_signOf E a hp1 sp1 ho_2) g_X7_46 rfl (DX7_prepare 8 rfl) rfl ⟨(Nat.le_of_ble_eq_true rfl), (Nat.le_of_ble_eq_true rfl)⟩ ⟨(Nat.le_of_ble_eq_true rfl), (Nat.le_of_ble_eq_true rfl)⟩ (Nat.le_of_ble_eq_true rfl) [19] [0, 1, 2, 3, 4, 5, 6, 7, 8, 9, 10, 11, 12, 13, 14, 15, 16, 17, 18] rfl rfl rfl rfl (by decide) [0, 1, 2, 3, 4, 5, 6, 7, 8, 9, 10, 11, 12, 13, 14, 15, 16, 17, 18, 19] rfl (ws2 := fun _ => [(a 1, oX3 a), (a 2, aI E 16 (hM 2)), (a 3, aI E 16 (hM 3)), (a 4, aI E 256 (hM 4)), (a 5, aI E 128 (hM 5)), (a 6, aI E 128 (hM 6)), (a 7, aI E 128 (hM 7)), (a 8, aI E 128 (hM 8)), (a 9, oX0 a (hM 9)), (a 10, aI E 4096 (hM 10)), (a 11, aI E 120 (hM 11)), (a 12, aI E 120 (hM 12)), (a 13, oX1 a (hM 13)), (a 14, aI E 8 (hM 14)), (a 15, oX7 a (hM 15)), (a 16, aI E 11 (hM 16)), (a 17, aI E 4096 (hM 17)), (a 18, aI E 6272 (hM 18)), (a 19, aI E 98 (hM 19)), (hp1, oX6 sp1)]) (fun _ => rfl) (fun _ => ?_)
    refine r.put (ws' := [(a 1, oX3 a), (a 2, aI E 16 (hM 2)), (a 3, aI E 16 (hM 3)), (a 4, aI E 256 (hM 4)), (a 5, aI E 128 (hM 5)), (a 6, aI E 128 (hM 6)), (a 7, aI E 128 (hM 7)), (a 8, aI E 128 (hM 8)), (a 9, oX0 a (hM 9)), (a 10, aI E 4096 (hM 10)), (a 11, aI E 120 (hM 11)), (a 12, aI E 120 (hM 12)), (a 13, oX1 a (hM 13)), (a 14, aI E 8 (hM 14)), (a 15, oX7 a (upd (hM 15) 7 o_2)), (a 16, aI E 11 (hM 16)), (a 17, aI E 4096 (hM 17)), (a 18, aI E 6272 (hM 18)), (a 19, aI E 98 (hM 19)), (hp1, oX6 sp1)]) kX7 f_X7_38 14 rfl rfl rfl rfl (Nat.le_of_ble_eq_true rfl) rfl (DX7_prepare 9 rfl) ?_
    refine r.aload_n 0 (DX7_prepare 10 rfl) rfl ?_
    refine r.get (v := .ref (a 9)) kX7 f_X7_15 rfl 14 rfl rfl (DX7_prepare 11 rfl) ?_
    refine r.aload_n 1 (DX7_prepare 12 rfl) rfl ?_
    obtain ⟨o_3, ho_3, hxt⟩ := xbd hxt
    refine r.callVV 7 rfl rfl (t_X0_prepare E a hp1 sp1 hM ho_3) g_X7_52 rfl (DX7_prepare 13 rfl) rfl ⟨(Nat.le_of_ble_eq_true rfl), (Nat.le_of_ble_eq_true rfl)⟩ ⟨(Nat.le_of_ble_eq_true rfl), (Nat.le_of_ble_eq_true rfl)⟩ (Nat.le_of_ble_eq_true rfl) [0, 1, 2, 3, 4, 5, 6, 8, 9, 10, 11, 19] [7, 12, 13, 14, 15, 16, 17, 18] rfl rfl rfl rfl (by decide) [8, 9, 10, 11, 12, 13, 14, 0, 15, 16, 17, 18, 1, 2, 3, 4, 5, 6, 7, 19] rfl (ws2 := fun _ => [(a 1, oX3 a), (a 2, aI E 16 (hM 2)), (a 3, aI E 16 (hM 3)), (a 4, aI E 256 (hM 4)), (a 5, aI E 128 (hM 5)), (a 6, aI E 128 (hM 6)), (a 7, aI E 128 (hM 7)), (a 8, aI E 128 (hM 8)), (a 9, oX0 a (o_3 9)), (a 10, aI E 4096 (o_3 10)), (a 11, aI E 120 (o_3 11)), (a 12, aI E 120 (o_3 12)), (a 13, oX1 a (hM 13)), (a 14, aI E 8 (hM 14)), (a 15, oX7 a (upd (hM 15) 7 o_2)), (a 16, aI E 11 (hM 16)), (a 17, aI E 4096 (hM 17)), (a 18, aI E 6272 (hM 18)), (a 19, aI E 98 (hM 19)), (hp1, oX6 sp1)]) (fun _ => rfl) (fun _ => ?_)
    refine r.aload_n 0 (DX7_prepare 14 rfl) rfl ?_
    refine r.get (v := .ref (a 13)) kX7 f_X7_19 rfl 14 rfl rfl (DX7_prepare 15 rfl) ?_
    refine r.aload_n 1 (DX7_prepare 16 rfl) rfl ?_
    refine r.get (v := .int (sp1 1)) kX6 f_X7_56 rfl 19 rfl rfl (DX7_prepare 17 rfl) ?_
    obtain ⟨o_4, ho_4, hxt⟩ := xbd hxt
    refine r.callVV 2 rfl rfl (t_X1_prepare E a (sp1 1) hM ho_4) g_X7_61 rfl (DX7_prepare 18 rfl) rfl ⟨(Nat.le_of_ble_eq_true rfl), (Nat.le_of_ble_eq_true rfl)⟩ ⟨(Nat.le_of_ble_eq_true rfl), (Nat.le_of_ble_eq_true rfl)⟩ (Nat.le_of_ble_eq_true rfl) [0, 7, 12, 13] [1, 2, 3, 4, 5, 6, 8, 9, 10, 11, 14, 15, 16, 17, 18, 19] rfl rfl rfl rfl (by decide) [16, 0, 1, 2, 3, 4, 5, 17, 6, 7, 8, 9, 18, 19, 10, 11, 12, 13, 14, 15] rfl (ws2 := fun _ => [(a 1, oX3 a), (a 2, aI E 16 (hM 2)), (a 3, aI E 16 (hM 3)), (a 4, aI E 256 (hM 4)), (a 5, aI E 128 (hM 5)), (a 6, aI E 128 (hM 6)), (a 7, aI E 128 (hM 7)), (a 8, aI E 128 (hM 8)), (a 9, oX0 a (o_3 9)), (a 10, aI E 4096 (o_3 10)), (a 11, aI E 120 (o_3 11)), (a 12, aI E 120 (o_3 12)), (a 13, oX1 a (o_4 13)), (a 14, aI E 8 (o_4 14)), (a 15, oX7 a (upd (hM 15) 7 o_2)), (a 16, aI E 11 (hM 16)), (a 17, aI E 4096 (hM 17)), (a 18, aI E 6272 (hM 18)), (a 19, aI E 98 (hM 19)), (hp1, oX6 sp1)]) (fun _ => rfl) (fun _ => ?_)
    refine r.aload_n 0 (DX7_prepare 19 rfl) rfl ?_
    refine r.get (v := .ref (a 16)) kX7 f_X7_23 rfl 14 rfl rfl (DX7_prepare 20 rfl) ?_
    refine r.iconst (v := (0 : Int32)) (DX7_prepare 21 rfl) rfl ?_
    obtain ⟨o_5, ho_5, hxt⟩ := xbd hxt
    refine r.callSV (t_J7_fill_53178 E a (a 16) 11 (0 : Int32) (hM 16) ho_5) g_X7_66 rfl (DX7_prepare 22 rfl) rfl ⟨(Nat.le_of_ble_eq_true rfl), (Nat.le_of_ble_eq_true rfl)⟩ ⟨(Nat.le_of_ble_eq_true rfl), (Nat.le_of_ble_eq_true rfl)⟩ (Nat.le_of_ble_eq_true rfl) [15] [0, 1, 2, 3, 4, 5, 6, 7, 8, 9, 10, 11, 12, 13, 14, 16, 17, 18, 19] rfl rfl rfl rfl (by decide) [0, 1, 2, 3, 4, 5, 6, 7, 8, 9, 10, 11, 12, 13, 14, 19, 15, 16, 17, 18] rfl (ws2 := fun _ => [(a 1, oX3 a), (a 2, aI E 16 (hM 2)), (a 3, aI E 16 (hM 3)), (a 4, aI E 256 (hM 4)), (a 5, aI E 128 (hM 5)), (a 6, aI E 128 (hM 6)), (a 7, aI E 128 (hM 7)), (a 8, aI E 128 (hM 8)), (a 9, oX0 a (o_3 9)), (a 10, aI E 4096 (o_3 10)), (a 11, aI E 120 (o_3 11)), (a 12, aI E 120 (o_3 12)), (a 13, oX1 a (o_4 13)), (a 14, aI E 8 (o_4 14)), (a 15, oX7 a (upd (hM 15) 7 o_2)), (a 16, aI E 11 o_5), (a 17, aI E 4096 (hM 17)), (a 18, aI E 6272 (hM 18)), (a 19, aI E 98 (hM 19)), (hp1, oX6 sp1)]) (fun _ => rfl) (fun _ => ?_)
    refine r.aload_n 0 (DX7_prepare 23 rfl) rfl ?_
    refine r.get (v := .ref (a 18)) kX7 f_X7_32 rfl 14 rfl rfl (DX7_prepare 24 rfl) ?_
    refine r.iconst (v := (0 : Int32)) (DX7_prepare 25 rfl) rfl ?_
    obtain ⟨o_6, ho_6, hxt⟩ := xbd hxt
    refine r.callSV (t_J7_fill_53178 E a (a 18) 6272 (0 : Int32) (hM 18) ho_6) g_X7_66 rfl (DX7_prepare 26 rfl) rfl ⟨(Nat.le_of_ble_eq_true rfl), (Nat.le_of_ble_eq_true rfl)⟩ ⟨(Nat.le_of_ble_eq_true rfl), (Nat.le_of_ble_eq_true rfl)⟩ (Nat.le_of_ble_eq_true rfl) [17] [0, 1, 2, 3, 4, 5, 6, 7, 8, 9, 10, 11, 12, 13, 14, 15, 16, 18, 19] rfl rfl rfl rfl (by decide) [0, 1, 2, 3, 4, 5, 6, 7, 8, 9, 10, 11, 12, 13, 14, 15, 16, 19, 17, 18] rfl (ws2 := fun _ => [(a 1, oX3 a), (a 2, aI E 16 (hM 2)), (a 3, aI E 16 (hM 3)), (a 4, aI E 256 (hM 4)), (a 5, aI E 128 (hM 5)), (a 6, aI E 128 (hM 6)), (a 7, aI E 128 (hM 7)), (a 8, aI E 128 (hM 8)), (a 9, oX0 a (o_3 9)), (a 10, aI E 4096 (o_3 10)), (a 11, aI E 120 (o_3 11)), (a 12, aI E 120 (o_3 12)), (a 13, oX1 a (o_4 13)), (a 14, aI E 8 (o_4 14)), (a 15, oX7 a (upd (hM 15) 7 o_2)), (a 16, aI E 11 o_5), (a 17, aI E 4096 (hM 17)), (a 18, aI E 6272 o_6), (a 19, aI E 98 (hM 19)), (hp1, oX6 sp1)]) (fun _ => rfl) (fun _ => ?_)
    refine r.aload_n 0 (DX7_prepare 27 rfl) rfl ?_
    refine r.get (v := .ref (a 16)) kX7 f_X7_23 rfl 14 rfl rfl (DX7_prepare 28 rfl) ?_
    refine r.iconst (v := (2 : Int32)) (DX7_prepare 29 rfl) rfl ?_
    refine r.aload_n 0 (DX7_prepare 30 rfl) rfl ?_
    refine r.get (v := .ref (a 13)) kX7 f_X7_19 rfl 14 rfl rfl (DX7_prepare 31 rfl) ?_
    obtain ⟨o_7, ho_7, hxt⟩ := xbd hxt
    refine r.callVI 0 rfl rfl (t_X1_symmetries E a (mgs hM [13] o_4) ho_7) g_X7_72 rfl (DX7_prepare 32 rfl) rfl ⟨(Nat.le_of_ble_eq_true rfl), (Nat.le_of_ble_eq_true rfl)⟩ ⟨(Nat.le_of_ble_eq_true rfl), (Nat.le_of_ble_eq_true rfl)⟩ (Nat.le_of_ble_eq_true rfl) [12] [0, 1, 2, 3, 4, 5, 6, 7, 8, 9, 10, 11, 13, 14, 15, 16, 17, 18, 19] rfl rfl rfl rfl (by decide) [0, 1, 2, 3, 4, 5, 6, 7, 8, 9, 10, 11, 19, 12, 13, 14, 15, 16, 17, 18] rfl (ws2 := fun _ => [(a 1, oX3 a), (a 2, aI E 16 (hM 2)), (a 3, aI E 16 (hM 3)), (a 4, aI E 256 (hM 4)), (a 5, aI E 128 (hM 5)), (a 6, aI E 128 (hM 6)), (a 7, aI E 128 (hM 7)), (a 8, aI E 128 (hM 8)), (a 9, oX0 a (o_3 9)), (a 10, aI E 4096 (o_3 10)), (a 11, aI E 120 (o_3 11)), (a 12, aI E 120 (o_3 12)), (a 13, oX1 a (o_4 13)), (a 14, aI E 8 (o_4 14)), (a 15, oX7 a (upd (hM 15) 7 o_2)), (a 16, aI E 11 o_5), (a 17, aI E 4096 (hM 17)), (a 18, aI E 6272 o_6), (a 19, aI E 98 (hM 19)), (hp1, oX6 sp1)]) (fun _ => rfl) (fun _ => ?_)
    obtain ⟨hin, hxt⟩ := xgd_some hxt
    refine r.iast (ws' := [(a 1, oX3 a), (a 2, aI E 16 (hM 2)), (a 3, aI E 16 (hM 3)), (a 4, aI E 256 (hM 4)), (a 5, aI E 128 (hM 5)), (a 6, aI E 128 (hM 6)), (a 7, aI E 128 (hM 7)), (a 8, aI E 128 (hM 8)), (a 9, oX0 a (o_3 9)), (a 10, aI E 4096 (o_3 10)), (a 11, aI E 120 (o_3 11)), (a 12, aI E 120 (o_3 12)), (a 13, oX1 a (o_4 13)), (a 14, aI E 8 (o_4 14)), (a 15, oX7 a (upd (hM 15) 7 o_2)), (a 16, aI E 11 (upd o_5 (2 : Int32).toNatClampNeg o_7)), (a 17, aI E 4096 (hM 17)), (a 18, aI E 6272 o_6), (a 19, aI E 98 (hM 19)), (hp1, oX6 sp1)]) 15 rfl hin rfl (DX7_prepare 33 rfl) ?_
    refine r.aload_n 0 (DX7_prepare 34 rfl) rfl ?_
    refine r.aload_n 1 (DX7_prepare 35 rfl) rfl ?_
    refine r.get (v := .int (sp1 1)) kX6 f_X7_56 rfl 19 rfl rfl (DX7_prepare 36 rfl) ?_
    obtain ⟨o_8, ho_8, hxt⟩ := xbd hxt
    refine r.callVV 10 rfl rfl (t_X7_goThrough E a (sp1 1) (mgs (mgs (mset (mset (mset hM 15 (upd (hM 15) 7 o_2)) 16 (upd o_5 (2 : Int32).toNatClampNeg o_7)) 18 o_6) [9, 10] o_3) [13, 14] o_4) ho_8) g_X7_76 rfl (DX7_prepare 37 rfl) rfl ⟨(Nat.le_of_ble_eq_true rfl), (Nat.le_of_ble_eq_true rfl)⟩ ⟨(Nat.le_of_ble_eq_true rfl), (Nat.le_of_ble_eq_true rfl)⟩ (Nat.le_of_ble_eq_true rfl) [0, 3, 4, 5, 6, 7, 8, 9, 12, 13, 14, 15, 16, 17] [1, 2, 10, 11, 18, 19] rfl rfl rfl rfl (by decide) [6, 0, 1, 7, 8, 9, 10, 11, 12, 13, 2, 3, 14, 15, 16, 17, 18, 19, 4, 5] rfl (ws2 := fun _ => [(a 1, oX3 a), (a 2, aI E 16 (hM 2)), (a 3, aI E 16 (hM 3)), (a 4, aI E 256 (hM 4)), (a 5, aI E 128 (hM 5)), (a 6, aI E 128 (hM 6)), (a 7, aI E 128 (hM 7)), (a 8, aI E 128 (hM 8)), (a 9, oX0 a (o_3 9)), (a 10, aI E 4096 (o_3 10)), (a 11, aI E 120 (o_3 11)), (a 12, aI E 120 (o_3 12)), (a 13, oX1 a (o_4 13)), (a 14, aI E 8 (o_4 14)), (a 15, oX7 a (upd (hM 15) 7 o_2)), (a 16, aI E 11 (o_8 16)), (a 17, aI E 4096 (o_8 17)), (a 18, aI E 6272 (o_8 18)), (a 19, aI E 98 (hM 19)), (hp1, oX6 sp1)]) (fun _ => rfl) (fun _ => ?_)
    refine r.aload_n 0 (DX7_prepare 38 rfl) rfl ?_
    obtain ⟨o_9, ho_9, hxt⟩ := xbd hxt
    refine r.callVV 0 rfl rfl (t_X7_makeRule E a (mgs (mset hM 15 (upd (hM 15) 7 o_2)) [16, 18] o_8) ho_9) g_X7_79 rfl (DX7_prepare 39 rfl) rfl ⟨(Nat.le_of_ble_eq_true rfl), (Nat.le_of_ble_eq_true rfl)⟩ ⟨(Nat.le_of_ble_eq_true rfl), (Nat.le_of_ble_eq_true rfl)⟩ (Nat.le_of_ble_eq_true rfl) [14, 15, 17, 18] [0, 1, 2, 3, 4, 5, 6, 7, 8, 9, 10, 11, 12, 13, 16, 19] rfl rfl rfl rfl (by decide) [0, 1, 2, 3, 4, 5, 6, 7, 8, 9, 10, 11, 12, 13, 16, 17, 14, 18, 19, 15] rfl (ws2 := fun _ => [(a 1, oX3 a), (a 2, aI E 16 (hM 2)), (a 3, aI E 16 (hM 3)), (a 4, aI E 256 (hM 4)), (a 5, aI E 128 (hM 5)), (a 6, aI E 128 (hM 6)), (a 7, aI E 128 (hM 7)), (a 8, aI E 128 (hM 8)), (a 9, oX0 a (o_3 9)), (a 10, aI E 4096 (o_3 10)), (a 11, aI E 120 (o_3 11)), (a 12, aI E 120 (o_3 12)), (a 13, oX1 a (o_4 13)), (a 14, aI E 8 (o_4 14)), (a 15, oX7 a (upd (hM 15) 7 o_2)), (a 16, aI E 11 (o_9 16)), (a 17, aI E 4096 (o_8 17)), (a 18, aI E 6272 (o_8 18)), (a 19, aI E 98 (o_9 19)), (hp1, oX6 sp1)]) (fun _ => rfl) (fun _ => ?_)
    refine r.aload_n 0 (DX7_prepare 40 rfl) rfl ?_
    obtain ⟨o_10, ho_10, hxt⟩ := xbd hxt
    refine r.callVV 5 rfl rfl (t_X7_countExceptions E a (mgs (mgs (mgs (mset hM 15 (upd (hM 15) 7 o_2)) [9, 10] o_3) [16, 19] o_9) [17] o_8) ho_10) g_X7_82 rfl (DX7_prepare 41 rfl) rfl ⟨(Nat.le_of_ble_eq_true rfl), (Nat.le_of_ble_eq_true rfl)⟩ ⟨(Nat.le_of_ble_eq_true rfl), (Nat.le_of_ble_eq_true rfl)⟩ (Nat.le_of_ble_eq_true rfl) [0, 4, 5, 8, 9, 14, 15, 16, 18] [1, 2, 3, 6, 7, 10, 11, 12, 13, 17, 19] rfl rfl rfl rfl (by decide) [11, 0, 1, 2, 12, 13, 3, 4, 14, 15, 5, 6, 7, 8, 16, 17, 18, 9, 19, 10] rfl (ws2 := fun _ => [(a 1, oX3 a), (a 2, aI E 16 (hM 2)), (a 3, aI E 16 (hM 3)), (a 4, aI E 256 (hM 4)), (a 5, aI E 128 (hM 5)), (a 6, aI E 128 (hM 6)), (a 7, aI E 128 (hM 7)), (a 8, aI E 128 (hM 8)), (a 9, oX0 a (o_3 9)), (a 10, aI E 4096 (o_3 10)), (a 11, aI E 120 (o_3 11)), (a 12, aI E 120 (o_3 12)), (a 13, oX1 a (o_4 13)), (a 14, aI E 8 (o_4 14)), (a 15, oX7 a (upd (hM 15) 7 o_2)), (a 16, aI E 11 (o_10 16)), (a 17, aI E 4096 (o_8 17)), (a 18, aI E 6272 (o_8 18)), (a 19, aI E 98 (o_9 19)), (hp1, oX6 sp1)]) (fun _ => rfl) (fun _ => ?_)
    refine r.aload_n 0 (DX7_prepare 42 rfl) rfl ?_
    refine r.get (v := .ref (a 16)) kX7 f_X7_23 rfl 14 rfl rfl (DX7_prepare 43 rfl) ?_
    refine r.iconst (v := (5 : Int32)) (DX7_prepare 44 rfl) rfl ?_
    refine r.aload_n 0 (DX7_prepare 45 rfl) rfl ?_
    refine r.bipush (v := (-6 : Int32)) (DX7_prepare 46 rfl) rfl ?_
    obtain ⟨o_11, ho_11, hxt⟩ := xbd hxt
    refine r.callVI 0 rfl rfl (t_X7_countWith E a (-6 : Int32) (mgs (mset hM 15 (upd (hM 15) 7 o_2)) [18] o_8) ho_11) g_X7_85 rfl (DX7_prepare 47 rfl) rfl ⟨(Nat.le_of_ble_eq_true rfl), (Nat.le_of_ble_eq_true rfl)⟩ ⟨(Nat.le_of_ble_eq_true rfl), (Nat.le_of_ble_eq_true rfl)⟩ (Nat.le_of_ble_eq_true rfl) [14, 17] [0, 1, 2, 3, 4, 5, 6, 7, 8, 9, 10, 11, 12, 13, 15, 16, 18, 19] rfl rfl rfl rfl (by decide) [0, 1, 2, 3, 4, 5, 6, 7, 8, 9, 10, 11, 12, 13, 18, 14, 15, 19, 16, 17] rfl (ws2 := fun _ => [(a 1, oX3 a), (a 2, aI E 16 (hM 2)), (a 3, aI E 16 (hM 3)), (a 4, aI E 256 (hM 4)), (a 5, aI E 128 (hM 5)), (a 6, aI E 128 (hM 6)), (a 7, aI E 128 (hM 7)), (a 8, aI E 128 (hM 8)), (a 9, oX0 a (o_3 9)), (a 10, aI E 4096 (o_3 10)), (a 11, aI E 120 (o_3 11)), (a 12, aI E 120 (o_3 12)), (a 13, oX1 a (o_4 13)), (a 14, aI E 8 (o_4 14)), (a 15, oX7 a (upd (hM 15) 7 o_2)), (a 16, aI E 11 (o_10 16)), (a 17, aI E 4096 (o_8 17)), (a 18, aI E 6272 (o_8 18)), (a 19, aI E 98 (o_9 19)), (hp1, oX6 sp1)]) (fun _ => rfl) (fun _ => ?_)
    obtain ⟨hin, hxt⟩ := xgd_some hxt
    refine r.iast (ws' := [(a 1, oX3 a), (a 2, aI E 16 (hM 2)), (a 3, aI E 16 (hM 3)), (a 4, aI E 256 (hM 4)), (a 5, aI E 128 (hM 5)), (a 6, aI E 128 (hM 6)), (a 7, aI E 128 (hM 7)), (a 8, aI E 128 (hM 8)), (a 9, oX0 a (o_3 9)), (a 10, aI E 4096 (o_3 10)), (a 11, aI E 120 (o_3 11)), (a 12, aI E 120 (o_3 12)), (a 13, oX1 a (o_4 13)), (a 14, aI E 8 (o_4 14)), (a 15, oX7 a (upd (hM 15) 7 o_2)), (a 16, aI E 11 (upd (o_10 16) (5 : Int32).toNatClampNeg o_11)), (a 17, aI E 4096 (o_8 17)), (a 18, aI E 6272 (o_8 18)), (a 19, aI E 98 (o_9 19)), (hp1, oX6 sp1)]) 15 rfl hin rfl (DX7_prepare 48 rfl) ?_
    cases hxt
    exact hret _ _ _ (DX7_prepare 49 rfl) ⟨(), rfl⟩
  cases hxt
  exact hret _ _ _ (DX7_prepare 5 rfl) ⟨(), rfl⟩
set_option maxRecDepth 100000 in
set_option maxHeartbeats 4000000 in
theorem l_X1_alike_4 (E : xE) (a : Nat → Nat) (x1 : Int32) (hM : Mem) {V : xVT} (r : Rl E RX1 cX1_alike (xR 3 0 0) 4 false V) {o : Int32} {k : Int32 → Option (Int32)} (hk : ∀ (v2 : Int32), k v2 = some o → V 0 0 45 [(0, .ref (a 13)), (2, .int v2)] [] [(a 1, oX3 a), (a 4, aI E 256 (hM 4)), (a 5, aI E 128 (hM 5)), (a 6, aI E 128 (hM 6)), (a 8, aI E 128 (hM 8)), (a 13, oX1 a (hM 13)), (a 14, aI E 8 (hM 14))]) : ∀ (n : Nat) (v2 : Int32) (v3 : Int32), xt_X1_alike_l4 x1 hM k n v2 v3 = some o → V 0 0 4 [(0, .ref (a 13)), (1, .int x1), (2, .int v2), (3, .int v3)] [] [(a 1, oX3 a), (a 4, aI E 256 (hM 4)), (a 5, aI E 128 (hM 5)), (a 6, aI E 128 (hM 6)), (a 8, aI E 128 (hM 8)), (a 13, oX1 a (hM 13)), (a 14, aI E 8 (hM 14))] := by
  intro n
  induction n with
  | zero => intro v2 v3 hxt; exact xno hxt
  | succ n ih =>
    intro v2 v3 hxt
    rw [xt_X1_alike_l4] at hxt
    refine r.iload_n 3 (DX1_alike 4 rfl) rfl ?_
    refine r.aload_n 0 (DX1_alike 5 rfl) rfl ?_
    refine r.get (v := .int ((hM 13) 2)) kX1 f_X1_23 rfl 5 rfl rfl (DX1_alike 6 rfl) ?_
    refine r.icmp_ge 45 (DX1_alike 7 rfl) rfl hxt (fun _ hxt => ?_) (fun _ hxt => ?_)
    · refine r.rel (lo' := [(0, .ref (a 13)), (2, .int v2)]) [0, 2] rfl ?_
      exact hk v2 hxt
    refine r.iload_n 3 (DX1_alike 8 rfl) rfl ?_
    refine r.aload_n 0 (DX1_alike 9 rfl) rfl ?_
    refine r.get (v := .ref (a 14)) kX1 f_X1_15 rfl 5 rfl rfl (DX1_alike 10 rfl) ?_
    refine r.alen (v := (Int32.ofNat 8)) 6 0 rfl rfl rfl (DX1_alike 11 rfl) ?_
    refine r.icmp_ge 45 (DX1_alike 12 rfl) rfl hxt (fun _ hxt => ?_) (fun _ hxt => ?_)
    · refine r.rel (lo' := [(0, .ref (a 13)), (2, .int v2)]) [0, 2] rfl ?_
      exact hk v2 hxt
    refine r.aload_n 0 (DX1_alike 13 rfl) rfl ?_
    refine r.aload_n 0 (DX1_alike 14 rfl) rfl ?_
    refine r.get (v := .ref (a 14)) kX1 f_X1_15 rfl 5 rfl rfl (DX1_alike 15 rfl) ?_
    refine r.iload_n 3 (DX1_alike 16 rfl) rfl ?_
    obtain ⟨hin, hxt⟩ := xgd_some hxt
    refine r.iald 6 rfl hin (DX1_alike 17 rfl) ?_
    refine r.iload_n 1 (DX1_alike 18 rfl) rfl ?_
    obtain ⟨o_1, ho_1, hxt⟩ := xbd hxt
    refine r.callVI 5 rfl rfl (t_X1_imageOfNumber E a ((hM 14) v3.toNatClampNeg) x1 hM ho_1) g_X1_53 rfl (DX1_alike 19 rfl) rfl ⟨(Nat.le_of_ble_eq_true rfl), (Nat.le_of_ble_eq_true rfl)⟩ ⟨(Nat.le_of_ble_eq_true rfl), (Nat.le_of_ble_eq_true rfl)⟩ (Nat.le_of_ble_eq_true rfl) [0, 1, 2, 3, 4, 5] [6] rfl rfl rfl rfl (by decide) [1, 2, 3, 4, 5, 6, 0] rfl (ws2 := fun _ => [(a 1, oX3 a), (a 4, aI E 256 (hM 4)), (a 5, aI E 128 (hM 5)), (a 6, aI E 128 (hM 6)), (a 8, aI E 128 (hM 8)), (a 13, oX1 a (hM 13)), (a 14, aI E 8 (hM 14))]) (fun _ => rfl) (fun _ => ?_)
    refine r.iload_n 1 (DX1_alike 20 rfl) rfl ?_
    refine r.icmp_ne 39 (DX1_alike 21 rfl) rfl hxt (fun _ hxt => ?_) (fun _ hxt => ?_)
    · refine r.iinc (v := (v3 + (1 : Int32))) (lo' := [(3, .int (v3 + (1 : Int32))), (0, .ref (a 13)), (1, .int x1), (2, .int v2)]) 3 (DX1_alike 23 rfl) rfl rfl (Nat.le_of_ble_eq_true rfl) rfl ?_
      refine r.goto 4 (DX1_alike 24 rfl) rfl ?_
      refine r.rel (lo' := [(0, .ref (a 13)), (1, .int x1), (2, .int v2), (3, .int (v3 + (1 : Int32)))]) [1, 2, 3, 0] rfl ?_
      exact ih v2 (v3 + (1 : Int32)) hxt
    refine r.iinc (v := (v2 + (1 : Int32))) (lo' := [(2, .int (v2 + (1 : Int32))), (0, .ref (a 13)), (1, .int x1), (3, .int v3)]) 2 (DX1_alike 22 rfl) rfl rfl (Nat.le_of_ble_eq_true rfl) rfl ?_
    refine r.iinc (v := (v3 + (1 : Int32))) (lo' := [(3, .int (v3 + (1 : Int32))), (2, .int (v2 + (1 : Int32))), (0, .ref (a 13)), (1, .int x1)]) 3 (DX1_alike 23 rfl) rfl rfl (Nat.le_of_ble_eq_true rfl) rfl ?_
    refine r.goto 4 (DX1_alike 24 rfl) rfl ?_
    refine r.rel (lo' := [(0, .ref (a 13)), (1, .int x1), (2, .int (v2 + (1 : Int32))), (3, .int (v3 + (1 : Int32)))]) [2, 3, 1, 0] rfl ?_
    exact ih (v2 + (1 : Int32)) (v3 + (1 : Int32)) hxt
set_option maxRecDepth 100000 in
set_option maxHeartbeats 4000000 in
theorem t_X1_alike (E : xE) (a : Nat → Nat) (x1 : Int32) (hM : Mem) {o : Int32} (hxt : xt_X1_alike x1 hM = some o) : xMI (S := Unit) E yX1_alike cX1_alike 4 .int 3 0 0 [.ref (a 13), .int x1] [(a 1, oX3 a), (a 4, aI E 256 (hM 4)), (a 5, aI E 128 (hM 5)), (a 6, aI E 128 (hM 6)), (a 8, aI E 128 (hM 8)), (a 13, oX1 a (hM 13)), (a 14, aI E 8 (hM 14))] (fun _ => o) (fun _ => [(a 1, oX3 a), (a 4, aI E 256 (hM 4)), (a 5, aI E 128 (hM 5)), (a 6, aI E 128 (hM 6)), (a 8, aI E 128 (hM 8)), (a 13, oX1 a (hM 13)), (a 14, aI E 8 (hM 14))]) := by
  refine xMI.of (own := RX1) (lo0 := [(0, .ref (a 13)), (1, .int x1)]) (by decide +kernel) rfl rfl (Nat.le_of_ble_eq_true rfl) (fun V r hret => ?_)
  unfold xt_X1_alike at hxt
  refine r.iconst (v := (1 : Int32)) (DX1_alike 0 rfl) rfl ?_
  refine r.istore_n (lo' := [(2, .int (1 : Int32)), (0, .ref (a 13)), (1, .int x1)]) (DX1_alike 1 rfl) (Nat.le_of_ble_eq_true rfl) rfl ?_
  refine r.iconst (v := (0 : Int32)) (DX1_alike 2 rfl) rfl ?_
  refine r.istore_n (lo' := [(3, .int (0 : Int32)), (2, .int (1 : Int32)), (0, .ref (a 13)), (1, .int x1)]) (DX1_alike 3 rfl) (Nat.le_of_ble_eq_true rfl) rfl ?_
  refine r.rel (lo' := [(0, .ref (a 13)), (1, .int x1), (2, .int (1 : Int32)), (3, .int (0 : Int32))]) [2, 3, 1, 0] rfl ?_
  refine l_X1_alike_4 E a x1 hM r (fun v2_2 hxt => ?_) 10000 (1 : Int32) (0 : Int32) hxt
  refine r.iload_n 1 (DX1_alike 25 rfl) rfl ?_
  refine r.if_le 58 (DX1_alike 26 rfl) rfl hxt (fun _ hxt => ?_) (fun _ hxt => ?_)
  · refine r.iconst (v := (1 : Int32)) (DX1_alike 32 rfl) rfl ?_
    cases hxt
    exact hret _ _ _ _ (DX1_alike 33 rfl) rfl ⟨(), rfl, rfl⟩
  refine r.aload_n 0 (DX1_alike 27 rfl) rfl ?_
  obtain ⟨o_3, ho_3, hxt⟩ := xbd hxt
  refine r.callVI 0 rfl rfl (t_X1_symmetries E a hM ho_3) g_X1_61 rfl (DX1_alike 28 rfl) rfl ⟨(Nat.le_of_ble_eq_true rfl), (Nat.le_of_ble_eq_true rfl)⟩ ⟨(Nat.le_of_ble_eq_true rfl), (Nat.le_of_ble_eq_true rfl)⟩ (Nat.le_of_ble_eq_true rfl) [5] [0, 1, 2, 3, 4, 6] rfl rfl rfl rfl (by decide) [0, 1, 2, 3, 4, 6, 5] rfl (ws2 := fun _ => [(a 1, oX3 a), (a 4, aI E 256 (hM 4)), (a 5, aI E 128 (hM 5)), (a 6, aI E 128 (hM 6)), (a 8, aI E 128 (hM 8)), (a 13, oX1 a (hM 13)), (a 14, aI E 8 (hM 14))]) (fun _ => rfl) (fun _ => ?_)
  refine r.iload_n 1 (DX1_alike 29 rfl) rfl ?_
  obtain ⟨hne, hxt⟩ := xgz_some hxt
  refine r.idiv (DX1_alike 30 rfl) hne ?_
  refine r.goto 59 (DX1_alike 31 rfl) rfl ?_
  cases hxt
  exact hret _ _ _ _ (DX1_alike 33 rfl) rfl ⟨(), rfl, rfl⟩
set_option maxRecDepth 100000 in
set_option maxHeartbeats 4000000 in
theorem t_X7_total (E : xE) (a : Nat → Nat) (x1 : Int32) (hM : Mem) {o : Int32} (hxt : xt_X7_total x1 hM = some o) : xMI (S := Unit) E yX7_total cX7_total 2 .int 0 0 0 [.ref (a 15), .int x1] [(a 15, oX7 a (hM 15)), (a 16, aI E 11 (hM 16))] (fun _ => o) (fun _ => [(a 15, oX7 a (hM 15)), (a 16, aI E 11 (hM 16))]) := by
  refine xMI.of (own := RX7) (lo0 := [(0, .ref (a 15)), (1, .int x1)]) (by decide +kernel) rfl rfl (Nat.le_of_ble_eq_true rfl) (fun V r hret => ?_)
  unfold xt_X7_total at hxt
  refine r.iload_n 1 (DX7_total 0 rfl) rfl ?_
  refine r.if_lt 19 (DX7_total 1 rfl) rfl hxt (fun _ hxt => ?_) (fun _ hxt => ?_)
  · refine r.iconst (v := (0 : Int32)) (DX7_total 10 rfl) rfl ?_
    cases hxt
    exact hret _ _ _ _ (DX7_total 11 rfl) rfl ⟨(), rfl, rfl⟩
  refine r.iload_n 1 (DX7_total 2 rfl) rfl ?_
  refine r.bipush (v := (11 : Int32)) (DX7_total 3 rfl) rfl ?_
  refine r.icmp_ge 19 (DX7_total 4 rfl) rfl hxt (fun _ hxt => ?_) (fun _ hxt => ?_)
  · refine r.iconst (v := (0 : Int32)) (DX7_total 10 rfl) rfl ?_
    cases hxt
    exact hret _ _ _ _ (DX7_total 11 rfl) rfl ⟨(), rfl, rfl⟩
  refine r.aload_n 0 (DX7_total 5 rfl) rfl ?_
  refine r.get (v := .ref (a 16)) kX7 f_X7_23 rfl 0 rfl rfl (DX7_total 6 rfl) ?_
  refine r.iload_n 1 (DX7_total 7 rfl) rfl ?_
  obtain ⟨hin, hxt⟩ := xgd_some hxt
  refine r.iald 1 rfl hin (DX7_total 8 rfl) ?_
  refine r.goto 20 (DX7_total 9 rfl) rfl ?_
  cases hxt
  exact hret _ _ _ _ (DX7_total 11 rfl) rfl ⟨(), rfl, rfl⟩
