set_option maxRecDepth 100000 in
set_option maxHeartbeats 4000000 in
theorem t_X9_isFoxMove (E : xE) (a : Nat → Nat) (x1 : Int32) (x2 : Int32) (hM : Mem) {o : Int32} (hxt : xt_X9_isFoxMove x1 x2 hM = some o) : xMI (S := Unit) E yX9_isFoxMove cX9_isFoxMove 3 .boolean 4 0 0 [.ref (a 31), .int x1, .int x2] [(a 31, oX9 a (hM 31)), (a 32, aI E 8 (hM 32))] (fun _ => o) (fun _ => [(a 31, oX9 a (hM 31)), (a 32, aI E 8 (hM 32))]) := by
  refine xMI.of (own := RX9) (lo0 := [(0, .ref (a 31)), (1, .int x1), (2, .int x2)]) (by decide +kernel) rfl rfl (Nat.le_of_ble_eq_true rfl) (fun V r hret => ?_)
  unfold xt_X9_isFoxMove at hxt
  refine r.iload_n 1 (DX9_isFoxMove 0 rfl) rfl ?_
  refine r.aload_n 0 (DX9_isFoxMove 1 rfl) rfl ?_
  refine r.get (v := .ref (a 32)) kX9 f_X9_7 rfl 0 rfl rfl (DX9_isFoxMove 2 rfl) ?_
  refine r.iconst (v := (5 : Int32)) (DX9_isFoxMove 3 rfl) rfl ?_
  obtain ⟨hin, hxt⟩ := xgd_some hxt
  refine r.iald 1 rfl hin (DX9_isFoxMove 4 rfl) ?_
  refine r.icmp_ne 67 (DX9_isFoxMove 5 rfl) rfl hxt (fun _ hxt => ?_) (fun _ hxt => ?_)
  · refine r.iconst (v := (0 : Int32)) (DX9_isFoxMove 37 rfl) rfl ?_
    cases hxt
    exact hret _ _ _ _ (DX9_isFoxMove 38 rfl) rfl ⟨(), rfl, rfl⟩
  refine r.aload_n 0 (DX9_isFoxMove 6 rfl) rfl ?_
  refine r.iload_n 2 (DX9_isFoxMove 7 rfl) rfl ?_
  obtain ⟨o_1, ho_1, hxt⟩ := xbd hxt
  refine r.callVI 0 rfl rfl (t_X9_isFree E a x2 hM ho_1) g_X9_91 rfl (DX9_isFoxMove 8 rfl) rfl ⟨(Nat.le_of_ble_eq_true rfl), (Nat.le_of_ble_eq_true rfl)⟩ ⟨(Nat.le_of_ble_eq_true rfl), (Nat.le_of_ble_eq_true rfl)⟩ (Nat.le_of_ble_eq_true rfl) [0, 1] [] rfl rfl rfl rfl (by decide) [0, 1] rfl (ws2 := fun _ => [(a 31, oX9 a (hM 31)), (a 32, aI E 8 (hM 32))]) (fun _ => rfl) (fun _ => ?_)
  refine r.if_eq 67 (DX9_isFoxMove 9 rfl) rfl hxt (fun _ hxt => ?_) (fun _ hxt => ?_)
  · refine r.iconst (v := (0 : Int32)) (DX9_isFoxMove 37 rfl) rfl ?_
    cases hxt
    exact hret _ _ _ _ (DX9_isFoxMove 38 rfl) rfl ⟨(), rfl, rfl⟩
  refine r.iload_n 2 (DX9_isFoxMove 10 rfl) rfl ?_
  refine r.aload_n 0 (DX9_isFoxMove 11 rfl) rfl ?_
  refine r.get (v := .ref (a 32)) kX9 f_X9_7 rfl 0 rfl rfl (DX9_isFoxMove 12 rfl) ?_
  refine r.bipush (v := (6 : Int32)) (DX9_isFoxMove 13 rfl) rfl ?_
  obtain ⟨hin, hxt⟩ := xgd_some hxt
  refine r.iald 1 rfl hin (DX9_isFoxMove 14 rfl) ?_
  refine r.icmp_eq 67 (DX9_isFoxMove 15 rfl) rfl hxt (fun _ hxt => ?_) (fun _ hxt => ?_)
  · refine r.iconst (v := (0 : Int32)) (DX9_isFoxMove 37 rfl) rfl ?_
    cases hxt
    exact hret _ _ _ _ (DX9_isFoxMove 38 rfl) rfl ⟨(), rfl, rfl⟩
  refine r.iload_n 2 (DX9_isFoxMove 16 rfl) rfl ?_
  refine r.aload_n 0 (DX9_isFoxMove 17 rfl) rfl ?_
  refine r.get (v := .ref (a 32)) kX9 f_X9_7 rfl 0 rfl rfl (DX9_isFoxMove 18 rfl) ?_
  refine r.bipush (v := (7 : Int32)) (DX9_isFoxMove 19 rfl) rfl ?_
  obtain ⟨hin, hxt⟩ := xgd_some hxt
  refine r.iald 1 rfl hin (DX9_isFoxMove 20 rfl) ?_
  refine r.icmp_eq 67 (DX9_isFoxMove 21 rfl) rfl hxt (fun _ hxt => ?_) (fun _ hxt => ?_)
  · refine r.iconst (v := (0 : Int32)) (DX9_isFoxMove 37 rfl) rfl ?_
    cases hxt
    exact hret _ _ _ _ (DX9_isFoxMove 38 rfl) rfl ⟨(), rfl, rfl⟩
  refine r.iload_n 1 (DX9_isFoxMove 22 rfl) rfl ?_
  refine r.iload_n 2 (DX9_isFoxMove 23 rfl) rfl ?_
  refine r.aload_n 0 (DX9_isFoxMove 24 rfl) rfl ?_
  refine r.get (v := .ref (a 32)) kX9 f_X9_7 rfl 0 rfl rfl (DX9_isFoxMove 25 rfl) ?_
  refine r.iconst (v := (0 : Int32)) (DX9_isFoxMove 26 rfl) rfl ?_
  obtain ⟨hin, hxt⟩ := xgd_some hxt
  refine r.iald 1 rfl hin (DX9_isFoxMove 27 rfl) ?_
  refine r.iconst (v := (1 : Int32)) (DX9_isFoxMove 28 rfl) rfl ?_
  refine r.icmp_ne 56 (DX9_isFoxMove 29 rfl) rfl hxt (fun _ hxt => ?_) (fun _ hxt => ?_)
  · refine r.iconst (v := (0 : Int32)) (DX9_isFoxMove 32 rfl) rfl ?_
    obtain ⟨o_2, ho_2, hxt⟩ := xbd hxt
    refine r.callSI0 (t_X9_isStep E x1 x2 (0 : Int32) ho_2) g_X9_95 rfl (DX9_isFoxMove 33 rfl) rfl ⟨(Nat.le_of_ble_eq_true rfl), (Nat.le_of_ble_eq_true rfl)⟩ (Nat.le_of_ble_eq_true rfl) ?_
    refine r.if_eq 67 (DX9_isFoxMove 34 rfl) rfl hxt (fun _ hxt => ?_) (fun _ hxt => ?_)
    · refine r.iconst (v := (0 : Int32)) (DX9_isFoxMove 37 rfl) rfl ?_
      cases hxt
      exact hret _ _ _ _ (DX9_isFoxMove 38 rfl) rfl ⟨(), rfl, rfl⟩
    refine r.iconst (v := (1 : Int32)) (DX9_isFoxMove 35 rfl) rfl ?_
    refine r.goto 68 (DX9_isFoxMove 36 rfl) rfl ?_
    cases hxt
    exact hret _ _ _ _ (DX9_isFoxMove 38 rfl) rfl ⟨(), rfl, rfl⟩
  refine r.iconst (v := (1 : Int32)) (DX9_isFoxMove 30 rfl) rfl ?_
  refine r.goto 57 (DX9_isFoxMove 31 rfl) rfl ?_
  obtain ⟨o_3, ho_3, hxt⟩ := xbd hxt
  refine r.callSI0 (t_X9_isStep E x1 x2 (1 : Int32) ho_3) g_X9_95 rfl (DX9_isFoxMove 33 rfl) rfl ⟨(Nat.le_of_ble_eq_true rfl), (Nat.le_of_ble_eq_true rfl)⟩ (Nat.le_of_ble_eq_true rfl) ?_
  refine r.if_eq 67 (DX9_isFoxMove 34 rfl) rfl hxt (fun _ hxt => ?_) (fun _ hxt => ?_)
  · refine r.iconst (v := (0 : Int32)) (DX9_isFoxMove 37 rfl) rfl ?_
    cases hxt
    exact hret _ _ _ _ (DX9_isFoxMove 38 rfl) rfl ⟨(), rfl, rfl⟩
  refine r.iconst (v := (1 : Int32)) (DX9_isFoxMove 35 rfl) rfl ?_
  refine r.goto 68 (DX9_isFoxMove 36 rfl) rfl ?_
  cases hxt
  exact hret _ _ _ _ (DX9_isFoxMove 38 rfl) rfl ⟨(), rfl, rfl⟩
set_option maxRecDepth 100000 in
set_option maxHeartbeats 4000000 in
theorem t_X9_isMove (E : xE) (a : Nat → Nat) (x1 : Int32) (x2 : Int32) (hM : Mem) {o : Int32 × Mem} (hxt : xt_X9_isMove x1 x2 hM = some o) : xMI (S := Unit) E yX9_isMove cX9_isMove 3 .boolean 10 0 0 [.ref (a 31), .int x1, .int x2] [(a 31, oX9 a (hM 31)), (a 32, aI E 8 (hM 32)), (a 36, aI E 120 (hM 36)), (a 37, aI E 120 (hM 37)), (a 38, aI E 4096 (hM 38)), (a 39, aI E 4096 (hM 39)), (a 40, aI E 4096 (hM 40)), (a 41, aI E 128 (hM 41)), (a 42, aI E 98 (hM 42)), (a 43, aI E 202 (hM 43)), (a 44, aI E 4 (hM 44))] (fun _ => o.1) (fun _ => [(a 31, oX9 a (o.2 31)), (a 32, aI E 8 (hM 32)), (a 36, aI E 120 (hM 36)), (a 37, aI E 120 (hM 37)), (a 38, aI E 4096 (o.2 38)), (a 39, aI E 4096 (o.2 39)), (a 40, aI E 4096 (o.2 40)), (a 41, aI E 128 (o.2 41)), (a 42, aI E 98 (o.2 42)), (a 43, aI E 202 (o.2 43)), (a 44, aI E 4 (o.2 44))]) := by
  refine xMI.of (own := RX9) (lo0 := [(0, .ref (a 31)), (1, .int x1), (2, .int x2)]) (by decide +kernel) rfl rfl (Nat.le_of_ble_eq_true rfl) (fun V r hret => ?_)
  unfold xt_X9_isMove at hxt
  refine r.aload_n 0 (DX9_isMove 0 rfl) rfl ?_
  obtain ⟨o_1, ho_1, hxt⟩ := xbd hxt
  refine r.callVI 0 rfl rfl (t_X9_isCaught E a hM ho_1) g_X9_171 rfl (DX9_isMove 1 rfl) rfl ⟨(Nat.le_of_ble_eq_true rfl), (Nat.le_of_ble_eq_true rfl)⟩ ⟨(Nat.le_of_ble_eq_true rfl), (Nat.le_of_ble_eq_true rfl)⟩ (Nat.le_of_ble_eq_true rfl) [0, 1, 2, 3, 4, 5, 6, 7, 8, 9, 10] [] rfl rfl rfl rfl (by decide) [0, 1, 2, 3, 4, 5, 6, 7, 8, 9, 10] rfl (ws2 := fun _ => [(a 31, oX9 a (o_1.2 31)), (a 32, aI E 8 (hM 32)), (a 36, aI E 120 (hM 36)), (a 37, aI E 120 (hM 37)), (a 38, aI E 4096 (o_1.2 38)), (a 39, aI E 4096 (o_1.2 39)), (a 40, aI E 4096 (o_1.2 40)), (a 41, aI E 128 (o_1.2 41)), (a 42, aI E 98 (o_1.2 42)), (a 43, aI E 202 (o_1.2 43)), (a 44, aI E 4 (o_1.2 44))]) (fun _ => rfl) (fun _ => ?_)
  refine r.if_ne 41 (DX9_isMove 2 rfl) rfl hxt (fun _ hxt => ?_) (fun _ hxt => ?_)
  · refine r.iconst (v := (0 : Int32)) (DX9_isMove 21 rfl) rfl ?_
    cases hxt
    exact hret _ _ _ _ (DX9_isMove 22 rfl) rfl ⟨(), rfl, rfl⟩
  refine r.aload_n 0 (DX9_isMove 3 rfl) rfl ?_
  refine r.get (v := .ref (a 32)) kX9 f_X9_7 rfl 0 rfl rfl (DX9_isMove 4 rfl) ?_
  refine r.iconst (v := (4 : Int32)) (DX9_isMove 5 rfl) rfl ?_
  obtain ⟨hin, hxt⟩ := xgd_some hxt
  refine r.iald 1 rfl hin (DX9_isMove 6 rfl) ?_
  refine r.if_ne 28 (DX9_isMove 7 rfl) rfl hxt (fun _ hxt => ?_) (fun _ hxt => ?_)
  · refine r.aload_n 0 (DX9_isMove 14 rfl) rfl ?_
    refine r.iload_n 1 (DX9_isMove 15 rfl) rfl ?_
    refine r.iload_n 2 (DX9_isMove 16 rfl) rfl ?_
    obtain ⟨o_2, ho_2, hxt⟩ := xbd hxt
    refine r.callVI 0 rfl rfl (t_X9_isFoxMove E a x1 x2 (mgs hM [31] o_1.2) ho_2) g_X9_177 rfl (DX9_isMove 17 rfl) rfl ⟨(Nat.le_of_ble_eq_true rfl), (Nat.le_of_ble_eq_true rfl)⟩ ⟨(Nat.le_of_ble_eq_true rfl), (Nat.le_of_ble_eq_true rfl)⟩ (Nat.le_of_ble_eq_true rfl) [0, 1] [2, 3, 4, 5, 6, 7, 8, 9, 10] rfl rfl rfl rfl (by decide) [9, 10, 0, 1, 2, 3, 4, 5, 6, 7, 8] rfl (ws2 := fun _ => [(a 31, oX9 a (o_1.2 31)), (a 32, aI E 8 (hM 32)), (a 36, aI E 120 (hM 36)), (a 37, aI E 120 (hM 37)), (a 38, aI E 4096 (o_1.2 38)), (a 39, aI E 4096 (o_1.2 39)), (a 40, aI E 4096 (o_1.2 40)), (a 41, aI E 128 (o_1.2 41)), (a 42, aI E 98 (o_1.2 42)), (a 43, aI E 202 (o_1.2 43)), (a 44, aI E 4 (o_1.2 44))]) (fun _ => rfl) (fun _ => ?_)
    refine r.if_eq 41 (DX9_isMove 18 rfl) rfl hxt (fun _ hxt => ?_) (fun _ hxt => ?_)
    · refine r.iconst (v := (0 : Int32)) (DX9_isMove 21 rfl) rfl ?_
      cases hxt
      exact hret _ _ _ _ (DX9_isMove 22 rfl) rfl ⟨(), rfl, rfl⟩
    refine r.iconst (v := (1 : Int32)) (DX9_isMove 19 rfl) rfl ?_
    refine r.goto 42 (DX9_isMove 20 rfl) rfl ?_
    cases hxt
    exact hret _ _ _ _ (DX9_isMove 22 rfl) rfl ⟨(), rfl, rfl⟩
  refine r.aload_n 0 (DX9_isMove 8 rfl) rfl ?_
  refine r.iload_n 1 (DX9_isMove 9 rfl) rfl ?_
  refine r.iload_n 2 (DX9_isMove 10 rfl) rfl ?_
  obtain ⟨o_3, ho_3, hxt⟩ := xbd hxt
  refine r.callVI 0 rfl rfl (t_X9_isHunterMove E a x1 x2 (mgs hM [31] o_1.2) ho_3) g_X9_174 rfl (DX9_isMove 11 rfl) rfl ⟨(Nat.le_of_ble_eq_true rfl), (Nat.le_of_ble_eq_true rfl)⟩ ⟨(Nat.le_of_ble_eq_true rfl), (Nat.le_of_ble_eq_true rfl)⟩ (Nat.le_of_ble_eq_true rfl) [0, 1] [2, 3, 4, 5, 6, 7, 8, 9, 10] rfl rfl rfl rfl (by decide) [9, 10, 0, 1, 2, 3, 4, 5, 6, 7, 8] rfl (ws2 := fun _ => [(a 31, oX9 a (o_1.2 31)), (a 32, aI E 8 (hM 32)), (a 36, aI E 120 (hM 36)), (a 37, aI E 120 (hM 37)), (a 38, aI E 4096 (o_1.2 38)), (a 39, aI E 4096 (o_1.2 39)), (a 40, aI E 4096 (o_1.2 40)), (a 41, aI E 128 (o_1.2 41)), (a 42, aI E 98 (o_1.2 42)), (a 43, aI E 202 (o_1.2 43)), (a 44, aI E 4 (o_1.2 44))]) (fun _ => rfl) (fun _ => ?_)
  refine r.if_eq 41 (DX9_isMove 12 rfl) rfl hxt (fun _ hxt => ?_) (fun _ hxt => ?_)
  · refine r.iconst (v := (0 : Int32)) (DX9_isMove 21 rfl) rfl ?_
    cases hxt
    exact hret _ _ _ _ (DX9_isMove 22 rfl) rfl ⟨(), rfl, rfl⟩
  refine r.goto 37 (DX9_isMove 13 rfl) rfl ?_
  refine r.iconst (v := (1 : Int32)) (DX9_isMove 19 rfl) rfl ?_
  refine r.goto 42 (DX9_isMove 20 rfl) rfl ?_
  cases hxt
  exact hret _ _ _ _ (DX9_isMove 22 rfl) rfl ⟨(), rfl, rfl⟩
set_option maxRecDepth 100000 in
set_option maxHeartbeats 4000000 in
theorem t_X9_make (E : xE) (a : Nat → Nat) (x1 : Int32) (x2 : Int32) (hM : Mem) {o : Int32 × Mem} (hxt : xt_X9_make x1 x2 hM = some o) : xMI (S := Unit) E yX9_make cX9_make 4 .int 10 0 0 [.ref (a 31), .int x1, .int x2] [(a 31, oX9 a (hM 31)), (a 32, aI E 8 (hM 32)), (a 36, aI E 120 (hM 36)), (a 37, aI E 120 (hM 37)), (a 38, aI E 4096 (hM 38)), (a 39, aI E 4096 (hM 39)), (a 40, aI E 4096 (hM 40)), (a 41, aI E 128 (hM 41)), (a 42, aI E 98 (hM 42)), (a 43, aI E 202 (hM 43)), (a 44, aI E 4 (hM 44))] (fun _ => o.1) (fun _ => [(a 31, oX9 a (o.2 31)), (a 32, aI E 8 (o.2 32)), (a 36, aI E 120 (hM 36)), (a 37, aI E 120 (hM 37)), (a 38, aI E 4096 (o.2 38)), (a 39, aI E 4096 (o.2 39)), (a 40, aI E 4096 (o.2 40)), (a 41, aI E 128 (o.2 41)), (a 42, aI E 98 (o.2 42)), (a 43, aI E 202 (o.2 43)), (a 44, aI E 4 (o.2 44))]) := by
  refine xMI.of (own := RX9) (lo0 := [(0, .ref (a 31)), (1, .int x1), (2, .int x2)]) (by decide +kernel) rfl rfl (Nat.le_of_ble_eq_true rfl) (fun V r hret => ?_)
  unfold xt_X9_make at hxt
  refine r.aload_n 0 (DX9_make 0 rfl) rfl ?_
  refine r.get (v := .ref (a 32)) kX9 f_X9_7 rfl 0 rfl rfl (DX9_make 1 rfl) ?_
  refine r.iconst (v := (4 : Int32)) (DX9_make 2 rfl) rfl ?_
  obtain ⟨hin, hxt⟩ := xgd_some hxt
  refine r.iald 1 rfl hin (DX9_make 3 rfl) ?_
  refine r.iconst (v := (1 : Int32)) (DX9_make 4 rfl) rfl ?_
  refine r.icmp_ne 20 (DX9_make 5 rfl) rfl hxt (fun _ hxt => ?_) (fun _ hxt => ?_)
  · refine r.iload_n 1 (DX9_make 12 rfl) rfl ?_
    refine r.aload_n 0 (DX9_make 13 rfl) rfl ?_
    refine r.get (v := .ref (a 32)) kX9 f_X9_7 rfl 0 rfl rfl (DX9_make 14 rfl) ?_
    refine r.bipush (v := (6 : Int32)) (DX9_make 15 rfl) rfl ?_
    obtain ⟨hin, hxt⟩ := xgd_some hxt
    refine r.iald 1 rfl hin (DX9_make 16 rfl) ?_
    refine r.icmp_ne 41 (DX9_make 17 rfl) rfl hxt (fun _ hxt => ?_) (fun _ hxt => ?_)
    · refine r.aload_n 0 (DX9_make 23 rfl) rfl ?_
      refine r.get (v := .ref (a 32)) kX9 f_X9_7 rfl 0 rfl rfl (DX9_make 24 rfl) ?_
      refine r.bipush (v := (6 : Int32)) (DX9_make 25 rfl) rfl ?_
      obtain ⟨hin, hxt⟩ := xgd_some hxt
      refine r.iald 1 rfl hin (DX9_make 26 rfl) ?_
      refine r.istore_n (lo' := [(3, .int ((hM 32) (6 : Int32).toNatClampNeg)), (0, .ref (a 31)), (1, .int x1), (2, .int x2)]) (DX9_make 27 rfl) (Nat.le_of_ble_eq_true rfl) rfl ?_
      refine r.aload_n 1 (DX9_make 28 rfl) rfl ?_
      refine r.get (v := .ref (a 32)) kX9 f_X9_7 rfl 0 rfl rfl (DX9_make 29 rfl) ?_
      refine r.bipush (v := (6 : Int32)) (DX9_make 30 rfl) rfl ?_
      refine r.iload_n 3 (DX9_make 31 rfl) rfl ?_
      refine r.iload_n 0 (DX9_make 32 rfl) rfl ?_
      obtain ⟨o_1, ho_1, hxt⟩ := xbd hxt
      refine r.callSI0 (t_X9_lesser E x2 ((hM 32) (6 : Int32).toNatClampNeg) ho_1) g_X9_82 rfl (DX9_make 33 rfl) rfl ⟨(Nat.le_of_ble_eq_true rfl), (Nat.le_of_ble_eq_true rfl)⟩ (Nat.le_of_ble_eq_true rfl) ?_
      obtain ⟨hin, hxt⟩ := xgd_some hxt
      refine r.iast (ws' := [(a 31, oX9 a (hM 31)), (a 32, aI E 8 (upd (hM 32) (6 : Int32).toNatClampNeg o_1)), (a 36, aI E 120 (hM 36)), (a 37, aI E 120 (hM 37)), (a 38, aI E 4096 (hM 38)), (a 39, aI E 4096 (hM 39)), (a 40, aI E 4096 (hM 40)), (a 41, aI E 128 (hM 41)), (a 42, aI E 98 (hM 42)), (a 43, aI E 202 (hM 43)), (a 44, aI E 4 (hM 44))]) 1 rfl hin rfl (DX9_make 34 rfl) ?_
      refine r.aload_n 1 (DX9_make 35 rfl) rfl ?_
      refine r.get (v := .ref (a 32)) kX9 f_X9_7 rfl 0 rfl rfl (DX9_make 36 rfl) ?_
      refine r.bipush (v := (7 : Int32)) (DX9_make 37 rfl) rfl ?_
      refine r.iload_n 3 (DX9_make 38 rfl) rfl ?_
      refine r.iload_n 0 (DX9_make 39 rfl) rfl ?_
      obtain ⟨o_2, ho_2, hxt⟩ := xbd hxt
      refine r.callSI0 (t_X9_greater E x2 ((hM 32) (6 : Int32).toNatClampNeg) ho_2) g_X9_85 rfl (DX9_make 40 rfl) rfl ⟨(Nat.le_of_ble_eq_true rfl), (Nat.le_of_ble_eq_true rfl)⟩ (Nat.le_of_ble_eq_true rfl) ?_
      obtain ⟨hin, hxt⟩ := xgd_some hxt
      refine r.iast (ws' := [(a 31, oX9 a (hM 31)), (a 32, aI E 8 (upd (upd (hM 32) (6 : Int32).toNatClampNeg o_1) (7 : Int32).toNatClampNeg o_2)), (a 36, aI E 120 (hM 36)), (a 37, aI E 120 (hM 37)), (a 38, aI E 4096 (hM 38)), (a 39, aI E 4096 (hM 39)), (a 40, aI E 4096 (hM 40)), (a 41, aI E 128 (hM 41)), (a 42, aI E 98 (hM 42)), (a 43, aI E 202 (hM 43)), (a 44, aI E 4 (hM 44))]) 1 rfl hin rfl (DX9_make 41 rfl) ?_
      refine r.aload_n 1 (DX9_make 42 rfl) rfl ?_
      refine r.get (v := .ref (a 32)) kX9 f_X9_7 rfl 0 rfl rfl (DX9_make 43 rfl) ?_
      refine r.iconst (v := (4 : Int32)) (DX9_make 44 rfl) rfl ?_
      refine r.iconst (v := (1 : Int32)) (DX9_make 45 rfl) rfl ?_
      refine r.aload_n 1 (DX9_make 46 rfl) rfl ?_
      refine r.get (v := .ref (a 32)) kX9 f_X9_7 rfl 0 rfl rfl (DX9_make 47 rfl) ?_
      refine r.iconst (v := (4 : Int32)) (DX9_make 48 rfl) rfl ?_
      obtain ⟨hin, hxt⟩ := xgd_some hxt
      refine r.iald 1 rfl hin (DX9_make 49 rfl) ?_
      refine r.isub (DX9_make 50 rfl) ?_
      obtain ⟨hin, hxt⟩ := xgd_some hxt
      refine r.iast (ws' := [(a 31, oX9 a (hM 31)), (a 32, aI E 8 (upd (upd (upd (hM 32) (6 : Int32).toNatClampNeg o_1) (7 : Int32).toNatClampNeg o_2) (4 : Int32).toNatClampNeg ((1 : Int32) - ((upd (upd (hM 32) (6 : Int32).toNatClampNeg o_1) (7 : Int32).toNatClampNeg o_2) (4 : Int32).toNatClampNeg)))), (a 36, aI E 120 (hM 36)), (a 37, aI E 120 (hM 37)), (a 38, aI E 4096 (hM 38)), (a 39, aI E 4096 (hM 39)), (a 40, aI E 4096 (hM 40)), (a 41, aI E 128 (hM 41)), (a 42, aI E 98 (hM 42)), (a 43, aI E 202 (hM 43)), (a 44, aI E 4 (hM 44))]) 1 rfl hin rfl (DX9_make 51 rfl) ?_
      refine r.aload_n 1 (DX9_make 52 rfl) rfl ?_
      obtain ⟨o_3, ho_3, hxt⟩ := xbd hxt
      refine r.callVI 0 rfl rfl (t_X9_isCaught E a (mset hM 32 (upd (upd (upd (hM 32) (6 : Int32).toNatClampNeg o_1) (7 : Int32).toNatClampNeg o_2) (4 : Int32).toNatClampNeg ((1 : Int32) - ((upd (upd (hM 32) (6 : Int32).toNatClampNeg o_1) (7 : Int32).toNatClampNeg o_2) (4 : Int32).toNatClampNeg)))) ho_3) g_X9_171 rfl (DX9_make 53 rfl) rfl ⟨(Nat.le_of_ble_eq_true rfl), (Nat.le_of_ble_eq_true rfl)⟩ ⟨(Nat.le_of_ble_eq_true rfl), (Nat.le_of_ble_eq_true rfl)⟩ (Nat.le_of_ble_eq_true rfl) [0, 1, 2, 3, 4, 5, 6, 7, 8, 9, 10] [] rfl rfl rfl rfl (by decide) [0, 1, 2, 3, 4, 5, 6, 7, 8, 9, 10] rfl (ws2 := fun _ => [(a 31, oX9 a (o_3.2 31)), (a 32, aI E 8 (upd (upd (upd (hM 32) (6 : Int32).toNatClampNeg o_1) (7 : Int32).toNatClampNeg o_2) (4 : Int32).toNatClampNeg ((1 : Int32) - ((upd (upd (hM 32) (6 : Int32).toNatClampNeg o_1) (7 : Int32).toNatClampNeg o_2) (4 : Int32).toNatClampNeg)))), (a 36, aI E 120 (hM 36)), (a 37, aI E 120 (hM 37)), (a 38, aI E 4096 (o_3.2 38)), (a 39, aI E 4096 (o_3.2 39)), (a 40, aI E 4096 (o_3.2 40)), (a 41, aI E 128 (o_3.2 41)), (a 42, aI E 98 (o_3.2 42)), (a 43, aI E 202 (o_3.2 43)), (a 44, aI E 4 (o_3.2 44))]) (fun _ => rfl) (fun _ => ?_)
      refine r.if_eq 98 (DX9_make 54 rfl) rfl hxt (fun _ hxt => ?_) (fun _ hxt => ?_)
      · refine r.iconst (v := (0 : Int32)) (DX9_make 57 rfl) rfl ?_
        cases hxt
        exact hret _ _ _ _ (DX9_make 58 rfl) rfl ⟨(), rfl, rfl⟩
      refine r.iconst (v := (1 : Int32)) (DX9_make 55 rfl) rfl ?_
      refine r.goto 99 (DX9_make 56 rfl) rfl ?_
      cases hxt
      exact hret _ _ _ _ (DX9_make 58 rfl) rfl ⟨(), rfl, rfl⟩
    refine r.aload_n 0 (DX9_make 18 rfl) rfl ?_
    refine r.get (v := .ref (a 32)) kX9 f_X9_7 rfl 0 rfl rfl (DX9_make 19 rfl) ?_
    refine r.bipush (v := (7 : Int32)) (DX9_make 20 rfl) rfl ?_
    obtain ⟨hin, hxt⟩ := xgd_some hxt
    refine r.iald 1 rfl hin (DX9_make 21 rfl) ?_
    refine r.goto 48 (DX9_make 22 rfl) rfl ?_
    refine r.istore_n (lo' := [(3, .int ((hM 32) (7 : Int32).toNatClampNeg)), (0, .ref (a 31)), (1, .int x1), (2, .int x2)]) (DX9_make 27 rfl) (Nat.le_of_ble_eq_true rfl) rfl ?_
    refine r.aload_n 1 (DX9_make 28 rfl) rfl ?_
    refine r.get (v := .ref (a 32)) kX9 f_X9_7 rfl 0 rfl rfl (DX9_make 29 rfl) ?_
    refine r.bipush (v := (6 : Int32)) (DX9_make 30 rfl) rfl ?_
    refine r.iload_n 3 (DX9_make 31 rfl) rfl ?_
    refine r.iload_n 0 (DX9_make 32 rfl) rfl ?_
    obtain ⟨o_4, ho_4, hxt⟩ := xbd hxt
    refine r.callSI0 (t_X9_lesser E x2 ((hM 32) (7 : Int32).toNatClampNeg) ho_4) g_X9_82 rfl (DX9_make 33 rfl) rfl ⟨(Nat.le_of_ble_eq_true rfl), (Nat.le_of_ble_eq_true rfl)⟩ (Nat.le_of_ble_eq_true rfl) ?_
    obtain ⟨hin, hxt⟩ := xgd_some hxt
    refine r.iast (ws' := [(a 31, oX9 a (hM 31)), (a 32, aI E 8 (upd (hM 32) (6 : Int32).toNatClampNeg o_4)), (a 36, aI E 120 (hM 36)), (a 37, aI E 120 (hM 37)), (a 38, aI E 4096 (hM 38)), (a 39, aI E 4096 (hM 39)), (a 40, aI E 4096 (hM 40)), (a 41, aI E 128 (hM 41)), (a 42, aI E 98 (hM 42)), (a 43, aI E 202 (hM 43)), (a 44, aI E 4 (hM 44))]) 1 rfl hin rfl (DX9_make 34 rfl) ?_
    refine r.aload_n 1 (DX9_make 35 rfl) rfl ?_
    refine r.get (v := .ref (a 32)) kX9 f_X9_7 rfl 0 rfl rfl (DX9_make 36 rfl) ?_
    refine r.bipush (v := (7 : Int32)) (DX9_make 37 rfl) rfl ?_
    refine r.iload_n 3 (DX9_make 38 rfl) rfl ?_
    refine r.iload_n 0 (DX9_make 39 rfl) rfl ?_
    obtain ⟨o_5, ho_5, hxt⟩ := xbd hxt
    refine r.callSI0 (t_X9_greater E x2 ((hM 32) (7 : Int32).toNatClampNeg) ho_5) g_X9_85 rfl (DX9_make 40 rfl) rfl ⟨(Nat.le_of_ble_eq_true rfl), (Nat.le_of_ble_eq_true rfl)⟩ (Nat.le_of_ble_eq_true rfl) ?_
    obtain ⟨hin, hxt⟩ := xgd_some hxt
    refine r.iast (ws' := [(a 31, oX9 a (hM 31)), (a 32, aI E 8 (upd (upd (hM 32) (6 : Int32).toNatClampNeg o_4) (7 : Int32).toNatClampNeg o_5)), (a 36, aI E 120 (hM 36)), (a 37, aI E 120 (hM 37)), (a 38, aI E 4096 (hM 38)), (a 39, aI E 4096 (hM 39)), (a 40, aI E 4096 (hM 40)), (a 41, aI E 128 (hM 41)), (a 42, aI E 98 (hM 42)), (a 43, aI E 202 (hM 43)), (a 44, aI E 4 (hM 44))]) 1 rfl hin rfl (DX9_make 41 rfl) ?_
    refine r.aload_n 1 (DX9_make 42 rfl) rfl ?_
    refine r.get (v := .ref (a 32)) kX9 f_X9_7 rfl 0 rfl rfl (DX9_make 43 rfl) ?_
    refine r.iconst (v := (4 : Int32)) (DX9_make 44 rfl) rfl ?_
    refine r.iconst (v := (1 : Int32)) (DX9_make 45 rfl) rfl ?_
    refine r.aload_n 1 (DX9_make 46 rfl) rfl ?_
    refine r.get (v := .ref (a 32)) kX9 f_X9_7 rfl 0 rfl rfl (DX9_make 47 rfl) ?_
    refine r.iconst (v := (4 : Int32)) (DX9_make 48 rfl) rfl ?_
    obtain ⟨hin, hxt⟩ := xgd_some hxt
    refine r.iald 1 rfl hin (DX9_make 49 rfl) ?_
    refine r.isub (DX9_make 50 rfl) ?_
    obtain ⟨hin, hxt⟩ := xgd_some hxt
    refine r.iast (ws' := [(a 31, oX9 a (hM 31)), (a 32, aI E 8 (upd (upd (upd (hM 32) (6 : Int32).toNatClampNeg o_4) (7 : Int32).toNatClampNeg o_5) (4 : Int32).toNatClampNeg ((1 : Int32) - ((upd (upd (hM 32) (6 : Int32).toNatClampNeg o_4) (7 : Int32).toNatClampNeg o_5) (4 : Int32).toNatClampNeg)))), (a 36, aI E 120 (hM 36)), (a 37, aI E 120 (hM 37)), (a 38, aI E 4096 (hM 38)), (a 39, aI E 4096 (hM 39)), (a 40, aI E 4096 (hM 40)), (a 41, aI E 128 (hM 41)), (a 42, aI E 98 (hM 42)), (a 43, aI E 202 (hM 43)), (a 44, aI E 4 (hM 44))]) 1 rfl hin rfl (DX9_make 51 rfl) ?_
    refine r.aload_n 1 (DX9_make 52 rfl) rfl ?_
    obtain ⟨o_6, ho_6, hxt⟩ := xbd hxt
    refine r.callVI 0 rfl rfl (t_X9_isCaught E a (mset hM 32 (upd (upd (upd (hM 32) (6 : Int32).toNatClampNeg o_4) (7 : Int32).toNatClampNeg o_5) (4 : Int32).toNatClampNeg ((1 : Int32) - ((upd (upd (hM 32) (6 : Int32).toNatClampNeg o_4) (7 : Int32).toNatClampNeg o_5) (4 : Int32).toNatClampNeg)))) ho_6) g_X9_171 rfl (DX9_make 53 rfl) rfl ⟨(Nat.le_of_ble_eq_true rfl), (Nat.le_of_ble_eq_true rfl)⟩ ⟨(Nat.le_of_ble_eq_true rfl), (Nat.le_of_ble_eq_true rfl)⟩ (Nat.le_of_ble_eq_true rfl) [0, 1, 2, 3, 4, 5, 6, 7, 8, 9, 10] [] rfl rfl rfl rfl (by decide) [0, 1, 2, 3, 4, 5, 6, 7, 8, 9, 10] rfl (ws2 := fun _ => [(a 31, oX9 a (o_6.2 31)), (a 32, aI E 8 (upd (upd (upd (hM 32) (6 : Int32).toNatClampNeg o_4) (7 : Int32).toNatClampNeg o_5) (4 : Int32).toNatClampNeg ((1 : Int32) - ((upd (upd (hM 32) (6 : Int32).toNatClampNeg o_4) (7 : Int32).toNatClampNeg o_5) (4 : Int32).toNatClampNeg)))), (a 36, aI E 120 (hM 36)), (a 37, aI E 120 (hM 37)), (a 38, aI E 4096 (o_6.2 38)), (a 39, aI E 4096 (o_6.2 39)), (a 40, aI E 4096 (o_6.2 40)), (a 41, aI E 128 (o_6.2 41)), (a 42, aI E 98 (o_6.2 42)), (a 43, aI E 202 (o_6.2 43)), (a 44, aI E 4 (o_6.2 44))]) (fun _ => rfl) (fun _ => ?_)
    refine r.if_eq 98 (DX9_make 54 rfl) rfl hxt (fun _ hxt => ?_) (fun _ hxt => ?_)
    · refine r.iconst (v := (0 : Int32)) (DX9_make 57 rfl) rfl ?_
      cases hxt
      exact hret _ _ _ _ (DX9_make 58 rfl) rfl ⟨(), rfl, rfl⟩
    refine r.iconst (v := (1 : Int32)) (DX9_make 55 rfl) rfl ?_
    refine r.goto 99 (DX9_make 56 rfl) rfl ?_
    cases hxt
    exact hret _ _ _ _ (DX9_make 58 rfl) rfl ⟨(), rfl, rfl⟩
  refine r.aload_n 0 (DX9_make 6 rfl) rfl ?_
  refine r.get (v := .ref (a 32)) kX9 f_X9_7 rfl 0 rfl rfl (DX9_make 7 rfl) ?_
  refine r.iconst (v := (5 : Int32)) (DX9_make 8 rfl) rfl ?_
  refine r.iload_n 2 (DX9_make 9 rfl) rfl ?_
  obtain ⟨hin, hxt⟩ := xgd_some hxt
  refine r.iast (ws' := [(a 31, oX9 a (hM 31)), (a 32, aI E 8 (upd (hM 32) (5 : Int32).toNatClampNeg x2)), (a 36, aI E 120 (hM 36)), (a 37, aI E 120 (hM 37)), (a 38, aI E 4096 (hM 38)), (a 39, aI E 4096 (hM 39)), (a 40, aI E 4096 (hM 40)), (a 41, aI E 128 (hM 41)), (a 42, aI E 98 (hM 42)), (a 43, aI E 202 (hM 43)), (a 44, aI E 4 (hM 44))]) 1 rfl hin rfl (DX9_make 10 rfl) ?_
  refine r.goto 73 (DX9_make 11 rfl) rfl ?_
  refine r.aload_n 0 (DX9_make 42 rfl) rfl ?_
  refine r.get (v := .ref (a 32)) kX9 f_X9_7 rfl 0 rfl rfl (DX9_make 43 rfl) ?_
  refine r.iconst (v := (4 : Int32)) (DX9_make 44 rfl) rfl ?_
  refine r.iconst (v := (1 : Int32)) (DX9_make 45 rfl) rfl ?_
  refine r.aload_n 0 (DX9_make 46 rfl) rfl ?_
  refine r.get (v := .ref (a 32)) kX9 f_X9_7 rfl 0 rfl rfl (DX9_make 47 rfl) ?_
  refine r.iconst (v := (4 : Int32)) (DX9_make 48 rfl) rfl ?_
  obtain ⟨hin, hxt⟩ := xgd_some hxt
  refine r.iald 1 rfl hin (DX9_make 49 rfl) ?_
  refine r.isub (DX9_make 50 rfl) ?_
  obtain ⟨hin, hxt⟩ := xgd_some hxt
  refine r.iast (ws' := [(a 31, oX9 a (hM 31)), (a 32, aI E 8 (upd (upd (hM 32) (5 : Int32).toNatClampNeg x2) (4 : Int32).toNatClampNeg ((1 : Int32) - ((upd (hM 32) (5 : Int32).toNatClampNeg x2) (4 : Int32).toNatClampNeg)))), (a 36, aI E 120 (hM 36)), (a 37, aI E 120 (hM 37)), (a 38, aI E 4096 (hM 38)), (a 39, aI E 4096 (hM 39)), (a 40, aI E 4096 (hM 40)), (a 41, aI E 128 (hM 41)), (a 42, aI E 98 (hM 42)), (a 43, aI E 202 (hM 43)), (a 44, aI E 4 (hM 44))]) 1 rfl hin rfl (DX9_make 51 rfl) ?_
  refine r.aload_n 0 (DX9_make 52 rfl) rfl ?_
  obtain ⟨o_7, ho_7, hxt⟩ := xbd hxt
  refine r.callVI 0 rfl rfl (t_X9_isCaught E a (mset hM 32 (upd (upd (hM 32) (5 : Int32).toNatClampNeg x2) (4 : Int32).toNatClampNeg ((1 : Int32) - ((upd (hM 32) (5 : Int32).toNatClampNeg x2) (4 : Int32).toNatClampNeg)))) ho_7) g_X9_171 rfl (DX9_make 53 rfl) rfl ⟨(Nat.le_of_ble_eq_true rfl), (Nat.le_of_ble_eq_true rfl)⟩ ⟨(Nat.le_of_ble_eq_true rfl), (Nat.le_of_ble_eq_true rfl)⟩ (Nat.le_of_ble_eq_true rfl) [0, 1, 2, 3, 4, 5, 6, 7, 8, 9, 10] [] rfl rfl rfl rfl (by decide) [0, 1, 2, 3, 4, 5, 6, 7, 8, 9, 10] rfl (ws2 := fun _ => [(a 31, oX9 a (o_7.2 31)), (a 32, aI E 8 (upd (upd (hM 32) (5 : Int32).toNatClampNeg x2) (4 : Int32).toNatClampNeg ((1 : Int32) - ((upd (hM 32) (5 : Int32).toNatClampNeg x2) (4 : Int32).toNatClampNeg)))), (a 36, aI E 120 (hM 36)), (a 37, aI E 120 (hM 37)), (a 38, aI E 4096 (o_7.2 38)), (a 39, aI E 4096 (o_7.2 39)), (a 40, aI E 4096 (o_7.2 40)), (a 41, aI E 128 (o_7.2 41)), (a 42, aI E 98 (o_7.2 42)), (a 43, aI E 202 (o_7.2 43)), (a 44, aI E 4 (o_7.2 44))]) (fun _ => rfl) (fun _ => ?_)
  refine r.if_eq 98 (DX9_make 54 rfl) rfl hxt (fun _ hxt => ?_) (fun _ hxt => ?_)
  · refine r.iconst (v := (0 : Int32)) (DX9_make 57 rfl) rfl ?_
    cases hxt
    exact hret _ _ _ _ (DX9_make 58 rfl) rfl ⟨(), rfl, rfl⟩
  refine r.iconst (v := (1 : Int32)) (DX9_make 55 rfl) rfl ?_
  refine r.goto 99 (DX9_make 56 rfl) rfl ?_
  cases hxt
  exact hret _ _ _ _ (DX9_make 58 rfl) rfl ⟨(), rfl, rfl⟩
set_option maxRecDepth 100000 in
set_option maxHeartbeats 4000000 in
theorem t_X9_move (E : xE) (a : Nat → Nat) (x1 : Int32) (x2 : Int32) (hM : Mem) {o : Int32 × Mem} (hxt : xt_X9_move x1 x2 hM = some o) : xMI (S := Unit) E yX9_move cX9_move 3 .int 11 0 0 [.ref (a 31), .int x1, .int x2] [(a 31, oX9 a (hM 31)), (a 32, aI E 8 (hM 32)), (a 33, aI E 48 (hM 33)), (a 36, aI E 120 (hM 36)), (a 37, aI E 120 (hM 37)), (a 38, aI E 4096 (hM 38)), (a 39, aI E 4096 (hM 39)), (a 40, aI E 4096 (hM 40)), (a 41, aI E 128 (hM 41)), (a 42, aI E 98 (hM 42)), (a 43, aI E 202 (hM 43)), (a 44, aI E 4 (hM 44))] (fun _ => o.1) (fun _ => [(a 31, oX9 a (o.2 31)), (a 32, aI E 8 (o.2 32)), (a 33, aI E 48 (o.2 33)), (a 36, aI E 120 (hM 36)), (a 37, aI E 120 (hM 37)), (a 38, aI E 4096 (o.2 38)), (a 39, aI E 4096 (o.2 39)), (a 40, aI E 4096 (o.2 40)), (a 41, aI E 128 (o.2 41)), (a 42, aI E 98 (o.2 42)), (a 43, aI E 202 (o.2 43)), (a 44, aI E 4 (o.2 44))]) := by
  refine xMI.of (own := RX9) (lo0 := [(0, .ref (a 31)), (1, .int x1), (2, .int x2)]) (by decide +kernel) rfl rfl (Nat.le_of_ble_eq_true rfl) (fun V r hret => ?_)
  unfold xt_X9_move at hxt
  refine r.iload_n 1 (DX9_move 0 rfl) rfl ?_
  obtain ⟨o_1, ho_1, hxt⟩ := xbd hxt
  refine r.callSI0 (t_X9_isPlace E x1 ho_1) g_X9_195 rfl (DX9_move 1 rfl) rfl ⟨(Nat.le_of_ble_eq_true rfl), (Nat.le_of_ble_eq_true rfl)⟩ (Nat.le_of_ble_eq_true rfl) ?_
  refine r.if_eq 14 (DX9_move 2 rfl) rfl hxt (fun _ hxt => ?_) (fun _ hxt => ?_)
  · refine r.iconst (v := (-1 : Int32)) (DX9_move 6 rfl) rfl ?_
    cases hxt
    exact hret _ _ _ _ (DX9_move 7 rfl) rfl ⟨(), rfl, rfl⟩
  refine r.iload_n 2 (DX9_move 3 rfl) rfl ?_
  obtain ⟨o_2, ho_2, hxt⟩ := xbd hxt
  refine r.callSI0 (t_X9_isPlace E x2 ho_2) g_X9_195 rfl (DX9_move 4 rfl) rfl ⟨(Nat.le_of_ble_eq_true rfl), (Nat.le_of_ble_eq_true rfl)⟩ (Nat.le_of_ble_eq_true rfl) ?_
  refine r.if_ne 16 (DX9_move 5 rfl) rfl hxt (fun _ hxt => ?_) (fun _ hxt => ?_)
  · refine r.aload_n 0 (DX9_move 8 rfl) rfl ?_
    refine r.iload_n 1 (DX9_move 9 rfl) rfl ?_
    refine r.iload_n 2 (DX9_move 10 rfl) rfl ?_
    obtain ⟨o_3, ho_3, hxt⟩ := xbd hxt
    refine r.callVI 0 rfl rfl (t_X9_isMove E a x1 x2 hM ho_3) g_X9_186 rfl (DX9_move 11 rfl) rfl ⟨(Nat.le_of_ble_eq_true rfl), (Nat.le_of_ble_eq_true rfl)⟩ ⟨(Nat.le_of_ble_eq_true rfl), (Nat.le_of_ble_eq_true rfl)⟩ (Nat.le_of_ble_eq_true rfl) [0, 1, 3, 4, 5, 6, 7, 8, 9, 10, 11] [2] rfl rfl rfl rfl (by decide) [1, 2, 0, 3, 4, 5, 6, 7, 8, 9, 10, 11] rfl (ws2 := fun _ => [(a 31, oX9 a (o_3.2 31)), (a 32, aI E 8 (hM 32)), (a 33, aI E 48 (hM 33)), (a 36, aI E 120 (hM 36)), (a 37, aI E 120 (hM 37)), (a 38, aI E 4096 (o_3.2 38)), (a 39, aI E 4096 (o_3.2 39)), (a 40, aI E 4096 (o_3.2 40)), (a 41, aI E 128 (o_3.2 41)), (a 42, aI E 98 (o_3.2 42)), (a 43, aI E 202 (o_3.2 43)), (a 44, aI E 4 (o_3.2 44))]) (fun _ => rfl) (fun _ => ?_)
    refine r.if_ne 28 (DX9_move 12 rfl) rfl hxt (fun _ hxt => ?_) (fun _ hxt => ?_)
    · refine r.aload_n 0 (DX9_move 15 rfl) rfl ?_
      obtain ⟨o_4, ho_4, hxt⟩ := xbd hxt
      refine r.callVV 0 rfl rfl (t_X9_keep E a (mgs hM [31] o_3.2) ho_4) g_X9_192 rfl (DX9_move 16 rfl) rfl ⟨(Nat.le_of_ble_eq_true rfl), (Nat.le_of_ble_eq_true rfl)⟩ ⟨(Nat.le_of_ble_eq_true rfl), (Nat.le_of_ble_eq_true rfl)⟩ (Nat.le_of_ble_eq_true rfl) [0, 1, 2] [3, 4, 5, 6, 7, 8, 9, 10, 11] rfl rfl rfl rfl (by decide) [9, 10, 11, 0, 1, 2, 3, 4, 5, 6, 7, 8] rfl (ws2 := fun _ => [(a 31, oX9 a (o_4 31)), (a 32, aI E 8 (hM 32)), (a 33, aI E 48 (o_4 33)), (a 36, aI E 120 (hM 36)), (a 37, aI E 120 (hM 37)), (a 38, aI E 4096 (o_3.2 38)), (a 39, aI E 4096 (o_3.2 39)), (a 40, aI E 4096 (o_3.2 40)), (a 41, aI E 128 (o_3.2 41)), (a 42, aI E 98 (o_3.2 42)), (a 43, aI E 202 (o_3.2 43)), (a 44, aI E 4 (o_3.2 44))]) (fun _ => rfl) (fun _ => ?_)
      refine r.aload_n 0 (DX9_move 17 rfl) rfl ?_
      refine r.iload_n 1 (DX9_move 18 rfl) rfl ?_
      refine r.iload_n 2 (DX9_move 19 rfl) rfl ?_
      obtain ⟨o_5, ho_5, hxt⟩ := xbd hxt
      refine r.callVI 0 rfl rfl (t_X9_make E a x1 x2 (mgs (mgs hM [31] o_4) [38, 39, 40, 41, 42, 43, 44] o_3.2) ho_5) g_X9_211 rfl (DX9_move 20 rfl) rfl ⟨(Nat.le_of_ble_eq_true rfl), (Nat.le_of_ble_eq_true rfl)⟩ ⟨(Nat.le_of_ble_eq_true rfl), (Nat.le_of_ble_eq_true rfl)⟩ (Nat.le_of_ble_eq_true rfl) [0, 1, 3, 4, 5, 6, 7, 8, 9, 10, 11] [2] rfl rfl rfl rfl (by decide) [1, 2, 0, 3, 4, 5, 6, 7, 8, 9, 10, 11] rfl (ws2 := fun _ => [(a 31, oX9 a (o_5.2 31)), (a 32, aI E 8 (o_5.2 32)), (a 33, aI E 48 (o_4 33)), (a 36, aI E 120 (hM 36)), (a 37, aI E 120 (hM 37)), (a 38, aI E 4096 (o_5.2 38)), (a 39, aI E 4096 (o_5.2 39)), (a 40, aI E 4096 (o_5.2 40)), (a 41, aI E 128 (o_5.2 41)), (a 42, aI E 98 (o_5.2 42)), (a 43, aI E 202 (o_5.2 43)), (a 44, aI E 4 (o_5.2 44))]) (fun _ => rfl) (fun _ => ?_)
      cases hxt
      exact hret _ _ _ _ (DX9_move 21 rfl) rfl ⟨(), rfl, rfl⟩
    refine r.bipush (v := (-5 : Int32)) (DX9_move 13 rfl) rfl ?_
    cases hxt
    exact hret _ _ _ _ (DX9_move 14 rfl) rfl ⟨(), rfl, rfl⟩
  refine r.iconst (v := (-1 : Int32)) (DX9_move 6 rfl) rfl ?_
  cases hxt
  exact hret _ _ _ _ (DX9_move 7 rfl) rfl ⟨(), rfl, rfl⟩
set_option maxRecDepth 100000 in
set_option maxHeartbeats 4000000 in
theorem t_X9_worth (E : xE) (a : Nat → Nat) (x1 : Int32) (x2 : Int32) (hM : Mem) {o : Int32} (hxt : xt_X9_worth x1 x2 hM = some o) : xMI (S := Unit) E yX9_worth cX9_worth 6 .int 3 0 0 [.ref (a 31), .int x1, .int x2] [(a 31, oX9 a (hM 31)), (a 32, aI E 8 (hM 32)), (a 38, aI E 4096 (hM 38))] (fun _ => o) (fun _ => [(a 31, oX9 a (hM 31)), (a 32, aI E 8 (hM 32)), (a 38, aI E 4096 (hM 38))]) := by
  refine xMI.of (own := RX9) (lo0 := [(0, .ref (a 31)), (1, .int x1), (2, .int x2)]) (by decide +kernel) rfl rfl (Nat.le_of_ble_eq_true rfl) (fun V r hret => ?_)
  unfold xt_X9_worth at hxt
  refine r.sipush (v := (1000 : Int32)) (DX9_worth_0 0 rfl) rfl ?_
  refine r.istore_n (lo' := [(3, .int (1000 : Int32)), (0, .ref (a 31)), (1, .int x1), (2, .int x2)]) (DX9_worth_0 1 rfl) (Nat.le_of_ble_eq_true rfl) rfl ?_
  refine r.aload_n 1 (DX9_worth_0 2 rfl) rfl ?_
  refine r.get (v := .ref (a 32)) kX9 f_X9_7 rfl 0 rfl rfl (DX9_worth_0 3 rfl) ?_
  refine r.iconst (v := (4 : Int32)) (DX9_worth_0 4 rfl) rfl ?_
  obtain ⟨hin, hxt⟩ := xgd_some hxt
  refine r.iald 1 rfl hin (DX9_worth_0 5 rfl) ?_
  refine r.iconst (v := (1 : Int32)) (DX9_worth_0 6 rfl) rfl ?_
  refine r.icmp_ne 54 (DX9_worth_0 7 rfl) rfl hxt (fun _ hxt => ?_) (fun _ hxt => ?_)
  · refine r.iload_n 3 (DX9_worth_0 31 rfl) rfl ?_
    refine r.aload_n 1 (DX9_worth_0 32 rfl) rfl ?_
    refine r.get (v := .ref (a 32)) kX9 f_X9_7 rfl 0 rfl rfl (DX9_worth_0 33 rfl) ?_
    refine r.iconst (v := (5 : Int32)) (DX9_worth_0 34 rfl) rfl ?_
    obtain ⟨hin, hxt⟩ := xgd_some hxt
    refine r.iald 1 rfl hin (DX9_worth_0 35 rfl) ?_
    refine r.icmp_ne 66 (DX9_worth_0 36 rfl) rfl hxt (fun _ hxt => ?_) (fun _ hxt => ?_)
    · refine r.iload_n 2 (DX9_worth_0 39 rfl) rfl ?_
      refine r.aload_n 1 (DX9_worth_0 40 rfl) rfl ?_
      refine r.get (v := .ref (a 32)) kX9 f_X9_7 rfl 0 rfl rfl (DX9_worth_0 41 rfl) ?_
      refine r.bipush (v := (6 : Int32)) (DX9_worth_0 42 rfl) rfl ?_
      obtain ⟨hin, hxt⟩ := xgd_some hxt
      refine r.iald 1 rfl hin (DX9_worth_0 43 rfl) ?_
      refine r.icmp_ne 87 (DX9_worth_0 44 rfl) rfl hxt (fun _ hxt => ?_) (fun _ hxt => ?_)
      · refine r.aload_n 1 (DX9_worth_0 50 rfl) rfl ?_
        refine r.get (v := .ref (a 32)) kX9 f_X9_7 rfl 0 rfl rfl (DX9_worth_0 51 rfl) ?_
        refine r.bipush (v := (6 : Int32)) (DX9_worth_0 52 rfl) rfl ?_
        obtain ⟨hin, hxt⟩ := xgd_some hxt
        refine r.iald 1 rfl hin (DX9_worth_0 53 rfl) ?_
        refine r.istore (lo' := [(4, .int ((hM 32) (6 : Int32).toNatClampNeg)), (3, .int (1000 : Int32)), (0, .ref (a 31)), (1, .int x1), (2, .int x2)]) (DX9_worth_0 54 rfl) (Nat.le_of_ble_eq_true rfl) rfl ?_
        refine r.aload_n 2 (DX9_worth_0 55 rfl) rfl ?_
        refine r.get (v := .ref (a 38)) kX9 f_X9_29 rfl 0 rfl rfl (DX9_worth_0 56 rfl) ?_
        refine r.iconst (v := (1 : Int32)) (DX9_worth_0 57 rfl) rfl ?_
        refine r.aload_n 2 (DX9_worth_0 58 rfl) rfl ?_
        refine r.get (v := .ref (a 32)) kX9 f_X9_7 rfl 0 rfl rfl (DX9_worth_0 59 rfl) ?_
        refine r.iconst (v := (5 : Int32)) (DX9_worth_1 0 rfl) rfl ?_
        obtain ⟨hin, hxt⟩ := xgd_some hxt
        refine r.iald 1 rfl hin (DX9_worth_1 1 rfl) ?_
        refine r.iload_n 4 (DX9_worth_1 2 rfl) rfl ?_
        refine r.iload 0 (DX9_worth_1 3 rfl) rfl ?_
        obtain ⟨o_1, ho_1, hxt⟩ := xbd hxt
        refine r.callSI0 (t_X9_numberOf E (1 : Int32) ((hM 32) (5 : Int32).toNatClampNeg) x2 ((hM 32) (6 : Int32).toNatClampNeg) ho_1) g_X9_99 rfl (DX9_worth_1 4 rfl) rfl ⟨(Nat.le_of_ble_eq_true rfl), (Nat.le_of_ble_eq_true rfl)⟩ (Nat.le_of_ble_eq_true rfl) ?_
        obtain ⟨hin, hxt⟩ := xgd_some hxt
        refine r.iald 2 rfl hin (DX9_worth_1 5 rfl) ?_
        refine r.istore (lo' := [(5, .int ((hM 38) o_1.toNatClampNeg)), (4, .int ((hM 32) (6 : Int32).toNatClampNeg)), (3, .int (1000 : Int32)), (0, .ref (a 31)), (1, .int x1), (2, .int x2)]) (DX9_worth_1 6 rfl) (Nat.le_of_ble_eq_true rfl) rfl ?_
        refine r.iload 0 (DX9_worth_1 7 rfl) rfl ?_
        refine r.if_ge 125 (DX9_worth_1 8 rfl) rfl hxt (fun _ hxt => ?_) (fun _ hxt => ?_)
        · refine r.iload 0 (DX9_worth_1 11 rfl) rfl ?_
          cases hxt
          exact hret _ _ _ _ (DX9_worth_1 12 rfl) rfl ⟨(), rfl, rfl⟩
        refine r.iload_n 2 (DX9_worth_1 9 rfl) rfl ?_
        refine r.goto 127 (DX9_worth_1 10 rfl) rfl ?_
        cases hxt
        exact hret _ _ _ _ (DX9_worth_1 12 rfl) rfl ⟨(), rfl, rfl⟩
      refine r.aload_n 1 (DX9_worth_0 45 rfl) rfl ?_
      refine r.get (v := .ref (a 32)) kX9 f_X9_7 rfl 0 rfl rfl (DX9_worth_0 46 rfl) ?_
      refine r.bipush (v := (7 : Int32)) (DX9_worth_0 47 rfl) rfl ?_
      obtain ⟨hin, hxt⟩ := xgd_some hxt
      refine r.iald 1 rfl hin (DX9_worth_0 48 rfl) ?_
      refine r.goto 94 (DX9_worth_0 49 rfl) rfl ?_
      refine r.istore (lo' := [(4, .int ((hM 32) (7 : Int32).toNatClampNeg)), (3, .int (1000 : Int32)), (0, .ref (a 31)), (1, .int x1), (2, .int x2)]) (DX9_worth_0 54 rfl) (Nat.le_of_ble_eq_true rfl) rfl ?_
      refine r.aload_n 2 (DX9_worth_0 55 rfl) rfl ?_
      refine r.get (v := .ref (a 38)) kX9 f_X9_29 rfl 0 rfl rfl (DX9_worth_0 56 rfl) ?_
      refine r.iconst (v := (1 : Int32)) (DX9_worth_0 57 rfl) rfl ?_
      refine r.aload_n 2 (DX9_worth_0 58 rfl) rfl ?_
      refine r.get (v := .ref (a 32)) kX9 f_X9_7 rfl 0 rfl rfl (DX9_worth_0 59 rfl) ?_
      refine r.iconst (v := (5 : Int32)) (DX9_worth_1 0 rfl) rfl ?_
      obtain ⟨hin, hxt⟩ := xgd_some hxt
      refine r.iald 1 rfl hin (DX9_worth_1 1 rfl) ?_
      refine r.iload_n 4 (DX9_worth_1 2 rfl) rfl ?_
      refine r.iload 0 (DX9_worth_1 3 rfl) rfl ?_
      obtain ⟨o_2, ho_2, hxt⟩ := xbd hxt
      refine r.callSI0 (t_X9_numberOf E (1 : Int32) ((hM 32) (5 : Int32).toNatClampNeg) x2 ((hM 32) (7 : Int32).toNatClampNeg) ho_2) g_X9_99 rfl (DX9_worth_1 4 rfl) rfl ⟨(Nat.le_of_ble_eq_true rfl), (Nat.le_of_ble_eq_true rfl)⟩ (Nat.le_of_ble_eq_true rfl) ?_
      obtain ⟨hin, hxt⟩ := xgd_some hxt
      refine r.iald 2 rfl hin (DX9_worth_1 5 rfl) ?_
      refine r.istore (lo' := [(5, .int ((hM 38) o_2.toNatClampNeg)), (4, .int ((hM 32) (7 : Int32).toNatClampNeg)), (3, .int (1000 : Int32)), (0, .ref (a 31)), (1, .int x1), (2, .int x2)]) (DX9_worth_1 6 rfl) (Nat.le_of_ble_eq_true rfl) rfl ?_
      refine r.iload 0 (DX9_worth_1 7 rfl) rfl ?_
      refine r.if_ge 125 (DX9_worth_1 8 rfl) rfl hxt (fun _ hxt => ?_) (fun _ hxt => ?_)
      · refine r.iload 0 (DX9_worth_1 11 rfl) rfl ?_
        cases hxt
        exact hret _ _ _ _ (DX9_worth_1 12 rfl) rfl ⟨(), rfl, rfl⟩
      refine r.iload_n 2 (DX9_worth_1 9 rfl) rfl ?_
      refine r.goto 127 (DX9_worth_1 10 rfl) rfl ?_
      cases hxt
      exact hret _ _ _ _ (DX9_worth_1 12 rfl) rfl ⟨(), rfl, rfl⟩
    refine r.iconst (v := (-1 : Int32)) (DX9_worth_0 37 rfl) rfl ?_
    cases hxt
    exact hret _ _ _ _ (DX9_worth_0 38 rfl) rfl ⟨(), rfl, rfl⟩
  refine r.aload_n 1 (DX9_worth_0 8 rfl) rfl ?_
  refine r.get (v := .ref (a 38)) kX9 f_X9_29 rfl 0 rfl rfl (DX9_worth_0 9 rfl) ?_
  refine r.iconst (v := (0 : Int32)) (DX9_worth_0 10 rfl) rfl ?_
  refine r.iload_n 3 (DX9_worth_0 11 rfl) rfl ?_
  refine r.aload_n 1 (DX9_worth_0 12 rfl) rfl ?_
  refine r.get (v := .ref (a 32)) kX9 f_X9_7 rfl 0 rfl rfl (DX9_worth_0 13 rfl) ?_
  refine r.bipush (v := (6 : Int32)) (DX9_worth_0 14 rfl) rfl ?_
  obtain ⟨hin, hxt⟩ := xgd_some hxt
  refine r.iald 1 rfl hin (DX9_worth_0 15 rfl) ?_
  refine r.aload_n 1 (DX9_worth_0 16 rfl) rfl ?_
  refine r.get (v := .ref (a 32)) kX9 f_X9_7 rfl 0 rfl rfl (DX9_worth_0 17 rfl) ?_
  refine r.bipush (v := (7 : Int32)) (DX9_worth_0 18 rfl) rfl ?_
  obtain ⟨hin, hxt⟩ := xgd_some hxt
  refine r.iald 1 rfl hin (DX9_worth_0 19 rfl) ?_
  obtain ⟨o_3, ho_3, hxt⟩ := xbd hxt
  refine r.callSI0 (t_X9_numberOf E (0 : Int32) x2 ((hM 32) (6 : Int32).toNatClampNeg) ((hM 32) (7 : Int32).toNatClampNeg) ho_3) g_X9_99 rfl (DX9_worth_0 20 rfl) rfl ⟨(Nat.le_of_ble_eq_true rfl), (Nat.le_of_ble_eq_true rfl)⟩ (Nat.le_of_ble_eq_true rfl) ?_
  obtain ⟨hin, hxt⟩ := xgd_some hxt
  refine r.iald 2 rfl hin (DX9_worth_0 21 rfl) ?_
  refine r.istore (lo' := [(4, .int ((hM 38) o_3.toNatClampNeg)), (3, .int (1000 : Int32)), (0, .ref (a 31)), (1, .int x1), (2, .int x2)]) (DX9_worth_0 22 rfl) (Nat.le_of_ble_eq_true rfl) rfl ?_
  refine r.iload 0 (DX9_worth_0 23 rfl) rfl ?_
  refine r.if_ge 50 (DX9_worth_0 24 rfl) rfl hxt (fun _ hxt => ?_) (fun _ hxt => ?_)
  · refine r.iload 0 (DX9_worth_0 28 rfl) rfl ?_
    refine r.ineg (DX9_worth_0 29 rfl) ?_
    cases hxt
    exact hret _ _ _ _ (DX9_worth_0 30 rfl) rfl ⟨(), rfl, rfl⟩
  refine r.iload_n 1 (DX9_worth_0 25 rfl) rfl ?_
  refine r.ineg (DX9_worth_0 26 rfl) ?_
  refine r.goto 53 (DX9_worth_0 27 rfl) rfl ?_
  cases hxt
  exact hret _ _ _ _ (DX9_worth_0 30 rfl) rfl ⟨(), rfl, rfl⟩
set_option maxRecDepth 100000 in
set_option maxHeartbeats 4000000 in
theorem l_X9_findBest_24 (E : xE) (a : Nat → Nat) (x2 : Int32) (hM : Mem) {V : xVT} (r : Rl E RX9 cX9_findBest (xR 11 0 0) 4 false V) {o : Int32 × Mem} {k : Int32 → Mem → Option (Int32 × Mem)} (hk : ∀ (v1 : Int32) (mM : Mem), k v1 mM = some o → V 0 0 84 [(0, .ref (a 31)), (1, .int v1), (2, .int x2)] [] [(a 31, oX9 a (mM 31)), (a 32, aI E 8 (hM 32)), (a 36, aI E 120 (hM 36)), (a 37, aI E 120 (hM 37)), (a 38, aI E 4096 (mM 38)), (a 39, aI E 4096 (mM 39)), (a 40, aI E 4096 (mM 40)), (a 41, aI E 128 (mM 41)), (a 42, aI E 98 (mM 42)), (a 43, aI E 202 (mM 43)), (a 44, aI E 4 (mM 44))]) : ∀ (n : Nat) (v1 : Int32) (v3 : Int32) (mM : Mem), xt_X9_findBest_l24 x2 hM k n v1 v3 mM = some o → V 0 0 24 [(0, .ref (a 31)), (1, .int v1), (2, .int x2), (3, .int v3)] [] [(a 31, oX9 a (mM 31)), (a 32, aI E 8 (hM 32)), (a 36, aI E 120 (hM 36)), (a 37, aI E 120 (hM 37)), (a 38, aI E 4096 (mM 38)), (a 39, aI E 4096 (mM 39)), (a 40, aI E 4096 (mM 40)), (a 41, aI E 128 (mM 41)), (a 42, aI E 98 (mM 42)), (a 43, aI E 202 (mM 43)), (a 44, aI E 4 (mM 44))] := by
  intro n
  induction n with
  | zero => intro v1 v3 mM hxt; exact xno hxt
  | succ n ih =>
    intro v1 v3 mM hxt
    rw [xt_X9_findBest_l24] at hxt
    refine r.iload_n 3 (DX9_findBest_0 15 rfl) rfl ?_
    refine r.bipush (v := (16 : Int32)) (DX9_findBest_0 16 rfl) rfl ?_
    refine r.icmp_ge 84 (DX9_findBest_0 17 rfl) rfl hxt (fun _ hxt => ?_) (fun _ hxt => ?_)
    · refine r.rel (lo' := [(0, .ref (a 31)), (1, .int v1), (2, .int x2)]) [0, 1, 2] rfl ?_
      exact hk v1 (mgs hM [31, 38, 39, 40, 41, 42, 43, 44] mM) hxt
    refine r.iload_n 2 (DX9_findBest_0 18 rfl) rfl ?_
    refine r.iload_n 3 (DX9_findBest_0 19 rfl) rfl ?_
    refine r.icmp_eq 78 (DX9_findBest_0 20 rfl) rfl hxt (fun _ hxt => ?_) (fun _ hxt => ?_)
    · refine r.iinc (v := (v3 + (1 : Int32))) (lo' := [(3, .int (v3 + (1 : Int32))), (0, .ref (a 31)), (1, .int v1), (2, .int x2)]) 3 (DX9_findBest_0 46 rfl) rfl rfl (Nat.le_of_ble_eq_true rfl) rfl ?_
      refine r.goto 24 (DX9_findBest_0 47 rfl) rfl ?_
      refine r.rel (lo' := [(0, .ref (a 31)), (1, .int v1), (2, .int x2), (3, .int (v3 + (1 : Int32)))]) [1, 2, 3, 0] rfl ?_
      exact ih v1 (v3 + (1 : Int32)) (mgs hM [31, 38, 39, 40, 41, 42, 43, 44] mM) hxt
    refine r.aload_n 0 (DX9_findBest_0 21 rfl) rfl ?_
    refine r.iload_n 2 (DX9_findBest_0 22 rfl) rfl ?_
    refine r.iload_n 3 (DX9_findBest_0 23 rfl) rfl ?_
    obtain ⟨o_1, ho_1, hxt⟩ := xbd hxt
    refine r.callVI 0 rfl rfl (t_X9_isMove E a x2 v3 (mgs hM [31, 38, 39, 40, 41, 42, 43, 44] mM) ho_1) g_X9_186 rfl (DX9_findBest_0 24 rfl) rfl ⟨(Nat.le_of_ble_eq_true rfl), (Nat.le_of_ble_eq_true rfl)⟩ ⟨(Nat.le_of_ble_eq_true rfl), (Nat.le_of_ble_eq_true rfl)⟩ (Nat.le_of_ble_eq_true rfl) [0, 1, 2, 3, 4, 5, 6, 7, 8, 9, 10] [] rfl rfl rfl rfl (by decide) [0, 1, 2, 3, 4, 5, 6, 7, 8, 9, 10] rfl (ws2 := fun _ => [(a 31, oX9 a (o_1.2 31)), (a 32, aI E 8 (hM 32)), (a 36, aI E 120 (hM 36)), (a 37, aI E 120 (hM 37)), (a 38, aI E 4096 (o_1.2 38)), (a 39, aI E 4096 (o_1.2 39)), (a 40, aI E 4096 (o_1.2 40)), (a 41, aI E 128 (o_1.2 41)), (a 42, aI E 98 (o_1.2 42)), (a 43, aI E 202 (o_1.2 43)), (a 44, aI E 4 (o_1.2 44))]) (fun _ => rfl) (fun _ => ?_)
    refine r.if_eq 78 (DX9_findBest_0 25 rfl) rfl hxt (fun _ hxt => ?_) (fun _ hxt => ?_)
    · refine r.iinc (v := (v3 + (1 : Int32))) (lo' := [(3, .int (v3 + (1 : Int32))), (0, .ref (a 31)), (1, .int v1), (2, .int x2)]) 3 (DX9_findBest_0 46 rfl) rfl rfl (Nat.le_of_ble_eq_true rfl) rfl ?_
      refine r.goto 24 (DX9_findBest_0 47 rfl) rfl ?_
      refine r.rel (lo' := [(0, .ref (a 31)), (1, .int v1), (2, .int x2), (3, .int (v3 + (1 : Int32)))]) [1, 2, 3, 0] rfl ?_
      exact ih v1 (v3 + (1 : Int32)) (mgs hM [31, 38, 39, 40, 41, 42, 43, 44] o_1.2) hxt
    refine r.aload_n 0 (DX9_findBest_0 26 rfl) rfl ?_
    refine r.get (v := .int ((o_1.2 31) 17)) kX9 f_X9_180 rfl 0 rfl rfl (DX9_findBest_0 27 rfl) ?_
    refine r.if_lt 61 (DX9_findBest_0 28 rfl) rfl hxt (fun _ hxt => ?_) (fun _ hxt => ?_)
    · refine r.aload_n 0 (DX9_findBest_0 35 rfl) rfl ?_
      refine r.iload_n 2 (DX9_findBest_0 36 rfl) rfl ?_
      refine r.put (ws' := [(a 31, oX9 a (upd (o_1.2 31) 17 x2)), (a 32, aI E 8 (hM 32)), (a 36, aI E 120 (hM 36)), (a 37, aI E 120 (hM 37)), (a 38, aI E 4096 (o_1.2 38)), (a 39, aI E 4096 (o_1.2 39)), (a 40, aI E 4096 (o_1.2 40)), (a 41, aI E 128 (o_1.2 41)), (a 42, aI E 98 (o_1.2 42)), (a 43, aI E 202 (o_1.2 43)), (a 44, aI E 4 (o_1.2 44))]) kX9 f_X9_180 0 rfl rfl rfl rfl (Nat.le_of_ble_eq_true rfl) rfl (DX9_findBest_0 37 rfl) ?_
      refine r.aload_n 0 (DX9_findBest_0 38 rfl) rfl ?_
      refine r.iload_n 3 (DX9_findBest_0 39 rfl) rfl ?_
      refine r.put (ws' := [(a 31, oX9 a (upd (upd (o_1.2 31) 17 x2) 18 v3)), (a 32, aI E 8 (hM 32)), (a 36, aI E 120 (hM 36)), (a 37, aI E 120 (hM 37)), (a 38, aI E 4096 (o_1.2 38)), (a 39, aI E 4096 (o_1.2 39)), (a 40, aI E 4096 (o_1.2 40)), (a 41, aI E 128 (o_1.2 41)), (a 42, aI E 98 (o_1.2 42)), (a 43, aI E 202 (o_1.2 43)), (a 44, aI E 4 (o_1.2 44))]) kX9 f_X9_183 0 rfl rfl rfl rfl (Nat.le_of_ble_eq_true rfl) rfl (DX9_findBest_0 40 rfl) ?_
      refine r.aload_n 0 (DX9_findBest_0 41 rfl) rfl ?_
      refine r.iload_n 2 (DX9_findBest_0 42 rfl) rfl ?_
      refine r.iload_n 3 (DX9_findBest_0 43 rfl) rfl ?_
      obtain ⟨o_2, ho_2, hxt⟩ := xbd hxt
      refine r.callVI 0 rfl rfl (t_X9_worth E a x2 v3 (mgs (mset hM 31 (upd (upd (o_1.2 31) 17 x2) 18 v3)) [38] o_1.2) ho_2) g_X9_189 rfl (DX9_findBest_0 44 rfl) rfl ⟨(Nat.le_of_ble_eq_true rfl), (Nat.le_of_ble_eq_true rfl)⟩ ⟨(Nat.le_of_ble_eq_true rfl), (Nat.le_of_ble_eq_true rfl)⟩ (Nat.le_of_ble_eq_true rfl) [0, 1, 4] [2, 3, 5, 6, 7, 8, 9, 10] rfl rfl rfl rfl (by decide) [8, 9, 0, 1, 10, 2, 3, 4, 5, 6, 7] rfl (ws2 := fun _ => [(a 31, oX9 a (upd (upd (o_1.2 31) 17 x2) 18 v3)), (a 32, aI E 8 (hM 32)), (a 36, aI E 120 (hM 36)), (a 37, aI E 120 (hM 37)), (a 38, aI E 4096 (o_1.2 38)), (a 39, aI E 4096 (o_1.2 39)), (a 40, aI E 4096 (o_1.2 40)), (a 41, aI E 128 (o_1.2 41)), (a 42, aI E 98 (o_1.2 42)), (a 43, aI E 202 (o_1.2 43)), (a 44, aI E 4 (o_1.2 44))]) (fun _ => rfl) (fun _ => ?_)
      refine r.istore_n (lo' := [(1, .int o_2), (0, .ref (a 31)), (2, .int x2), (3, .int v3)]) (DX9_findBest_0 45 rfl) (Nat.le_of_ble_eq_true rfl) rfl ?_
      refine r.iinc (v := (v3 + (1 : Int32))) (lo' := [(3, .int (v3 + (1 : Int32))), (1, .int o_2), (0, .ref (a 31)), (2, .int x2)]) 3 (DX9_findBest_0 46 rfl) rfl rfl (Nat.le_of_ble_eq_true rfl) rfl ?_
      refine r.goto 24 (DX9_findBest_0 47 rfl) rfl ?_
      refine r.rel (lo' := [(0, .ref (a 31)), (1, .int o_2), (2, .int x2), (3, .int (v3 + (1 : Int32)))]) [2, 1, 3, 0] rfl ?_
      exact ih o_2 (v3 + (1 : Int32)) (mgs (mset hM 31 (upd (upd (o_1.2 31) 17 x2) 18 v3)) [38, 39, 40, 41, 42, 43, 44] o_1.2) hxt
    refine r.aload_n 0 (DX9_findBest_0 29 rfl) rfl ?_
    refine r.iload_n 2 (DX9_findBest_0 30 rfl) rfl ?_
    refine r.iload_n 3 (DX9_findBest_0 31 rfl) rfl ?_
    obtain ⟨o_3, ho_3, hxt⟩ := xbd hxt
    refine r.callVI 0 rfl rfl (t_X9_worth E a x2 v3 (mgs hM [31, 38] o_1.2) ho_3) g_X9_189 rfl (DX9_findBest_0 32 rfl) rfl ⟨(Nat.le_of_ble_eq_true rfl), (Nat.le_of_ble_eq_true rfl)⟩ ⟨(Nat.le_of_ble_eq_true rfl), (Nat.le_of_ble_eq_true rfl)⟩ (Nat.le_of_ble_eq_true rfl) [0, 1, 4] [2, 3, 5, 6, 7, 8, 9, 10] rfl rfl rfl rfl (by decide) [8, 9, 0, 1, 10, 2, 3, 4, 5, 6, 7] rfl (ws2 := fun _ => [(a 31, oX9 a (o_1.2 31)), (a 32, aI E 8 (hM 32)), (a 36, aI E 120 (hM 36)), (a 37, aI E 120 (hM 37)), (a 38, aI E 4096 (o_1.2 38)), (a 39, aI E 4096 (o_1.2 39)), (a 40, aI E 4096 (o_1.2 40)), (a 41, aI E 128 (o_1.2 41)), (a 42, aI E 98 (o_1.2 42)), (a 43, aI E 202 (o_1.2 43)), (a 44, aI E 4 (o_1.2 44))]) (fun _ => rfl) (fun _ => ?_)
    refine r.iload_n 1 (DX9_findBest_0 33 rfl) rfl ?_
    refine r.icmp_ge 78 (DX9_findBest_0 34 rfl) rfl hxt (fun _ hxt => ?_) (fun _ hxt => ?_)
    · refine r.iinc (v := (v3 + (1 : Int32))) (lo' := [(3, .int (v3 + (1 : Int32))), (0, .ref (a 31)), (1, .int v1), (2, .int x2)]) 3 (DX9_findBest_0 46 rfl) rfl rfl (Nat.le_of_ble_eq_true rfl) rfl ?_
      refine r.goto 24 (DX9_findBest_0 47 rfl) rfl ?_
      refine r.rel (lo' := [(0, .ref (a 31)), (1, .int v1), (2, .int x2), (3, .int (v3 + (1 : Int32)))]) [1, 2, 3, 0] rfl ?_
      exact ih v1 (v3 + (1 : Int32)) (mgs hM [31, 38, 39, 40, 41, 42, 43, 44] o_1.2) hxt
    refine r.aload_n 0 (DX9_findBest_0 35 rfl) rfl ?_
    refine r.iload_n 2 (DX9_findBest_0 36 rfl) rfl ?_
    refine r.put (ws' := [(a 31, oX9 a (upd (o_1.2 31) 17 x2)), (a 32, aI E 8 (hM 32)), (a 36, aI E 120 (hM 36)), (a 37, aI E 120 (hM 37)), (a 38, aI E 4096 (o_1.2 38)), (a 39, aI E 4096 (o_1.2 39)), (a 40, aI E 4096 (o_1.2 40)), (a 41, aI E 128 (o_1.2 41)), (a 42, aI E 98 (o_1.2 42)), (a 43, aI E 202 (o_1.2 43)), (a 44, aI E 4 (o_1.2 44))]) kX9 f_X9_180 0 rfl rfl rfl rfl (Nat.le_of_ble_eq_true rfl) rfl (DX9_findBest_0 37 rfl) ?_
    refine r.aload_n 0 (DX9_findBest_0 38 rfl) rfl ?_
    refine r.iload_n 3 (DX9_findBest_0 39 rfl) rfl ?_
    refine r.put (ws' := [(a 31, oX9 a (upd (upd (o_1.2 31) 17 x2) 18 v3)), (a 32, aI E 8 (hM 32)), (a 36, aI E 120 (hM 36)), (a 37, aI E 120 (hM 37)), (a 38, aI E 4096 (o_1.2 38)), (a 39, aI E 4096 (o_1.2 39)), (a 40, aI E 4096 (o_1.2 40)), (a 41, aI E 128 (o_1.2 41)), (a 42, aI E 98 (o_1.2 42)), (a 43, aI E 202 (o_1.2 43)), (a 44, aI E 4 (o_1.2 44))]) kX9 f_X9_183 0 rfl rfl rfl rfl (Nat.le_of_ble_eq_true rfl) rfl (DX9_findBest_0 40 rfl) ?_
    refine r.aload_n 0 (DX9_findBest_0 41 rfl) rfl ?_
    refine r.iload_n 2 (DX9_findBest_0 42 rfl) rfl ?_
    refine r.iload_n 3 (DX9_findBest_0 43 rfl) rfl ?_
    obtain ⟨o_4, ho_4, hxt⟩ := xbd hxt
    refine r.callVI 0 rfl rfl (t_X9_worth E a x2 v3 (mgs (mset hM 31 (upd (upd (o_1.2 31) 17 x2) 18 v3)) [38] o_1.2) ho_4) g_X9_189 rfl (DX9_findBest_0 44 rfl) rfl ⟨(Nat.le_of_ble_eq_true rfl), (Nat.le_of_ble_eq_true rfl)⟩ ⟨(Nat.le_of_ble_eq_true rfl), (Nat.le_of_ble_eq_true rfl)⟩ (Nat.le_of_ble_eq_true rfl) [0, 1, 4] [2, 3, 5, 6, 7, 8, 9, 10] rfl rfl rfl rfl (by decide) [8, 9, 0, 1, 10, 2, 3, 4, 5, 6, 7] rfl (ws2 := fun _ => [(a 31, oX9 a (upd (upd (o_1.2 31) 17 x2) 18 v3)), (a 32, aI E 8 (hM 32)), (a 36, aI E 120 (hM 36)), (a 37, aI E 120 (hM 37)), (a 38, aI E 4096 (o_1.2 38)), (a 39, aI E 4096 (o_1.2 39)), (a 40, aI E 4096 (o_1.2 40)), (a 41, aI E 128 (o_1.2 41)), (a 42, aI E 98 (o_1.2 42)), (a 43, aI E 202 (o_1.2 43)), (a 44, aI E 4 (o_1.2 44))]) (fun _ => rfl) (fun _ => ?_)
    refine r.istore_n (lo' := [(1, .int o_4), (0, .ref (a 31)), (2, .int x2), (3, .int v3)]) (DX9_findBest_0 45 rfl) (Nat.le_of_ble_eq_true rfl) rfl ?_
    refine r.iinc (v := (v3 + (1 : Int32))) (lo' := [(3, .int (v3 + (1 : Int32))), (1, .int o_4), (0, .ref (a 31)), (2, .int x2)]) 3 (DX9_findBest_0 46 rfl) rfl rfl (Nat.le_of_ble_eq_true rfl) rfl ?_
    refine r.goto 24 (DX9_findBest_0 47 rfl) rfl ?_
    refine r.rel (lo' := [(0, .ref (a 31)), (1, .int o_4), (2, .int x2), (3, .int (v3 + (1 : Int32)))]) [2, 1, 3, 0] rfl ?_
    exact ih o_4 (v3 + (1 : Int32)) (mgs (mset hM 31 (upd (upd (o_1.2 31) 17 x2) 18 v3)) [38, 39, 40, 41, 42, 43, 44] o_1.2) hxt
set_option maxRecDepth 100000 in
set_option maxHeartbeats 4000000 in
theorem l_X9_findBest_16 (E : xE) (a : Nat → Nat) (hM : Mem) {V : xVT} (r : Rl E RX9 cX9_findBest (xR 11 0 0) 4 false V) {o : Int32 × Mem} {k : Int32 → Mem → Option (Int32 × Mem)} (hk : ∀ (v1 : Int32) (mM : Mem), k v1 mM = some o → V 0 0 90 [(0, .ref (a 31)), (1, .int v1)] [] [(a 31, oX9 a (mM 31)), (a 32, aI E 8 (hM 32)), (a 36, aI E 120 (hM 36)), (a 37, aI E 120 (hM 37)), (a 38, aI E 4096 (mM 38)), (a 39, aI E 4096 (mM 39)), (a 40, aI E 4096 (mM 40)), (a 41, aI E 128 (mM 41)), (a 42, aI E 98 (mM 42)), (a 43, aI E 202 (mM 43)), (a 44, aI E 4 (mM 44))]) : ∀ (n : Nat) (v1 : Int32) (v2 : Int32) (mM : Mem), xt_X9_findBest_l16 hM k n v1 v2 mM = some o → V 0 0 16 [(0, .ref (a 31)), (1, .int v1), (2, .int v2)] [] [(a 31, oX9 a (mM 31)), (a 32, aI E 8 (hM 32)), (a 36, aI E 120 (hM 36)), (a 37, aI E 120 (hM 37)), (a 38, aI E 4096 (mM 38)), (a 39, aI E 4096 (mM 39)), (a 40, aI E 4096 (mM 40)), (a 41, aI E 128 (mM 41)), (a 42, aI E 98 (mM 42)), (a 43, aI E 202 (mM 43)), (a 44, aI E 4 (mM 44))] := by
  intro n
  induction n with
  | zero => intro v1 v2 mM hxt; exact xno hxt
  | succ n ih =>
    intro v1 v2 mM hxt
    rw [xt_X9_findBest_l16] at hxt
    refine r.iload_n 2 (DX9_findBest_0 10 rfl) rfl ?_
    refine r.bipush (v := (16 : Int32)) (DX9_findBest_0 11 rfl) rfl ?_
    refine r.icmp_ge 90 (DX9_findBest_0 12 rfl) rfl hxt (fun _ hxt => ?_) (fun _ hxt => ?_)
    · refine r.rel (lo' := [(0, .ref (a 31)), (1, .int v1)]) [0, 1] rfl ?_
      exact hk v1 (mgs hM [31, 38, 39, 40, 41, 42, 43, 44] mM) hxt
    refine r.iconst (v := (0 : Int32)) (DX9_findBest_0 13 rfl) rfl ?_
    refine r.istore_n (lo' := [(3, .int (0 : Int32)), (0, .ref (a 31)), (1, .int v1), (2, .int v2)]) (DX9_findBest_0 14 rfl) (Nat.le_of_ble_eq_true rfl) rfl ?_
    refine r.rel (lo' := [(0, .ref (a 31)), (1, .int v1), (2, .int v2), (3, .int (0 : Int32))]) [1, 2, 3, 0] rfl ?_
    refine l_X9_findBest_24 E a v2 (mgs hM [31, 38, 39, 40, 41, 42, 43, 44] mM) r (fun v1_5 m_6 hxt => ?_) 10000 v1 (0 : Int32) (mgs hM [31, 38, 39, 40, 41, 42, 43, 44] mM) hxt
    refine r.iinc (v := (v2 + (1 : Int32))) (lo' := [(2, .int (v2 + (1 : Int32))), (0, .ref (a 31)), (1, .int v1_5)]) 2 (DX9_findBest_0 48 rfl) rfl rfl (Nat.le_of_ble_eq_true rfl) rfl ?_
    refine r.goto 16 (DX9_findBest_0 49 rfl) rfl ?_
    refine r.rel (lo' := [(0, .ref (a 31)), (1, .int v1_5), (2, .int (v2 + (1 : Int32)))]) [1, 2, 0] rfl ?_
    exact ih v1_5 (v2 + (1 : Int32)) (mgs hM [31, 38, 39, 40, 41, 42, 43, 44] m_6) hxt
set_option maxRecDepth 100000 in
set_option maxHeartbeats 4000000 in
theorem t_X9_findBest (E : xE) (a : Nat → Nat) (hM : Mem) {o : Int32 × Mem} (hxt : xt_X9_findBest hM = some o) : xMI (S := Unit) E yX9_findBest cX9_findBest 4 .boolean 11 0 0 [.ref (a 31)] [(a 31, oX9 a (hM 31)), (a 32, aI E 8 (hM 32)), (a 36, aI E 120 (hM 36)), (a 37, aI E 120 (hM 37)), (a 38, aI E 4096 (hM 38)), (a 39, aI E 4096 (hM 39)), (a 40, aI E 4096 (hM 40)), (a 41, aI E 128 (hM 41)), (a 42, aI E 98 (hM 42)), (a 43, aI E 202 (hM 43)), (a 44, aI E 4 (hM 44))] (fun _ => o.1) (fun _ => [(a 31, oX9 a (o.2 31)), (a 32, aI E 8 (hM 32)), (a 36, aI E 120 (hM 36)), (a 37, aI E 120 (hM 37)), (a 38, aI E 4096 (o.2 38)), (a 39, aI E 4096 (o.2 39)), (a 40, aI E 4096 (o.2 40)), (a 41, aI E 128 (o.2 41)), (a 42, aI E 98 (o.2 42)), (a 43, aI E 202 (o.2 43)), (a 44, aI E 4 (o.2 44))]) := by
  refine xMI.of (own := RX9) (lo0 := [(0, .ref (a 31))]) (by decide +kernel) rfl rfl (Nat.le_of_ble_eq_true rfl) (fun V r hret => ?_)
  unfold xt_X9_findBest at hxt
  refine r.aload_n 0 (DX9_findBest_0 0 rfl) rfl ?_
  refine r.bipush (v := (-6 : Int32)) (DX9_findBest_0 1 rfl) rfl ?_
  refine r.put (ws' := [(a 31, oX9 a (upd (hM 31) 17 (-6 : Int32))), (a 32, aI E 8 (hM 32)), (a 36, aI E 120 (hM 36)), (a 37, aI E 120 (hM 37)), (a 38, aI E 4096 (hM 38)), (a 39, aI E 4096 (hM 39)), (a 40, aI E 4096 (hM 40)), (a 41, aI E 128 (hM 41)), (a 42, aI E 98 (hM 42)), (a 43, aI E 202 (hM 43)), (a 44, aI E 4 (hM 44))]) kX9 f_X9_180 0 rfl rfl rfl rfl (Nat.le_of_ble_eq_true rfl) rfl (DX9_findBest_0 2 rfl) ?_
  refine r.aload_n 0 (DX9_findBest_0 3 rfl) rfl ?_
  refine r.bipush (v := (-6 : Int32)) (DX9_findBest_0 4 rfl) rfl ?_
  refine r.put (ws' := [(a 31, oX9 a (upd (upd (hM 31) 17 (-6 : Int32)) 18 (-6 : Int32))), (a 32, aI E 8 (hM 32)), (a 36, aI E 120 (hM 36)), (a 37, aI E 120 (hM 37)), (a 38, aI E 4096 (hM 38)), (a 39, aI E 4096 (hM 39)), (a 40, aI E 4096 (hM 40)), (a 41, aI E 128 (hM 41)), (a 42, aI E 98 (hM 42)), (a 43, aI E 202 (hM 43)), (a 44, aI E 4 (hM 44))]) kX9 f_X9_183 0 rfl rfl rfl rfl (Nat.le_of_ble_eq_true rfl) rfl (DX9_findBest_0 5 rfl) ?_
  refine r.iconst (v := (0 : Int32)) (DX9_findBest_0 6 rfl) rfl ?_
  refine r.istore_n (lo' := [(1, .int (0 : Int32)), (0, .ref (a 31))]) (DX9_findBest_0 7 rfl) (Nat.le_of_ble_eq_true rfl) rfl ?_
  refine r.iconst (v := (0 : Int32)) (DX9_findBest_0 8 rfl) rfl ?_
  refine r.istore_n (lo' := [(2, .int (0 : Int32)), (1, .int (0 : Int32)), (0, .ref (a 31))]) (DX9_findBest_0 9 rfl) (Nat.le_of_ble_eq_true rfl) rfl ?_
  refine r.rel (lo' := [(0, .ref (a 31)), (1, .int (0 : Int32)), (2, .int (0 : Int32))]) [2, 1, 0] rfl ?_
  refine l_X9_findBest_16 E a (mset hM 31 (upd (upd (hM 31) 17 (-6 : Int32)) 18 (-6 : Int32))) r (fun v1_7 m_8 hxt => ?_) 10000 (0 : Int32) (0 : Int32) (mset hM 31 (upd (upd (hM 31) 17 (-6 : Int32)) 18 (-6 : Int32))) hxt
  refine r.aload_n 0 (DX9_findBest_0 50 rfl) rfl ?_
  refine r.get (v := .ref (a 32)) kX9 f_X9_7 rfl 0 rfl rfl (DX9_findBest_0 51 rfl) ?_
  refine r.bipush (v := (6 : Int32)) (DX9_findBest_0 52 rfl) rfl ?_
  obtain ⟨hin, hxt⟩ := xgd_some hxt
  refine r.iald 1 rfl hin (DX9_findBest_0 53 rfl) ?_
  refine r.istore_n (lo' := [(2, .int ((hM 32) (6 : Int32).toNatClampNeg)), (0, .ref (a 31)), (1, .int v1_7)]) (DX9_findBest_0 54 rfl) (Nat.le_of_ble_eq_true rfl) rfl ?_
  refine r.aload_n 1 (DX9_findBest_0 55 rfl) rfl ?_
  refine r.get (v := .ref (a 32)) kX9 f_X9_7 rfl 0 rfl rfl (DX9_findBest_0 56 rfl) ?_
  refine r.iconst (v := (4 : Int32)) (DX9_findBest_0 57 rfl) rfl ?_
  obtain ⟨hin, hxt⟩ := xgd_some hxt
  refine r.iald 1 rfl hin (DX9_findBest_0 58 rfl) ?_
  refine r.if_ne 143 (DX9_findBest_0 59 rfl) rfl hxt (fun _ hxt => ?_) (fun _ hxt => ?_)
  · refine r.aload_n 1 (DX9_findBest_1 20 rfl) rfl ?_
    refine r.get (v := .int ((m_8 31) 17)) kX9 f_X9_180 rfl 0 rfl rfl (DX9_findBest_1 21 rfl) ?_
    refine r.if_lt 154 (DX9_findBest_1 22 rfl) rfl hxt (fun _ hxt => ?_) (fun _ hxt => ?_)
    · refine r.iconst (v := (0 : Int32)) (DX9_findBest_1 25 rfl) rfl ?_
      cases hxt
      exact hret _ _ _ _ (DX9_findBest_1 26 rfl) rfl ⟨(), rfl, rfl⟩
    refine r.iconst (v := (1 : Int32)) (DX9_findBest_1 23 rfl) rfl ?_
    refine r.goto 155 (DX9_findBest_1 24 rfl) rfl ?_
    cases hxt
    exact hret _ _ _ _ (DX9_findBest_1 26 rfl) rfl ⟨(), rfl, rfl⟩
  refine r.aload_n 1 (DX9_findBest_1 0 rfl) rfl ?_
  refine r.iload_n 0 (DX9_findBest_1 1 rfl) rfl ?_
  refine r.iload_n 0 (DX9_findBest_1 2 rfl) rfl ?_
  obtain ⟨o_9, ho_9, hxt⟩ := xbd hxt
  refine r.callVI 0 rfl rfl (t_X9_isMove E a ((hM 32) (6 : Int32).toNatClampNeg) ((hM 32) (6 : Int32).toNatClampNeg) (mgs hM [31, 38, 39, 40, 41, 42, 43, 44] m_8) ho_9) g_X9_186 rfl (DX9_findBest_1 3 rfl) rfl ⟨(Nat.le_of_ble_eq_true rfl), (Nat.le_of_ble_eq_true rfl)⟩ ⟨(Nat.le_of_ble_eq_true rfl), (Nat.le_of_ble_eq_true rfl)⟩ (Nat.le_of_ble_eq_true rfl) [0, 1, 2, 3, 4, 5, 6, 7, 8, 9, 10] [] rfl rfl rfl rfl (by decide) [0, 1, 2, 3, 4, 5, 6, 7, 8, 9, 10] rfl (ws2 := fun _ => [(a 31, oX9 a (o_9.2 31)), (a 32, aI E 8 (hM 32)), (a 36, aI E 120 (hM 36)), (a 37, aI E 120 (hM 37)), (a 38, aI E 4096 (o_9.2 38)), (a 39, aI E 4096 (o_9.2 39)), (a 40, aI E 4096 (o_9.2 40)), (a 41, aI E 128 (o_9.2 41)), (a 42, aI E 98 (o_9.2 42)), (a 43, aI E 202 (o_9.2 43)), (a 44, aI E 4 (o_9.2 44))]) (fun _ => rfl) (fun _ => ?_)
  refine r.if_eq 143 (DX9_findBest_1 4 rfl) rfl hxt (fun _ hxt => ?_) (fun _ hxt => ?_)
  · refine r.aload_n 1 (DX9_findBest_1 20 rfl) rfl ?_
    refine r.get (v := .int ((o_9.2 31) 17)) kX9 f_X9_180 rfl 0 rfl rfl (DX9_findBest_1 21 rfl) ?_
    refine r.if_lt 154 (DX9_findBest_1 22 rfl) rfl hxt (fun _ hxt => ?_) (fun _ hxt => ?_)
    · refine r.iconst (v := (0 : Int32)) (DX9_findBest_1 25 rfl) rfl ?_
      cases hxt
      exact hret _ _ _ _ (DX9_findBest_1 26 rfl) rfl ⟨(), rfl, rfl⟩
    refine r.iconst (v := (1 : Int32)) (DX9_findBest_1 23 rfl) rfl ?_
    refine r.goto 155 (DX9_findBest_1 24 rfl) rfl ?_
    cases hxt
    exact hret _ _ _ _ (DX9_findBest_1 26 rfl) rfl ⟨(), rfl, rfl⟩
  refine r.aload_n 1 (DX9_findBest_1 5 rfl) rfl ?_
  refine r.get (v := .int ((o_9.2 31) 17)) kX9 f_X9_180 rfl 0 rfl rfl (DX9_findBest_1 6 rfl) ?_
  refine r.if_lt 133 (DX9_findBest_1 7 rfl) rfl hxt (fun _ hxt => ?_) (fun _ hxt => ?_)
  · refine r.aload_n 1 (DX9_findBest_1 14 rfl) rfl ?_
    refine r.iload_n 0 (DX9_findBest_1 15 rfl) rfl ?_
    refine r.put (ws' := [(a 31, oX9 a (upd (o_9.2 31) 17 ((hM 32) (6 : Int32).toNatClampNeg))), (a 32, aI E 8 (hM 32)), (a 36, aI E 120 (hM 36)), (a 37, aI E 120 (hM 37)), (a 38, aI E 4096 (o_9.2 38)), (a 39, aI E 4096 (o_9.2 39)), (a 40, aI E 4096 (o_9.2 40)), (a 41, aI E 128 (o_9.2 41)), (a 42, aI E 98 (o_9.2 42)), (a 43, aI E 202 (o_9.2 43)), (a 44, aI E 4 (o_9.2 44))]) kX9 f_X9_180 0 rfl rfl rfl rfl (Nat.le_of_ble_eq_true rfl) rfl (DX9_findBest_1 16 rfl) ?_
    refine r.aload_n 1 (DX9_findBest_1 17 rfl) rfl ?_
    refine r.iload_n 0 (DX9_findBest_1 18 rfl) rfl ?_
    refine r.put (ws' := [(a 31, oX9 a (upd (upd (o_9.2 31) 17 ((hM 32) (6 : Int32).toNatClampNeg)) 18 ((hM 32) (6 : Int32).toNatClampNeg))), (a 32, aI E 8 (hM 32)), (a 36, aI E 120 (hM 36)), (a 37, aI E 120 (hM 37)), (a 38, aI E 4096 (o_9.2 38)), (a 39, aI E 4096 (o_9.2 39)), (a 40, aI E 4096 (o_9.2 40)), (a 41, aI E 128 (o_9.2 41)), (a 42, aI E 98 (o_9.2 42)), (a 43, aI E 202 (o_9.2 43)), (a 44, aI E 4 (o_9.2 44))]) kX9 f_X9_183 0 rfl rfl rfl rfl (Nat.le_of_ble_eq_true rfl) rfl (DX9_findBest_1 19 rfl) ?_
    refine r.aload_n 1 (DX9_findBest_1 20 rfl) rfl ?_
    refine r.get (v := .int ((hM 32) (6 : Int32).toNatClampNeg)) kX9 f_X9_180 rfl 0 rfl rfl (DX9_findBest_1 21 rfl) ?_
    refine r.if_lt 154 (DX9_findBest_1 22 rfl) rfl hxt (fun _ hxt => ?_) (fun _ hxt => ?_)
    · refine r.iconst (v := (0 : Int32)) (DX9_findBest_1 25 rfl) rfl ?_
      cases hxt
      exact hret _ _ _ _ (DX9_findBest_1 26 rfl) rfl ⟨(), rfl, rfl⟩
    refine r.iconst (v := (1 : Int32)) (DX9_findBest_1 23 rfl) rfl ?_
    refine r.goto 155 (DX9_findBest_1 24 rfl) rfl ?_
    cases hxt
    exact hret _ _ _ _ (DX9_findBest_1 26 rfl) rfl ⟨(), rfl, rfl⟩
  refine r.aload_n 1 (DX9_findBest_1 8 rfl) rfl ?_
  refine r.iload_n 0 (DX9_findBest_1 9 rfl) rfl ?_
  refine r.iload_n 0 (DX9_findBest_1 10 rfl) rfl ?_
  obtain ⟨o_10, ho_10, hxt⟩ := xbd hxt
  refine r.callVI 0 rfl rfl (t_X9_worth E a ((hM 32) (6 : Int32).toNatClampNeg) ((hM 32) (6 : Int32).toNatClampNeg) (mgs hM [31, 38] o_9.2) ho_10) g_X9_189 rfl (DX9_findBest_1 11 rfl) rfl ⟨(Nat.le_of_ble_eq_true rfl), (Nat.le_of_ble_eq_true rfl)⟩ ⟨(Nat.le_of_ble_eq_true rfl), (Nat.le_of_ble_eq_true rfl)⟩ (Nat.le_of_ble_eq_true rfl) [0, 1, 4] [2, 3, 5, 6, 7, 8, 9, 10] rfl rfl rfl rfl (by decide) [8, 9, 0, 1, 10, 2, 3, 4, 5, 6, 7] rfl (ws2 := fun _ => [(a 31, oX9 a (o_9.2 31)), (a 32, aI E 8 (hM 32)), (a 36, aI E 120 (hM 36)), (a 37, aI E 120 (hM 37)), (a 38, aI E 4096 (o_9.2 38)), (a 39, aI E 4096 (o_9.2 39)), (a 40, aI E 4096 (o_9.2 40)), (a 41, aI E 128 (o_9.2 41)), (a 42, aI E 98 (o_9.2 42)), (a 43, aI E 202 (o_9.2 43)), (a 44, aI E 4 (o_9.2 44))]) (fun _ => rfl) (fun _ => ?_)
  refine r.iload_n 2 (DX9_findBest_1 12 rfl) rfl ?_
  refine r.icmp_ge 143 (DX9_findBest_1 13 rfl) rfl hxt (fun _ hxt => ?_) (fun _ hxt => ?_)
  · refine r.aload_n 1 (DX9_findBest_1 20 rfl) rfl ?_
    refine r.get (v := .int ((o_9.2 31) 17)) kX9 f_X9_180 rfl 0 rfl rfl (DX9_findBest_1 21 rfl) ?_
    refine r.if_lt 154 (DX9_findBest_1 22 rfl) rfl hxt (fun _ hxt => ?_) (fun _ hxt => ?_)
    · refine r.iconst (v := (0 : Int32)) (DX9_findBest_1 25 rfl) rfl ?_
      cases hxt
      exact hret _ _ _ _ (DX9_findBest_1 26 rfl) rfl ⟨(), rfl, rfl⟩
    refine r.iconst (v := (1 : Int32)) (DX9_findBest_1 23 rfl) rfl ?_
    refine r.goto 155 (DX9_findBest_1 24 rfl) rfl ?_
    cases hxt
    exact hret _ _ _ _ (DX9_findBest_1 26 rfl) rfl ⟨(), rfl, rfl⟩
  refine r.aload_n 1 (DX9_findBest_1 14 rfl) rfl ?_
  refine r.iload_n 0 (DX9_findBest_1 15 rfl) rfl ?_
  refine r.put (ws' := [(a 31, oX9 a (upd (o_9.2 31) 17 ((hM 32) (6 : Int32).toNatClampNeg))), (a 32, aI E 8 (hM 32)), (a 36, aI E 120 (hM 36)), (a 37, aI E 120 (hM 37)), (a 38, aI E 4096 (o_9.2 38)), (a 39, aI E 4096 (o_9.2 39)), (a 40, aI E 4096 (o_9.2 40)), (a 41, aI E 128 (o_9.2 41)), (a 42, aI E 98 (o_9.2 42)), (a 43, aI E 202 (o_9.2 43)), (a 44, aI E 4 (o_9.2 44))]) kX9 f_X9_180 0 rfl rfl rfl rfl (Nat.le_of_ble_eq_true rfl) rfl (DX9_findBest_1 16 rfl) ?_
  refine r.aload_n 1 (DX9_findBest_1 17 rfl) rfl ?_
  refine r.iload_n 0 (DX9_findBest_1 18 rfl) rfl ?_
  refine r.put (ws' := [(a 31, oX9 a (upd (upd (o_9.2 31) 17 ((hM 32) (6 : Int32).toNatClampNeg)) 18 ((hM 32) (6 : Int32).toNatClampNeg))), (a 32, aI E 8 (hM 32)), (a 36, aI E 120 (hM 36)), (a 37, aI E 120 (hM 37)), (a 38, aI E 4096 (o_9.2 38)), (a 39, aI E 4096 (o_9.2 39)), (a 40, aI E 4096 (o_9.2 40)), (a 41, aI E 128 (o_9.2 41)), (a 42, aI E 98 (o_9.2 42)), (a 43, aI E 202 (o_9.2 43)), (a 44, aI E 4 (o_9.2 44))]) kX9 f_X9_183 0 rfl rfl rfl rfl (Nat.le_of_ble_eq_true rfl) rfl (DX9_findBest_1 19 rfl) ?_
  refine r.aload_n 1 (DX9_findBest_1 20 rfl) rfl ?_
  refine r.get (v := .int ((hM 32) (6 : Int32).toNatClampNeg)) kX9 f_X9_180 rfl 0 rfl rfl (DX9_findBest_1 21 rfl) ?_
  refine r.if_lt 154 (DX9_findBest_1 22 rfl) rfl hxt (fun _ hxt => ?_) (fun _ hxt => ?_)
  · refine r.iconst (v := (0 : Int32)) (DX9_findBest_1 25 rfl) rfl ?_
    cases hxt
    exact hret _ _ _ _ (DX9_findBest_1 26 rfl) rfl ⟨(), rfl, rfl⟩
  refine r.iconst (v := (1 : Int32)) (DX9_findBest_1 23 rfl) rfl ?_
  refine r.goto 155 (DX9_findBest_1 24 rfl) rfl ?_
  cases hxt
  exact hret _ _ _ _ (DX9_findBest_1 26 rfl) rfl ⟨(), rfl, rfl⟩
set_option maxRecDepth 100000 in
set_option maxHeartbeats 4000000 in
theorem t_X9_play (E : xE) (a : Nat → Nat) (hM : Mem) {o : Int32 × Mem} (hxt : xt_X9_play hM = some o) : xMI (S := Unit) E yX9_play cX9_play 1 .int 12 0 0 [.ref (a 31)] [(a 31, oX9 a (hM 31)), (a 32, aI E 8 (hM 32)), (a 33, aI E 48 (hM 33)), (a 36, aI E 120 (hM 36)), (a 37, aI E 120 (hM 37)), (a 38, aI E 4096 (hM 38)), (a 39, aI E 4096 (hM 39)), (a 40, aI E 4096 (hM 40)), (a 41, aI E 128 (hM 41)), (a 42, aI E 98 (hM 42)), (a 43, aI E 202 (hM 43)), (a 44, aI E 4 (hM 44))] (fun _ => o.1) (fun _ => [(a 31, oX9 a (o.2 31)), (a 32, aI E 8 (o.2 32)), (a 33, aI E 48 (o.2 33)), (a 36, aI E 120 (hM 36)), (a 37, aI E 120 (hM 37)), (a 38, aI E 4096 (o.2 38)), (a 39, aI E 4096 (o.2 39)), (a 40, aI E 4096 (o.2 40)), (a 41, aI E 128 (o.2 41)), (a 42, aI E 98 (o.2 42)), (a 43, aI E 202 (o.2 43)), (a 44, aI E 4 (o.2 44))]) := by
  refine xMI.of (own := RX9) (lo0 := [(0, .ref (a 31))]) (by decide +kernel) rfl rfl (Nat.le_of_ble_eq_true rfl) (fun V r hret => ?_)
  unfold xt_X9_play at hxt
  refine r.aload_n 0 (DX9_play 0 rfl) rfl ?_
  obtain ⟨o_1, ho_1, hxt⟩ := xbd hxt
  refine r.callVI 0 rfl rfl (t_X9_findBest E a hM ho_1) g_X9_214 rfl (DX9_play 1 rfl) rfl ⟨(Nat.le_of_ble_eq_true rfl), (Nat.le_of_ble_eq_true rfl)⟩ ⟨(Nat.le_of_ble_eq_true rfl), (Nat.le_of_ble_eq_true rfl)⟩ (Nat.le_of_ble_eq_true rfl) [0, 1, 3, 4, 5, 6, 7, 8, 9, 10, 11] [2] rfl rfl rfl rfl (by decide) [1, 2, 0, 3, 4, 5, 6, 7, 8, 9, 10, 11] rfl (ws2 := fun _ => [(a 31, oX9 a (o_1.2 31)), (a 32, aI E 8 (hM 32)), (a 33, aI E 48 (hM 33)), (a 36, aI E 120 (hM 36)), (a 37, aI E 120 (hM 37)), (a 38, aI E 4096 (o_1.2 38)), (a 39, aI E 4096 (o_1.2 39)), (a 40, aI E 4096 (o_1.2 40)), (a 41, aI E 128 (o_1.2 41)), (a 42, aI E 98 (o_1.2 42)), (a 43, aI E 202 (o_1.2 43)), (a 44, aI E 4 (o_1.2 44))]) (fun _ => rfl) (fun _ => ?_)
  refine r.if_ne 10 (DX9_play 2 rfl) rfl hxt (fun _ hxt => ?_) (fun _ hxt => ?_)
  · refine r.aload_n 0 (DX9_play 5 rfl) rfl ?_
    obtain ⟨o_2, ho_2, hxt⟩ := xbd hxt
    refine r.callVV 0 rfl rfl (t_X9_keep E a (mgs hM [31] o_1.2) ho_2) g_X9_192 rfl (DX9_play 6 rfl) rfl ⟨(Nat.le_of_ble_eq_true rfl), (Nat.le_of_ble_eq_true rfl)⟩ ⟨(Nat.le_of_ble_eq_true rfl), (Nat.le_of_ble_eq_true rfl)⟩ (Nat.le_of_ble_eq_true rfl) [0, 1, 2] [3, 4, 5, 6, 7, 8, 9, 10, 11] rfl rfl rfl rfl (by decide) [9, 10, 11, 0, 1, 2, 3, 4, 5, 6, 7, 8] rfl (ws2 := fun _ => [(a 31, oX9 a (o_2 31)), (a 32, aI E 8 (hM 32)), (a 33, aI E 48 (o_2 33)), (a 36, aI E 120 (hM 36)), (a 37, aI E 120 (hM 37)), (a 38, aI E 4096 (o_1.2 38)), (a 39, aI E 4096 (o_1.2 39)), (a 40, aI E 4096 (o_1.2 40)), (a 41, aI E 128 (o_1.2 41)), (a 42, aI E 98 (o_1.2 42)), (a 43, aI E 202 (o_1.2 43)), (a 44, aI E 4 (o_1.2 44))]) (fun _ => rfl) (fun _ => ?_)
    refine r.aload_n 0 (DX9_play 7 rfl) rfl ?_
    refine r.aload_n 0 (DX9_play 8 rfl) rfl ?_
    refine r.get (v := .int ((o_2 31) 17)) kX9 f_X9_180 rfl 0 rfl rfl (DX9_play 9 rfl) ?_
    refine r.aload_n 0 (DX9_play 10 rfl) rfl ?_
    refine r.get (v := .int ((o_2 31) 18)) kX9 f_X9_183 rfl 0 rfl rfl (DX9_play 11 rfl) ?_
    obtain ⟨o_3, ho_3, hxt⟩ := xbd hxt
    refine r.callVI 0 rfl rfl (t_X9_make E a ((o_2 31) 17) ((o_2 31) 18) (mgs (mgs hM [31] o_2) [38, 39, 40, 41, 42, 43, 44] o_1.2) ho_3) g_X9_211 rfl (DX9_play 12 rfl) rfl ⟨(Nat.le_of_ble_eq_true rfl), (Nat.le_of_ble_eq_true rfl)⟩ ⟨(Nat.le_of_ble_eq_true rfl), (Nat.le_of_ble_eq_true rfl)⟩ (Nat.le_of_ble_eq_true rfl) [0, 1, 3, 4, 5, 6, 7, 8, 9, 10, 11] [2] rfl rfl rfl rfl (by decide) [1, 2, 0, 3, 4, 5, 6, 7, 8, 9, 10, 11] rfl (ws2 := fun _ => [(a 31, oX9 a (o_3.2 31)), (a 32, aI E 8 (o_3.2 32)), (a 33, aI E 48 (o_2 33)), (a 36, aI E 120 (hM 36)), (a 37, aI E 120 (hM 37)), (a 38, aI E 4096 (o_3.2 38)), (a 39, aI E 4096 (o_3.2 39)), (a 40, aI E 4096 (o_3.2 40)), (a 41, aI E 128 (o_3.2 41)), (a 42, aI E 98 (o_3.2 42)), (a 43, aI E 202 (o_3.2 43)), (a 44, aI E 4 (o_3.2 44))]) (fun _ => rfl) (fun _ => ?_)
    cases hxt
    exact hret _ _ _ _ (DX9_play 13 rfl) rfl ⟨(), rfl, rfl⟩
  refine r.bipush (v := (-5 : Int32)) (DX9_play 3 rfl) rfl ?_
  cases hxt
  exact hret _ _ _ _ (DX9_play 4 rfl) rfl ⟨(), rfl, rfl⟩
set_option maxRecDepth 100000 in
set_option maxHeartbeats 4000000 in
theorem t_X9_canStand (E : xE) (x0 : Int32) (x1 : Int32) {o : Int32} (hxt : xt_X9_canStand x0 x1 = some o) : xMI (S := Unit) E yX9_canStand cX9_canStand 2 .boolean 0 0 0 [.int x0, .int x1] [] (fun _ => o) (fun _ => []) := by
  refine xMI.of (own := RX9) (lo0 := [(0, .int x0), (1, .int x1)]) (by decide +kernel) rfl rfl (Nat.le_of_ble_eq_true rfl) (fun V r hret => ?_)
  unfold xt_X9_canStand at hxt
  refine r.iload_n 1 (DX9_canStand 0 rfl) rfl ?_
  refine r.bipush (v := (19 : Int32)) (DX9_canStand 1 rfl) rfl ?_
  refine r.icmp_lt 30 (DX9_canStand 2 rfl) rfl hxt (fun _ hxt => ?_) (fun _ hxt => ?_)
  · refine r.iload_n 1 (DX9_canStand 16 rfl) rfl ?_
    refine r.iconst (v := (5 : Int32)) (DX9_canStand 17 rfl) rfl ?_
    refine r.irem (DX9_canStand 18 rfl) (by decide) ?_
    refine r.iconst (v := (4 : Int32)) (DX9_canStand 19 rfl) rfl ?_
    refine r.icmp_ne 51 (DX9_canStand 20 rfl) rfl hxt (fun _ hxt => ?_) (fun _ hxt => ?_)
    · refine r.iload_n 0 (DX9_canStand 28 rfl) rfl ?_
      refine r.bipush (v := (46 : Int32)) (DX9_canStand 29 rfl) rfl ?_
      refine r.icmp_eq 75 (DX9_canStand 30 rfl) rfl hxt (fun _ hxt => ?_) (fun _ hxt => ?_)
      · refine r.iconst (v := (1 : Int32)) (DX9_canStand 40 rfl) rfl ?_
        refine r.goto 80 (DX9_canStand 41 rfl) rfl ?_
        cases hxt
        exact hret _ _ _ _ (DX9_canStand 43 rfl) rfl ⟨(), rfl, rfl⟩
      refine r.iload_n 0 (DX9_canStand 31 rfl) rfl ?_
      refine r.bipush (v := (35 : Int32)) (DX9_canStand 32 rfl) rfl ?_
      refine r.icmp_eq 75 (DX9_canStand 33 rfl) rfl hxt (fun _ hxt => ?_) (fun _ hxt => ?_)
      · refine r.iconst (v := (1 : Int32)) (DX9_canStand 40 rfl) rfl ?_
        refine r.goto 80 (DX9_canStand 41 rfl) rfl ?_
        cases hxt
        exact hret _ _ _ _ (DX9_canStand 43 rfl) rfl ⟨(), rfl, rfl⟩
      refine r.iload_n 0 (DX9_canStand 34 rfl) rfl ?_
      refine r.bipush (v := (70 : Int32)) (DX9_canStand 35 rfl) rfl ?_
      refine r.icmp_eq 75 (DX9_canStand 36 rfl) rfl hxt (fun _ hxt => ?_) (fun _ hxt => ?_)
      · refine r.iconst (v := (1 : Int32)) (DX9_canStand 40 rfl) rfl ?_
        refine r.goto 80 (DX9_canStand 41 rfl) rfl ?_
        cases hxt
        exact hret _ _ _ _ (DX9_canStand 43 rfl) rfl ⟨(), rfl, rfl⟩
      refine r.iload_n 0 (DX9_canStand 37 rfl) rfl ?_
      refine r.bipush (v := (72 : Int32)) (DX9_canStand 38 rfl) rfl ?_
      refine r.icmp_ne 79 (DX9_canStand 39 rfl) rfl hxt (fun _ hxt => ?_) (fun _ hxt => ?_)
      · refine r.iconst (v := (0 : Int32)) (DX9_canStand 42 rfl) rfl ?_
        cases hxt
        exact hret _ _ _ _ (DX9_canStand 43 rfl) rfl ⟨(), rfl, rfl⟩
      refine r.iconst (v := (1 : Int32)) (DX9_canStand 40 rfl) rfl ?_
      refine r.goto 80 (DX9_canStand 41 rfl) rfl ?_
      cases hxt
      exact hret _ _ _ _ (DX9_canStand 43 rfl) rfl ⟨(), rfl, rfl⟩
    refine r.iload_n 0 (DX9_canStand 21 rfl) rfl ?_
    refine r.bipush (v := (47 : Int32)) (DX9_canStand 22 rfl) rfl ?_
    refine r.icmp_ne 47 (DX9_canStand 23 rfl) rfl hxt (fun _ hxt => ?_) (fun _ hxt => ?_)
    · refine r.iconst (v := (0 : Int32)) (DX9_canStand 26 rfl) rfl ?_
      refine r.goto 80 (DX9_canStand 27 rfl) rfl ?_
      cases hxt
      exact hret _ _ _ _ (DX9_canStand 43 rfl) rfl ⟨(), rfl, rfl⟩
    refine r.iconst (v := (1 : Int32)) (DX9_canStand 24 rfl) rfl ?_
    refine r.goto 80 (DX9_canStand 25 rfl) rfl ?_
    cases hxt
    exact hret _ _ _ _ (DX9_canStand 43 rfl) rfl ⟨(), rfl, rfl⟩
  refine r.iload_n 1 (DX9_canStand 3 rfl) rfl ?_
  refine r.bipush (v := (19 : Int32)) (DX9_canStand 4 rfl) rfl ?_
  refine r.icmp_ne 28 (DX9_canStand 5 rfl) rfl hxt (fun _ hxt => ?_) (fun _ hxt => ?_)
  · refine r.iconst (v := (0 : Int32)) (DX9_canStand 14 rfl) rfl ?_
    cases hxt
    exact hret _ _ _ _ (DX9_canStand 15 rfl) rfl ⟨(), rfl, rfl⟩
  refine r.iload_n 0 (DX9_canStand 6 rfl) rfl ?_
  refine r.bipush (v := (104 : Int32)) (DX9_canStand 7 rfl) rfl ?_
  refine r.icmp_eq 24 (DX9_canStand 8 rfl) rfl hxt (fun _ hxt => ?_) (fun _ hxt => ?_)
  · refine r.iconst (v := (1 : Int32)) (DX9_canStand 12 rfl) rfl ?_
    refine r.goto 29 (DX9_canStand 13 rfl) rfl ?_
    cases hxt
    exact hret _ _ _ _ (DX9_canStand 15 rfl) rfl ⟨(), rfl, rfl⟩
  refine r.iload_n 0 (DX9_canStand 9 rfl) rfl ?_
  refine r.bipush (v := (102 : Int32)) (DX9_canStand 10 rfl) rfl ?_
  refine r.icmp_ne 28 (DX9_canStand 11 rfl) rfl hxt (fun _ hxt => ?_) (fun _ hxt => ?_)
  · refine r.iconst (v := (0 : Int32)) (DX9_canStand 14 rfl) rfl ?_
    cases hxt
    exact hret _ _ _ _ (DX9_canStand 15 rfl) rfl ⟨(), rfl, rfl⟩
  refine r.iconst (v := (1 : Int32)) (DX9_canStand 12 rfl) rfl ?_
  refine r.goto 29 (DX9_canStand 13 rfl) rfl ?_
  cases hxt
  exact hret _ _ _ _ (DX9_canStand 15 rfl) rfl ⟨(), rfl, rfl⟩
set_option maxRecDepth 100000 in
set_option maxHeartbeats 4000000 in
theorem l_X9_fault_2 (E : xE) (a : Nat → Nat) (hM : Mem) {V : xVT} (r : Rl E RX9 cX9_fault (xR 1 0 0) 2 false V) {o : Int32} {k : Int32 → Option (Int32)} (hk : ∀ (v1 : Int32), k v1 = some o → V 0 0 29 [(0, .ref (a 31)), (1, .int v1)] [] [(a 31, oX9 a (hM 31)), (a 45, aI E 24 (hM 45))]) : ∀ (n : Nat) (v1 : Int32), xt_X9_fault_l2 hM k n v1 = some o → V 0 0 2 [(0, .ref (a 31)), (1, .int v1)] [] [(a 31, oX9 a (hM 31)), (a 45, aI E 24 (hM 45))] := by
  intro n
  induction n with
  | zero => intro v1 hxt; exact xno hxt
  | succ n ih =>
    intro v1 hxt
    rw [xt_X9_fault_l2] at hxt
    refine r.iload_n 1 (DX9_fault 2 rfl) rfl ?_
    refine r.aload_n 0 (DX9_fault 3 rfl) rfl ?_
    refine r.get (v := .int ((hM 31) 20)) kX9 f_X9_223 rfl 0 rfl rfl (DX9_fault 4 rfl) ?_
    refine r.icmp_ge 29 (DX9_fault 5 rfl) rfl hxt (fun _ hxt => ?_) (fun _ hxt => ?_)
    · exact hk v1 hxt
    refine r.aload_n 0 (DX9_fault 6 rfl) rfl ?_
    refine r.get (v := .ref (a 45)) kX9 f_X9_50 rfl 0 rfl rfl (DX9_fault 7 rfl) ?_
    refine r.iload_n 1 (DX9_fault 8 rfl) rfl ?_
    obtain ⟨hin, hxt⟩ := xgd_some hxt
    refine r.iald 1 rfl hin (DX9_fault 9 rfl) ?_
    refine r.iload_n 1 (DX9_fault 10 rfl) rfl ?_
    obtain ⟨o_1, ho_1, hxt⟩ := xbd hxt
    refine r.callSI0 (t_X9_canStand E ((hM 45) v1.toNatClampNeg) v1 ho_1) g_X9_256 rfl (DX9_fault 11 rfl) rfl ⟨(Nat.le_of_ble_eq_true rfl), (Nat.le_of_ble_eq_true rfl)⟩ (Nat.le_of_ble_eq_true rfl) ?_
    refine r.if_eq 29 (DX9_fault 12 rfl) rfl hxt (fun _ hxt => ?_) (fun _ hxt => ?_)
    · exact hk v1 hxt
    refine r.iinc (v := (v1 + (1 : Int32))) (lo' := [(1, .int (v1 + (1 : Int32))), (0, .ref (a 31))]) 1 (DX9_fault 13 rfl) rfl rfl (Nat.le_of_ble_eq_true rfl) rfl ?_
    refine r.goto 2 (DX9_fault 14 rfl) rfl ?_
    refine r.rel (lo' := [(0, .ref (a 31)), (1, .int (v1 + (1 : Int32)))]) [1, 0] rfl ?_
    exact ih (v1 + (1 : Int32)) hxt
set_option maxRecDepth 100000 in
set_option maxHeartbeats 4000000 in
theorem t_X9_fault (E : xE) (a : Nat → Nat) (hM : Mem) {o : Int32} (hxt : xt_X9_fault hM = some o) : xMI (S := Unit) E yX9_fault cX9_fault 2 .int 1 0 0 [.ref (a 31)] [(a 31, oX9 a (hM 31)), (a 45, aI E 24 (hM 45))] (fun _ => o) (fun _ => [(a 31, oX9 a (hM 31)), (a 45, aI E 24 (hM 45))]) := by
  refine xMI.of (own := RX9) (lo0 := [(0, .ref (a 31))]) (by decide +kernel) rfl rfl (Nat.le_of_ble_eq_true rfl) (fun V r hret => ?_)
  unfold xt_X9_fault at hxt
  refine r.iconst (v := (0 : Int32)) (DX9_fault 0 rfl) rfl ?_
  refine r.istore_n (lo' := [(1, .int (0 : Int32)), (0, .ref (a 31))]) (DX9_fault 1 rfl) (Nat.le_of_ble_eq_true rfl) rfl ?_
  refine r.rel (lo' := [(0, .ref (a 31)), (1, .int (0 : Int32))]) [1, 0] rfl ?_
  refine l_X9_fault_2 E a hM r (fun v1_2 hxt => ?_) 10000 (0 : Int32) hxt
  refine r.iload_n 1 (DX9_fault 15 rfl) rfl ?_
  refine r.aload_n 0 (DX9_fault 16 rfl) rfl ?_
  refine r.get (v := .int ((hM 31) 20)) kX9 f_X9_223 rfl 0 rfl rfl (DX9_fault 17 rfl) ?_
  refine r.icmp_lt 43 (DX9_fault 18 rfl) rfl hxt (fun _ hxt => ?_) (fun _ hxt => ?_)
  · refine r.iload_n 1 (DX9_fault 22 rfl) rfl ?_
    refine r.goto 49 (DX9_fault 23 rfl) rfl ?_
    cases hxt
    exact hret _ _ _ _ (DX9_fault 25 rfl) rfl ⟨(), rfl, rfl⟩
  refine r.iload_n 1 (DX9_fault 19 rfl) rfl ?_
  refine r.bipush (v := (20 : Int32)) (DX9_fault 20 rfl) rfl ?_
  refine r.icmp_ge 47 (DX9_fault 21 rfl) rfl hxt (fun _ hxt => ?_) (fun _ hxt => ?_)
  · refine r.bipush (v := (-6 : Int32)) (DX9_fault 24 rfl) rfl ?_
    cases hxt
    exact hret _ _ _ _ (DX9_fault 25 rfl) rfl ⟨(), rfl, rfl⟩
  refine r.iload_n 1 (DX9_fault 22 rfl) rfl ?_
  refine r.goto 49 (DX9_fault 23 rfl) rfl ?_
  cases hxt
  exact hret _ _ _ _ (DX9_fault 25 rfl) rfl ⟨(), rfl, rfl⟩
set_option maxRecDepth 100000 in
set_option maxHeartbeats 4000000 in
theorem l_X9_placesOf_4 (E : xE) (a : Nat → Nat) (x1 : Int32) (hM : Mem) {V : xVT} (r : Rl E RX9 cX9_placesOf (xR 0 0 0) 4 false V) {o : Int32} {k : Int32 → Option (Int32)} (hk : ∀ (v2 : Int32), k v2 = some o → V 0 0 44 [(2, .int v2)] [] [(a 31, oX9 a (hM 31)), (a 45, aI E 24 (hM 45))]) : ∀ (n : Nat) (v2 : Int32) (v3 : Int32), xt_X9_placesOf_l4 x1 hM k n v2 v3 = some o → V 0 0 4 [(0, .ref (a 31)), (1, .int x1), (2, .int v2), (3, .int v3)] [] [(a 31, oX9 a (hM 31)), (a 45, aI E 24 (hM 45))] := by
  intro n
  induction n with
  | zero => intro v2 v3 hxt; exact xno hxt
  | succ n ih =>
    intro v2 v3 hxt
    rw [xt_X9_placesOf_l4] at hxt
    refine r.iload_n 3 (DX9_placesOf 4 rfl) rfl ?_
    refine r.bipush (v := (16 : Int32)) (DX9_placesOf 5 rfl) rfl ?_
    refine r.icmp_ge 44 (DX9_placesOf 6 rfl) rfl hxt (fun _ hxt => ?_) (fun _ hxt => ?_)
    · refine r.rel (lo' := [(2, .int v2)]) [2] rfl ?_
      exact hk v2 hxt
    refine r.iload_n 2 (DX9_placesOf 7 rfl) rfl ?_
    refine r.aload_n 0 (DX9_placesOf 8 rfl) rfl ?_
    refine r.get (v := .ref (a 45)) kX9 f_X9_50 rfl 0 rfl rfl (DX9_placesOf 9 rfl) ?_
    refine r.iload_n 3 (DX9_placesOf 10 rfl) rfl ?_
    refine r.iconst (v := (4 : Int32)) (DX9_placesOf 11 rfl) rfl ?_
    refine r.idiv (DX9_placesOf 12 rfl) (by decide) ?_
    refine r.iconst (v := (5 : Int32)) (DX9_placesOf 13 rfl) rfl ?_
    refine r.imul (DX9_placesOf 14 rfl) ?_
    refine r.iload_n 3 (DX9_placesOf 15 rfl) rfl ?_
    refine r.iconst (v := (4 : Int32)) (DX9_placesOf 16 rfl) rfl ?_
    refine r.irem (DX9_placesOf 17 rfl) (by decide) ?_
    refine r.iadd (DX9_placesOf 18 rfl) ?_
    obtain ⟨hin, hxt⟩ := xgd_some hxt
    refine r.iald 1 rfl hin (DX9_placesOf 19 rfl) ?_
    refine r.iload_n 1 (DX9_placesOf 20 rfl) rfl ?_
    refine r.icmp_ne 35 (DX9_placesOf 21 rfl) rfl hxt (fun _ hxt => ?_) (fun _ hxt => ?_)
    · refine r.iconst (v := (0 : Int32)) (DX9_placesOf 26 rfl) rfl ?_
      refine r.ior (DX9_placesOf 27 rfl) ?_
      refine r.istore_n (lo' := [(2, .int (v2 ||| (0 : Int32))), (0, .ref (a 31)), (1, .int x1), (3, .int v3)]) (DX9_placesOf 28 rfl) (Nat.le_of_ble_eq_true rfl) rfl ?_
      refine r.iinc (v := (v3 + (1 : Int32))) (lo' := [(3, .int (v3 + (1 : Int32))), (2, .int (v2 ||| (0 : Int32))), (0, .ref (a 31)), (1, .int x1)]) 3 (DX9_placesOf 29 rfl) rfl rfl (Nat.le_of_ble_eq_true rfl) rfl ?_
      refine r.goto 4 (DX9_placesOf 30 rfl) rfl ?_
      refine r.rel (lo' := [(0, .ref (a 31)), (1, .int x1), (2, .int (v2 ||| (0 : Int32))), (3, .int (v3 + (1 : Int32)))]) [2, 3, 1, 0] rfl ?_
      exact ih (v2 ||| (0 : Int32)) (v3 + (1 : Int32)) hxt
    refine r.iconst (v := (1 : Int32)) (DX9_placesOf 22 rfl) rfl ?_
    refine r.iload_n 3 (DX9_placesOf 23 rfl) rfl ?_
    refine r.ishl (DX9_placesOf 24 rfl) ?_
    refine r.goto 36 (DX9_placesOf 25 rfl) rfl ?_
    refine r.ior (DX9_placesOf 27 rfl) ?_
    refine r.istore_n (lo' := [(2, .int (v2 ||| ((1 : Int32) <<< (v3 &&& 31)))), (0, .ref (a 31)), (1, .int x1), (3, .int v3)]) (DX9_placesOf 28 rfl) (Nat.le_of_ble_eq_true rfl) rfl ?_
    refine r.iinc (v := (v3 + (1 : Int32))) (lo' := [(3, .int (v3 + (1 : Int32))), (2, .int (v2 ||| ((1 : Int32) <<< (v3 &&& 31)))), (0, .ref (a 31)), (1, .int x1)]) 3 (DX9_placesOf 29 rfl) rfl rfl (Nat.le_of_ble_eq_true rfl) rfl ?_
    refine r.goto 4 (DX9_placesOf 30 rfl) rfl ?_
    refine r.rel (lo' := [(0, .ref (a 31)), (1, .int x1), (2, .int (v2 ||| ((1 : Int32) <<< (v3 &&& 31)))), (3, .int (v3 + (1 : Int32)))]) [2, 3, 1, 0] rfl ?_
    exact ih (v2 ||| ((1 : Int32) <<< (v3 &&& 31))) (v3 + (1 : Int32)) hxt
set_option maxRecDepth 100000 in
set_option maxHeartbeats 4000000 in
theorem t_X9_placesOf (E : xE) (a : Nat → Nat) (x1 : Int32) (hM : Mem) {o : Int32} (hxt : xt_X9_placesOf x1 hM = some o) : xMI (S := Unit) E yX9_placesOf cX9_placesOf 4 .int 0 0 0 [.ref (a 31), .int x1] [(a 31, oX9 a (hM 31)), (a 45, aI E 24 (hM 45))] (fun _ => o) (fun _ => [(a 31, oX9 a (hM 31)), (a 45, aI E 24 (hM 45))]) := by
  refine xMI.of (own := RX9) (lo0 := [(0, .ref (a 31)), (1, .int x1)]) (by decide +kernel) rfl rfl (Nat.le_of_ble_eq_true rfl) (fun V r hret => ?_)
  unfold xt_X9_placesOf at hxt
  refine r.iconst (v := (0 : Int32)) (DX9_placesOf 0 rfl) rfl ?_
  refine r.istore_n (lo' := [(2, .int (0 : Int32)), (0, .ref (a 31)), (1, .int x1)]) (DX9_placesOf 1 rfl) (Nat.le_of_ble_eq_true rfl) rfl ?_
  refine r.iconst (v := (0 : Int32)) (DX9_placesOf 2 rfl) rfl ?_
  refine r.istore_n (lo' := [(3, .int (0 : Int32)), (2, .int (0 : Int32)), (0, .ref (a 31)), (1, .int x1)]) (DX9_placesOf 3 rfl) (Nat.le_of_ble_eq_true rfl) rfl ?_
  refine r.rel (lo' := [(0, .ref (a 31)), (1, .int x1), (2, .int (0 : Int32)), (3, .int (0 : Int32))]) [2, 3, 1, 0] rfl ?_
  refine l_X9_placesOf_4 E a x1 hM r (fun v2_1 hxt => ?_) 10000 (0 : Int32) (0 : Int32) hxt
  refine r.iload_n 0 (DX9_placesOf 31 rfl) rfl ?_
  cases hxt
  exact hret _ _ _ _ (DX9_placesOf 32 rfl) rfl ⟨(), rfl, rfl⟩
set_option maxRecDepth 100000 in
set_option maxHeartbeats 4000000 in
theorem l_X9_lowest_2 (E : xE) (x0 : Int32) {V : xVT} (r : Rl E RX9 cX9_lowest (xR 1 0 0) 2 false V) {o : Int32} {k : Int32 → Option (Int32)} (hk : ∀ (v1 : Int32), k v1 = some o → V 0 0 16 [(1, .int v1)] [] []) : ∀ (n : Nat) (v1 : Int32), xt_X9_lowest_l2 x0 k n v1 = some o → V 0 0 2 [(0, .int x0), (1, .int v1)] [] [] := by
  intro n
  induction n with
  | zero => intro v1 hxt; exact xno hxt
  | succ n ih =>
    intro v1 hxt
    rw [xt_X9_lowest_l2] at hxt
    refine r.iload_n 0 (DX9_lowest 2 rfl) rfl ?_
    refine r.iload_n 1 (DX9_lowest 3 rfl) rfl ?_
    obtain ⟨o_1, ho_1, hxt⟩ := xbd hxt
    refine r.callSI0 (t_X9_has E x0 v1 ho_1) g_X9_78 rfl (DX9_lowest 4 rfl) rfl ⟨(Nat.le_of_ble_eq_true rfl), (Nat.le_of_ble_eq_true rfl)⟩ (Nat.le_of_ble_eq_true rfl) ?_
    refine r.if_ne 16 (DX9_lowest 5 rfl) rfl hxt (fun _ hxt => ?_) (fun _ hxt => ?_)
    · refine r.rel (lo' := [(1, .int v1)]) [1] rfl ?_
      exact hk v1 hxt
    refine r.iinc (v := (v1 + (1 : Int32))) (lo' := [(1, .int (v1 + (1 : Int32))), (0, .int x0)]) 1 (DX9_lowest 6 rfl) rfl rfl (Nat.le_of_ble_eq_true rfl) rfl ?_
    refine r.goto 2 (DX9_lowest 7 rfl) rfl ?_
    refine r.rel (lo' := [(0, .int x0), (1, .int (v1 + (1 : Int32)))]) [1, 0] rfl ?_
    exact ih (v1 + (1 : Int32)) hxt
set_option maxRecDepth 100000 in
set_option maxHeartbeats 4000000 in
theorem t_X9_lowest (E : xE) (x0 : Int32) {o : Int32} (hxt : xt_X9_lowest x0 = some o) : xMI (S := Unit) E yX9_lowest cX9_lowest 2 .int 1 0 0 [.int x0] [] (fun _ => o) (fun _ => []) := by
  refine xMI.of (own := RX9) (lo0 := [(0, .int x0)]) (by decide +kernel) rfl rfl (Nat.le_of_ble_eq_true rfl) (fun V r hret => ?_)
  unfold xt_X9_lowest at hxt
  refine r.iconst (v := (0 : Int32)) (DX9_lowest 0 rfl) rfl ?_
  refine r.istore_n (lo' := [(1, .int (0 : Int32)), (0, .int x0)]) (DX9_lowest 1 rfl) (Nat.le_of_ble_eq_true rfl) rfl ?_
  refine r.rel (lo' := [(0, .int x0), (1, .int (0 : Int32))]) [1, 0] rfl ?_
  refine l_X9_lowest_2 E x0 r (fun v1_2 hxt => ?_) 10000 (0 : Int32) hxt
  refine r.iload_n 0 (DX9_lowest 8 rfl) rfl ?_
  cases hxt
  exact hret _ _ _ _ (DX9_lowest 9 rfl) rfl ⟨(), rfl, rfl⟩
set_option maxRecDepth 100000 in
set_option maxHeartbeats 4000000 in
theorem t_X9_readPad (E : xE) (a : Nat → Nat) (hM : Mem) {o : Int32 × Mem} (hxt : xt_X9_readPad hM = some o) : xMI (S := Unit) E yX9_readPad cX9_readPad 4 .int 11 0 0 [.ref (a 31)] [(a 31, oX9 a (hM 31)), (a 32, aI E 8 (hM 32)), (a 33, aI E 48 (hM 33)), (a 36, aI E 120 (hM 36)), (a 37, aI E 120 (hM 37)), (a 38, aI E 4096 (hM 38)), (a 39, aI E 4096 (hM 39)), (a 40, aI E 4096 (hM 40)), (a 41, aI E 128 (hM 41)), (a 42, aI E 98 (hM 42)), (a 43, aI E 202 (hM 43)), (a 44, aI E 4 (hM 44)), (a 45, aI E 24 (hM 45))] (fun _ => o.1) (fun _ => [(a 31, oX9 a (o.2 31)), (a 32, aI E 8 (o.2 32)), (a 33, aI E 48 (o.2 33)), (a 36, aI E 120 (hM 36)), (a 37, aI E 120 (hM 37)), (a 38, aI E 4096 (o.2 38)), (a 39, aI E 4096 (o.2 39)), (a 40, aI E 4096 (o.2 40)), (a 41, aI E 128 (o.2 41)), (a 42, aI E 98 (o.2 42)), (a 43, aI E 202 (o.2 43)), (a 44, aI E 4 (o.2 44)), (a 45, aI E 24 (hM 45))]) := by
  refine xMI.of (own := RX9) (lo0 := [(0, .ref (a 31))]) (by decide +kernel) rfl rfl (Nat.le_of_ble_eq_true rfl) (fun V r hret => ?_)
  unfold xt_X9_readPad at hxt
  refine r.aload_n 0 (DX9_readPad_0 0 rfl) rfl ?_
  obtain ⟨o_1, ho_1, hxt⟩ := xbd hxt
  refine r.callVI 0 rfl rfl (t_X9_fault E a hM ho_1) g_X9_259 rfl (DX9_readPad_0 1 rfl) rfl ⟨(Nat.le_of_ble_eq_true rfl), (Nat.le_of_ble_eq_true rfl)⟩ ⟨(Nat.le_of_ble_eq_true rfl), (Nat.le_of_ble_eq_true rfl)⟩ (Nat.le_of_ble_eq_true rfl) [0, 12] [1, 2, 3, 4, 5, 6, 7, 8, 9, 10, 11] rfl rfl rfl rfl (by decide) [11, 0, 1, 2, 3, 4, 5, 6, 7, 8, 9, 10, 12] rfl (ws2 := fun _ => [(a 31, oX9 a (hM 31)), (a 32, aI E 8 (hM 32)), (a 33, aI E 48 (hM 33)), (a 36, aI E 120 (hM 36)), (a 37, aI E 120 (hM 37)), (a 38, aI E 4096 (hM 38)), (a 39, aI E 4096 (hM 39)), (a 40, aI E 4096 (hM 40)), (a 41, aI E 128 (hM 41)), (a 42, aI E 98 (hM 42)), (a 43, aI E 202 (hM 43)), (a 44, aI E 4 (hM 44)), (a 45, aI E 24 (hM 45))]) (fun _ => rfl) (fun _ => ?_)
  refine r.if_lt 10 (DX9_readPad_0 2 rfl) rfl hxt (fun _ hxt => ?_) (fun _ hxt => ?_)
  · refine r.aload_n 0 (DX9_readPad_0 5 rfl) rfl ?_
    refine r.bipush (v := (72 : Int32)) (DX9_readPad_0 6 rfl) rfl ?_
    obtain ⟨o_2, ho_2, hxt⟩ := xbd hxt
    refine r.callVI 0 rfl rfl (t_X9_placesOf E a (72 : Int32) hM ho_2) g_X9_262 rfl (DX9_readPad_0 7 rfl) rfl ⟨(Nat.le_of_ble_eq_true rfl), (Nat.le_of_ble_eq_true rfl)⟩ ⟨(Nat.le_of_ble_eq_true rfl), (Nat.le_of_ble_eq_true rfl)⟩ (Nat.le_of_ble_eq_true rfl) [0, 12] [1, 2, 3, 4, 5, 6, 7, 8, 9, 10, 11] rfl rfl rfl rfl (by decide) [11, 0, 1, 2, 3, 4, 5, 6, 7, 8, 9, 10, 12] rfl (ws2 := fun _ => [(a 31, oX9 a (hM 31)), (a 32, aI E 8 (hM 32)), (a 33, aI E 48 (hM 33)), (a 36, aI E 120 (hM 36)), (a 37, aI E 120 (hM 37)), (a 38, aI E 4096 (hM 38)), (a 39, aI E 4096 (hM 39)), (a 40, aI E 4096 (hM 40)), (a 41, aI E 128 (hM 41)), (a 42, aI E 98 (hM 42)), (a 43, aI E 202 (hM 43)), (a 44, aI E 4 (hM 44)), (a 45, aI E 24 (hM 45))]) (fun _ => rfl) (fun _ => ?_)
    refine r.istore_n (lo' := [(1, .int o_2), (0, .ref (a 31))]) (DX9_readPad_0 8 rfl) (Nat.le_of_ble_eq_true rfl) rfl ?_
    refine r.aload_n 1 (DX9_readPad_0 9 rfl) rfl ?_
    refine r.bipush (v := (70 : Int32)) (DX9_readPad_0 10 rfl) rfl ?_
    obtain ⟨o_3, ho_3, hxt⟩ := xbd hxt
    refine r.callVI 0 rfl rfl (t_X9_placesOf E a (70 : Int32) hM ho_3) g_X9_262 rfl (DX9_readPad_0 11 rfl) rfl ⟨(Nat.le_of_ble_eq_true rfl), (Nat.le_of_ble_eq_true rfl)⟩ ⟨(Nat.le_of_ble_eq_true rfl), (Nat.le_of_ble_eq_true rfl)⟩ (Nat.le_of_ble_eq_true rfl) [0, 12] [1, 2, 3, 4, 5, 6, 7, 8, 9, 10, 11] rfl rfl rfl rfl (by decide) [11, 0, 1, 2, 3, 4, 5, 6, 7, 8, 9, 10, 12] rfl (ws2 := fun _ => [(a 31, oX9 a (hM 31)), (a 32, aI E 8 (hM 32)), (a 33, aI E 48 (hM 33)), (a 36, aI E 120 (hM 36)), (a 37, aI E 120 (hM 37)), (a 38, aI E 4096 (hM 38)), (a 39, aI E 4096 (hM 39)), (a 40, aI E 4096 (hM 40)), (a 41, aI E 128 (hM 41)), (a 42, aI E 98 (hM 42)), (a 43, aI E 202 (hM 43)), (a 44, aI E 4 (hM 44)), (a 45, aI E 24 (hM 45))]) (fun _ => rfl) (fun _ => ?_)
    refine r.istore_n (lo' := [(2, .int o_3), (1, .int o_2), (0, .ref (a 31))]) (DX9_readPad_0 12 rfl) (Nat.le_of_ble_eq_true rfl) rfl ?_
    refine r.iload_n 1 (DX9_readPad_0 13 rfl) rfl ?_
    obtain ⟨o_4, ho_4, hxt⟩ := xbd hxt
    refine r.callSI0 (t_X9_many E o_2 ho_4) g_X9_198 rfl (DX9_readPad_0 14 rfl) rfl ⟨(Nat.le_of_ble_eq_true rfl), (Nat.le_of_ble_eq_true rfl)⟩ (Nat.le_of_ble_eq_true rfl) ?_
    refine r.iconst (v := (2 : Int32)) (DX9_readPad_0 15 rfl) rfl ?_
    refine r.icmp_ne 40 (DX9_readPad_0 16 rfl) rfl hxt (fun _ hxt => ?_) (fun _ hxt => ?_)
    · refine r.bipush (v := (-5 : Int32)) (DX9_readPad_0 21 rfl) rfl ?_
      cases hxt
      exact hret _ _ _ _ (DX9_readPad_0 22 rfl) rfl ⟨(), rfl, rfl⟩
    refine r.iload_n 0 (DX9_readPad_0 17 rfl) rfl ?_
    obtain ⟨o_5, ho_5, hxt⟩ := xbd hxt
    refine r.callSI0 (t_X9_many E o_3 ho_5) g_X9_198 rfl (DX9_readPad_0 18 rfl) rfl ⟨(Nat.le_of_ble_eq_true rfl), (Nat.le_of_ble_eq_true rfl)⟩ (Nat.le_of_ble_eq_true rfl) ?_
    refine r.iconst (v := (1 : Int32)) (DX9_readPad_0 19 rfl) rfl ?_
    refine r.icmp_eq 43 (DX9_readPad_0 20 rfl) rfl hxt (fun _ hxt => ?_) (fun _ hxt => ?_)
    · refine r.aload_n 2 (DX9_readPad_0 23 rfl) rfl ?_
      refine r.bipush (v := (35 : Int32)) (DX9_readPad_0 24 rfl) rfl ?_
      obtain ⟨o_6, ho_6, hxt⟩ := xbd hxt
      refine r.callVI 0 rfl rfl (t_X9_placesOf E a (35 : Int32) hM ho_6) g_X9_262 rfl (DX9_readPad_0 25 rfl) rfl ⟨(Nat.le_of_ble_eq_true rfl), (Nat.le_of_ble_eq_true rfl)⟩ ⟨(Nat.le_of_ble_eq_true rfl), (Nat.le_of_ble_eq_true rfl)⟩ (Nat.le_of_ble_eq_true rfl) [0, 12] [1, 2, 3, 4, 5, 6, 7, 8, 9, 10, 11] rfl rfl rfl rfl (by decide) [11, 0, 1, 2, 3, 4, 5, 6, 7, 8, 9, 10, 12] rfl (ws2 := fun _ => [(a 31, oX9 a (hM 31)), (a 32, aI E 8 (hM 32)), (a 33, aI E 48 (hM 33)), (a 36, aI E 120 (hM 36)), (a 37, aI E 120 (hM 37)), (a 38, aI E 4096 (hM 38)), (a 39, aI E 4096 (hM 39)), (a 40, aI E 4096 (hM 40)), (a 41, aI E 128 (hM 41)), (a 42, aI E 98 (hM 42)), (a 43, aI E 202 (hM 43)), (a 44, aI E 4 (hM 44)), (a 45, aI E 24 (hM 45))]) (fun _ => rfl) (fun _ => ?_)
      obtain ⟨o_7, ho_7, hxt⟩ := xbd hxt
      refine r.callSI0 (t_X9_many E o_6 ho_7) g_X9_198 rfl (DX9_readPad_0 26 rfl) rfl ⟨(Nat.le_of_ble_eq_true rfl), (Nat.le_of_ble_eq_true rfl)⟩ (Nat.le_of_ble_eq_true rfl) ?_
      refine r.bipush (v := (6 : Int32)) (DX9_readPad_0 27 rfl) rfl ?_
      refine r.icmp_le 60 (DX9_readPad_0 28 rfl) rfl hxt (fun _ hxt => ?_) (fun _ hxt => ?_)
      · refine r.aload_n 2 (DX9_readPad_0 31 rfl) rfl ?_
        obtain ⟨o_8, ho_8, hxt⟩ := xbd hxt
        refine r.callVV 0 rfl rfl (t_X9_keep E a hM ho_8) g_X9_192 rfl (DX9_readPad_0 32 rfl) rfl ⟨(Nat.le_of_ble_eq_true rfl), (Nat.le_of_ble_eq_true rfl)⟩ ⟨(Nat.le_of_ble_eq_true rfl), (Nat.le_of_ble_eq_true rfl)⟩ (Nat.le_of_ble_eq_true rfl) [0, 1, 2] [3, 4, 5, 6, 7, 8, 9, 10, 11, 12] rfl rfl rfl rfl (by decide) [10, 11, 12, 0, 1, 2, 3, 4, 5, 6, 7, 8, 9] rfl (ws2 := fun _ => [(a 31, oX9 a (o_8 31)), (a 32, aI E 8 (hM 32)), (a 33, aI E 48 (o_8 33)), (a 36, aI E 120 (hM 36)), (a 37, aI E 120 (hM 37)), (a 38, aI E 4096 (hM 38)), (a 39, aI E 4096 (hM 39)), (a 40, aI E 4096 (hM 40)), (a 41, aI E 128 (hM 41)), (a 42, aI E 98 (hM 42)), (a 43, aI E 202 (hM 43)), (a 44, aI E 4 (hM 44)), (a 45, aI E 24 (hM 45))]) (fun _ => rfl) (fun _ => ?_)
        refine r.iload_n 1 (DX9_readPad_0 33 rfl) rfl ?_
        obtain ⟨o_9, ho_9, hxt⟩ := xbd hxt
        refine r.callSI0 (t_X9_lowest E o_2 ho_9) g_X9_265 rfl (DX9_readPad_0 34 rfl) rfl ⟨(Nat.le_of_ble_eq_true rfl), (Nat.le_of_ble_eq_true rfl)⟩ (Nat.le_of_ble_eq_true rfl) ?_
        refine r.istore_n (lo' := [(3, .int o_9), (2, .int o_3), (1, .int o_2), (0, .ref (a 31))]) (DX9_readPad_0 35 rfl) (Nat.le_of_ble_eq_true rfl) rfl ?_
        refine r.aload_n 3 (DX9_readPad_0 36 rfl) rfl ?_
        refine r.get (v := .ref (a 32)) kX9 f_X9_7 rfl 0 rfl rfl (DX9_readPad_0 37 rfl) ?_
        refine r.iconst (v := (3 : Int32)) (DX9_readPad_0 38 rfl) rfl ?_
        refine r.aload_n 3 (DX9_readPad_0 39 rfl) rfl ?_
        refine r.bipush (v := (35 : Int32)) (DX9_readPad_0 40 rfl) rfl ?_
        obtain ⟨o_10, ho_10, hxt⟩ := xbd hxt
        refine r.callVI 0 rfl rfl (t_X9_placesOf E a (35 : Int32) (mgs hM [31] o_8) ho_10) g_X9_262 rfl (DX9_readPad_0 41 rfl) rfl ⟨(Nat.le_of_ble_eq_true rfl), (Nat.le_of_ble_eq_true rfl)⟩ ⟨(Nat.le_of_ble_eq_true rfl), (Nat.le_of_ble_eq_true rfl)⟩ (Nat.le_of_ble_eq_true rfl) [0, 12] [1, 2, 3, 4, 5, 6, 7, 8, 9, 10, 11] rfl rfl rfl rfl (by decide) [11, 0, 1, 2, 3, 4, 5, 6, 7, 8, 9, 10, 12] rfl (ws2 := fun _ => [(a 31, oX9 a (o_8 31)), (a 32, aI E 8 (hM 32)), (a 33, aI E 48 (o_8 33)), (a 36, aI E 120 (hM 36)), (a 37, aI E 120 (hM 37)), (a 38, aI E 4096 (hM 38)), (a 39, aI E 4096 (hM 39)), (a 40, aI E 4096 (hM 40)), (a 41, aI E 128 (hM 41)), (a 42, aI E 98 (hM 42)), (a 43, aI E 202 (hM 43)), (a 44, aI E 4 (hM 44)), (a 45, aI E 24 (hM 45))]) (fun _ => rfl) (fun _ => ?_)
        obtain ⟨hin, hxt⟩ := xgd_some hxt
        refine r.iast (ws' := [(a 31, oX9 a (o_8 31)), (a 32, aI E 8 (upd (hM 32) (3 : Int32).toNatClampNeg o_10)), (a 33, aI E 48 (o_8 33)), (a 36, aI E 120 (hM 36)), (a 37, aI E 120 (hM 37)), (a 38, aI E 4096 (hM 38)), (a 39, aI E 4096 (hM 39)), (a 40, aI E 4096 (hM 40)), (a 41, aI E 128 (hM 41)), (a 42, aI E 98 (hM 42)), (a 43, aI E 202 (hM 43)), (a 44, aI E 4 (hM 44)), (a 45, aI E 24 (hM 45))]) 1 rfl hin rfl (DX9_readPad_0 42 rfl) ?_
        refine r.aload_n 3 (DX9_readPad_0 43 rfl) rfl ?_
        refine r.aload_n 3 (DX9_readPad_0 44 rfl) rfl ?_
        refine r.get (v := .ref (a 45)) kX9 f_X9_50 rfl 0 rfl rfl (DX9_readPad_0 45 rfl) ?_
        refine r.bipush (v := (19 : Int32)) (DX9_readPad_0 46 rfl) rfl ?_
        obtain ⟨hin, hxt⟩ := xgd_some hxt
        refine r.iald 12 rfl hin (DX9_readPad_0 47 rfl) ?_
        refine r.bipush (v := (102 : Int32)) (DX9_readPad_0 48 rfl) rfl ?_
        refine r.icmp_ne 98 (DX9_readPad_0 49 rfl) rfl hxt (fun _ hxt => ?_) (fun _ hxt => ?_)
        · refine r.iconst (v := (0 : Int32)) (DX9_readPad_0 52 rfl) rfl ?_
          refine r.iload_n 1 (DX9_readPad_0 53 rfl) rfl ?_
          obtain ⟨o_11, ho_11, hxt⟩ := xbd hxt
          refine r.callSI0 (t_X9_lowest E o_3 ho_11) g_X9_265 rfl (DX9_readPad_0 54 rfl) rfl ⟨(Nat.le_of_ble_eq_true rfl), (Nat.le_of_ble_eq_true rfl)⟩ (Nat.le_of_ble_eq_true rfl) ?_
          refine r.iload_n 0 (DX9_readPad_0 55 rfl) rfl ?_
          refine r.iload_n 2 (DX9_readPad_0 56 rfl) rfl ?_
          refine r.iconst (v := (1 : Int32)) (DX9_readPad_0 57 rfl) rfl ?_
          refine r.iload_n 0 (DX9_readPad_0 58 rfl) rfl ?_
          refine r.ishl (DX9_readPad_0 59 rfl) ?_
          refine r.iconst (v := (-1 : Int32)) (DX9_readPad_1 0 rfl) rfl ?_
          refine r.ixor (DX9_readPad_1 1 rfl) ?_
          refine r.iand (DX9_readPad_1 2 rfl) ?_
          obtain ⟨o_12, ho_12, hxt⟩ := xbd hxt
          refine r.callSI0 (t_X9_lowest E (o_2 &&& (((1 : Int32) <<< (o_9 &&& 31)) ^^^ (-1 : Int32))) ho_12) g_X9_265 rfl (DX9_readPad_1 3 rfl) rfl ⟨(Nat.le_of_ble_eq_true rfl), (Nat.le_of_ble_eq_true rfl)⟩ (Nat.le_of_ble_eq_true rfl) ?_
          obtain ⟨o_13, ho_13, hxt⟩ := xbd hxt
          refine r.callVV 0 rfl rfl (t_X9_lay E a (0 : Int32) o_11 o_9 o_12 (mgs (mset hM 32 (upd (hM 32) (3 : Int32).toNatClampNeg o_10)) [31] o_8) ho_13) g_X9_204 rfl (DX9_readPad_1 4 rfl) rfl ⟨(Nat.le_of_ble_eq_true rfl), (Nat.le_of_ble_eq_true rfl)⟩ ⟨(Nat.le_of_ble_eq_true rfl), (Nat.le_of_ble_eq_true rfl)⟩ (Nat.le_of_ble_eq_true rfl) [0, 1] [2, 3, 4, 5, 6, 7, 8, 9, 10, 11, 12] rfl rfl rfl rfl (by decide) [11, 12, 0, 1, 2, 3, 4, 5, 6, 7, 8, 9, 10] rfl (ws2 := fun _ => [(a 31, oX9 a (o_8 31)), (a 32, aI E 8 (o_13 32)), (a 33, aI E 48 (o_8 33)), (a 36, aI E 120 (hM 36)), (a 37, aI E 120 (hM 37)), (a 38, aI E 4096 (hM 38)), (a 39, aI E 4096 (hM 39)), (a 40, aI E 4096 (hM 40)), (a 41, aI E 128 (hM 41)), (a 42, aI E 98 (hM 42)), (a 43, aI E 202 (hM 43)), (a 44, aI E 4 (hM 44)), (a 45, aI E 24 (hM 45))]) (fun _ => rfl) (fun _ => ?_)
          refine r.aload_n 3 (DX9_readPad_1 5 rfl) rfl ?_
          refine r.iconst (v := (0 : Int32)) (DX9_readPad_1 6 rfl) rfl ?_
          refine r.put (ws' := [(a 31, oX9 a (upd (o_8 31) 20 (0 : Int32))), (a 32, aI E 8 (o_13 32)), (a 33, aI E 48 (o_8 33)), (a 36, aI E 120 (hM 36)), (a 37, aI E 120 (hM 37)), (a 38, aI E 4096 (hM 38)), (a 39, aI E 4096 (hM 39)), (a 40, aI E 4096 (hM 40)), (a 41, aI E 128 (hM 41)), (a 42, aI E 98 (hM 42)), (a 43, aI E 202 (hM 43)), (a 44, aI E 4 (hM 44)), (a 45, aI E 24 (hM 45))]) kX9 f_X9_223 0 rfl rfl rfl rfl (Nat.le_of_ble_eq_true rfl) rfl (DX9_readPad_1 7 rfl) ?_
          refine r.aload_n 3 (DX9_readPad_1 8 rfl) rfl ?_
          obtain ⟨o_14, ho_14, hxt⟩ := xbd hxt
          refine r.callVI 0 rfl rfl (t_X9_distanceNow E a (mgs (mset hM 31 (upd (o_8 31) 20 (0 : Int32))) [32] o_13) ho_14) g_X9_208 rfl (DX9_readPad_1 9 rfl) rfl ⟨(Nat.le_of_ble_eq_true rfl), (Nat.le_of_ble_eq_true rfl)⟩ ⟨(Nat.le_of_ble_eq_true rfl), (Nat.le_of_ble_eq_true rfl)⟩ (Nat.le_of_ble_eq_true rfl) [0, 1, 3, 4, 5, 6, 7, 8, 9, 10, 11] [2, 12] rfl rfl rfl rfl (by decide) [2, 3, 0, 4, 5, 6, 7, 8, 9, 10, 11, 12, 1] rfl (ws2 := fun _ => [(a 31, oX9 a (o_14.2 31)), (a 32, aI E 8 (o_13 32)), (a 33, aI E 48 (o_8 33)), (a 36, aI E 120 (hM 36)), (a 37, aI E 120 (hM 37)), (a 38, aI E 4096 (o_14.2 38)), (a 39, aI E 4096 (o_14.2 39)), (a 40, aI E 4096 (o_14.2 40)), (a 41, aI E 128 (o_14.2 41)), (a 42, aI E 98 (o_14.2 42)), (a 43, aI E 202 (o_14.2 43)), (a 44, aI E 4 (o_14.2 44)), (a 45, aI E 24 (hM 45))]) (fun _ => rfl) (fun _ => ?_)
          cases hxt
          exact hret _ _ _ _ (DX9_readPad_1 10 rfl) rfl ⟨(), rfl, rfl⟩
        refine r.iconst (v := (1 : Int32)) (DX9_readPad_0 50 rfl) rfl ?_
        refine r.goto 99 (DX9_readPad_0 51 rfl) rfl ?_
        refine r.iload_n 1 (DX9_readPad_0 53 rfl) rfl ?_
        obtain ⟨o_15, ho_15, hxt⟩ := xbd hxt
        refine r.callSI0 (t_X9_lowest E o_3 ho_15) g_X9_265 rfl (DX9_readPad_0 54 rfl) rfl ⟨(Nat.le_of_ble_eq_true rfl), (Nat.le_of_ble_eq_true rfl)⟩ (Nat.le_of_ble_eq_true rfl) ?_
        refine r.iload_n 0 (DX9_readPad_0 55 rfl) rfl ?_
        refine r.iload_n 2 (DX9_readPad_0 56 rfl) rfl ?_
        refine r.iconst (v := (1 : Int32)) (DX9_readPad_0 57 rfl) rfl ?_
        refine r.iload_n 0 (DX9_readPad_0 58 rfl) rfl ?_
        refine r.ishl (DX9_readPad_0 59 rfl) ?_
        refine r.iconst (v := (-1 : Int32)) (DX9_readPad_1 0 rfl) rfl ?_
        refine r.ixor (DX9_readPad_1 1 rfl) ?_
        refine r.iand (DX9_readPad_1 2 rfl) ?_
        obtain ⟨o_16, ho_16, hxt⟩ := xbd hxt
        refine r.callSI0 (t_X9_lowest E (o_2 &&& (((1 : Int32) <<< (o_9 &&& 31)) ^^^ (-1 : Int32))) ho_16) g_X9_265 rfl (DX9_readPad_1 3 rfl) rfl ⟨(Nat.le_of_ble_eq_true rfl), (Nat.le_of_ble_eq_true rfl)⟩ (Nat.le_of_ble_eq_true rfl) ?_
        obtain ⟨o_17, ho_17, hxt⟩ := xbd hxt
        refine r.callVV 0 rfl rfl (t_X9_lay E a (1 : Int32) o_15 o_9 o_16 (mgs (mset hM 32 (upd (hM 32) (3 : Int32).toNatClampNeg o_10)) [31] o_8) ho_17) g_X9_204 rfl (DX9_readPad_1 4 rfl) rfl ⟨(Nat.le_of_ble_eq_true rfl), (Nat.le_of_ble_eq_true rfl)⟩ ⟨(Nat.le_of_ble_eq_true rfl), (Nat.le_of_ble_eq_true rfl)⟩ (Nat.le_of_ble_eq_true rfl) [0, 1] [2, 3, 4, 5, 6, 7, 8, 9, 10, 11, 12] rfl rfl rfl rfl (by decide) [11, 12, 0, 1, 2, 3, 4, 5, 6, 7, 8, 9, 10] rfl (ws2 := fun _ => [(a 31, oX9 a (o_8 31)), (a 32, aI E 8 (o_17 32)), (a 33, aI E 48 (o_8 33)), (a 36, aI E 120 (hM 36)), (a 37, aI E 120 (hM 37)), (a 38, aI E 4096 (hM 38)), (a 39, aI E 4096 (hM 39)), (a 40, aI E 4096 (hM 40)), (a 41, aI E 128 (hM 41)), (a 42, aI E 98 (hM 42)), (a 43, aI E 202 (hM 43)), (a 44, aI E 4 (hM 44)), (a 45, aI E 24 (hM 45))]) (fun _ => rfl) (fun _ => ?_)
        refine r.aload_n 3 (DX9_readPad_1 5 rfl) rfl ?_
        refine r.iconst (v := (0 : Int32)) (DX9_readPad_1 6 rfl) rfl ?_
        refine r.put (ws' := [(a 31, oX9 a (upd (o_8 31) 20 (0 : Int32))), (a 32, aI E 8 (o_17 32)), (a 33, aI E 48 (o_8 33)), (a 36, aI E 120 (hM 36)), (a 37, aI E 120 (hM 37)), (a 38, aI E 4096 (hM 38)), (a 39, aI E 4096 (hM 39)), (a 40, aI E 4096 (hM 40)), (a 41, aI E 128 (hM 41)), (a 42, aI E 98 (hM 42)), (a 43, aI E 202 (hM 43)), (a 44, aI E 4 (hM 44)), (a 45, aI E 24 (hM 45))]) kX9 f_X9_223 0 rfl rfl rfl rfl (Nat.le_of_ble_eq_true rfl) rfl (DX9_readPad_1 7 rfl) ?_
        refine r.aload_n 3 (DX9_readPad_1 8 rfl) rfl ?_
        obtain ⟨o_18, ho_18, hxt⟩ := xbd hxt
        refine r.callVI 0 rfl rfl (t_X9_distanceNow E a (mgs (mset hM 31 (upd (o_8 31) 20 (0 : Int32))) [32] o_17) ho_18) g_X9_208 rfl (DX9_readPad_1 9 rfl) rfl ⟨(Nat.le_of_ble_eq_true rfl), (Nat.le_of_ble_eq_true rfl)⟩ ⟨(Nat.le_of_ble_eq_true rfl), (Nat.le_of_ble_eq_true rfl)⟩ (Nat.le_of_ble_eq_true rfl) [0, 1, 3, 4, 5, 6, 7, 8, 9, 10, 11] [2, 12] rfl rfl rfl rfl (by decide) [2, 3, 0, 4, 5, 6, 7, 8, 9, 10, 11, 12, 1] rfl (ws2 := fun _ => [(a 31, oX9 a (o_18.2 31)), (a 32, aI E 8 (o_17 32)), (a 33, aI E 48 (o_8 33)), (a 36, aI E 120 (hM 36)), (a 37, aI E 120 (hM 37)), (a 38, aI E 4096 (o_18.2 38)), (a 39, aI E 4096 (o_18.2 39)), (a 40, aI E 4096 (o_18.2 40)), (a 41, aI E 128 (o_18.2 41)), (a 42, aI E 98 (o_18.2 42)), (a 43, aI E 202 (o_18.2 43)), (a 44, aI E 4 (o_18.2 44)), (a 45, aI E 24 (hM 45))]) (fun _ => rfl) (fun _ => ?_)
        cases hxt
        exact hret _ _ _ _ (DX9_readPad_1 10 rfl) rfl ⟨(), rfl, rfl⟩
      refine r.bipush (v := (-4 : Int32)) (DX9_readPad_0 29 rfl) rfl ?_
      cases hxt
      exact hret _ _ _ _ (DX9_readPad_0 30 rfl) rfl ⟨(), rfl, rfl⟩
    refine r.bipush (v := (-5 : Int32)) (DX9_readPad_0 21 rfl) rfl ?_
    cases hxt
    exact hret _ _ _ _ (DX9_readPad_0 22 rfl) rfl ⟨(), rfl, rfl⟩
  refine r.bipush (v := (-3 : Int32)) (DX9_readPad_0 3 rfl) rfl ?_
  cases hxt
  exact hret _ _ _ _ (DX9_readPad_0 4 rfl) rfl ⟨(), rfl, rfl⟩
set_option maxRecDepth 100000 in
set_option maxHeartbeats 4000000 in
theorem t_X9_best (E : xE) (a : Nat → Nat) (x1 : Int32) (hM : Mem) {o : Int32 × Mem} (hxt : xt_X9_best x1 hM = some o) : xMI (S := Unit) E yX9_best cX9_best 2 .int 12 0 0 [.ref (a 31), .int x1] [(a 31, oX9 a (hM 31)), (a 32, aI E 8 (hM 32)), (a 36, aI E 120 (hM 36)), (a 37, aI E 120 (hM 37)), (a 38, aI E 4096 (hM 38)), (a 39, aI E 4096 (hM 39)), (a 40, aI E 4096 (hM 40)), (a 41, aI E 128 (hM 41)), (a 42, aI E 98 (hM 42)), (a 43, aI E 202 (hM 43)), (a 44, aI E 4 (hM 44))] (fun _ => o.1) (fun _ => [(a 31, oX9 a (o.2 31)), (a 32, aI E 8 (hM 32)), (a 36, aI E 120 (hM 36)), (a 37, aI E 120 (hM 37)), (a 38, aI E 4096 (o.2 38)), (a 39, aI E 4096 (o.2 39)), (a 40, aI E 4096 (o.2 40)), (a 41, aI E 128 (o.2 41)), (a 42, aI E 98 (o.2 42)), (a 43, aI E 202 (o.2 43)), (a 44, aI E 4 (o.2 44))]) := by
  refine xMI.of (own := RX9) (lo0 := [(0, .ref (a 31)), (1, .int x1)]) (by decide +kernel) rfl rfl (Nat.le_of_ble_eq_true rfl) (fun V r hret => ?_)
  unfold xt_X9_best at hxt
  refine r.aload_n 0 (DX9_best 0 rfl) rfl ?_
  obtain ⟨o_1, ho_1, hxt⟩ := xbd hxt
  refine r.callVI 0 rfl rfl (t_X9_findBest E a hM ho_1) g_X9_214 rfl (DX9_best 1 rfl) rfl ⟨(Nat.le_of_ble_eq_true rfl), (Nat.le_of_ble_eq_true rfl)⟩ ⟨(Nat.le_of_ble_eq_true rfl), (Nat.le_of_ble_eq_true rfl)⟩ (Nat.le_of_ble_eq_true rfl) [0, 1, 2, 3, 4, 5, 6, 7, 8, 9, 10] [] rfl rfl rfl rfl (by decide) [0, 1, 2, 3, 4, 5, 6, 7, 8, 9, 10] rfl (ws2 := fun _ => [(a 31, oX9 a (o_1.2 31)), (a 32, aI E 8 (hM 32)), (a 36, aI E 120 (hM 36)), (a 37, aI E 120 (hM 37)), (a 38, aI E 4096 (o_1.2 38)), (a 39, aI E 4096 (o_1.2 39)), (a 40, aI E 4096 (o_1.2 40)), (a 41, aI E 128 (o_1.2 41)), (a 42, aI E 98 (o_1.2 42)), (a 43, aI E 202 (o_1.2 43)), (a 44, aI E 4 (o_1.2 44))]) (fun _ => rfl) (fun _ => ?_)
  refine r.pop (DX9_best 2 rfl) rfl ?_
  refine r.iload_n 1 (DX9_best 3 rfl) rfl ?_
  refine r.bipush (v := (6 : Int32)) (DX9_best 4 rfl) rfl ?_
  refine r.icmp_ne 18 (DX9_best 5 rfl) rfl hxt (fun _ hxt => ?_) (fun _ hxt => ?_)
  · refine r.aload_n 0 (DX9_best 9 rfl) rfl ?_
    refine r.get (v := .int ((o_1.2 31) 18)) kX9 f_X9_183 rfl 0 rfl rfl (DX9_best 10 rfl) ?_
    cases hxt
    exact hret _ _ _ _ (DX9_best 11 rfl) rfl ⟨(), rfl, rfl⟩
  refine r.aload_n 0 (DX9_best 6 rfl) rfl ?_
  refine r.get (v := .int ((o_1.2 31) 17)) kX9 f_X9_180 rfl 0 rfl rfl (DX9_best 7 rfl) ?_
  refine r.goto 22 (DX9_best 8 rfl) rfl ?_
  cases hxt
  exact hret _ _ _ _ (DX9_best 11 rfl) rfl ⟨(), rfl, rfl⟩
set_option maxRecDepth 100000 in
set_option maxHeartbeats 4000000 in
theorem t_X9_standsNow (E : xE) (a : Nat → Nat) (hM : Mem) {o : Int32 × Mem} (hxt : xt_X9_standsNow hM = some o) : xMI (S := Unit) E yX9_standsNow cX9_standsNow 1 .int 9 0 0 [.ref (a 31)] [(a 31, oX9 a (hM 31)), (a 32, aI E 8 (hM 32)), (a 36, aI E 120 (hM 36)), (a 37, aI E 120 (hM 37)), (a 38, aI E 4096 (hM 38)), (a 39, aI E 4096 (hM 39)), (a 40, aI E 4096 (hM 40)), (a 41, aI E 128 (hM 41)), (a 42, aI E 98 (hM 42)), (a 43, aI E 202 (hM 43)), (a 44, aI E 4 (hM 44))] (fun _ => o.1) (fun _ => [(a 31, oX9 a (o.2 31)), (a 32, aI E 8 (hM 32)), (a 36, aI E 120 (hM 36)), (a 37, aI E 120 (hM 37)), (a 38, aI E 4096 (o.2 38)), (a 39, aI E 4096 (o.2 39)), (a 40, aI E 4096 (o.2 40)), (a 41, aI E 128 (o.2 41)), (a 42, aI E 98 (o.2 42)), (a 43, aI E 202 (o.2 43)), (a 44, aI E 4 (o.2 44))]) := by
  refine xMI.of (own := RX9) (lo0 := [(0, .ref (a 31))]) (by decide +kernel) rfl rfl (Nat.le_of_ble_eq_true rfl) (fun V r hret => ?_)
  unfold xt_X9_standsNow at hxt
  refine r.aload_n 0 (DX9_standsNow 0 rfl) rfl ?_
  obtain ⟨o_1, ho_1, hxt⟩ := xbd hxt
  refine r.callVV 0 rfl rfl (t_X9_work E a hM ho_1) g_X9_161 rfl (DX9_standsNow 1 rfl) rfl ⟨(Nat.le_of_ble_eq_true rfl), (Nat.le_of_ble_eq_true rfl)⟩ ⟨(Nat.le_of_ble_eq_true rfl), (Nat.le_of_ble_eq_true rfl)⟩ (Nat.le_of_ble_eq_true rfl) [0, 1, 2, 3, 4, 5, 6, 7, 8, 9, 10] [] rfl rfl rfl rfl (by decide) [0, 1, 2, 3, 4, 5, 6, 7, 8, 9, 10] rfl (ws2 := fun _ => [(a 31, oX9 a (o_1 31)), (a 32, aI E 8 (hM 32)), (a 36, aI E 120 (hM 36)), (a 37, aI E 120 (hM 37)), (a 38, aI E 4096 (o_1 38)), (a 39, aI E 4096 (o_1 39)), (a 40, aI E 4096 (o_1 40)), (a 41, aI E 128 (o_1 41)), (a 42, aI E 98 (o_1 42)), (a 43, aI E 202 (o_1 43)), (a 44, aI E 4 (o_1 44))]) (fun _ => rfl) (fun _ => ?_)
  refine r.aload_n 0 (DX9_standsNow 2 rfl) rfl ?_
  refine r.get (v := .ref (a 39)) kX9 f_X9_32 rfl 0 rfl rfl (DX9_standsNow 3 rfl) ?_
  refine r.aload_n 0 (DX9_standsNow 4 rfl) rfl ?_
  obtain ⟨o_2, ho_2, hxt⟩ := xbd hxt
  refine r.callVI 0 rfl rfl (t_X9_numberNow E a (mgs hM [31] o_1) ho_2) g_X9_167 rfl (DX9_standsNow 5 rfl) rfl ⟨(Nat.le_of_ble_eq_true rfl), (Nat.le_of_ble_eq_true rfl)⟩ ⟨(Nat.le_of_ble_eq_true rfl), (Nat.le_of_ble_eq_true rfl)⟩ (Nat.le_of_ble_eq_true rfl) [0, 1] [2, 3, 4, 5, 6, 7, 8, 9, 10] rfl rfl rfl rfl (by decide) [9, 10, 0, 1, 2, 3, 4, 5, 6, 7, 8] rfl (ws2 := fun _ => [(a 31, oX9 a (o_1 31)), (a 32, aI E 8 (hM 32)), (a 36, aI E 120 (hM 36)), (a 37, aI E 120 (hM 37)), (a 38, aI E 4096 (o_1 38)), (a 39, aI E 4096 (o_1 39)), (a 40, aI E 4096 (o_1 40)), (a 41, aI E 128 (o_1 41)), (a 42, aI E 98 (o_1 42)), (a 43, aI E 202 (o_1 43)), (a 44, aI E 4 (o_1 44))]) (fun _ => rfl) (fun _ => ?_)
  obtain ⟨hin, hxt⟩ := xgd_some hxt
  refine r.iald 5 rfl hin (DX9_standsNow 6 rfl) ?_
  cases hxt
  exact hret _ _ _ _ (DX9_standsNow 7 rfl) rfl ⟨(), rfl, rfl⟩
set_option maxRecDepth 100000 in
set_option maxHeartbeats 4000000 in
theorem t_X9_now (E : xE) (a : Nat → Nat) (x1 : Int32) (hM : Mem) {o : Int32 × Mem} (hxt : xt_X9_now x1 hM = some o) : xMI (S := Unit) E yX9_now cX9_now 2 .int 13 0 0 [.ref (a 31), .int x1] [(a 31, oX9 a (hM 31)), (a 32, aI E 8 (hM 32)), (a 36, aI E 120 (hM 36)), (a 37, aI E 120 (hM 37)), (a 38, aI E 4096 (hM 38)), (a 39, aI E 4096 (hM 39)), (a 40, aI E 4096 (hM 40)), (a 41, aI E 128 (hM 41)), (a 42, aI E 98 (hM 42)), (a 43, aI E 202 (hM 43)), (a 44, aI E 4 (hM 44))] (fun _ => o.1) (fun _ => [(a 31, oX9 a (o.2 31)), (a 32, aI E 8 (hM 32)), (a 36, aI E 120 (hM 36)), (a 37, aI E 120 (hM 37)), (a 38, aI E 4096 (o.2 38)), (a 39, aI E 4096 (o.2 39)), (a 40, aI E 4096 (o.2 40)), (a 41, aI E 128 (o.2 41)), (a 42, aI E 98 (o.2 42)), (a 43, aI E 202 (o.2 43)), (a 44, aI E 4 (o.2 44))]) := by
  refine xMI.of (own := RX9) (lo0 := [(0, .ref (a 31)), (1, .int x1)]) (by decide +kernel) rfl rfl (Nat.le_of_ble_eq_true rfl) (fun V r hret => ?_)
  unfold xt_X9_now at hxt
  refine r.iload_n 1 (DX9_now 0 rfl) rfl ?_
  refine xif hxt (fun hc hxt => r.tsOut 174 (DX9_now 1 rfl) hc rfl ?_) (fun hn hxt => ?_)
  · refine r.bipush (v := (-2 : Int32)) (DX9_now 57 rfl) rfl ?_
    cases hxt
    exact hret _ _ _ _ (DX9_now 58 rfl) rfl ⟨(), rfl, rfl⟩
  refine xif hxt (fun hc hxt => r.tsIn 80 (DX9_now 1 rfl) hc hn rfl rfl ?_) (fun _ hxt => ?_)
  · refine r.aload_n 0 (DX9_now 2 rfl) rfl ?_
    refine r.get (v := .ref (a 32)) kX9 f_X9_7 rfl 0 rfl rfl (DX9_now 3 rfl) ?_
    refine r.iconst (v := (4 : Int32)) (DX9_now 4 rfl) rfl ?_
    refine r.iload_n 1 (DX9_now 5 rfl) rfl ?_
    refine r.iadd (DX9_now 6 rfl) ?_
    obtain ⟨hin, hxt⟩ := xgd_some hxt
    refine r.iald 1 rfl hin (DX9_now 7 rfl) ?_
    cases hxt
    exact hret _ _ _ _ (DX9_now 8 rfl) rfl ⟨(), rfl, rfl⟩
  refine xif hxt (fun hc hxt => r.tsIn 80 (DX9_now 1 rfl) hc hn rfl rfl ?_) (fun _ hxt => ?_)
  · refine r.aload_n 0 (DX9_now 2 rfl) rfl ?_
    refine r.get (v := .ref (a 32)) kX9 f_X9_7 rfl 0 rfl rfl (DX9_now 3 rfl) ?_
    refine r.iconst (v := (4 : Int32)) (DX9_now 4 rfl) rfl ?_
    refine r.iload_n 1 (DX9_now 5 rfl) rfl ?_
    refine r.iadd (DX9_now 6 rfl) ?_
    obtain ⟨hin, hxt⟩ := xgd_some hxt
    refine r.iald 1 rfl hin (DX9_now 7 rfl) ?_
    cases hxt
    exact hret _ _ _ _ (DX9_now 8 rfl) rfl ⟨(), rfl, rfl⟩
  refine xif hxt (fun hc hxt => r.tsIn 80 (DX9_now 1 rfl) hc hn rfl rfl ?_) (fun _ hxt => ?_)
  · refine r.aload_n 0 (DX9_now 2 rfl) rfl ?_
    refine r.get (v := .ref (a 32)) kX9 f_X9_7 rfl 0 rfl rfl (DX9_now 3 rfl) ?_
    refine r.iconst (v := (4 : Int32)) (DX9_now 4 rfl) rfl ?_
    refine r.iload_n 1 (DX9_now 5 rfl) rfl ?_
    refine r.iadd (DX9_now 6 rfl) ?_
    obtain ⟨hin, hxt⟩ := xgd_some hxt
    refine r.iald 1 rfl hin (DX9_now 7 rfl) ?_
    cases hxt
    exact hret _ _ _ _ (DX9_now 8 rfl) rfl ⟨(), rfl, rfl⟩
  refine xif hxt (fun hc hxt => r.tsIn 80 (DX9_now 1 rfl) hc hn rfl rfl ?_) (fun _ hxt => ?_)
  · refine r.aload_n 0 (DX9_now 2 rfl) rfl ?_
    refine r.get (v := .ref (a 32)) kX9 f_X9_7 rfl 0 rfl rfl (DX9_now 3 rfl) ?_
    refine r.iconst (v := (4 : Int32)) (DX9_now 4 rfl) rfl ?_
    refine r.iload_n 1 (DX9_now 5 rfl) rfl ?_
    refine r.iadd (DX9_now 6 rfl) ?_
    obtain ⟨hin, hxt⟩ := xgd_some hxt
    refine r.iald 1 rfl hin (DX9_now 7 rfl) ?_
    cases hxt
    exact hret _ _ _ _ (DX9_now 8 rfl) rfl ⟨(), rfl, rfl⟩
  refine xif hxt (fun hc hxt => r.tsIn 89 (DX9_now 1 rfl) hc hn rfl rfl ?_) (fun _ hxt => ?_)
  · refine r.aload_n 0 (DX9_now 9 rfl) rfl ?_
    obtain ⟨o_1, ho_1, hxt⟩ := xbd hxt
    refine r.callVI 0 rfl rfl (t_X9_isCaught E a hM ho_1) g_X9_171 rfl (DX9_now 10 rfl) rfl ⟨(Nat.le_of_ble_eq_true rfl), (Nat.le_of_ble_eq_true rfl)⟩ ⟨(Nat.le_of_ble_eq_true rfl), (Nat.le_of_ble_eq_true rfl)⟩ (Nat.le_of_ble_eq_true rfl) [0, 1, 2, 3, 4, 5, 6, 7, 8, 9, 10] [] rfl rfl rfl rfl (by decide) [0, 1, 2, 3, 4, 5, 6, 7, 8, 9, 10] rfl (ws2 := fun _ => [(a 31, oX9 a (o_1.2 31)), (a 32, aI E 8 (hM 32)), (a 36, aI E 120 (hM 36)), (a 37, aI E 120 (hM 37)), (a 38, aI E 4096 (o_1.2 38)), (a 39, aI E 4096 (o_1.2 39)), (a 40, aI E 4096 (o_1.2 40)), (a 41, aI E 128 (o_1.2 41)), (a 42, aI E 98 (o_1.2 42)), (a 43, aI E 202 (o_1.2 43)), (a 44, aI E 4 (o_1.2 44))]) (fun _ => rfl) (fun _ => ?_)
    refine r.if_eq 100 (DX9_now 11 rfl) rfl hxt (fun _ hxt => ?_) (fun _ hxt => ?_)
    · refine r.iconst (v := (0 : Int32)) (DX9_now 14 rfl) rfl ?_
      cases hxt
      exact hret _ _ _ _ (DX9_now 15 rfl) rfl ⟨(), rfl, rfl⟩
    refine r.iconst (v := (1 : Int32)) (DX9_now 12 rfl) rfl ?_
    refine r.goto 101 (DX9_now 13 rfl) rfl ?_
    cases hxt
    exact hret _ _ _ _ (DX9_now 15 rfl) rfl ⟨(), rfl, rfl⟩
  refine xif hxt (fun hc hxt => r.tsIn 102 (DX9_now 1 rfl) hc hn rfl rfl ?_) (fun _ hxt => ?_)
  · refine r.aload_n 0 (DX9_now 16 rfl) rfl ?_
    obtain ⟨o_2, ho_2, hxt⟩ := xbd hxt
    refine r.callVI 0 rfl rfl (t_X9_distanceNow E a hM ho_2) g_X9_208 rfl (DX9_now 17 rfl) rfl ⟨(Nat.le_of_ble_eq_true rfl), (Nat.le_of_ble_eq_true rfl)⟩ ⟨(Nat.le_of_ble_eq_true rfl), (Nat.le_of_ble_eq_true rfl)⟩ (Nat.le_of_ble_eq_true rfl) [0, 1, 2, 3, 4, 5, 6, 7, 8, 9, 10] [] rfl rfl rfl rfl (by decide) [0, 1, 2, 3, 4, 5, 6, 7, 8, 9, 10] rfl (ws2 := fun _ => [(a 31, oX9 a (o_2.2 31)), (a 32, aI E 8 (hM 32)), (a 36, aI E 120 (hM 36)), (a 37, aI E 120 (hM 37)), (a 38, aI E 4096 (o_2.2 38)), (a 39, aI E 4096 (o_2.2 39)), (a 40, aI E 4096 (o_2.2 40)), (a 41, aI E 128 (o_2.2 41)), (a 42, aI E 98 (o_2.2 42)), (a 43, aI E 202 (o_2.2 43)), (a 44, aI E 4 (o_2.2 44))]) (fun _ => rfl) (fun _ => ?_)
    cases hxt
    exact hret _ _ _ _ (DX9_now 18 rfl) rfl ⟨(), rfl, rfl⟩
  refine xif hxt (fun hc hxt => r.tsIn 107 (DX9_now 1 rfl) hc hn rfl rfl ?_) (fun _ hxt => ?_)
  · refine r.aload_n 0 (DX9_now 19 rfl) rfl ?_
    refine r.iload_n 1 (DX9_now 20 rfl) rfl ?_
    obtain ⟨o_3, ho_3, hxt⟩ := xbd hxt
    refine r.callVI 0 rfl rfl (t_X9_best E a x1 hM ho_3) g_X9_217 rfl (DX9_now 21 rfl) rfl ⟨(Nat.le_of_ble_eq_true rfl), (Nat.le_of_ble_eq_true rfl)⟩ ⟨(Nat.le_of_ble_eq_true rfl), (Nat.le_of_ble_eq_true rfl)⟩ (Nat.le_of_ble_eq_true rfl) [0, 1, 2, 3, 4, 5, 6, 7, 8, 9, 10] [] rfl rfl rfl rfl (by decide) [0, 1, 2, 3, 4, 5, 6, 7, 8, 9, 10] rfl (ws2 := fun _ => [(a 31, oX9 a (o_3.2 31)), (a 32, aI E 8 (hM 32)), (a 36, aI E 120 (hM 36)), (a 37, aI E 120 (hM 37)), (a 38, aI E 4096 (o_3.2 38)), (a 39, aI E 4096 (o_3.2 39)), (a 40, aI E 4096 (o_3.2 40)), (a 41, aI E 128 (o_3.2 41)), (a 42, aI E 98 (o_3.2 42)), (a 43, aI E 202 (o_3.2 43)), (a 44, aI E 4 (o_3.2 44))]) (fun _ => rfl) (fun _ => ?_)
    cases hxt
    exact hret _ _ _ _ (DX9_now 22 rfl) rfl ⟨(), rfl, rfl⟩
  refine xif hxt (fun hc hxt => r.tsIn 107 (DX9_now 1 rfl) hc hn rfl rfl ?_) (fun _ hxt => ?_)
  · refine r.aload_n 0 (DX9_now 19 rfl) rfl ?_
    refine r.iload_n 1 (DX9_now 20 rfl) rfl ?_
    obtain ⟨o_4, ho_4, hxt⟩ := xbd hxt
    refine r.callVI 0 rfl rfl (t_X9_best E a x1 hM ho_4) g_X9_217 rfl (DX9_now 21 rfl) rfl ⟨(Nat.le_of_ble_eq_true rfl), (Nat.le_of_ble_eq_true rfl)⟩ ⟨(Nat.le_of_ble_eq_true rfl), (Nat.le_of_ble_eq_true rfl)⟩ (Nat.le_of_ble_eq_true rfl) [0, 1, 2, 3, 4, 5, 6, 7, 8, 9, 10] [] rfl rfl rfl rfl (by decide) [0, 1, 2, 3, 4, 5, 6, 7, 8, 9, 10] rfl (ws2 := fun _ => [(a 31, oX9 a (o_4.2 31)), (a 32, aI E 8 (hM 32)), (a 36, aI E 120 (hM 36)), (a 37, aI E 120 (hM 37)), (a 38, aI E 4096 (o_4.2 38)), (a 39, aI E 4096 (o_4.2 39)), (a 40, aI E 4096 (o_4.2 40)), (a 41, aI E 128 (o_4.2 41)), (a 42, aI E 98 (o_4.2 42)), (a 43, aI E 202 (o_4.2 43)), (a 44, aI E 4 (o_4.2 44))]) (fun _ => rfl) (fun _ => ?_)
    cases hxt
    exact hret _ _ _ _ (DX9_now 22 rfl) rfl ⟨(), rfl, rfl⟩
  refine xif hxt (fun hc hxt => r.tsIn 113 (DX9_now 1 rfl) hc hn rfl rfl ?_) (fun _ hxt => ?_)
  · refine r.aload_n 0 (DX9_now 23 rfl) rfl ?_
    obtain ⟨o_5, ho_5, hxt⟩ := xbd hxt
    refine r.callVI 0 rfl rfl (t_X9_isHit E a hM ho_5) g_X9_164 rfl (DX9_now 24 rfl) rfl ⟨(Nat.le_of_ble_eq_true rfl), (Nat.le_of_ble_eq_true rfl)⟩ ⟨(Nat.le_of_ble_eq_true rfl), (Nat.le_of_ble_eq_true rfl)⟩ (Nat.le_of_ble_eq_true rfl) [0, 1] [2, 3, 4, 5, 6, 7, 8, 9, 10] rfl rfl rfl rfl (by decide) [9, 10, 0, 1, 2, 3, 4, 5, 6, 7, 8] rfl (ws2 := fun _ => [(a 31, oX9 a (hM 31)), (a 32, aI E 8 (hM 32)), (a 36, aI E 120 (hM 36)), (a 37, aI E 120 (hM 37)), (a 38, aI E 4096 (hM 38)), (a 39, aI E 4096 (hM 39)), (a 40, aI E 4096 (hM 40)), (a 41, aI E 128 (hM 41)), (a 42, aI E 98 (hM 42)), (a 43, aI E 202 (hM 43)), (a 44, aI E 4 (hM 44))]) (fun _ => rfl) (fun _ => ?_)
    refine r.if_eq 125 (DX9_now 25 rfl) rfl hxt (fun _ hxt => ?_) (fun _ hxt => ?_)
    · refine r.aload_n 0 (DX9_now 28 rfl) rfl ?_
      obtain ⟨o_6, ho_6, hxt⟩ := xbd hxt
      refine r.callVI 0 rfl rfl (t_X9_numberNow E a hM ho_6) g_X9_167 rfl (DX9_now 29 rfl) rfl ⟨(Nat.le_of_ble_eq_true rfl), (Nat.le_of_ble_eq_true rfl)⟩ ⟨(Nat.le_of_ble_eq_true rfl), (Nat.le_of_ble_eq_true rfl)⟩ (Nat.le_of_ble_eq_true rfl) [0, 1] [2, 3, 4, 5, 6, 7, 8, 9, 10] rfl rfl rfl rfl (by decide) [9, 10, 0, 1, 2, 3, 4, 5, 6, 7, 8] rfl (ws2 := fun _ => [(a 31, oX9 a (hM 31)), (a 32, aI E 8 (hM 32)), (a 36, aI E 120 (hM 36)), (a 37, aI E 120 (hM 37)), (a 38, aI E 4096 (hM 38)), (a 39, aI E 4096 (hM 39)), (a 40, aI E 4096 (hM 40)), (a 41, aI E 128 (hM 41)), (a 42, aI E 98 (hM 42)), (a 43, aI E 202 (hM 43)), (a 44, aI E 4 (hM 44))]) (fun _ => rfl) (fun _ => ?_)
      cases hxt
      exact hret _ _ _ _ (DX9_now 30 rfl) rfl ⟨(), rfl, rfl⟩
    refine r.bipush (v := (-6 : Int32)) (DX9_now 26 rfl) rfl ?_
    refine r.goto 129 (DX9_now 27 rfl) rfl ?_
    cases hxt
    exact hret _ _ _ _ (DX9_now 30 rfl) rfl ⟨(), rfl, rfl⟩
  refine xif hxt (fun hc hxt => r.tsIn 130 (DX9_now 1 rfl) hc hn rfl rfl ?_) (fun _ hxt => ?_)
  · refine r.aload_n 0 (DX9_now 31 rfl) rfl ?_
    obtain ⟨o_7, ho_7, hxt⟩ := xbd hxt
    refine r.callVI 0 rfl rfl (t_X9_isHit E a hM ho_7) g_X9_164 rfl (DX9_now 32 rfl) rfl ⟨(Nat.le_of_ble_eq_true rfl), (Nat.le_of_ble_eq_true rfl)⟩ ⟨(Nat.le_of_ble_eq_true rfl), (Nat.le_of_ble_eq_true rfl)⟩ (Nat.le_of_ble_eq_true rfl) [0, 1] [2, 3, 4, 5, 6, 7, 8, 9, 10] rfl rfl rfl rfl (by decide) [9, 10, 0, 1, 2, 3, 4, 5, 6, 7, 8] rfl (ws2 := fun _ => [(a 31, oX9 a (hM 31)), (a 32, aI E 8 (hM 32)), (a 36, aI E 120 (hM 36)), (a 37, aI E 120 (hM 37)), (a 38, aI E 4096 (hM 38)), (a 39, aI E 4096 (hM 39)), (a 40, aI E 4096 (hM 40)), (a 41, aI E 128 (hM 41)), (a 42, aI E 98 (hM 42)), (a 43, aI E 202 (hM 43)), (a 44, aI E 4 (hM 44))]) (fun _ => rfl) (fun _ => ?_)
    refine r.if_eq 142 (DX9_now 33 rfl) rfl hxt (fun _ hxt => ?_) (fun _ hxt => ?_)
    · refine r.aload_n 0 (DX9_now 36 rfl) rfl ?_
      obtain ⟨o_8, ho_8, hxt⟩ := xbd hxt
      refine r.callVI 0 rfl rfl (t_X9_standsNow E a hM ho_8) g_X9_220 rfl (DX9_now 37 rfl) rfl ⟨(Nat.le_of_ble_eq_true rfl), (Nat.le_of_ble_eq_true rfl)⟩ ⟨(Nat.le_of_ble_eq_true rfl), (Nat.le_of_ble_eq_true rfl)⟩ (Nat.le_of_ble_eq_true rfl) [0, 1, 2, 3, 4, 5, 6, 7, 8, 9, 10] [] rfl rfl rfl rfl (by decide) [0, 1, 2, 3, 4, 5, 6, 7, 8, 9, 10] rfl (ws2 := fun _ => [(a 31, oX9 a (o_8.2 31)), (a 32, aI E 8 (hM 32)), (a 36, aI E 120 (hM 36)), (a 37, aI E 120 (hM 37)), (a 38, aI E 4096 (o_8.2 38)), (a 39, aI E 4096 (o_8.2 39)), (a 40, aI E 4096 (o_8.2 40)), (a 41, aI E 128 (o_8.2 41)), (a 42, aI E 98 (o_8.2 42)), (a 43, aI E 202 (o_8.2 43)), (a 44, aI E 4 (o_8.2 44))]) (fun _ => rfl) (fun _ => ?_)
      cases hxt
      exact hret _ _ _ _ (DX9_now 38 rfl) rfl ⟨(), rfl, rfl⟩
    refine r.bipush (v := (-6 : Int32)) (DX9_now 34 rfl) rfl ?_
    refine r.goto 146 (DX9_now 35 rfl) rfl ?_
    cases hxt
    exact hret _ _ _ _ (DX9_now 38 rfl) rfl ⟨(), rfl, rfl⟩
  refine xif hxt (fun hc hxt => r.tsIn 147 (DX9_now 1 rfl) hc hn rfl rfl ?_) (fun _ hxt => ?_)
  · refine r.aload_n 0 (DX9_now 39 rfl) rfl ?_
    refine r.get (v := .ref (a 32)) kX9 f_X9_7 rfl 0 rfl rfl (DX9_now 40 rfl) ?_
    refine r.iconst (v := (3 : Int32)) (DX9_now 41 rfl) rfl ?_
    obtain ⟨hin, hxt⟩ := xgd_some hxt
    refine r.iald 1 rfl hin (DX9_now 42 rfl) ?_
    cases hxt
    exact hret _ _ _ _ (DX9_now 43 rfl) rfl ⟨(), rfl, rfl⟩
  refine xif hxt (fun hc hxt => r.tsIn 154 (DX9_now 1 rfl) hc hn rfl rfl ?_) (fun _ hxt => ?_)
  · refine r.aload_n 0 (DX9_now 44 rfl) rfl ?_
    refine r.get (v := .ref (a 32)) kX9 f_X9_7 rfl 0 rfl rfl (DX9_now 45 rfl) ?_
    refine r.iload_n 1 (DX9_now 46 rfl) rfl ?_
    refine r.bipush (v := (11 : Int32)) (DX9_now 47 rfl) rfl ?_
    refine r.isub (DX9_now 48 rfl) ?_
    obtain ⟨hin, hxt⟩ := xgd_some hxt
    refine r.iald 1 rfl hin (DX9_now 49 rfl) ?_
    cases hxt
    exact hret _ _ _ _ (DX9_now 50 rfl) rfl ⟨(), rfl, rfl⟩
  refine xif hxt (fun hc hxt => r.tsIn 154 (DX9_now 1 rfl) hc hn rfl rfl ?_) (fun _ hxt => ?_)
  · refine r.aload_n 0 (DX9_now 44 rfl) rfl ?_
    refine r.get (v := .ref (a 32)) kX9 f_X9_7 rfl 0 rfl rfl (DX9_now 45 rfl) ?_
    refine r.iload_n 1 (DX9_now 46 rfl) rfl ?_
    refine r.bipush (v := (11 : Int32)) (DX9_now 47 rfl) rfl ?_
    refine r.isub (DX9_now 48 rfl) ?_
    obtain ⟨hin, hxt⟩ := xgd_some hxt
    refine r.iald 1 rfl hin (DX9_now 49 rfl) ?_
    cases hxt
    exact hret _ _ _ _ (DX9_now 50 rfl) rfl ⟨(), rfl, rfl⟩
  refine xif hxt (fun hc hxt => r.tsIn 154 (DX9_now 1 rfl) hc hn rfl rfl ?_) (fun _ hxt => ?_)
  · refine r.aload_n 0 (DX9_now 44 rfl) rfl ?_
    refine r.get (v := .ref (a 32)) kX9 f_X9_7 rfl 0 rfl rfl (DX9_now 45 rfl) ?_
    refine r.iload_n 1 (DX9_now 46 rfl) rfl ?_
    refine r.bipush (v := (11 : Int32)) (DX9_now 47 rfl) rfl ?_
    refine r.isub (DX9_now 48 rfl) ?_
    obtain ⟨hin, hxt⟩ := xgd_some hxt
    refine r.iald 1 rfl hin (DX9_now 49 rfl) ?_
    cases hxt
    exact hret _ _ _ _ (DX9_now 50 rfl) rfl ⟨(), rfl, rfl⟩
  refine xif hxt (fun hc hxt => r.tsIn 164 (DX9_now 1 rfl) hc hn rfl rfl ?_) (fun _ hxt => ?_)
  · refine r.aload_n 0 (DX9_now 51 rfl) rfl ?_
    refine r.get (v := .int ((hM 31) 20)) kX9 f_X9_223 rfl 0 rfl rfl (DX9_now 52 rfl) ?_
    cases hxt
    exact hret _ _ _ _ (DX9_now 53 rfl) rfl ⟨(), rfl, rfl⟩
  refine xif hxt (fun hc hxt => r.tsIn 169 (DX9_now 1 rfl) hc hn rfl rfl ?_) (fun _ hxt => ?_)
  · refine r.aload_n 0 (DX9_now 54 rfl) rfl ?_
    refine r.get (v := .int ((hM 31) 3)) kX9 f_X9_57 rfl 0 rfl rfl (DX9_now 55 rfl) ?_
    cases hxt
    exact hret _ _ _ _ (DX9_now 56 rfl) rfl ⟨(), rfl, rfl⟩
  cases hxt
set_option maxRecDepth 100000 in
set_option maxHeartbeats 4000000 in
theorem t_X9_distance (E : xE) (a : Nat → Nat) (x1 : Int32) (x2 : Int32) (x3 : Int32) (x4 : Int32) (hM : Mem) {o : Int32 × Mem} (hxt : xt_X9_distance x1 x2 x3 x4 hM = some o) : xMI (S := Unit) E yX9_distance cX9_distance 6 .int 9 0 0 [.ref (a 31), .int x1, .int x2, .int x3, .int x4] [(a 31, oX9 a (hM 31)), (a 32, aI E 8 (hM 32)), (a 36, aI E 120 (hM 36)), (a 37, aI E 120 (hM 37)), (a 38, aI E 4096 (hM 38)), (a 39, aI E 4096 (hM 39)), (a 40, aI E 4096 (hM 40)), (a 41, aI E 128 (hM 41)), (a 42, aI E 98 (hM 42)), (a 43, aI E 202 (hM 43)), (a 44, aI E 4 (hM 44))] (fun _ => o.1) (fun _ => [(a 31, oX9 a (o.2 31)), (a 32, aI E 8 (hM 32)), (a 36, aI E 120 (hM 36)), (a 37, aI E 120 (hM 37)), (a 38, aI E 4096 (o.2 38)), (a 39, aI E 4096 (o.2 39)), (a 40, aI E 4096 (o.2 40)), (a 41, aI E 128 (o.2 41)), (a 42, aI E 98 (o.2 42)), (a 43, aI E 202 (o.2 43)), (a 44, aI E 4 (o.2 44))]) := by
  refine xMI.of (own := RX9) (lo0 := [(0, .ref (a 31)), (1, .int x1), (2, .int x2), (3, .int x3), (4, .int x4)]) (by decide +kernel) rfl rfl (Nat.le_of_ble_eq_true rfl) (fun V r hret => ?_)
  unfold xt_X9_distance at hxt
  refine r.aload_n 0 (DX9_distance 0 rfl) rfl ?_
  refine r.iload_n 1 (DX9_distance 1 rfl) rfl ?_
  refine r.iload_n 2 (DX9_distance 2 rfl) rfl ?_
  refine r.iload_n 3 (DX9_distance 3 rfl) rfl ?_
  refine r.iload 4 (DX9_distance 4 rfl) rfl ?_
  obtain ⟨o_1, ho_1, hxt⟩ := xbd hxt
  refine r.callVI 0 rfl rfl (t_X9_whyNot E a x1 x2 x3 x4 hM ho_1) g_X9_201 rfl (DX9_distance 5 rfl) rfl ⟨(Nat.le_of_ble_eq_true rfl), (Nat.le_of_ble_eq_true rfl)⟩ ⟨(Nat.le_of_ble_eq_true rfl), (Nat.le_of_ble_eq_true rfl)⟩ (Nat.le_of_ble_eq_true rfl) [0, 1] [2, 3, 4, 5, 6, 7, 8, 9, 10] rfl rfl rfl rfl (by decide) [9, 10, 0, 1, 2, 3, 4, 5, 6, 7, 8] rfl (ws2 := fun _ => [(a 31, oX9 a (hM 31)), (a 32, aI E 8 (hM 32)), (a 36, aI E 120 (hM 36)), (a 37, aI E 120 (hM 37)), (a 38, aI E 4096 (hM 38)), (a 39, aI E 4096 (hM 39)), (a 40, aI E 4096 (hM 40)), (a 41, aI E 128 (hM 41)), (a 42, aI E 98 (hM 42)), (a 43, aI E 202 (hM 43)), (a 44, aI E 4 (hM 44))]) (fun _ => rfl) (fun _ => ?_)
  refine r.istore (lo' := [(5, .int o_1), (0, .ref (a 31)), (1, .int x1), (2, .int x2), (3, .int x3), (4, .int x4)]) (DX9_distance 6 rfl) (Nat.le_of_ble_eq_true rfl) rfl ?_
  refine r.iload 0 (DX9_distance 7 rfl) rfl ?_
  refine r.if_ge 19 (DX9_distance 8 rfl) rfl hxt (fun _ hxt => ?_) (fun _ hxt => ?_)
  · refine r.aload_n 1 (DX9_distance 11 rfl) rfl ?_
    obtain ⟨o_2, ho_2, hxt⟩ := xbd hxt
    refine r.callVV 0 rfl rfl (t_X9_work E a hM ho_2) g_X9_161 rfl (DX9_distance 12 rfl) rfl ⟨(Nat.le_of_ble_eq_true rfl), (Nat.le_of_ble_eq_true rfl)⟩ ⟨(Nat.le_of_ble_eq_true rfl), (Nat.le_of_ble_eq_true rfl)⟩ (Nat.le_of_ble_eq_true rfl) [0, 1, 2, 3, 4, 5, 6, 7, 8, 9, 10] [] rfl rfl rfl rfl (by decide) [0, 1, 2, 3, 4, 5, 6, 7, 8, 9, 10] rfl (ws2 := fun _ => [(a 31, oX9 a (o_2 31)), (a 32, aI E 8 (hM 32)), (a 36, aI E 120 (hM 36)), (a 37, aI E 120 (hM 37)), (a 38, aI E 4096 (o_2 38)), (a 39, aI E 4096 (o_2 39)), (a 40, aI E 4096 (o_2 40)), (a 41, aI E 128 (o_2 41)), (a 42, aI E 98 (o_2 42)), (a 43, aI E 202 (o_2 43)), (a 44, aI E 4 (o_2 44))]) (fun _ => rfl) (fun _ => ?_)
    refine r.aload_n 1 (DX9_distance 13 rfl) rfl ?_
    refine r.get (v := .ref (a 38)) kX9 f_X9_29 rfl 0 rfl rfl (DX9_distance 14 rfl) ?_
    refine r.iload_n 2 (DX9_distance 15 rfl) rfl ?_
    refine r.iload_n 3 (DX9_distance 16 rfl) rfl ?_
    refine r.iload_n 4 (DX9_distance 17 rfl) rfl ?_
    refine r.iload 5 (DX9_distance 18 rfl) rfl ?_
    obtain ⟨o_3, ho_3, hxt⟩ := xbd hxt
    refine r.callSI0 (t_X9_numberOf E x1 x2 x3 x4 ho_3) g_X9_99 rfl (DX9_distance 19 rfl) rfl ⟨(Nat.le_of_ble_eq_true rfl), (Nat.le_of_ble_eq_true rfl)⟩ (Nat.le_of_ble_eq_true rfl) ?_
    obtain ⟨hin, hxt⟩ := xgd_some hxt
    refine r.iald 4 rfl hin (DX9_distance 20 rfl) ?_
    cases hxt
    exact hret _ _ _ _ (DX9_distance 21 rfl) rfl ⟨(), rfl, rfl⟩
  refine r.iload 0 (DX9_distance 9 rfl) rfl ?_
  cases hxt
  exact hret _ _ _ _ (DX9_distance 10 rfl) rfl ⟨(), rfl, rfl⟩
set_option maxRecDepth 100000 in
set_option maxHeartbeats 4000000 in
theorem t_X9_number (E : xE) (a : Nat → Nat) (x1 : Int32) (x2 : Int32) (x3 : Int32) (x4 : Int32) (hM : Mem) {o : Int32} (hxt : xt_X9_number x1 x2 x3 x4 hM = some o) : xMI (S := Unit) E yX9_number cX9_number 6 .int 3 0 0 [.ref (a 31), .int x1, .int x2, .int x3, .int x4] [(a 31, oX9 a (hM 31)), (a 32, aI E 8 (hM 32))] (fun _ => o) (fun _ => [(a 31, oX9 a (hM 31)), (a 32, aI E 8 (hM 32))]) := by
  refine xMI.of (own := RX9) (lo0 := [(0, .ref (a 31)), (1, .int x1), (2, .int x2), (3, .int x3), (4, .int x4)]) (by decide +kernel) rfl rfl (Nat.le_of_ble_eq_true rfl) (fun V r hret => ?_)
  unfold xt_X9_number at hxt
  refine r.aload_n 0 (DX9_number 0 rfl) rfl ?_
  refine r.iload_n 1 (DX9_number 1 rfl) rfl ?_
  refine r.iload_n 2 (DX9_number 2 rfl) rfl ?_
  refine r.iload_n 3 (DX9_number 3 rfl) rfl ?_
  refine r.iload 4 (DX9_number 4 rfl) rfl ?_
  obtain ⟨o_1, ho_1, hxt⟩ := xbd hxt
  refine r.callVI 0 rfl rfl (t_X9_whyNot E a x1 x2 x3 x4 hM ho_1) g_X9_201 rfl (DX9_number 5 rfl) rfl ⟨(Nat.le_of_ble_eq_true rfl), (Nat.le_of_ble_eq_true rfl)⟩ ⟨(Nat.le_of_ble_eq_true rfl), (Nat.le_of_ble_eq_true rfl)⟩ (Nat.le_of_ble_eq_true rfl) [0, 1] [] rfl rfl rfl rfl (by decide) [0, 1] rfl (ws2 := fun _ => [(a 31, oX9 a (hM 31)), (a 32, aI E 8 (hM 32))]) (fun _ => rfl) (fun _ => ?_)
  refine r.istore (lo' := [(5, .int o_1), (0, .ref (a 31)), (1, .int x1), (2, .int x2), (3, .int x3), (4, .int x4)]) (DX9_number 6 rfl) (Nat.le_of_ble_eq_true rfl) rfl ?_
  refine r.iload 0 (DX9_number 7 rfl) rfl ?_
  refine r.if_ge 21 (DX9_number 8 rfl) rfl hxt (fun _ hxt => ?_) (fun _ hxt => ?_)
  · refine r.iload_n 2 (DX9_number 11 rfl) rfl ?_
    refine r.iload_n 3 (DX9_number 12 rfl) rfl ?_
    refine r.iload_n 4 (DX9_number 13 rfl) rfl ?_
    refine r.iload 5 (DX9_number 14 rfl) rfl ?_
    obtain ⟨o_2, ho_2, hxt⟩ := xbd hxt
    refine r.callSI0 (t_X9_numberOf E x1 x2 x3 x4 ho_2) g_X9_99 rfl (DX9_number 15 rfl) rfl ⟨(Nat.le_of_ble_eq_true rfl), (Nat.le_of_ble_eq_true rfl)⟩ (Nat.le_of_ble_eq_true rfl) ?_
    cases hxt
    exact hret _ _ _ _ (DX9_number 16 rfl) rfl ⟨(), rfl, rfl⟩
  refine r.iload 0 (DX9_number 9 rfl) rfl ?_
  refine r.goto 29 (DX9_number 10 rfl) rfl ?_
  cases hxt
  exact hret _ _ _ _ (DX9_number 16 rfl) rfl ⟨(), rfl, rfl⟩
set_option maxRecDepth 100000 in
set_option maxHeartbeats 4000000 in
theorem t_X9_folded (E : xE) (a : Nat → Nat) (x1 : Int32) (x2 : Int32) (x3 : Int32) (x4 : Int32) (hM : Mem) {o : Int32 × Mem} (hxt : xt_X9_folded x1 x2 x3 x4 hM = some o) : xMI (S := Unit) E yX9_folded cX9_folded 6 .int 9 0 0 [.ref (a 31), .int x1, .int x2, .int x3, .int x4] [(a 31, oX9 a (hM 31)), (a 32, aI E 8 (hM 32)), (a 36, aI E 120 (hM 36)), (a 37, aI E 120 (hM 37)), (a 38, aI E 4096 (hM 38)), (a 39, aI E 4096 (hM 39)), (a 40, aI E 4096 (hM 40)), (a 41, aI E 128 (hM 41)), (a 42, aI E 98 (hM 42)), (a 43, aI E 202 (hM 43)), (a 44, aI E 4 (hM 44))] (fun _ => o.1) (fun _ => [(a 31, oX9 a (o.2 31)), (a 32, aI E 8 (hM 32)), (a 36, aI E 120 (hM 36)), (a 37, aI E 120 (hM 37)), (a 38, aI E 4096 (o.2 38)), (a 39, aI E 4096 (o.2 39)), (a 40, aI E 4096 (o.2 40)), (a 41, aI E 128 (o.2 41)), (a 42, aI E 98 (o.2 42)), (a 43, aI E 202 (o.2 43)), (a 44, aI E 4 (o.2 44))]) := by
  refine xMI.of (own := RX9) (lo0 := [(0, .ref (a 31)), (1, .int x1), (2, .int x2), (3, .int x3), (4, .int x4)]) (by decide +kernel) rfl rfl (Nat.le_of_ble_eq_true rfl) (fun V r hret => ?_)
  unfold xt_X9_folded at hxt
  refine r.aload_n 0 (DX9_folded 0 rfl) rfl ?_
  refine r.iload_n 1 (DX9_folded 1 rfl) rfl ?_
  refine r.iload_n 2 (DX9_folded 2 rfl) rfl ?_
  refine r.iload_n 3 (DX9_folded 3 rfl) rfl ?_
  refine r.iload 4 (DX9_folded 4 rfl) rfl ?_
  obtain ⟨o_1, ho_1, hxt⟩ := xbd hxt
  refine r.callVI 0 rfl rfl (t_X9_whyNot E a x1 x2 x3 x4 hM ho_1) g_X9_201 rfl (DX9_folded 5 rfl) rfl ⟨(Nat.le_of_ble_eq_true rfl), (Nat.le_of_ble_eq_true rfl)⟩ ⟨(Nat.le_of_ble_eq_true rfl), (Nat.le_of_ble_eq_true rfl)⟩ (Nat.le_of_ble_eq_true rfl) [0, 1] [2, 3, 4, 5, 6, 7, 8, 9, 10] rfl rfl rfl rfl (by decide) [9, 10, 0, 1, 2, 3, 4, 5, 6, 7, 8] rfl (ws2 := fun _ => [(a 31, oX9 a (hM 31)), (a 32, aI E 8 (hM 32)), (a 36, aI E 120 (hM 36)), (a 37, aI E 120 (hM 37)), (a 38, aI E 4096 (hM 38)), (a 39, aI E 4096 (hM 39)), (a 40, aI E 4096 (hM 40)), (a 41, aI E 128 (hM 41)), (a 42, aI E 98 (hM 42)), (a 43, aI E 202 (hM 43)), (a 44, aI E 4 (hM 44))]) (fun _ => rfl) (fun _ => ?_)
  refine r.istore (lo' := [(5, .int o_1), (0, .ref (a 31)), (1, .int x1), (2, .int x2), (3, .int x3), (4, .int x4)]) (DX9_folded 6 rfl) (Nat.le_of_ble_eq_true rfl) rfl ?_
  refine r.iload 0 (DX9_folded 7 rfl) rfl ?_
  refine r.if_ge 19 (DX9_folded 8 rfl) rfl hxt (fun _ hxt => ?_) (fun _ hxt => ?_)
  · refine r.aload_n 1 (DX9_folded 11 rfl) rfl ?_
    obtain ⟨o_2, ho_2, hxt⟩ := xbd hxt
    refine r.callVV 0 rfl rfl (t_X9_work E a hM ho_2) g_X9_161 rfl (DX9_folded 12 rfl) rfl ⟨(Nat.le_of_ble_eq_true rfl), (Nat.le_of_ble_eq_true rfl)⟩ ⟨(Nat.le_of_ble_eq_true rfl), (Nat.le_of_ble_eq_true rfl)⟩ (Nat.le_of_ble_eq_true rfl) [0, 1, 2, 3, 4, 5, 6, 7, 8, 9, 10] [] rfl rfl rfl rfl (by decide) [0, 1, 2, 3, 4, 5, 6, 7, 8, 9, 10] rfl (ws2 := fun _ => [(a 31, oX9 a (o_2 31)), (a 32, aI E 8 (hM 32)), (a 36, aI E 120 (hM 36)), (a 37, aI E 120 (hM 37)), (a 38, aI E 4096 (o_2 38)), (a 39, aI E 4096 (o_2 39)), (a 40, aI E 4096 (o_2 40)), (a 41, aI E 128 (o_2 41)), (a 42, aI E 98 (o_2 42)), (a 43, aI E 202 (o_2 43)), (a 44, aI E 4 (o_2 44))]) (fun _ => rfl) (fun _ => ?_)
    refine r.aload_n 1 (DX9_folded 13 rfl) rfl ?_
    refine r.get (v := .ref (a 39)) kX9 f_X9_32 rfl 0 rfl rfl (DX9_folded 14 rfl) ?_
    refine r.iload_n 2 (DX9_folded 15 rfl) rfl ?_
    refine r.iload_n 3 (DX9_folded 16 rfl) rfl ?_
    refine r.iload_n 4 (DX9_folded 17 rfl) rfl ?_
    refine r.iload 5 (DX9_folded 18 rfl) rfl ?_
    obtain ⟨o_3, ho_3, hxt⟩ := xbd hxt
    refine r.callSI0 (t_X9_numberOf E x1 x2 x3 x4 ho_3) g_X9_99 rfl (DX9_folded 19 rfl) rfl ⟨(Nat.le_of_ble_eq_true rfl), (Nat.le_of_ble_eq_true rfl)⟩ (Nat.le_of_ble_eq_true rfl) ?_
    obtain ⟨hin, hxt⟩ := xgd_some hxt
    refine r.iald 5 rfl hin (DX9_folded 20 rfl) ?_
    cases hxt
    exact hret _ _ _ _ (DX9_folded 21 rfl) rfl ⟨(), rfl, rfl⟩
  refine r.iload 0 (DX9_folded 9 rfl) rfl ?_
  cases hxt
  exact hret _ _ _ _ (DX9_folded 10 rfl) rfl ⟨(), rfl, rfl⟩
set_option maxRecDepth 100000 in
set_option maxHeartbeats 4000000 in
theorem t_X9_of (E : xE) (a : Nat → Nat) (x1 : Int32) (x2 : Int32) (hM : Mem) {o : Int32 × Mem} (hxt : xt_X9_of x1 x2 hM = some o) : xMI (S := Unit) E yX9_of cX9_of 3 .int 9 0 0 [.ref (a 31), .int x1, .int x2] [(a 31, oX9 a (hM 31)), (a 32, aI E 8 (hM 32)), (a 36, aI E 120 (hM 36)), (a 37, aI E 120 (hM 37)), (a 38, aI E 4096 (hM 38)), (a 39, aI E 4096 (hM 39)), (a 40, aI E 4096 (hM 40)), (a 41, aI E 128 (hM 41)), (a 42, aI E 98 (hM 42)), (a 43, aI E 202 (hM 43)), (a 44, aI E 4 (hM 44))] (fun _ => o.1) (fun _ => [(a 31, oX9 a (o.2 31)), (a 32, aI E 8 (hM 32)), (a 36, aI E 120 (hM 36)), (a 37, aI E 120 (hM 37)), (a 38, aI E 4096 (o.2 38)), (a 39, aI E 4096 (o.2 39)), (a 40, aI E 4096 (o.2 40)), (a 41, aI E 128 (o.2 41)), (a 42, aI E 98 (o.2 42)), (a 43, aI E 202 (o.2 43)), (a 44, aI E 4 (o.2 44))]) := by
  refine xMI.of (own := RX9) (lo0 := [(0, .ref (a 31)), (1, .int x1), (2, .int x2)]) (by decide +kernel) rfl rfl (Nat.le_of_ble_eq_true rfl) (fun V r hret => ?_)
  unfold xt_X9_of at hxt
  refine r.iload_n 1 (DX9_of_0 0 rfl) rfl ?_
  refine r.iconst (v := (0 : Int32)) (DX9_of_0 1 rfl) rfl ?_
  refine r.sipush (v := (4095 : Int32)) (DX9_of_0 2 rfl) rfl ?_
  obtain ⟨o_1, ho_1, hxt⟩ := xbd hxt
  refine r.callSI0 (t_X9_in E x1 (0 : Int32) (4095 : Int32) ho_1) g_X9_53 rfl (DX9_of_0 3 rfl) rfl ⟨(Nat.le_of_ble_eq_true rfl), (Nat.le_of_ble_eq_true rfl)⟩ (Nat.le_of_ble_eq_true rfl) ?_
  refine r.if_eq 21 (DX9_of_0 4 rfl) rfl hxt (fun _ hxt => ?_) (fun _ hxt => ?_)
  · refine r.bipush (v := (-2 : Int32)) (DX9_of_0 10 rfl) rfl ?_
    cases hxt
    exact hret _ _ _ _ (DX9_of_0 11 rfl) rfl ⟨(), rfl, rfl⟩
  refine r.iload_n 2 (DX9_of_0 5 rfl) rfl ?_
  refine r.iconst (v := (0 : Int32)) (DX9_of_0 6 rfl) rfl ?_
  refine r.bipush (v := (6 : Int32)) (DX9_of_0 7 rfl) rfl ?_
  obtain ⟨o_2, ho_2, hxt⟩ := xbd hxt
  refine r.callSI0 (t_X9_in E x2 (0 : Int32) (6 : Int32) ho_2) g_X9_53 rfl (DX9_of_0 8 rfl) rfl ⟨(Nat.le_of_ble_eq_true rfl), (Nat.le_of_ble_eq_true rfl)⟩ (Nat.le_of_ble_eq_true rfl) ?_
  refine r.if_ne 24 (DX9_of_0 9 rfl) rfl hxt (fun _ hxt => ?_) (fun _ hxt => ?_)
  · refine r.aload_n 0 (DX9_of_0 12 rfl) rfl ?_
    refine r.iload_n 1 (DX9_of_0 13 rfl) rfl ?_
    obtain ⟨o_3, ho_3, hxt⟩ := xbd hxt
    refine r.callVI 0 rfl rfl (t_X9_isPosition E a x1 hM ho_3) g_X9_113 rfl (DX9_of_0 14 rfl) rfl ⟨(Nat.le_of_ble_eq_true rfl), (Nat.le_of_ble_eq_true rfl)⟩ ⟨(Nat.le_of_ble_eq_true rfl), (Nat.le_of_ble_eq_true rfl)⟩ (Nat.le_of_ble_eq_true rfl) [0, 1, 2, 3] [4, 5, 6, 7, 8, 9, 10] rfl rfl rfl rfl (by decide) [7, 8, 9, 10, 0, 1, 2, 3, 4, 5, 6] rfl (ws2 := fun _ => [(a 31, oX9 a (hM 31)), (a 32, aI E 8 (hM 32)), (a 36, aI E 120 (hM 36)), (a 37, aI E 120 (hM 37)), (a 38, aI E 4096 (hM 38)), (a 39, aI E 4096 (hM 39)), (a 40, aI E 4096 (hM 40)), (a 41, aI E 128 (hM 41)), (a 42, aI E 98 (hM 42)), (a 43, aI E 202 (hM 43)), (a 44, aI E 4 (hM 44))]) (fun _ => rfl) (fun _ => ?_)
    refine r.if_ne 34 (DX9_of_0 15 rfl) rfl hxt (fun _ hxt => ?_) (fun _ hxt => ?_)
    · refine r.aload_n 0 (DX9_of_0 18 rfl) rfl ?_
      obtain ⟨o_4, ho_4, hxt⟩ := xbd hxt
      refine r.callVV 0 rfl rfl (t_X9_work E a hM ho_4) g_X9_161 rfl (DX9_of_0 19 rfl) rfl ⟨(Nat.le_of_ble_eq_true rfl), (Nat.le_of_ble_eq_true rfl)⟩ ⟨(Nat.le_of_ble_eq_true rfl), (Nat.le_of_ble_eq_true rfl)⟩ (Nat.le_of_ble_eq_true rfl) [0, 1, 2, 3, 4, 5, 6, 7, 8, 9, 10] [] rfl rfl rfl rfl (by decide) [0, 1, 2, 3, 4, 5, 6, 7, 8, 9, 10] rfl (ws2 := fun _ => [(a 31, oX9 a (o_4 31)), (a 32, aI E 8 (hM 32)), (a 36, aI E 120 (hM 36)), (a 37, aI E 120 (hM 37)), (a 38, aI E 4096 (o_4 38)), (a 39, aI E 4096 (o_4 39)), (a 40, aI E 4096 (o_4 40)), (a 41, aI E 128 (o_4 41)), (a 42, aI E 98 (o_4 42)), (a 43, aI E 202 (o_4 43)), (a 44, aI E 4 (o_4 44))]) (fun _ => rfl) (fun _ => ?_)
      refine r.iload_n 2 (DX9_of_0 20 rfl) rfl ?_
      refine xif hxt (fun hc hxt => r.tsOut 131 (DX9_of_0 21 rfl) hc rfl ?_) (fun hn hxt => ?_)
      · refine r.aload_n 0 (DX9_of_0 58 rfl) rfl ?_
        refine r.get (v := .ref (a 40)) kX9 f_X9_35 rfl 0 rfl rfl (DX9_of_0 59 rfl) ?_
        refine r.iload_n 1 (DX9_of_1 0 rfl) rfl ?_
        obtain ⟨hin, hxt⟩ := xgd_some hxt
        refine r.iald 6 rfl hin (DX9_of_1 1 rfl) ?_
        cases hxt
        exact hret _ _ _ _ (DX9_of_1 2 rfl) rfl ⟨(), rfl, rfl⟩
      refine xif hxt (fun hc hxt => r.tsIn 76 (DX9_of_0 21 rfl) hc hn rfl rfl ?_) (fun _ hxt => ?_)
      · refine r.iload_n 1 (DX9_of_0 22 rfl) rfl ?_
        refine r.sipush (v := (2048 : Int32)) (DX9_of_0 23 rfl) rfl ?_
        refine r.idiv (DX9_of_0 24 rfl) (by decide) ?_
        cases hxt
        exact hret _ _ _ _ (DX9_of_0 25 rfl) rfl ⟨(), rfl, rfl⟩
      refine xif hxt (fun hc hxt => r.tsIn 82 (DX9_of_0 21 rfl) hc hn rfl rfl ?_) (fun _ hxt => ?_)
      · refine r.iload_n 1 (DX9_of_0 26 rfl) rfl ?_
        refine r.sipush (v := (128 : Int32)) (DX9_of_0 27 rfl) rfl ?_
        refine r.idiv (DX9_of_0 28 rfl) (by decide) ?_
        refine r.bipush (v := (16 : Int32)) (DX9_of_0 29 rfl) rfl ?_
        refine r.irem (DX9_of_0 30 rfl) (by decide) ?_
        cases hxt
        exact hret _ _ _ _ (DX9_of_0 31 rfl) rfl ⟨(), rfl, rfl⟩
      refine xif hxt (fun hc hxt => r.tsIn 91 (DX9_of_0 21 rfl) hc hn rfl rfl ?_) (fun _ hxt => ?_)
      · refine r.aload_n 0 (DX9_of_0 32 rfl) rfl ?_
        refine r.get (v := .ref (a 36)) kX9 f_X9_23 rfl 0 rfl rfl (DX9_of_0 33 rfl) ?_
        refine r.iload_n 1 (DX9_of_0 34 rfl) rfl ?_
        refine r.sipush (v := (128 : Int32)) (DX9_of_0 35 rfl) rfl ?_
        refine r.irem (DX9_of_0 36 rfl) (by decide) ?_
        obtain ⟨hin, hxt⟩ := xgd_some hxt
        refine r.iald 2 rfl hin (DX9_of_0 37 rfl) ?_
        cases hxt
        exact hret _ _ _ _ (DX9_of_0 38 rfl) rfl ⟨(), rfl, rfl⟩
      refine xif hxt (fun hc hxt => r.tsIn 102 (DX9_of_0 21 rfl) hc hn rfl rfl ?_) (fun _ hxt => ?_)
      · refine r.aload_n 0 (DX9_of_0 39 rfl) rfl ?_
        refine r.get (v := .ref (a 37)) kX9 f_X9_26 rfl 0 rfl rfl (DX9_of_0 40 rfl) ?_
        refine r.iload_n 1 (DX9_of_0 41 rfl) rfl ?_
        refine r.sipush (v := (128 : Int32)) (DX9_of_0 42 rfl) rfl ?_
        refine r.irem (DX9_of_0 43 rfl) (by decide) ?_
        obtain ⟨hin, hxt⟩ := xgd_some hxt
        refine r.iald 3 rfl hin (DX9_of_0 44 rfl) ?_
        cases hxt
        exact hret _ _ _ _ (DX9_of_0 45 rfl) rfl ⟨(), rfl, rfl⟩
      refine xif hxt (fun hc hxt => r.tsIn 113 (DX9_of_0 21 rfl) hc hn rfl rfl ?_) (fun _ hxt => ?_)
      · refine r.aload_n 0 (DX9_of_0 46 rfl) rfl ?_
        refine r.get (v := .ref (a 38)) kX9 f_X9_29 rfl 0 rfl rfl (DX9_of_0 47 rfl) ?_
        refine r.iload_n 1 (DX9_of_0 48 rfl) rfl ?_
        obtain ⟨hin, hxt⟩ := xgd_some hxt
        refine r.iald 4 rfl hin (DX9_of_0 49 rfl) ?_
        cases hxt
        exact hret _ _ _ _ (DX9_of_0 50 rfl) rfl ⟨(), rfl, rfl⟩
      refine xif hxt (fun hc hxt => r.tsIn 120 (DX9_of_0 21 rfl) hc hn rfl rfl ?_) (fun _ hxt => ?_)
      · refine r.aload_n 0 (DX9_of_0 51 rfl) rfl ?_
        refine r.get (v := .ref (a 42)) kX9 f_X9_41 rfl 0 rfl rfl (DX9_of_0 52 rfl) ?_
        refine r.aload_n 0 (DX9_of_0 53 rfl) rfl ?_
        refine r.iload_n 1 (DX9_of_0 54 rfl) rfl ?_
        obtain ⟨o_5, ho_5, hxt⟩ := xbd hxt
        refine r.callVI 0 rfl rfl (t_X9_key E a x1 (mgs hM [31] o_4) ho_5) g_X9_138 rfl (DX9_of_0 55 rfl) rfl ⟨(Nat.le_of_ble_eq_true rfl), (Nat.le_of_ble_eq_true rfl)⟩ ⟨(Nat.le_of_ble_eq_true rfl), (Nat.le_of_ble_eq_true rfl)⟩ (Nat.le_of_ble_eq_true rfl) [0, 2, 3] [1, 4, 5, 6, 7, 8, 9, 10] rfl rfl rfl rfl (by decide) [8, 0, 9, 10, 1, 2, 3, 4, 5, 6, 7] rfl (ws2 := fun _ => [(a 31, oX9 a (o_4 31)), (a 32, aI E 8 (hM 32)), (a 36, aI E 120 (hM 36)), (a 37, aI E 120 (hM 37)), (a 38, aI E 4096 (o_4 38)), (a 39, aI E 4096 (o_4 39)), (a 40, aI E 4096 (o_4 40)), (a 41, aI E 128 (o_4 41)), (a 42, aI E 98 (o_4 42)), (a 43, aI E 202 (o_4 43)), (a 44, aI E 4 (o_4 44))]) (fun _ => rfl) (fun _ => ?_)
        obtain ⟨hin, hxt⟩ := xgd_some hxt
        refine r.iald 8 rfl hin (DX9_of_0 56 rfl) ?_
        cases hxt
        exact hret _ _ _ _ (DX9_of_0 57 rfl) rfl ⟨(), rfl, rfl⟩
      cases hxt
    refine r.iconst (v := (-1 : Int32)) (DX9_of_0 16 rfl) rfl ?_
    cases hxt
    exact hret _ _ _ _ (DX9_of_0 17 rfl) rfl ⟨(), rfl, rfl⟩
  refine r.bipush (v := (-2 : Int32)) (DX9_of_0 10 rfl) rfl ?_
  cases hxt
  exact hret _ _ _ _ (DX9_of_0 11 rfl) rfl ⟨(), rfl, rfl⟩
