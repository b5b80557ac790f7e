set_option maxRecDepth 100000 in
set_option maxHeartbeats 4000000 in
theorem t_X9_in (E : xE) (x0 : Int32) (x1 : Int32) (x2 : Int32) {o : Int32} (hxt : xt_X9_in x0 x1 x2 = some o) : xMI (S := Unit) E yX9_in cX9_in 3 .boolean 0 0 0 [.int x0, .int x1, .int x2] [] (fun _ => o) (fun _ => []) := by
  refine xMI.of (own := RX9) (lo0 := [(0, .int x0), (1, .int x1), (2, .int x2)]) (by decide +kernel) rfl rfl (Nat.le_of_ble_eq_true rfl) (fun V r hret => ?_)
  unfold xt_X9_in at hxt
  refine r.iload_n 0 (DX9_in 0 rfl) rfl ?_
  refine r.iload_n 1 (DX9_in 1 rfl) rfl ?_
  refine r.icmp_lt 14 (DX9_in 2 rfl) rfl hxt (fun _ hxt => ?_) (fun _ hxt => ?_)
  · refine r.iconst (v := (0 : Int32)) (DX9_in 8 rfl) rfl ?_
    cases hxt
    exact hret _ _ _ _ (DX9_in 9 rfl) rfl ⟨(), rfl, rfl⟩
  refine r.iload_n 0 (DX9_in 3 rfl) rfl ?_
  refine r.iload_n 2 (DX9_in 4 rfl) rfl ?_
  refine r.icmp_gt 14 (DX9_in 5 rfl) rfl hxt (fun _ hxt => ?_) (fun _ hxt => ?_)
  · refine r.iconst (v := (0 : Int32)) (DX9_in 8 rfl) rfl ?_
    cases hxt
    exact hret _ _ _ _ (DX9_in 9 rfl) rfl ⟨(), rfl, rfl⟩
  refine r.iconst (v := (1 : Int32)) (DX9_in 6 rfl) rfl ?_
  refine r.goto 15 (DX9_in 7 rfl) rfl ?_
  cases hxt
  exact hret _ _ _ _ (DX9_in 9 rfl) rfl ⟨(), rfl, rfl⟩
set_option maxRecDepth 100000 in
set_option maxHeartbeats 4000000 in
theorem l_X9_keep_47 (E : xE) (a : Nat → Nat) (x1 : Int32) (hM : Mem) {V : xVT} (r : Rl E RX9 cX9_keep (xR 0 0 0) 3 false V) {o : Mem} {k : Mem → Option (Mem)} (hk : ∀ (mM : Mem), k mM = some o → V 0 0 76 [(0, .ref (a 31))] [] [(a 31, oX9 a (hM 31)), (a 32, aI E 8 (hM 32)), (a 33, aI E 48 (mM 33))]) : ∀ (n : Nat) (v2 : Int32) (mM : Mem), xt_X9_keep_l47 x1 hM k n v2 mM = some o → V 0 0 47 [(0, .ref (a 31)), (1, .int x1), (2, .int v2)] [] [(a 31, oX9 a (hM 31)), (a 32, aI E 8 (hM 32)), (a 33, aI E 48 (mM 33))] := by
  intro n
  induction n with
  | zero => intro v2 mM hxt; exact xno hxt
  | succ n ih =>
    intro v2 mM hxt
    rw [xt_X9_keep_l47] at hxt
    refine r.iload_n 2 (DX9_keep 28 rfl) rfl ?_
    refine r.bipush (v := (8 : Int32)) (DX9_keep 29 rfl) rfl ?_
    refine r.icmp_ge 76 (DX9_keep 30 rfl) rfl hxt (fun _ hxt => ?_) (fun _ hxt => ?_)
    · refine r.rel (lo' := [(0, .ref (a 31))]) [0] rfl ?_
      exact hk (mgs hM [33] mM) hxt
    refine r.aload_n 0 (DX9_keep 31 rfl) rfl ?_
    refine r.get (v := .ref (a 33)) kX9 f_X9_13 rfl 0 rfl rfl (DX9_keep 32 rfl) ?_
    refine r.bipush (v := (8 : Int32)) (DX9_keep 33 rfl) rfl ?_
    refine r.iload_n 1 (DX9_keep 34 rfl) rfl ?_
    refine r.imul (DX9_keep 35 rfl) ?_
    refine r.iload_n 2 (DX9_keep 36 rfl) rfl ?_
    refine r.iadd (DX9_keep 37 rfl) ?_
    refine r.aload_n 0 (DX9_keep 38 rfl) rfl ?_
    refine r.get (v := .ref (a 32)) kX9 f_X9_7 rfl 0 rfl rfl (DX9_keep 39 rfl) ?_
    refine r.iload_n 2 (DX9_keep 40 rfl) rfl ?_
    obtain ⟨hin, hxt⟩ := xgd_some hxt
    refine r.iald 1 rfl hin (DX9_keep 41 rfl) ?_
    obtain ⟨hin, hxt⟩ := xgd_some hxt
    refine r.iast (ws' := [(a 31, oX9 a (hM 31)), (a 32, aI E 8 (hM 32)), (a 33, aI E 48 (upd (mM 33) (((8 : Int32) * x1) + v2).toNatClampNeg ((hM 32) v2.toNatClampNeg)))]) 2 rfl hin rfl (DX9_keep 42 rfl) ?_
    refine r.iinc (v := (v2 + (1 : Int32))) (lo' := [(2, .int (v2 + (1 : Int32))), (0, .ref (a 31)), (1, .int x1)]) 2 (DX9_keep 43 rfl) rfl rfl (Nat.le_of_ble_eq_true rfl) rfl ?_
    refine r.goto 47 (DX9_keep 44 rfl) rfl ?_
    refine r.rel (lo' := [(0, .ref (a 31)), (1, .int x1), (2, .int (v2 + (1 : Int32)))]) [1, 2, 0] rfl ?_
    exact ih (v2 + (1 : Int32)) (mset hM 33 (upd (mM 33) (((8 : Int32) * x1) + v2).toNatClampNeg ((hM 32) v2.toNatClampNeg))) hxt
set_option maxRecDepth 100000 in
set_option maxHeartbeats 4000000 in
theorem t_X9_keep (E : xE) (a : Nat → Nat) (hM : Mem) {o : Mem} (hxt : xt_X9_keep hM = some o) : xMV (S := Unit) E yX9_keep cX9_keep 3 0 0 0 [.ref (a 31)] [(a 31, oX9 a (hM 31)), (a 32, aI E 8 (hM 32)), (a 33, aI E 48 (hM 33))] (fun _ => [(a 31, oX9 a (o 31)), (a 32, aI E 8 (hM 32)), (a 33, aI E 48 (o 33))]) := by
  refine xMV.of (own := RX9) (lo0 := [(0, .ref (a 31))]) (ini := false) (fun h => nomatch h) (by decide +kernel) rfl rfl (Nat.le_of_ble_eq_true rfl) (fun V r hret => ?_)
  unfold xt_X9_keep at hxt
  refine r.aload_n 0 (DX9_keep 0 rfl) rfl ?_
  refine r.get (v := .int ((hM 31) 3)) kX9 f_X9_57 rfl 0 rfl rfl (DX9_keep 1 rfl) ?_
  refine r.bipush (v := (6 : Int32)) (DX9_keep 2 rfl) rfl ?_
  refine r.icmp_ne 32 (DX9_keep 3 rfl) rfl hxt (fun _ hxt => ?_) (fun _ hxt => ?_)
  · refine r.aload_n 0 (DX9_keep 18 rfl) rfl ?_
    refine r.get (v := .int ((hM 31) 2)) kX9 f_X9_61 rfl 0 rfl rfl (DX9_keep 19 rfl) ?_
    refine r.aload_n 0 (DX9_keep 20 rfl) rfl ?_
    refine r.get (v := .int ((hM 31) 3)) kX9 f_X9_57 rfl 0 rfl rfl (DX9_keep 21 rfl) ?_
    refine r.iadd (DX9_keep 22 rfl) ?_
    refine r.bipush (v := (6 : Int32)) (DX9_keep 23 rfl) rfl ?_
    refine r.irem (DX9_keep 24 rfl) (by decide) ?_
    refine r.istore_n (lo' := [(1, .int ((((hM 31) 2) + ((hM 31) 3)) - (((hM 31) 2) + ((hM 31) 3)) / (6 : Int32) * (6 : Int32))), (0, .ref (a 31))]) (DX9_keep 25 rfl) (Nat.le_of_ble_eq_true rfl) rfl ?_
    refine r.iconst (v := (0 : Int32)) (DX9_keep 26 rfl) rfl ?_
    refine r.istore_n (lo' := [(2, .int (0 : Int32)), (1, .int ((((hM 31) 2) + ((hM 31) 3)) - (((hM 31) 2) + ((hM 31) 3)) / (6 : Int32) * (6 : Int32))), (0, .ref (a 31))]) (DX9_keep 27 rfl) (Nat.le_of_ble_eq_true rfl) rfl ?_
    refine r.rel (lo' := [(0, .ref (a 31)), (1, .int ((((hM 31) 2) + ((hM 31) 3)) - (((hM 31) 2) + ((hM 31) 3)) / (6 : Int32) * (6 : Int32))), (2, .int (0 : Int32))]) [2, 1, 0] rfl ?_
    refine l_X9_keep_47 E a ((((hM 31) 2) + ((hM 31) 3)) - (((hM 31) 2) + ((hM 31) 3)) / (6 : Int32) * (6 : Int32)) hM r (fun m_1 hxt => ?_) 10000 (0 : Int32) hM hxt
    refine r.aload_n 0 (DX9_keep 45 rfl) rfl ?_
    refine r.dup (DX9_keep 46 rfl) rfl ?_
    refine r.get (v := .int ((hM 31) 3)) kX9 f_X9_57 rfl 0 rfl rfl (DX9_keep 47 rfl) ?_
    refine r.iconst (v := (1 : Int32)) (DX9_keep 48 rfl) rfl ?_
    refine r.iadd (DX9_keep 49 rfl) ?_
    refine r.put (ws' := [(a 31, oX9 a (upd (hM 31) 3 (((hM 31) 3) + (1 : Int32)))), (a 32, aI E 8 (hM 32)), (a 33, aI E 48 (m_1 33))]) kX9 f_X9_57 0 rfl rfl rfl rfl (Nat.le_of_ble_eq_true rfl) rfl (DX9_keep 50 rfl) ?_
    cases hxt
    exact hret _ _ _ (DX9_keep 51 rfl) ⟨(), rfl⟩
  refine r.aload_n 0 (DX9_keep 4 rfl) rfl ?_
  refine r.aload_n 0 (DX9_keep 5 rfl) rfl ?_
  refine r.get (v := .int ((hM 31) 2)) kX9 f_X9_61 rfl 0 rfl rfl (DX9_keep 6 rfl) ?_
  refine r.iconst (v := (1 : Int32)) (DX9_keep 7 rfl) rfl ?_
  refine r.iadd (DX9_keep 8 rfl) ?_
  refine r.bipush (v := (6 : Int32)) (DX9_keep 9 rfl) rfl ?_
  refine r.irem (DX9_keep 10 rfl) (by decide) ?_
  refine r.put (ws' := [(a 31, oX9 a (upd (hM 31) 2 ((((hM 31) 2) + (1 : Int32)) - (((hM 31) 2) + (1 : Int32)) / (6 : Int32) * (6 : Int32)))), (a 32, aI E 8 (hM 32)), (a 33, aI E 48 (hM 33))]) kX9 f_X9_61 0 rfl rfl rfl rfl (Nat.le_of_ble_eq_true rfl) rfl (DX9_keep 11 rfl) ?_
  refine r.aload_n 0 (DX9_keep 12 rfl) rfl ?_
  refine r.dup (DX9_keep 13 rfl) rfl ?_
  refine r.get (v := .int ((hM 31) 3)) kX9 f_X9_57 rfl 0 rfl rfl (DX9_keep 14 rfl) ?_
  refine r.iconst (v := (1 : Int32)) (DX9_keep 15 rfl) rfl ?_
  refine r.isub (DX9_keep 16 rfl) ?_
  refine r.put (ws' := [(a 31, oX9 a (upd (upd (hM 31) 2 ((((hM 31) 2) + (1 : Int32)) - (((hM 31) 2) + (1 : Int32)) / (6 : Int32) * (6 : Int32))) 3 (((hM 31) 3) - (1 : Int32)))), (a 32, aI E 8 (hM 32)), (a 33, aI E 48 (hM 33))]) kX9 f_X9_57 0 rfl rfl rfl rfl (Nat.le_of_ble_eq_true rfl) rfl (DX9_keep 17 rfl) ?_
  refine r.aload_n 0 (DX9_keep 18 rfl) rfl ?_
  refine r.get (v := .int ((((hM 31) 2) + (1 : Int32)) - (((hM 31) 2) + (1 : Int32)) / (6 : Int32) * (6 : Int32))) kX9 f_X9_61 rfl 0 rfl rfl (DX9_keep 19 rfl) ?_
  refine r.aload_n 0 (DX9_keep 20 rfl) rfl ?_
  refine r.get (v := .int (((hM 31) 3) - (1 : Int32))) kX9 f_X9_57 rfl 0 rfl rfl (DX9_keep 21 rfl) ?_
  refine r.iadd (DX9_keep 22 rfl) ?_
  refine r.bipush (v := (6 : Int32)) (DX9_keep 23 rfl) rfl ?_
  refine r.irem (DX9_keep 24 rfl) (by decide) ?_
  refine r.istore_n (lo' := [(1, .int ((((((hM 31) 2) + (1 : Int32)) - (((hM 31) 2) + (1 : Int32)) / (6 : Int32) * (6 : Int32)) + (((hM 31) 3) - (1 : Int32))) - (((((hM 31) 2) + (1 : Int32)) - (((hM 31) 2) + (1 : Int32)) / (6 : Int32) * (6 : Int32)) + (((hM 31) 3) - (1 : Int32))) / (6 : Int32) * (6 : Int32))), (0, .ref (a 31))]) (DX9_keep 25 rfl) (Nat.le_of_ble_eq_true rfl) rfl ?_
  refine r.iconst (v := (0 : Int32)) (DX9_keep 26 rfl) rfl ?_
  refine r.istore_n (lo' := [(2, .int (0 : Int32)), (1, .int ((((((hM 31) 2) + (1 : Int32)) - (((hM 31) 2) + (1 : Int32)) / (6 : Int32) * (6 : Int32)) + (((hM 31) 3) - (1 : Int32))) - (((((hM 31) 2) + (1 : Int32)) - (((hM 31) 2) + (1 : Int32)) / (6 : Int32) * (6 : Int32)) + (((hM 31) 3) - (1 : Int32))) / (6 : Int32) * (6 : Int32))), (0, .ref (a 31))]) (DX9_keep 27 rfl) (Nat.le_of_ble_eq_true rfl) rfl ?_
  refine r.rel (lo' := [(0, .ref (a 31)), (1, .int ((((((hM 31) 2) + (1 : Int32)) - (((hM 31) 2) + (1 : Int32)) / (6 : Int32) * (6 : Int32)) + (((hM 31) 3) - (1 : Int32))) - (((((hM 31) 2) + (1 : Int32)) - (((hM 31) 2) + (1 : Int32)) / (6 : Int32) * (6 : Int32)) + (((hM 31) 3) - (1 : Int32))) / (6 : Int32) * (6 : Int32))), (2, .int (0 : Int32))]) [2, 1, 0] rfl ?_
  refine l_X9_keep_47 E a ((((((hM 31) 2) + (1 : Int32)) - (((hM 31) 2) + (1 : Int32)) / (6 : Int32) * (6 : Int32)) + (((hM 31) 3) - (1 : Int32))) - (((((hM 31) 2) + (1 : Int32)) - (((hM 31) 2) + (1 : Int32)) / (6 : Int32) * (6 : Int32)) + (((hM 31) 3) - (1 : Int32))) / (6 : Int32) * (6 : Int32)) (mset hM 31 (upd (upd (hM 31) 2 ((((hM 31) 2) + (1 : Int32)) - (((hM 31) 2) + (1 : Int32)) / (6 : Int32) * (6 : Int32))) 3 (((hM 31) 3) - (1 : Int32)))) r (fun m_2 hxt => ?_) 10000 (0 : Int32) hM hxt
  refine r.aload_n 0 (DX9_keep 45 rfl) rfl ?_
  refine r.dup (DX9_keep 46 rfl) rfl ?_
  refine r.get (v := .int (((hM 31) 3) - (1 : Int32))) kX9 f_X9_57 rfl 0 rfl rfl (DX9_keep 47 rfl) ?_
  refine r.iconst (v := (1 : Int32)) (DX9_keep 48 rfl) rfl ?_
  refine r.iadd (DX9_keep 49 rfl) ?_
  refine r.put (ws' := [(a 31, oX9 a (upd (upd (hM 31) 2 ((((hM 31) 2) + (1 : Int32)) - (((hM 31) 2) + (1 : Int32)) / (6 : Int32) * (6 : Int32))) 3 ((((hM 31) 3) - (1 : Int32)) + (1 : Int32)))), (a 32, aI E 8 (hM 32)), (a 33, aI E 48 (m_2 33))]) kX9 f_X9_57 0 rfl rfl rfl rfl (Nat.le_of_ble_eq_true rfl) rfl (DX9_keep 50 rfl) ?_
  cases hxt
  exact hret _ _ _ (DX9_keep 51 rfl) ⟨(), rfl⟩
set_option maxRecDepth 100000 in
set_option maxHeartbeats 4000000 in
theorem t_X9_set (E : xE) (a : Nat → Nat) (x1 : Int32) (x2 : Int32) (hM : Mem) {o : Int32 × Mem} (hxt : xt_X9_set x1 x2 hM = some o) : xMI (S := Unit) E yX9_set cX9_set 4 .int 1 0 0 [.ref (a 31), .int x1, .int x2] [(a 31, oX9 a (hM 31)), (a 32, aI E 8 (hM 32)), (a 33, aI E 48 (hM 33))] (fun _ => o.1) (fun _ => [(a 31, oX9 a (o.2 31)), (a 32, aI E 8 (o.2 32)), (a 33, aI E 48 (o.2 33))]) := by
  refine xMI.of (own := RX9) (lo0 := [(0, .ref (a 31)), (1, .int x1), (2, .int x2)]) (by decide +kernel) rfl rfl (Nat.le_of_ble_eq_true rfl) (fun V r hret => ?_)
  unfold xt_X9_set at hxt
  refine r.iload_n 1 (DX9_set 0 rfl) rfl ?_
  refine r.iconst (v := (0 : Int32)) (DX9_set 1 rfl) rfl ?_
  refine r.iconst (v := (2 : Int32)) (DX9_set 2 rfl) rfl ?_
  obtain ⟨o_1, ho_1, hxt⟩ := xbd hxt
  refine r.callSI0 (t_X9_in E x1 (0 : Int32) (2 : Int32) ho_1) g_X9_53 rfl (DX9_set 3 rfl) rfl ⟨(Nat.le_of_ble_eq_true rfl), (Nat.le_of_ble_eq_true rfl)⟩ (Nat.le_of_ble_eq_true rfl) ?_
  refine r.if_eq 18 (DX9_set 4 rfl) rfl hxt (fun _ hxt => ?_) (fun _ hxt => ?_)
  · refine r.bipush (v := (-2 : Int32)) (DX9_set 10 rfl) rfl ?_
    cases hxt
    exact hret _ _ _ _ (DX9_set 11 rfl) rfl ⟨(), rfl, rfl⟩
  refine r.iload_n 2 (DX9_set 5 rfl) rfl ?_
  refine r.iconst (v := (0 : Int32)) (DX9_set 6 rfl) rfl ?_
  refine r.iconst (v := (1 : Int32)) (DX9_set 7 rfl) rfl ?_
  obtain ⟨o_2, ho_2, hxt⟩ := xbd hxt
  refine r.callSI0 (t_X9_in E x2 (0 : Int32) (1 : Int32) ho_2) g_X9_53 rfl (DX9_set 8 rfl) rfl ⟨(Nat.le_of_ble_eq_true rfl), (Nat.le_of_ble_eq_true rfl)⟩ (Nat.le_of_ble_eq_true rfl) ?_
  refine r.if_ne 21 (DX9_set 9 rfl) rfl hxt (fun _ hxt => ?_) (fun _ hxt => ?_)
  · refine r.aload_n 0 (DX9_set 12 rfl) rfl ?_
    obtain ⟨o_3, ho_3, hxt⟩ := xbd hxt
    refine r.callVV 0 rfl rfl (t_X9_keep E a hM ho_3) g_X9_192 rfl (DX9_set 13 rfl) rfl ⟨(Nat.le_of_ble_eq_true rfl), (Nat.le_of_ble_eq_true rfl)⟩ ⟨(Nat.le_of_ble_eq_true rfl), (Nat.le_of_ble_eq_true rfl)⟩ (Nat.le_of_ble_eq_true rfl) [0, 1, 2] [] rfl rfl rfl rfl (by decide) [0, 1, 2] rfl (ws2 := fun _ => [(a 31, oX9 a (o_3 31)), (a 32, aI E 8 (hM 32)), (a 33, aI E 48 (o_3 33))]) (fun _ => rfl) (fun _ => ?_)
    refine r.aload_n 0 (DX9_set 14 rfl) rfl ?_
    refine r.get (v := .ref (a 32)) kX9 f_X9_7 rfl 0 rfl rfl (DX9_set 15 rfl) ?_
    refine r.iload_n 1 (DX9_set 16 rfl) rfl ?_
    obtain ⟨hin, hxt⟩ := xgd_some hxt
    refine r.iald 1 rfl hin (DX9_set 17 rfl) ?_
    refine r.istore_n (lo' := [(3, .int ((hM 32) x1.toNatClampNeg)), (0, .ref (a 31)), (1, .int x1), (2, .int x2)]) (DX9_set 18 rfl) (Nat.le_of_ble_eq_true rfl) rfl ?_
    refine r.aload_n 1 (DX9_set 19 rfl) rfl ?_
    refine r.get (v := .ref (a 32)) kX9 f_X9_7 rfl 0 rfl rfl (DX9_set 20 rfl) ?_
    refine r.iload_n 2 (DX9_set 21 rfl) rfl ?_
    refine r.iload_n 3 (DX9_set 22 rfl) rfl ?_
    obtain ⟨hin, hxt⟩ := xgd_some hxt
    refine r.iast (ws' := [(a 31, oX9 a (o_3 31)), (a 32, aI E 8 (upd (hM 32) x1.toNatClampNeg x2)), (a 33, aI E 48 (o_3 33))]) 1 rfl hin rfl (DX9_set 23 rfl) ?_
    refine r.iload_n 0 (DX9_set 24 rfl) rfl ?_
    cases hxt
    exact hret _ _ _ _ (DX9_set 25 rfl) rfl ⟨(), rfl, rfl⟩
  refine r.bipush (v := (-2 : Int32)) (DX9_set 10 rfl) rfl ?_
  cases hxt
  exact hret _ _ _ _ (DX9_set 11 rfl) rfl ⟨(), rfl, rfl⟩
set_option maxRecDepth 100000 in
set_option maxHeartbeats 4000000 in
theorem t_X9_isPlace (E : xE) (x0 : Int32) {o : Int32} (hxt : xt_X9_isPlace x0 = some o) : xMI (S := Unit) E yX9_isPlace cX9_isPlace 1 .boolean 1 0 0 [.int x0] [] (fun _ => o) (fun _ => []) := by
  refine xMI.of (own := RX9) (lo0 := [(0, .int x0)]) (by decide +kernel) rfl rfl (Nat.le_of_ble_eq_true rfl) (fun V r hret => ?_)
  unfold xt_X9_isPlace at hxt
  refine r.iload_n 0 (DX9_isPlace 0 rfl) rfl ?_
  refine r.iconst (v := (0 : Int32)) (DX9_isPlace 1 rfl) rfl ?_
  refine r.bipush (v := (15 : Int32)) (DX9_isPlace 2 rfl) rfl ?_
  obtain ⟨o_1, ho_1, hxt⟩ := xbd hxt
  refine r.callSI0 (t_X9_in E x0 (0 : Int32) (15 : Int32) ho_1) g_X9_53 rfl (DX9_isPlace 3 rfl) rfl ⟨(Nat.le_of_ble_eq_true rfl), (Nat.le_of_ble_eq_true rfl)⟩ (Nat.le_of_ble_eq_true rfl) ?_
  obtain ⟨hn, hxt⟩ := xgb_some hxt
  cases hxt
  exact hret _ _ _ _ (DX9_isPlace 4 rfl) hn ⟨(), rfl, rfl⟩
set_option maxRecDepth 100000 in
set_option maxHeartbeats 4000000 in
theorem t_X9_has (E : xE) (x0 : Int32) (x1 : Int32) {o : Int32} (hxt : xt_X9_has x0 x1 = some o) : xMI (S := Unit) E yX9_has cX9_has 2 .boolean 0 0 0 [.int x0, .int x1] [] (fun _ => o) (fun _ => []) := by
  refine xMI.of (own := RX9) (lo0 := [(0, .int x0), (1, .int x1)]) (by decide +kernel) rfl rfl (Nat.le_of_ble_eq_true rfl) (fun V r hret => ?_)
  unfold xt_X9_has at hxt
  refine r.iload_n 0 (DX9_has 0 rfl) rfl ?_
  refine r.iload_n 1 (DX9_has 1 rfl) rfl ?_
  refine r.ishr (DX9_has 2 rfl) ?_
  refine r.iconst (v := (1 : Int32)) (DX9_has 3 rfl) rfl ?_
  refine r.iand (DX9_has 4 rfl) ?_
  refine r.iconst (v := (1 : Int32)) (DX9_has 5 rfl) rfl ?_
  refine r.icmp_ne 13 (DX9_has 6 rfl) rfl hxt (fun _ hxt => ?_) (fun _ hxt => ?_)
  · refine r.iconst (v := (0 : Int32)) (DX9_has 9 rfl) rfl ?_
    cases hxt
    exact hret _ _ _ _ (DX9_has 10 rfl) rfl ⟨(), rfl, rfl⟩
  refine r.iconst (v := (1 : Int32)) (DX9_has 7 rfl) rfl ?_
  refine r.goto 14 (DX9_has 8 rfl) rfl ?_
  cases hxt
  exact hret _ _ _ _ (DX9_has 10 rfl) rfl ⟨(), rfl, rfl⟩
set_option maxRecDepth 100000 in
set_option maxHeartbeats 4000000 in
theorem t_X9_isFree (E : xE) (a : Nat → Nat) (x1 : Int32) (hM : Mem) {o : Int32} (hxt : xt_X9_isFree x1 hM = some o) : xMI (S := Unit) E yX9_isFree cX9_isFree 2 .boolean 1 0 0 [.ref (a 31), .int x1] [(a 31, oX9 a (hM 31)), (a 32, aI E 8 (hM 32))] (fun _ => o) (fun _ => [(a 31, oX9 a (hM 31)), (a 32, aI E 8 (hM 32))]) := by
  refine xMI.of (own := RX9) (lo0 := [(0, .ref (a 31)), (1, .int x1)]) (by decide +kernel) rfl rfl (Nat.le_of_ble_eq_true rfl) (fun V r hret => ?_)
  unfold xt_X9_isFree at hxt
  refine r.aload_n 0 (DX9_isFree 0 rfl) rfl ?_
  refine r.get (v := .ref (a 32)) kX9 f_X9_7 rfl 0 rfl rfl (DX9_isFree 1 rfl) ?_
  refine r.iconst (v := (3 : Int32)) (DX9_isFree 2 rfl) rfl ?_
  obtain ⟨hin, hxt⟩ := xgd_some hxt
  refine r.iald 1 rfl hin (DX9_isFree 3 rfl) ?_
  refine r.iload_n 1 (DX9_isFree 4 rfl) rfl ?_
  obtain ⟨o_1, ho_1, hxt⟩ := xbd hxt
  refine r.callSI0 (t_X9_has E ((hM 32) (3 : Int32).toNatClampNeg) x1 ho_1) g_X9_78 rfl (DX9_isFree 5 rfl) rfl ⟨(Nat.le_of_ble_eq_true rfl), (Nat.le_of_ble_eq_true rfl)⟩ (Nat.le_of_ble_eq_true rfl) ?_
  refine r.if_ne 17 (DX9_isFree 6 rfl) rfl hxt (fun _ hxt => ?_) (fun _ hxt => ?_)
  · refine r.iconst (v := (0 : Int32)) (DX9_isFree 9 rfl) rfl ?_
    cases hxt
    exact hret _ _ _ _ (DX9_isFree 10 rfl) rfl ⟨(), rfl, rfl⟩
  refine r.iconst (v := (1 : Int32)) (DX9_isFree 7 rfl) rfl ?_
  refine r.goto 18 (DX9_isFree 8 rfl) rfl ?_
  cases hxt
  exact hret _ _ _ _ (DX9_isFree 10 rfl) rfl ⟨(), rfl, rfl⟩
set_option maxRecDepth 100000 in
set_option maxHeartbeats 4000000 in
theorem l_X9_many_4 (E : xE) (x0 : Int32) {V : xVT} (r : Rl E RX9 cX9_many (xR 0 0 0) 3 false V) {o : Int32} {k : Int32 → Option (Int32)} (hk : ∀ (v1 : Int32), k v1 = some o → V 0 0 24 [(1, .int v1)] [] []) : ∀ (n : Nat) (v1 : Int32) (v2 : Int32), xt_X9_many_l4 x0 k n v1 v2 = some o → V 0 0 4 [(0, .int x0), (1, .int v1), (2, .int v2)] [] [] := by
  intro n
  induction n with
  | zero => intro v1 v2 hxt; exact xno hxt
  | succ n ih =>
    intro v1 v2 hxt
    rw [xt_X9_many_l4] at hxt
    refine r.iload_n 2 (DX9_many 4 rfl) rfl ?_
    refine r.bipush (v := (16 : Int32)) (DX9_many 5 rfl) rfl ?_
    refine r.icmp_ge 24 (DX9_many 6 rfl) rfl hxt (fun _ hxt => ?_) (fun _ hxt => ?_)
    · refine r.rel (lo' := [(1, .int v1)]) [1] rfl ?_
      exact hk v1 hxt
    refine r.iload_n 1 (DX9_many 7 rfl) rfl ?_
    refine r.iload_n 0 (DX9_many 8 rfl) rfl ?_
    refine r.iload_n 2 (DX9_many 9 rfl) rfl ?_
    refine r.ishr (DX9_many 10 rfl) ?_
    refine r.iconst (v := (1 : Int32)) (DX9_many 11 rfl) rfl ?_
    refine r.iand (DX9_many 12 rfl) ?_
    refine r.iadd (DX9_many 13 rfl) ?_
    refine r.istore_n (lo' := [(1, .int (v1 + ((x0 >>> (v2 &&& 31)) &&& (1 : Int32)))), (0, .int x0), (2, .int v2)]) (DX9_many 14 rfl) (Nat.le_of_ble_eq_true rfl) rfl ?_
    refine r.iinc (v := (v2 + (1 : Int32))) (lo' := [(2, .int (v2 + (1 : Int32))), (1, .int (v1 + ((x0 >>> (v2 &&& 31)) &&& (1 : Int32)))), (0, .int x0)]) 2 (DX9_many 15 rfl) rfl rfl (Nat.le_of_ble_eq_true rfl) rfl ?_
    refine r.goto 4 (DX9_many 16 rfl) rfl ?_
    refine r.rel (lo' := [(0, .int x0), (1, .int (v1 + ((x0 >>> (v2 &&& 31)) &&& (1 : Int32)))), (2, .int (v2 + (1 : Int32)))]) [2, 1, 0] rfl ?_
    exact ih (v1 + ((x0 >>> (v2 &&& 31)) &&& (1 : Int32))) (v2 + (1 : Int32)) hxt
set_option maxRecDepth 100000 in
set_option maxHeartbeats 4000000 in
theorem t_X9_many (E : xE) (x0 : Int32) {o : Int32} (hxt : xt_X9_many x0 = some o) : xMI (S := Unit) E yX9_many cX9_many 3 .int 0 0 0 [.int x0] [] (fun _ => o) (fun _ => []) := by
  refine xMI.of (own := RX9) (lo0 := [(0, .int x0)]) (by decide +kernel) rfl rfl (Nat.le_of_ble_eq_true rfl) (fun V r hret => ?_)
  unfold xt_X9_many at hxt
  refine r.iconst (v := (0 : Int32)) (DX9_many 0 rfl) rfl ?_
  refine r.istore_n (lo' := [(1, .int (0 : Int32)), (0, .int x0)]) (DX9_many 1 rfl) (Nat.le_of_ble_eq_true rfl) rfl ?_
  refine r.iconst (v := (0 : Int32)) (DX9_many 2 rfl) rfl ?_
  refine r.istore_n (lo' := [(2, .int (0 : Int32)), (1, .int (0 : Int32)), (0, .int x0)]) (DX9_many 3 rfl) (Nat.le_of_ble_eq_true rfl) rfl ?_
  refine r.rel (lo' := [(0, .int x0), (1, .int (0 : Int32)), (2, .int (0 : Int32))]) [2, 1, 0] rfl ?_
  refine l_X9_many_4 E x0 r (fun v1_1 hxt => ?_) 10000 (0 : Int32) (0 : Int32) hxt
  refine r.iload_n 0 (DX9_many 17 rfl) rfl ?_
  cases hxt
  exact hret _ _ _ _ (DX9_many 18 rfl) rfl ⟨(), rfl, rfl⟩
set_option maxRecDepth 100000 in
set_option maxHeartbeats 4000000 in
theorem t_X9_block (E : xE) (a : Nat → Nat) (x1 : Int32) (hM : Mem) {o : Int32 × Mem} (hxt : xt_X9_block x1 hM = some o) : xMI (S := Unit) E yX9_block cX9_block 2 .int 2 0 0 [.ref (a 31), .int x1] [(a 31, oX9 a (hM 31)), (a 32, aI E 8 (hM 32)), (a 33, aI E 48 (hM 33))] (fun _ => o.1) (fun _ => [(a 31, oX9 a (o.2 31)), (a 32, aI E 8 (o.2 32)), (a 33, aI E 48 (o.2 33))]) := by
  refine xMI.of (own := RX9) (lo0 := [(0, .ref (a 31)), (1, .int x1)]) (by decide +kernel) rfl rfl (Nat.le_of_ble_eq_true rfl) (fun V r hret => ?_)
  unfold xt_X9_block at hxt
  refine r.iload_n 1 (DX9_block 0 rfl) rfl ?_
  obtain ⟨o_1, ho_1, hxt⟩ := xbd hxt
  refine r.callSI0 (t_X9_isPlace E x1 ho_1) g_X9_195 rfl (DX9_block 1 rfl) rfl ⟨(Nat.le_of_ble_eq_true rfl), (Nat.le_of_ble_eq_true rfl)⟩ (Nat.le_of_ble_eq_true rfl) ?_
  refine r.if_ne 9 (DX9_block 2 rfl) rfl hxt (fun _ hxt => ?_) (fun _ hxt => ?_)
  · refine r.aload_n 0 (DX9_block 5 rfl) rfl ?_
    refine r.iload_n 1 (DX9_block 6 rfl) rfl ?_
    obtain ⟨o_2, ho_2, hxt⟩ := xbd hxt
    refine r.callVI 0 rfl rfl (t_X9_isFree E a x1 hM ho_2) g_X9_91 rfl (DX9_block 7 rfl) rfl ⟨(Nat.le_of_ble_eq_true rfl), (Nat.le_of_ble_eq_true rfl)⟩ ⟨(Nat.le_of_ble_eq_true rfl), (Nat.le_of_ble_eq_true rfl)⟩ (Nat.le_of_ble_eq_true rfl) [0, 1] [2] rfl rfl rfl rfl (by decide) [1, 2, 0] rfl (ws2 := fun _ => [(a 31, oX9 a (hM 31)), (a 32, aI E 8 (hM 32)), (a 33, aI E 48 (hM 33))]) (fun _ => rfl) (fun _ => ?_)
    refine r.if_eq 34 (DX9_block 8 rfl) rfl hxt (fun _ hxt => ?_) (fun _ hxt => ?_)
    · refine r.iload_n 1 (DX9_block 18 rfl) rfl ?_
      refine r.aload_n 0 (DX9_block 19 rfl) rfl ?_
      refine r.get (v := .ref (a 32)) kX9 f_X9_7 rfl 0 rfl rfl (DX9_block 20 rfl) ?_
      refine r.iconst (v := (5 : Int32)) (DX9_block 21 rfl) rfl ?_
      obtain ⟨hin, hxt⟩ := xgd_some hxt
      refine r.iald 1 rfl hin (DX9_block 22 rfl) ?_
      refine r.icmp_eq 66 (DX9_block 23 rfl) rfl hxt (fun _ hxt => ?_) (fun _ hxt => ?_)
      · refine r.bipush (v := (-5 : Int32)) (DX9_block 36 rfl) rfl ?_
        cases hxt
        exact hret _ _ _ _ (DX9_block 37 rfl) rfl ⟨(), rfl, rfl⟩
      refine r.iload_n 1 (DX9_block 24 rfl) rfl ?_
      refine r.aload_n 0 (DX9_block 25 rfl) rfl ?_
      refine r.get (v := .ref (a 32)) kX9 f_X9_7 rfl 0 rfl rfl (DX9_block 26 rfl) ?_
      refine r.bipush (v := (6 : Int32)) (DX9_block 27 rfl) rfl ?_
      obtain ⟨hin, hxt⟩ := xgd_some hxt
      refine r.iald 1 rfl hin (DX9_block 28 rfl) ?_
      refine r.icmp_eq 66 (DX9_block 29 rfl) rfl hxt (fun _ hxt => ?_) (fun _ hxt => ?_)
      · refine r.bipush (v := (-5 : Int32)) (DX9_block 36 rfl) rfl ?_
        cases hxt
        exact hret _ _ _ _ (DX9_block 37 rfl) rfl ⟨(), rfl, rfl⟩
      refine r.iload_n 1 (DX9_block 30 rfl) rfl ?_
      refine r.aload_n 0 (DX9_block 31 rfl) rfl ?_
      refine r.get (v := .ref (a 32)) kX9 f_X9_7 rfl 0 rfl rfl (DX9_block 32 rfl) ?_
      refine r.bipush (v := (7 : Int32)) (DX9_block 33 rfl) rfl ?_
      obtain ⟨hin, hxt⟩ := xgd_some hxt
      refine r.iald 1 rfl hin (DX9_block 34 rfl) ?_
      refine r.icmp_ne 69 (DX9_block 35 rfl) rfl hxt (fun _ hxt => ?_) (fun _ hxt => ?_)
      · refine r.aload_n 0 (DX9_block 38 rfl) rfl ?_
        obtain ⟨o_3, ho_3, hxt⟩ := xbd hxt
        refine r.callVV 0 rfl rfl (t_X9_keep E a hM ho_3) g_X9_192 rfl (DX9_block 39 rfl) rfl ⟨(Nat.le_of_ble_eq_true rfl), (Nat.le_of_ble_eq_true rfl)⟩ ⟨(Nat.le_of_ble_eq_true rfl), (Nat.le_of_ble_eq_true rfl)⟩ (Nat.le_of_ble_eq_true rfl) [0, 1, 2] [] rfl rfl rfl rfl (by decide) [0, 1, 2] rfl (ws2 := fun _ => [(a 31, oX9 a (o_3 31)), (a 32, aI E 8 (hM 32)), (a 33, aI E 48 (o_3 33))]) (fun _ => rfl) (fun _ => ?_)
        refine r.aload_n 0 (DX9_block 40 rfl) rfl ?_
        refine r.get (v := .ref (a 32)) kX9 f_X9_7 rfl 0 rfl rfl (DX9_block 41 rfl) ?_
        refine r.iconst (v := (3 : Int32)) (DX9_block 42 rfl) rfl ?_
        refine r.dup2 (DX9_block 43 rfl) rfl rfl ?_
        obtain ⟨hin, hxt⟩ := xgd_some hxt
        refine r.iald 1 rfl hin (DX9_block 44 rfl) ?_
        refine r.iconst (v := (1 : Int32)) (DX9_block 45 rfl) rfl ?_
        refine r.iload_n 1 (DX9_block 46 rfl) rfl ?_
        refine r.ishl (DX9_block 47 rfl) ?_
        refine r.ixor (DX9_block 48 rfl) ?_
        obtain ⟨hin, hxt⟩ := xgd_some hxt
        refine r.iast (ws' := [(a 31, oX9 a (o_3 31)), (a 32, aI E 8 (upd (hM 32) (3 : Int32).toNatClampNeg (((hM 32) (3 : Int32).toNatClampNeg) ^^^ ((1 : Int32) <<< (x1 &&& 31))))), (a 33, aI E 48 (o_3 33))]) 1 rfl hin rfl (DX9_block 49 rfl) ?_
        refine r.aload_n 0 (DX9_block 50 rfl) rfl ?_
        refine r.get (v := .ref (a 32)) kX9 f_X9_7 rfl 0 rfl rfl (DX9_block 51 rfl) ?_
        refine r.iconst (v := (3 : Int32)) (DX9_block 52 rfl) rfl ?_
        obtain ⟨hin, hxt⟩ := xgd_some hxt
        refine r.iald 1 rfl hin (DX9_block 53 rfl) ?_
        obtain ⟨o_4, ho_4, hxt⟩ := xbd hxt
        refine r.callSI0 (t_X9_many E ((upd (hM 32) (3 : Int32).toNatClampNeg (((hM 32) (3 : Int32).toNatClampNeg) ^^^ ((1 : Int32) <<< (x1 &&& 31)))) (3 : Int32).toNatClampNeg) ho_4) g_X9_198 rfl (DX9_block 54 rfl) rfl ⟨(Nat.le_of_ble_eq_true rfl), (Nat.le_of_ble_eq_true rfl)⟩ (Nat.le_of_ble_eq_true rfl) ?_
        cases hxt
        exact hret _ _ _ _ (DX9_block 55 rfl) rfl ⟨(), rfl, rfl⟩
      refine r.bipush (v := (-5 : Int32)) (DX9_block 36 rfl) rfl ?_
      cases hxt
      exact hret _ _ _ _ (DX9_block 37 rfl) rfl ⟨(), rfl, rfl⟩
    refine r.aload_n 0 (DX9_block 9 rfl) rfl ?_
    refine r.get (v := .ref (a 32)) kX9 f_X9_7 rfl 0 rfl rfl (DX9_block 10 rfl) ?_
    refine r.iconst (v := (3 : Int32)) (DX9_block 11 rfl) rfl ?_
    obtain ⟨hin, hxt⟩ := xgd_some hxt
    refine r.iald 1 rfl hin (DX9_block 12 rfl) ?_
    obtain ⟨o_5, ho_5, hxt⟩ := xbd hxt
    refine r.callSI0 (t_X9_many E ((hM 32) (3 : Int32).toNatClampNeg) ho_5) g_X9_198 rfl (DX9_block 13 rfl) rfl ⟨(Nat.le_of_ble_eq_true rfl), (Nat.le_of_ble_eq_true rfl)⟩ (Nat.le_of_ble_eq_true rfl) ?_
    refine r.bipush (v := (6 : Int32)) (DX9_block 14 rfl) rfl ?_
    refine r.icmp_ne 34 (DX9_block 15 rfl) rfl hxt (fun _ hxt => ?_) (fun _ hxt => ?_)
    · refine r.iload_n 1 (DX9_block 18 rfl) rfl ?_
      refine r.aload_n 0 (DX9_block 19 rfl) rfl ?_
      refine r.get (v := .ref (a 32)) kX9 f_X9_7 rfl 0 rfl rfl (DX9_block 20 rfl) ?_
      refine r.iconst (v := (5 : Int32)) (DX9_block 21 rfl) rfl ?_
      obtain ⟨hin, hxt⟩ := xgd_some hxt
      refine r.iald 1 rfl hin (DX9_block 22 rfl) ?_
      refine r.icmp_eq 66 (DX9_block 23 rfl) rfl hxt (fun _ hxt => ?_) (fun _ hxt => ?_)
      · refine r.bipush (v := (-5 : Int32)) (DX9_block 36 rfl) rfl ?_
        cases hxt
        exact hret _ _ _ _ (DX9_block 37 rfl) rfl ⟨(), rfl, rfl⟩
      refine r.iload_n 1 (DX9_block 24 rfl) rfl ?_
      refine r.aload_n 0 (DX9_block 25 rfl) rfl ?_
      refine r.get (v := .ref (a 32)) kX9 f_X9_7 rfl 0 rfl rfl (DX9_block 26 rfl) ?_
      refine r.bipush (v := (6 : Int32)) (DX9_block 27 rfl) rfl ?_
      obtain ⟨hin, hxt⟩ := xgd_some hxt
      refine r.iald 1 rfl hin (DX9_block 28 rfl) ?_
      refine r.icmp_eq 66 (DX9_block 29 rfl) rfl hxt (fun _ hxt => ?_) (fun _ hxt => ?_)
      · refine r.bipush (v := (-5 : Int32)) (DX9_block 36 rfl) rfl ?_
        cases hxt
        exact hret _ _ _ _ (DX9_block 37 rfl) rfl ⟨(), rfl, rfl⟩
      refine r.iload_n 1 (DX9_block 30 rfl) rfl ?_
      refine r.aload_n 0 (DX9_block 31 rfl) rfl ?_
      refine r.get (v := .ref (a 32)) kX9 f_X9_7 rfl 0 rfl rfl (DX9_block 32 rfl) ?_
      refine r.bipush (v := (7 : Int32)) (DX9_block 33 rfl) rfl ?_
      obtain ⟨hin, hxt⟩ := xgd_some hxt
      refine r.iald 1 rfl hin (DX9_block 34 rfl) ?_
      refine r.icmp_ne 69 (DX9_block 35 rfl) rfl hxt (fun _ hxt => ?_) (fun _ hxt => ?_)
      · refine r.aload_n 0 (DX9_block 38 rfl) rfl ?_
        obtain ⟨o_6, ho_6, hxt⟩ := xbd hxt
        refine r.callVV 0 rfl rfl (t_X9_keep E a hM ho_6) g_X9_192 rfl (DX9_block 39 rfl) rfl ⟨(Nat.le_of_ble_eq_true rfl), (Nat.le_of_ble_eq_true rfl)⟩ ⟨(Nat.le_of_ble_eq_true rfl), (Nat.le_of_ble_eq_true rfl)⟩ (Nat.le_of_ble_eq_true rfl) [0, 1, 2] [] rfl rfl rfl rfl (by decide) [0, 1, 2] rfl (ws2 := fun _ => [(a 31, oX9 a (o_6 31)), (a 32, aI E 8 (hM 32)), (a 33, aI E 48 (o_6 33))]) (fun _ => rfl) (fun _ => ?_)
        refine r.aload_n 0 (DX9_block 40 rfl) rfl ?_
        refine r.get (v := .ref (a 32)) kX9 f_X9_7 rfl 0 rfl rfl (DX9_block 41 rfl) ?_
        refine r.iconst (v := (3 : Int32)) (DX9_block 42 rfl) rfl ?_
        refine r.dup2 (DX9_block 43 rfl) rfl rfl ?_
        obtain ⟨hin, hxt⟩ := xgd_some hxt
        refine r.iald 1 rfl hin (DX9_block 44 rfl) ?_
        refine r.iconst (v := (1 : Int32)) (DX9_block 45 rfl) rfl ?_
        refine r.iload_n 1 (DX9_block 46 rfl) rfl ?_
        refine r.ishl (DX9_block 47 rfl) ?_
        refine r.ixor (DX9_block 48 rfl) ?_
        obtain ⟨hin, hxt⟩ := xgd_some hxt
        refine r.iast (ws' := [(a 31, oX9 a (o_6 31)), (a 32, aI E 8 (upd (hM 32) (3 : Int32).toNatClampNeg (((hM 32) (3 : Int32).toNatClampNeg) ^^^ ((1 : Int32) <<< (x1 &&& 31))))), (a 33, aI E 48 (o_6 33))]) 1 rfl hin rfl (DX9_block 49 rfl) ?_
        refine r.aload_n 0 (DX9_block 50 rfl) rfl ?_
        refine r.get (v := .ref (a 32)) kX9 f_X9_7 rfl 0 rfl rfl (DX9_block 51 rfl) ?_
        refine r.iconst (v := (3 : Int32)) (DX9_block 52 rfl) rfl ?_
        obtain ⟨hin, hxt⟩ := xgd_some hxt
        refine r.iald 1 rfl hin (DX9_block 53 rfl) ?_
        obtain ⟨o_7, ho_7, hxt⟩ := xbd hxt
        refine r.callSI0 (t_X9_many E ((upd (hM 32) (3 : Int32).toNatClampNeg (((hM 32) (3 : Int32).toNatClampNeg) ^^^ ((1 : Int32) <<< (x1 &&& 31)))) (3 : Int32).toNatClampNeg) ho_7) g_X9_198 rfl (DX9_block 54 rfl) rfl ⟨(Nat.le_of_ble_eq_true rfl), (Nat.le_of_ble_eq_true rfl)⟩ (Nat.le_of_ble_eq_true rfl) ?_
        cases hxt
        exact hret _ _ _ _ (DX9_block 55 rfl) rfl ⟨(), rfl, rfl⟩
      refine r.bipush (v := (-5 : Int32)) (DX9_block 36 rfl) rfl ?_
      cases hxt
      exact hret _ _ _ _ (DX9_block 37 rfl) rfl ⟨(), rfl, rfl⟩
    refine r.bipush (v := (-4 : Int32)) (DX9_block 16 rfl) rfl ?_
    cases hxt
    exact hret _ _ _ _ (DX9_block 17 rfl) rfl ⟨(), rfl, rfl⟩
  refine r.iconst (v := (-1 : Int32)) (DX9_block 3 rfl) rfl ?_
  cases hxt
  exact hret _ _ _ _ (DX9_block 4 rfl) rfl ⟨(), rfl, rfl⟩
set_option maxRecDepth 100000 in
set_option maxHeartbeats 4000000 in
theorem t_X9_whyNot (E : xE) (a : Nat → Nat) (x1 : Int32) (x2 : Int32) (x3 : Int32) (x4 : Int32) (hM : Mem) {o : Int32} (hxt : xt_X9_whyNot x1 x2 x3 x4 hM = some o) : xMI (S := Unit) E yX9_whyNot cX9_whyNot 6 .int 2 0 0 [.ref (a 31), .int x1, .int x2, .int x3, .int x4] [(a 31, oX9 a (hM 31)), (a 32, aI E 8 (hM 32))] (fun _ => o) (fun _ => [(a 31, oX9 a (hM 31)), (a 32, aI E 8 (hM 32))]) := by
  refine xMI.of (own := RX9) (lo0 := [(0, .ref (a 31)), (1, .int x1), (2, .int x2), (3, .int x3), (4, .int x4)]) (by decide +kernel) rfl rfl (Nat.le_of_ble_eq_true rfl) (fun V r hret => ?_)
  unfold xt_X9_whyNot at hxt
  refine r.iload_n 2 (DX9_whyNot 0 rfl) rfl ?_
  obtain ⟨o_1, ho_1, hxt⟩ := xbd hxt
  refine r.callSI0 (t_X9_isPlace E x2 ho_1) g_X9_195 rfl (DX9_whyNot 1 rfl) rfl ⟨(Nat.le_of_ble_eq_true rfl), (Nat.le_of_ble_eq_true rfl)⟩ (Nat.le_of_ble_eq_true rfl) ?_
  refine r.if_eq 22 (DX9_whyNot 2 rfl) rfl hxt (fun _ hxt => ?_) (fun _ hxt => ?_)
  · refine r.iconst (v := (-1 : Int32)) (DX9_whyNot 9 rfl) rfl ?_
    cases hxt
    exact hret _ _ _ _ (DX9_whyNot 10 rfl) rfl ⟨(), rfl, rfl⟩
  refine r.iload_n 3 (DX9_whyNot 3 rfl) rfl ?_
  obtain ⟨o_2, ho_2, hxt⟩ := xbd hxt
  refine r.callSI0 (t_X9_isPlace E x3 ho_2) g_X9_195 rfl (DX9_whyNot 4 rfl) rfl ⟨(Nat.le_of_ble_eq_true rfl), (Nat.le_of_ble_eq_true rfl)⟩ (Nat.le_of_ble_eq_true rfl) ?_
  refine r.if_eq 22 (DX9_whyNot 5 rfl) rfl hxt (fun _ hxt => ?_) (fun _ hxt => ?_)
  · refine r.iconst (v := (-1 : Int32)) (DX9_whyNot 9 rfl) rfl ?_
    cases hxt
    exact hret _ _ _ _ (DX9_whyNot 10 rfl) rfl ⟨(), rfl, rfl⟩
  refine r.iload 4 (DX9_whyNot 6 rfl) rfl ?_
  obtain ⟨o_3, ho_3, hxt⟩ := xbd hxt
  refine r.callSI0 (t_X9_isPlace E x4 ho_3) g_X9_195 rfl (DX9_whyNot 7 rfl) rfl ⟨(Nat.le_of_ble_eq_true rfl), (Nat.le_of_ble_eq_true rfl)⟩ (Nat.le_of_ble_eq_true rfl) ?_
  refine r.if_ne 24 (DX9_whyNot 8 rfl) rfl hxt (fun _ hxt => ?_) (fun _ hxt => ?_)
  · refine r.iload_n 1 (DX9_whyNot 11 rfl) rfl ?_
    refine r.iconst (v := (0 : Int32)) (DX9_whyNot 12 rfl) rfl ?_
    refine r.iconst (v := (1 : Int32)) (DX9_whyNot 13 rfl) rfl ?_
    obtain ⟨o_4, ho_4, hxt⟩ := xbd hxt
    refine r.callSI0 (t_X9_in E x1 (0 : Int32) (1 : Int32) ho_4) g_X9_53 rfl (DX9_whyNot 14 rfl) rfl ⟨(Nat.le_of_ble_eq_true rfl), (Nat.le_of_ble_eq_true rfl)⟩ (Nat.le_of_ble_eq_true rfl) ?_
    refine r.if_eq 79 (DX9_whyNot 15 rfl) rfl hxt (fun _ hxt => ?_) (fun _ hxt => ?_)
    · refine r.iconst (v := (0 : Int32)) (DX9_whyNot 39 rfl) rfl ?_
      refine r.istore (lo' := [(5, .int (0 : Int32)), (0, .ref (a 31)), (1, .int x1), (2, .int x2), (3, .int x3), (4, .int x4)]) (DX9_whyNot 40 rfl) (Nat.le_of_ble_eq_true rfl) rfl ?_
      refine r.iload 0 (DX9_whyNot 41 rfl) rfl ?_
      refine r.if_eqT 91 (DX9_whyNot 42 rfl) rfl (by decide) ?_
      refine r.bipush (v := (-2 : Int32)) (DX9_whyNot 45 rfl) rfl ?_
      cases hxt
      exact hret _ _ _ _ (DX9_whyNot 46 rfl) rfl ⟨(), rfl, rfl⟩
    refine r.iload_n 2 (DX9_whyNot 16 rfl) rfl ?_
    refine r.iload_n 3 (DX9_whyNot 17 rfl) rfl ?_
    refine r.icmp_eq 79 (DX9_whyNot 18 rfl) rfl hxt (fun _ hxt => ?_) (fun _ hxt => ?_)
    · refine r.iconst (v := (0 : Int32)) (DX9_whyNot 39 rfl) rfl ?_
      refine r.istore (lo' := [(5, .int (0 : Int32)), (0, .ref (a 31)), (1, .int x1), (2, .int x2), (3, .int x3), (4, .int x4)]) (DX9_whyNot 40 rfl) (Nat.le_of_ble_eq_true rfl) rfl ?_
      refine r.iload 0 (DX9_whyNot 41 rfl) rfl ?_
      refine r.if_eqT 91 (DX9_whyNot 42 rfl) rfl (by decide) ?_
      refine r.bipush (v := (-2 : Int32)) (DX9_whyNot 45 rfl) rfl ?_
      cases hxt
      exact hret _ _ _ _ (DX9_whyNot 46 rfl) rfl ⟨(), rfl, rfl⟩
    refine r.iload_n 2 (DX9_whyNot 19 rfl) rfl ?_
    refine r.iload 4 (DX9_whyNot 20 rfl) rfl ?_
    refine r.icmp_eq 79 (DX9_whyNot 21 rfl) rfl hxt (fun _ hxt => ?_) (fun _ hxt => ?_)
    · refine r.iconst (v := (0 : Int32)) (DX9_whyNot 39 rfl) rfl ?_
      refine r.istore (lo' := [(5, .int (0 : Int32)), (0, .ref (a 31)), (1, .int x1), (2, .int x2), (3, .int x3), (4, .int x4)]) (DX9_whyNot 40 rfl) (Nat.le_of_ble_eq_true rfl) rfl ?_
      refine r.iload 0 (DX9_whyNot 41 rfl) rfl ?_
      refine r.if_eqT 91 (DX9_whyNot 42 rfl) rfl (by decide) ?_
      refine r.bipush (v := (-2 : Int32)) (DX9_whyNot 45 rfl) rfl ?_
      cases hxt
      exact hret _ _ _ _ (DX9_whyNot 46 rfl) rfl ⟨(), rfl, rfl⟩
    refine r.iload_n 3 (DX9_whyNot 22 rfl) rfl ?_
    refine r.iload 4 (DX9_whyNot 23 rfl) rfl ?_
    refine r.icmp_eq 79 (DX9_whyNot 24 rfl) rfl hxt (fun _ hxt => ?_) (fun _ hxt => ?_)
    · refine r.iconst (v := (0 : Int32)) (DX9_whyNot 39 rfl) rfl ?_
      refine r.istore (lo' := [(5, .int (0 : Int32)), (0, .ref (a 31)), (1, .int x1), (2, .int x2), (3, .int x3), (4, .int x4)]) (DX9_whyNot 40 rfl) (Nat.le_of_ble_eq_true rfl) rfl ?_
      refine r.iload 0 (DX9_whyNot 41 rfl) rfl ?_
      refine r.if_eqT 91 (DX9_whyNot 42 rfl) rfl (by decide) ?_
      refine r.bipush (v := (-2 : Int32)) (DX9_whyNot 45 rfl) rfl ?_
      cases hxt
      exact hret _ _ _ _ (DX9_whyNot 46 rfl) rfl ⟨(), rfl, rfl⟩
    refine r.aload_n 0 (DX9_whyNot 25 rfl) rfl ?_
    refine r.iload_n 2 (DX9_whyNot 26 rfl) rfl ?_
    obtain ⟨o_5, ho_5, hxt⟩ := xbd hxt
    refine r.callVI 0 rfl rfl (t_X9_isFree E a x2 hM ho_5) g_X9_91 rfl (DX9_whyNot 27 rfl) rfl ⟨(Nat.le_of_ble_eq_true rfl), (Nat.le_of_ble_eq_true rfl)⟩ ⟨(Nat.le_of_ble_eq_true rfl), (Nat.le_of_ble_eq_true rfl)⟩ (Nat.le_of_ble_eq_true rfl) [0, 1] [] rfl rfl rfl rfl (by decide) [0, 1] rfl (ws2 := fun _ => [(a 31, oX9 a (hM 31)), (a 32, aI E 8 (hM 32))]) (fun _ => rfl) (fun _ => ?_)
    refine r.if_eq 79 (DX9_whyNot 28 rfl) rfl hxt (fun _ hxt => ?_) (fun _ hxt => ?_)
    · refine r.iconst (v := (0 : Int32)) (DX9_whyNot 39 rfl) rfl ?_
      refine r.istore (lo' := [(5, .int (0 : Int32)), (0, .ref (a 31)), (1, .int x1), (2, .int x2), (3, .int x3), (4, .int x4)]) (DX9_whyNot 40 rfl) (Nat.le_of_ble_eq_true rfl) rfl ?_
      refine r.iload 0 (DX9_whyNot 41 rfl) rfl ?_
      refine r.if_eqT 91 (DX9_whyNot 42 rfl) rfl (by decide) ?_
      refine r.bipush (v := (-2 : Int32)) (DX9_whyNot 45 rfl) rfl ?_
      cases hxt
      exact hret _ _ _ _ (DX9_whyNot 46 rfl) rfl ⟨(), rfl, rfl⟩
    refine r.aload_n 0 (DX9_whyNot 29 rfl) rfl ?_
    refine r.iload_n 3 (DX9_whyNot 30 rfl) rfl ?_
    obtain ⟨o_6, ho_6, hxt⟩ := xbd hxt
    refine r.callVI 0 rfl rfl (t_X9_isFree E a x3 hM ho_6) g_X9_91 rfl (DX9_whyNot 31 rfl) rfl ⟨(Nat.le_of_ble_eq_true rfl), (Nat.le_of_ble_eq_true rfl)⟩ ⟨(Nat.le_of_ble_eq_true rfl), (Nat.le_of_ble_eq_true rfl)⟩ (Nat.le_of_ble_eq_true rfl) [0, 1] [] rfl rfl rfl rfl (by decide) [0, 1] rfl (ws2 := fun _ => [(a 31, oX9 a (hM 31)), (a 32, aI E 8 (hM 32))]) (fun _ => rfl) (fun _ => ?_)
    refine r.if_eq 79 (DX9_whyNot 32 rfl) rfl hxt (fun _ hxt => ?_) (fun _ hxt => ?_)
    · refine r.iconst (v := (0 : Int32)) (DX9_whyNot 39 rfl) rfl ?_
      refine r.istore (lo' := [(5, .int (0 : Int32)), (0, .ref (a 31)), (1, .int x1), (2, .int x2), (3, .int x3), (4, .int x4)]) (DX9_whyNot 40 rfl) (Nat.le_of_ble_eq_true rfl) rfl ?_
      refine r.iload 0 (DX9_whyNot 41 rfl) rfl ?_
      refine r.if_eqT 91 (DX9_whyNot 42 rfl) rfl (by decide) ?_
      refine r.bipush (v := (-2 : Int32)) (DX9_whyNot 45 rfl) rfl ?_
      cases hxt
      exact hret _ _ _ _ (DX9_whyNot 46 rfl) rfl ⟨(), rfl, rfl⟩
    refine r.aload_n 0 (DX9_whyNot 33 rfl) rfl ?_
    refine r.iload 4 (DX9_whyNot 34 rfl) rfl ?_
    obtain ⟨o_7, ho_7, hxt⟩ := xbd hxt
    refine r.callVI 0 rfl rfl (t_X9_isFree E a x4 hM ho_7) g_X9_91 rfl (DX9_whyNot 35 rfl) rfl ⟨(Nat.le_of_ble_eq_true rfl), (Nat.le_of_ble_eq_true rfl)⟩ ⟨(Nat.le_of_ble_eq_true rfl), (Nat.le_of_ble_eq_true rfl)⟩ (Nat.le_of_ble_eq_true rfl) [0, 1] [] rfl rfl rfl rfl (by decide) [0, 1] rfl (ws2 := fun _ => [(a 31, oX9 a (hM 31)), (a 32, aI E 8 (hM 32))]) (fun _ => rfl) (fun _ => ?_)
    refine r.if_eq 79 (DX9_whyNot 36 rfl) rfl hxt (fun _ hxt => ?_) (fun _ hxt => ?_)
    · refine r.iconst (v := (0 : Int32)) (DX9_whyNot 39 rfl) rfl ?_
      refine r.istore (lo' := [(5, .int (0 : Int32)), (0, .ref (a 31)), (1, .int x1), (2, .int x2), (3, .int x3), (4, .int x4)]) (DX9_whyNot 40 rfl) (Nat.le_of_ble_eq_true rfl) rfl ?_
      refine r.iload 0 (DX9_whyNot 41 rfl) rfl ?_
      refine r.if_eqT 91 (DX9_whyNot 42 rfl) rfl (by decide) ?_
      refine r.bipush (v := (-2 : Int32)) (DX9_whyNot 45 rfl) rfl ?_
      cases hxt
      exact hret _ _ _ _ (DX9_whyNot 46 rfl) rfl ⟨(), rfl, rfl⟩
    refine r.iconst (v := (1 : Int32)) (DX9_whyNot 37 rfl) rfl ?_
    refine r.goto 80 (DX9_whyNot 38 rfl) rfl ?_
    refine r.istore (lo' := [(5, .int (1 : Int32)), (0, .ref (a 31)), (1, .int x1), (2, .int x2), (3, .int x3), (4, .int x4)]) (DX9_whyNot 40 rfl) (Nat.le_of_ble_eq_true rfl) rfl ?_
    refine r.iload 0 (DX9_whyNot 41 rfl) rfl ?_
    refine r.if_eqF 91 (DX9_whyNot 42 rfl) rfl (by decide) ?_
    refine r.iconst (v := (0 : Int32)) (DX9_whyNot 43 rfl) rfl ?_
    refine r.goto 93 (DX9_whyNot 44 rfl) rfl ?_
    cases hxt
    exact hret _ _ _ _ (DX9_whyNot 46 rfl) rfl ⟨(), rfl, rfl⟩
  refine r.iconst (v := (-1 : Int32)) (DX9_whyNot 9 rfl) rfl ?_
  cases hxt
  exact hret _ _ _ _ (DX9_whyNot 10 rfl) rfl ⟨(), rfl, rfl⟩
set_option maxRecDepth 100000 in
set_option maxHeartbeats 4000000 in
theorem t_X9_lesser (E : xE) (x0 : Int32) (x1 : Int32) {o : Int32} (hxt : xt_X9_lesser x0 x1 = some o) : xMI (S := Unit) E yX9_lesser cX9_lesser 2 .int 0 0 0 [.int x0, .int x1] [] (fun _ => o) (fun _ => []) := by
  refine xMI.of (own := RX9) (lo0 := [(0, .int x0), (1, .int x1)]) (by decide +kernel) rfl rfl (Nat.le_of_ble_eq_true rfl) (fun V r hret => ?_)
  unfold xt_X9_lesser at hxt
  refine r.iload_n 0 (DX9_lesser 0 rfl) rfl ?_
  refine r.iload_n 1 (DX9_lesser 1 rfl) rfl ?_
  refine r.icmp_ge 9 (DX9_lesser 2 rfl) rfl hxt (fun _ hxt => ?_) (fun _ hxt => ?_)
  · refine r.iload_n 1 (DX9_lesser 5 rfl) rfl ?_
    cases hxt
    exact hret _ _ _ _ (DX9_lesser 6 rfl) rfl ⟨(), rfl, rfl⟩
  refine r.iload_n 0 (DX9_lesser 3 rfl) rfl ?_
  refine r.goto 10 (DX9_lesser 4 rfl) rfl ?_
  cases hxt
  exact hret _ _ _ _ (DX9_lesser 6 rfl) rfl ⟨(), rfl, rfl⟩
set_option maxRecDepth 100000 in
set_option maxHeartbeats 4000000 in
theorem t_X9_greater (E : xE) (x0 : Int32) (x1 : Int32) {o : Int32} (hxt : xt_X9_greater x0 x1 = some o) : xMI (S := Unit) E yX9_greater cX9_greater 2 .int 0 0 0 [.int x0, .int x1] [] (fun _ => o) (fun _ => []) := by
  refine xMI.of (own := RX9) (lo0 := [(0, .int x0), (1, .int x1)]) (by decide +kernel) rfl rfl (Nat.le_of_ble_eq_true rfl) (fun V r hret => ?_)
  unfold xt_X9_greater at hxt
  refine r.iload_n 0 (DX9_greater 0 rfl) rfl ?_
  refine r.iload_n 1 (DX9_greater 1 rfl) rfl ?_
  refine r.icmp_le 9 (DX9_greater 2 rfl) rfl hxt (fun _ hxt => ?_) (fun _ hxt => ?_)
  · refine r.iload_n 1 (DX9_greater 5 rfl) rfl ?_
    cases hxt
    exact hret _ _ _ _ (DX9_greater 6 rfl) rfl ⟨(), rfl, rfl⟩
  refine r.iload_n 0 (DX9_greater 3 rfl) rfl ?_
  refine r.goto 10 (DX9_greater 4 rfl) rfl ?_
  cases hxt
  exact hret _ _ _ _ (DX9_greater 6 rfl) rfl ⟨(), rfl, rfl⟩
set_option maxRecDepth 100000 in
set_option maxHeartbeats 4000000 in
theorem t_X9_lay (E : xE) (a : Nat → Nat) (x1 : Int32) (x2 : Int32) (x3 : Int32) (x4 : Int32) (hM : Mem) {o : Mem} (hxt : xt_X9_lay x1 x2 x3 x4 hM = some o) : xMV (S := Unit) E yX9_lay cX9_lay 5 1 0 0 [.ref (a 31), .int x1, .int x2, .int x3, .int x4] [(a 31, oX9 a (hM 31)), (a 32, aI E 8 (hM 32))] (fun _ => [(a 31, oX9 a (hM 31)), (a 32, aI E 8 (o 32))]) := by
  refine xMV.of (own := RX9) (lo0 := [(0, .ref (a 31)), (1, .int x1), (2, .int x2), (3, .int x3), (4, .int x4)]) (ini := false) (fun h => nomatch h) (by decide +kernel) rfl rfl (Nat.le_of_ble_eq_true rfl) (fun V r hret => ?_)
  unfold xt_X9_lay at hxt
  refine r.aload_n 0 (DX9_lay 0 rfl) rfl ?_
  refine r.get (v := .ref (a 32)) kX9 f_X9_7 rfl 0 rfl rfl (DX9_lay 1 rfl) ?_
  refine r.iconst (v := (4 : Int32)) (DX9_lay 2 rfl) rfl ?_
  refine r.iload_n 1 (DX9_lay 3 rfl) rfl ?_
  obtain ⟨hin, hxt⟩ := xgd_some hxt
  refine r.iast (ws' := [(a 31, oX9 a (hM 31)), (a 32, aI E 8 (upd (hM 32) (4 : Int32).toNatClampNeg x1))]) 1 rfl hin rfl (DX9_lay 4 rfl) ?_
  refine r.aload_n 0 (DX9_lay 5 rfl) rfl ?_
  refine r.get (v := .ref (a 32)) kX9 f_X9_7 rfl 0 rfl rfl (DX9_lay 6 rfl) ?_
  refine r.iconst (v := (5 : Int32)) (DX9_lay 7 rfl) rfl ?_
  refine r.iload_n 2 (DX9_lay 8 rfl) rfl ?_
  obtain ⟨hin, hxt⟩ := xgd_some hxt
  refine r.iast (ws' := [(a 31, oX9 a (hM 31)), (a 32, aI E 8 (upd (upd (hM 32) (4 : Int32).toNatClampNeg x1) (5 : Int32).toNatClampNeg x2))]) 1 rfl hin rfl (DX9_lay 9 rfl) ?_
  refine r.aload_n 0 (DX9_lay 10 rfl) rfl ?_
  refine r.get (v := .ref (a 32)) kX9 f_X9_7 rfl 0 rfl rfl (DX9_lay 11 rfl) ?_
  refine r.bipush (v := (6 : Int32)) (DX9_lay 12 rfl) rfl ?_
  refine r.iload_n 3 (DX9_lay 13 rfl) rfl ?_
  refine r.iload 4 (DX9_lay 14 rfl) rfl ?_
  obtain ⟨o_1, ho_1, hxt⟩ := xbd hxt
  refine r.callSI0 (t_X9_lesser E x3 x4 ho_1) g_X9_82 rfl (DX9_lay 15 rfl) rfl ⟨(Nat.le_of_ble_eq_true rfl), (Nat.le_of_ble_eq_true rfl)⟩ (Nat.le_of_ble_eq_true rfl) ?_
  obtain ⟨hin, hxt⟩ := xgd_some hxt
  refine r.iast (ws' := [(a 31, oX9 a (hM 31)), (a 32, aI E 8 (upd (upd (upd (hM 32) (4 : Int32).toNatClampNeg x1) (5 : Int32).toNatClampNeg x2) (6 : Int32).toNatClampNeg o_1))]) 1 rfl hin rfl (DX9_lay 16 rfl) ?_
  refine r.aload_n 0 (DX9_lay 17 rfl) rfl ?_
  refine r.get (v := .ref (a 32)) kX9 f_X9_7 rfl 0 rfl rfl (DX9_lay 18 rfl) ?_
  refine r.bipush (v := (7 : Int32)) (DX9_lay 19 rfl) rfl ?_
  refine r.iload_n 3 (DX9_lay 20 rfl) rfl ?_
  refine r.iload 4 (DX9_lay 21 rfl) rfl ?_
  obtain ⟨o_2, ho_2, hxt⟩ := xbd hxt
  refine r.callSI0 (t_X9_greater E x3 x4 ho_2) g_X9_85 rfl (DX9_lay 22 rfl) rfl ⟨(Nat.le_of_ble_eq_true rfl), (Nat.le_of_ble_eq_true rfl)⟩ (Nat.le_of_ble_eq_true rfl) ?_
  obtain ⟨hin, hxt⟩ := xgd_some hxt
  refine r.iast (ws' := [(a 31, oX9 a (hM 31)), (a 32, aI E 8 (upd (upd (upd (upd (hM 32) (4 : Int32).toNatClampNeg x1) (5 : Int32).toNatClampNeg x2) (6 : Int32).toNatClampNeg o_1) (7 : Int32).toNatClampNeg o_2))]) 1 rfl hin rfl (DX9_lay 23 rfl) ?_
  cases hxt
  exact hret _ _ _ (DX9_lay 24 rfl) ⟨(), rfl⟩
set_option maxRecDepth 100000 in
set_option maxHeartbeats 4000000 in
theorem l_X9_isAsWorked_7 (E : xE) (a : Nat → Nat) (hM : Mem) {V : xVT} (r : Rl E RX9 cX9_isAsWorked (xR 0 0 0) 3 false V) {o : Int32} {k : Int32 → Option (Int32)} (hk : ∀ (v1 : Int32), k v1 = some o → V 0 0 41 [(1, .int v1)] [] [(a 31, oX9 a (hM 31)), (a 32, aI E 8 (hM 32)), (a 44, aI E 4 (hM 44))]) : ∀ (n : Nat) (v1 : Int32) (v2 : Int32), xt_X9_isAsWorked_l7 hM k n v1 v2 = some o → V 0 0 7 [(0, .ref (a 31)), (1, .int v1), (2, .int v2)] [] [(a 31, oX9 a (hM 31)), (a 32, aI E 8 (hM 32)), (a 44, aI E 4 (hM 44))] := by
  intro n
  induction n with
  | zero => intro v1 v2 hxt; exact xno hxt
  | succ n ih =>
    intro v1 v2 hxt
    rw [xt_X9_isAsWorked_l7] at hxt
    refine r.iload_n 2 (DX9_isAsWorked 5 rfl) rfl ?_
    refine r.iconst (v := (4 : Int32)) (DX9_isAsWorked 6 rfl) rfl ?_
    refine r.icmp_ge 41 (DX9_isAsWorked 7 rfl) rfl hxt (fun _ hxt => ?_) (fun _ hxt => ?_)
    · refine r.rel (lo' := [(1, .int v1)]) [1] rfl ?_
      exact hk v1 hxt
    refine r.iload_n 1 (DX9_isAsWorked 8 rfl) rfl ?_
    refine r.aload_n 0 (DX9_isAsWorked 9 rfl) rfl ?_
    refine r.get (v := .ref (a 44)) kX9 f_X9_47 rfl 0 rfl rfl (DX9_isAsWorked 10 rfl) ?_
    refine r.iload_n 2 (DX9_isAsWorked 11 rfl) rfl ?_
    obtain ⟨hin, hxt⟩ := xgd_some hxt
    refine r.iald 2 rfl hin (DX9_isAsWorked 12 rfl) ?_
    refine r.aload_n 0 (DX9_isAsWorked 13 rfl) rfl ?_
    refine r.get (v := .ref (a 32)) kX9 f_X9_7 rfl 0 rfl rfl (DX9_isAsWorked 14 rfl) ?_
    refine r.iload_n 2 (DX9_isAsWorked 15 rfl) rfl ?_
    obtain ⟨hin, hxt⟩ := xgd_some hxt
    refine r.iald 1 rfl hin (DX9_isAsWorked 16 rfl) ?_
    refine r.icmp_ne 32 (DX9_isAsWorked 17 rfl) rfl hxt (fun _ hxt => ?_) (fun _ hxt => ?_)
    · refine r.iconst (v := (0 : Int32)) (DX9_isAsWorked 20 rfl) rfl ?_
      refine r.iand (DX9_isAsWorked 21 rfl) ?_
      refine r.istore_n (lo' := [(1, .int (v1 &&& (0 : Int32))), (0, .ref (a 31)), (2, .int v2)]) (DX9_isAsWorked 22 rfl) (Nat.le_of_ble_eq_true rfl) rfl ?_
      refine r.iinc (v := (v2 + (1 : Int32))) (lo' := [(2, .int (v2 + (1 : Int32))), (1, .int (v1 &&& (0 : Int32))), (0, .ref (a 31))]) 2 (DX9_isAsWorked 23 rfl) rfl rfl (Nat.le_of_ble_eq_true rfl) rfl ?_
      refine r.goto 7 (DX9_isAsWorked 24 rfl) rfl ?_
      refine r.rel (lo' := [(0, .ref (a 31)), (1, .int (v1 &&& (0 : Int32))), (2, .int (v2 + (1 : Int32)))]) [2, 1, 0] rfl ?_
      exact ih (v1 &&& (0 : Int32)) (v2 + (1 : Int32)) hxt
    refine r.iconst (v := (1 : Int32)) (DX9_isAsWorked 18 rfl) rfl ?_
    refine r.goto 33 (DX9_isAsWorked 19 rfl) rfl ?_
    refine r.iand (DX9_isAsWorked 21 rfl) ?_
    refine r.istore_n (lo' := [(1, .int (v1 &&& (1 : Int32))), (0, .ref (a 31)), (2, .int v2)]) (DX9_isAsWorked 22 rfl) (Nat.le_of_ble_eq_true rfl) rfl ?_
    refine r.iinc (v := (v2 + (1 : Int32))) (lo' := [(2, .int (v2 + (1 : Int32))), (1, .int (v1 &&& (1 : Int32))), (0, .ref (a 31))]) 2 (DX9_isAsWorked 23 rfl) rfl rfl (Nat.le_of_ble_eq_true rfl) rfl ?_
    refine r.goto 7 (DX9_isAsWorked 24 rfl) rfl ?_
    refine r.rel (lo' := [(0, .ref (a 31)), (1, .int (v1 &&& (1 : Int32))), (2, .int (v2 + (1 : Int32)))]) [2, 1, 0] rfl ?_
    exact ih (v1 &&& (1 : Int32)) (v2 + (1 : Int32)) hxt
set_option maxRecDepth 100000 in
set_option maxHeartbeats 4000000 in
theorem t_X9_isAsWorked (E : xE) (a : Nat → Nat) (hM : Mem) {o : Int32} (hxt : xt_X9_isAsWorked hM = some o) : xMI (S := Unit) E yX9_isAsWorked cX9_isAsWorked 3 .boolean 0 0 0 [.ref (a 31)] [(a 31, oX9 a (hM 31)), (a 32, aI E 8 (hM 32)), (a 44, aI E 4 (hM 44))] (fun _ => o) (fun _ => [(a 31, oX9 a (hM 31)), (a 32, aI E 8 (hM 32)), (a 44, aI E 4 (hM 44))]) := by
  refine xMI.of (own := RX9) (lo0 := [(0, .ref (a 31))]) (by decide +kernel) rfl rfl (Nat.le_of_ble_eq_true rfl) (fun V r hret => ?_)
  unfold xt_X9_isAsWorked at hxt
  refine r.aload_n 0 (DX9_isAsWorked 0 rfl) rfl ?_
  refine r.get (v := .int ((hM 31) 16)) kX9 f_X9_141 rfl 0 rfl rfl (DX9_isAsWorked 1 rfl) ?_
  refine r.istore_n (lo' := [(1, .int ((hM 31) 16)), (0, .ref (a 31))]) (DX9_isAsWorked 2 rfl) (Nat.le_of_ble_eq_true rfl) rfl ?_
  refine r.iconst (v := (0 : Int32)) (DX9_isAsWorked 3 rfl) rfl ?_
  refine r.istore_n (lo' := [(2, .int (0 : Int32)), (1, .int ((hM 31) 16)), (0, .ref (a 31))]) (DX9_isAsWorked 4 rfl) (Nat.le_of_ble_eq_true rfl) rfl ?_
  refine r.rel (lo' := [(0, .ref (a 31)), (1, .int ((hM 31) 16)), (2, .int (0 : Int32))]) [2, 1, 0] rfl ?_
  refine l_X9_isAsWorked_7 E a hM r (fun v1_1 hxt => ?_) 10000 ((hM 31) 16) (0 : Int32) hxt
  refine r.iload_n 0 (DX9_isAsWorked 25 rfl) rfl ?_
  obtain ⟨hn, hxt⟩ := xgb_some hxt
  cases hxt
  exact hret _ _ _ _ (DX9_isAsWorked 26 rfl) hn ⟨(), rfl, rfl⟩
set_option maxRecDepth 100000 in
set_option maxHeartbeats 4000000 in
theorem t_X9_isPosition (E : xE) (a : Nat → Nat) (x1 : Int32) (hM : Mem) {o : Int32} (hxt : xt_X9_isPosition x1 hM = some o) : xMI (S := Unit) E yX9_isPosition cX9_isPosition 6 .boolean 2 0 0 [.ref (a 31), .int x1] [(a 31, oX9 a (hM 31)), (a 32, aI E 8 (hM 32)), (a 36, aI E 120 (hM 36)), (a 37, aI E 120 (hM 37))] (fun _ => o) (fun _ => [(a 31, oX9 a (hM 31)), (a 32, aI E 8 (hM 32)), (a 36, aI E 120 (hM 36)), (a 37, aI E 120 (hM 37))]) := by
  refine xMI.of (own := RX9) (lo0 := [(0, .ref (a 31)), (1, .int x1)]) (by decide +kernel) rfl rfl (Nat.le_of_ble_eq_true rfl) (fun V r hret => ?_)
  unfold xt_X9_isPosition at hxt
  refine r.iload_n 1 (DX9_isPosition 0 rfl) rfl ?_
  refine r.sipush (v := (128 : Int32)) (DX9_isPosition 1 rfl) rfl ?_
  refine r.irem (DX9_isPosition 2 rfl) (by decide) ?_
  refine r.istore_n (lo' := [(2, .int (x1 - x1 / (128 : Int32) * (128 : Int32))), (0, .ref (a 31)), (1, .int x1)]) (DX9_isPosition 3 rfl) (Nat.le_of_ble_eq_true rfl) rfl ?_
  refine r.iload_n 2 (DX9_isPosition 4 rfl) rfl ?_
  refine r.sipush (v := (128 : Int32)) (DX9_isPosition 5 rfl) rfl ?_
  refine r.idiv (DX9_isPosition 6 rfl) (by decide) ?_
  refine r.bipush (v := (16 : Int32)) (DX9_isPosition 7 rfl) rfl ?_
  refine r.irem (DX9_isPosition 8 rfl) (by decide) ?_
  refine r.istore_n (lo' := [(3, .int ((x1 / (128 : Int32)) - (x1 / (128 : Int32)) / (16 : Int32) * (16 : Int32))), (2, .int (x1 - x1 / (128 : Int32) * (128 : Int32))), (0, .ref (a 31)), (1, .int x1)]) (DX9_isPosition 9 rfl) (Nat.le_of_ble_eq_true rfl) rfl ?_
  refine r.iload_n 1 (DX9_isPosition 10 rfl) rfl ?_
  refine r.bipush (v := (120 : Int32)) (DX9_isPosition 11 rfl) rfl ?_
  refine r.icmp_ge 29 (DX9_isPosition 12 rfl) rfl hxt (fun _ hxt => ?_) (fun _ hxt => ?_)
  · refine r.iconst (v := (0 : Int32)) (DX9_isPosition 17 rfl) rfl ?_
    cases hxt
    exact hret _ _ _ _ (DX9_isPosition 18 rfl) rfl ⟨(), rfl, rfl⟩
  refine r.aload_n 2 (DX9_isPosition 13 rfl) rfl ?_
  refine r.iload_n 0 (DX9_isPosition 14 rfl) rfl ?_
  obtain ⟨o_1, ho_1, hxt⟩ := xbd hxt
  refine r.callVI 0 rfl rfl (t_X9_isFree E a ((x1 / (128 : Int32)) - (x1 / (128 : Int32)) / (16 : Int32) * (16 : Int32)) hM ho_1) g_X9_91 rfl (DX9_isPosition 15 rfl) rfl ⟨(Nat.le_of_ble_eq_true rfl), (Nat.le_of_ble_eq_true rfl)⟩ ⟨(Nat.le_of_ble_eq_true rfl), (Nat.le_of_ble_eq_true rfl)⟩ (Nat.le_of_ble_eq_true rfl) [0, 1] [2, 3] rfl rfl rfl rfl (by decide) [2, 3, 0, 1] rfl (ws2 := fun _ => [(a 31, oX9 a (hM 31)), (a 32, aI E 8 (hM 32)), (a 36, aI E 120 (hM 36)), (a 37, aI E 120 (hM 37))]) (fun _ => rfl) (fun _ => ?_)
  refine r.if_ne 31 (DX9_isPosition 16 rfl) rfl hxt (fun _ hxt => ?_) (fun _ hxt => ?_)
  · refine r.aload_n 2 (DX9_isPosition 19 rfl) rfl ?_
    refine r.get (v := .ref (a 36)) kX9 f_X9_23 rfl 0 rfl rfl (DX9_isPosition 20 rfl) ?_
    refine r.iload_n 1 (DX9_isPosition 21 rfl) rfl ?_
    obtain ⟨hin, hxt⟩ := xgd_some hxt
    refine r.iald 2 rfl hin (DX9_isPosition 22 rfl) ?_
    refine r.istore (lo' := [(4, .int ((hM 36) (x1 - x1 / (128 : Int32) * (128 : Int32)).toNatClampNeg)), (3, .int ((x1 / (128 : Int32)) - (x1 / (128 : Int32)) / (16 : Int32) * (16 : Int32))), (2, .int (x1 - x1 / (128 : Int32) * (128 : Int32))), (0, .ref (a 31)), (1, .int x1)]) (DX9_isPosition 23 rfl) (Nat.le_of_ble_eq_true rfl) rfl ?_
    refine r.aload_n 3 (DX9_isPosition 24 rfl) rfl ?_
    refine r.get (v := .ref (a 37)) kX9 f_X9_26 rfl 0 rfl rfl (DX9_isPosition 25 rfl) ?_
    refine r.iload_n 2 (DX9_isPosition 26 rfl) rfl ?_
    obtain ⟨hin, hxt⟩ := xgd_some hxt
    refine r.iald 3 rfl hin (DX9_isPosition 27 rfl) ?_
    refine r.istore (lo' := [(5, .int ((hM 37) (x1 - x1 / (128 : Int32) * (128 : Int32)).toNatClampNeg)), (4, .int ((hM 36) (x1 - x1 / (128 : Int32) * (128 : Int32)).toNatClampNeg)), (3, .int ((x1 / (128 : Int32)) - (x1 / (128 : Int32)) / (16 : Int32) * (16 : Int32))), (2, .int (x1 - x1 / (128 : Int32) * (128 : Int32))), (0, .ref (a 31)), (1, .int x1)]) (DX9_isPosition 28 rfl) (Nat.le_of_ble_eq_true rfl) rfl ?_
    refine r.iload 1 (DX9_isPosition 29 rfl) rfl ?_
    refine r.iload_n 2 (DX9_isPosition 30 rfl) rfl ?_
    refine r.icmp_eq 81 (DX9_isPosition 31 rfl) rfl hxt (fun _ hxt => ?_) (fun _ hxt => ?_)
    · refine r.iconst (v := (0 : Int32)) (DX9_isPosition 45 rfl) rfl ?_
      cases hxt
      exact hret _ _ _ _ (DX9_isPosition 46 rfl) rfl ⟨(), rfl, rfl⟩
    refine r.iload 0 (DX9_isPosition 32 rfl) rfl ?_
    refine r.iload_n 2 (DX9_isPosition 33 rfl) rfl ?_
    refine r.icmp_eq 81 (DX9_isPosition 34 rfl) rfl hxt (fun _ hxt => ?_) (fun _ hxt => ?_)
    · refine r.iconst (v := (0 : Int32)) (DX9_isPosition 45 rfl) rfl ?_
      cases hxt
      exact hret _ _ _ _ (DX9_isPosition 46 rfl) rfl ⟨(), rfl, rfl⟩
    refine r.aload_n 4 (DX9_isPosition 35 rfl) rfl ?_
    refine r.iload 1 (DX9_isPosition 36 rfl) rfl ?_
    obtain ⟨o_2, ho_2, hxt⟩ := xbd hxt
    refine r.callVI 0 rfl rfl (t_X9_isFree E a ((hM 36) (x1 - x1 / (128 : Int32) * (128 : Int32)).toNatClampNeg) hM ho_2) g_X9_91 rfl (DX9_isPosition 37 rfl) rfl ⟨(Nat.le_of_ble_eq_true rfl), (Nat.le_of_ble_eq_true rfl)⟩ ⟨(Nat.le_of_ble_eq_true rfl), (Nat.le_of_ble_eq_true rfl)⟩ (Nat.le_of_ble_eq_true rfl) [0, 1] [2, 3] rfl rfl rfl rfl (by decide) [2, 3, 0, 1] rfl (ws2 := fun _ => [(a 31, oX9 a (hM 31)), (a 32, aI E 8 (hM 32)), (a 36, aI E 120 (hM 36)), (a 37, aI E 120 (hM 37))]) (fun _ => rfl) (fun _ => ?_)
    refine r.if_eq 81 (DX9_isPosition 38 rfl) rfl hxt (fun _ hxt => ?_) (fun _ hxt => ?_)
    · refine r.iconst (v := (0 : Int32)) (DX9_isPosition 45 rfl) rfl ?_
      cases hxt
      exact hret _ _ _ _ (DX9_isPosition 46 rfl) rfl ⟨(), rfl, rfl⟩
    refine r.aload_n 4 (DX9_isPosition 39 rfl) rfl ?_
    refine r.iload 0 (DX9_isPosition 40 rfl) rfl ?_
    obtain ⟨o_3, ho_3, hxt⟩ := xbd hxt
    refine r.callVI 0 rfl rfl (t_X9_isFree E a ((hM 37) (x1 - x1 / (128 : Int32) * (128 : Int32)).toNatClampNeg) hM ho_3) g_X9_91 rfl (DX9_isPosition 41 rfl) rfl ⟨(Nat.le_of_ble_eq_true rfl), (Nat.le_of_ble_eq_true rfl)⟩ ⟨(Nat.le_of_ble_eq_true rfl), (Nat.le_of_ble_eq_true rfl)⟩ (Nat.le_of_ble_eq_true rfl) [0, 1] [2, 3] rfl rfl rfl rfl (by decide) [2, 3, 0, 1] rfl (ws2 := fun _ => [(a 31, oX9 a (hM 31)), (a 32, aI E 8 (hM 32)), (a 36, aI E 120 (hM 36)), (a 37, aI E 120 (hM 37))]) (fun _ => rfl) (fun _ => ?_)
    refine r.if_eq 81 (DX9_isPosition 42 rfl) rfl hxt (fun _ hxt => ?_) (fun _ hxt => ?_)
    · refine r.iconst (v := (0 : Int32)) (DX9_isPosition 45 rfl) rfl ?_
      cases hxt
      exact hret _ _ _ _ (DX9_isPosition 46 rfl) rfl ⟨(), rfl, rfl⟩
    refine r.iconst (v := (1 : Int32)) (DX9_isPosition 43 rfl) rfl ?_
    refine r.goto 82 (DX9_isPosition 44 rfl) rfl ?_
    cases hxt
    exact hret _ _ _ _ (DX9_isPosition 46 rfl) rfl ⟨(), rfl, rfl⟩
  refine r.iconst (v := (0 : Int32)) (DX9_isPosition 17 rfl) rfl ?_
  cases hxt
  exact hret _ _ _ _ (DX9_isPosition 18 rfl) rfl ⟨(), rfl, rfl⟩
set_option maxRecDepth 100000 in
set_option maxHeartbeats 4000000 in
theorem t_X9_size (E : xE) (x0 : Int32) {o : Int32} (hxt : xt_X9_size x0 = some o) : xMI (S := Unit) E yX9_size cX9_size 1 .int 0 0 0 [.int x0] [] (fun _ => o) (fun _ => []) := by
  refine xMI.of (own := RX9) (lo0 := [(0, .int x0)]) (by decide +kernel) rfl rfl (Nat.le_of_ble_eq_true rfl) (fun V r hret => ?_)
  unfold xt_X9_size at hxt
  refine r.iload_n 0 (DX9_size 0 rfl) rfl ?_
  refine r.if_ge 9 (DX9_size 1 rfl) rfl hxt (fun _ hxt => ?_) (fun _ hxt => ?_)
  · refine r.iload_n 0 (DX9_size 5 rfl) rfl ?_
    cases hxt
    exact hret _ _ _ _ (DX9_size 6 rfl) rfl ⟨(), rfl, rfl⟩
  refine r.iload_n 0 (DX9_size 2 rfl) rfl ?_
  refine r.ineg (DX9_size 3 rfl) ?_
  refine r.goto 10 (DX9_size 4 rfl) rfl ?_
  cases hxt
  exact hret _ _ _ _ (DX9_size 6 rfl) rfl ⟨(), rfl, rfl⟩
set_option maxRecDepth 100000 in
set_option maxHeartbeats 4000000 in
theorem t_X9_rowsBetween (E : xE) (x0 : Int32) (x1 : Int32) {o : Int32} (hxt : xt_X9_rowsBetween x0 x1 = some o) : xMI (S := Unit) E yX9_rowsBetween cX9_rowsBetween 2 .int 1 0 0 [.int x0, .int x1] [] (fun _ => o) (fun _ => []) := by
  refine xMI.of (own := RX9) (lo0 := [(0, .int x0), (1, .int x1)]) (by decide +kernel) rfl rfl (Nat.le_of_ble_eq_true rfl) (fun V r hret => ?_)
  unfold xt_X9_rowsBetween at hxt
  refine r.iload_n 0 (DX9_rowsBetween 0 rfl) rfl ?_
  refine r.iconst (v := (4 : Int32)) (DX9_rowsBetween 1 rfl) rfl ?_
  refine r.idiv (DX9_rowsBetween 2 rfl) (by decide) ?_
  refine r.iload_n 1 (DX9_rowsBetween 3 rfl) rfl ?_
  refine r.iconst (v := (4 : Int32)) (DX9_rowsBetween 4 rfl) rfl ?_
  refine r.idiv (DX9_rowsBetween 5 rfl) (by decide) ?_
  refine r.isub (DX9_rowsBetween 6 rfl) ?_
  obtain ⟨o_1, ho_1, hxt⟩ := xbd hxt
  refine r.callSI0 (t_X9_size E ((x0 / (4 : Int32)) - (x1 / (4 : Int32))) ho_1) g_X9_64 rfl (DX9_rowsBetween 7 rfl) rfl ⟨(Nat.le_of_ble_eq_true rfl), (Nat.le_of_ble_eq_true rfl)⟩ (Nat.le_of_ble_eq_true rfl) ?_
  cases hxt
  exact hret _ _ _ _ (DX9_rowsBetween 8 rfl) rfl ⟨(), rfl, rfl⟩
set_option maxRecDepth 100000 in
set_option maxHeartbeats 4000000 in
theorem t_X9_columnsBetween (E : xE) (x0 : Int32) (x1 : Int32) {o : Int32} (hxt : xt_X9_columnsBetween x0 x1 = some o) : xMI (S := Unit) E yX9_columnsBetween cX9_columnsBetween 2 .int 1 0 0 [.int x0, .int x1] [] (fun _ => o) (fun _ => []) := by
  refine xMI.of (own := RX9) (lo0 := [(0, .int x0), (1, .int x1)]) (by decide +kernel) rfl rfl (Nat.le_of_ble_eq_true rfl) (fun V r hret => ?_)
  unfold xt_X9_columnsBetween at hxt
  refine r.iload_n 0 (DX9_columnsBetween 0 rfl) rfl ?_
  refine r.iconst (v := (4 : Int32)) (DX9_columnsBetween 1 rfl) rfl ?_
  refine r.irem (DX9_columnsBetween 2 rfl) (by decide) ?_
  refine r.iload_n 1 (DX9_columnsBetween 3 rfl) rfl ?_
  refine r.iconst (v := (4 : Int32)) (DX9_columnsBetween 4 rfl) rfl ?_
  refine r.irem (DX9_columnsBetween 5 rfl) (by decide) ?_
  refine r.isub (DX9_columnsBetween 6 rfl) ?_
  obtain ⟨o_1, ho_1, hxt⟩ := xbd hxt
  refine r.callSI0 (t_X9_size E ((x0 - x0 / (4 : Int32) * (4 : Int32)) - (x1 - x1 / (4 : Int32) * (4 : Int32))) ho_1) g_X9_64 rfl (DX9_columnsBetween 7 rfl) rfl ⟨(Nat.le_of_ble_eq_true rfl), (Nat.le_of_ble_eq_true rfl)⟩ (Nat.le_of_ble_eq_true rfl) ?_
  cases hxt
  exact hret _ _ _ _ (DX9_columnsBetween 8 rfl) rfl ⟨(), rfl, rfl⟩
set_option maxRecDepth 100000 in
set_option maxHeartbeats 4000000 in
theorem t_X9_between (E : xE) (x0 : Int32) (x1 : Int32) {o : Int32} (hxt : xt_X9_between x0 x1 = some o) : xMI (S := Unit) E yX9_between cX9_between 2 .int 2 0 0 [.int x0, .int x1] [] (fun _ => o) (fun _ => []) := by
  refine xMI.of (own := RX9) (lo0 := [(0, .int x0), (1, .int x1)]) (by decide +kernel) rfl rfl (Nat.le_of_ble_eq_true rfl) (fun V r hret => ?_)
  unfold xt_X9_between at hxt
  refine r.iload_n 0 (DX9_between 0 rfl) rfl ?_
  refine r.iload_n 1 (DX9_between 1 rfl) rfl ?_
  obtain ⟨o_1, ho_1, hxt⟩ := xbd hxt
  refine r.callSI0 (t_X9_rowsBetween E x0 x1 ho_1) g_X9_68 rfl (DX9_between 2 rfl) rfl ⟨(Nat.le_of_ble_eq_true rfl), (Nat.le_of_ble_eq_true rfl)⟩ (Nat.le_of_ble_eq_true rfl) ?_
  refine r.iload_n 0 (DX9_between 3 rfl) rfl ?_
  refine r.iload_n 1 (DX9_between 4 rfl) rfl ?_
  obtain ⟨o_2, ho_2, hxt⟩ := xbd hxt
  refine r.callSI0 (t_X9_columnsBetween E x0 x1 ho_2) g_X9_72 rfl (DX9_between 5 rfl) rfl ⟨(Nat.le_of_ble_eq_true rfl), (Nat.le_of_ble_eq_true rfl)⟩ (Nat.le_of_ble_eq_true rfl) ?_
  refine r.iadd (DX9_between 6 rfl) ?_
  cases hxt
  exact hret _ _ _ _ (DX9_between 7 rfl) rfl ⟨(), rfl, rfl⟩
set_option maxRecDepth 100000 in
set_option maxHeartbeats 4000000 in
theorem t_X9_isStep (E : xE) (x0 : Int32) (x1 : Int32) (x2 : Int32) {o : Int32} (hxt : xt_X9_isStep x0 x1 x2 = some o) : xMI (S := Unit) E yX9_isStep cX9_isStep 3 .boolean 3 0 0 [.int x0, .int x1, .int x2] [] (fun _ => o) (fun _ => []) := by
  refine xMI.of (own := RX9) (lo0 := [(0, .int x0), (1, .int x1), (2, .int x2)]) (by decide +kernel) rfl rfl (Nat.le_of_ble_eq_true rfl) (fun V r hret => ?_)
  unfold xt_X9_isStep at hxt
  refine r.iload_n 0 (DX9_isStep 0 rfl) rfl ?_
  refine r.iload_n 1 (DX9_isStep 1 rfl) rfl ?_
  obtain ⟨o_1, ho_1, hxt⟩ := xbd hxt
  refine r.callSI0 (t_X9_between E x0 x1 ho_1) g_X9_75 rfl (DX9_isStep 2 rfl) rfl ⟨(Nat.le_of_ble_eq_true rfl), (Nat.le_of_ble_eq_true rfl)⟩ (Nat.le_of_ble_eq_true rfl) ?_
  refine r.iconst (v := (1 : Int32)) (DX9_isStep 3 rfl) rfl ?_
  refine r.icmp_eq 31 (DX9_isStep 4 rfl) rfl hxt (fun _ hxt => ?_) (fun _ hxt => ?_)
  · refine r.iconst (v := (1 : Int32)) (DX9_isStep 17 rfl) rfl ?_
    refine r.goto 36 (DX9_isStep 18 rfl) rfl ?_
    cases hxt
    exact hret _ _ _ _ (DX9_isStep 20 rfl) rfl ⟨(), rfl, rfl⟩
  refine r.iload_n 2 (DX9_isStep 5 rfl) rfl ?_
  refine r.if_eq 35 (DX9_isStep 6 rfl) rfl hxt (fun _ hxt => ?_) (fun _ hxt => ?_)
  · refine r.iconst (v := (0 : Int32)) (DX9_isStep 19 rfl) rfl ?_
    cases hxt
    exact hret _ _ _ _ (DX9_isStep 20 rfl) rfl ⟨(), rfl, rfl⟩
  refine r.iload_n 0 (DX9_isStep 7 rfl) rfl ?_
  refine r.iload_n 1 (DX9_isStep 8 rfl) rfl ?_
  obtain ⟨o_2, ho_2, hxt⟩ := xbd hxt
  refine r.callSI0 (t_X9_rowsBetween E x0 x1 ho_2) g_X9_68 rfl (DX9_isStep 9 rfl) rfl ⟨(Nat.le_of_ble_eq_true rfl), (Nat.le_of_ble_eq_true rfl)⟩ (Nat.le_of_ble_eq_true rfl) ?_
  refine r.iconst (v := (1 : Int32)) (DX9_isStep 10 rfl) rfl ?_
  refine r.icmp_ne 35 (DX9_isStep 11 rfl) rfl hxt (fun _ hxt => ?_) (fun _ hxt => ?_)
  · refine r.iconst (v := (0 : Int32)) (DX9_isStep 19 rfl) rfl ?_
    cases hxt
    exact hret _ _ _ _ (DX9_isStep 20 rfl) rfl ⟨(), rfl, rfl⟩
  refine r.iload_n 0 (DX9_isStep 12 rfl) rfl ?_
  refine r.iload_n 1 (DX9_isStep 13 rfl) rfl ?_
  obtain ⟨o_3, ho_3, hxt⟩ := xbd hxt
  refine r.callSI0 (t_X9_columnsBetween E x0 x1 ho_3) g_X9_72 rfl (DX9_isStep 14 rfl) rfl ⟨(Nat.le_of_ble_eq_true rfl), (Nat.le_of_ble_eq_true rfl)⟩ (Nat.le_of_ble_eq_true rfl) ?_
  refine r.iconst (v := (1 : Int32)) (DX9_isStep 15 rfl) rfl ?_
  refine r.icmp_ne 35 (DX9_isStep 16 rfl) rfl hxt (fun _ hxt => ?_) (fun _ hxt => ?_)
  · refine r.iconst (v := (0 : Int32)) (DX9_isStep 19 rfl) rfl ?_
    cases hxt
    exact hret _ _ _ _ (DX9_isStep 20 rfl) rfl ⟨(), rfl, rfl⟩
  refine r.iconst (v := (1 : Int32)) (DX9_isStep 17 rfl) rfl ?_
  refine r.goto 36 (DX9_isStep 18 rfl) rfl ?_
  cases hxt
  exact hret _ _ _ _ (DX9_isStep 20 rfl) rfl ⟨(), rfl, rfl⟩
set_option maxRecDepth 100000 in
set_option maxHeartbeats 4000000 in
theorem t_X9_canCatch (E : xE) (a : Nat → Nat) (x1 : Int32) (x2 : Int32) (hM : Mem) {o : Int32} (hxt : xt_X9_canCatch x1 x2 hM = some o) : xMI (S := Unit) E yX9_canCatch cX9_canCatch 3 .boolean 4 0 0 [.ref (a 31), .int x1, .int x2] [(a 31, oX9 a (hM 31)), (a 32, aI E 8 (hM 32)), (a 36, aI E 120 (hM 36)), (a 37, aI E 120 (hM 37))] (fun _ => o) (fun _ => [(a 31, oX9 a (hM 31)), (a 32, aI E 8 (hM 32)), (a 36, aI E 120 (hM 36)), (a 37, aI E 120 (hM 37))]) := by
  refine xMI.of (own := RX9) (lo0 := [(0, .ref (a 31)), (1, .int x1), (2, .int x2)]) (by decide +kernel) rfl rfl (Nat.le_of_ble_eq_true rfl) (fun V r hret => ?_)
  unfold xt_X9_canCatch at hxt
  refine r.aload_n 0 (DX9_canCatch 0 rfl) rfl ?_
  refine r.get (v := .ref (a 36)) kX9 f_X9_23 rfl 0 rfl rfl (DX9_canCatch 1 rfl) ?_
  refine r.iload_n 2 (DX9_canCatch 2 rfl) rfl ?_
  obtain ⟨hin, hxt⟩ := xgd_some hxt
  refine r.iald 2 rfl hin (DX9_canCatch 3 rfl) ?_
  refine r.iload_n 1 (DX9_canCatch 4 rfl) rfl ?_
  refine r.aload_n 0 (DX9_canCatch 5 rfl) rfl ?_
  refine r.get (v := .ref (a 32)) kX9 f_X9_7 rfl 0 rfl rfl (DX9_canCatch 6 rfl) ?_
  refine r.iconst (v := (1 : Int32)) (DX9_canCatch 7 rfl) rfl ?_
  obtain ⟨hin, hxt⟩ := xgd_some hxt
  refine r.iald 1 rfl hin (DX9_canCatch 8 rfl) ?_
  refine r.iconst (v := (1 : Int32)) (DX9_canCatch 9 rfl) rfl ?_
  refine r.icmp_ne 21 (DX9_canCatch 10 rfl) rfl hxt (fun _ hxt => ?_) (fun _ hxt => ?_)
  · refine r.iconst (v := (0 : Int32)) (DX9_canCatch 13 rfl) rfl ?_
    obtain ⟨o_1, ho_1, hxt⟩ := xbd hxt
    refine r.callSI0 (t_X9_isStep E ((hM 36) x2.toNatClampNeg) x1 (0 : Int32) ho_1) g_X9_95 rfl (DX9_canCatch 14 rfl) rfl ⟨(Nat.le_of_ble_eq_true rfl), (Nat.le_of_ble_eq_true rfl)⟩ (Nat.le_of_ble_eq_true rfl) ?_
    refine r.if_ne 56 (DX9_canCatch 15 rfl) rfl hxt (fun _ hxt => ?_) (fun _ hxt => ?_)
    · refine r.iconst (v := (1 : Int32)) (DX9_canCatch 32 rfl) rfl ?_
      refine r.goto 61 (DX9_canCatch 33 rfl) rfl ?_
      cases hxt
      exact hret _ _ _ _ (DX9_canCatch 35 rfl) rfl ⟨(), rfl, rfl⟩
    refine r.aload_n 0 (DX9_canCatch 16 rfl) rfl ?_
    refine r.get (v := .ref (a 37)) kX9 f_X9_26 rfl 0 rfl rfl (DX9_canCatch 17 rfl) ?_
    refine r.iload_n 2 (DX9_canCatch 18 rfl) rfl ?_
    obtain ⟨hin, hxt⟩ := xgd_some hxt
    refine r.iald 3 rfl hin (DX9_canCatch 19 rfl) ?_
    refine r.iload_n 1 (DX9_canCatch 20 rfl) rfl ?_
    refine r.aload_n 0 (DX9_canCatch 21 rfl) rfl ?_
    refine r.get (v := .ref (a 32)) kX9 f_X9_7 rfl 0 rfl rfl (DX9_canCatch 22 rfl) ?_
    refine r.iconst (v := (1 : Int32)) (DX9_canCatch 23 rfl) rfl ?_
    obtain ⟨hin, hxt⟩ := xgd_some hxt
    refine r.iald 1 rfl hin (DX9_canCatch 24 rfl) ?_
    refine r.iconst (v := (1 : Int32)) (DX9_canCatch 25 rfl) rfl ?_
    refine r.icmp_ne 49 (DX9_canCatch 26 rfl) rfl hxt (fun _ hxt => ?_) (fun _ hxt => ?_)
    · refine r.iconst (v := (0 : Int32)) (DX9_canCatch 29 rfl) rfl ?_
      obtain ⟨o_2, ho_2, hxt⟩ := xbd hxt
      refine r.callSI0 (t_X9_isStep E ((hM 37) x2.toNatClampNeg) x1 (0 : Int32) ho_2) g_X9_95 rfl (DX9_canCatch 30 rfl) rfl ⟨(Nat.le_of_ble_eq_true rfl), (Nat.le_of_ble_eq_true rfl)⟩ (Nat.le_of_ble_eq_true rfl) ?_
      refine r.if_eq 60 (DX9_canCatch 31 rfl) rfl hxt (fun _ hxt => ?_) (fun _ hxt => ?_)
      · refine r.iconst (v := (0 : Int32)) (DX9_canCatch 34 rfl) rfl ?_
        cases hxt
        exact hret _ _ _ _ (DX9_canCatch 35 rfl) rfl ⟨(), rfl, rfl⟩
      refine r.iconst (v := (1 : Int32)) (DX9_canCatch 32 rfl) rfl ?_
      refine r.goto 61 (DX9_canCatch 33 rfl) rfl ?_
      cases hxt
      exact hret _ _ _ _ (DX9_canCatch 35 rfl) rfl ⟨(), rfl, rfl⟩
    refine r.iconst (v := (1 : Int32)) (DX9_canCatch 27 rfl) rfl ?_
    refine r.goto 50 (DX9_canCatch 28 rfl) rfl ?_
    obtain ⟨o_3, ho_3, hxt⟩ := xbd hxt
    refine r.callSI0 (t_X9_isStep E ((hM 37) x2.toNatClampNeg) x1 (1 : Int32) ho_3) g_X9_95 rfl (DX9_canCatch 30 rfl) rfl ⟨(Nat.le_of_ble_eq_true rfl), (Nat.le_of_ble_eq_true rfl)⟩ (Nat.le_of_ble_eq_true rfl) ?_
    refine r.if_eq 60 (DX9_canCatch 31 rfl) rfl hxt (fun _ hxt => ?_) (fun _ hxt => ?_)
    · refine r.iconst (v := (0 : Int32)) (DX9_canCatch 34 rfl) rfl ?_
      cases hxt
      exact hret _ _ _ _ (DX9_canCatch 35 rfl) rfl ⟨(), rfl, rfl⟩
    refine r.iconst (v := (1 : Int32)) (DX9_canCatch 32 rfl) rfl ?_
    refine r.goto 61 (DX9_canCatch 33 rfl) rfl ?_
    cases hxt
    exact hret _ _ _ _ (DX9_canCatch 35 rfl) rfl ⟨(), rfl, rfl⟩
  refine r.iconst (v := (1 : Int32)) (DX9_canCatch 11 rfl) rfl ?_
  refine r.goto 22 (DX9_canCatch 12 rfl) rfl ?_
  obtain ⟨o_4, ho_4, hxt⟩ := xbd hxt
  refine r.callSI0 (t_X9_isStep E ((hM 36) x2.toNatClampNeg) x1 (1 : Int32) ho_4) g_X9_95 rfl (DX9_canCatch 14 rfl) rfl ⟨(Nat.le_of_ble_eq_true rfl), (Nat.le_of_ble_eq_true rfl)⟩ (Nat.le_of_ble_eq_true rfl) ?_
  refine r.if_ne 56 (DX9_canCatch 15 rfl) rfl hxt (fun _ hxt => ?_) (fun _ hxt => ?_)
  · refine r.iconst (v := (1 : Int32)) (DX9_canCatch 32 rfl) rfl ?_
    refine r.goto 61 (DX9_canCatch 33 rfl) rfl ?_
    cases hxt
    exact hret _ _ _ _ (DX9_canCatch 35 rfl) rfl ⟨(), rfl, rfl⟩
  refine r.aload_n 0 (DX9_canCatch 16 rfl) rfl ?_
  refine r.get (v := .ref (a 37)) kX9 f_X9_26 rfl 0 rfl rfl (DX9_canCatch 17 rfl) ?_
  refine r.iload_n 2 (DX9_canCatch 18 rfl) rfl ?_
  obtain ⟨hin, hxt⟩ := xgd_some hxt
  refine r.iald 3 rfl hin (DX9_canCatch 19 rfl) ?_
  refine r.iload_n 1 (DX9_canCatch 20 rfl) rfl ?_
  refine r.aload_n 0 (DX9_canCatch 21 rfl) rfl ?_
  refine r.get (v := .ref (a 32)) kX9 f_X9_7 rfl 0 rfl rfl (DX9_canCatch 22 rfl) ?_
  refine r.iconst (v := (1 : Int32)) (DX9_canCatch 23 rfl) rfl ?_
  obtain ⟨hin, hxt⟩ := xgd_some hxt
  refine r.iald 1 rfl hin (DX9_canCatch 24 rfl) ?_
  refine r.iconst (v := (1 : Int32)) (DX9_canCatch 25 rfl) rfl ?_
  refine r.icmp_ne 49 (DX9_canCatch 26 rfl) rfl hxt (fun _ hxt => ?_) (fun _ hxt => ?_)
  · refine r.iconst (v := (0 : Int32)) (DX9_canCatch 29 rfl) rfl ?_
    obtain ⟨o_5, ho_5, hxt⟩ := xbd hxt
    refine r.callSI0 (t_X9_isStep E ((hM 37) x2.toNatClampNeg) x1 (0 : Int32) ho_5) g_X9_95 rfl (DX9_canCatch 30 rfl) rfl ⟨(Nat.le_of_ble_eq_true rfl), (Nat.le_of_ble_eq_true rfl)⟩ (Nat.le_of_ble_eq_true rfl) ?_
    refine r.if_eq 60 (DX9_canCatch 31 rfl) rfl hxt (fun _ hxt => ?_) (fun _ hxt => ?_)
    · refine r.iconst (v := (0 : Int32)) (DX9_canCatch 34 rfl) rfl ?_
      cases hxt
      exact hret _ _ _ _ (DX9_canCatch 35 rfl) rfl ⟨(), rfl, rfl⟩
    refine r.iconst (v := (1 : Int32)) (DX9_canCatch 32 rfl) rfl ?_
    refine r.goto 61 (DX9_canCatch 33 rfl) rfl ?_
    cases hxt
    exact hret _ _ _ _ (DX9_canCatch 35 rfl) rfl ⟨(), rfl, rfl⟩
  refine r.iconst (v := (1 : Int32)) (DX9_canCatch 27 rfl) rfl ?_
  refine r.goto 50 (DX9_canCatch 28 rfl) rfl ?_
  obtain ⟨o_6, ho_6, hxt⟩ := xbd hxt
  refine r.callSI0 (t_X9_isStep E ((hM 37) x2.toNatClampNeg) x1 (1 : Int32) ho_6) g_X9_95 rfl (DX9_canCatch 30 rfl) rfl ⟨(Nat.le_of_ble_eq_true rfl), (Nat.le_of_ble_eq_true rfl)⟩ (Nat.le_of_ble_eq_true rfl) ?_
  refine r.if_eq 60 (DX9_canCatch 31 rfl) rfl hxt (fun _ hxt => ?_) (fun _ hxt => ?_)
  · refine r.iconst (v := (0 : Int32)) (DX9_canCatch 34 rfl) rfl ?_
    cases hxt
    exact hret _ _ _ _ (DX9_canCatch 35 rfl) rfl ⟨(), rfl, rfl⟩
  refine r.iconst (v := (1 : Int32)) (DX9_canCatch 32 rfl) rfl ?_
  refine r.goto 61 (DX9_canCatch 33 rfl) rfl ?_
  cases hxt
  exact hret _ _ _ _ (DX9_canCatch 35 rfl) rfl ⟨(), rfl, rfl⟩
set_option maxRecDepth 100000 in
set_option maxHeartbeats 4000000 in
theorem t_X9_pair (E : xE) (x0 : Int32) (x1 : Int32) {o : Int32} (hxt : xt_X9_pair x0 x1 = some o) : xMI (S := Unit) E yX9_pair cX9_pair 4 .int 1 0 0 [.int x0, .int x1] [] (fun _ => o) (fun _ => []) := by
  refine xMI.of (own := RX9) (lo0 := [(0, .int x0), (1, .int x1)]) (by decide +kernel) rfl rfl (Nat.le_of_ble_eq_true rfl) (fun V r hret => ?_)
  unfold xt_X9_pair at hxt
  refine r.iload_n 0 (DX9_pair 0 rfl) rfl ?_
  refine r.iload_n 1 (DX9_pair 1 rfl) rfl ?_
  obtain ⟨o_1, ho_1, hxt⟩ := xbd hxt
  refine r.callSI0 (t_X9_lesser E x0 x1 ho_1) g_X9_82 rfl (DX9_pair 2 rfl) rfl ⟨(Nat.le_of_ble_eq_true rfl), (Nat.le_of_ble_eq_true rfl)⟩ (Nat.le_of_ble_eq_true rfl) ?_
  refine r.istore_n (lo' := [(2, .int o_1), (0, .int x0), (1, .int x1)]) (DX9_pair 3 rfl) (Nat.le_of_ble_eq_true rfl) rfl ?_
  refine r.iload_n 1 (DX9_pair 4 rfl) rfl ?_
  refine r.iload_n 2 (DX9_pair 5 rfl) rfl ?_
  obtain ⟨o_2, ho_2, hxt⟩ := xbd hxt
  refine r.callSI0 (t_X9_greater E x0 x1 ho_2) g_X9_85 rfl (DX9_pair 6 rfl) rfl ⟨(Nat.le_of_ble_eq_true rfl), (Nat.le_of_ble_eq_true rfl)⟩ (Nat.le_of_ble_eq_true rfl) ?_
  refine r.istore_n (lo' := [(3, .int o_2), (2, .int o_1), (0, .int x0), (1, .int x1)]) (DX9_pair 7 rfl) (Nat.le_of_ble_eq_true rfl) rfl ?_
  refine r.iload_n 1 (DX9_pair 8 rfl) rfl ?_
  refine r.bipush (v := (31 : Int32)) (DX9_pair 9 rfl) rfl ?_
  refine r.iload_n 1 (DX9_pair 10 rfl) rfl ?_
  refine r.isub (DX9_pair 11 rfl) ?_
  refine r.imul (DX9_pair 12 rfl) ?_
  refine r.iconst (v := (2 : Int32)) (DX9_pair 13 rfl) rfl ?_
  refine r.idiv (DX9_pair 14 rfl) (by decide) ?_
  refine r.iload_n 0 (DX9_pair 15 rfl) rfl ?_
  refine r.iadd (DX9_pair 16 rfl) ?_
  refine r.iload_n 1 (DX9_pair 17 rfl) rfl ?_
  refine r.isub (DX9_pair 18 rfl) ?_
  refine r.iconst (v := (1 : Int32)) (DX9_pair 19 rfl) rfl ?_
  refine r.isub (DX9_pair 20 rfl) ?_
  cases hxt
  exact hret _ _ _ _ (DX9_pair 21 rfl) rfl ⟨(), rfl, rfl⟩
set_option maxRecDepth 100000 in
set_option maxHeartbeats 4000000 in
theorem t_X9_numberOf (E : xE) (x0 : Int32) (x1 : Int32) (x2 : Int32) (x3 : Int32) {o : Int32} (hxt : xt_X9_numberOf x0 x1 x2 x3 = some o) : xMI (S := Unit) E yX9_numberOf cX9_numberOf 4 .int 2 0 0 [.int x0, .int x1, .int x2, .int x3] [] (fun _ => o) (fun _ => []) := by
  refine xMI.of (own := RX9) (lo0 := [(0, .int x0), (1, .int x1), (2, .int x2), (3, .int x3)]) (by decide +kernel) rfl rfl (Nat.le_of_ble_eq_true rfl) (fun V r hret => ?_)
  unfold xt_X9_numberOf at hxt
  refine r.sipush (v := (2048 : Int32)) (DX9_numberOf 0 rfl) rfl ?_
  refine r.iload_n 0 (DX9_numberOf 1 rfl) rfl ?_
  refine r.imul (DX9_numberOf 2 rfl) ?_
  refine r.sipush (v := (128 : Int32)) (DX9_numberOf 3 rfl) rfl ?_
  refine r.iload_n 1 (DX9_numberOf 4 rfl) rfl ?_
  refine r.imul (DX9_numberOf 5 rfl) ?_
  refine r.iadd (DX9_numberOf 6 rfl) ?_
  refine r.iload_n 2 (DX9_numberOf 7 rfl) rfl ?_
  refine r.iload_n 3 (DX9_numberOf 8 rfl) rfl ?_
  obtain ⟨o_1, ho_1, hxt⟩ := xbd hxt
  refine r.callSI0 (t_X9_pair E x2 x3 ho_1) g_X9_88 rfl (DX9_numberOf 9 rfl) rfl ⟨(Nat.le_of_ble_eq_true rfl), (Nat.le_of_ble_eq_true rfl)⟩ (Nat.le_of_ble_eq_true rfl) ?_
  refine r.iadd (DX9_numberOf 10 rfl) ?_
  cases hxt
  exact hret _ _ _ _ (DX9_numberOf 11 rfl) rfl ⟨(), rfl, rfl⟩
set_option maxRecDepth 100000 in
set_option maxHeartbeats 4000000 in
theorem t_X9_nearer (E : xE) (x0 : Int32) (x1 : Int32) {o : Int32} (hxt : xt_X9_nearer x0 x1 = some o) : xMI (S := Unit) E yX9_nearer cX9_nearer 2 .int 1 0 0 [.int x0, .int x1] [] (fun _ => o) (fun _ => []) := by
  refine xMI.of (own := RX9) (lo0 := [(0, .int x0), (1, .int x1)]) (by decide +kernel) rfl rfl (Nat.le_of_ble_eq_true rfl) (fun V r hret => ?_)
  unfold xt_X9_nearer at hxt
  refine r.iload_n 0 (DX9_nearer 0 rfl) rfl ?_
  refine r.if_ge 8 (DX9_nearer 1 rfl) rfl hxt (fun _ hxt => ?_) (fun _ hxt => ?_)
  · refine r.iload_n 1 (DX9_nearer 4 rfl) rfl ?_
    refine r.if_ge 16 (DX9_nearer 5 rfl) rfl hxt (fun _ hxt => ?_) (fun _ hxt => ?_)
    · refine r.iload_n 0 (DX9_nearer 8 rfl) rfl ?_
      refine r.iload_n 1 (DX9_nearer 9 rfl) rfl ?_
      obtain ⟨o_1, ho_1, hxt⟩ := xbd hxt
      refine r.callSI0 (t_X9_lesser E x0 x1 ho_1) g_X9_82 rfl (DX9_nearer 10 rfl) rfl ⟨(Nat.le_of_ble_eq_true rfl), (Nat.le_of_ble_eq_true rfl)⟩ (Nat.le_of_ble_eq_true rfl) ?_
      cases hxt
      exact hret _ _ _ _ (DX9_nearer 11 rfl) rfl ⟨(), rfl, rfl⟩
    refine r.iload_n 0 (DX9_nearer 6 rfl) rfl ?_
    refine r.goto 21 (DX9_nearer 7 rfl) rfl ?_
    cases hxt
    exact hret _ _ _ _ (DX9_nearer 11 rfl) rfl ⟨(), rfl, rfl⟩
  refine r.iload_n 1 (DX9_nearer 2 rfl) rfl ?_
  refine r.goto 21 (DX9_nearer 3 rfl) rfl ?_
  cases hxt
  exact hret _ _ _ _ (DX9_nearer 11 rfl) rfl ⟨(), rfl, rfl⟩
set_option maxRecDepth 100000 in
set_option maxHeartbeats 4000000 in
theorem l_X9_ofHunter_7 (E : xE) (a : Nat → Nat) (x1 : Int32) (x2 : Int32) (x3 : Int32) (hM : Mem) {V : xVT} (r : Rl E RX9 cX9_ofHunter (xR 4 0 0) 6 false V) {o : Int32} {k : Int32 → Option (Int32)} (hk : ∀ (v4 : Int32), k v4 = some o → V 0 0 85 [(4, .int v4)] [] [(a 31, oX9 a (hM 31)), (a 32, aI E 8 (hM 32)), (a 38, aI E 4096 (hM 38))]) : ∀ (n : Nat) (v4 : Int32) (v5 : Int32), xt_X9_ofHunter_l7 x1 x2 x3 hM k n v4 v5 = some o → V 0 0 7 [(0, .ref (a 31)), (1, .int x1), (2, .int x2), (3, .int x3), (4, .int v4), (5, .int v5)] [] [(a 31, oX9 a (hM 31)), (a 32, aI E 8 (hM 32)), (a 38, aI E 4096 (hM 38))] := by
  intro n
  induction n with
  | zero => intro v4 v5 hxt; exact xno hxt
  | succ n ih =>
    intro v4 v5 hxt
    rw [xt_X9_ofHunter_l7] at hxt
    refine r.iload 5 (DX9_ofHunter 4 rfl) rfl ?_
    refine r.bipush (v := (16 : Int32)) (DX9_ofHunter 5 rfl) rfl ?_
    refine r.icmp_ge 85 (DX9_ofHunter 6 rfl) rfl hxt (fun _ hxt => ?_) (fun _ hxt => ?_)
    · refine r.rel (lo' := [(4, .int v4)]) [4] rfl ?_
      exact hk v4 hxt
    refine r.aload_n 0 (DX9_ofHunter 7 rfl) rfl ?_
    refine r.iload 5 (DX9_ofHunter 8 rfl) rfl ?_
    obtain ⟨o_1, ho_1, hxt⟩ := xbd hxt
    refine r.callVI 0 rfl rfl (t_X9_isFree E a v5 hM ho_1) g_X9_91 rfl (DX9_ofHunter 9 rfl) rfl ⟨(Nat.le_of_ble_eq_true rfl), (Nat.le_of_ble_eq_true rfl)⟩ ⟨(Nat.le_of_ble_eq_true rfl), (Nat.le_of_ble_eq_true rfl)⟩ (Nat.le_of_ble_eq_true rfl) [0, 1] [2] rfl rfl rfl rfl (by decide) [1, 2, 0] rfl (ws2 := fun _ => [(a 31, oX9 a (hM 31)), (a 32, aI E 8 (hM 32)), (a 38, aI E 4096 (hM 38))]) (fun _ => rfl) (fun _ => ?_)
    refine r.if_eq 79 (DX9_ofHunter 10 rfl) rfl hxt (fun _ hxt => ?_) (fun _ hxt => ?_)
    · refine r.iinc (v := (v5 + (1 : Int32))) (lo' := [(5, .int (v5 + (1 : Int32))), (0, .ref (a 31)), (1, .int x1), (2, .int x2), (3, .int x3), (4, .int v4)]) 5 (DX9_ofHunter 41 rfl) rfl rfl (Nat.le_of_ble_eq_true rfl) rfl ?_
      refine r.goto 7 (DX9_ofHunter 42 rfl) rfl ?_
      refine r.rel (lo' := [(0, .ref (a 31)), (1, .int x1), (2, .int x2), (3, .int x3), (4, .int v4), (5, .int (v5 + (1 : Int32)))]) [1, 2, 3, 4, 5, 0] rfl ?_
      exact ih v4 (v5 + (1 : Int32)) hxt
    refine r.iload 5 (DX9_ofHunter 11 rfl) rfl ?_
    refine r.iload_n 3 (DX9_ofHunter 12 rfl) rfl ?_
    refine r.icmp_eq 79 (DX9_ofHunter 13 rfl) rfl hxt (fun _ hxt => ?_) (fun _ hxt => ?_)
    · refine r.iinc (v := (v5 + (1 : Int32))) (lo' := [(5, .int (v5 + (1 : Int32))), (0, .ref (a 31)), (1, .int x1), (2, .int x2), (3, .int x3), (4, .int v4)]) 5 (DX9_ofHunter 41 rfl) rfl rfl (Nat.le_of_ble_eq_true rfl) rfl ?_
      refine r.goto 7 (DX9_ofHunter 42 rfl) rfl ?_
      refine r.rel (lo' := [(0, .ref (a 31)), (1, .int x1), (2, .int x2), (3, .int x3), (4, .int v4), (5, .int (v5 + (1 : Int32)))]) [1, 2, 3, 4, 5, 0] rfl ?_
      exact ih v4 (v5 + (1 : Int32)) hxt
    refine r.iload 5 (DX9_ofHunter 14 rfl) rfl ?_
    refine r.iload_n 1 (DX9_ofHunter 15 rfl) rfl ?_
    refine r.icmp_eq 79 (DX9_ofHunter 16 rfl) rfl hxt (fun _ hxt => ?_) (fun _ hxt => ?_)
    · refine r.iinc (v := (v5 + (1 : Int32))) (lo' := [(5, .int (v5 + (1 : Int32))), (0, .ref (a 31)), (1, .int x1), (2, .int x2), (3, .int x3), (4, .int v4)]) 5 (DX9_ofHunter 41 rfl) rfl rfl (Nat.le_of_ble_eq_true rfl) rfl ?_
      refine r.goto 7 (DX9_ofHunter 42 rfl) rfl ?_
      refine r.rel (lo' := [(0, .ref (a 31)), (1, .int x1), (2, .int x2), (3, .int x3), (4, .int v4), (5, .int (v5 + (1 : Int32)))]) [1, 2, 3, 4, 5, 0] rfl ?_
      exact ih v4 (v5 + (1 : Int32)) hxt
    refine r.iload_n 2 (DX9_ofHunter 17 rfl) rfl ?_
    refine r.iload 5 (DX9_ofHunter 18 rfl) rfl ?_
    refine r.aload_n 0 (DX9_ofHunter 19 rfl) rfl ?_
    refine r.get (v := .ref (a 32)) kX9 f_X9_7 rfl 0 rfl rfl (DX9_ofHunter 20 rfl) ?_
    refine r.iconst (v := (1 : Int32)) (DX9_ofHunter 21 rfl) rfl ?_
    obtain ⟨hin, hxt⟩ := xgd_some hxt
    refine r.iald 1 rfl hin (DX9_ofHunter 22 rfl) ?_
    refine r.iconst (v := (1 : Int32)) (DX9_ofHunter 23 rfl) rfl ?_
    refine r.icmp_ne 52 (DX9_ofHunter 24 rfl) rfl hxt (fun _ hxt => ?_) (fun _ hxt => ?_)
    · refine r.iconst (v := (0 : Int32)) (DX9_ofHunter 27 rfl) rfl ?_
      obtain ⟨o_2, ho_2, hxt⟩ := xbd hxt
      refine r.callSI0 (t_X9_isStep E x2 v5 (0 : Int32) ho_2) g_X9_95 rfl (DX9_ofHunter 28 rfl) rfl ⟨(Nat.le_of_ble_eq_true rfl), (Nat.le_of_ble_eq_true rfl)⟩ (Nat.le_of_ble_eq_true rfl) ?_
      refine r.if_eq 79 (DX9_ofHunter 29 rfl) rfl hxt (fun _ hxt => ?_) (fun _ hxt => ?_)
      · refine r.iinc (v := (v5 + (1 : Int32))) (lo' := [(5, .int (v5 + (1 : Int32))), (0, .ref (a 31)), (1, .int x1), (2, .int x2), (3, .int x3), (4, .int v4)]) 5 (DX9_ofHunter 41 rfl) rfl rfl (Nat.le_of_ble_eq_true rfl) rfl ?_
        refine r.goto 7 (DX9_ofHunter 42 rfl) rfl ?_
        refine r.rel (lo' := [(0, .ref (a 31)), (1, .int x1), (2, .int x2), (3, .int x3), (4, .int v4), (5, .int (v5 + (1 : Int32)))]) [1, 2, 3, 4, 5, 0] rfl ?_
        exact ih v4 (v5 + (1 : Int32)) hxt
      refine r.iload 4 (DX9_ofHunter 30 rfl) rfl ?_
      refine r.aload_n 0 (DX9_ofHunter 31 rfl) rfl ?_
      refine r.get (v := .ref (a 38)) kX9 f_X9_29 rfl 0 rfl rfl (DX9_ofHunter 32 rfl) ?_
      refine r.iconst (v := (1 : Int32)) (DX9_ofHunter 33 rfl) rfl ?_
      refine r.iload_n 1 (DX9_ofHunter 34 rfl) rfl ?_
      refine r.iload 5 (DX9_ofHunter 35 rfl) rfl ?_
      refine r.iload_n 3 (DX9_ofHunter 36 rfl) rfl ?_
      obtain ⟨o_3, ho_3, hxt⟩ := xbd hxt
      refine r.callSI0 (t_X9_numberOf E (1 : Int32) x1 v5 x3 ho_3) g_X9_99 rfl (DX9_ofHunter 37 rfl) rfl ⟨(Nat.le_of_ble_eq_true rfl), (Nat.le_of_ble_eq_true rfl)⟩ (Nat.le_of_ble_eq_true rfl) ?_
      obtain ⟨hin, hxt⟩ := xgd_some hxt
      refine r.iald 2 rfl hin (DX9_ofHunter 38 rfl) ?_
      obtain ⟨o_4, ho_4, hxt⟩ := xbd hxt
      refine r.callSI0 (t_X9_nearer E v4 ((hM 38) o_3.toNatClampNeg) ho_4) g_X9_103 rfl (DX9_ofHunter 39 rfl) rfl ⟨(Nat.le_of_ble_eq_true rfl), (Nat.le_of_ble_eq_true rfl)⟩ (Nat.le_of_ble_eq_true rfl) ?_
      refine r.istore (lo' := [(4, .int o_4), (0, .ref (a 31)), (1, .int x1), (2, .int x2), (3, .int x3), (5, .int v5)]) (DX9_ofHunter 40 rfl) (Nat.le_of_ble_eq_true rfl) rfl ?_
      refine r.iinc (v := (v5 + (1 : Int32))) (lo' := [(5, .int (v5 + (1 : Int32))), (4, .int o_4), (0, .ref (a 31)), (1, .int x1), (2, .int x2), (3, .int x3)]) 5 (DX9_ofHunter 41 rfl) rfl rfl (Nat.le_of_ble_eq_true rfl) rfl ?_
      refine r.goto 7 (DX9_ofHunter 42 rfl) rfl ?_
      refine r.rel (lo' := [(0, .ref (a 31)), (1, .int x1), (2, .int x2), (3, .int x3), (4, .int o_4), (5, .int (v5 + (1 : Int32)))]) [2, 3, 4, 5, 1, 0] rfl ?_
      exact ih o_4 (v5 + (1 : Int32)) hxt
    refine r.iconst (v := (1 : Int32)) (DX9_ofHunter 25 rfl) rfl ?_
    refine r.goto 53 (DX9_ofHunter 26 rfl) rfl ?_
    obtain ⟨o_5, ho_5, hxt⟩ := xbd hxt
    refine r.callSI0 (t_X9_isStep E x2 v5 (1 : Int32) ho_5) g_X9_95 rfl (DX9_ofHunter 28 rfl) rfl ⟨(Nat.le_of_ble_eq_true rfl), (Nat.le_of_ble_eq_true rfl)⟩ (Nat.le_of_ble_eq_true rfl) ?_
    refine r.if_eq 79 (DX9_ofHunter 29 rfl) rfl hxt (fun _ hxt => ?_) (fun _ hxt => ?_)
    · refine r.iinc (v := (v5 + (1 : Int32))) (lo' := [(5, .int (v5 + (1 : Int32))), (0, .ref (a 31)), (1, .int x1), (2, .int x2), (3, .int x3), (4, .int v4)]) 5 (DX9_ofHunter 41 rfl) rfl rfl (Nat.le_of_ble_eq_true rfl) rfl ?_
      refine r.goto 7 (DX9_ofHunter 42 rfl) rfl ?_
      refine r.rel (lo' := [(0, .ref (a 31)), (1, .int x1), (2, .int x2), (3, .int x3), (4, .int v4), (5, .int (v5 + (1 : Int32)))]) [1, 2, 3, 4, 5, 0] rfl ?_
      exact ih v4 (v5 + (1 : Int32)) hxt
    refine r.iload 4 (DX9_ofHunter 30 rfl) rfl ?_
    refine r.aload_n 0 (DX9_ofHunter 31 rfl) rfl ?_
    refine r.get (v := .ref (a 38)) kX9 f_X9_29 rfl 0 rfl rfl (DX9_ofHunter 32 rfl) ?_
    refine r.iconst (v := (1 : Int32)) (DX9_ofHunter 33 rfl) rfl ?_
    refine r.iload_n 1 (DX9_ofHunter 34 rfl) rfl ?_
    refine r.iload 5 (DX9_ofHunter 35 rfl) rfl ?_
    refine r.iload_n 3 (DX9_ofHunter 36 rfl) rfl ?_
    obtain ⟨o_6, ho_6, hxt⟩ := xbd hxt
    refine r.callSI0 (t_X9_numberOf E (1 : Int32) x1 v5 x3 ho_6) g_X9_99 rfl (DX9_ofHunter 37 rfl) rfl ⟨(Nat.le_of_ble_eq_true rfl), (Nat.le_of_ble_eq_true rfl)⟩ (Nat.le_of_ble_eq_true rfl) ?_
    obtain ⟨hin, hxt⟩ := xgd_some hxt
    refine r.iald 2 rfl hin (DX9_ofHunter 38 rfl) ?_
    obtain ⟨o_7, ho_7, hxt⟩ := xbd hxt
    refine r.callSI0 (t_X9_nearer E v4 ((hM 38) o_6.toNatClampNeg) ho_7) g_X9_103 rfl (DX9_ofHunter 39 rfl) rfl ⟨(Nat.le_of_ble_eq_true rfl), (Nat.le_of_ble_eq_true rfl)⟩ (Nat.le_of_ble_eq_true rfl) ?_
    refine r.istore (lo' := [(4, .int o_7), (0, .ref (a 31)), (1, .int x1), (2, .int x2), (3, .int x3), (5, .int v5)]) (DX9_ofHunter 40 rfl) (Nat.le_of_ble_eq_true rfl) rfl ?_
    refine r.iinc (v := (v5 + (1 : Int32))) (lo' := [(5, .int (v5 + (1 : Int32))), (4, .int o_7), (0, .ref (a 31)), (1, .int x1), (2, .int x2), (3, .int x3)]) 5 (DX9_ofHunter 41 rfl) rfl rfl (Nat.le_of_ble_eq_true rfl) rfl ?_
    refine r.goto 7 (DX9_ofHunter 42 rfl) rfl ?_
    refine r.rel (lo' := [(0, .ref (a 31)), (1, .int x1), (2, .int x2), (3, .int x3), (4, .int o_7), (5, .int (v5 + (1 : Int32)))]) [2, 3, 4, 5, 1, 0] rfl ?_
    exact ih o_7 (v5 + (1 : Int32)) hxt
set_option maxRecDepth 100000 in
set_option maxHeartbeats 4000000 in
theorem t_X9_ofHunter (E : xE) (a : Nat → Nat) (x1 : Int32) (x2 : Int32) (x3 : Int32) (hM : Mem) {o : Int32} (hxt : xt_X9_ofHunter x1 x2 x3 hM = some o) : xMI (S := Unit) E yX9_ofHunter cX9_ofHunter 6 .int 4 0 0 [.ref (a 31), .int x1, .int x2, .int x3] [(a 31, oX9 a (hM 31)), (a 32, aI E 8 (hM 32)), (a 38, aI E 4096 (hM 38))] (fun _ => o) (fun _ => [(a 31, oX9 a (hM 31)), (a 32, aI E 8 (hM 32)), (a 38, aI E 4096 (hM 38))]) := by
  refine xMI.of (own := RX9) (lo0 := [(0, .ref (a 31)), (1, .int x1), (2, .int x2), (3, .int x3)]) (by decide +kernel) rfl rfl (Nat.le_of_ble_eq_true rfl) (fun V r hret => ?_)
  unfold xt_X9_ofHunter at hxt
  refine r.bipush (v := (-6 : Int32)) (DX9_ofHunter 0 rfl) rfl ?_
  refine r.istore (lo' := [(4, .int (-6 : Int32)), (0, .ref (a 31)), (1, .int x1), (2, .int x2), (3, .int x3)]) (DX9_ofHunter 1 rfl) (Nat.le_of_ble_eq_true rfl) rfl ?_
  refine r.iconst (v := (0 : Int32)) (DX9_ofHunter 2 rfl) rfl ?_
  refine r.istore (lo' := [(5, .int (0 : Int32)), (4, .int (-6 : Int32)), (0, .ref (a 31)), (1, .int x1), (2, .int x2), (3, .int x3)]) (DX9_ofHunter 3 rfl) (Nat.le_of_ble_eq_true rfl) rfl ?_
  refine r.rel (lo' := [(0, .ref (a 31)), (1, .int x1), (2, .int x2), (3, .int x3), (4, .int (-6 : Int32)), (5, .int (0 : Int32))]) [2, 3, 4, 5, 1, 0] rfl ?_
  refine l_X9_ofHunter_7 E a x1 x2 x3 hM r (fun v4_8 hxt => ?_) 10000 (-6 : Int32) (0 : Int32) hxt
  refine r.iload 0 (DX9_ofHunter 43 rfl) rfl ?_
  cases hxt
  exact hret _ _ _ _ (DX9_ofHunter 44 rfl) rfl ⟨(), rfl, rfl⟩
set_option maxRecDepth 100000 in
set_option maxHeartbeats 4000000 in
theorem t_X9_ofHunters (E : xE) (a : Nat → Nat) (x1 : Int32) (x2 : Int32) (hM : Mem) {o : Int32} (hxt : xt_X9_ofHunters x1 x2 hM = some o) : xMI (S := Unit) E yX9_ofHunters cX9_ofHunters 4 .int 5 0 0 [.ref (a 31), .int x1, .int x2] [(a 31, oX9 a (hM 31)), (a 32, aI E 8 (hM 32)), (a 36, aI E 120 (hM 36)), (a 37, aI E 120 (hM 37)), (a 38, aI E 4096 (hM 38))] (fun _ => o) (fun _ => [(a 31, oX9 a (hM 31)), (a 32, aI E 8 (hM 32)), (a 36, aI E 120 (hM 36)), (a 37, aI E 120 (hM 37)), (a 38, aI E 4096 (hM 38))]) := by
  refine xMI.of (own := RX9) (lo0 := [(0, .ref (a 31)), (1, .int x1), (2, .int x2)]) (by decide +kernel) rfl rfl (Nat.le_of_ble_eq_true rfl) (fun V r hret => ?_)
  unfold xt_X9_ofHunters at hxt
  refine r.aload_n 0 (DX9_ofHunters 0 rfl) rfl ?_
  refine r.iload_n 1 (DX9_ofHunters 1 rfl) rfl ?_
  refine r.iload_n 2 (DX9_ofHunters 2 rfl) rfl ?_
  obtain ⟨o_1, ho_1, hxt⟩ := xbd hxt
  refine r.callVI 0 rfl rfl (t_X9_canCatch E a x1 x2 hM ho_1) g_X9_106 rfl (DX9_ofHunters 3 rfl) rfl ⟨(Nat.le_of_ble_eq_true rfl), (Nat.le_of_ble_eq_true rfl)⟩ ⟨(Nat.le_of_ble_eq_true rfl), (Nat.le_of_ble_eq_true rfl)⟩ (Nat.le_of_ble_eq_true rfl) [0, 1, 2, 3] [4] rfl rfl rfl rfl (by decide) [1, 2, 3, 4, 0] rfl (ws2 := fun _ => [(a 31, oX9 a (hM 31)), (a 32, aI E 8 (hM 32)), (a 36, aI E 120 (hM 36)), (a 37, aI E 120 (hM 37)), (a 38, aI E 4096 (hM 38))]) (fun _ => rfl) (fun _ => ?_)
  refine r.if_eq 11 (DX9_ofHunters 4 rfl) rfl hxt (fun _ hxt => ?_) (fun _ hxt => ?_)
  · refine r.aload_n 0 (DX9_ofHunters 7 rfl) rfl ?_
    refine r.iload_n 1 (DX9_ofHunters 8 rfl) rfl ?_
    refine r.aload_n 0 (DX9_ofHunters 9 rfl) rfl ?_
    refine r.get (v := .ref (a 36)) kX9 f_X9_23 rfl 0 rfl rfl (DX9_ofHunters 10 rfl) ?_
    refine r.iload_n 2 (DX9_ofHunters 11 rfl) rfl ?_
    obtain ⟨hin, hxt⟩ := xgd_some hxt
    refine r.iald 2 rfl hin (DX9_ofHunters 12 rfl) ?_
    refine r.aload_n 0 (DX9_ofHunters 13 rfl) rfl ?_
    refine r.get (v := .ref (a 37)) kX9 f_X9_26 rfl 0 rfl rfl (DX9_ofHunters 14 rfl) ?_
    refine r.iload_n 2 (DX9_ofHunters 15 rfl) rfl ?_
    obtain ⟨hin, hxt⟩ := xgd_some hxt
    refine r.iald 3 rfl hin (DX9_ofHunters 16 rfl) ?_
    obtain ⟨o_2, ho_2, hxt⟩ := xbd hxt
    refine r.callVI 0 rfl rfl (t_X9_ofHunter E a x1 ((hM 36) x2.toNatClampNeg) ((hM 37) x2.toNatClampNeg) hM ho_2) g_X9_109 rfl (DX9_ofHunters 17 rfl) rfl ⟨(Nat.le_of_ble_eq_true rfl), (Nat.le_of_ble_eq_true rfl)⟩ ⟨(Nat.le_of_ble_eq_true rfl), (Nat.le_of_ble_eq_true rfl)⟩ (Nat.le_of_ble_eq_true rfl) [0, 1, 4] [2, 3] rfl rfl rfl rfl (by decide) [2, 3, 0, 1, 4] rfl (ws2 := fun _ => [(a 31, oX9 a (hM 31)), (a 32, aI E 8 (hM 32)), (a 36, aI E 120 (hM 36)), (a 37, aI E 120 (hM 37)), (a 38, aI E 4096 (hM 38))]) (fun _ => rfl) (fun _ => ?_)
    refine r.aload_n 0 (DX9_ofHunters 18 rfl) rfl ?_
    refine r.iload_n 1 (DX9_ofHunters 19 rfl) rfl ?_
    refine r.aload_n 0 (DX9_ofHunters 20 rfl) rfl ?_
    refine r.get (v := .ref (a 37)) kX9 f_X9_26 rfl 0 rfl rfl (DX9_ofHunters 21 rfl) ?_
    refine r.iload_n 2 (DX9_ofHunters 22 rfl) rfl ?_
    obtain ⟨hin, hxt⟩ := xgd_some hxt
    refine r.iald 3 rfl hin (DX9_ofHunters 23 rfl) ?_
    refine r.aload_n 0 (DX9_ofHunters 24 rfl) rfl ?_
    refine r.get (v := .ref (a 36)) kX9 f_X9_23 rfl 0 rfl rfl (DX9_ofHunters 25 rfl) ?_
    refine r.iload_n 2 (DX9_ofHunters 26 rfl) rfl ?_
    obtain ⟨hin, hxt⟩ := xgd_some hxt
    refine r.iald 2 rfl hin (DX9_ofHunters 27 rfl) ?_
    obtain ⟨o_3, ho_3, hxt⟩ := xbd hxt
    refine r.callVI 0 rfl rfl (t_X9_ofHunter E a x1 ((hM 37) x2.toNatClampNeg) ((hM 36) x2.toNatClampNeg) hM ho_3) g_X9_109 rfl (DX9_ofHunters 28 rfl) rfl ⟨(Nat.le_of_ble_eq_true rfl), (Nat.le_of_ble_eq_true rfl)⟩ ⟨(Nat.le_of_ble_eq_true rfl), (Nat.le_of_ble_eq_true rfl)⟩ (Nat.le_of_ble_eq_true rfl) [0, 1, 4] [2, 3] rfl rfl rfl rfl (by decide) [2, 3, 0, 1, 4] rfl (ws2 := fun _ => [(a 31, oX9 a (hM 31)), (a 32, aI E 8 (hM 32)), (a 36, aI E 120 (hM 36)), (a 37, aI E 120 (hM 37)), (a 38, aI E 4096 (hM 38))]) (fun _ => rfl) (fun _ => ?_)
    obtain ⟨o_4, ho_4, hxt⟩ := xbd hxt
    refine r.callSI0 (t_X9_nearer E o_2 o_3 ho_4) g_X9_103 rfl (DX9_ofHunters 29 rfl) rfl ⟨(Nat.le_of_ble_eq_true rfl), (Nat.le_of_ble_eq_true rfl)⟩ (Nat.le_of_ble_eq_true rfl) ?_
    refine r.istore_n (lo' := [(3, .int o_4), (0, .ref (a 31)), (1, .int x1), (2, .int x2)]) (DX9_ofHunters 30 rfl) (Nat.le_of_ble_eq_true rfl) rfl ?_
    refine r.aload_n 1 (DX9_ofHunters 31 rfl) rfl ?_
    refine r.get (v := .ref (a 32)) kX9 f_X9_7 rfl 0 rfl rfl (DX9_ofHunters 32 rfl) ?_
    refine r.iconst (v := (2 : Int32)) (DX9_ofHunters 33 rfl) rfl ?_
    obtain ⟨hin, hxt⟩ := xgd_some hxt
    refine r.iald 1 rfl hin (DX9_ofHunters 34 rfl) ?_
    refine r.iconst (v := (1 : Int32)) (DX9_ofHunters 35 rfl) rfl ?_
    refine r.icmp_ne 82 (DX9_ofHunters 36 rfl) rfl hxt (fun _ hxt => ?_) (fun _ hxt => ?_)
    · refine r.iload_n 0 (DX9_ofHunters 50 rfl) rfl ?_
      refine r.istore_n (lo' := [(3, .int o_4), (0, .ref (a 31)), (1, .int x1), (2, .int x2)]) (DX9_ofHunters 51 rfl) (Nat.le_of_ble_eq_true rfl) rfl ?_
      refine r.iload_n 0 (DX9_ofHunters 52 rfl) rfl ?_
      refine r.if_ge 93 (DX9_ofHunters 53 rfl) rfl hxt (fun _ hxt => ?_) (fun _ hxt => ?_)
      · refine r.iload_n 0 (DX9_ofHunters 56 rfl) rfl ?_
        refine r.iconst (v := (1 : Int32)) (DX9_ofHunters 57 rfl) rfl ?_
        refine r.iadd (DX9_ofHunters 58 rfl) ?_
        cases hxt
        exact hret _ _ _ _ (DX9_ofHunters 59 rfl) rfl ⟨(), rfl, rfl⟩
      refine r.bipush (v := (-6 : Int32)) (DX9_ofHunters 54 rfl) rfl ?_
      refine r.goto 96 (DX9_ofHunters 55 rfl) rfl ?_
      cases hxt
      exact hret _ _ _ _ (DX9_ofHunters 59 rfl) rfl ⟨(), rfl, rfl⟩
    refine r.iload_n 0 (DX9_ofHunters 37 rfl) rfl ?_
    refine r.aload_n 1 (DX9_ofHunters 38 rfl) rfl ?_
    refine r.get (v := .ref (a 38)) kX9 f_X9_29 rfl 0 rfl rfl (DX9_ofHunters 39 rfl) ?_
    refine r.sipush (v := (2048 : Int32)) (DX9_ofHunters 40 rfl) rfl ?_
    refine r.sipush (v := (128 : Int32)) (DX9_ofHunters 41 rfl) rfl ?_
    refine r.iload_n 2 (DX9_ofHunters 42 rfl) rfl ?_
    refine r.imul (DX9_ofHunters 43 rfl) ?_
    refine r.iadd (DX9_ofHunters 44 rfl) ?_
    refine r.iload_n 3 (DX9_ofHunters 45 rfl) rfl ?_
    refine r.iadd (DX9_ofHunters 46 rfl) ?_
    obtain ⟨hin, hxt⟩ := xgd_some hxt
    refine r.iald 4 rfl hin (DX9_ofHunters 47 rfl) ?_
    obtain ⟨o_5, ho_5, hxt⟩ := xbd hxt
    refine r.callSI0 (t_X9_nearer E o_4 ((hM 38) (((2048 : Int32) + ((128 : Int32) * x1)) + x2).toNatClampNeg) ho_5) g_X9_103 rfl (DX9_ofHunters 48 rfl) rfl ⟨(Nat.le_of_ble_eq_true rfl), (Nat.le_of_ble_eq_true rfl)⟩ (Nat.le_of_ble_eq_true rfl) ?_
    refine r.goto 83 (DX9_ofHunters 49 rfl) rfl ?_
    refine r.istore_n (lo' := [(3, .int o_5), (0, .ref (a 31)), (1, .int x1), (2, .int x2)]) (DX9_ofHunters 51 rfl) (Nat.le_of_ble_eq_true rfl) rfl ?_
    refine r.iload_n 0 (DX9_ofHunters 52 rfl) rfl ?_
    refine r.if_ge 93 (DX9_ofHunters 53 rfl) rfl hxt (fun _ hxt => ?_) (fun _ hxt => ?_)
    · refine r.iload_n 0 (DX9_ofHunters 56 rfl) rfl ?_
      refine r.iconst (v := (1 : Int32)) (DX9_ofHunters 57 rfl) rfl ?_
      refine r.iadd (DX9_ofHunters 58 rfl) ?_
      cases hxt
      exact hret _ _ _ _ (DX9_ofHunters 59 rfl) rfl ⟨(), rfl, rfl⟩
    refine r.bipush (v := (-6 : Int32)) (DX9_ofHunters 54 rfl) rfl ?_
    refine r.goto 96 (DX9_ofHunters 55 rfl) rfl ?_
    cases hxt
    exact hret _ _ _ _ (DX9_ofHunters 59 rfl) rfl ⟨(), rfl, rfl⟩
  refine r.iconst (v := (1 : Int32)) (DX9_ofHunters 5 rfl) rfl ?_
  cases hxt
  exact hret _ _ _ _ (DX9_ofHunters 6 rfl) rfl ⟨(), rfl, rfl⟩
set_option maxRecDepth 100000 in
set_option maxHeartbeats 4000000 in
theorem l_X9_ofFox_5 (E : xE) (a : Nat → Nat) (x1 : Int32) (x2 : Int32) (hM : Mem) {V : xVT} (r : Rl E RX9 cX9_ofFox (xR 4 0 0) 7 false V) {o : Int32} (hret : RtI cX9_ofFox V .int 0 0 (fun v ws => ∃ u : Unit, v = o ∧ ws = [(a 31, oX9 a (hM 31)), (a 32, aI E 8 (hM 32)), (a 36, aI E 120 (hM 36)), (a 37, aI E 120 (hM 37)), (a 38, aI E 4096 (hM 38))])) {k : Int32 → Option (Int32)} (hk : ∀ (v3 : Int32), k v3 = some o → V 0 0 117 [(3, .int v3)] [] [(a 31, oX9 a (hM 31)), (a 32, aI E 8 (hM 32)), (a 36, aI E 120 (hM 36)), (a 37, aI E 120 (hM 37)), (a 38, aI E 4096 (hM 38))]) : ∀ (n : Nat) (v3 : Int32) (v4 : Int32), xt_X9_ofFox_l5 x1 x2 hM k n v3 v4 = some o → V 0 0 5 [(0, .ref (a 31)), (1, .int x1), (2, .int x2), (3, .int v3), (4, .int v4)] [] [(a 31, oX9 a (hM 31)), (a 32, aI E 8 (hM 32)), (a 36, aI E 120 (hM 36)), (a 37, aI E 120 (hM 37)), (a 38, aI E 4096 (hM 38))] := by
  intro n
  induction n with
  | zero => intro v3 v4 hxt; exact xno hxt
  | succ n ih =>
    intro v3 v4 hxt
    rw [xt_X9_ofFox_l5] at hxt
    refine r.iload 4 (DX9_ofFox_0 4 rfl) rfl ?_
    refine r.bipush (v := (16 : Int32)) (DX9_ofFox_0 5 rfl) rfl ?_
    refine r.icmp_ge 117 (DX9_ofFox_0 6 rfl) rfl hxt (fun _ hxt => ?_) (fun _ hxt => ?_)
    · refine r.rel (lo' := [(3, .int v3)]) [3] rfl ?_
      exact hk v3 hxt
    refine r.aload_n 0 (DX9_ofFox_0 7 rfl) rfl ?_
    refine r.iload 4 (DX9_ofFox_0 8 rfl) rfl ?_
    obtain ⟨o_1, ho_1, hxt⟩ := xbd hxt
    refine r.callVI 0 rfl rfl (t_X9_isFree E a v4 hM ho_1) g_X9_91 rfl (DX9_ofFox_0 9 rfl) rfl ⟨(Nat.le_of_ble_eq_true rfl), (Nat.le_of_ble_eq_true rfl)⟩ ⟨(Nat.le_of_ble_eq_true rfl), (Nat.le_of_ble_eq_true rfl)⟩ (Nat.le_of_ble_eq_true rfl) [0, 1] [2, 3, 4] rfl rfl rfl rfl (by decide) [3, 4, 0, 1, 2] rfl (ws2 := fun _ => [(a 31, oX9 a (hM 31)), (a 32, aI E 8 (hM 32)), (a 36, aI E 120 (hM 36)), (a 37, aI E 120 (hM 37)), (a 38, aI E 4096 (hM 38))]) (fun _ => rfl) (fun _ => ?_)
    refine r.if_eq 71 (DX9_ofFox_0 10 rfl) rfl hxt (fun _ hxt => ?_) (fun _ hxt => ?_)
    · refine r.iconst (v := (0 : Int32)) (DX9_ofFox_0 38 rfl) rfl ?_
      refine r.istore (lo' := [(5, .int (0 : Int32)), (0, .ref (a 31)), (1, .int x1), (2, .int x2), (3, .int v3), (4, .int v4)]) (DX9_ofFox_0 39 rfl) (Nat.le_of_ble_eq_true rfl) rfl ?_
      refine r.iload 0 (DX9_ofFox_0 40 rfl) rfl ?_
      refine r.if_eqT 111 (DX9_ofFox_0 41 rfl) rfl (by decide) ?_
      refine r.iinc (v := (v4 + (1 : Int32))) (lo' := [(4, .int (v4 + (1 : Int32))), (5, .int (0 : Int32)), (0, .ref (a 31)), (1, .int x1), (2, .int x2), (3, .int v3)]) 5 (DX9_ofFox_1 1 rfl) rfl rfl (Nat.le_of_ble_eq_true rfl) rfl ?_
      refine r.goto 5 (DX9_ofFox_1 2 rfl) rfl ?_
      refine r.rel (lo' := [(0, .ref (a 31)), (1, .int x1), (2, .int x2), (3, .int v3), (4, .int (v4 + (1 : Int32)))]) [2, 3, 4, 5, 0] rfl ?_
      exact ih v3 (v4 + (1 : Int32)) hxt
    refine r.iload 4 (DX9_ofFox_0 11 rfl) rfl ?_
    refine r.aload_n 0 (DX9_ofFox_0 12 rfl) rfl ?_
    refine r.get (v := .ref (a 36)) kX9 f_X9_23 rfl 0 rfl rfl (DX9_ofFox_0 13 rfl) ?_
    refine r.iload_n 2 (DX9_ofFox_0 14 rfl) rfl ?_
    obtain ⟨hin, hxt⟩ := xgd_some hxt
    refine r.iald 2 rfl hin (DX9_ofFox_0 15 rfl) ?_
    refine r.icmp_eq 71 (DX9_ofFox_0 16 rfl) rfl hxt (fun _ hxt => ?_) (fun _ hxt => ?_)
    · refine r.iconst (v := (0 : Int32)) (DX9_ofFox_0 38 rfl) rfl ?_
      refine r.istore (lo' := [(5, .int (0 : Int32)), (0, .ref (a 31)), (1, .int x1), (2, .int x2), (3, .int v3), (4, .int v4)]) (DX9_ofFox_0 39 rfl) (Nat.le_of_ble_eq_true rfl) rfl ?_
      refine r.iload 0 (DX9_ofFox_0 40 rfl) rfl ?_
      refine r.if_eqT 111 (DX9_ofFox_0 41 rfl) rfl (by decide) ?_
      refine r.iinc (v := (v4 + (1 : Int32))) (lo' := [(4, .int (v4 + (1 : Int32))), (5, .int (0 : Int32)), (0, .ref (a 31)), (1, .int x1), (2, .int x2), (3, .int v3)]) 5 (DX9_ofFox_1 1 rfl) rfl rfl (Nat.le_of_ble_eq_true rfl) rfl ?_
      refine r.goto 5 (DX9_ofFox_1 2 rfl) rfl ?_
      refine r.rel (lo' := [(0, .ref (a 31)), (1, .int x1), (2, .int x2), (3, .int v3), (4, .int (v4 + (1 : Int32)))]) [2, 3, 4, 5, 0] rfl ?_
      exact ih v3 (v4 + (1 : Int32)) hxt
    refine r.iload 4 (DX9_ofFox_0 17 rfl) rfl ?_
    refine r.aload_n 0 (DX9_ofFox_0 18 rfl) rfl ?_
    refine r.get (v := .ref (a 37)) kX9 f_X9_26 rfl 0 rfl rfl (DX9_ofFox_0 19 rfl) ?_
    refine r.iload_n 2 (DX9_ofFox_0 20 rfl) rfl ?_
    obtain ⟨hin, hxt⟩ := xgd_some hxt
    refine r.iald 3 rfl hin (DX9_ofFox_0 21 rfl) ?_
    refine r.icmp_eq 71 (DX9_ofFox_0 22 rfl) rfl hxt (fun _ hxt => ?_) (fun _ hxt => ?_)
    · refine r.iconst (v := (0 : Int32)) (DX9_ofFox_0 38 rfl) rfl ?_
      refine r.istore (lo' := [(5, .int (0 : Int32)), (0, .ref (a 31)), (1, .int x1), (2, .int x2), (3, .int v3), (4, .int v4)]) (DX9_ofFox_0 39 rfl) (Nat.le_of_ble_eq_true rfl) rfl ?_
      refine r.iload 0 (DX9_ofFox_0 40 rfl) rfl ?_
      refine r.if_eqT 111 (DX9_ofFox_0 41 rfl) rfl (by decide) ?_
      refine r.iinc (v := (v4 + (1 : Int32))) (lo' := [(4, .int (v4 + (1 : Int32))), (5, .int (0 : Int32)), (0, .ref (a 31)), (1, .int x1), (2, .int x2), (3, .int v3)]) 5 (DX9_ofFox_1 1 rfl) rfl rfl (Nat.le_of_ble_eq_true rfl) rfl ?_
      refine r.goto 5 (DX9_ofFox_1 2 rfl) rfl ?_
      refine r.rel (lo' := [(0, .ref (a 31)), (1, .int x1), (2, .int x2), (3, .int v3), (4, .int (v4 + (1 : Int32)))]) [2, 3, 4, 5, 0] rfl ?_
      exact ih v3 (v4 + (1 : Int32)) hxt
    refine r.iload_n 1 (DX9_ofFox_0 23 rfl) rfl ?_
    refine r.iload 4 (DX9_ofFox_0 24 rfl) rfl ?_
    refine r.aload_n 0 (DX9_ofFox_0 25 rfl) rfl ?_
    refine r.get (v := .ref (a 32)) kX9 f_X9_7 rfl 0 rfl rfl (DX9_ofFox_0 26 rfl) ?_
    refine r.iconst (v := (0 : Int32)) (DX9_ofFox_0 27 rfl) rfl ?_
    obtain ⟨hin, hxt⟩ := xgd_some hxt
    refine r.iald 1 rfl hin (DX9_ofFox_0 28 rfl) ?_
    refine r.iconst (v := (1 : Int32)) (DX9_ofFox_0 29 rfl) rfl ?_
    refine r.icmp_ne 60 (DX9_ofFox_0 30 rfl) rfl hxt (fun _ hxt => ?_) (fun _ hxt => ?_)
    · refine r.iconst (v := (0 : Int32)) (DX9_ofFox_0 33 rfl) rfl ?_
      obtain ⟨o_2, ho_2, hxt⟩ := xbd hxt
      refine r.callSI0 (t_X9_isStep E x1 v4 (0 : Int32) ho_2) g_X9_95 rfl (DX9_ofFox_0 34 rfl) rfl ⟨(Nat.le_of_ble_eq_true rfl), (Nat.le_of_ble_eq_true rfl)⟩ (Nat.le_of_ble_eq_true rfl) ?_
      refine r.if_eq 71 (DX9_ofFox_0 35 rfl) rfl hxt (fun _ hxt => ?_) (fun _ hxt => ?_)
      · refine r.iconst (v := (0 : Int32)) (DX9_ofFox_0 38 rfl) rfl ?_
        refine r.istore (lo' := [(5, .int (0 : Int32)), (0, .ref (a 31)), (1, .int x1), (2, .int x2), (3, .int v3), (4, .int v4)]) (DX9_ofFox_0 39 rfl) (Nat.le_of_ble_eq_true rfl) rfl ?_
        refine r.iload 0 (DX9_ofFox_0 40 rfl) rfl ?_
        refine r.if_eqT 111 (DX9_ofFox_0 41 rfl) rfl (by decide) ?_
        refine r.iinc (v := (v4 + (1 : Int32))) (lo' := [(4, .int (v4 + (1 : Int32))), (5, .int (0 : Int32)), (0, .ref (a 31)), (1, .int x1), (2, .int x2), (3, .int v3)]) 5 (DX9_ofFox_1 1 rfl) rfl rfl (Nat.le_of_ble_eq_true rfl) rfl ?_
        refine r.goto 5 (DX9_ofFox_1 2 rfl) rfl ?_
        refine r.rel (lo' := [(0, .ref (a 31)), (1, .int x1), (2, .int x2), (3, .int v3), (4, .int (v4 + (1 : Int32)))]) [2, 3, 4, 5, 0] rfl ?_
        exact ih v3 (v4 + (1 : Int32)) hxt
      refine r.iconst (v := (1 : Int32)) (DX9_ofFox_0 36 rfl) rfl ?_
      refine r.goto 72 (DX9_ofFox_0 37 rfl) rfl ?_
      refine r.istore (lo' := [(5, .int (1 : Int32)), (0, .ref (a 31)), (1, .int x1), (2, .int x2), (3, .int v3), (4, .int v4)]) (DX9_ofFox_0 39 rfl) (Nat.le_of_ble_eq_true rfl) rfl ?_
      refine r.iload 0 (DX9_ofFox_0 40 rfl) rfl ?_
      refine r.if_eqF 111 (DX9_ofFox_0 41 rfl) rfl (by decide) ?_
      refine r.aload_n 1 (DX9_ofFox_0 42 rfl) rfl ?_
      refine r.get (v := .ref (a 38)) kX9 f_X9_29 rfl 0 rfl rfl (DX9_ofFox_0 43 rfl) ?_
      refine r.sipush (v := (128 : Int32)) (DX9_ofFox_0 44 rfl) rfl ?_
      refine r.iload 5 (DX9_ofFox_0 45 rfl) rfl ?_
      refine r.imul (DX9_ofFox_0 46 rfl) ?_
      refine r.iload_n 3 (DX9_ofFox_0 47 rfl) rfl ?_
      refine r.iadd (DX9_ofFox_0 48 rfl) ?_
      obtain ⟨hin, hxt⟩ := xgd_some hxt
      refine r.iald 4 rfl hin (DX9_ofFox_0 49 rfl) ?_
      refine r.istore (lo' := [(6, .int ((hM 38) (((128 : Int32) * v4) + x2).toNatClampNeg)), (5, .int (1 : Int32)), (0, .ref (a 31)), (1, .int x1), (2, .int x2), (3, .int v3), (4, .int v4)]) (DX9_ofFox_0 50 rfl) (Nat.le_of_ble_eq_true rfl) rfl ?_
      refine r.iload 0 (DX9_ofFox_0 51 rfl) rfl ?_
      refine r.if_ge 102 (DX9_ofFox_0 52 rfl) rfl hxt (fun _ hxt => ?_) (fun _ hxt => ?_)
      · refine r.iload_n 5 (DX9_ofFox_0 55 rfl) rfl ?_
        refine r.iload 0 (DX9_ofFox_0 56 rfl) rfl ?_
        refine r.iconst (v := (1 : Int32)) (DX9_ofFox_0 57 rfl) rfl ?_
        refine r.iadd (DX9_ofFox_0 58 rfl) ?_
        obtain ⟨o_3, ho_3, hxt⟩ := xbd hxt
        refine r.callSI0 (t_X9_greater E v3 (((hM 38) (((128 : Int32) * v4) + x2).toNatClampNeg) + (1 : Int32)) ho_3) g_X9_85 rfl (DX9_ofFox_0 59 rfl) rfl ⟨(Nat.le_of_ble_eq_true rfl), (Nat.le_of_ble_eq_true rfl)⟩ (Nat.le_of_ble_eq_true rfl) ?_
        refine r.istore_n (lo' := [(3, .int o_3), (6, .int ((hM 38) (((128 : Int32) * v4) + x2).toNatClampNeg)), (5, .int (1 : Int32)), (0, .ref (a 31)), (1, .int x1), (2, .int x2), (4, .int v4)]) (DX9_ofFox_1 0 rfl) (Nat.le_of_ble_eq_true rfl) rfl ?_
        refine r.iinc (v := (v4 + (1 : Int32))) (lo' := [(4, .int (v4 + (1 : Int32))), (3, .int o_3), (6, .int ((hM 38) (((128 : Int32) * v4) + x2).toNatClampNeg)), (5, .int (1 : Int32)), (0, .ref (a 31)), (1, .int x1), (2, .int x2)]) 6 (DX9_ofFox_1 1 rfl) rfl rfl (Nat.le_of_ble_eq_true rfl) rfl ?_
        refine r.goto 5 (DX9_ofFox_1 2 rfl) rfl ?_
        refine r.rel (lo' := [(0, .ref (a 31)), (1, .int x1), (2, .int x2), (3, .int o_3), (4, .int (v4 + (1 : Int32)))]) [4, 5, 6, 1, 0] rfl ?_
        exact ih o_3 (v4 + (1 : Int32)) hxt
      refine r.bipush (v := (-6 : Int32)) (DX9_ofFox_0 53 rfl) rfl ?_
      cases hxt
      exact hret _ _ _ _ (DX9_ofFox_0 54 rfl) rfl ⟨(), rfl, rfl⟩
    refine r.iconst (v := (1 : Int32)) (DX9_ofFox_0 31 rfl) rfl ?_
    refine r.goto 61 (DX9_ofFox_0 32 rfl) rfl ?_
    obtain ⟨o_4, ho_4, hxt⟩ := xbd hxt
    refine r.callSI0 (t_X9_isStep E x1 v4 (1 : Int32) ho_4) g_X9_95 rfl (DX9_ofFox_0 34 rfl) rfl ⟨(Nat.le_of_ble_eq_true rfl), (Nat.le_of_ble_eq_true rfl)⟩ (Nat.le_of_ble_eq_true rfl) ?_
    refine r.if_eq 71 (DX9_ofFox_0 35 rfl) rfl hxt (fun _ hxt => ?_) (fun _ hxt => ?_)
    · refine r.iconst (v := (0 : Int32)) (DX9_ofFox_0 38 rfl) rfl ?_
      refine r.istore (lo' := [(5, .int (0 : Int32)), (0, .ref (a 31)), (1, .int x1), (2, .int x2), (3, .int v3), (4, .int v4)]) (DX9_ofFox_0 39 rfl) (Nat.le_of_ble_eq_true rfl) rfl ?_
      refine r.iload 0 (DX9_ofFox_0 40 rfl) rfl ?_
      refine r.if_eqT 111 (DX9_ofFox_0 41 rfl) rfl (by decide) ?_
      refine r.iinc (v := (v4 + (1 : Int32))) (lo' := [(4, .int (v4 + (1 : Int32))), (5, .int (0 : Int32)), (0, .ref (a 31)), (1, .int x1), (2, .int x2), (3, .int v3)]) 5 (DX9_ofFox_1 1 rfl) rfl rfl (Nat.le_of_ble_eq_true rfl) rfl ?_
      refine r.goto 5 (DX9_ofFox_1 2 rfl) rfl ?_
      refine r.rel (lo' := [(0, .ref (a 31)), (1, .int x1), (2, .int x2), (3, .int v3), (4, .int (v4 + (1 : Int32)))]) [2, 3, 4, 5, 0] rfl ?_
      exact ih v3 (v4 + (1 : Int32)) hxt
    refine r.iconst (v := (1 : Int32)) (DX9_ofFox_0 36 rfl) rfl ?_
    refine r.goto 72 (DX9_ofFox_0 37 rfl) rfl ?_
    refine r.istore (lo' := [(5, .int (1 : Int32)), (0, .ref (a 31)), (1, .int x1), (2, .int x2), (3, .int v3), (4, .int v4)]) (DX9_ofFox_0 39 rfl) (Nat.le_of_ble_eq_true rfl) rfl ?_
    refine r.iload 0 (DX9_ofFox_0 40 rfl) rfl ?_
    refine r.if_eqF 111 (DX9_ofFox_0 41 rfl) rfl (by decide) ?_
    refine r.aload_n 1 (DX9_ofFox_0 42 rfl) rfl ?_
    refine r.get (v := .ref (a 38)) kX9 f_X9_29 rfl 0 rfl rfl (DX9_ofFox_0 43 rfl) ?_
    refine r.sipush (v := (128 : Int32)) (DX9_ofFox_0 44 rfl) rfl ?_
    refine r.iload 5 (DX9_ofFox_0 45 rfl) rfl ?_
    refine r.imul (DX9_ofFox_0 46 rfl) ?_
    refine r.iload_n 3 (DX9_ofFox_0 47 rfl) rfl ?_
    refine r.iadd (DX9_ofFox_0 48 rfl) ?_
    obtain ⟨hin, hxt⟩ := xgd_some hxt
    refine r.iald 4 rfl hin (DX9_ofFox_0 49 rfl) ?_
    refine r.istore (lo' := [(6, .int ((hM 38) (((128 : Int32) * v4) + x2).toNatClampNeg)), (5, .int (1 : Int32)), (0, .ref (a 31)), (1, .int x1), (2, .int x2), (3, .int v3), (4, .int v4)]) (DX9_ofFox_0 50 rfl) (Nat.le_of_ble_eq_true rfl) rfl ?_
    refine r.iload 0 (DX9_ofFox_0 51 rfl) rfl ?_
    refine r.if_ge 102 (DX9_ofFox_0 52 rfl) rfl hxt (fun _ hxt => ?_) (fun _ hxt => ?_)
    · refine r.iload_n 5 (DX9_ofFox_0 55 rfl) rfl ?_
      refine r.iload 0 (DX9_ofFox_0 56 rfl) rfl ?_
      refine r.iconst (v := (1 : Int32)) (DX9_ofFox_0 57 rfl) rfl ?_
      refine r.iadd (DX9_ofFox_0 58 rfl) ?_
      obtain ⟨o_5, ho_5, hxt⟩ := xbd hxt
      refine r.callSI0 (t_X9_greater E v3 (((hM 38) (((128 : Int32) * v4) + x2).toNatClampNeg) + (1 : Int32)) ho_5) g_X9_85 rfl (DX9_ofFox_0 59 rfl) rfl ⟨(Nat.le_of_ble_eq_true rfl), (Nat.le_of_ble_eq_true rfl)⟩ (Nat.le_of_ble_eq_true rfl) ?_
      refine r.istore_n (lo' := [(3, .int o_5), (6, .int ((hM 38) (((128 : Int32) * v4) + x2).toNatClampNeg)), (5, .int (1 : Int32)), (0, .ref (a 31)), (1, .int x1), (2, .int x2), (4, .int v4)]) (DX9_ofFox_1 0 rfl) (Nat.le_of_ble_eq_true rfl) rfl ?_
      refine r.iinc (v := (v4 + (1 : Int32))) (lo' := [(4, .int (v4 + (1 : Int32))), (3, .int o_5), (6, .int ((hM 38) (((128 : Int32) * v4) + x2).toNatClampNeg)), (5, .int (1 : Int32)), (0, .ref (a 31)), (1, .int x1), (2, .int x2)]) 6 (DX9_ofFox_1 1 rfl) rfl rfl (Nat.le_of_ble_eq_true rfl) rfl ?_
      refine r.goto 5 (DX9_ofFox_1 2 rfl) rfl ?_
      refine r.rel (lo' := [(0, .ref (a 31)), (1, .int x1), (2, .int x2), (3, .int o_5), (4, .int (v4 + (1 : Int32)))]) [4, 5, 6, 1, 0] rfl ?_
      exact ih o_5 (v4 + (1 : Int32)) hxt
    refine r.bipush (v := (-6 : Int32)) (DX9_ofFox_0 53 rfl) rfl ?_
    cases hxt
    exact hret _ _ _ _ (DX9_ofFox_0 54 rfl) rfl ⟨(), rfl, rfl⟩
