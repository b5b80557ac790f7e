set_option maxRecDepth 100000 in
set_option maxHeartbeats 4000000 in
theorem t_J9_abs_0f7a4 (E : xE) (x0 : Int32) {o : Int32} (hxt : xt_J9_abs_0f7a4 x0 = some o) : xMI (S := Unit) E yJ9_abs_0f7a4 cJ9_abs_0f7a4 1 .int 0 0 0 [.int x0] [] (fun _ => o) (fun _ => []) := by
  refine xMI.of (own := RJ9) (lo0 := [(0, .int x0)]) (by decide +kernel) rfl rfl (Nat.le_of_ble_eq_true rfl) (fun V r hret => ?_)
  unfold xt_J9_abs_0f7a4 at hxt
  refine r.iload_n 0 (DJ9_abs_0f7a4 0 rfl) rfl ?_
  refine r.if_ge 9 (DJ9_abs_0f7a4 1 rfl) rfl hxt (fun _ hxt => ?_) (fun _ hxt => ?_)
  · refine r.iload_n 0 (DJ9_abs_0f7a4 5 rfl) rfl ?_
    cases hxt
    exact hret _ _ _ _ (DJ9_abs_0f7a4 6 rfl) rfl ⟨(), rfl, rfl⟩
  refine r.iload_n 0 (DJ9_abs_0f7a4 2 rfl) rfl ?_
  refine r.ineg (DJ9_abs_0f7a4 3 rfl) ?_
  refine r.goto 10 (DJ9_abs_0f7a4 4 rfl) rfl ?_
  cases hxt
  exact hret _ _ _ _ (DJ9_abs_0f7a4 6 rfl) rfl ⟨(), rfl, rfl⟩
set_option maxRecDepth 100000 in
set_option maxHeartbeats 4000000 in
theorem t_X3_far (E : xE) (x0 : Int32) (x1 : Int32) {o : Int32} (hxt : xt_X3_far x0 x1 = some o) : xMI (S := Unit) E yX3_far cX3_far 2 .int 1 0 0 [.int x0, .int x1] [] (fun _ => o) (fun _ => []) := by
  refine xMI.of (own := RX3) (lo0 := [(0, .int x0), (1, .int x1)]) (by decide +kernel) rfl rfl (Nat.le_of_ble_eq_true rfl) (fun V r hret => ?_)
  unfold xt_X3_far at hxt
  refine r.iload_n 0 (DX3_far 0 rfl) rfl ?_
  refine r.iconst (v := (4 : Int32)) (DX3_far 1 rfl) rfl ?_
  refine r.idiv (DX3_far 2 rfl) (by decide) ?_
  refine r.iload_n 1 (DX3_far 3 rfl) rfl ?_
  refine r.iconst (v := (4 : Int32)) (DX3_far 4 rfl) rfl ?_
  refine r.idiv (DX3_far 5 rfl) (by decide) ?_
  refine r.isub (DX3_far 6 rfl) ?_
  obtain ⟨o_1, ho_1, hxt⟩ := xbd hxt
  refine r.callSI0 (t_J9_abs_0f7a4 E ((x0 / (4 : Int32)) - (x1 / (4 : Int32))) ho_1) g_X3_44 rfl (DX3_far 7 rfl) rfl ⟨(Nat.le_of_ble_eq_true rfl), (Nat.le_of_ble_eq_true rfl)⟩ (Nat.le_of_ble_eq_true rfl) ?_
  refine r.iload_n 0 (DX3_far 8 rfl) rfl ?_
  refine r.iconst (v := (4 : Int32)) (DX3_far 9 rfl) rfl ?_
  refine r.irem (DX3_far 10 rfl) (by decide) ?_
  refine r.iload_n 1 (DX3_far 11 rfl) rfl ?_
  refine r.iconst (v := (4 : Int32)) (DX3_far 12 rfl) rfl ?_
  refine r.irem (DX3_far 13 rfl) (by decide) ?_
  refine r.isub (DX3_far 14 rfl) ?_
  obtain ⟨o_2, ho_2, hxt⟩ := xbd hxt
  refine r.callSI0 (t_J9_abs_0f7a4 E ((x0 - x0 / (4 : Int32) * (4 : Int32)) - (x1 - x1 / (4 : Int32) * (4 : Int32))) ho_2) g_X3_44 rfl (DX3_far 15 rfl) rfl ⟨(Nat.le_of_ble_eq_true rfl), (Nat.le_of_ble_eq_true rfl)⟩ (Nat.le_of_ble_eq_true rfl) ?_
  refine r.iadd (DX3_far 16 rfl) ?_
  cases hxt
  exact hret _ _ _ _ (DX3_far 17 rfl) rfl ⟨(), rfl, rfl⟩
set_option maxRecDepth 100000 in
set_option maxHeartbeats 4000000 in
theorem l_X3_fillSteps_10 (E : xE) (a : Nat → Nat) (x1 : Int32) (hM : Mem) {V : xVT} (r : Rl E RX3 cX3_fillSteps (xR 2 0 0) 4 false V) {o : Mem} {k : Mem → Option (Mem)} (hk : ∀ (mM : Mem), k mM = some o → V 0 0 83 [(0, .ref (a 1)), (1, .int x1)] [] [(a 1, oX3 a), (a 2, aI E 16 (mM 2)), (a 3, aI E 16 (mM 3))]) : ∀ (n : Nat) (v2 : Int32) (mM : Mem), xt_X3_fillSteps_l10 x1 hM k n v2 mM = some o → V 0 0 10 [(0, .ref (a 1)), (1, .int x1), (2, .int v2)] [] [(a 1, oX3 a), (a 2, aI E 16 (mM 2)), (a 3, aI E 16 (mM 3))] := by
  intro n
  induction n with
  | zero => intro v2 mM hxt; exact xno hxt
  | succ n ih =>
    intro v2 mM hxt
    rw [xt_X3_fillSteps_l10] at hxt
    refine r.iload_n 2 (DX3_fillSteps 7 rfl) rfl ?_
    refine r.bipush (v := (16 : Int32)) (DX3_fillSteps 8 rfl) rfl ?_
    refine r.icmp_ge 83 (DX3_fillSteps 9 rfl) rfl hxt (fun _ hxt => ?_) (fun _ hxt => ?_)
    · refine r.rel (lo' := [(0, .ref (a 1)), (1, .int x1)]) [0, 1] rfl ?_
      exact hk (mgs hM [2, 3] mM) hxt
    refine r.iload_n 1 (DX3_fillSteps 10 rfl) rfl ?_
    refine r.iload_n 2 (DX3_fillSteps 11 rfl) rfl ?_
    obtain ⟨o_1, ho_1, hxt⟩ := xbd hxt
    refine r.callSI0 (t_X3_far E x1 v2 ho_1) g_X3_40 rfl (DX3_fillSteps 12 rfl) rfl ⟨(Nat.le_of_ble_eq_true rfl), (Nat.le_of_ble_eq_true rfl)⟩ (Nat.le_of_ble_eq_true rfl) ?_
    refine r.istore_n (lo' := [(3, .int o_1), (0, .ref (a 1)), (1, .int x1), (2, .int v2)]) (DX3_fillSteps 13 rfl) (Nat.le_of_ble_eq_true rfl) rfl ?_
    refine r.iload_n 0 (DX3_fillSteps 14 rfl) rfl ?_
    refine r.iconst (v := (1 : Int32)) (DX3_fillSteps 15 rfl) rfl ?_
    refine r.icmp_ne 42 (DX3_fillSteps 16 rfl) rfl hxt (fun _ hxt => ?_) (fun _ hxt => ?_)
    · refine r.iload_n 0 (DX3_fillSteps 28 rfl) rfl ?_
      refine r.iconst (v := (2 : Int32)) (DX3_fillSteps 29 rfl) rfl ?_
      refine r.icmp_ne 77 (DX3_fillSteps 30 rfl) rfl hxt (fun _ hxt => ?_) (fun _ hxt => ?_)
      · refine r.iinc (v := (v2 + (1 : Int32))) (lo' := [(2, .int (v2 + (1 : Int32))), (3, .int o_1), (0, .ref (a 1)), (1, .int x1)]) 3 (DX3_fillSteps 55 rfl) rfl rfl (Nat.le_of_ble_eq_true rfl) rfl ?_
        refine r.goto 10 (DX3_fillSteps 56 rfl) rfl ?_
        refine r.rel (lo' := [(0, .ref (a 1)), (1, .int x1), (2, .int (v2 + (1 : Int32)))]) [2, 3, 0] rfl ?_
        exact ih (v2 + (1 : Int32)) (mgs hM [2, 3] mM) hxt
      refine r.iload_n 2 (DX3_fillSteps 31 rfl) rfl ?_
      refine r.iconst (v := (4 : Int32)) (DX3_fillSteps 32 rfl) rfl ?_
      refine r.idiv (DX3_fillSteps 33 rfl) (by decide) ?_
      refine r.iload_n 3 (DX3_fillSteps 34 rfl) rfl ?_
      refine r.iconst (v := (4 : Int32)) (DX3_fillSteps 35 rfl) rfl ?_
      refine r.idiv (DX3_fillSteps 36 rfl) (by decide) ?_
      refine r.icmp_eq 77 (DX3_fillSteps 37 rfl) rfl hxt (fun _ hxt => ?_) (fun _ hxt => ?_)
      · refine r.iinc (v := (v2 + (1 : Int32))) (lo' := [(2, .int (v2 + (1 : Int32))), (3, .int o_1), (0, .ref (a 1)), (1, .int x1)]) 3 (DX3_fillSteps 55 rfl) rfl rfl (Nat.le_of_ble_eq_true rfl) rfl ?_
        refine r.goto 10 (DX3_fillSteps 56 rfl) rfl ?_
        refine r.rel (lo' := [(0, .ref (a 1)), (1, .int x1), (2, .int (v2 + (1 : Int32)))]) [2, 3, 0] rfl ?_
        exact ih (v2 + (1 : Int32)) (mgs hM [2, 3] mM) hxt
      refine r.iload_n 2 (DX3_fillSteps 38 rfl) rfl ?_
      refine r.iconst (v := (4 : Int32)) (DX3_fillSteps 39 rfl) rfl ?_
      refine r.irem (DX3_fillSteps 40 rfl) (by decide) ?_
      refine r.iload_n 3 (DX3_fillSteps 41 rfl) rfl ?_
      refine r.iconst (v := (4 : Int32)) (DX3_fillSteps 42 rfl) rfl ?_
      refine r.irem (DX3_fillSteps 43 rfl) (by decide) ?_
      refine r.icmp_eq 77 (DX3_fillSteps 44 rfl) rfl hxt (fun _ hxt => ?_) (fun _ hxt => ?_)
      · refine r.iinc (v := (v2 + (1 : Int32))) (lo' := [(2, .int (v2 + (1 : Int32))), (3, .int o_1), (0, .ref (a 1)), (1, .int x1)]) 3 (DX3_fillSteps 55 rfl) rfl rfl (Nat.le_of_ble_eq_true rfl) rfl ?_
        refine r.goto 10 (DX3_fillSteps 56 rfl) rfl ?_
        refine r.rel (lo' := [(0, .ref (a 1)), (1, .int x1), (2, .int (v2 + (1 : Int32)))]) [2, 3, 0] rfl ?_
        exact ih (v2 + (1 : Int32)) (mgs hM [2, 3] mM) hxt
      refine r.aload_n 1 (DX3_fillSteps 45 rfl) rfl ?_
      refine r.get (v := .ref (a 3)) kX3 f_X3_13 rfl 0 rfl rfl (DX3_fillSteps 46 rfl) ?_
      refine r.iload_n 2 (DX3_fillSteps 47 rfl) rfl ?_
      refine r.dup2 (DX3_fillSteps 48 rfl) rfl rfl ?_
      obtain ⟨hin, hxt⟩ := xgd_some hxt
      refine r.iald 2 rfl hin (DX3_fillSteps 49 rfl) ?_
      refine r.iconst (v := (1 : Int32)) (DX3_fillSteps 50 rfl) rfl ?_
      refine r.iload_n 3 (DX3_fillSteps 51 rfl) rfl ?_
      refine r.ishl (DX3_fillSteps 52 rfl) ?_
      refine r.ior (DX3_fillSteps 53 rfl) ?_
      obtain ⟨hin, hxt⟩ := xgd_some hxt
      refine r.iast (ws' := [(a 1, oX3 a), (a 2, aI E 16 (mM 2)), (a 3, aI E 16 (upd (mM 3) x1.toNatClampNeg (((mM 3) x1.toNatClampNeg) ||| ((1 : Int32) <<< (v2 &&& 31)))))]) 2 rfl hin rfl (DX3_fillSteps 54 rfl) ?_
      refine r.iinc (v := (v2 + (1 : Int32))) (lo' := [(2, .int (v2 + (1 : Int32))), (3, .int o_1), (0, .ref (a 1)), (1, .int x1)]) 3 (DX3_fillSteps 55 rfl) rfl rfl (Nat.le_of_ble_eq_true rfl) rfl ?_
      refine r.goto 10 (DX3_fillSteps 56 rfl) rfl ?_
      refine r.rel (lo' := [(0, .ref (a 1)), (1, .int x1), (2, .int (v2 + (1 : Int32)))]) [2, 3, 0] rfl ?_
      exact ih (v2 + (1 : Int32)) (mgs (mset hM 3 (upd (mM 3) x1.toNatClampNeg (((mM 3) x1.toNatClampNeg) ||| ((1 : Int32) <<< (v2 &&& 31))))) [2] mM) hxt
    refine r.aload_n 1 (DX3_fillSteps 17 rfl) rfl ?_
    refine r.get (v := .ref (a 2)) kX3 f_X3_9 rfl 0 rfl rfl (DX3_fillSteps 18 rfl) ?_
    refine r.iload_n 2 (DX3_fillSteps 19 rfl) rfl ?_
    refine r.dup2 (DX3_fillSteps 20 rfl) rfl rfl ?_
    obtain ⟨hin, hxt⟩ := xgd_some hxt
    refine r.iald 1 rfl hin (DX3_fillSteps 21 rfl) ?_
    refine r.iconst (v := (1 : Int32)) (DX3_fillSteps 22 rfl) rfl ?_
    refine r.iload_n 3 (DX3_fillSteps 23 rfl) rfl ?_
    refine r.ishl (DX3_fillSteps 24 rfl) ?_
    refine r.ior (DX3_fillSteps 25 rfl) ?_
    obtain ⟨hin, hxt⟩ := xgd_some hxt
    refine r.iast (ws' := [(a 1, oX3 a), (a 2, aI E 16 (upd (mM 2) x1.toNatClampNeg (((mM 2) x1.toNatClampNeg) ||| ((1 : Int32) <<< (v2 &&& 31))))), (a 3, aI E 16 (mM 3))]) 1 rfl hin rfl (DX3_fillSteps 26 rfl) ?_
    refine r.goto 77 (DX3_fillSteps 27 rfl) rfl ?_
    refine r.iinc (v := (v2 + (1 : Int32))) (lo' := [(2, .int (v2 + (1 : Int32))), (3, .int o_1), (0, .ref (a 1)), (1, .int x1)]) 3 (DX3_fillSteps 55 rfl) rfl rfl (Nat.le_of_ble_eq_true rfl) rfl ?_
    refine r.goto 10 (DX3_fillSteps 56 rfl) rfl ?_
    refine r.rel (lo' := [(0, .ref (a 1)), (1, .int x1), (2, .int (v2 + (1 : Int32)))]) [2, 3, 0] rfl ?_
    exact ih (v2 + (1 : Int32)) (mgs (mset hM 2 (upd (mM 2) x1.toNatClampNeg (((mM 2) x1.toNatClampNeg) ||| ((1 : Int32) <<< (v2 &&& 31))))) [3] mM) hxt
set_option maxRecDepth 100000 in
set_option maxHeartbeats 4000000 in
theorem l_X3_fillSteps_2 (E : xE) (a : Nat → Nat) (hM : Mem) {V : xVT} (r : Rl E RX3 cX3_fillSteps (xR 2 0 0) 4 false V) {o : Mem} {k : Mem → Option (Mem)} (hk : ∀ (mM : Mem), k mM = some o → V 0 0 89 [] [] [(a 1, oX3 a), (a 2, aI E 16 (mM 2)), (a 3, aI E 16 (mM 3))]) : ∀ (n : Nat) (v1 : Int32) (mM : Mem), xt_X3_fillSteps_l2 hM k n v1 mM = some o → V 0 0 2 [(0, .ref (a 1)), (1, .int v1)] [] [(a 1, oX3 a), (a 2, aI E 16 (mM 2)), (a 3, aI E 16 (mM 3))] := by
  intro n
  induction n with
  | zero => intro v1 mM hxt; exact xno hxt
  | succ n ih =>
    intro v1 mM hxt
    rw [xt_X3_fillSteps_l2] at hxt
    refine r.iload_n 1 (DX3_fillSteps 2 rfl) rfl ?_
    refine r.bipush (v := (16 : Int32)) (DX3_fillSteps 3 rfl) rfl ?_
    refine r.icmp_ge 89 (DX3_fillSteps 4 rfl) rfl hxt (fun _ hxt => ?_) (fun _ hxt => ?_)
    · refine r.rel (lo' := []) [] rfl ?_
      exact hk (mgs hM [2, 3] mM) hxt
    refine r.iconst (v := (0 : Int32)) (DX3_fillSteps 5 rfl) rfl ?_
    refine r.istore_n (lo' := [(2, .int (0 : Int32)), (0, .ref (a 1)), (1, .int v1)]) (DX3_fillSteps 6 rfl) (Nat.le_of_ble_eq_true rfl) rfl ?_
    refine r.rel (lo' := [(0, .ref (a 1)), (1, .int v1), (2, .int (0 : Int32))]) [1, 2, 0] rfl ?_
    refine l_X3_fillSteps_10 E a v1 (mgs hM [2, 3] mM) r (fun m_2 hxt => ?_) 10000 (0 : Int32) (mgs hM [2, 3] mM) hxt
    refine r.iinc (v := (v1 + (1 : Int32))) (lo' := [(1, .int (v1 + (1 : Int32))), (0, .ref (a 1))]) 1 (DX3_fillSteps 57 rfl) rfl rfl (Nat.le_of_ble_eq_true rfl) rfl ?_
    refine r.goto 2 (DX3_fillSteps 58 rfl) rfl ?_
    refine r.rel (lo' := [(0, .ref (a 1)), (1, .int (v1 + (1 : Int32)))]) [1, 0] rfl ?_
    exact ih (v1 + (1 : Int32)) (mgs hM [2, 3] m_2) hxt
set_option maxRecDepth 100000 in
set_option maxHeartbeats 4000000 in
theorem t_X3_fillSteps (E : xE) (a : Nat → Nat) (hM : Mem) {o : Mem} (hxt : xt_X3_fillSteps hM = some o) : xMV (S := Unit) E yX3_fillSteps cX3_fillSteps 4 2 0 0 [.ref (a 1)] [(a 1, oX3 a), (a 2, aI E 16 (hM 2)), (a 3, aI E 16 (hM 3))] (fun _ => [(a 1, oX3 a), (a 2, aI E 16 (o 2)), (a 3, aI E 16 (o 3))]) := by
  refine xMV.of (own := RX3) (lo0 := [(0, .ref (a 1))]) (ini := false) (fun h => nomatch h) (by decide +kernel) rfl rfl (Nat.le_of_ble_eq_true rfl) (fun V r hret => ?_)
  unfold xt_X3_fillSteps at hxt
  refine r.iconst (v := (0 : Int32)) (DX3_fillSteps 0 rfl) rfl ?_
  refine r.istore_n (lo' := [(1, .int (0 : Int32)), (0, .ref (a 1))]) (DX3_fillSteps 1 rfl) (Nat.le_of_ble_eq_true rfl) rfl ?_
  refine r.rel (lo' := [(0, .ref (a 1)), (1, .int (0 : Int32))]) [1, 0] rfl ?_
  refine l_X3_fillSteps_2 E a hM r (fun m_3 hxt => ?_) 10000 (0 : Int32) hM hxt
  cases hxt
  exact hret _ _ _ (DX3_fillSteps 59 rfl) ⟨(), rfl⟩
set_option maxRecDepth 100000 in
set_option maxHeartbeats 4000000 in
theorem l_X3_fillPairs_14 (E : xE) (a : Nat → Nat) (x2 : Int32) (hM : Mem) {V : xVT} (r : Rl E RX3 cX3_fillPairs (xR 0 0 0) 4 false V) {o : Mem} {k : Int32 → Mem → Option (Mem)} (hk : ∀ (v1 : Int32) (mM : Mem), k v1 mM = some o → V 0 0 89 [(0, .ref (a 1)), (1, .int v1), (2, .int x2)] [] [(a 1, oX3 a), (a 4, aI E 256 (mM 4)), (a 5, aI E 128 (mM 5)), (a 6, aI E 128 (mM 6)), (a 7, aI E 128 (mM 7))]) : ∀ (n : Nat) (v1 : Int32) (v3 : Int32) (mM : Mem), xt_X3_fillPairs_l14 x2 hM k n v1 v3 mM = some o → V 0 0 14 [(0, .ref (a 1)), (1, .int v1), (2, .int x2), (3, .int v3)] [] [(a 1, oX3 a), (a 4, aI E 256 (mM 4)), (a 5, aI E 128 (mM 5)), (a 6, aI E 128 (mM 6)), (a 7, aI E 128 (mM 7))] := by
  intro n
  induction n with
  | zero => intro v1 v3 mM hxt; exact xno hxt
  | succ n ih =>
    intro v1 v3 mM hxt
    rw [xt_X3_fillPairs_l14] at hxt
    refine r.iload_n 3 (DX3_fillPairs_0 11 rfl) rfl ?_
    refine r.bipush (v := (16 : Int32)) (DX3_fillPairs_0 12 rfl) rfl ?_
    refine r.icmp_ge 89 (DX3_fillPairs_0 13 rfl) rfl hxt (fun _ hxt => ?_) (fun _ hxt => ?_)
    · refine r.rel (lo' := [(0, .ref (a 1)), (1, .int v1), (2, .int x2)]) [0, 1, 2] rfl ?_
      exact hk v1 (mgs hM [4, 5, 6, 7] mM) hxt
    refine r.aload_n 0 (DX3_fillPairs_0 14 rfl) rfl ?_
    refine r.get (v := .ref (a 4)) kX3 f_X3_16 rfl 0 rfl rfl (DX3_fillPairs_0 15 rfl) ?_
    refine r.iload_n 2 (DX3_fillPairs_0 16 rfl) rfl ?_
    refine r.bipush (v := (16 : Int32)) (DX3_fillPairs_0 17 rfl) rfl ?_
    refine r.imul (DX3_fillPairs_0 18 rfl) ?_
    refine r.iload_n 3 (DX3_fillPairs_0 19 rfl) rfl ?_
    refine r.iadd (DX3_fillPairs_0 20 rfl) ?_
    refine r.iload_n 1 (DX3_fillPairs_0 21 rfl) rfl ?_
    obtain ⟨hin, hxt⟩ := xgd_some hxt
    refine r.iast (ws' := [(a 1, oX3 a), (a 4, aI E 256 (upd (mM 4) ((x2 * (16 : Int32)) + v3).toNatClampNeg v1)), (a 5, aI E 128 (mM 5)), (a 6, aI E 128 (mM 6)), (a 7, aI E 128 (mM 7))]) 1 rfl hin rfl (DX3_fillPairs_0 22 rfl) ?_
    refine r.aload_n 0 (DX3_fillPairs_0 23 rfl) rfl ?_
    refine r.get (v := .ref (a 4)) kX3 f_X3_16 rfl 0 rfl rfl (DX3_fillPairs_0 24 rfl) ?_
    refine r.iload_n 3 (DX3_fillPairs_0 25 rfl) rfl ?_
    refine r.bipush (v := (16 : Int32)) (DX3_fillPairs_0 26 rfl) rfl ?_
    refine r.imul (DX3_fillPairs_0 27 rfl) ?_
    refine r.iload_n 2 (DX3_fillPairs_0 28 rfl) rfl ?_
    refine r.iadd (DX3_fillPairs_0 29 rfl) ?_
    refine r.iload_n 1 (DX3_fillPairs_0 30 rfl) rfl ?_
    obtain ⟨hin, hxt⟩ := xgd_some hxt
    refine r.iast (ws' := [(a 1, oX3 a), (a 4, aI E 256 (upd (upd (mM 4) ((x2 * (16 : Int32)) + v3).toNatClampNeg v1) ((v3 * (16 : Int32)) + x2).toNatClampNeg v1)), (a 5, aI E 128 (mM 5)), (a 6, aI E 128 (mM 6)), (a 7, aI E 128 (mM 7))]) 1 rfl hin rfl (DX3_fillPairs_0 31 rfl) ?_
    refine r.aload_n 0 (DX3_fillPairs_0 32 rfl) rfl ?_
    refine r.get (v := .ref (a 5)) kX3 f_X3_19 rfl 0 rfl rfl (DX3_fillPairs_0 33 rfl) ?_
    refine r.iload_n 1 (DX3_fillPairs_0 34 rfl) rfl ?_
    refine r.bipush (v := (127 : Int32)) (DX3_fillPairs_0 35 rfl) rfl ?_
    refine r.iand (DX3_fillPairs_0 36 rfl) ?_
    refine r.iload_n 2 (DX3_fillPairs_0 37 rfl) rfl ?_
    obtain ⟨hin, hxt⟩ := xgd_some hxt
    refine r.iast (ws' := [(a 1, oX3 a), (a 4, aI E 256 (upd (upd (mM 4) ((x2 * (16 : Int32)) + v3).toNatClampNeg v1) ((v3 * (16 : Int32)) + x2).toNatClampNeg v1)), (a 5, aI E 128 (upd (mM 5) (v1 &&& (127 : Int32)).toNatClampNeg x2)), (a 6, aI E 128 (mM 6)), (a 7, aI E 128 (mM 7))]) 2 rfl hin rfl (DX3_fillPairs_0 38 rfl) ?_
    refine r.aload_n 0 (DX3_fillPairs_0 39 rfl) rfl ?_
    refine r.get (v := .ref (a 6)) kX3 f_X3_22 rfl 0 rfl rfl (DX3_fillPairs_0 40 rfl) ?_
    refine r.iload_n 1 (DX3_fillPairs_0 41 rfl) rfl ?_
    refine r.bipush (v := (127 : Int32)) (DX3_fillPairs_0 42 rfl) rfl ?_
    refine r.iand (DX3_fillPairs_0 43 rfl) ?_
    refine r.iload_n 3 (DX3_fillPairs_0 44 rfl) rfl ?_
    obtain ⟨hin, hxt⟩ := xgd_some hxt
    refine r.iast (ws' := [(a 1, oX3 a), (a 4, aI E 256 (upd (upd (mM 4) ((x2 * (16 : Int32)) + v3).toNatClampNeg v1) ((v3 * (16 : Int32)) + x2).toNatClampNeg v1)), (a 5, aI E 128 (upd (mM 5) (v1 &&& (127 : Int32)).toNatClampNeg x2)), (a 6, aI E 128 (upd (mM 6) (v1 &&& (127 : Int32)).toNatClampNeg v3)), (a 7, aI E 128 (mM 7))]) 3 rfl hin rfl (DX3_fillPairs_0 45 rfl) ?_
    refine r.aload_n 0 (DX3_fillPairs_0 46 rfl) rfl ?_
    refine r.get (v := .ref (a 7)) kX3 f_X3_25 rfl 0 rfl rfl (DX3_fillPairs_0 47 rfl) ?_
    refine r.iload_n 1 (DX3_fillPairs_0 48 rfl) rfl ?_
    refine r.bipush (v := (127 : Int32)) (DX3_fillPairs_0 49 rfl) rfl ?_
    refine r.iand (DX3_fillPairs_0 50 rfl) ?_
    refine r.iconst (v := (1 : Int32)) (DX3_fillPairs_0 51 rfl) rfl ?_
    refine r.iload_n 2 (DX3_fillPairs_0 52 rfl) rfl ?_
    refine r.ishl (DX3_fillPairs_0 53 rfl) ?_
    refine r.iconst (v := (1 : Int32)) (DX3_fillPairs_0 54 rfl) rfl ?_
    refine r.iload_n 3 (DX3_fillPairs_0 55 rfl) rfl ?_
    refine r.ishl (DX3_fillPairs_0 56 rfl) ?_
    refine r.ior (DX3_fillPairs_0 57 rfl) ?_
    obtain ⟨hin, hxt⟩ := xgd_some hxt
    refine r.iast (ws' := [(a 1, oX3 a), (a 4, aI E 256 (upd (upd (mM 4) ((x2 * (16 : Int32)) + v3).toNatClampNeg v1) ((v3 * (16 : Int32)) + x2).toNatClampNeg v1)), (a 5, aI E 128 (upd (mM 5) (v1 &&& (127 : Int32)).toNatClampNeg x2)), (a 6, aI E 128 (upd (mM 6) (v1 &&& (127 : Int32)).toNatClampNeg v3)), (a 7, aI E 128 (upd (mM 7) (v1 &&& (127 : Int32)).toNatClampNeg (((1 : Int32) <<< (x2 &&& 31)) ||| ((1 : Int32) <<< (v3 &&& 31)))))]) 4 rfl hin rfl (DX3_fillPairs_0 58 rfl) ?_
    refine r.iinc (v := (v1 + (1 : Int32))) (lo' := [(1, .int (v1 + (1 : Int32))), (0, .ref (a 1)), (2, .int x2), (3, .int v3)]) 1 (DX3_fillPairs_0 59 rfl) rfl rfl (Nat.le_of_ble_eq_true rfl) rfl ?_
    refine r.iinc (v := (v3 + (1 : Int32))) (lo' := [(3, .int (v3 + (1 : Int32))), (1, .int (v1 + (1 : Int32))), (0, .ref (a 1)), (2, .int x2)]) 3 (DX3_fillPairs_1 0 rfl) rfl rfl (Nat.le_of_ble_eq_true rfl) rfl ?_
    refine r.goto 14 (DX3_fillPairs_1 1 rfl) rfl ?_
    refine r.rel (lo' := [(0, .ref (a 1)), (1, .int (v1 + (1 : Int32))), (2, .int x2), (3, .int (v3 + (1 : Int32)))]) [2, 1, 3, 0] rfl ?_
    exact ih (v1 + (1 : Int32)) (v3 + (1 : Int32)) (mset (mset (mset (mset hM 4 (upd (upd (mM 4) ((x2 * (16 : Int32)) + v3).toNatClampNeg v1) ((v3 * (16 : Int32)) + x2).toNatClampNeg v1)) 5 (upd (mM 5) (v1 &&& (127 : Int32)).toNatClampNeg x2)) 6 (upd (mM 6) (v1 &&& (127 : Int32)).toNatClampNeg v3)) 7 (upd (mM 7) (v1 &&& (127 : Int32)).toNatClampNeg (((1 : Int32) <<< (x2 &&& 31)) ||| ((1 : Int32) <<< (v3 &&& 31))))) hxt
set_option maxRecDepth 100000 in
set_option maxHeartbeats 4000000 in
theorem l_X3_fillPairs_4 (E : xE) (a : Nat → Nat) (hM : Mem) {V : xVT} (r : Rl E RX3 cX3_fillPairs (xR 0 0 0) 4 false V) {o : Mem} {k : Mem → Option (Mem)} (hk : ∀ (mM : Mem), k mM = some o → V 0 0 95 [] [] [(a 1, oX3 a), (a 4, aI E 256 (mM 4)), (a 5, aI E 128 (mM 5)), (a 6, aI E 128 (mM 6)), (a 7, aI E 128 (mM 7))]) : ∀ (n : Nat) (v1 : Int32) (v2 : Int32) (mM : Mem), xt_X3_fillPairs_l4 hM k n v1 v2 mM = some o → V 0 0 4 [(0, .ref (a 1)), (1, .int v1), (2, .int v2)] [] [(a 1, oX3 a), (a 4, aI E 256 (mM 4)), (a 5, aI E 128 (mM 5)), (a 6, aI E 128 (mM 6)), (a 7, aI E 128 (mM 7))] := by
  intro n
  induction n with
  | zero => intro v1 v2 mM hxt; exact xno hxt
  | succ n ih =>
    intro v1 v2 mM hxt
    rw [xt_X3_fillPairs_l4] at hxt
    refine r.iload_n 2 (DX3_fillPairs_0 4 rfl) rfl ?_
    refine r.bipush (v := (16 : Int32)) (DX3_fillPairs_0 5 rfl) rfl ?_
    refine r.icmp_ge 95 (DX3_fillPairs_0 6 rfl) rfl hxt (fun _ hxt => ?_) (fun _ hxt => ?_)
    · refine r.rel (lo' := []) [] rfl ?_
      exact hk (mgs hM [4, 5, 6, 7] mM) hxt
    refine r.iload_n 2 (DX3_fillPairs_0 7 rfl) rfl ?_
    refine r.iconst (v := (1 : Int32)) (DX3_fillPairs_0 8 rfl) rfl ?_
    refine r.iadd (DX3_fillPairs_0 9 rfl) ?_
    refine r.istore_n (lo' := [(3, .int (v2 + (1 : Int32))), (0, .ref (a 1)), (1, .int v1), (2, .int v2)]) (DX3_fillPairs_0 10 rfl) (Nat.le_of_ble_eq_true rfl) rfl ?_
    refine r.rel (lo' := [(0, .ref (a 1)), (1, .int v1), (2, .int v2), (3, .int (v2 + (1 : Int32)))]) [1, 2, 3, 0] rfl ?_
    refine l_X3_fillPairs_14 E a v2 (mgs hM [4, 5, 6, 7] mM) r (fun v1_1 m_2 hxt => ?_) 10000 v1 (v2 + (1 : Int32)) (mgs hM [4, 5, 6, 7] mM) hxt
    refine r.iinc (v := (v2 + (1 : Int32))) (lo' := [(2, .int (v2 + (1 : Int32))), (0, .ref (a 1)), (1, .int v1_1)]) 2 (DX3_fillPairs_1 2 rfl) rfl rfl (Nat.le_of_ble_eq_true rfl) rfl ?_
    refine r.goto 4 (DX3_fillPairs_1 3 rfl) rfl ?_
    refine r.rel (lo' := [(0, .ref (a 1)), (1, .int v1_1), (2, .int (v2 + (1 : Int32)))]) [1, 2, 0] rfl ?_
    exact ih v1_1 (v2 + (1 : Int32)) (mgs hM [4, 5, 6, 7] m_2) hxt
set_option maxRecDepth 100000 in
set_option maxHeartbeats 4000000 in
theorem t_X3_fillPairs (E : xE) (a : Nat → Nat) (hM : Mem) {o : Mem} (hxt : xt_X3_fillPairs hM = some o) : xMV (S := Unit) E yX3_fillPairs cX3_fillPairs 4 0 0 0 [.ref (a 1)] [(a 1, oX3 a), (a 4, aI E 256 (hM 4)), (a 5, aI E 128 (hM 5)), (a 6, aI E 128 (hM 6)), (a 7, aI E 128 (hM 7))] (fun _ => [(a 1, oX3 a), (a 4, aI E 256 (o 4)), (a 5, aI E 128 (o 5)), (a 6, aI E 128 (o 6)), (a 7, aI E 128 (o 7))]) := by
  refine xMV.of (own := RX3) (lo0 := [(0, .ref (a 1))]) (ini := false) (fun h => nomatch h) (by decide +kernel) rfl rfl (Nat.le_of_ble_eq_true rfl) (fun V r hret => ?_)
  unfold xt_X3_fillPairs at hxt
  refine r.iconst (v := (0 : Int32)) (DX3_fillPairs_0 0 rfl) rfl ?_
  refine r.istore_n (lo' := [(1, .int (0 : Int32)), (0, .ref (a 1))]) (DX3_fillPairs_0 1 rfl) (Nat.le_of_ble_eq_true rfl) rfl ?_
  refine r.iconst (v := (0 : Int32)) (DX3_fillPairs_0 2 rfl) rfl ?_
  refine r.istore_n (lo' := [(2, .int (0 : Int32)), (1, .int (0 : Int32)), (0, .ref (a 1))]) (DX3_fillPairs_0 3 rfl) (Nat.le_of_ble_eq_true rfl) rfl ?_
  refine r.rel (lo' := [(0, .ref (a 1)), (1, .int (0 : Int32)), (2, .int (0 : Int32))]) [2, 1, 0] rfl ?_
  refine l_X3_fillPairs_4 E a hM r (fun m_3 hxt => ?_) 10000 (0 : Int32) (0 : Int32) hM hxt
  cases hxt
  exact hret _ _ _ (DX3_fillPairs_1 4 rfl) ⟨(), rfl⟩
set_option maxRecDepth 100000 in
set_option maxHeartbeats 4000000 in
theorem l_X3_fillImages_10 (E : xE) (a : Nat → Nat) (x1 : Int32) (hM : Mem) {V : xVT} (r : Rl E RX3 cX3_fillImages (xR 0 0 0) 5 false V) {o : Mem} {k : Mem → Option (Mem)} (hk : ∀ (mM : Mem), k mM = some o → V 0 0 91 [(0, .ref (a 1)), (1, .int x1)] [] [(a 1, oX3 a), (a 8, aI E 128 (mM 8))]) : ∀ (n : Nat) (v2 : Int32) (mM : Mem), xt_X3_fillImages_l10 x1 hM k n v2 mM = some o → V 0 0 10 [(0, .ref (a 1)), (1, .int x1), (2, .int v2)] [] [(a 1, oX3 a), (a 8, aI E 128 (mM 8))] := by
  intro n
  induction n with
  | zero => intro v2 mM hxt; exact xno hxt
  | succ n ih =>
    intro v2 mM hxt
    rw [xt_X3_fillImages_l10] at hxt
    refine r.iload_n 2 (DX3_fillImages_0 7 rfl) rfl ?_
    refine r.bipush (v := (16 : Int32)) (DX3_fillImages_0 8 rfl) rfl ?_
    refine r.icmp_ge 91 (DX3_fillImages_0 9 rfl) rfl hxt (fun _ hxt => ?_) (fun _ hxt => ?_)
    · refine r.rel (lo' := [(0, .ref (a 1)), (1, .int x1)]) [0, 1] rfl ?_
      exact hk (mgs hM [8] mM) hxt
    refine r.iload_n 1 (DX3_fillImages_0 10 rfl) rfl ?_
    refine r.iconst (v := (1 : Int32)) (DX3_fillImages_0 11 rfl) rfl ?_
    refine r.iand (DX3_fillImages_0 12 rfl) ?_
    refine r.if_ne 28 (DX3_fillImages_0 13 rfl) rfl hxt (fun _ hxt => ?_) (fun _ hxt => ?_)
    · refine r.iconst (v := (3 : Int32)) (DX3_fillImages_0 18 rfl) rfl ?_
      refine r.iload_n 2 (DX3_fillImages_0 19 rfl) rfl ?_
      refine r.iconst (v := (4 : Int32)) (DX3_fillImages_0 20 rfl) rfl ?_
      refine r.idiv (DX3_fillImages_0 21 rfl) (by decide) ?_
      refine r.isub (DX3_fillImages_0 22 rfl) ?_
      refine r.istore_n (lo' := [(3, .int ((3 : Int32) - (v2 / (4 : Int32)))), (0, .ref (a 1)), (1, .int x1), (2, .int v2)]) (DX3_fillImages_0 23 rfl) (Nat.le_of_ble_eq_true rfl) rfl ?_
      refine r.iload_n 2 (DX3_fillImages_0 24 rfl) rfl ?_
      refine r.iconst (v := (2 : Int32)) (DX3_fillImages_0 25 rfl) rfl ?_
      refine r.iand (DX3_fillImages_0 26 rfl) ?_
      refine r.if_ne 46 (DX3_fillImages_0 27 rfl) rfl hxt (fun _ hxt => ?_) (fun _ hxt => ?_)
      · refine r.iconst (v := (3 : Int32)) (DX3_fillImages_0 32 rfl) rfl ?_
        refine r.iload_n 3 (DX3_fillImages_0 33 rfl) rfl ?_
        refine r.iconst (v := (4 : Int32)) (DX3_fillImages_0 34 rfl) rfl ?_
        refine r.irem (DX3_fillImages_0 35 rfl) (by decide) ?_
        refine r.isub (DX3_fillImages_0 36 rfl) ?_
        refine r.istore (lo' := [(4, .int ((3 : Int32) - (v2 - v2 / (4 : Int32) * (4 : Int32)))), (3, .int ((3 : Int32) - (v2 / (4 : Int32)))), (0, .ref (a 1)), (1, .int x1), (2, .int v2)]) (DX3_fillImages_0 37 rfl) (Nat.le_of_ble_eq_true rfl) rfl ?_
        refine r.aload_n 2 (DX3_fillImages_0 38 rfl) rfl ?_
        refine r.get (v := .ref (a 8)) kX3 f_X3_28 rfl 0 rfl rfl (DX3_fillImages_0 39 rfl) ?_
        refine r.iload_n 3 (DX3_fillImages_0 40 rfl) rfl ?_
        refine r.bipush (v := (16 : Int32)) (DX3_fillImages_0 41 rfl) rfl ?_
        refine r.imul (DX3_fillImages_0 42 rfl) ?_
        refine r.iload_n 4 (DX3_fillImages_0 43 rfl) rfl ?_
        refine r.iadd (DX3_fillImages_0 44 rfl) ?_
        refine r.iload_n 3 (DX3_fillImages_0 45 rfl) rfl ?_
        refine r.iconst (v := (4 : Int32)) (DX3_fillImages_0 46 rfl) rfl ?_
        refine r.iand (DX3_fillImages_0 47 rfl) ?_
        refine r.if_ne 78 (DX3_fillImages_0 48 rfl) rfl hxt (fun _ hxt => ?_) (fun _ hxt => ?_)
        · refine r.iconst (v := (4 : Int32)) (DX3_fillImages_0 55 rfl) rfl ?_
          refine r.iload 0 (DX3_fillImages_0 56 rfl) rfl ?_
          refine r.imul (DX3_fillImages_0 57 rfl) ?_
          refine r.iload_n 1 (DX3_fillImages_0 58 rfl) rfl ?_
          refine r.iadd (DX3_fillImages_0 59 rfl) ?_
          obtain ⟨hin, hxt⟩ := xgd_some hxt
          refine r.iast (ws' := [(a 1, oX3 a), (a 8, aI E 128 (upd (mM 8) ((x1 * (16 : Int32)) + v2).toNatClampNeg (((4 : Int32) * ((3 : Int32) - (v2 - v2 / (4 : Int32) * (4 : Int32)))) + ((3 : Int32) - (v2 / (4 : Int32))))))]) 1 rfl hin rfl (DX3_fillImages_1 0 rfl) ?_
          refine r.iinc (v := (v2 + (1 : Int32))) (lo' := [(2, .int (v2 + (1 : Int32))), (4, .int ((3 : Int32) - (v2 - v2 / (4 : Int32) * (4 : Int32)))), (3, .int ((3 : Int32) - (v2 / (4 : Int32)))), (0, .ref (a 1)), (1, .int x1)]) 4 (DX3_fillImages_1 1 rfl) rfl rfl (Nat.le_of_ble_eq_true rfl) rfl ?_
          refine r.goto 10 (DX3_fillImages_1 2 rfl) rfl ?_
          refine r.rel (lo' := [(0, .ref (a 1)), (1, .int x1), (2, .int (v2 + (1 : Int32)))]) [3, 4, 0] rfl ?_
          exact ih (v2 + (1 : Int32)) (mset hM 8 (upd (mM 8) ((x1 * (16 : Int32)) + v2).toNatClampNeg (((4 : Int32) * ((3 : Int32) - (v2 - v2 / (4 : Int32) * (4 : Int32)))) + ((3 : Int32) - (v2 / (4 : Int32)))))) hxt
        refine r.iconst (v := (4 : Int32)) (DX3_fillImages_0 49 rfl) rfl ?_
        refine r.iload_n 1 (DX3_fillImages_0 50 rfl) rfl ?_
        refine r.imul (DX3_fillImages_0 51 rfl) ?_
        refine r.iload 0 (DX3_fillImages_0 52 rfl) rfl ?_
        refine r.iadd (DX3_fillImages_0 53 rfl) ?_
        refine r.goto 84 (DX3_fillImages_0 54 rfl) rfl ?_
        obtain ⟨hin, hxt⟩ := xgd_some hxt
        refine r.iast (ws' := [(a 1, oX3 a), (a 8, aI E 128 (upd (mM 8) ((x1 * (16 : Int32)) + v2).toNatClampNeg (((4 : Int32) * ((3 : Int32) - (v2 / (4 : Int32)))) + ((3 : Int32) - (v2 - v2 / (4 : Int32) * (4 : Int32))))))]) 1 rfl hin rfl (DX3_fillImages_1 0 rfl) ?_
        refine r.iinc (v := (v2 + (1 : Int32))) (lo' := [(2, .int (v2 + (1 : Int32))), (4, .int ((3 : Int32) - (v2 - v2 / (4 : Int32) * (4 : Int32)))), (3, .int ((3 : Int32) - (v2 / (4 : Int32)))), (0, .ref (a 1)), (1, .int x1)]) 4 (DX3_fillImages_1 1 rfl) rfl rfl (Nat.le_of_ble_eq_true rfl) rfl ?_
        refine r.goto 10 (DX3_fillImages_1 2 rfl) rfl ?_
        refine r.rel (lo' := [(0, .ref (a 1)), (1, .int x1), (2, .int (v2 + (1 : Int32)))]) [3, 4, 0] rfl ?_
        exact ih (v2 + (1 : Int32)) (mset hM 8 (upd (mM 8) ((x1 * (16 : Int32)) + v2).toNatClampNeg (((4 : Int32) * ((3 : Int32) - (v2 / (4 : Int32)))) + ((3 : Int32) - (v2 - v2 / (4 : Int32) * (4 : Int32)))))) hxt
      refine r.iload_n 3 (DX3_fillImages_0 28 rfl) rfl ?_
      refine r.iconst (v := (4 : Int32)) (DX3_fillImages_0 29 rfl) rfl ?_
      refine r.irem (DX3_fillImages_0 30 rfl) (by decide) ?_
      refine r.goto 51 (DX3_fillImages_0 31 rfl) rfl ?_
      refine r.istore (lo' := [(4, .int (v2 - v2 / (4 : Int32) * (4 : Int32))), (3, .int ((3 : Int32) - (v2 / (4 : Int32)))), (0, .ref (a 1)), (1, .int x1), (2, .int v2)]) (DX3_fillImages_0 37 rfl) (Nat.le_of_ble_eq_true rfl) rfl ?_
      refine r.aload_n 2 (DX3_fillImages_0 38 rfl) rfl ?_
      refine r.get (v := .ref (a 8)) kX3 f_X3_28 rfl 0 rfl rfl (DX3_fillImages_0 39 rfl) ?_
      refine r.iload_n 3 (DX3_fillImages_0 40 rfl) rfl ?_
      refine r.bipush (v := (16 : Int32)) (DX3_fillImages_0 41 rfl) rfl ?_
      refine r.imul (DX3_fillImages_0 42 rfl) ?_
      refine r.iload_n 4 (DX3_fillImages_0 43 rfl) rfl ?_
      refine r.iadd (DX3_fillImages_0 44 rfl) ?_
      refine r.iload_n 3 (DX3_fillImages_0 45 rfl) rfl ?_
      refine r.iconst (v := (4 : Int32)) (DX3_fillImages_0 46 rfl) rfl ?_
      refine r.iand (DX3_fillImages_0 47 rfl) ?_
      refine r.if_ne 78 (DX3_fillImages_0 48 rfl) rfl hxt (fun _ hxt => ?_) (fun _ hxt => ?_)
      · refine r.iconst (v := (4 : Int32)) (DX3_fillImages_0 55 rfl) rfl ?_
        refine r.iload 0 (DX3_fillImages_0 56 rfl) rfl ?_
        refine r.imul (DX3_fillImages_0 57 rfl) ?_
        refine r.iload_n 1 (DX3_fillImages_0 58 rfl) rfl ?_
        refine r.iadd (DX3_fillImages_0 59 rfl) ?_
        obtain ⟨hin, hxt⟩ := xgd_some hxt
        refine r.iast (ws' := [(a 1, oX3 a), (a 8, aI E 128 (upd (mM 8) ((x1 * (16 : Int32)) + v2).toNatClampNeg (((4 : Int32) * (v2 - v2 / (4 : Int32) * (4 : Int32))) + ((3 : Int32) - (v2 / (4 : Int32))))))]) 1 rfl hin rfl (DX3_fillImages_1 0 rfl) ?_
        refine r.iinc (v := (v2 + (1 : Int32))) (lo' := [(2, .int (v2 + (1 : Int32))), (4, .int (v2 - v2 / (4 : Int32) * (4 : Int32))), (3, .int ((3 : Int32) - (v2 / (4 : Int32)))), (0, .ref (a 1)), (1, .int x1)]) 4 (DX3_fillImages_1 1 rfl) rfl rfl (Nat.le_of_ble_eq_true rfl) rfl ?_
        refine r.goto 10 (DX3_fillImages_1 2 rfl) rfl ?_
        refine r.rel (lo' := [(0, .ref (a 1)), (1, .int x1), (2, .int (v2 + (1 : Int32)))]) [3, 4, 0] rfl ?_
        exact ih (v2 + (1 : Int32)) (mset hM 8 (upd (mM 8) ((x1 * (16 : Int32)) + v2).toNatClampNeg (((4 : Int32) * (v2 - v2 / (4 : Int32) * (4 : Int32))) + ((3 : Int32) - (v2 / (4 : Int32)))))) hxt
      refine r.iconst (v := (4 : Int32)) (DX3_fillImages_0 49 rfl) rfl ?_
      refine r.iload_n 1 (DX3_fillImages_0 50 rfl) rfl ?_
      refine r.imul (DX3_fillImages_0 51 rfl) ?_
      refine r.iload 0 (DX3_fillImages_0 52 rfl) rfl ?_
      refine r.iadd (DX3_fillImages_0 53 rfl) ?_
      refine r.goto 84 (DX3_fillImages_0 54 rfl) rfl ?_
      obtain ⟨hin, hxt⟩ := xgd_some hxt
      refine r.iast (ws' := [(a 1, oX3 a), (a 8, aI E 128 (upd (mM 8) ((x1 * (16 : Int32)) + v2).toNatClampNeg (((4 : Int32) * ((3 : Int32) - (v2 / (4 : Int32)))) + (v2 - v2 / (4 : Int32) * (4 : Int32)))))]) 1 rfl hin rfl (DX3_fillImages_1 0 rfl) ?_
      refine r.iinc (v := (v2 + (1 : Int32))) (lo' := [(2, .int (v2 + (1 : Int32))), (4, .int (v2 - v2 / (4 : Int32) * (4 : Int32))), (3, .int ((3 : Int32) - (v2 / (4 : Int32)))), (0, .ref (a 1)), (1, .int x1)]) 4 (DX3_fillImages_1 1 rfl) rfl rfl (Nat.le_of_ble_eq_true rfl) rfl ?_
      refine r.goto 10 (DX3_fillImages_1 2 rfl) rfl ?_
      refine r.rel (lo' := [(0, .ref (a 1)), (1, .int x1), (2, .int (v2 + (1 : Int32)))]) [3, 4, 0] rfl ?_
      exact ih (v2 + (1 : Int32)) (mset hM 8 (upd (mM 8) ((x1 * (16 : Int32)) + v2).toNatClampNeg (((4 : Int32) * ((3 : Int32) - (v2 / (4 : Int32)))) + (v2 - v2 / (4 : Int32) * (4 : Int32))))) hxt
    refine r.iload_n 2 (DX3_fillImages_0 14 rfl) rfl ?_
    refine r.iconst (v := (4 : Int32)) (DX3_fillImages_0 15 rfl) rfl ?_
    refine r.idiv (DX3_fillImages_0 16 rfl) (by decide) ?_
    refine r.goto 33 (DX3_fillImages_0 17 rfl) rfl ?_
    refine r.istore_n (lo' := [(3, .int (v2 / (4 : Int32))), (0, .ref (a 1)), (1, .int x1), (2, .int v2)]) (DX3_fillImages_0 23 rfl) (Nat.le_of_ble_eq_true rfl) rfl ?_
    refine r.iload_n 2 (DX3_fillImages_0 24 rfl) rfl ?_
    refine r.iconst (v := (2 : Int32)) (DX3_fillImages_0 25 rfl) rfl ?_
    refine r.iand (DX3_fillImages_0 26 rfl) ?_
    refine r.if_ne 46 (DX3_fillImages_0 27 rfl) rfl hxt (fun _ hxt => ?_) (fun _ hxt => ?_)
    · refine r.iconst (v := (3 : Int32)) (DX3_fillImages_0 32 rfl) rfl ?_
      refine r.iload_n 3 (DX3_fillImages_0 33 rfl) rfl ?_
      refine r.iconst (v := (4 : Int32)) (DX3_fillImages_0 34 rfl) rfl ?_
      refine r.irem (DX3_fillImages_0 35 rfl) (by decide) ?_
      refine r.isub (DX3_fillImages_0 36 rfl) ?_
      refine r.istore (lo' := [(4, .int ((3 : Int32) - (v2 - v2 / (4 : Int32) * (4 : Int32)))), (3, .int (v2 / (4 : Int32))), (0, .ref (a 1)), (1, .int x1), (2, .int v2)]) (DX3_fillImages_0 37 rfl) (Nat.le_of_ble_eq_true rfl) rfl ?_
      refine r.aload_n 2 (DX3_fillImages_0 38 rfl) rfl ?_
      refine r.get (v := .ref (a 8)) kX3 f_X3_28 rfl 0 rfl rfl (DX3_fillImages_0 39 rfl) ?_
      refine r.iload_n 3 (DX3_fillImages_0 40 rfl) rfl ?_
      refine r.bipush (v := (16 : Int32)) (DX3_fillImages_0 41 rfl) rfl ?_
      refine r.imul (DX3_fillImages_0 42 rfl) ?_
      refine r.iload_n 4 (DX3_fillImages_0 43 rfl) rfl ?_
      refine r.iadd (DX3_fillImages_0 44 rfl) ?_
      refine r.iload_n 3 (DX3_fillImages_0 45 rfl) rfl ?_
      refine r.iconst (v := (4 : Int32)) (DX3_fillImages_0 46 rfl) rfl ?_
      refine r.iand (DX3_fillImages_0 47 rfl) ?_
      refine r.if_ne 78 (DX3_fillImages_0 48 rfl) rfl hxt (fun _ hxt => ?_) (fun _ hxt => ?_)
      · refine r.iconst (v := (4 : Int32)) (DX3_fillImages_0 55 rfl) rfl ?_
        refine r.iload 0 (DX3_fillImages_0 56 rfl) rfl ?_
        refine r.imul (DX3_fillImages_0 57 rfl) ?_
        refine r.iload_n 1 (DX3_fillImages_0 58 rfl) rfl ?_
        refine r.iadd (DX3_fillImages_0 59 rfl) ?_
        obtain ⟨hin, hxt⟩ := xgd_some hxt
        refine r.iast (ws' := [(a 1, oX3 a), (a 8, aI E 128 (upd (mM 8) ((x1 * (16 : Int32)) + v2).toNatClampNeg (((4 : Int32) * ((3 : Int32) - (v2 - v2 / (4 : Int32) * (4 : Int32)))) + (v2 / (4 : Int32)))))]) 1 rfl hin rfl (DX3_fillImages_1 0 rfl) ?_
        refine r.iinc (v := (v2 + (1 : Int32))) (lo' := [(2, .int (v2 + (1 : Int32))), (4, .int ((3 : Int32) - (v2 - v2 / (4 : Int32) * (4 : Int32)))), (3, .int (v2 / (4 : Int32))), (0, .ref (a 1)), (1, .int x1)]) 4 (DX3_fillImages_1 1 rfl) rfl rfl (Nat.le_of_ble_eq_true rfl) rfl ?_
        refine r.goto 10 (DX3_fillImages_1 2 rfl) rfl ?_
        refine r.rel (lo' := [(0, .ref (a 1)), (1, .int x1), (2, .int (v2 + (1 : Int32)))]) [3, 4, 0] rfl ?_
        exact ih (v2 + (1 : Int32)) (mset hM 8 (upd (mM 8) ((x1 * (16 : Int32)) + v2).toNatClampNeg (((4 : Int32) * ((3 : Int32) - (v2 - v2 / (4 : Int32) * (4 : Int32)))) + (v2 / (4 : Int32))))) hxt
      refine r.iconst (v := (4 : Int32)) (DX3_fillImages_0 49 rfl) rfl ?_
      refine r.iload_n 1 (DX3_fillImages_0 50 rfl) rfl ?_
      refine r.imul (DX3_fillImages_0 51 rfl) ?_
      refine r.iload 0 (DX3_fillImages_0 52 rfl) rfl ?_
      refine r.iadd (DX3_fillImages_0 53 rfl) ?_
      refine r.goto 84 (DX3_fillImages_0 54 rfl) rfl ?_
      obtain ⟨hin, hxt⟩ := xgd_some hxt
      refine r.iast (ws' := [(a 1, oX3 a), (a 8, aI E 128 (upd (mM 8) ((x1 * (16 : Int32)) + v2).toNatClampNeg (((4 : Int32) * (v2 / (4 : Int32))) + ((3 : Int32) - (v2 - v2 / (4 : Int32) * (4 : Int32))))))]) 1 rfl hin rfl (DX3_fillImages_1 0 rfl) ?_
      refine r.iinc (v := (v2 + (1 : Int32))) (lo' := [(2, .int (v2 + (1 : Int32))), (4, .int ((3 : Int32) - (v2 - v2 / (4 : Int32) * (4 : Int32)))), (3, .int (v2 / (4 : Int32))), (0, .ref (a 1)), (1, .int x1)]) 4 (DX3_fillImages_1 1 rfl) rfl rfl (Nat.le_of_ble_eq_true rfl) rfl ?_
      refine r.goto 10 (DX3_fillImages_1 2 rfl) rfl ?_
      refine r.rel (lo' := [(0, .ref (a 1)), (1, .int x1), (2, .int (v2 + (1 : Int32)))]) [3, 4, 0] rfl ?_
      exact ih (v2 + (1 : Int32)) (mset hM 8 (upd (mM 8) ((x1 * (16 : Int32)) + v2).toNatClampNeg (((4 : Int32) * (v2 / (4 : Int32))) + ((3 : Int32) - (v2 - v2 / (4 : Int32) * (4 : Int32)))))) hxt
    refine r.iload_n 3 (DX3_fillImages_0 28 rfl) rfl ?_
    refine r.iconst (v := (4 : Int32)) (DX3_fillImages_0 29 rfl) rfl ?_
    refine r.irem (DX3_fillImages_0 30 rfl) (by decide) ?_
    refine r.goto 51 (DX3_fillImages_0 31 rfl) rfl ?_
    refine r.istore (lo' := [(4, .int (v2 - v2 / (4 : Int32) * (4 : Int32))), (3, .int (v2 / (4 : Int32))), (0, .ref (a 1)), (1, .int x1), (2, .int v2)]) (DX3_fillImages_0 37 rfl) (Nat.le_of_ble_eq_true rfl) rfl ?_
    refine r.aload_n 2 (DX3_fillImages_0 38 rfl) rfl ?_
    refine r.get (v := .ref (a 8)) kX3 f_X3_28 rfl 0 rfl rfl (DX3_fillImages_0 39 rfl) ?_
    refine r.iload_n 3 (DX3_fillImages_0 40 rfl) rfl ?_
    refine r.bipush (v := (16 : Int32)) (DX3_fillImages_0 41 rfl) rfl ?_
    refine r.imul (DX3_fillImages_0 42 rfl) ?_
    refine r.iload_n 4 (DX3_fillImages_0 43 rfl) rfl ?_
    refine r.iadd (DX3_fillImages_0 44 rfl) ?_
    refine r.iload_n 3 (DX3_fillImages_0 45 rfl) rfl ?_
    refine r.iconst (v := (4 : Int32)) (DX3_fillImages_0 46 rfl) rfl ?_
    refine r.iand (DX3_fillImages_0 47 rfl) ?_
    refine r.if_ne 78 (DX3_fillImages_0 48 rfl) rfl hxt (fun _ hxt => ?_) (fun _ hxt => ?_)
    · refine r.iconst (v := (4 : Int32)) (DX3_fillImages_0 55 rfl) rfl ?_
      refine r.iload 0 (DX3_fillImages_0 56 rfl) rfl ?_
      refine r.imul (DX3_fillImages_0 57 rfl) ?_
      refine r.iload_n 1 (DX3_fillImages_0 58 rfl) rfl ?_
      refine r.iadd (DX3_fillImages_0 59 rfl) ?_
      obtain ⟨hin, hxt⟩ := xgd_some hxt
      refine r.iast (ws' := [(a 1, oX3 a), (a 8, aI E 128 (upd (mM 8) ((x1 * (16 : Int32)) + v2).toNatClampNeg (((4 : Int32) * (v2 - v2 / (4 : Int32) * (4 : Int32))) + (v2 / (4 : Int32)))))]) 1 rfl hin rfl (DX3_fillImages_1 0 rfl) ?_
      refine r.iinc (v := (v2 + (1 : Int32))) (lo' := [(2, .int (v2 + (1 : Int32))), (4, .int (v2 - v2 / (4 : Int32) * (4 : Int32))), (3, .int (v2 / (4 : Int32))), (0, .ref (a 1)), (1, .int x1)]) 4 (DX3_fillImages_1 1 rfl) rfl rfl (Nat.le_of_ble_eq_true rfl) rfl ?_
      refine r.goto 10 (DX3_fillImages_1 2 rfl) rfl ?_
      refine r.rel (lo' := [(0, .ref (a 1)), (1, .int x1), (2, .int (v2 + (1 : Int32)))]) [3, 4, 0] rfl ?_
      exact ih (v2 + (1 : Int32)) (mset hM 8 (upd (mM 8) ((x1 * (16 : Int32)) + v2).toNatClampNeg (((4 : Int32) * (v2 - v2 / (4 : Int32) * (4 : Int32))) + (v2 / (4 : Int32))))) hxt
    refine r.iconst (v := (4 : Int32)) (DX3_fillImages_0 49 rfl) rfl ?_
    refine r.iload_n 1 (DX3_fillImages_0 50 rfl) rfl ?_
    refine r.imul (DX3_fillImages_0 51 rfl) ?_
    refine r.iload 0 (DX3_fillImages_0 52 rfl) rfl ?_
    refine r.iadd (DX3_fillImages_0 53 rfl) ?_
    refine r.goto 84 (DX3_fillImages_0 54 rfl) rfl ?_
    obtain ⟨hin, hxt⟩ := xgd_some hxt
    refine r.iast (ws' := [(a 1, oX3 a), (a 8, aI E 128 (upd (mM 8) ((x1 * (16 : Int32)) + v2).toNatClampNeg (((4 : Int32) * (v2 / (4 : Int32))) + (v2 - v2 / (4 : Int32) * (4 : Int32)))))]) 1 rfl hin rfl (DX3_fillImages_1 0 rfl) ?_
    refine r.iinc (v := (v2 + (1 : Int32))) (lo' := [(2, .int (v2 + (1 : Int32))), (4, .int (v2 - v2 / (4 : Int32) * (4 : Int32))), (3, .int (v2 / (4 : Int32))), (0, .ref (a 1)), (1, .int x1)]) 4 (DX3_fillImages_1 1 rfl) rfl rfl (Nat.le_of_ble_eq_true rfl) rfl ?_
    refine r.goto 10 (DX3_fillImages_1 2 rfl) rfl ?_
    refine r.rel (lo' := [(0, .ref (a 1)), (1, .int x1), (2, .int (v2 + (1 : Int32)))]) [3, 4, 0] rfl ?_
    exact ih (v2 + (1 : Int32)) (mset hM 8 (upd (mM 8) ((x1 * (16 : Int32)) + v2).toNatClampNeg (((4 : Int32) * (v2 / (4 : Int32))) + (v2 - v2 / (4 : Int32) * (4 : Int32))))) hxt
set_option maxRecDepth 100000 in
set_option maxHeartbeats 4000000 in
theorem l_X3_fillImages_2 (E : xE) (a : Nat → Nat) (hM : Mem) {V : xVT} (r : Rl E RX3 cX3_fillImages (xR 0 0 0) 5 false V) {o : Mem} {k : Mem → Option (Mem)} (hk : ∀ (mM : Mem), k mM = some o → V 0 0 97 [] [] [(a 1, oX3 a), (a 8, aI E 128 (mM 8))]) : ∀ (n : Nat) (v1 : Int32) (mM : Mem), xt_X3_fillImages_l2 hM k n v1 mM = some o → V 0 0 2 [(0, .ref (a 1)), (1, .int v1)] [] [(a 1, oX3 a), (a 8, aI E 128 (mM 8))] := by
  intro n
  induction n with
  | zero => intro v1 mM hxt; exact xno hxt
  | succ n ih =>
    intro v1 mM hxt
    rw [xt_X3_fillImages_l2] at hxt
    refine r.iload_n 1 (DX3_fillImages_0 2 rfl) rfl ?_
    refine r.bipush (v := (8 : Int32)) (DX3_fillImages_0 3 rfl) rfl ?_
    refine r.icmp_ge 97 (DX3_fillImages_0 4 rfl) rfl hxt (fun _ hxt => ?_) (fun _ hxt => ?_)
    · refine r.rel (lo' := []) [] rfl ?_
      exact hk (mgs hM [8] mM) hxt
    refine r.iconst (v := (0 : Int32)) (DX3_fillImages_0 5 rfl) rfl ?_
    refine r.istore_n (lo' := [(2, .int (0 : Int32)), (0, .ref (a 1)), (1, .int v1)]) (DX3_fillImages_0 6 rfl) (Nat.le_of_ble_eq_true rfl) rfl ?_
    refine r.rel (lo' := [(0, .ref (a 1)), (1, .int v1), (2, .int (0 : Int32))]) [1, 2, 0] rfl ?_
    refine l_X3_fillImages_10 E a v1 (mgs hM [8] mM) r (fun m_1 hxt => ?_) 10000 (0 : Int32) (mgs hM [8] mM) hxt
    refine r.iinc (v := (v1 + (1 : Int32))) (lo' := [(1, .int (v1 + (1 : Int32))), (0, .ref (a 1))]) 1 (DX3_fillImages_1 3 rfl) rfl rfl (Nat.le_of_ble_eq_true rfl) rfl ?_
    refine r.goto 2 (DX3_fillImages_1 4 rfl) rfl ?_
    refine r.rel (lo' := [(0, .ref (a 1)), (1, .int (v1 + (1 : Int32)))]) [1, 0] rfl ?_
    exact ih (v1 + (1 : Int32)) (mgs hM [8] m_1) hxt
set_option maxRecDepth 100000 in
set_option maxHeartbeats 4000000 in
theorem t_X3_fillImages (E : xE) (a : Nat → Nat) (hM : Mem) {o : Mem} (hxt : xt_X3_fillImages hM = some o) : xMV (S := Unit) E yX3_fillImages cX3_fillImages 5 0 0 0 [.ref (a 1)] [(a 1, oX3 a), (a 8, aI E 128 (hM 8))] (fun _ => [(a 1, oX3 a), (a 8, aI E 128 (o 8))]) := by
  refine xMV.of (own := RX3) (lo0 := [(0, .ref (a 1))]) (ini := false) (fun h => nomatch h) (by decide +kernel) rfl rfl (Nat.le_of_ble_eq_true rfl) (fun V r hret => ?_)
  unfold xt_X3_fillImages at hxt
  refine r.iconst (v := (0 : Int32)) (DX3_fillImages_0 0 rfl) rfl ?_
  refine r.istore_n (lo' := [(1, .int (0 : Int32)), (0, .ref (a 1))]) (DX3_fillImages_0 1 rfl) (Nat.le_of_ble_eq_true rfl) rfl ?_
  refine r.rel (lo' := [(0, .ref (a 1)), (1, .int (0 : Int32))]) [1, 0] rfl ?_
  refine l_X3_fillImages_2 E a hM r (fun m_2 hxt => ?_) 10000 (0 : Int32) hM hxt
  cases hxt
  exact hret _ _ _ (DX3_fillImages_1 5 rfl) ⟨(), rfl⟩
set_option maxRecDepth 100000 in
set_option maxHeartbeats 4000000 in
theorem t_J9_min_7cf53 (E : xE) (x0 : Int32) (x1 : Int32) {o : Int32} (hxt : xt_J9_min_7cf53 x0 x1 = some o) : xMI (S := Unit) E yJ9_min_7cf53 cJ9_min_7cf53 2 .int 0 0 0 [.int x0, .int x1] [] (fun _ => o) (fun _ => []) := by
  refine xMI.of (own := RJ9) (lo0 := [(0, .int x0), (1, .int x1)]) (by decide +kernel) rfl rfl (Nat.le_of_ble_eq_true rfl) (fun V r hret => ?_)
  unfold xt_J9_min_7cf53 at hxt
  refine r.iload_n 0 (DJ9_min_7cf53 0 rfl) rfl ?_
  refine r.iload_n 1 (DJ9_min_7cf53 1 rfl) rfl ?_
  refine r.icmp_gt 9 (DJ9_min_7cf53 2 rfl) rfl hxt (fun _ hxt => ?_) (fun _ hxt => ?_)
  · refine r.iload_n 1 (DJ9_min_7cf53 5 rfl) rfl ?_
    cases hxt
    exact hret _ _ _ _ (DJ9_min_7cf53 6 rfl) rfl ⟨(), rfl, rfl⟩
  refine r.iload_n 0 (DJ9_min_7cf53 3 rfl) rfl ?_
  refine r.goto 10 (DJ9_min_7cf53 4 rfl) rfl ?_
  cases hxt
  exact hret _ _ _ _ (DJ9_min_7cf53 6 rfl) rfl ⟨(), rfl, rfl⟩
set_option maxRecDepth 100000 in
set_option maxHeartbeats 4000000 in
theorem t_J9_max_7cf53 (E : xE) (x0 : Int32) (x1 : Int32) {o : Int32} (hxt : xt_J9_max_7cf53 x0 x1 = some o) : xMI (S := Unit) E yJ9_max_7cf53 cJ9_max_7cf53 2 .int 0 0 0 [.int x0, .int x1] [] (fun _ => o) (fun _ => []) := by
  refine xMI.of (own := RJ9) (lo0 := [(0, .int x0), (1, .int x1)]) (by decide +kernel) rfl rfl (Nat.le_of_ble_eq_true rfl) (fun V r hret => ?_)
  unfold xt_J9_max_7cf53 at hxt
  refine r.iload_n 0 (DJ9_max_7cf53 0 rfl) rfl ?_
  refine r.iload_n 1 (DJ9_max_7cf53 1 rfl) rfl ?_
  refine r.icmp_lt 9 (DJ9_max_7cf53 2 rfl) rfl hxt (fun _ hxt => ?_) (fun _ hxt => ?_)
  · refine r.iload_n 1 (DJ9_max_7cf53 5 rfl) rfl ?_
    cases hxt
    exact hret _ _ _ _ (DJ9_max_7cf53 6 rfl) rfl ⟨(), rfl, rfl⟩
  refine r.iload_n 0 (DJ9_max_7cf53 3 rfl) rfl ?_
  refine r.goto 10 (DJ9_max_7cf53 4 rfl) rfl ?_
  cases hxt
  exact hret _ _ _ _ (DJ9_max_7cf53 6 rfl) rfl ⟨(), rfl, rfl⟩
set_option maxRecDepth 100000 in
set_option maxHeartbeats 4000000 in
theorem t_X6_place (E : xE) (a : Nat → Nat) (hp0 : Nat) (x1 : Int32) (x2 : Int32) (x3 : Int32) (x4 : Int32) (sp0 : Nat → Int32) {o : (Nat → Int32)} (hxt : xt_X6_place x1 x2 x3 x4 sp0 = some o) : xMV (S := Unit) E yX6_place cX6_place 5 1 0 0 [.ref hp0, .int x1, .int x2, .int x3, .int x4] [(hp0, oX6 sp0)] (fun _ => [(hp0, oX6 o)]) := by
  refine xMV.of (own := RX6) (lo0 := [(0, .ref hp0), (1, .int x1), (2, .int x2), (3, .int x3), (4, .int x4)]) (ini := false) (fun h => nomatch h) (by decide +kernel) rfl rfl (Nat.le_of_ble_eq_true rfl) (fun V r hret => ?_)
  unfold xt_X6_place at hxt
  refine r.aload_n 0 (DX6_place 0 rfl) rfl ?_
  refine r.iload_n 1 (DX6_place 1 rfl) rfl ?_
  refine r.put (ws' := [(hp0, oX6 (upd sp0 2 x1))]) kX6 f_X6_16 0 rfl rfl rfl rfl (Nat.le_of_ble_eq_true rfl) rfl (DX6_place 2 rfl) ?_
  refine r.aload_n 0 (DX6_place 3 rfl) rfl ?_
  refine r.iload_n 2 (DX6_place 4 rfl) rfl ?_
  refine r.put (ws' := [(hp0, oX6 (upd (upd sp0 2 x1) 3 x2))]) kX6 f_X6_19 0 rfl rfl rfl rfl (Nat.le_of_ble_eq_true rfl) rfl (DX6_place 5 rfl) ?_
  refine r.aload_n 0 (DX6_place 6 rfl) rfl ?_
  refine r.iload_n 3 (DX6_place 7 rfl) rfl ?_
  refine r.iload 4 (DX6_place 8 rfl) rfl ?_
  obtain ⟨o_1, ho_1, hxt⟩ := xbd hxt
  refine r.callSI0 (t_J9_min_7cf53 E x3 x4 ho_1) g_X6_28 rfl (DX6_place 9 rfl) rfl ⟨(Nat.le_of_ble_eq_true rfl), (Nat.le_of_ble_eq_true rfl)⟩ (Nat.le_of_ble_eq_true rfl) ?_
  refine r.put (ws' := [(hp0, oX6 (upd (upd (upd sp0 2 x1) 3 x2) 4 o_1))]) kX6 f_X6_22 0 rfl rfl rfl rfl (Nat.le_of_ble_eq_true rfl) rfl (DX6_place 10 rfl) ?_
  refine r.aload_n 0 (DX6_place 11 rfl) rfl ?_
  refine r.iload_n 3 (DX6_place 12 rfl) rfl ?_
  refine r.iload 4 (DX6_place 13 rfl) rfl ?_
  obtain ⟨o_2, ho_2, hxt⟩ := xbd hxt
  refine r.callSI0 (t_J9_max_7cf53 E x3 x4 ho_2) g_X6_34 rfl (DX6_place 14 rfl) rfl ⟨(Nat.le_of_ble_eq_true rfl), (Nat.le_of_ble_eq_true rfl)⟩ (Nat.le_of_ble_eq_true rfl) ?_
  refine r.put (ws' := [(hp0, oX6 (upd (upd (upd (upd sp0 2 x1) 3 x2) 4 o_1) 5 o_2))]) kX6 f_X6_25 0 rfl rfl rfl rfl (Nat.le_of_ble_eq_true rfl) rfl (DX6_place 15 rfl) ?_
  cases hxt
  exact hret _ _ _ (DX6_place 16 rfl) ⟨(), rfl⟩
set_option maxRecDepth 100000 in
set_option maxHeartbeats 4000000 in
theorem t_X6_take (E : xE) (a : Nat → Nat) (hp0 : Nat) (hp1 : Nat) (sp0 : Nat → Int32) (sp1 : Nat → Int32) {o : (Nat → Int32)} (hxt : xt_X6_take sp0 sp1 = some o) : xMV (S := Unit) E yX6_take cX6_take 2 0 0 0 [.ref hp0, .ref hp1] [(hp0, oX6 sp0), (hp1, oX6 sp1)] (fun _ => [(hp0, oX6 o), (hp1, oX6 sp1)]) := by
  refine xMV.of (own := RX6) (lo0 := [(0, .ref hp0), (1, .ref hp1)]) (ini := false) (fun h => nomatch h) (by decide +kernel) rfl rfl (Nat.le_of_ble_eq_true rfl) (fun V r hret => ?_)
  unfold xt_X6_take at hxt
  refine r.aload_n 0 (DX6_take 0 rfl) rfl ?_
  refine r.aload_n 1 (DX6_take 1 rfl) rfl ?_
  refine r.get (v := .int (sp1 0)) kX6 f_X6_7 rfl 1 rfl rfl (DX6_take 2 rfl) ?_
  refine r.put (ws' := [(hp0, oX6 (upd sp0 0 (sp1 0))), (hp1, oX6 sp1)]) kX6 f_X6_7 0 rfl rfl rfl rfl (Nat.le_of_ble_eq_true rfl) rfl (DX6_take 3 rfl) ?_
  refine r.aload_n 0 (DX6_take 4 rfl) rfl ?_
  refine r.aload_n 1 (DX6_take 5 rfl) rfl ?_
  refine r.get (v := .int (sp1 1)) kX6 f_X6_13 rfl 1 rfl rfl (DX6_take 6 rfl) ?_
  refine r.put (ws' := [(hp0, oX6 (upd (upd sp0 0 (sp1 0)) 1 (sp1 1))), (hp1, oX6 sp1)]) kX6 f_X6_13 0 rfl rfl rfl rfl (Nat.le_of_ble_eq_true rfl) rfl (DX6_take 7 rfl) ?_
  refine r.aload_n 0 (DX6_take 8 rfl) rfl ?_
  refine r.aload_n 1 (DX6_take 9 rfl) rfl ?_
  refine r.get (v := .int (sp1 2)) kX6 f_X6_16 rfl 1 rfl rfl (DX6_take 10 rfl) ?_
  refine r.put (ws' := [(hp0, oX6 (upd (upd (upd sp0 0 (sp1 0)) 1 (sp1 1)) 2 (sp1 2))), (hp1, oX6 sp1)]) kX6 f_X6_16 0 rfl rfl rfl rfl (Nat.le_of_ble_eq_true rfl) rfl (DX6_take 11 rfl) ?_
  refine r.aload_n 0 (DX6_take 12 rfl) rfl ?_
  refine r.aload_n 1 (DX6_take 13 rfl) rfl ?_
  refine r.get (v := .int (sp1 3)) kX6 f_X6_19 rfl 1 rfl rfl (DX6_take 14 rfl) ?_
  refine r.put (ws' := [(hp0, oX6 (upd (upd (upd (upd sp0 0 (sp1 0)) 1 (sp1 1)) 2 (sp1 2)) 3 (sp1 3))), (hp1, oX6 sp1)]) kX6 f_X6_19 0 rfl rfl rfl rfl (Nat.le_of_ble_eq_true rfl) rfl (DX6_take 15 rfl) ?_
  refine r.aload_n 0 (DX6_take 16 rfl) rfl ?_
  refine r.aload_n 1 (DX6_take 17 rfl) rfl ?_
  refine r.get (v := .int (sp1 4)) kX6 f_X6_22 rfl 1 rfl rfl (DX6_take 18 rfl) ?_
  refine r.put (ws' := [(hp0, oX6 (upd (upd (upd (upd (upd sp0 0 (sp1 0)) 1 (sp1 1)) 2 (sp1 2)) 3 (sp1 3)) 4 (sp1 4))), (hp1, oX6 sp1)]) kX6 f_X6_22 0 rfl rfl rfl rfl (Nat.le_of_ble_eq_true rfl) rfl (DX6_take 19 rfl) ?_
  refine r.aload_n 0 (DX6_take 20 rfl) rfl ?_
  refine r.aload_n 1 (DX6_take 21 rfl) rfl ?_
  refine r.get (v := .int (sp1 5)) kX6 f_X6_25 rfl 1 rfl rfl (DX6_take 22 rfl) ?_
  refine r.put (ws' := [(hp0, oX6 (upd (upd (upd (upd (upd (upd sp0 0 (sp1 0)) 1 (sp1 1)) 2 (sp1 2)) 3 (sp1 3)) 4 (sp1 4)) 5 (sp1 5))), (hp1, oX6 sp1)]) kX6 f_X6_25 0 rfl rfl rfl rfl (Nat.le_of_ble_eq_true rfl) rfl (DX6_take 23 rfl) ?_
  cases hxt
  exact hret _ _ _ (DX6_take 24 rfl) ⟨(), rfl⟩
set_option maxRecDepth 100000 in
set_option maxHeartbeats 4000000 in
theorem t_X6_setting (E : xE) (a : Nat → Nat) (hp0 : Nat) (x1 : Int32) (sp0 : Nat → Int32) {o : Int32} (hxt : xt_X6_setting x1 sp0 = some o) : xMI (S := Unit) E yX6_setting cX6_setting 2 .int 0 0 0 [.ref hp0, .int x1] [(hp0, oX6 sp0)] (fun _ => o) (fun _ => [(hp0, oX6 sp0)]) := by
  refine xMI.of (own := RX6) (lo0 := [(0, .ref hp0), (1, .int x1)]) (by decide +kernel) rfl rfl (Nat.le_of_ble_eq_true rfl) (fun V r hret => ?_)
  unfold xt_X6_setting at hxt
  refine r.aload_n 0 (DX6_setting 0 rfl) rfl ?_
  refine r.get (v := .int (sp0 0)) kX6 f_X6_7 rfl 0 rfl rfl (DX6_setting 1 rfl) ?_
  refine r.iload_n 1 (DX6_setting 2 rfl) rfl ?_
  refine r.ishr (DX6_setting 3 rfl) ?_
  refine r.iconst (v := (1 : Int32)) (DX6_setting 4 rfl) rfl ?_
  refine r.iand (DX6_setting 5 rfl) ?_
  cases hxt
  exact hret _ _ _ _ (DX6_setting 6 rfl) rfl ⟨(), rfl, rfl⟩
set_option maxRecDepth 100000 in
set_option maxHeartbeats 4000000 in
theorem t_X6_change (E : xE) (a : Nat → Nat) (hp0 : Nat) (x1 : Int32) (x2 : Int32) (sp0 : Nat → Int32) {o : (Nat → Int32)} (hxt : xt_X6_change x1 x2 sp0 = some o) : xMV (S := Unit) E yX6_change cX6_change 3 0 0 0 [.ref hp0, .int x1, .int x2] [(hp0, oX6 sp0)] (fun _ => [(hp0, oX6 o)]) := by
  refine xMV.of (own := RX6) (lo0 := [(0, .ref hp0), (1, .int x1), (2, .int x2)]) (ini := false) (fun h => nomatch h) (by decide +kernel) rfl rfl (Nat.le_of_ble_eq_true rfl) (fun V r hret => ?_)
  unfold xt_X6_change at hxt
  refine r.aload_n 0 (DX6_change 0 rfl) rfl ?_
  refine r.aload_n 0 (DX6_change 1 rfl) rfl ?_
  refine r.get (v := .int (sp0 0)) kX6 f_X6_7 rfl 0 rfl rfl (DX6_change 2 rfl) ?_
  refine r.iconst (v := (1 : Int32)) (DX6_change 3 rfl) rfl ?_
  refine r.iload_n 1 (DX6_change 4 rfl) rfl ?_
  refine r.ishl (DX6_change 5 rfl) ?_
  refine r.iconst (v := (-1 : Int32)) (DX6_change 6 rfl) rfl ?_
  refine r.ixor (DX6_change 7 rfl) ?_
  refine r.iand (DX6_change 8 rfl) ?_
  refine r.iload_n 2 (DX6_change 9 rfl) rfl ?_
  refine r.iload_n 1 (DX6_change 10 rfl) rfl ?_
  refine r.ishl (DX6_change 11 rfl) ?_
  refine r.ior (DX6_change 12 rfl) ?_
  refine r.put (ws' := [(hp0, oX6 (upd sp0 0 (((sp0 0) &&& (((1 : Int32) <<< (x1 &&& 31)) ^^^ (-1 : Int32))) ||| (x2 <<< (x1 &&& 31)))))]) kX6 f_X6_7 0 rfl rfl rfl rfl (Nat.le_of_ble_eq_true rfl) rfl (DX6_change 13 rfl) ?_
  cases hxt
  exact hret _ _ _ (DX6_change 14 rfl) ⟨(), rfl⟩
set_option maxRecDepth 100000 in
set_option maxHeartbeats 4000000 in
theorem t_X3_isPlace (E : xE) (x0 : Int32) {o : Int32} (hxt : xt_X3_isPlace x0 = some o) : xMI (S := Unit) E yX3_isPlace cX3_isPlace 1 .boolean 0 0 0 [.int x0] [] (fun _ => o) (fun _ => []) := by
  refine xMI.of (own := RX3) (lo0 := [(0, .int x0)]) (by decide +kernel) rfl rfl (Nat.le_of_ble_eq_true rfl) (fun V r hret => ?_)
  unfold xt_X3_isPlace at hxt
  refine r.iload_n 0 (DX3_isPlace 0 rfl) rfl ?_
  refine r.if_lt 14 (DX3_isPlace 1 rfl) rfl hxt (fun _ hxt => ?_) (fun _ hxt => ?_)
  · refine r.iconst (v := (0 : Int32)) (DX3_isPlace 7 rfl) rfl ?_
    cases hxt
    exact hret _ _ _ _ (DX3_isPlace 8 rfl) rfl ⟨(), rfl, rfl⟩
  refine r.iload_n 0 (DX3_isPlace 2 rfl) rfl ?_
  refine r.bipush (v := (16 : Int32)) (DX3_isPlace 3 rfl) rfl ?_
  refine r.icmp_ge 14 (DX3_isPlace 4 rfl) rfl hxt (fun _ hxt => ?_) (fun _ hxt => ?_)
  · refine r.iconst (v := (0 : Int32)) (DX3_isPlace 7 rfl) rfl ?_
    cases hxt
    exact hret _ _ _ _ (DX3_isPlace 8 rfl) rfl ⟨(), rfl, rfl⟩
  refine r.iconst (v := (1 : Int32)) (DX3_isPlace 5 rfl) rfl ?_
  refine r.goto 15 (DX3_isPlace 6 rfl) rfl ?_
  cases hxt
  exact hret _ _ _ _ (DX3_isPlace 8 rfl) rfl ⟨(), rfl, rfl⟩
set_option maxRecDepth 100000 in
set_option maxHeartbeats 4000000 in
theorem t_J6_bitCount_0f7a4 (E : xE) (x0 : Int32) {o : Int32} (hxt : xt_J6_bitCount_0f7a4 x0 = some o) : xMI (S := Unit) E yJ6_bitCount_0f7a4 cJ6_bitCount_0f7a4 1 .int 0 0 0 [.int x0] [] (fun _ => o) (fun _ => []) := by
  refine xMI.of (own := RJ6) (lo0 := [(0, .int x0)]) (by decide +kernel) rfl rfl (Nat.le_of_ble_eq_true rfl) (fun V r hret => ?_)
  unfold xt_J6_bitCount_0f7a4 at hxt
  refine r.iload_n 0 (DJ6_bitCount_0f7a4 0 rfl) rfl ?_
  refine r.iload_n 0 (DJ6_bitCount_0f7a4 1 rfl) rfl ?_
  refine r.iconst (v := (1 : Int32)) (DJ6_bitCount_0f7a4 2 rfl) rfl ?_
  refine r.iushr (DJ6_bitCount_0f7a4 3 rfl) ?_
  refine r.ldc_w (v := (1431655765 : Int32)) (DJ6_bitCount_0f7a4 4 rfl) m313 ?_
  refine r.iand (DJ6_bitCount_0f7a4 5 rfl) ?_
  refine r.isub (DJ6_bitCount_0f7a4 6 rfl) ?_
  refine r.istore_n (lo' := [(0, .int (x0 - (((x0.toUInt32 >>> ((1 : Int32).toUInt32 &&& Int32.toUInt32 31)).toInt32) &&& (1431655765 : Int32))))]) (DJ6_bitCount_0f7a4 7 rfl) (Nat.le_of_ble_eq_true rfl) rfl ?_
  refine r.iload_n 0 (DJ6_bitCount_0f7a4 8 rfl) rfl ?_
  refine r.ldc_w (v := (858993459 : Int32)) (DJ6_bitCount_0f7a4 9 rfl) m314 ?_
  refine r.iand (DJ6_bitCount_0f7a4 10 rfl) ?_
  refine r.iload_n 0 (DJ6_bitCount_0f7a4 11 rfl) rfl ?_
  refine r.iconst (v := (2 : Int32)) (DJ6_bitCount_0f7a4 12 rfl) rfl ?_
  refine r.iushr (DJ6_bitCount_0f7a4 13 rfl) ?_
  refine r.ldc_w (v := (858993459 : Int32)) (DJ6_bitCount_0f7a4 14 rfl) m314 ?_
  refine r.iand (DJ6_bitCount_0f7a4 15 rfl) ?_
  refine r.iadd (DJ6_bitCount_0f7a4 16 rfl) ?_
  refine r.istore_n (lo' := [(0, .int (((x0 - (((x0.toUInt32 >>> ((1 : Int32).toUInt32 &&& Int32.toUInt32 31)).toInt32) &&& (1431655765 : Int32))) &&& (858993459 : Int32)) + ((((x0 - (((x0.toUInt32 >>> ((1 : Int32).toUInt32 &&& Int32.toUInt32 31)).toInt32) &&& (1431655765 : Int32))).toUInt32 >>> ((2 : Int32).toUInt32 &&& Int32.toUInt32 31)).toInt32) &&& (858993459 : Int32))))]) (DJ6_bitCount_0f7a4 17 rfl) (Nat.le_of_ble_eq_true rfl) rfl ?_
  refine r.iload_n 0 (DJ6_bitCount_0f7a4 18 rfl) rfl ?_
  refine r.iload_n 0 (DJ6_bitCount_0f7a4 19 rfl) rfl ?_
  refine r.iconst (v := (4 : Int32)) (DJ6_bitCount_0f7a4 20 rfl) rfl ?_
  refine r.iushr (DJ6_bitCount_0f7a4 21 rfl) ?_
  refine r.iadd (DJ6_bitCount_0f7a4 22 rfl) ?_
  refine r.ldc_w (v := (252645135 : Int32)) (DJ6_bitCount_0f7a4 23 rfl) m315 ?_
  refine r.iand (DJ6_bitCount_0f7a4 24 rfl) ?_
  refine r.istore_n (lo' := [(0, .int (((((x0 - (((x0.toUInt32 >>> ((1 : Int32).toUInt32 &&& Int32.toUInt32 31)).toInt32) &&& (1431655765 : Int32))) &&& (858993459 : Int32)) + ((((x0 - (((x0.toUInt32 >>> ((1 : Int32).toUInt32 &&& Int32.toUInt32 31)).toInt32) &&& (1431655765 : Int32))).toUInt32 >>> ((2 : Int32).toUInt32 &&& Int32.toUInt32 31)).toInt32) &&& (858993459 : Int32))) + (((((x0 - (((x0.toUInt32 >>> ((1 : Int32).toUInt32 &&& Int32.toUInt32 31)).toInt32) &&& (1431655765 : Int32))) &&& (858993459 : Int32)) + ((((x0 - (((x0.toUInt32 >>> ((1 : Int32).toUInt32 &&& Int32.toUInt32 31)).toInt32) &&& (1431655765 : Int32))).toUInt32 >>> ((2 : Int32).toUInt32 &&& Int32.toUInt32 31)).toInt32) &&& (858993459 : Int32))).toUInt32 >>> ((4 : Int32).toUInt32 &&& Int32.toUInt32 31)).toInt32)) &&& (252645135 : Int32)))]) (DJ6_bitCount_0f7a4 25 rfl) (Nat.le_of_ble_eq_true rfl) rfl ?_
  refine r.iload_n 0 (DJ6_bitCount_0f7a4 26 rfl) rfl ?_
  refine r.iload_n 0 (DJ6_bitCount_0f7a4 27 rfl) rfl ?_
  refine r.bipush (v := (8 : Int32)) (DJ6_bitCount_0f7a4 28 rfl) rfl ?_
  refine r.iushr (DJ6_bitCount_0f7a4 29 rfl) ?_
  refine r.iadd (DJ6_bitCount_0f7a4 30 rfl) ?_
  refine r.istore_n (lo' := [(0, .int ((((((x0 - (((x0.toUInt32 >>> ((1 : Int32).toUInt32 &&& Int32.toUInt32 31)).toInt32) &&& (1431655765 : Int32))) &&& (858993459 : Int32)) + ((((x0 - (((x0.toUInt32 >>> ((1 : Int32).toUInt32 &&& Int32.toUInt32 31)).toInt32) &&& (1431655765 : Int32))).toUInt32 >>> ((2 : Int32).toUInt32 &&& Int32.toUInt32 31)).toInt32) &&& (858993459 : Int32))) + (((((x0 - (((x0.toUInt32 >>> ((1 : Int32).toUInt32 &&& Int32.toUInt32 31)).toInt32) &&& (1431655765 : Int32))) &&& (858993459 : Int32)) + ((((x0 - (((x0.toUInt32 >>> ((1 : Int32).toUInt32 &&& Int32.toUInt32 31)).toInt32) &&& (1431655765 : Int32))).toUInt32 >>> ((2 : Int32).toUInt32 &&& Int32.toUInt32 31)).toInt32) &&& (858993459 : Int32))).toUInt32 >>> ((4 : Int32).toUInt32 &&& Int32.toUInt32 31)).toInt32)) &&& (252645135 : Int32)) + (((((((x0 - (((x0.toUInt32 >>> ((1 : Int32).toUInt32 &&& Int32.toUInt32 31)).toInt32) &&& (1431655765 : Int32))) &&& (858993459 : Int32)) + ((((x0 - (((x0.toUInt32 >>> ((1 : Int32).toUInt32 &&& Int32.toUInt32 31)).toInt32) &&& (1431655765 : Int32))).toUInt32 >>> ((2 : Int32).toUInt32 &&& Int32.toUInt32 31)).toInt32) &&& (858993459 : Int32))) + (((((x0 - (((x0.toUInt32 >>> ((1 : Int32).toUInt32 &&& Int32.toUInt32 31)).toInt32) &&& (1431655765 : Int32))) &&& (858993459 : Int32)) + ((((x0 - (((x0.toUInt32 >>> ((1 : Int32).toUInt32 &&& Int32.toUInt32 31)).toInt32) &&& (1431655765 : Int32))).toUInt32 >>> ((2 : Int32).toUInt32 &&& Int32.toUInt32 31)).toInt32) &&& (858993459 : Int32))).toUInt32 >>> ((4 : Int32).toUInt32 &&& Int32.toUInt32 31)).toInt32)) &&& (252645135 : Int32)).toUInt32 >>> ((8 : Int32).toUInt32 &&& Int32.toUInt32 31)).toInt32)))]) (DJ6_bitCount_0f7a4 31 rfl) (Nat.le_of_ble_eq_true rfl) rfl ?_
  refine r.iload_n 0 (DJ6_bitCount_0f7a4 32 rfl) rfl ?_
  refine r.iload_n 0 (DJ6_bitCount_0f7a4 33 rfl) rfl ?_
  refine r.bipush (v := (16 : Int32)) (DJ6_bitCount_0f7a4 34 rfl) rfl ?_
  refine r.iushr (DJ6_bitCount_0f7a4 35 rfl) ?_
  refine r.iadd (DJ6_bitCount_0f7a4 36 rfl) ?_
  refine r.istore_n (lo' := [(0, .int (((((((x0 - (((x0.toUInt32 >>> ((1 : Int32).toUInt32 &&& Int32.toUInt32 31)).toInt32) &&& (1431655765 : Int32))) &&& (858993459 : Int32)) + ((((x0 - (((x0.toUInt32 >>> ((1 : Int32).toUInt32 &&& Int32.toUInt32 31)).toInt32) &&& (1431655765 : Int32))).toUInt32 >>> ((2 : Int32).toUInt32 &&& Int32.toUInt32 31)).toInt32) &&& (858993459 : Int32))) + (((((x0 - (((x0.toUInt32 >>> ((1 : Int32).toUInt32 &&& Int32.toUInt32 31)).toInt32) &&& (1431655765 : Int32))) &&& (858993459 : Int32)) + ((((x0 - (((x0.toUInt32 >>> ((1 : Int32).toUInt32 &&& Int32.toUInt32 31)).toInt32) &&& (1431655765 : Int32))).toUInt32 >>> ((2 : Int32).toUInt32 &&& Int32.toUInt32 31)).toInt32) &&& (858993459 : Int32))).toUInt32 >>> ((4 : Int32).toUInt32 &&& Int32.toUInt32 31)).toInt32)) &&& (252645135 : Int32)) + (((((((x0 - (((x0.toUInt32 >>> ((1 : Int32).toUInt32 &&& Int32.toUInt32 31)).toInt32) &&& (1431655765 : Int32))) &&& (858993459 : Int32)) + ((((x0 - (((x0.toUInt32 >>> ((1 : Int32).toUInt32 &&& Int32.toUInt32 31)).toInt32) &&& (1431655765 : Int32))).toUInt32 >>> ((2 : Int32).toUInt32 &&& Int32.toUInt32 31)).toInt32) &&& (858993459 : Int32))) + (((((x0 - (((x0.toUInt32 >>> ((1 : Int32).toUInt32 &&& Int32.toUInt32 31)).toInt32) &&& (1431655765 : Int32))) &&& (858993459 : Int32)) + ((((x0 - (((x0.toUInt32 >>> ((1 : Int32).toUInt32 &&& Int32.toUInt32 31)).toInt32) &&& (1431655765 : Int32))).toUInt32 >>> ((2 : Int32).toUInt32 &&& Int32.toUInt32 31)).toInt32) &&& (858993459 : Int32))).toUInt32 >>> ((4 : Int32).toUInt32 &&& Int32.toUInt32 31)).toInt32)) &&& (252645135 : Int32)).toUInt32 >>> ((8 : Int32).toUInt32 &&& Int32.toUInt32 31)).toInt32)) + ((((((((x0 - (((x0.toUInt32 >>> ((1 : Int32).toUInt32 &&& Int32.toUInt32 31)).toInt32) &&& (1431655765 : Int32))) &&& (858993459 : Int32)) + ((((x0 - (((x0.toUInt32 >>> ((1 : Int32).toUInt32 &&& Int32.toUInt32 31)).toInt32) &&& (1431655765 : Int32))).toUInt32 >>> ((2 : Int32).toUInt32 &&& Int32.toUInt32 31)).toInt32) &&& (858993459 : Int32))) + (((((x0 - (((x0.toUInt32 >>> ((1 : Int32).toUInt32 &&& Int32.toUInt32 31)).toInt32) &&& (1431655765 : Int32))) &&& (858993459 : Int32)) + ((((x0 - (((x0.toUInt32 >>> ((1 : Int32).toUInt32 &&& Int32.toUInt32 31)).toInt32) &&& (1431655765 : Int32))).toUInt32 >>> ((2 : Int32).toUInt32 &&& Int32.toUInt32 31)).toInt32) &&& (858993459 : Int32))).toUInt32 >>> ((4 : Int32).toUInt32 &&& Int32.toUInt32 31)).toInt32)) &&& (252645135 : Int32)) + (((((((x0 - (((x0.toUInt32 >>> ((1 : Int32).toUInt32 &&& Int32.toUInt32 31)).toInt32) &&& (1431655765 : Int32))) &&& (858993459 : Int32)) + ((((x0 - (((x0.toUInt32 >>> ((1 : Int32).toUInt32 &&& Int32.toUInt32 31)).toInt32) &&& (1431655765 : Int32))).toUInt32 >>> ((2 : Int32).toUInt32 &&& Int32.toUInt32 31)).toInt32) &&& (858993459 : Int32))) + (((((x0 - (((x0.toUInt32 >>> ((1 : Int32).toUInt32 &&& Int32.toUInt32 31)).toInt32) &&& (1431655765 : Int32))) &&& (858993459 : Int32)) + ((((x0 - (((x0.toUInt32 >>> ((1 : Int32).toUInt32 &&& Int32.toUInt32 31)).toInt32) &&& (1431655765 : Int32))).toUInt32 >>> ((2 : Int32).toUInt32 &&& Int32.toUInt32 31)).toInt32) &&& (858993459 : Int32))).toUInt32 >>> ((4 : Int32).toUInt32 &&& Int32.toUInt32 31)).toInt32)) &&& (252645135 : Int32)).toUInt32 >>> ((8 : Int32).toUInt32 &&& Int32.toUInt32 31)).toInt32)).toUInt32 >>> ((16 : Int32).toUInt32 &&& Int32.toUInt32 31)).toInt32)))]) (DJ6_bitCount_0f7a4 37 rfl) (Nat.le_of_ble_eq_true rfl) rfl ?_
  refine r.iload_n 0 (DJ6_bitCount_0f7a4 38 rfl) rfl ?_
  refine r.bipush (v := (63 : Int32)) (DJ6_bitCount_0f7a4 39 rfl) rfl ?_
  refine r.iand (DJ6_bitCount_0f7a4 40 rfl) ?_
  cases hxt
  exact hret _ _ _ _ (DJ6_bitCount_0f7a4 41 rfl) rfl ⟨(), rfl, rfl⟩
set_option maxRecDepth 100000 in
set_option maxHeartbeats 4000000 in
theorem t_X6_hunters (E : xE) (a : Nat → Nat) (hp0 : Nat) (sp0 : Nat → Int32) {o : Int32} (hxt : xt_X6_hunters sp0 = some o) : xMI (S := Unit) E yX6_hunters cX6_hunters 1 .int 0 0 0 [.ref hp0] [(hp0, oX6 sp0)] (fun _ => o) (fun _ => [(hp0, oX6 sp0)]) := by
  refine xMI.of (own := RX6) (lo0 := [(0, .ref hp0)]) (by decide +kernel) rfl rfl (Nat.le_of_ble_eq_true rfl) (fun V r hret => ?_)
  unfold xt_X6_hunters at hxt
  refine r.iconst (v := (1 : Int32)) (DX6_hunters 0 rfl) rfl ?_
  refine r.aload_n 0 (DX6_hunters 1 rfl) rfl ?_
  refine r.get (v := .int (sp0 4)) kX6 f_X6_22 rfl 0 rfl rfl (DX6_hunters 2 rfl) ?_
  refine r.ishl (DX6_hunters 3 rfl) ?_
  refine r.iconst (v := (1 : Int32)) (DX6_hunters 4 rfl) rfl ?_
  refine r.aload_n 0 (DX6_hunters 5 rfl) rfl ?_
  refine r.get (v := .int (sp0 5)) kX6 f_X6_25 rfl 0 rfl rfl (DX6_hunters 6 rfl) ?_
  refine r.ishl (DX6_hunters 7 rfl) ?_
  refine r.ior (DX6_hunters 8 rfl) ?_
  cases hxt
  exact hret _ _ _ _ (DX6_hunters 9 rfl) rfl ⟨(), rfl, rfl⟩
set_option maxRecDepth 100000 in
set_option maxHeartbeats 4000000 in
theorem t_X6_taken (E : xE) (a : Nat → Nat) (hp0 : Nat) (sp0 : Nat → Int32) {o : Int32} (hxt : xt_X6_taken sp0 = some o) : xMI (S := Unit) E yX6_taken cX6_taken 1 .int 1 0 0 [.ref hp0] [(hp0, oX6 sp0)] (fun _ => o) (fun _ => [(hp0, oX6 sp0)]) := by
  refine xMI.of (own := RX6) (lo0 := [(0, .ref hp0)]) (by decide +kernel) rfl rfl (Nat.le_of_ble_eq_true rfl) (fun V r hret => ?_)
  unfold xt_X6_taken at hxt
  refine r.aload_n 0 (DX6_taken 0 rfl) rfl ?_
  obtain ⟨o_1, ho_1, hxt⟩ := xbd hxt
  refine r.callVI 0 rfl rfl (t_X6_hunters E a hp0 sp0 ho_1) g_X6_37 rfl (DX6_taken 1 rfl) rfl ⟨(Nat.le_of_ble_eq_true rfl), (Nat.le_of_ble_eq_true rfl)⟩ ⟨(Nat.le_of_ble_eq_true rfl), (Nat.le_of_ble_eq_true rfl)⟩ (Nat.le_of_ble_eq_true rfl) [0] [] rfl rfl rfl rfl (by decide) [0] rfl (ws2 := fun _ => [(hp0, oX6 sp0)]) (fun _ => rfl) (fun _ => ?_)
  refine r.iconst (v := (1 : Int32)) (DX6_taken 2 rfl) rfl ?_
  refine r.aload_n 0 (DX6_taken 3 rfl) rfl ?_
  refine r.get (v := .int (sp0 3)) kX6 f_X6_19 rfl 0 rfl rfl (DX6_taken 4 rfl) ?_
  refine r.ishl (DX6_taken 5 rfl) ?_
  refine r.ior (DX6_taken 6 rfl) ?_
  cases hxt
  exact hret _ _ _ _ (DX6_taken 7 rfl) rfl ⟨(), rfl, rfl⟩
set_option maxRecDepth 100000 in
set_option maxHeartbeats 4000000 in
theorem t_X6_hunterOnFox (E : xE) (a : Nat → Nat) (hp0 : Nat) (sp0 : Nat → Int32) {o : Int32} (hxt : xt_X6_hunterOnFox sp0 = some o) : xMI (S := Unit) E yX6_hunterOnFox cX6_hunterOnFox 1 .boolean 0 0 0 [.ref hp0] [(hp0, oX6 sp0)] (fun _ => o) (fun _ => [(hp0, oX6 sp0)]) := by
  refine xMI.of (own := RX6) (lo0 := [(0, .ref hp0)]) (by decide +kernel) rfl rfl (Nat.le_of_ble_eq_true rfl) (fun V r hret => ?_)
  unfold xt_X6_hunterOnFox at hxt
  refine r.aload_n 0 (DX6_hunterOnFox 0 rfl) rfl ?_
  refine r.get (v := .int (sp0 3)) kX6 f_X6_19 rfl 0 rfl rfl (DX6_hunterOnFox 1 rfl) ?_
  refine r.aload_n 0 (DX6_hunterOnFox 2 rfl) rfl ?_
  refine r.get (v := .int (sp0 4)) kX6 f_X6_22 rfl 0 rfl rfl (DX6_hunterOnFox 3 rfl) ?_
  refine r.icmp_eq 22 (DX6_hunterOnFox 4 rfl) rfl hxt (fun _ hxt => ?_) (fun _ hxt => ?_)
  · refine r.iconst (v := (1 : Int32)) (DX6_hunterOnFox 10 rfl) rfl ?_
    refine r.goto 27 (DX6_hunterOnFox 11 rfl) rfl ?_
    cases hxt
    exact hret _ _ _ _ (DX6_hunterOnFox 13 rfl) rfl ⟨(), rfl, rfl⟩
  refine r.aload_n 0 (DX6_hunterOnFox 5 rfl) rfl ?_
  refine r.get (v := .int (sp0 3)) kX6 f_X6_19 rfl 0 rfl rfl (DX6_hunterOnFox 6 rfl) ?_
  refine r.aload_n 0 (DX6_hunterOnFox 7 rfl) rfl ?_
  refine r.get (v := .int (sp0 5)) kX6 f_X6_25 rfl 0 rfl rfl (DX6_hunterOnFox 8 rfl) ?_
  refine r.icmp_ne 26 (DX6_hunterOnFox 9 rfl) rfl hxt (fun _ hxt => ?_) (fun _ hxt => ?_)
  · refine r.iconst (v := (0 : Int32)) (DX6_hunterOnFox 12 rfl) rfl ?_
    cases hxt
    exact hret _ _ _ _ (DX6_hunterOnFox 13 rfl) rfl ⟨(), rfl, rfl⟩
  refine r.iconst (v := (1 : Int32)) (DX6_hunterOnFox 10 rfl) rfl ?_
  refine r.goto 27 (DX6_hunterOnFox 11 rfl) rfl ?_
  cases hxt
  exact hret _ _ _ _ (DX6_hunterOnFox 13 rfl) rfl ⟨(), rfl, rfl⟩
set_option maxRecDepth 100000 in
set_option maxHeartbeats 4000000 in
theorem t_X3_stepsFrom (E : xE) (a : Nat → Nat) (x1 : Int32) (x2 : Int32) (hM : Mem) {o : Int32} (hxt : xt_X3_stepsFrom x1 x2 hM = some o) : xMI (S := Unit) E yX3_stepsFrom cX3_stepsFrom 4 .int 0 0 0 [.ref (a 1), .int x1, .int x2] [(a 1, oX3 a), (a 2, aI E 16 (hM 2)), (a 3, aI E 16 (hM 3))] (fun _ => o) (fun _ => [(a 1, oX3 a), (a 2, aI E 16 (hM 2)), (a 3, aI E 16 (hM 3))]) := by
  refine xMI.of (own := RX3) (lo0 := [(0, .ref (a 1)), (1, .int x1), (2, .int x2)]) (by decide +kernel) rfl rfl (Nat.le_of_ble_eq_true rfl) (fun V r hret => ?_)
  unfold xt_X3_stepsFrom at hxt
  refine r.iload_n 1 (DX3_stepsFrom 0 rfl) rfl ?_
  refine r.bipush (v := (15 : Int32)) (DX3_stepsFrom 1 rfl) rfl ?_
  refine r.iand (DX3_stepsFrom 2 rfl) ?_
  refine r.istore_n (lo' := [(3, .int (x1 &&& (15 : Int32))), (0, .ref (a 1)), (1, .int x1), (2, .int x2)]) (DX3_stepsFrom 3 rfl) (Nat.le_of_ble_eq_true rfl) rfl ?_
  refine r.iload_n 3 (DX3_stepsFrom 4 rfl) rfl ?_
  refine r.if_eq 25 (DX3_stepsFrom 5 rfl) rfl hxt (fun _ hxt => ?_) (fun _ hxt => ?_)
  · refine r.aload_n 1 (DX3_stepsFrom 16 rfl) rfl ?_
    refine r.get (v := .ref (a 2)) kX3 f_X3_9 rfl 0 rfl rfl (DX3_stepsFrom 17 rfl) ?_
    refine r.iload_n 0 (DX3_stepsFrom 18 rfl) rfl ?_
    obtain ⟨hin, hxt⟩ := xgd_some hxt
    refine r.iald 1 rfl hin (DX3_stepsFrom 19 rfl) ?_
    cases hxt
    exact hret _ _ _ _ (DX3_stepsFrom 20 rfl) rfl ⟨(), rfl, rfl⟩
  refine r.aload_n 1 (DX3_stepsFrom 6 rfl) rfl ?_
  refine r.get (v := .ref (a 2)) kX3 f_X3_9 rfl 0 rfl rfl (DX3_stepsFrom 7 rfl) ?_
  refine r.iload_n 0 (DX3_stepsFrom 8 rfl) rfl ?_
  obtain ⟨hin, hxt⟩ := xgd_some hxt
  refine r.iald 1 rfl hin (DX3_stepsFrom 9 rfl) ?_
  refine r.aload_n 1 (DX3_stepsFrom 10 rfl) rfl ?_
  refine r.get (v := .ref (a 3)) kX3 f_X3_13 rfl 0 rfl rfl (DX3_stepsFrom 11 rfl) ?_
  refine r.iload_n 0 (DX3_stepsFrom 12 rfl) rfl ?_
  obtain ⟨hin, hxt⟩ := xgd_some hxt
  refine r.iald 2 rfl hin (DX3_stepsFrom 13 rfl) ?_
  refine r.ior (DX3_stepsFrom 14 rfl) ?_
  refine r.goto 31 (DX3_stepsFrom 15 rfl) rfl ?_
  cases hxt
  exact hret _ _ _ _ (DX3_stepsFrom 20 rfl) rfl ⟨(), rfl, rfl⟩
set_option maxRecDepth 100000 in
set_option maxHeartbeats 4000000 in
theorem l_J7_fill_53178_5 (E : xE) (a : Nat → Nat) (hp0 : Nat) (Np0 : Nat) (x1 : Int32) (x3 : Int32) {V : xVT} (r : Rl E RJ7 cJ7_fill_53178 (xR 0 0 0) 4 false V) {o : (Nat → Int32)} {k : (Nat → Int32) → Option ((Nat → Int32))} (hk : ∀ (wp0 : Nat → Int32), k wp0 = some o → V 0 0 20 [] [] [(hp0, aI E Np0 wp0)]) : ∀ (n : Nat) (v2 : Int32) (wp0 : Nat → Int32), xt_J7_fill_53178_l5 Np0 x1 x3 k n v2 wp0 = some o → V 0 0 5 [(0, .ref hp0), (1, .int x1), (2, .int v2), (3, .int x3)] [] [(hp0, aI E Np0 wp0)] := by
  intro n
  induction n with
  | zero => intro v2 wp0 hxt; exact xno hxt
  | succ n ih =>
    intro v2 wp0 hxt
    rw [xt_J7_fill_53178_l5] at hxt
    refine r.iload_n 2 (DJ7_fill_53178 5 rfl) rfl ?_
    refine r.iload_n 3 (DJ7_fill_53178 6 rfl) rfl ?_
    refine r.icmp_ge 20 (DJ7_fill_53178 7 rfl) rfl hxt (fun _ hxt => ?_) (fun _ hxt => ?_)
    · refine r.rel (lo' := []) [] rfl ?_
      exact hk wp0 hxt
    refine r.aload_n 0 (DJ7_fill_53178 8 rfl) rfl ?_
    refine r.iload_n 2 (DJ7_fill_53178 9 rfl) rfl ?_
    refine r.iload_n 1 (DJ7_fill_53178 10 rfl) rfl ?_
    obtain ⟨hin, hxt⟩ := xgd_some hxt
    refine r.iast (ws' := [(hp0, aI E Np0 (upd wp0 v2.toNatClampNeg x1))]) 0 rfl hin rfl (DJ7_fill_53178 11 rfl) ?_
    refine r.iinc (v := (v2 + (1 : Int32))) (lo' := [(2, .int (v2 + (1 : Int32))), (0, .ref hp0), (1, .int x1), (3, .int x3)]) 2 (DJ7_fill_53178 12 rfl) rfl rfl (Nat.le_of_ble_eq_true rfl) rfl ?_
    refine r.goto 5 (DJ7_fill_53178 13 rfl) rfl ?_
    refine r.rel (lo' := [(0, .ref hp0), (1, .int x1), (2, .int (v2 + (1 : Int32))), (3, .int x3)]) [1, 2, 0, 3] rfl ?_
    exact ih (v2 + (1 : Int32)) (upd wp0 v2.toNatClampNeg x1) hxt
set_option maxRecDepth 100000 in
set_option maxHeartbeats 4000000 in
theorem t_J7_fill_53178 (E : xE) (a : Nat → Nat) (hp0 : Nat) (Np0 : Nat) (x1 : Int32) (sp0 : Nat → Int32) {o : (Nat → Int32)} (hxt : xt_J7_fill_53178 Np0 x1 sp0 = some o) : xMV (S := Unit) E yJ7_fill_53178 cJ7_fill_53178 4 0 0 0 [.ref hp0, .int x1] [(hp0, aI E Np0 sp0)] (fun _ => [(hp0, aI E Np0 o)]) := by
  refine xMV.of (own := RJ7) (lo0 := [(0, .ref hp0), (1, .int x1)]) (ini := false) (fun h => nomatch h) (by decide +kernel) rfl rfl (Nat.le_of_ble_eq_true rfl) (fun V r hret => ?_)
  unfold xt_J7_fill_53178 at hxt
  refine r.iconst (v := (0 : Int32)) (DJ7_fill_53178 0 rfl) rfl ?_
  refine r.istore_n (lo' := [(2, .int (0 : Int32)), (0, .ref hp0), (1, .int x1)]) (DJ7_fill_53178 1 rfl) (Nat.le_of_ble_eq_true rfl) rfl ?_
  refine r.aload_n 1 (DJ7_fill_53178 2 rfl) rfl ?_
  refine r.alen (v := (Int32.ofNat Np0)) 0 0 rfl rfl rfl (DJ7_fill_53178 3 rfl) ?_
  refine r.istore_n (lo' := [(3, .int (Int32.ofNat Np0)), (2, .int (0 : Int32)), (0, .ref hp0), (1, .int x1)]) (DJ7_fill_53178 4 rfl) (Nat.le_of_ble_eq_true rfl) rfl ?_
  refine r.rel (lo' := [(0, .ref hp0), (1, .int x1), (2, .int (0 : Int32)), (3, .int (Int32.ofNat Np0))]) [2, 3, 1, 0] rfl ?_
  refine l_J7_fill_53178_5 E a hp0 Np0 x1 (Int32.ofNat Np0) r (fun sp0_1 hxt => ?_) 10000 (0 : Int32) sp0 hxt
  cases hxt
  exact hret _ _ _ (DJ7_fill_53178 14 rfl) ⟨(), rfl⟩
set_option maxRecDepth 100000 in
set_option maxHeartbeats 4000000 in
theorem t_X3_placesOf (E : xE) (a : Nat → Nat) (x1 : Int32) (hM : Mem) {o : Int32} (hxt : xt_X3_placesOf x1 hM = some o) : xMI (S := Unit) E yX3_placesOf cX3_placesOf 2 .int 0 0 0 [.ref (a 1), .int x1] [(a 1, oX3 a), (a 7, aI E 128 (hM 7))] (fun _ => o) (fun _ => [(a 1, oX3 a), (a 7, aI E 128 (hM 7))]) := by
  refine xMI.of (own := RX3) (lo0 := [(0, .ref (a 1)), (1, .int x1)]) (by decide +kernel) rfl rfl (Nat.le_of_ble_eq_true rfl) (fun V r hret => ?_)
  unfold xt_X3_placesOf at hxt
  refine r.aload_n 0 (DX3_placesOf 0 rfl) rfl ?_
  refine r.get (v := .ref (a 7)) kX3 f_X3_25 rfl 0 rfl rfl (DX3_placesOf 1 rfl) ?_
  refine r.iload_n 1 (DX3_placesOf 2 rfl) rfl ?_
  refine r.bipush (v := (127 : Int32)) (DX3_placesOf 3 rfl) rfl ?_
  refine r.iand (DX3_placesOf 4 rfl) ?_
  obtain ⟨hin, hxt⟩ := xgd_some hxt
  refine r.iald 1 rfl hin (DX3_placesOf 5 rfl) ?_
  cases hxt
  exact hret _ _ _ _ (DX3_placesOf 6 rfl) rfl ⟨(), rfl, rfl⟩
set_option maxRecDepth 100000 in
set_option maxHeartbeats 4000000 in
theorem t_X3_lowerOf (E : xE) (a : Nat → Nat) (x1 : Int32) (hM : Mem) {o : Int32} (hxt : xt_X3_lowerOf x1 hM = some o) : xMI (S := Unit) E yX3_lowerOf cX3_lowerOf 2 .int 0 0 0 [.ref (a 1), .int x1] [(a 1, oX3 a), (a 5, aI E 128 (hM 5))] (fun _ => o) (fun _ => [(a 1, oX3 a), (a 5, aI E 128 (hM 5))]) := by
  refine xMI.of (own := RX3) (lo0 := [(0, .ref (a 1)), (1, .int x1)]) (by decide +kernel) rfl rfl (Nat.le_of_ble_eq_true rfl) (fun V r hret => ?_)
  unfold xt_X3_lowerOf at hxt
  refine r.aload_n 0 (DX3_lowerOf 0 rfl) rfl ?_
  refine r.get (v := .ref (a 5)) kX3 f_X3_19 rfl 0 rfl rfl (DX3_lowerOf 1 rfl) ?_
  refine r.iload_n 1 (DX3_lowerOf 2 rfl) rfl ?_
  refine r.bipush (v := (127 : Int32)) (DX3_lowerOf 3 rfl) rfl ?_
  refine r.iand (DX3_lowerOf 4 rfl) ?_
  obtain ⟨hin, hxt⟩ := xgd_some hxt
  refine r.iald 1 rfl hin (DX3_lowerOf 5 rfl) ?_
  cases hxt
  exact hret _ _ _ _ (DX3_lowerOf 6 rfl) rfl ⟨(), rfl, rfl⟩
set_option maxRecDepth 100000 in
set_option maxHeartbeats 4000000 in
theorem t_X3_higherOf (E : xE) (a : Nat → Nat) (x1 : Int32) (hM : Mem) {o : Int32} (hxt : xt_X3_higherOf x1 hM = some o) : xMI (S := Unit) E yX3_higherOf cX3_higherOf 2 .int 0 0 0 [.ref (a 1), .int x1] [(a 1, oX3 a), (a 6, aI E 128 (hM 6))] (fun _ => o) (fun _ => [(a 1, oX3 a), (a 6, aI E 128 (hM 6))]) := by
  refine xMI.of (own := RX3) (lo0 := [(0, .ref (a 1)), (1, .int x1)]) (by decide +kernel) rfl rfl (Nat.le_of_ble_eq_true rfl) (fun V r hret => ?_)
  unfold xt_X3_higherOf at hxt
  refine r.aload_n 0 (DX3_higherOf 0 rfl) rfl ?_
  refine r.get (v := .ref (a 6)) kX3 f_X3_22 rfl 0 rfl rfl (DX3_higherOf 1 rfl) ?_
  refine r.iload_n 1 (DX3_higherOf 2 rfl) rfl ?_
  refine r.bipush (v := (127 : Int32)) (DX3_higherOf 3 rfl) rfl ?_
  refine r.iand (DX3_higherOf 4 rfl) ?_
  obtain ⟨hin, hxt⟩ := xgd_some hxt
  refine r.iald 1 rfl hin (DX3_higherOf 5 rfl) ?_
  cases hxt
  exact hret _ _ _ _ (DX3_higherOf 6 rfl) rfl ⟨(), rfl, rfl⟩
set_option maxRecDepth 100000 in
set_option maxHeartbeats 4000000 in
theorem t_X3_pairOf (E : xE) (a : Nat → Nat) (x1 : Int32) (x2 : Int32) (hM : Mem) {o : Int32} (hxt : xt_X3_pairOf x1 x2 hM = some o) : xMI (S := Unit) E yX3_pairOf cX3_pairOf 3 .int 0 0 0 [.ref (a 1), .int x1, .int x2] [(a 1, oX3 a), (a 4, aI E 256 (hM 4))] (fun _ => o) (fun _ => [(a 1, oX3 a), (a 4, aI E 256 (hM 4))]) := by
  refine xMI.of (own := RX3) (lo0 := [(0, .ref (a 1)), (1, .int x1), (2, .int x2)]) (by decide +kernel) rfl rfl (Nat.le_of_ble_eq_true rfl) (fun V r hret => ?_)
  unfold xt_X3_pairOf at hxt
  refine r.aload_n 0 (DX3_pairOf 0 rfl) rfl ?_
  refine r.get (v := .ref (a 4)) kX3 f_X3_16 rfl 0 rfl rfl (DX3_pairOf 1 rfl) ?_
  refine r.iload_n 1 (DX3_pairOf 2 rfl) rfl ?_
  refine r.bipush (v := (15 : Int32)) (DX3_pairOf 3 rfl) rfl ?_
  refine r.iand (DX3_pairOf 4 rfl) ?_
  refine r.bipush (v := (16 : Int32)) (DX3_pairOf 5 rfl) rfl ?_
  refine r.imul (DX3_pairOf 6 rfl) ?_
  refine r.iload_n 2 (DX3_pairOf 7 rfl) rfl ?_
  refine r.bipush (v := (15 : Int32)) (DX3_pairOf 8 rfl) rfl ?_
  refine r.iand (DX3_pairOf 9 rfl) ?_
  refine r.iadd (DX3_pairOf 10 rfl) ?_
  obtain ⟨hin, hxt⟩ := xgd_some hxt
  refine r.iald 1 rfl hin (DX3_pairOf 11 rfl) ?_
  cases hxt
  exact hret _ _ _ _ (DX3_pairOf 12 rfl) rfl ⟨(), rfl, rfl⟩
set_option maxRecDepth 100000 in
set_option maxHeartbeats 4000000 in
theorem t_X3_numberOf (E : xE) (a : Nat → Nat) (x1 : Int32) (x2 : Int32) (x3 : Int32) (x4 : Int32) (hM : Mem) {o : Int32} (hxt : xt_X3_numberOf x1 x2 x3 x4 hM = some o) : xMI (S := Unit) E yX3_numberOf cX3_numberOf 5 .int 1 0 0 [.ref (a 1), .int x1, .int x2, .int x3, .int x4] [(a 1, oX3 a), (a 4, aI E 256 (hM 4))] (fun _ => o) (fun _ => [(a 1, oX3 a), (a 4, aI E 256 (hM 4))]) := by
  refine xMI.of (own := RX3) (lo0 := [(0, .ref (a 1)), (1, .int x1), (2, .int x2), (3, .int x3), (4, .int x4)]) (by decide +kernel) rfl rfl (Nat.le_of_ble_eq_true rfl) (fun V r hret => ?_)
  unfold xt_X3_numberOf at hxt
  refine r.sipush (v := (2048 : Int32)) (DX3_numberOf 0 rfl) rfl ?_
  refine r.iload_n 1 (DX3_numberOf 1 rfl) rfl ?_
  refine r.imul (DX3_numberOf 2 rfl) ?_
  refine r.sipush (v := (128 : Int32)) (DX3_numberOf 3 rfl) rfl ?_
  refine r.iload_n 2 (DX3_numberOf 4 rfl) rfl ?_
  refine r.imul (DX3_numberOf 5 rfl) ?_
  refine r.iadd (DX3_numberOf 6 rfl) ?_
  refine r.aload_n 0 (DX3_numberOf 7 rfl) rfl ?_
  refine r.iload_n 3 (DX3_numberOf 8 rfl) rfl ?_
  refine r.iload 4 (DX3_numberOf 9 rfl) rfl ?_
  obtain ⟨o_1, ho_1, hxt⟩ := xbd hxt
  refine r.callVI 0 rfl rfl (t_X3_pairOf E a x3 x4 hM ho_1) g_X3_50 rfl (DX3_numberOf 10 rfl) rfl ⟨(Nat.le_of_ble_eq_true rfl), (Nat.le_of_ble_eq_true rfl)⟩ ⟨(Nat.le_of_ble_eq_true rfl), (Nat.le_of_ble_eq_true rfl)⟩ (Nat.le_of_ble_eq_true rfl) [0, 1] [] rfl rfl rfl rfl (by decide) [0, 1] rfl (ws2 := fun _ => [(a 1, oX3 a), (a 4, aI E 256 (hM 4))]) (fun _ => rfl) (fun _ => ?_)
  refine r.iadd (DX3_numberOf 11 rfl) ?_
  cases hxt
  exact hret _ _ _ _ (DX3_numberOf 12 rfl) rfl ⟨(), rfl, rfl⟩
set_option maxRecDepth 100000 in
set_option maxHeartbeats 4000000 in
theorem t_X5_canStand (E : xE) (x0 : Int32) (x1 : Int32) {o : Int32} (hxt : xt_X5_canStand x0 x1 = some o) : xMI (S := Unit) E yX5_canStand cX5_canStand 2 .boolean 0 0 0 [.int x0, .int x1] [] (fun _ => o) (fun _ => []) := by
  refine xMI.of (own := RX5) (lo0 := [(0, .int x0), (1, .int x1)]) (by decide +kernel) rfl rfl (Nat.le_of_ble_eq_true rfl) (fun V r hret => ?_)
  unfold xt_X5_canStand at hxt
  refine r.iload_n 1 (DX5_canStand 0 rfl) rfl ?_
  refine r.bipush (v := (20 : Int32)) (DX5_canStand 1 rfl) rfl ?_
  refine r.icmp_lt 8 (DX5_canStand 2 rfl) rfl hxt (fun _ hxt => ?_) (fun _ hxt => ?_)
  · refine r.iload_n 1 (DX5_canStand 5 rfl) rfl ?_
    refine r.bipush (v := (19 : Int32)) (DX5_canStand 6 rfl) rfl ?_
    refine r.icmp_ne 32 (DX5_canStand 7 rfl) rfl hxt (fun _ hxt => ?_) (fun _ hxt => ?_)
    · refine r.iload_n 1 (DX5_canStand 18 rfl) rfl ?_
      refine r.iconst (v := (5 : Int32)) (DX5_canStand 19 rfl) rfl ?_
      refine r.irem (DX5_canStand 20 rfl) (by decide) ?_
      refine r.iconst (v := (4 : Int32)) (DX5_canStand 21 rfl) rfl ?_
      refine r.icmp_ne 51 (DX5_canStand 22 rfl) rfl hxt (fun _ hxt => ?_) (fun _ hxt => ?_)
      · refine r.iload_n 0 (DX5_canStand 30 rfl) rfl ?_
        refine r.bipush (v := (46 : Int32)) (DX5_canStand 31 rfl) rfl ?_
        refine r.icmp_eq 75 (DX5_canStand 32 rfl) rfl hxt (fun _ hxt => ?_) (fun _ hxt => ?_)
        · refine r.iconst (v := (1 : Int32)) (DX5_canStand 42 rfl) rfl ?_
          refine r.goto 80 (DX5_canStand 43 rfl) rfl ?_
          cases hxt
          exact hret _ _ _ _ (DX5_canStand 45 rfl) rfl ⟨(), rfl, rfl⟩
        refine r.iload_n 0 (DX5_canStand 33 rfl) rfl ?_
        refine r.bipush (v := (35 : Int32)) (DX5_canStand 34 rfl) rfl ?_
        refine r.icmp_eq 75 (DX5_canStand 35 rfl) rfl hxt (fun _ hxt => ?_) (fun _ hxt => ?_)
        · refine r.iconst (v := (1 : Int32)) (DX5_canStand 42 rfl) rfl ?_
          refine r.goto 80 (DX5_canStand 43 rfl) rfl ?_
          cases hxt
          exact hret _ _ _ _ (DX5_canStand 45 rfl) rfl ⟨(), rfl, rfl⟩
        refine r.iload_n 0 (DX5_canStand 36 rfl) rfl ?_
        refine r.bipush (v := (70 : Int32)) (DX5_canStand 37 rfl) rfl ?_
        refine r.icmp_eq 75 (DX5_canStand 38 rfl) rfl hxt (fun _ hxt => ?_) (fun _ hxt => ?_)
        · refine r.iconst (v := (1 : Int32)) (DX5_canStand 42 rfl) rfl ?_
          refine r.goto 80 (DX5_canStand 43 rfl) rfl ?_
          cases hxt
          exact hret _ _ _ _ (DX5_canStand 45 rfl) rfl ⟨(), rfl, rfl⟩
        refine r.iload_n 0 (DX5_canStand 39 rfl) rfl ?_
        refine r.bipush (v := (72 : Int32)) (DX5_canStand 40 rfl) rfl ?_
        refine r.icmp_ne 79 (DX5_canStand 41 rfl) rfl hxt (fun _ hxt => ?_) (fun _ hxt => ?_)
        · refine r.iconst (v := (0 : Int32)) (DX5_canStand 44 rfl) rfl ?_
          cases hxt
          exact hret _ _ _ _ (DX5_canStand 45 rfl) rfl ⟨(), rfl, rfl⟩
        refine r.iconst (v := (1 : Int32)) (DX5_canStand 42 rfl) rfl ?_
        refine r.goto 80 (DX5_canStand 43 rfl) rfl ?_
        cases hxt
        exact hret _ _ _ _ (DX5_canStand 45 rfl) rfl ⟨(), rfl, rfl⟩
      refine r.iload_n 0 (DX5_canStand 23 rfl) rfl ?_
      refine r.bipush (v := (47 : Int32)) (DX5_canStand 24 rfl) rfl ?_
      refine r.icmp_ne 49 (DX5_canStand 25 rfl) rfl hxt (fun _ hxt => ?_) (fun _ hxt => ?_)
      · refine r.iconst (v := (0 : Int32)) (DX5_canStand 28 rfl) rfl ?_
        cases hxt
        exact hret _ _ _ _ (DX5_canStand 29 rfl) rfl ⟨(), rfl, rfl⟩
      refine r.iconst (v := (1 : Int32)) (DX5_canStand 26 rfl) rfl ?_
      refine r.goto 50 (DX5_canStand 27 rfl) rfl ?_
      cases hxt
      exact hret _ _ _ _ (DX5_canStand 29 rfl) rfl ⟨(), rfl, rfl⟩
    refine r.iload_n 0 (DX5_canStand 8 rfl) rfl ?_
    refine r.bipush (v := (104 : Int32)) (DX5_canStand 9 rfl) rfl ?_
    refine r.icmp_eq 26 (DX5_canStand 10 rfl) rfl hxt (fun _ hxt => ?_) (fun _ hxt => ?_)
    · refine r.iconst (v := (1 : Int32)) (DX5_canStand 14 rfl) rfl ?_
      refine r.goto 31 (DX5_canStand 15 rfl) rfl ?_
      cases hxt
      exact hret _ _ _ _ (DX5_canStand 17 rfl) rfl ⟨(), rfl, rfl⟩
    refine r.iload_n 0 (DX5_canStand 11 rfl) rfl ?_
    refine r.bipush (v := (102 : Int32)) (DX5_canStand 12 rfl) rfl ?_
    refine r.icmp_ne 30 (DX5_canStand 13 rfl) rfl hxt (fun _ hxt => ?_) (fun _ hxt => ?_)
    · refine r.iconst (v := (0 : Int32)) (DX5_canStand 16 rfl) rfl ?_
      cases hxt
      exact hret _ _ _ _ (DX5_canStand 17 rfl) rfl ⟨(), rfl, rfl⟩
    refine r.iconst (v := (1 : Int32)) (DX5_canStand 14 rfl) rfl ?_
    refine r.goto 31 (DX5_canStand 15 rfl) rfl ?_
    cases hxt
    exact hret _ _ _ _ (DX5_canStand 17 rfl) rfl ⟨(), rfl, rfl⟩
  refine r.iconst (v := (0 : Int32)) (DX5_canStand 3 rfl) rfl ?_
  cases hxt
  exact hret _ _ _ _ (DX5_canStand 4 rfl) rfl ⟨(), rfl, rfl⟩
set_option maxRecDepth 100000 in
set_option maxHeartbeats 4000000 in
theorem l_X5_firstFault_2 (E : xE) (a : Nat → Nat) (hM : Mem) {V : xVT} (r : Rl E RX5 cX5_firstFault (xR 1 0 0) 2 false V) {o : Int32} (hret : RtI cX5_firstFault V .int 0 0 (fun v ws => ∃ u : Unit, v = o ∧ ws = [(a 25, oX5 a (hM 25)), (a 26, aC E 24 (hM 26))])) {k : Unit → Option (Int32)} (hk : ∀ (_ : Unit), k () = some o → V 0 0 37 [(0, .ref (a 25))] [] [(a 25, oX5 a (hM 25)), (a 26, aC E 24 (hM 26))]) : ∀ (n : Nat) (v1 : Int32), xt_X5_firstFault_l2 hM k n v1 = some o → V 0 0 2 [(0, .ref (a 25)), (1, .int v1)] [] [(a 25, oX5 a (hM 25)), (a 26, aC E 24 (hM 26))] := by
  intro n
  induction n with
  | zero => intro v1 hxt; exact xno hxt
  | succ n ih =>
    intro v1 hxt
    rw [xt_X5_firstFault_l2] at hxt
    refine r.iload_n 1 (DX5_firstFault 2 rfl) rfl ?_
    refine r.aload_n 0 (DX5_firstFault 3 rfl) rfl ?_
    refine r.get (v := .int ((hM 25) 1)) kX5 f_X5_15 rfl 0 rfl rfl (DX5_firstFault 4 rfl) ?_
    refine r.icmp_ge 37 (DX5_firstFault 5 rfl) rfl hxt (fun _ hxt => ?_) (fun _ hxt => ?_)
    · refine r.rel (lo' := [(0, .ref (a 25))]) [0] rfl ?_
      exact hk () hxt
    refine r.iload_n 1 (DX5_firstFault 6 rfl) rfl ?_
    refine r.bipush (v := (24 : Int32)) (DX5_firstFault 7 rfl) rfl ?_
    refine r.icmp_ge 37 (DX5_firstFault 8 rfl) rfl hxt (fun _ hxt => ?_) (fun _ hxt => ?_)
    · refine r.rel (lo' := [(0, .ref (a 25))]) [0] rfl ?_
      exact hk () hxt
    refine r.aload_n 0 (DX5_firstFault 9 rfl) rfl ?_
    refine r.get (v := .ref (a 26)) kX5 f_X5_11 rfl 0 rfl rfl (DX5_firstFault 10 rfl) ?_
    refine r.iload_n 1 (DX5_firstFault 11 rfl) rfl ?_
    obtain ⟨hin, hxt⟩ := xgd_some hxt
    refine r.cald 1 rfl hin (DX5_firstFault 12 rfl) ?_
    refine r.iload_n 1 (DX5_firstFault 13 rfl) rfl ?_
    obtain ⟨o_1, ho_1, hxt⟩ := xbd hxt
    refine r.callSI0 (t_X5_canStand E ((hM 26) v1.toNatClampNeg) v1 ho_1) g_X5_21 rfl (DX5_firstFault 14 rfl) rfl ⟨(Nat.le_of_ble_eq_true rfl), (Nat.le_of_ble_eq_true rfl)⟩ (Nat.le_of_ble_eq_true rfl) ?_
    refine r.if_ne 31 (DX5_firstFault 15 rfl) rfl hxt (fun _ hxt => ?_) (fun _ hxt => ?_)
    · refine r.iinc (v := (v1 + (1 : Int32))) (lo' := [(1, .int (v1 + (1 : Int32))), (0, .ref (a 25))]) 1 (DX5_firstFault 18 rfl) rfl rfl (Nat.le_of_ble_eq_true rfl) rfl ?_
      refine r.goto 2 (DX5_firstFault 19 rfl) rfl ?_
      refine r.rel (lo' := [(0, .ref (a 25)), (1, .int (v1 + (1 : Int32)))]) [1, 0] rfl ?_
      exact ih (v1 + (1 : Int32)) hxt
    refine r.iload_n 1 (DX5_firstFault 16 rfl) rfl ?_
    cases hxt
    exact hret _ _ _ _ (DX5_firstFault 17 rfl) rfl ⟨(), rfl, rfl⟩
set_option maxRecDepth 100000 in
set_option maxHeartbeats 4000000 in
theorem t_X5_firstFault (E : xE) (a : Nat → Nat) (hM : Mem) {o : Int32} (hxt : xt_X5_firstFault hM = some o) : xMI (S := Unit) E yX5_firstFault cX5_firstFault 2 .int 1 0 0 [.ref (a 25)] [(a 25, oX5 a (hM 25)), (a 26, aC E 24 (hM 26))] (fun _ => o) (fun _ => [(a 25, oX5 a (hM 25)), (a 26, aC E 24 (hM 26))]) := by
  refine xMI.of (own := RX5) (lo0 := [(0, .ref (a 25))]) (by decide +kernel) rfl rfl (Nat.le_of_ble_eq_true rfl) (fun V r hret => ?_)
  unfold xt_X5_firstFault at hxt
  refine r.iconst (v := (0 : Int32)) (DX5_firstFault 0 rfl) rfl ?_
  refine r.istore_n (lo' := [(1, .int (0 : Int32)), (0, .ref (a 25))]) (DX5_firstFault 1 rfl) (Nat.le_of_ble_eq_true rfl) rfl ?_
  refine r.rel (lo' := [(0, .ref (a 25)), (1, .int (0 : Int32))]) [1, 0] rfl ?_
  refine l_X5_firstFault_2 E a hM r hret (fun _ hxt => ?_) 10000 (0 : Int32) hxt
  refine r.aload_n 0 (DX5_firstFault 20 rfl) rfl ?_
  refine r.get (v := .int ((hM 25) 1)) kX5 f_X5_15 rfl 0 rfl rfl (DX5_firstFault 21 rfl) ?_
  refine r.bipush (v := (20 : Int32)) (DX5_firstFault 22 rfl) rfl ?_
  refine r.icmp_ge 53 (DX5_firstFault 23 rfl) rfl hxt (fun _ hxt => ?_) (fun _ hxt => ?_)
  · refine r.bipush (v := (-6 : Int32)) (DX5_firstFault 27 rfl) rfl ?_
    cases hxt
    exact hret _ _ _ _ (DX5_firstFault 28 rfl) rfl ⟨(), rfl, rfl⟩
  refine r.aload_n 0 (DX5_firstFault 24 rfl) rfl ?_
  refine r.get (v := .int ((hM 25) 1)) kX5 f_X5_15 rfl 0 rfl rfl (DX5_firstFault 25 rfl) ?_
  refine r.goto 55 (DX5_firstFault 26 rfl) rfl ?_
  cases hxt
  exact hret _ _ _ _ (DX5_firstFault 28 rfl) rfl ⟨(), rfl, rfl⟩
set_option maxRecDepth 100000 in
set_option maxHeartbeats 4000000 in
theorem l_X5_placesOf_4 (E : xE) (a : Nat → Nat) (x1 : Int32) (hM : Mem) {V : xVT} (r : Rl E RX5 cX5_placesOf (xR 0 0 0) 4 false V) {o : Int32} {k : Int32 → Option (Int32)} (hk : ∀ (v2 : Int32), k v2 = some o → V 0 0 36 [(2, .int v2)] [] [(a 25, oX5 a (hM 25)), (a 26, aC E 24 (hM 26))]) : ∀ (n : Nat) (v2 : Int32) (v3 : Int32), xt_X5_placesOf_l4 x1 hM k n v2 v3 = some o → V 0 0 4 [(0, .ref (a 25)), (1, .int x1), (2, .int v2), (3, .int v3)] [] [(a 25, oX5 a (hM 25)), (a 26, aC E 24 (hM 26))] := by
  intro n
  induction n with
  | zero => intro v2 v3 hxt; exact xno hxt
  | succ n ih =>
    intro v2 v3 hxt
    rw [xt_X5_placesOf_l4] at hxt
    refine r.iload_n 3 (DX5_placesOf 4 rfl) rfl ?_
    refine r.bipush (v := (16 : Int32)) (DX5_placesOf 5 rfl) rfl ?_
    refine r.icmp_ge 36 (DX5_placesOf 6 rfl) rfl hxt (fun _ hxt => ?_) (fun _ hxt => ?_)
    · refine r.rel (lo' := [(2, .int v2)]) [2] rfl ?_
      exact hk v2 hxt
    refine r.aload_n 0 (DX5_placesOf 7 rfl) rfl ?_
    refine r.get (v := .ref (a 26)) kX5 f_X5_11 rfl 0 rfl rfl (DX5_placesOf 8 rfl) ?_
    refine r.iload_n 3 (DX5_placesOf 9 rfl) rfl ?_
    refine r.iload_n 3 (DX5_placesOf 10 rfl) rfl ?_
    refine r.iconst (v := (4 : Int32)) (DX5_placesOf 11 rfl) rfl ?_
    refine r.idiv (DX5_placesOf 12 rfl) (by decide) ?_
    refine r.iadd (DX5_placesOf 13 rfl) ?_
    obtain ⟨hin, hxt⟩ := xgd_some hxt
    refine r.cald 1 rfl hin (DX5_placesOf 14 rfl) ?_
    refine r.iload_n 1 (DX5_placesOf 15 rfl) rfl ?_
    refine r.icmp_ne 30 (DX5_placesOf 16 rfl) rfl hxt (fun _ hxt => ?_) (fun _ hxt => ?_)
    · refine r.iinc (v := (v3 + (1 : Int32))) (lo' := [(3, .int (v3 + (1 : Int32))), (0, .ref (a 25)), (1, .int x1), (2, .int v2)]) 3 (DX5_placesOf 23 rfl) rfl rfl (Nat.le_of_ble_eq_true rfl) rfl ?_
      refine r.goto 4 (DX5_placesOf 24 rfl) rfl ?_
      refine r.rel (lo' := [(0, .ref (a 25)), (1, .int x1), (2, .int v2), (3, .int (v3 + (1 : Int32)))]) [1, 2, 3, 0] rfl ?_
      exact ih v2 (v3 + (1 : Int32)) hxt
    refine r.iload_n 2 (DX5_placesOf 17 rfl) rfl ?_
    refine r.iconst (v := (1 : Int32)) (DX5_placesOf 18 rfl) rfl ?_
    refine r.iload_n 3 (DX5_placesOf 19 rfl) rfl ?_
    refine r.ishl (DX5_placesOf 20 rfl) ?_
    refine r.ior (DX5_placesOf 21 rfl) ?_
    refine r.istore_n (lo' := [(2, .int (v2 ||| ((1 : Int32) <<< (v3 &&& 31)))), (0, .ref (a 25)), (1, .int x1), (3, .int v3)]) (DX5_placesOf 22 rfl) (Nat.le_of_ble_eq_true rfl) rfl ?_
    refine r.iinc (v := (v3 + (1 : Int32))) (lo' := [(3, .int (v3 + (1 : Int32))), (2, .int (v2 ||| ((1 : Int32) <<< (v3 &&& 31)))), (0, .ref (a 25)), (1, .int x1)]) 3 (DX5_placesOf 23 rfl) rfl rfl (Nat.le_of_ble_eq_true rfl) rfl ?_
    refine r.goto 4 (DX5_placesOf 24 rfl) rfl ?_
    refine r.rel (lo' := [(0, .ref (a 25)), (1, .int x1), (2, .int (v2 ||| ((1 : Int32) <<< (v3 &&& 31)))), (3, .int (v3 + (1 : Int32)))]) [2, 3, 1, 0] rfl ?_
    exact ih (v2 ||| ((1 : Int32) <<< (v3 &&& 31))) (v3 + (1 : Int32)) hxt
set_option maxRecDepth 100000 in
set_option maxHeartbeats 4000000 in
theorem t_X5_placesOf (E : xE) (a : Nat → Nat) (x1 : Int32) (hM : Mem) {o : Int32} (hxt : xt_X5_placesOf x1 hM = some o) : xMI (S := Unit) E yX5_placesOf cX5_placesOf 4 .int 0 0 0 [.ref (a 25), .int x1] [(a 25, oX5 a (hM 25)), (a 26, aC E 24 (hM 26))] (fun _ => o) (fun _ => [(a 25, oX5 a (hM 25)), (a 26, aC E 24 (hM 26))]) := by
  refine xMI.of (own := RX5) (lo0 := [(0, .ref (a 25)), (1, .int x1)]) (by decide +kernel) rfl rfl (Nat.le_of_ble_eq_true rfl) (fun V r hret => ?_)
  unfold xt_X5_placesOf at hxt
  refine r.iconst (v := (0 : Int32)) (DX5_placesOf 0 rfl) rfl ?_
  refine r.istore_n (lo' := [(2, .int (0 : Int32)), (0, .ref (a 25)), (1, .int x1)]) (DX5_placesOf 1 rfl) (Nat.le_of_ble_eq_true rfl) rfl ?_
  refine r.iconst (v := (0 : Int32)) (DX5_placesOf 2 rfl) rfl ?_
  refine r.istore_n (lo' := [(3, .int (0 : Int32)), (2, .int (0 : Int32)), (0, .ref (a 25)), (1, .int x1)]) (DX5_placesOf 3 rfl) (Nat.le_of_ble_eq_true rfl) rfl ?_
  refine r.rel (lo' := [(0, .ref (a 25)), (1, .int x1), (2, .int (0 : Int32)), (3, .int (0 : Int32))]) [2, 3, 1, 0] rfl ?_
  refine l_X5_placesOf_4 E a x1 hM r (fun v2_1 hxt => ?_) 10000 (0 : Int32) (0 : Int32) hxt
  refine r.iload_n 0 (DX5_placesOf 25 rfl) rfl ?_
  cases hxt
  exact hret _ _ _ _ (DX5_placesOf 26 rfl) rfl ⟨(), rfl, rfl⟩
set_option maxRecDepth 100000 in
set_option maxHeartbeats 4000000 in
theorem t_X5_foxMoves (E : xE) (a : Nat → Nat) (hM : Mem) {o : Int32} (hxt : xt_X5_foxMoves hM = some o) : xMI (S := Unit) E yX5_foxMoves cX5_foxMoves 1 .boolean 0 0 0 [.ref (a 25)] [(a 25, oX5 a (hM 25)), (a 26, aC E 24 (hM 26))] (fun _ => o) (fun _ => [(a 25, oX5 a (hM 25)), (a 26, aC E 24 (hM 26))]) := by
  refine xMI.of (own := RX5) (lo0 := [(0, .ref (a 25))]) (by decide +kernel) rfl rfl (Nat.le_of_ble_eq_true rfl) (fun V r hret => ?_)
  unfold xt_X5_foxMoves at hxt
  refine r.aload_n 0 (DX5_foxMoves 0 rfl) rfl ?_
  refine r.get (v := .ref (a 26)) kX5 f_X5_11 rfl 0 rfl rfl (DX5_foxMoves 1 rfl) ?_
  refine r.bipush (v := (19 : Int32)) (DX5_foxMoves 2 rfl) rfl ?_
  obtain ⟨hin, hxt⟩ := xgd_some hxt
  refine r.cald 1 rfl hin (DX5_foxMoves 3 rfl) ?_
  refine r.bipush (v := (102 : Int32)) (DX5_foxMoves 4 rfl) rfl ?_
  refine r.icmp_ne 16 (DX5_foxMoves 5 rfl) rfl hxt (fun _ hxt => ?_) (fun _ hxt => ?_)
  · refine r.iconst (v := (0 : Int32)) (DX5_foxMoves 8 rfl) rfl ?_
    cases hxt
    exact hret _ _ _ _ (DX5_foxMoves 9 rfl) rfl ⟨(), rfl, rfl⟩
  refine r.iconst (v := (1 : Int32)) (DX5_foxMoves 6 rfl) rfl ?_
  refine r.goto 17 (DX5_foxMoves 7 rfl) rfl ?_
  cases hxt
  exact hret _ _ _ _ (DX5_foxMoves 9 rfl) rfl ⟨(), rfl, rfl⟩
set_option maxRecDepth 100000 in
set_option maxHeartbeats 4000000 in
theorem l_X3_lowest_2 (E : xE) (x0 : Int32) {V : xVT} (r : Rl E RX3 cX3_lowest (xR 0 0 0) 2 false V) {o : Int32} (hret : RtI cX3_lowest V .int 0 0 (fun v ws => ∃ u : Unit, v = o ∧ ws = [])) {k : Unit → Option (Int32)} (hk : ∀ (_ : Unit), k () = some o → V 0 0 24 [] [] []) : ∀ (n : Nat) (v1 : Int32), xt_X3_lowest_l2 x0 k n v1 = some o → V 0 0 2 [(0, .int x0), (1, .int v1)] [] [] := by
  intro n
  induction n with
  | zero => intro v1 hxt; exact xno hxt
  | succ n ih =>
    intro v1 hxt
    rw [xt_X3_lowest_l2] at hxt
    refine r.iload_n 1 (DX3_lowest 2 rfl) rfl ?_
    refine r.bipush (v := (16 : Int32)) (DX3_lowest 3 rfl) rfl ?_
    refine r.icmp_ge 24 (DX3_lowest 4 rfl) rfl hxt (fun _ hxt => ?_) (fun _ hxt => ?_)
    · refine r.rel (lo' := []) [] rfl ?_
      exact hk () hxt
    refine r.iload_n 0 (DX3_lowest 5 rfl) rfl ?_
    refine r.iload_n 1 (DX3_lowest 6 rfl) rfl ?_
    refine r.ishr (DX3_lowest 7 rfl) ?_
    refine r.iconst (v := (1 : Int32)) (DX3_lowest 8 rfl) rfl ?_
    refine r.iand (DX3_lowest 9 rfl) ?_
    refine r.if_eq 18 (DX3_lowest 10 rfl) rfl hxt (fun _ hxt => ?_) (fun _ hxt => ?_)
    · refine r.iinc (v := (v1 + (1 : Int32))) (lo' := [(1, .int (v1 + (1 : Int32))), (0, .int x0)]) 1 (DX3_lowest 13 rfl) rfl rfl (Nat.le_of_ble_eq_true rfl) rfl ?_
      refine r.goto 2 (DX3_lowest 14 rfl) rfl ?_
      refine r.rel (lo' := [(0, .int x0), (1, .int (v1 + (1 : Int32)))]) [1, 0] rfl ?_
      exact ih (v1 + (1 : Int32)) hxt
    refine r.iload_n 1 (DX3_lowest 11 rfl) rfl ?_
    cases hxt
    exact hret _ _ _ _ (DX3_lowest 12 rfl) rfl ⟨(), rfl, rfl⟩
set_option maxRecDepth 100000 in
set_option maxHeartbeats 4000000 in
theorem t_X3_lowest (E : xE) (x0 : Int32) {o : Int32} (hxt : xt_X3_lowest x0 = some o) : xMI (S := Unit) E yX3_lowest cX3_lowest 2 .int 0 0 0 [.int x0] [] (fun _ => o) (fun _ => []) := by
  refine xMI.of (own := RX3) (lo0 := [(0, .int x0)]) (by decide +kernel) rfl rfl (Nat.le_of_ble_eq_true rfl) (fun V r hret => ?_)
  unfold xt_X3_lowest at hxt
  refine r.iconst (v := (0 : Int32)) (DX3_lowest 0 rfl) rfl ?_
  refine r.istore_n (lo' := [(1, .int (0 : Int32)), (0, .int x0)]) (DX3_lowest 1 rfl) (Nat.le_of_ble_eq_true rfl) rfl ?_
  refine r.rel (lo' := [(0, .int x0), (1, .int (0 : Int32))]) [1, 0] rfl ?_
  refine l_X3_lowest_2 E x0 r hret (fun _ hxt => ?_) 10000 (0 : Int32) hxt
  refine r.iconst (v := (0 : Int32)) (DX3_lowest 15 rfl) rfl ?_
  cases hxt
  exact hret _ _ _ _ (DX3_lowest 16 rfl) rfl ⟨(), rfl, rfl⟩
set_option maxRecDepth 100000 in
set_option maxHeartbeats 4000000 in
theorem l_X3_highest_3 (E : xE) (x0 : Int32) {V : xVT} (r : Rl E RX3 cX3_highest (xR 0 0 0) 2 false V) {o : Int32} (hret : RtI cX3_highest V .int 0 0 (fun v ws => ∃ u : Unit, v = o ∧ ws = [])) {k : Unit → Option (Int32)} (hk : ∀ (_ : Unit), k () = some o → V 0 0 23 [] [] []) : ∀ (n : Nat) (v1 : Int32), xt_X3_highest_l3 x0 k n v1 = some o → V 0 0 3 [(0, .int x0), (1, .int v1)] [] [] := by
  intro n
  induction n with
  | zero => intro v1 hxt; exact xno hxt
  | succ n ih =>
    intro v1 hxt
    rw [xt_X3_highest_l3] at hxt
    refine r.iload_n 1 (DX3_highest 2 rfl) rfl ?_
    refine r.if_le 23 (DX3_highest 3 rfl) rfl hxt (fun _ hxt => ?_) (fun _ hxt => ?_)
    · refine r.rel (lo' := []) [] rfl ?_
      exact hk () hxt
    refine r.iload_n 0 (DX3_highest 4 rfl) rfl ?_
    refine r.iload_n 1 (DX3_highest 5 rfl) rfl ?_
    refine r.ishr (DX3_highest 6 rfl) ?_
    refine r.iconst (v := (1 : Int32)) (DX3_highest 7 rfl) rfl ?_
    refine r.iand (DX3_highest 8 rfl) ?_
    refine r.if_eq 17 (DX3_highest 9 rfl) rfl hxt (fun _ hxt => ?_) (fun _ hxt => ?_)
    · refine r.iinc (v := (v1 + (-1 : Int32))) (lo' := [(1, .int (v1 + (-1 : Int32))), (0, .int x0)]) 1 (DX3_highest 12 rfl) rfl rfl (Nat.le_of_ble_eq_true rfl) rfl ?_
      refine r.goto 3 (DX3_highest 13 rfl) rfl ?_
      refine r.rel (lo' := [(0, .int x0), (1, .int (v1 + (-1 : Int32)))]) [1, 0] rfl ?_
      exact ih (v1 + (-1 : Int32)) hxt
    refine r.iload_n 1 (DX3_highest 10 rfl) rfl ?_
    cases hxt
    exact hret _ _ _ _ (DX3_highest 11 rfl) rfl ⟨(), rfl, rfl⟩
set_option maxRecDepth 100000 in
set_option maxHeartbeats 4000000 in
theorem t_X3_highest (E : xE) (x0 : Int32) {o : Int32} (hxt : xt_X3_highest x0 = some o) : xMI (S := Unit) E yX3_highest cX3_highest 2 .int 0 0 0 [.int x0] [] (fun _ => o) (fun _ => []) := by
  refine xMI.of (own := RX3) (lo0 := [(0, .int x0)]) (by decide +kernel) rfl rfl (Nat.le_of_ble_eq_true rfl) (fun V r hret => ?_)
  unfold xt_X3_highest at hxt
  refine r.bipush (v := (15 : Int32)) (DX3_highest 0 rfl) rfl ?_
  refine r.istore_n (lo' := [(1, .int (15 : Int32)), (0, .int x0)]) (DX3_highest 1 rfl) (Nat.le_of_ble_eq_true rfl) rfl ?_
  refine r.rel (lo' := [(0, .int x0), (1, .int (15 : Int32))]) [1, 0] rfl ?_
  refine l_X3_highest_3 E x0 r hret (fun _ hxt => ?_) 10000 (15 : Int32) hxt
  refine r.iconst (v := (0 : Int32)) (DX3_highest 14 rfl) rfl ?_
  cases hxt
  exact hret _ _ _ _ (DX3_highest 15 rfl) rfl ⟨(), rfl, rfl⟩
set_option maxRecDepth 100000 in
set_option maxHeartbeats 4000000 in
theorem t_X5_empty (E : xE) (a : Nat → Nat) (hM : Mem) {o : Mem} (hxt : xt_X5_empty hM = some o) : xMV (S := Unit) E yX5_empty cX5_empty 1 0 0 0 [.ref (a 25)] [(a 25, oX5 a (hM 25))] (fun _ => [(a 25, oX5 a (o 25))]) := by
  refine xMV.of (own := RX5) (lo0 := [(0, .ref (a 25))]) (ini := false) (fun h => nomatch h) (by decide +kernel) rfl rfl (Nat.le_of_ble_eq_true rfl) (fun V r hret => ?_)
  unfold xt_X5_empty at hxt
  refine r.aload_n 0 (DX5_empty 0 rfl) rfl ?_
  refine r.iconst (v := (0 : Int32)) (DX5_empty 1 rfl) rfl ?_
  refine r.put (ws' := [(a 25, oX5 a (upd (hM 25) 1 (0 : Int32)))]) kX5 f_X5_15 0 rfl rfl rfl rfl (Nat.le_of_ble_eq_true rfl) rfl (DX5_empty 2 rfl) ?_
  cases hxt
  exact hret _ _ _ (DX5_empty 3 rfl) ⟨(), rfl⟩
set_option maxRecDepth 100000 in
set_option maxHeartbeats 4000000 in
theorem t_X3_image (E : xE) (a : Nat → Nat) (x1 : Int32) (x2 : Int32) (hM : Mem) {o : Int32} (hxt : xt_X3_image x1 x2 hM = some o) : xMI (S := Unit) E yX3_image cX3_image 3 .int 0 0 0 [.ref (a 1), .int x1, .int x2] [(a 1, oX3 a), (a 8, aI E 128 (hM 8))] (fun _ => o) (fun _ => [(a 1, oX3 a), (a 8, aI E 128 (hM 8))]) := by
  refine xMI.of (own := RX3) (lo0 := [(0, .ref (a 1)), (1, .int x1), (2, .int x2)]) (by decide +kernel) rfl rfl (Nat.le_of_ble_eq_true rfl) (fun V r hret => ?_)
  unfold xt_X3_image at hxt
  refine r.aload_n 0 (DX3_image 0 rfl) rfl ?_
  refine r.get (v := .ref (a 8)) kX3 f_X3_28 rfl 0 rfl rfl (DX3_image 1 rfl) ?_
  refine r.iload_n 1 (DX3_image 2 rfl) rfl ?_
  refine r.bipush (v := (7 : Int32)) (DX3_image 3 rfl) rfl ?_
  refine r.iand (DX3_image 4 rfl) ?_
  refine r.bipush (v := (16 : Int32)) (DX3_image 5 rfl) rfl ?_
  refine r.imul (DX3_image 6 rfl) ?_
  refine r.iload_n 2 (DX3_image 7 rfl) rfl ?_
  refine r.bipush (v := (15 : Int32)) (DX3_image 8 rfl) rfl ?_
  refine r.iand (DX3_image 9 rfl) ?_
  refine r.iadd (DX3_image 10 rfl) ?_
  obtain ⟨hin, hxt⟩ := xgd_some hxt
  refine r.iald 1 rfl hin (DX3_image 11 rfl) ?_
  cases hxt
  exact hret _ _ _ _ (DX3_image 12 rfl) rfl ⟨(), rfl, rfl⟩
set_option maxRecDepth 100000 in
set_option maxHeartbeats 4000000 in
theorem t_X3_pairIn (E : xE) (x0 : Int32) {o : Int32} (hxt : xt_X3_pairIn x0 = some o) : xMI (S := Unit) E yX3_pairIn cX3_pairIn 1 .int 0 0 0 [.int x0] [] (fun _ => o) (fun _ => []) := by
  refine xMI.of (own := RX3) (lo0 := [(0, .int x0)]) (by decide +kernel) rfl rfl (Nat.le_of_ble_eq_true rfl) (fun V r hret => ?_)
  unfold xt_X3_pairIn at hxt
  refine r.iload_n 0 (DX3_pairIn 0 rfl) rfl ?_
  refine r.bipush (v := (127 : Int32)) (DX3_pairIn 1 rfl) rfl ?_
  refine r.iand (DX3_pairIn 2 rfl) ?_
  cases hxt
  exact hret _ _ _ _ (DX3_pairIn 3 rfl) rfl ⟨(), rfl, rfl⟩
set_option maxRecDepth 100000 in
set_option maxHeartbeats 4000000 in
theorem t_X3_foxOf (E : xE) (x0 : Int32) {o : Int32} (hxt : xt_X3_foxOf x0 = some o) : xMI (S := Unit) E yX3_foxOf cX3_foxOf 1 .int 0 0 0 [.int x0] [] (fun _ => o) (fun _ => []) := by
  refine xMI.of (own := RX3) (lo0 := [(0, .int x0)]) (by decide +kernel) rfl rfl (Nat.le_of_ble_eq_true rfl) (fun V r hret => ?_)
  unfold xt_X3_foxOf at hxt
  refine r.iload_n 0 (DX3_foxOf 0 rfl) rfl ?_
  refine r.bipush (v := (7 : Int32)) (DX3_foxOf 1 rfl) rfl ?_
  refine r.ishr (DX3_foxOf 2 rfl) ?_
  refine r.bipush (v := (15 : Int32)) (DX3_foxOf 3 rfl) rfl ?_
  refine r.iand (DX3_foxOf 4 rfl) ?_
  cases hxt
  exact hret _ _ _ _ (DX3_foxOf 5 rfl) rfl ⟨(), rfl, rfl⟩
set_option maxRecDepth 100000 in
set_option maxHeartbeats 4000000 in
theorem t_X3_whoOf (E : xE) (x0 : Int32) {o : Int32} (hxt : xt_X3_whoOf x0 = some o) : xMI (S := Unit) E yX3_whoOf cX3_whoOf 1 .int 0 0 0 [.int x0] [] (fun _ => o) (fun _ => []) := by
  refine xMI.of (own := RX3) (lo0 := [(0, .int x0)]) (by decide +kernel) rfl rfl (Nat.le_of_ble_eq_true rfl) (fun V r hret => ?_)
  unfold xt_X3_whoOf at hxt
  refine r.iload_n 0 (DX3_whoOf 0 rfl) rfl ?_
  refine r.bipush (v := (11 : Int32)) (DX3_whoOf 1 rfl) rfl ?_
  refine r.ishr (DX3_whoOf 2 rfl) ?_
  refine r.iconst (v := (1 : Int32)) (DX3_whoOf 3 rfl) rfl ?_
  refine r.iand (DX3_whoOf 4 rfl) ?_
  cases hxt
  exact hret _ _ _ _ (DX3_whoOf 5 rfl) rfl ⟨(), rfl, rfl⟩
set_option maxRecDepth 100000 in
set_option maxHeartbeats 4000000 in
theorem t_X5_length (E : xE) (a : Nat → Nat) (hM : Mem) {o : Int32} (hxt : xt_X5_length hM = some o) : xMI (S := Unit) E yX5_length cX5_length 1 .int 0 0 0 [.ref (a 25)] [(a 25, oX5 a (hM 25))] (fun _ => o) (fun _ => [(a 25, oX5 a (hM 25))]) := by
  refine xMI.of (own := RX5) (lo0 := [(0, .ref (a 25))]) (by decide +kernel) rfl rfl (Nat.le_of_ble_eq_true rfl) (fun V r hret => ?_)
  unfold xt_X5_length at hxt
  refine r.aload_n 0 (DX5_length 0 rfl) rfl ?_
  refine r.get (v := .int ((hM 25) 1)) kX5 f_X5_15 rfl 0 rfl rfl (DX5_length 1 rfl) ?_
  cases hxt
  exact hret _ _ _ _ (DX5_length 2 rfl) rfl ⟨(), rfl, rfl⟩
set_option maxRecDepth 100000 in
set_option maxHeartbeats 4000000 in
theorem t_X3_isPosition (E : xE) (a : Nat → Nat) (x1 : Int32) (x2 : Int32) (hM : Mem) {o : Int32} (hxt : xt_X3_isPosition x1 x2 hM = some o) : xMI (S := Unit) E yX3_isPosition cX3_isPosition 6 .boolean 1 0 0 [.ref (a 1), .int x1, .int x2] [(a 1, oX3 a), (a 7, aI E 128 (hM 7))] (fun _ => o) (fun _ => [(a 1, oX3 a), (a 7, aI E 128 (hM 7))]) := by
  refine xMI.of (own := RX3) (lo0 := [(0, .ref (a 1)), (1, .int x1), (2, .int x2)]) (by decide +kernel) rfl rfl (Nat.le_of_ble_eq_true rfl) (fun V r hret => ?_)
  unfold xt_X3_isPosition at hxt
  refine r.iload_n 1 (DX3_isPosition 0 rfl) rfl ?_
  obtain ⟨o_1, ho_1, hxt⟩ := xbd hxt
  refine r.callSI0 (t_X3_pairIn E x1 ho_1) g_X3_53 rfl (DX3_isPosition 1 rfl) rfl ⟨(Nat.le_of_ble_eq_true rfl), (Nat.le_of_ble_eq_true rfl)⟩ (Nat.le_of_ble_eq_true rfl) ?_
  refine r.istore_n (lo' := [(3, .int o_1), (0, .ref (a 1)), (1, .int x1), (2, .int x2)]) (DX3_isPosition 2 rfl) (Nat.le_of_ble_eq_true rfl) rfl ?_
  refine r.iconst (v := (1 : Int32)) (DX3_isPosition 3 rfl) rfl ?_
  refine r.iload_n 2 (DX3_isPosition 4 rfl) rfl ?_
  obtain ⟨o_2, ho_2, hxt⟩ := xbd hxt
  refine r.callSI0 (t_X3_foxOf E x1 ho_2) g_X3_56 rfl (DX3_isPosition 5 rfl) rfl ⟨(Nat.le_of_ble_eq_true rfl), (Nat.le_of_ble_eq_true rfl)⟩ (Nat.le_of_ble_eq_true rfl) ?_
  refine r.ishl (DX3_isPosition 6 rfl) ?_
  refine r.istore (lo' := [(4, .int ((1 : Int32) <<< (o_2 &&& 31))), (3, .int o_1), (0, .ref (a 1)), (1, .int x1), (2, .int x2)]) (DX3_isPosition 7 rfl) (Nat.le_of_ble_eq_true rfl) rfl ?_
  refine r.aload_n 2 (DX3_isPosition 8 rfl) rfl ?_
  refine r.iload_n 1 (DX3_isPosition 9 rfl) rfl ?_
  obtain ⟨o_3, ho_3, hxt⟩ := xbd hxt
  refine r.callVI 0 rfl rfl (t_X3_placesOf E a o_1 hM ho_3) g_X3_59 rfl (DX3_isPosition 10 rfl) rfl ⟨(Nat.le_of_ble_eq_true rfl), (Nat.le_of_ble_eq_true rfl)⟩ ⟨(Nat.le_of_ble_eq_true rfl), (Nat.le_of_ble_eq_true rfl)⟩ (Nat.le_of_ble_eq_true rfl) [0, 1] [] rfl rfl rfl rfl (by decide) [0, 1] rfl (ws2 := fun _ => [(a 1, oX3 a), (a 7, aI E 128 (hM 7))]) (fun _ => rfl) (fun _ => ?_)
  refine r.istore (lo' := [(5, .int o_3), (4, .int ((1 : Int32) <<< (o_2 &&& 31))), (3, .int o_1), (0, .ref (a 1)), (1, .int x1), (2, .int x2)]) (DX3_isPosition 11 rfl) (Nat.le_of_ble_eq_true rfl) rfl ?_
  refine r.iload_n 2 (DX3_isPosition 12 rfl) rfl ?_
  refine r.bipush (v := (120 : Int32)) (DX3_isPosition 13 rfl) rfl ?_
  refine r.icmp_ge 48 (DX3_isPosition 14 rfl) rfl hxt (fun _ hxt => ?_) (fun _ hxt => ?_)
  · refine r.iconst (v := (0 : Int32)) (DX3_isPosition 27 rfl) rfl ?_
    cases hxt
    exact hret _ _ _ _ (DX3_isPosition 28 rfl) rfl ⟨(), rfl, rfl⟩
  refine r.iload 1 (DX3_isPosition 15 rfl) rfl ?_
  refine r.iload 0 (DX3_isPosition 16 rfl) rfl ?_
  refine r.iand (DX3_isPosition 17 rfl) ?_
  refine r.if_ne 48 (DX3_isPosition 18 rfl) rfl hxt (fun _ hxt => ?_) (fun _ hxt => ?_)
  · refine r.iconst (v := (0 : Int32)) (DX3_isPosition 27 rfl) rfl ?_
    cases hxt
    exact hret _ _ _ _ (DX3_isPosition 28 rfl) rfl ⟨(), rfl, rfl⟩
  refine r.iload 1 (DX3_isPosition 19 rfl) rfl ?_
  refine r.iload 0 (DX3_isPosition 20 rfl) rfl ?_
  refine r.ior (DX3_isPosition 21 rfl) ?_
  refine r.iload_n 5 (DX3_isPosition 22 rfl) rfl ?_
  refine r.iand (DX3_isPosition 23 rfl) ?_
  refine r.if_ne 48 (DX3_isPosition 24 rfl) rfl hxt (fun _ hxt => ?_) (fun _ hxt => ?_)
  · refine r.iconst (v := (0 : Int32)) (DX3_isPosition 27 rfl) rfl ?_
    cases hxt
    exact hret _ _ _ _ (DX3_isPosition 28 rfl) rfl ⟨(), rfl, rfl⟩
  refine r.iconst (v := (1 : Int32)) (DX3_isPosition 25 rfl) rfl ?_
  refine r.goto 49 (DX3_isPosition 26 rfl) rfl ?_
  cases hxt
  exact hret _ _ _ _ (DX3_isPosition 28 rfl) rfl ⟨(), rfl, rfl⟩
set_option maxRecDepth 100000 in
set_option maxHeartbeats 4000000 in
theorem t_X3_keyOf (E : xE) (a : Nat → Nat) (x1 : Int32) (hM : Mem) {o : Int32} (hxt : xt_X3_keyOf x1 hM = some o) : xMI (S := Unit) E yX3_keyOf cX3_keyOf 6 .int 2 0 0 [.ref (a 1), .int x1] [(a 1, oX3 a), (a 5, aI E 128 (hM 5)), (a 6, aI E 128 (hM 6))] (fun _ => o) (fun _ => [(a 1, oX3 a), (a 5, aI E 128 (hM 5)), (a 6, aI E 128 (hM 6))]) := by
  refine xMI.of (own := RX3) (lo0 := [(0, .ref (a 1)), (1, .int x1)]) (by decide +kernel) rfl rfl (Nat.le_of_ble_eq_true rfl) (fun V r hret => ?_)
  unfold xt_X3_keyOf at hxt
  refine r.iload_n 1 (DX3_keyOf 0 rfl) rfl ?_
  obtain ⟨o_1, ho_1, hxt⟩ := xbd hxt
  refine r.callSI0 (t_X3_foxOf E x1 ho_1) g_X3_56 rfl (DX3_keyOf 1 rfl) rfl ⟨(Nat.le_of_ble_eq_true rfl), (Nat.le_of_ble_eq_true rfl)⟩ (Nat.le_of_ble_eq_true rfl) ?_
  refine r.istore_n (lo' := [(2, .int o_1), (0, .ref (a 1)), (1, .int x1)]) (DX3_keyOf 2 rfl) (Nat.le_of_ble_eq_true rfl) rfl ?_
  refine r.iload_n 2 (DX3_keyOf 3 rfl) rfl ?_
  obtain ⟨o_2, ho_2, hxt⟩ := xbd hxt
  refine r.callSI0 (t_X3_pairIn E x1 ho_2) g_X3_53 rfl (DX3_keyOf 4 rfl) rfl ⟨(Nat.le_of_ble_eq_true rfl), (Nat.le_of_ble_eq_true rfl)⟩ (Nat.le_of_ble_eq_true rfl) ?_
  refine r.istore_n (lo' := [(3, .int o_2), (2, .int o_1), (0, .ref (a 1)), (1, .int x1)]) (DX3_keyOf 5 rfl) (Nat.le_of_ble_eq_true rfl) rfl ?_
  refine r.iload_n 1 (DX3_keyOf 6 rfl) rfl ?_
  refine r.aload_n 2 (DX3_keyOf 7 rfl) rfl ?_
  refine r.iload_n 0 (DX3_keyOf 8 rfl) rfl ?_
  obtain ⟨o_3, ho_3, hxt⟩ := xbd hxt
  refine r.callVI 0 rfl rfl (t_X3_lowerOf E a o_2 hM ho_3) g_X3_62 rfl (DX3_keyOf 9 rfl) rfl ⟨(Nat.le_of_ble_eq_true rfl), (Nat.le_of_ble_eq_true rfl)⟩ ⟨(Nat.le_of_ble_eq_true rfl), (Nat.le_of_ble_eq_true rfl)⟩ (Nat.le_of_ble_eq_true rfl) [0, 1] [2] rfl rfl rfl rfl (by decide) [1, 2, 0] rfl (ws2 := fun _ => [(a 1, oX3 a), (a 5, aI E 128 (hM 5)), (a 6, aI E 128 (hM 6))]) (fun _ => rfl) (fun _ => ?_)
  obtain ⟨o_4, ho_4, hxt⟩ := xbd hxt
  refine r.callSI0 (t_X3_far E o_1 o_3 ho_4) g_X3_40 rfl (DX3_keyOf 10 rfl) rfl ⟨(Nat.le_of_ble_eq_true rfl), (Nat.le_of_ble_eq_true rfl)⟩ (Nat.le_of_ble_eq_true rfl) ?_
  refine r.istore (lo' := [(4, .int o_4), (3, .int o_2), (2, .int o_1), (0, .ref (a 1)), (1, .int x1)]) (DX3_keyOf 11 rfl) (Nat.le_of_ble_eq_true rfl) rfl ?_
  refine r.iload_n 2 (DX3_keyOf 12 rfl) rfl ?_
  refine r.aload_n 3 (DX3_keyOf 13 rfl) rfl ?_
  refine r.iload_n 1 (DX3_keyOf 14 rfl) rfl ?_
  obtain ⟨o_5, ho_5, hxt⟩ := xbd hxt
  refine r.callVI 0 rfl rfl (t_X3_higherOf E a o_2 hM ho_5) g_X3_65 rfl (DX3_keyOf 15 rfl) rfl ⟨(Nat.le_of_ble_eq_true rfl), (Nat.le_of_ble_eq_true rfl)⟩ ⟨(Nat.le_of_ble_eq_true rfl), (Nat.le_of_ble_eq_true rfl)⟩ (Nat.le_of_ble_eq_true rfl) [0, 2] [1] rfl rfl rfl rfl (by decide) [1, 0, 2] rfl (ws2 := fun _ => [(a 1, oX3 a), (a 5, aI E 128 (hM 5)), (a 6, aI E 128 (hM 6))]) (fun _ => rfl) (fun _ => ?_)
  obtain ⟨o_6, ho_6, hxt⟩ := xbd hxt
  refine r.callSI0 (t_X3_far E o_1 o_5 ho_6) g_X3_40 rfl (DX3_keyOf 16 rfl) rfl ⟨(Nat.le_of_ble_eq_true rfl), (Nat.le_of_ble_eq_true rfl)⟩ (Nat.le_of_ble_eq_true rfl) ?_
  refine r.istore (lo' := [(5, .int o_6), (4, .int o_4), (3, .int o_2), (2, .int o_1), (0, .ref (a 1)), (1, .int x1)]) (DX3_keyOf 17 rfl) (Nat.le_of_ble_eq_true rfl) rfl ?_
  refine r.bipush (v := (49 : Int32)) (DX3_keyOf 18 rfl) rfl ?_
  refine r.iload_n 5 (DX3_keyOf 19 rfl) rfl ?_
  obtain ⟨o_7, ho_7, hxt⟩ := xbd hxt
  refine r.callSI0 (t_X3_whoOf E x1 ho_7) g_X3_68 rfl (DX3_keyOf 20 rfl) rfl ⟨(Nat.le_of_ble_eq_true rfl), (Nat.le_of_ble_eq_true rfl)⟩ (Nat.le_of_ble_eq_true rfl) ?_
  refine r.imul (DX3_keyOf 21 rfl) ?_
  refine r.bipush (v := (7 : Int32)) (DX3_keyOf 22 rfl) rfl ?_
  refine r.iload 1 (DX3_keyOf 23 rfl) rfl ?_
  refine r.iload 0 (DX3_keyOf 24 rfl) rfl ?_
  obtain ⟨o_8, ho_8, hxt⟩ := xbd hxt
  refine r.callSI0 (t_J9_min_7cf53 E o_4 o_6 ho_8) g_X3_71 rfl (DX3_keyOf 25 rfl) rfl ⟨(Nat.le_of_ble_eq_true rfl), (Nat.le_of_ble_eq_true rfl)⟩ (Nat.le_of_ble_eq_true rfl) ?_
  refine r.imul (DX3_keyOf 26 rfl) ?_
  refine r.iadd (DX3_keyOf 27 rfl) ?_
  refine r.iload 1 (DX3_keyOf 28 rfl) rfl ?_
  refine r.iload 0 (DX3_keyOf 29 rfl) rfl ?_
  obtain ⟨o_9, ho_9, hxt⟩ := xbd hxt
  refine r.callSI0 (t_J9_max_7cf53 E o_4 o_6 ho_9) g_X3_74 rfl (DX3_keyOf 30 rfl) rfl ⟨(Nat.le_of_ble_eq_true rfl), (Nat.le_of_ble_eq_true rfl)⟩ (Nat.le_of_ble_eq_true rfl) ?_
  refine r.iadd (DX3_keyOf 31 rfl) ?_
  cases hxt
  exact hret _ _ _ _ (DX3_keyOf 32 rfl) rfl ⟨(), rfl, rfl⟩
