set_option maxRecDepth 100000 in
set_option maxHeartbeats 4000000 in
theorem t_X9_ofFox (E : xE) (a : Nat → Nat) (x1 : Int32) (x2 : Int32) (hM : Mem) {o : Int32} (hxt : xt_X9_ofFox x1 x2 hM = some o) : xMI (S := Unit) E yX9_ofFox cX9_ofFox 7 .int 4 0 0 [.ref (a 31), .int x1, .int x2] [(a 31, oX9 a (hM 31)), (a 32, aI E 8 (hM 32)), (a 36, aI E 120 (hM 36)), (a 37, aI E 120 (hM 37)), (a 38, aI E 4096 (hM 38))] (fun _ => o) (fun _ => [(a 31, oX9 a (hM 31)), (a 32, aI E 8 (hM 32)), (a 36, aI E 120 (hM 36)), (a 37, aI E 120 (hM 37)), (a 38, aI E 4096 (hM 38))]) := by
  refine xMI.of (own := RX9) (lo0 := [(0, .ref (a 31)), (1, .int x1), (2, .int x2)]) (by decide +kernel) rfl rfl (Nat.le_of_ble_eq_true rfl) (fun V r hret => ?_)
  unfold xt_X9_ofFox at hxt
  refine r.iconst (v := (0 : Int32)) (DX9_ofFox_0 0 rfl) rfl ?_
  refine r.istore_n (lo' := [(3, .int (0 : Int32)), (0, .ref (a 31)), (1, .int x1), (2, .int x2)]) (DX9_ofFox_0 1 rfl) (Nat.le_of_ble_eq_true rfl) rfl ?_
  refine r.iconst (v := (0 : Int32)) (DX9_ofFox_0 2 rfl) rfl ?_
  refine r.istore (lo' := [(4, .int (0 : Int32)), (3, .int (0 : Int32)), (0, .ref (a 31)), (1, .int x1), (2, .int x2)]) (DX9_ofFox_0 3 rfl) (Nat.le_of_ble_eq_true rfl) rfl ?_
  refine r.rel (lo' := [(0, .ref (a 31)), (1, .int x1), (2, .int x2), (3, .int (0 : Int32)), (4, .int (0 : Int32))]) [2, 3, 4, 1, 0] rfl ?_
  refine l_X9_ofFox_5 E a x1 x2 hM r hret (fun v3_6 hxt => ?_) 10000 (0 : Int32) (0 : Int32) hxt
  refine r.iload_n 0 (DX9_ofFox_1 3 rfl) rfl ?_
  cases hxt
  exact hret _ _ _ _ (DX9_ofFox_1 4 rfl) rfl ⟨(), rfl, rfl⟩
set_option maxRecDepth 100000 in
set_option maxHeartbeats 4000000 in
theorem l_X9_workOut_4 (E : xE) (a : Nat → Nat) (x1 : Int32) (hM : Mem) {V : xVT} (r : Rl E RX9 cX9_workOut (xR 6 0 0) 7 false V) {o : Int32 × Mem} {k : Int32 → Mem → Option (Int32 × Mem)} (hk : ∀ (v2 : Int32) (mM : Mem), k v2 mM = some o → V 0 0 95 [(2, .int v2)] [] [(a 31, oX9 a (hM 31)), (a 32, aI E 8 (hM 32)), (a 36, aI E 120 (hM 36)), (a 37, aI E 120 (hM 37)), (a 38, aI E 4096 (mM 38))]) : ∀ (n : Nat) (v2 : Int32) (v3 : Int32) (mM : Mem), xt_X9_workOut_l4 x1 hM k n v2 v3 mM = some o → V 0 0 4 [(0, .ref (a 31)), (1, .int x1), (2, .int v2), (3, .int v3)] [] [(a 31, oX9 a (hM 31)), (a 32, aI E 8 (hM 32)), (a 36, aI E 120 (hM 36)), (a 37, aI E 120 (hM 37)), (a 38, aI E 4096 (mM 38))] := by
  intro n
  induction n with
  | zero => intro v2 v3 mM hxt; exact xno hxt
  | succ n ih =>
    intro v2 v3 mM hxt
    rw [xt_X9_workOut_l4] at hxt
    refine r.iload_n 3 (DX9_workOut 4 rfl) rfl ?_
    refine r.sipush (v := (4096 : Int32)) (DX9_workOut 5 rfl) rfl ?_
    refine r.icmp_ge 95 (DX9_workOut 6 rfl) rfl hxt (fun _ hxt => ?_) (fun _ hxt => ?_)
    · refine r.rel (lo' := [(2, .int v2)]) [2] rfl ?_
      exact hk v2 (mgs hM [38] mM) hxt
    refine r.aload_n 0 (DX9_workOut 7 rfl) rfl ?_
    refine r.get (v := .ref (a 38)) kX9 f_X9_29 rfl 0 rfl rfl (DX9_workOut 8 rfl) ?_
    refine r.iload_n 3 (DX9_workOut 9 rfl) rfl ?_
    obtain ⟨hin, hxt⟩ := xgd_some hxt
    refine r.iald 4 rfl hin (DX9_workOut 10 rfl) ?_
    refine r.if_ge 89 (DX9_workOut 11 rfl) rfl hxt (fun _ hxt => ?_) (fun _ hxt => ?_)
    · refine r.iinc (v := (v3 + (1 : Int32))) (lo' := [(3, .int (v3 + (1 : Int32))), (0, .ref (a 31)), (1, .int x1), (2, .int v2)]) 3 (DX9_workOut 49 rfl) rfl rfl (Nat.le_of_ble_eq_true rfl) rfl ?_
      refine r.goto 4 (DX9_workOut 50 rfl) rfl ?_
      refine r.rel (lo' := [(0, .ref (a 31)), (1, .int x1), (2, .int v2), (3, .int (v3 + (1 : Int32)))]) [1, 2, 3, 0] rfl ?_
      exact ih v2 (v3 + (1 : Int32)) (mgs hM [38] mM) hxt
    refine r.aload_n 0 (DX9_workOut 12 rfl) rfl ?_
    refine r.iload_n 3 (DX9_workOut 13 rfl) rfl ?_
    obtain ⟨o_1, ho_1, hxt⟩ := xbd hxt
    refine r.callVI 0 rfl rfl (t_X9_isPosition E a v3 hM ho_1) g_X9_113 rfl (DX9_workOut 14 rfl) rfl ⟨(Nat.le_of_ble_eq_true rfl), (Nat.le_of_ble_eq_true rfl)⟩ ⟨(Nat.le_of_ble_eq_true rfl), (Nat.le_of_ble_eq_true rfl)⟩ (Nat.le_of_ble_eq_true rfl) [0, 1, 2, 3] [4] rfl rfl rfl rfl (by decide) [1, 2, 3, 4, 0] rfl (ws2 := fun _ => [(a 31, oX9 a (hM 31)), (a 32, aI E 8 (hM 32)), (a 36, aI E 120 (hM 36)), (a 37, aI E 120 (hM 37)), (a 38, aI E 4096 (mM 38))]) (fun _ => rfl) (fun _ => ?_)
    refine r.if_eq 89 (DX9_workOut 15 rfl) rfl hxt (fun _ hxt => ?_) (fun _ hxt => ?_)
    · refine r.iinc (v := (v3 + (1 : Int32))) (lo' := [(3, .int (v3 + (1 : Int32))), (0, .ref (a 31)), (1, .int x1), (2, .int v2)]) 3 (DX9_workOut 49 rfl) rfl rfl (Nat.le_of_ble_eq_true rfl) rfl ?_
      refine r.goto 4 (DX9_workOut 50 rfl) rfl ?_
      refine r.rel (lo' := [(0, .ref (a 31)), (1, .int x1), (2, .int v2), (3, .int (v3 + (1 : Int32)))]) [1, 2, 3, 0] rfl ?_
      exact ih v2 (v3 + (1 : Int32)) (mgs hM [38] mM) hxt
    refine r.iload_n 3 (DX9_workOut 16 rfl) rfl ?_
    refine r.sipush (v := (128 : Int32)) (DX9_workOut 17 rfl) rfl ?_
    refine r.idiv (DX9_workOut 18 rfl) (by decide) ?_
    refine r.bipush (v := (16 : Int32)) (DX9_workOut 19 rfl) rfl ?_
    refine r.irem (DX9_workOut 20 rfl) (by decide) ?_
    refine r.istore (lo' := [(4, .int ((v3 / (128 : Int32)) - (v3 / (128 : Int32)) / (16 : Int32) * (16 : Int32))), (0, .ref (a 31)), (1, .int x1), (2, .int v2), (3, .int v3)]) (DX9_workOut 21 rfl) (Nat.le_of_ble_eq_true rfl) rfl ?_
    refine r.iload_n 4 (DX9_workOut 22 rfl) rfl ?_
    refine r.sipush (v := (128 : Int32)) (DX9_workOut 23 rfl) rfl ?_
    refine r.irem (DX9_workOut 24 rfl) (by decide) ?_
    refine r.istore (lo' := [(5, .int (v3 - v3 / (128 : Int32) * (128 : Int32))), (4, .int ((v3 / (128 : Int32)) - (v3 / (128 : Int32)) / (16 : Int32) * (16 : Int32))), (0, .ref (a 31)), (1, .int x1), (2, .int v2), (3, .int v3)]) (DX9_workOut 25 rfl) (Nat.le_of_ble_eq_true rfl) rfl ?_
    refine r.iload_n 5 (DX9_workOut 26 rfl) rfl ?_
    refine r.sipush (v := (2048 : Int32)) (DX9_workOut 27 rfl) rfl ?_
    refine r.icmp_ge 63 (DX9_workOut 28 rfl) rfl hxt (fun _ hxt => ?_) (fun _ hxt => ?_)
    · refine r.aload_n 2 (DX9_workOut 34 rfl) rfl ?_
      refine r.iload 1 (DX9_workOut 35 rfl) rfl ?_
      refine r.iload 0 (DX9_workOut 36 rfl) rfl ?_
      obtain ⟨o_2, ho_2, hxt⟩ := xbd hxt
      refine r.callVI 0 rfl rfl (t_X9_ofFox E a ((v3 / (128 : Int32)) - (v3 / (128 : Int32)) / (16 : Int32) * (16 : Int32)) (v3 - v3 / (128 : Int32) * (128 : Int32)) (mgs hM [38] mM) ho_2) g_X9_119 rfl (DX9_workOut 37 rfl) rfl ⟨(Nat.le_of_ble_eq_true rfl), (Nat.le_of_ble_eq_true rfl)⟩ ⟨(Nat.le_of_ble_eq_true rfl), (Nat.le_of_ble_eq_true rfl)⟩ (Nat.le_of_ble_eq_true rfl) [0, 1, 2, 3, 4] [] rfl rfl rfl rfl (by decide) [0, 1, 2, 3, 4] rfl (ws2 := fun _ => [(a 31, oX9 a (hM 31)), (a 32, aI E 8 (hM 32)), (a 36, aI E 120 (hM 36)), (a 37, aI E 120 (hM 37)), (a 38, aI E 4096 (mM 38))]) (fun _ => rfl) (fun _ => ?_)
      refine r.istore (lo' := [(6, .int o_2), (5, .int (v3 - v3 / (128 : Int32) * (128 : Int32))), (4, .int ((v3 / (128 : Int32)) - (v3 / (128 : Int32)) / (16 : Int32) * (16 : Int32))), (0, .ref (a 31)), (1, .int x1), (2, .int v2), (3, .int v3)]) (DX9_workOut 38 rfl) (Nat.le_of_ble_eq_true rfl) rfl ?_
      refine r.iload 0 (DX9_workOut 39 rfl) rfl ?_
      refine r.iload_n 4 (DX9_workOut 40 rfl) rfl ?_
      refine r.icmp_ne 89 (DX9_workOut 41 rfl) rfl hxt (fun _ hxt => ?_) (fun _ hxt => ?_)
      · refine r.iinc (v := (v3 + (1 : Int32))) (lo' := [(3, .int (v3 + (1 : Int32))), (6, .int o_2), (5, .int (v3 - v3 / (128 : Int32) * (128 : Int32))), (4, .int ((v3 / (128 : Int32)) - (v3 / (128 : Int32)) / (16 : Int32) * (16 : Int32))), (0, .ref (a 31)), (1, .int x1), (2, .int v2)]) 6 (DX9_workOut 49 rfl) rfl rfl (Nat.le_of_ble_eq_true rfl) rfl ?_
        refine r.goto 4 (DX9_workOut 50 rfl) rfl ?_
        refine r.rel (lo' := [(0, .ref (a 31)), (1, .int x1), (2, .int v2), (3, .int (v3 + (1 : Int32)))]) [4, 5, 6, 0] rfl ?_
        exact ih v2 (v3 + (1 : Int32)) (mgs hM [38] mM) hxt
      refine r.aload_n 3 (DX9_workOut 42 rfl) rfl ?_
      refine r.get (v := .ref (a 38)) kX9 f_X9_29 rfl 0 rfl rfl (DX9_workOut 43 rfl) ?_
      refine r.iload_n 6 (DX9_workOut 44 rfl) rfl ?_
      refine r.iload 0 (DX9_workOut 45 rfl) rfl ?_
      obtain ⟨hin, hxt⟩ := xgd_some hxt
      refine r.iast (ws' := [(a 31, oX9 a (hM 31)), (a 32, aI E 8 (hM 32)), (a 36, aI E 120 (hM 36)), (a 37, aI E 120 (hM 37)), (a 38, aI E 4096 (upd (mM 38) v3.toNatClampNeg o_2))]) 4 rfl hin rfl (DX9_workOut 46 rfl) ?_
      refine r.iconst (v := (1 : Int32)) (DX9_workOut 47 rfl) rfl ?_
      refine r.istore_n (lo' := [(2, .int (1 : Int32)), (6, .int o_2), (5, .int (v3 - v3 / (128 : Int32) * (128 : Int32))), (4, .int ((v3 / (128 : Int32)) - (v3 / (128 : Int32)) / (16 : Int32) * (16 : Int32))), (0, .ref (a 31)), (1, .int x1), (3, .int v3)]) (DX9_workOut 48 rfl) (Nat.le_of_ble_eq_true rfl) rfl ?_
      refine r.iinc (v := (v3 + (1 : Int32))) (lo' := [(3, .int (v3 + (1 : Int32))), (2, .int (1 : Int32)), (6, .int o_2), (5, .int (v3 - v3 / (128 : Int32) * (128 : Int32))), (4, .int ((v3 / (128 : Int32)) - (v3 / (128 : Int32)) / (16 : Int32) * (16 : Int32))), (0, .ref (a 31)), (1, .int x1)]) 6 (DX9_workOut 49 rfl) rfl rfl (Nat.le_of_ble_eq_true rfl) rfl ?_
      refine r.goto 4 (DX9_workOut 50 rfl) rfl ?_
      refine r.rel (lo' := [(0, .ref (a 31)), (1, .int x1), (2, .int (1 : Int32)), (3, .int (v3 + (1 : Int32)))]) [5, 6, 1, 0] rfl ?_
      exact ih (1 : Int32) (v3 + (1 : Int32)) (mset hM 38 (upd (mM 38) v3.toNatClampNeg o_2)) hxt
    refine r.aload_n 2 (DX9_workOut 29 rfl) rfl ?_
    refine r.iload 1 (DX9_workOut 30 rfl) rfl ?_
    refine r.iload 0 (DX9_workOut 31 rfl) rfl ?_
    obtain ⟨o_3, ho_3, hxt⟩ := xbd hxt
    refine r.callVI 0 rfl rfl (t_X9_ofHunters E a ((v3 / (128 : Int32)) - (v3 / (128 : Int32)) / (16 : Int32) * (16 : Int32)) (v3 - v3 / (128 : Int32) * (128 : Int32)) (mgs hM [38] mM) ho_3) g_X9_116 rfl (DX9_workOut 32 rfl) rfl ⟨(Nat.le_of_ble_eq_true rfl), (Nat.le_of_ble_eq_true rfl)⟩ ⟨(Nat.le_of_ble_eq_true rfl), (Nat.le_of_ble_eq_true rfl)⟩ (Nat.le_of_ble_eq_true rfl) [0, 1, 2, 3, 4] [] rfl rfl rfl rfl (by decide) [0, 1, 2, 3, 4] rfl (ws2 := fun _ => [(a 31, oX9 a (hM 31)), (a 32, aI E 8 (hM 32)), (a 36, aI E 120 (hM 36)), (a 37, aI E 120 (hM 37)), (a 38, aI E 4096 (mM 38))]) (fun _ => rfl) (fun _ => ?_)
    refine r.goto 71 (DX9_workOut 33 rfl) rfl ?_
    refine r.istore (lo' := [(6, .int o_3), (5, .int (v3 - v3 / (128 : Int32) * (128 : Int32))), (4, .int ((v3 / (128 : Int32)) - (v3 / (128 : Int32)) / (16 : Int32) * (16 : Int32))), (0, .ref (a 31)), (1, .int x1), (2, .int v2), (3, .int v3)]) (DX9_workOut 38 rfl) (Nat.le_of_ble_eq_true rfl) rfl ?_
    refine r.iload 0 (DX9_workOut 39 rfl) rfl ?_
    refine r.iload_n 4 (DX9_workOut 40 rfl) rfl ?_
    refine r.icmp_ne 89 (DX9_workOut 41 rfl) rfl hxt (fun _ hxt => ?_) (fun _ hxt => ?_)
    · refine r.iinc (v := (v3 + (1 : Int32))) (lo' := [(3, .int (v3 + (1 : Int32))), (6, .int o_3), (5, .int (v3 - v3 / (128 : Int32) * (128 : Int32))), (4, .int ((v3 / (128 : Int32)) - (v3 / (128 : Int32)) / (16 : Int32) * (16 : Int32))), (0, .ref (a 31)), (1, .int x1), (2, .int v2)]) 6 (DX9_workOut 49 rfl) rfl rfl (Nat.le_of_ble_eq_true rfl) rfl ?_
      refine r.goto 4 (DX9_workOut 50 rfl) rfl ?_
      refine r.rel (lo' := [(0, .ref (a 31)), (1, .int x1), (2, .int v2), (3, .int (v3 + (1 : Int32)))]) [4, 5, 6, 0] rfl ?_
      exact ih v2 (v3 + (1 : Int32)) (mgs hM [38] mM) hxt
    refine r.aload_n 3 (DX9_workOut 42 rfl) rfl ?_
    refine r.get (v := .ref (a 38)) kX9 f_X9_29 rfl 0 rfl rfl (DX9_workOut 43 rfl) ?_
    refine r.iload_n 6 (DX9_workOut 44 rfl) rfl ?_
    refine r.iload 0 (DX9_workOut 45 rfl) rfl ?_
    obtain ⟨hin, hxt⟩ := xgd_some hxt
    refine r.iast (ws' := [(a 31, oX9 a (hM 31)), (a 32, aI E 8 (hM 32)), (a 36, aI E 120 (hM 36)), (a 37, aI E 120 (hM 37)), (a 38, aI E 4096 (upd (mM 38) v3.toNatClampNeg o_3))]) 4 rfl hin rfl (DX9_workOut 46 rfl) ?_
    refine r.iconst (v := (1 : Int32)) (DX9_workOut 47 rfl) rfl ?_
    refine r.istore_n (lo' := [(2, .int (1 : Int32)), (6, .int o_3), (5, .int (v3 - v3 / (128 : Int32) * (128 : Int32))), (4, .int ((v3 / (128 : Int32)) - (v3 / (128 : Int32)) / (16 : Int32) * (16 : Int32))), (0, .ref (a 31)), (1, .int x1), (3, .int v3)]) (DX9_workOut 48 rfl) (Nat.le_of_ble_eq_true rfl) rfl ?_
    refine r.iinc (v := (v3 + (1 : Int32))) (lo' := [(3, .int (v3 + (1 : Int32))), (2, .int (1 : Int32)), (6, .int o_3), (5, .int (v3 - v3 / (128 : Int32) * (128 : Int32))), (4, .int ((v3 / (128 : Int32)) - (v3 / (128 : Int32)) / (16 : Int32) * (16 : Int32))), (0, .ref (a 31)), (1, .int x1)]) 6 (DX9_workOut 49 rfl) rfl rfl (Nat.le_of_ble_eq_true rfl) rfl ?_
    refine r.goto 4 (DX9_workOut 50 rfl) rfl ?_
    refine r.rel (lo' := [(0, .ref (a 31)), (1, .int x1), (2, .int (1 : Int32)), (3, .int (v3 + (1 : Int32)))]) [5, 6, 1, 0] rfl ?_
    exact ih (1 : Int32) (v3 + (1 : Int32)) (mset hM 38 (upd (mM 38) v3.toNatClampNeg o_3)) hxt
set_option maxRecDepth 100000 in
set_option maxHeartbeats 4000000 in
theorem t_X9_workOut (E : xE) (a : Nat → Nat) (x1 : Int32) (hM : Mem) {o : Int32 × Mem} (hxt : xt_X9_workOut x1 hM = some o) : xMI (S := Unit) E yX9_workOut cX9_workOut 7 .boolean 6 0 0 [.ref (a 31), .int x1] [(a 31, oX9 a (hM 31)), (a 32, aI E 8 (hM 32)), (a 36, aI E 120 (hM 36)), (a 37, aI E 120 (hM 37)), (a 38, aI E 4096 (hM 38))] (fun _ => o.1) (fun _ => [(a 31, oX9 a (hM 31)), (a 32, aI E 8 (hM 32)), (a 36, aI E 120 (hM 36)), (a 37, aI E 120 (hM 37)), (a 38, aI E 4096 (o.2 38))]) := by
  refine xMI.of (own := RX9) (lo0 := [(0, .ref (a 31)), (1, .int x1)]) (by decide +kernel) rfl rfl (Nat.le_of_ble_eq_true rfl) (fun V r hret => ?_)
  unfold xt_X9_workOut at hxt
  refine r.iconst (v := (0 : Int32)) (DX9_workOut 0 rfl) rfl ?_
  refine r.istore_n (lo' := [(2, .int (0 : Int32)), (0, .ref (a 31)), (1, .int x1)]) (DX9_workOut 1 rfl) (Nat.le_of_ble_eq_true rfl) rfl ?_
  refine r.iconst (v := (0 : Int32)) (DX9_workOut 2 rfl) rfl ?_
  refine r.istore_n (lo' := [(3, .int (0 : Int32)), (2, .int (0 : Int32)), (0, .ref (a 31)), (1, .int x1)]) (DX9_workOut 3 rfl) (Nat.le_of_ble_eq_true rfl) rfl ?_
  refine r.rel (lo' := [(0, .ref (a 31)), (1, .int x1), (2, .int (0 : Int32)), (3, .int (0 : Int32))]) [2, 3, 1, 0] rfl ?_
  refine l_X9_workOut_4 E a x1 hM r (fun v2_4 m_5 hxt => ?_) 10000 (0 : Int32) (0 : Int32) hM hxt
  refine r.iload_n 0 (DX9_workOut 51 rfl) rfl ?_
  obtain ⟨hn, hxt⟩ := xgb_some hxt
  cases hxt
  exact hret _ _ _ _ (DX9_workOut 52 rfl) hn ⟨(), rfl, rfl⟩
set_option maxRecDepth 100000 in
set_option maxHeartbeats 4000000 in
theorem l_X9_workOutAll_2 (E : xE) (a : Nat → Nat) (hM : Mem) {V : xVT} (r : Rl E RX9 cX9_workOutAll (xR 7 0 0) 3 false V) {o : Mem} {k : Mem → Option (Mem)} (hk : ∀ (mM : Mem), k mM = some o → V 0 0 23 [(0, .ref (a 31))] [] [(a 31, oX9 a (hM 31)), (a 32, aI E 8 (hM 32)), (a 36, aI E 120 (hM 36)), (a 37, aI E 120 (hM 37)), (a 38, aI E 4096 (mM 38))]) : ∀ (n : Nat) (v1 : Int32) (mM : Mem), xt_X9_workOutAll_l2 hM k n v1 mM = some o → V 0 0 2 [(0, .ref (a 31)), (1, .int v1)] [] [(a 31, oX9 a (hM 31)), (a 32, aI E 8 (hM 32)), (a 36, aI E 120 (hM 36)), (a 37, aI E 120 (hM 37)), (a 38, aI E 4096 (mM 38))] := by
  intro n
  induction n with
  | zero => intro v1 mM hxt; exact xno hxt
  | succ n ih =>
    intro v1 mM hxt
    rw [xt_X9_workOutAll_l2] at hxt
    refine r.iload_n 1 (DX9_workOutAll 2 rfl) rfl ?_
    refine r.sipush (v := (4096 : Int32)) (DX9_workOutAll 3 rfl) rfl ?_
    refine r.icmp_ge 23 (DX9_workOutAll 4 rfl) rfl hxt (fun _ hxt => ?_) (fun _ hxt => ?_)
    · refine r.rel (lo' := [(0, .ref (a 31))]) [0] rfl ?_
      exact hk (mgs hM [38] mM) hxt
    refine r.aload_n 0 (DX9_workOutAll 5 rfl) rfl ?_
    refine r.get (v := .ref (a 38)) kX9 f_X9_29 rfl 0 rfl rfl (DX9_workOutAll 6 rfl) ?_
    refine r.iload_n 1 (DX9_workOutAll 7 rfl) rfl ?_
    refine r.bipush (v := (-6 : Int32)) (DX9_workOutAll 8 rfl) rfl ?_
    obtain ⟨hin, hxt⟩ := xgd_some hxt
    refine r.iast (ws' := [(a 31, oX9 a (hM 31)), (a 32, aI E 8 (hM 32)), (a 36, aI E 120 (hM 36)), (a 37, aI E 120 (hM 37)), (a 38, aI E 4096 (upd (mM 38) v1.toNatClampNeg (-6 : Int32)))]) 4 rfl hin rfl (DX9_workOutAll 9 rfl) ?_
    refine r.iinc (v := (v1 + (1 : Int32))) (lo' := [(1, .int (v1 + (1 : Int32))), (0, .ref (a 31))]) 1 (DX9_workOutAll 10 rfl) rfl rfl (Nat.le_of_ble_eq_true rfl) rfl ?_
    refine r.goto 2 (DX9_workOutAll 11 rfl) rfl ?_
    refine r.rel (lo' := [(0, .ref (a 31)), (1, .int (v1 + (1 : Int32)))]) [1, 0] rfl ?_
    exact ih (v1 + (1 : Int32)) (mset hM 38 (upd (mM 38) v1.toNatClampNeg (-6 : Int32))) hxt
set_option maxRecDepth 100000 in
set_option maxHeartbeats 4000000 in
theorem l_X9_workOutAll_27 (E : xE) (a : Nat → Nat) (hM : Mem) {V : xVT} (r : Rl E RX9 cX9_workOutAll (xR 7 0 0) 3 false V) {o : Mem} {k : Mem → Option (Mem)} (hk : ∀ (mM : Mem), k mM = some o → V 0 0 54 [] [] [(a 31, oX9 a (hM 31)), (a 32, aI E 8 (hM 32)), (a 36, aI E 120 (hM 36)), (a 37, aI E 120 (hM 37)), (a 38, aI E 4096 (mM 38))]) : ∀ (n : Nat) (v1 : Int32) (v2 : Int32) (mM : Mem), xt_X9_workOutAll_l27 hM k n v1 v2 mM = some o → V 0 0 27 [(0, .ref (a 31)), (1, .int v1), (2, .int v2)] [] [(a 31, oX9 a (hM 31)), (a 32, aI E 8 (hM 32)), (a 36, aI E 120 (hM 36)), (a 37, aI E 120 (hM 37)), (a 38, aI E 4096 (mM 38))] := by
  intro n
  induction n with
  | zero => intro v1 v2 mM hxt; exact xno hxt
  | succ n ih =>
    intro v1 v2 mM hxt
    rw [xt_X9_workOutAll_l27] at hxt
    refine r.iload_n 1 (DX9_workOutAll 16 rfl) rfl ?_
    refine r.iconst (v := (3 : Int32)) (DX9_workOutAll 17 rfl) rfl ?_
    refine r.icmp_ge 54 (DX9_workOutAll 18 rfl) rfl hxt (fun _ hxt => ?_) (fun _ hxt => ?_)
    · refine r.rel (lo' := []) [] rfl ?_
      exact hk (mgs hM [38] mM) hxt
    refine r.aload_n 0 (DX9_workOutAll 19 rfl) rfl ?_
    refine r.iload_n 2 (DX9_workOutAll 20 rfl) rfl ?_
    obtain ⟨o_2, ho_2, hxt⟩ := xbd hxt
    refine r.callVI 0 rfl rfl (t_X9_workOut E a v2 (mgs hM [38] mM) ho_2) g_X9_122 rfl (DX9_workOutAll 21 rfl) rfl ⟨(Nat.le_of_ble_eq_true rfl), (Nat.le_of_ble_eq_true rfl)⟩ ⟨(Nat.le_of_ble_eq_true rfl), (Nat.le_of_ble_eq_true rfl)⟩ (Nat.le_of_ble_eq_true rfl) [0, 1, 2, 3, 4] [] rfl rfl rfl rfl (by decide) [0, 1, 2, 3, 4] rfl (ws2 := fun _ => [(a 31, oX9 a (hM 31)), (a 32, aI E 8 (hM 32)), (a 36, aI E 120 (hM 36)), (a 37, aI E 120 (hM 37)), (a 38, aI E 4096 (o_2.2 38))]) (fun _ => rfl) (fun _ => ?_)
    refine r.if_eq 44 (DX9_workOutAll 22 rfl) rfl hxt (fun _ hxt => ?_) (fun _ hxt => ?_)
    · refine r.iload_n 1 (DX9_workOutAll 25 rfl) rfl ?_
      refine r.iconst (v := (1 : Int32)) (DX9_workOutAll 26 rfl) rfl ?_
      refine r.iadd (DX9_workOutAll 27 rfl) ?_
      refine r.istore_n (lo' := [(1, .int (v1 + (1 : Int32))), (0, .ref (a 31)), (2, .int v2)]) (DX9_workOutAll 28 rfl) (Nat.le_of_ble_eq_true rfl) rfl ?_
      refine r.iinc (v := (v2 + (1 : Int32))) (lo' := [(2, .int (v2 + (1 : Int32))), (1, .int (v1 + (1 : Int32))), (0, .ref (a 31))]) 2 (DX9_workOutAll 29 rfl) rfl rfl (Nat.le_of_ble_eq_true rfl) rfl ?_
      refine r.goto 27 (DX9_workOutAll 30 rfl) rfl ?_
      refine r.rel (lo' := [(0, .ref (a 31)), (1, .int (v1 + (1 : Int32))), (2, .int (v2 + (1 : Int32)))]) [2, 1, 0] rfl ?_
      exact ih (v1 + (1 : Int32)) (v2 + (1 : Int32)) (mgs hM [38] o_2.2) hxt
    refine r.iconst (v := (0 : Int32)) (DX9_workOutAll 23 rfl) rfl ?_
    refine r.goto 47 (DX9_workOutAll 24 rfl) rfl ?_
    refine r.istore_n (lo' := [(1, .int (0 : Int32)), (0, .ref (a 31)), (2, .int v2)]) (DX9_workOutAll 28 rfl) (Nat.le_of_ble_eq_true rfl) rfl ?_
    refine r.iinc (v := (v2 + (1 : Int32))) (lo' := [(2, .int (v2 + (1 : Int32))), (1, .int (0 : Int32)), (0, .ref (a 31))]) 2 (DX9_workOutAll 29 rfl) rfl rfl (Nat.le_of_ble_eq_true rfl) rfl ?_
    refine r.goto 27 (DX9_workOutAll 30 rfl) rfl ?_
    refine r.rel (lo' := [(0, .ref (a 31)), (1, .int (0 : Int32)), (2, .int (v2 + (1 : Int32)))]) [2, 1, 0] rfl ?_
    exact ih (0 : Int32) (v2 + (1 : Int32)) (mgs hM [38] o_2.2) hxt
set_option maxRecDepth 100000 in
set_option maxHeartbeats 4000000 in
theorem t_X9_workOutAll (E : xE) (a : Nat → Nat) (hM : Mem) {o : Mem} (hxt : xt_X9_workOutAll hM = some o) : xMV (S := Unit) E yX9_workOutAll cX9_workOutAll 3 7 0 0 [.ref (a 31)] [(a 31, oX9 a (hM 31)), (a 32, aI E 8 (hM 32)), (a 36, aI E 120 (hM 36)), (a 37, aI E 120 (hM 37)), (a 38, aI E 4096 (hM 38))] (fun _ => [(a 31, oX9 a (hM 31)), (a 32, aI E 8 (hM 32)), (a 36, aI E 120 (hM 36)), (a 37, aI E 120 (hM 37)), (a 38, aI E 4096 (o 38))]) := by
  refine xMV.of (own := RX9) (lo0 := [(0, .ref (a 31))]) (ini := false) (fun h => nomatch h) (by decide +kernel) rfl rfl (Nat.le_of_ble_eq_true rfl) (fun V r hret => ?_)
  unfold xt_X9_workOutAll at hxt
  refine r.iconst (v := (0 : Int32)) (DX9_workOutAll 0 rfl) rfl ?_
  refine r.istore_n (lo' := [(1, .int (0 : Int32)), (0, .ref (a 31))]) (DX9_workOutAll 1 rfl) (Nat.le_of_ble_eq_true rfl) rfl ?_
  refine r.rel (lo' := [(0, .ref (a 31)), (1, .int (0 : Int32))]) [1, 0] rfl ?_
  refine l_X9_workOutAll_2 E a hM r (fun m_1 hxt => ?_) 10000 (0 : Int32) hM hxt
  refine r.iconst (v := (0 : Int32)) (DX9_workOutAll 12 rfl) rfl ?_
  refine r.istore_n (lo' := [(1, .int (0 : Int32)), (0, .ref (a 31))]) (DX9_workOutAll 13 rfl) (Nat.le_of_ble_eq_true rfl) rfl ?_
  refine r.iconst (v := (0 : Int32)) (DX9_workOutAll 14 rfl) rfl ?_
  refine r.istore_n (lo' := [(2, .int (0 : Int32)), (1, .int (0 : Int32)), (0, .ref (a 31))]) (DX9_workOutAll 15 rfl) (Nat.le_of_ble_eq_true rfl) rfl ?_
  refine r.rel (lo' := [(0, .ref (a 31)), (1, .int (0 : Int32)), (2, .int (0 : Int32))]) [2, 1, 0] rfl ?_
  refine l_X9_workOutAll_27 E a (mgs hM [38] m_1) r (fun m_3 hxt => ?_) 10000 (0 : Int32) (0 : Int32) (mgs hM [38] m_1) hxt
  cases hxt
  exact hret _ _ _ (DX9_workOutAll 31 rfl) ⟨(), rfl⟩
set_option maxRecDepth 100000 in
set_option maxHeartbeats 4000000 in
theorem t_X9_turned (E : xE) (x0 : Int32) (x1 : Int32) {o : Int32} (hxt : xt_X9_turned x0 x1 = some o) : xMI (S := Unit) E yX9_turned cX9_turned 6 .int 0 0 0 [.int x0, .int x1] [] (fun _ => o) (fun _ => []) := by
  refine xMI.of (own := RX9) (lo0 := [(0, .int x0), (1, .int x1)]) (by decide +kernel) rfl rfl (Nat.le_of_ble_eq_true rfl) (fun V r hret => ?_)
  unfold xt_X9_turned at hxt
  refine r.iload_n 1 (DX9_turned 0 rfl) rfl ?_
  refine r.iconst (v := (4 : Int32)) (DX9_turned 1 rfl) rfl ?_
  refine r.idiv (DX9_turned 2 rfl) (by decide) ?_
  refine r.istore_n (lo' := [(2, .int (x1 / (4 : Int32))), (0, .int x0), (1, .int x1)]) (DX9_turned 3 rfl) (Nat.le_of_ble_eq_true rfl) rfl ?_
  refine r.iload_n 2 (DX9_turned 4 rfl) rfl ?_
  refine r.iconst (v := (4 : Int32)) (DX9_turned 5 rfl) rfl ?_
  refine r.irem (DX9_turned 6 rfl) (by decide) ?_
  refine r.istore_n (lo' := [(3, .int (x1 - x1 / (4 : Int32) * (4 : Int32))), (2, .int (x1 / (4 : Int32))), (0, .int x0), (1, .int x1)]) (DX9_turned 7 rfl) (Nat.le_of_ble_eq_true rfl) rfl ?_
  refine r.iload_n 2 (DX9_turned 8 rfl) rfl ?_
  refine r.iconst (v := (1 : Int32)) (DX9_turned 9 rfl) rfl ?_
  refine r.iand (DX9_turned 10 rfl) ?_
  refine r.iconst (v := (1 : Int32)) (DX9_turned 11 rfl) rfl ?_
  refine r.icmp_ne 21 (DX9_turned 12 rfl) rfl hxt (fun _ hxt => ?_) (fun _ hxt => ?_)
  · refine r.iload_n 1 (DX9_turned 17 rfl) rfl ?_
    refine r.istore (lo' := [(4, .int (x1 / (4 : Int32))), (3, .int (x1 - x1 / (4 : Int32) * (4 : Int32))), (2, .int (x1 / (4 : Int32))), (0, .int x0), (1, .int x1)]) (DX9_turned 18 rfl) (Nat.le_of_ble_eq_true rfl) rfl ?_
    refine r.iload_n 3 (DX9_turned 19 rfl) rfl ?_
    refine r.iconst (v := (2 : Int32)) (DX9_turned 20 rfl) rfl ?_
    refine r.iand (DX9_turned 21 rfl) ?_
    refine r.iconst (v := (2 : Int32)) (DX9_turned 22 rfl) rfl ?_
    refine r.icmp_ne 37 (DX9_turned 23 rfl) rfl hxt (fun _ hxt => ?_) (fun _ hxt => ?_)
    · refine r.iload_n 1 (DX9_turned 28 rfl) rfl ?_
      refine r.istore (lo' := [(5, .int (x1 - x1 / (4 : Int32) * (4 : Int32))), (4, .int (x1 / (4 : Int32))), (3, .int (x1 - x1 / (4 : Int32) * (4 : Int32))), (2, .int (x1 / (4 : Int32))), (0, .int x0), (1, .int x1)]) (DX9_turned 29 rfl) (Nat.le_of_ble_eq_true rfl) rfl ?_
      refine r.iload_n 4 (DX9_turned 30 rfl) rfl ?_
      refine r.iconst (v := (4 : Int32)) (DX9_turned 31 rfl) rfl ?_
      refine r.iand (DX9_turned 32 rfl) ?_
      refine r.iconst (v := (4 : Int32)) (DX9_turned 33 rfl) rfl ?_
      refine r.icmp_ne 57 (DX9_turned 34 rfl) rfl hxt (fun _ hxt => ?_) (fun _ hxt => ?_)
      · refine r.iconst (v := (4 : Int32)) (DX9_turned 41 rfl) rfl ?_
        refine r.iload 1 (DX9_turned 42 rfl) rfl ?_
        refine r.imul (DX9_turned 43 rfl) ?_
        refine r.iload 0 (DX9_turned 44 rfl) rfl ?_
        refine r.iadd (DX9_turned 45 rfl) ?_
        cases hxt
        exact hret _ _ _ _ (DX9_turned 46 rfl) rfl ⟨(), rfl, rfl⟩
      refine r.iconst (v := (4 : Int32)) (DX9_turned 35 rfl) rfl ?_
      refine r.iload 0 (DX9_turned 36 rfl) rfl ?_
      refine r.imul (DX9_turned 37 rfl) ?_
      refine r.iload 1 (DX9_turned 38 rfl) rfl ?_
      refine r.iadd (DX9_turned 39 rfl) ?_
      refine r.goto 64 (DX9_turned 40 rfl) rfl ?_
      cases hxt
      exact hret _ _ _ _ (DX9_turned 46 rfl) rfl ⟨(), rfl, rfl⟩
    refine r.iconst (v := (3 : Int32)) (DX9_turned 24 rfl) rfl ?_
    refine r.iload_n 1 (DX9_turned 25 rfl) rfl ?_
    refine r.isub (DX9_turned 26 rfl) ?_
    refine r.goto 38 (DX9_turned 27 rfl) rfl ?_
    refine r.istore (lo' := [(5, .int ((3 : Int32) - (x1 - x1 / (4 : Int32) * (4 : Int32)))), (4, .int (x1 / (4 : Int32))), (3, .int (x1 - x1 / (4 : Int32) * (4 : Int32))), (2, .int (x1 / (4 : Int32))), (0, .int x0), (1, .int x1)]) (DX9_turned 29 rfl) (Nat.le_of_ble_eq_true rfl) rfl ?_
    refine r.iload_n 4 (DX9_turned 30 rfl) rfl ?_
    refine r.iconst (v := (4 : Int32)) (DX9_turned 31 rfl) rfl ?_
    refine r.iand (DX9_turned 32 rfl) ?_
    refine r.iconst (v := (4 : Int32)) (DX9_turned 33 rfl) rfl ?_
    refine r.icmp_ne 57 (DX9_turned 34 rfl) rfl hxt (fun _ hxt => ?_) (fun _ hxt => ?_)
    · refine r.iconst (v := (4 : Int32)) (DX9_turned 41 rfl) rfl ?_
      refine r.iload 1 (DX9_turned 42 rfl) rfl ?_
      refine r.imul (DX9_turned 43 rfl) ?_
      refine r.iload 0 (DX9_turned 44 rfl) rfl ?_
      refine r.iadd (DX9_turned 45 rfl) ?_
      cases hxt
      exact hret _ _ _ _ (DX9_turned 46 rfl) rfl ⟨(), rfl, rfl⟩
    refine r.iconst (v := (4 : Int32)) (DX9_turned 35 rfl) rfl ?_
    refine r.iload 0 (DX9_turned 36 rfl) rfl ?_
    refine r.imul (DX9_turned 37 rfl) ?_
    refine r.iload 1 (DX9_turned 38 rfl) rfl ?_
    refine r.iadd (DX9_turned 39 rfl) ?_
    refine r.goto 64 (DX9_turned 40 rfl) rfl ?_
    cases hxt
    exact hret _ _ _ _ (DX9_turned 46 rfl) rfl ⟨(), rfl, rfl⟩
  refine r.iconst (v := (3 : Int32)) (DX9_turned 13 rfl) rfl ?_
  refine r.iload_n 1 (DX9_turned 14 rfl) rfl ?_
  refine r.isub (DX9_turned 15 rfl) ?_
  refine r.goto 22 (DX9_turned 16 rfl) rfl ?_
  refine r.istore (lo' := [(4, .int ((3 : Int32) - (x1 / (4 : Int32)))), (3, .int (x1 - x1 / (4 : Int32) * (4 : Int32))), (2, .int (x1 / (4 : Int32))), (0, .int x0), (1, .int x1)]) (DX9_turned 18 rfl) (Nat.le_of_ble_eq_true rfl) rfl ?_
  refine r.iload_n 3 (DX9_turned 19 rfl) rfl ?_
  refine r.iconst (v := (2 : Int32)) (DX9_turned 20 rfl) rfl ?_
  refine r.iand (DX9_turned 21 rfl) ?_
  refine r.iconst (v := (2 : Int32)) (DX9_turned 22 rfl) rfl ?_
  refine r.icmp_ne 37 (DX9_turned 23 rfl) rfl hxt (fun _ hxt => ?_) (fun _ hxt => ?_)
  · refine r.iload_n 1 (DX9_turned 28 rfl) rfl ?_
    refine r.istore (lo' := [(5, .int (x1 - x1 / (4 : Int32) * (4 : Int32))), (4, .int ((3 : Int32) - (x1 / (4 : Int32)))), (3, .int (x1 - x1 / (4 : Int32) * (4 : Int32))), (2, .int (x1 / (4 : Int32))), (0, .int x0), (1, .int x1)]) (DX9_turned 29 rfl) (Nat.le_of_ble_eq_true rfl) rfl ?_
    refine r.iload_n 4 (DX9_turned 30 rfl) rfl ?_
    refine r.iconst (v := (4 : Int32)) (DX9_turned 31 rfl) rfl ?_
    refine r.iand (DX9_turned 32 rfl) ?_
    refine r.iconst (v := (4 : Int32)) (DX9_turned 33 rfl) rfl ?_
    refine r.icmp_ne 57 (DX9_turned 34 rfl) rfl hxt (fun _ hxt => ?_) (fun _ hxt => ?_)
    · refine r.iconst (v := (4 : Int32)) (DX9_turned 41 rfl) rfl ?_
      refine r.iload 1 (DX9_turned 42 rfl) rfl ?_
      refine r.imul (DX9_turned 43 rfl) ?_
      refine r.iload 0 (DX9_turned 44 rfl) rfl ?_
      refine r.iadd (DX9_turned 45 rfl) ?_
      cases hxt
      exact hret _ _ _ _ (DX9_turned 46 rfl) rfl ⟨(), rfl, rfl⟩
    refine r.iconst (v := (4 : Int32)) (DX9_turned 35 rfl) rfl ?_
    refine r.iload 0 (DX9_turned 36 rfl) rfl ?_
    refine r.imul (DX9_turned 37 rfl) ?_
    refine r.iload 1 (DX9_turned 38 rfl) rfl ?_
    refine r.iadd (DX9_turned 39 rfl) ?_
    refine r.goto 64 (DX9_turned 40 rfl) rfl ?_
    cases hxt
    exact hret _ _ _ _ (DX9_turned 46 rfl) rfl ⟨(), rfl, rfl⟩
  refine r.iconst (v := (3 : Int32)) (DX9_turned 24 rfl) rfl ?_
  refine r.iload_n 1 (DX9_turned 25 rfl) rfl ?_
  refine r.isub (DX9_turned 26 rfl) ?_
  refine r.goto 38 (DX9_turned 27 rfl) rfl ?_
  refine r.istore (lo' := [(5, .int ((3 : Int32) - (x1 - x1 / (4 : Int32) * (4 : Int32)))), (4, .int ((3 : Int32) - (x1 / (4 : Int32)))), (3, .int (x1 - x1 / (4 : Int32) * (4 : Int32))), (2, .int (x1 / (4 : Int32))), (0, .int x0), (1, .int x1)]) (DX9_turned 29 rfl) (Nat.le_of_ble_eq_true rfl) rfl ?_
  refine r.iload_n 4 (DX9_turned 30 rfl) rfl ?_
  refine r.iconst (v := (4 : Int32)) (DX9_turned 31 rfl) rfl ?_
  refine r.iand (DX9_turned 32 rfl) ?_
  refine r.iconst (v := (4 : Int32)) (DX9_turned 33 rfl) rfl ?_
  refine r.icmp_ne 57 (DX9_turned 34 rfl) rfl hxt (fun _ hxt => ?_) (fun _ hxt => ?_)
  · refine r.iconst (v := (4 : Int32)) (DX9_turned 41 rfl) rfl ?_
    refine r.iload 1 (DX9_turned 42 rfl) rfl ?_
    refine r.imul (DX9_turned 43 rfl) ?_
    refine r.iload 0 (DX9_turned 44 rfl) rfl ?_
    refine r.iadd (DX9_turned 45 rfl) ?_
    cases hxt
    exact hret _ _ _ _ (DX9_turned 46 rfl) rfl ⟨(), rfl, rfl⟩
  refine r.iconst (v := (4 : Int32)) (DX9_turned 35 rfl) rfl ?_
  refine r.iload 0 (DX9_turned 36 rfl) rfl ?_
  refine r.imul (DX9_turned 37 rfl) ?_
  refine r.iload 1 (DX9_turned 38 rfl) rfl ?_
  refine r.iadd (DX9_turned 39 rfl) ?_
  refine r.goto 64 (DX9_turned 40 rfl) rfl ?_
  cases hxt
  exact hret _ _ _ _ (DX9_turned 46 rfl) rfl ⟨(), rfl, rfl⟩
set_option maxRecDepth 100000 in
set_option maxHeartbeats 4000000 in
theorem l_X9_findSymmetries_17 (E : xE) (a : Nat → Nat) (x1 : Int32) (hM : Mem) {V : xVT} (r : Rl E RX9 cX9_findSymmetries (xR 1 0 0) 5 false V) {o : Mem} {k : Int32 → Mem → Option (Mem)} (hk : ∀ (v2 : Int32) (mM : Mem), k v2 mM = some o → V 0 0 76 [(0, .ref (a 31)), (1, .int x1), (2, .int v2)] [] [(a 31, oX9 a (hM 31)), (a 32, aI E 8 (hM 32)), (a 41, aI E 128 (mM 41))]) : ∀ (n : Nat) (v2 : Int32) (v3 : Int32) (mM : Mem), xt_X9_findSymmetries_l17 x1 hM k n v2 v3 mM = some o → V 0 0 17 [(0, .ref (a 31)), (1, .int x1), (2, .int v2), (3, .int v3)] [] [(a 31, oX9 a (hM 31)), (a 32, aI E 8 (hM 32)), (a 41, aI E 128 (mM 41))] := by
  intro n
  induction n with
  | zero => intro v2 v3 mM hxt; exact xno hxt
  | succ n ih =>
    intro v2 v3 mM hxt
    rw [xt_X9_findSymmetries_l17] at hxt
    refine r.iload_n 3 (DX9_findSymmetries_0 12 rfl) rfl ?_
    refine r.bipush (v := (16 : Int32)) (DX9_findSymmetries_0 13 rfl) rfl ?_
    refine r.icmp_ge 76 (DX9_findSymmetries_0 14 rfl) rfl hxt (fun _ hxt => ?_) (fun _ hxt => ?_)
    · refine r.rel (lo' := [(0, .ref (a 31)), (1, .int x1), (2, .int v2)]) [0, 1, 2] rfl ?_
      exact hk v2 (mgs hM [41] mM) hxt
    refine r.iload_n 1 (DX9_findSymmetries_0 15 rfl) rfl ?_
    refine r.iload_n 3 (DX9_findSymmetries_0 16 rfl) rfl ?_
    obtain ⟨o_1, ho_1, hxt⟩ := xbd hxt
    refine r.callSI0 (t_X9_turned E x1 v3 ho_1) g_X9_128 rfl (DX9_findSymmetries_0 17 rfl) rfl ⟨(Nat.le_of_ble_eq_true rfl), (Nat.le_of_ble_eq_true rfl)⟩ (Nat.le_of_ble_eq_true rfl) ?_
    refine r.istore (lo' := [(4, .int o_1), (0, .ref (a 31)), (1, .int x1), (2, .int v2), (3, .int v3)]) (DX9_findSymmetries_0 18 rfl) (Nat.le_of_ble_eq_true rfl) rfl ?_
    refine r.iload_n 3 (DX9_findSymmetries_0 19 rfl) rfl ?_
    refine r.aload_n 1 (DX9_findSymmetries_0 20 rfl) rfl ?_
    refine r.get (v := .ref (a 32)) kX9 f_X9_7 rfl 0 rfl rfl (DX9_findSymmetries_0 21 rfl) ?_
    refine r.iconst (v := (3 : Int32)) (DX9_findSymmetries_0 22 rfl) rfl ?_
    obtain ⟨hin, hxt⟩ := xgd_some hxt
    refine r.iald 1 rfl hin (DX9_findSymmetries_0 23 rfl) ?_
    refine r.iload_n 4 (DX9_findSymmetries_0 24 rfl) rfl ?_
    obtain ⟨o_2, ho_2, hxt⟩ := xbd hxt
    refine r.callSI0 (t_X9_has E ((hM 32) (3 : Int32).toNatClampNeg) v3 ho_2) g_X9_78 rfl (DX9_findSymmetries_0 25 rfl) rfl ⟨(Nat.le_of_ble_eq_true rfl), (Nat.le_of_ble_eq_true rfl)⟩ (Nat.le_of_ble_eq_true rfl) ?_
    refine r.if_eq 51 (DX9_findSymmetries_0 26 rfl) rfl hxt (fun _ hxt => ?_) (fun _ hxt => ?_)
    · refine r.iconst (v := (0 : Int32)) (DX9_findSymmetries_0 31 rfl) rfl ?_
      refine r.ior (DX9_findSymmetries_0 32 rfl) ?_
      refine r.istore_n (lo' := [(2, .int (v2 ||| (0 : Int32))), (4, .int o_1), (0, .ref (a 31)), (1, .int x1), (3, .int v3)]) (DX9_findSymmetries_0 33 rfl) (Nat.le_of_ble_eq_true rfl) rfl ?_
      refine r.aload_n 2 (DX9_findSymmetries_0 34 rfl) rfl ?_
      refine r.get (v := .ref (a 41)) kX9 f_X9_38 rfl 0 rfl rfl (DX9_findSymmetries_0 35 rfl) ?_
      refine r.bipush (v := (16 : Int32)) (DX9_findSymmetries_0 36 rfl) rfl ?_
      refine r.aload_n 2 (DX9_findSymmetries_0 37 rfl) rfl ?_
      refine r.get (v := .int ((hM 31) 12)) kX9 f_X9_125 rfl 0 rfl rfl (DX9_findSymmetries_0 38 rfl) ?_
      refine r.imul (DX9_findSymmetries_0 39 rfl) ?_
      refine r.iload_n 4 (DX9_findSymmetries_0 40 rfl) rfl ?_
      refine r.iadd (DX9_findSymmetries_0 41 rfl) ?_
      refine r.iload 1 (DX9_findSymmetries_0 42 rfl) rfl ?_
      obtain ⟨hin, hxt⟩ := xgd_some hxt
      refine r.iast (ws' := [(a 31, oX9 a (hM 31)), (a 32, aI E 8 (hM 32)), (a 41, aI E 128 (upd (mM 41) (((16 : Int32) * ((hM 31) 12)) + v3).toNatClampNeg o_1))]) 2 rfl hin rfl (DX9_findSymmetries_0 43 rfl) ?_
      refine r.iinc (v := (v3 + (1 : Int32))) (lo' := [(3, .int (v3 + (1 : Int32))), (2, .int (v2 ||| (0 : Int32))), (4, .int o_1), (0, .ref (a 31)), (1, .int x1)]) 4 (DX9_findSymmetries_0 44 rfl) rfl rfl (Nat.le_of_ble_eq_true rfl) rfl ?_
      refine r.goto 17 (DX9_findSymmetries_0 45 rfl) rfl ?_
      refine r.rel (lo' := [(0, .ref (a 31)), (1, .int x1), (2, .int (v2 ||| (0 : Int32))), (3, .int (v3 + (1 : Int32)))]) [3, 4, 1, 0] rfl ?_
      exact ih (v2 ||| (0 : Int32)) (v3 + (1 : Int32)) (mset hM 41 (upd (mM 41) (((16 : Int32) * ((hM 31) 12)) + v3).toNatClampNeg o_1)) hxt
    refine r.iconst (v := (1 : Int32)) (DX9_findSymmetries_0 27 rfl) rfl ?_
    refine r.iload 0 (DX9_findSymmetries_0 28 rfl) rfl ?_
    refine r.ishl (DX9_findSymmetries_0 29 rfl) ?_
    refine r.goto 52 (DX9_findSymmetries_0 30 rfl) rfl ?_
    refine r.ior (DX9_findSymmetries_0 32 rfl) ?_
    refine r.istore_n (lo' := [(2, .int (v2 ||| ((1 : Int32) <<< (o_1 &&& 31)))), (4, .int o_1), (0, .ref (a 31)), (1, .int x1), (3, .int v3)]) (DX9_findSymmetries_0 33 rfl) (Nat.le_of_ble_eq_true rfl) rfl ?_
    refine r.aload_n 2 (DX9_findSymmetries_0 34 rfl) rfl ?_
    refine r.get (v := .ref (a 41)) kX9 f_X9_38 rfl 0 rfl rfl (DX9_findSymmetries_0 35 rfl) ?_
    refine r.bipush (v := (16 : Int32)) (DX9_findSymmetries_0 36 rfl) rfl ?_
    refine r.aload_n 2 (DX9_findSymmetries_0 37 rfl) rfl ?_
    refine r.get (v := .int ((hM 31) 12)) kX9 f_X9_125 rfl 0 rfl rfl (DX9_findSymmetries_0 38 rfl) ?_
    refine r.imul (DX9_findSymmetries_0 39 rfl) ?_
    refine r.iload_n 4 (DX9_findSymmetries_0 40 rfl) rfl ?_
    refine r.iadd (DX9_findSymmetries_0 41 rfl) ?_
    refine r.iload 1 (DX9_findSymmetries_0 42 rfl) rfl ?_
    obtain ⟨hin, hxt⟩ := xgd_some hxt
    refine r.iast (ws' := [(a 31, oX9 a (hM 31)), (a 32, aI E 8 (hM 32)), (a 41, aI E 128 (upd (mM 41) (((16 : Int32) * ((hM 31) 12)) + v3).toNatClampNeg o_1))]) 2 rfl hin rfl (DX9_findSymmetries_0 43 rfl) ?_
    refine r.iinc (v := (v3 + (1 : Int32))) (lo' := [(3, .int (v3 + (1 : Int32))), (2, .int (v2 ||| ((1 : Int32) <<< (o_1 &&& 31)))), (4, .int o_1), (0, .ref (a 31)), (1, .int x1)]) 4 (DX9_findSymmetries_0 44 rfl) rfl rfl (Nat.le_of_ble_eq_true rfl) rfl ?_
    refine r.goto 17 (DX9_findSymmetries_0 45 rfl) rfl ?_
    refine r.rel (lo' := [(0, .ref (a 31)), (1, .int x1), (2, .int (v2 ||| ((1 : Int32) <<< (o_1 &&& 31)))), (3, .int (v3 + (1 : Int32)))]) [3, 4, 1, 0] rfl ?_
    exact ih (v2 ||| ((1 : Int32) <<< (o_1 &&& 31))) (v3 + (1 : Int32)) (mset hM 41 (upd (mM 41) (((16 : Int32) * ((hM 31) 12)) + v3).toNatClampNeg o_1)) hxt
set_option maxRecDepth 100000 in
set_option maxHeartbeats 4000000 in
theorem l_X9_findSymmetries_7 (E : xE) (a : Nat → Nat) (hM : Mem) {V : xVT} (r : Rl E RX9 cX9_findSymmetries (xR 1 0 0) 5 false V) {o : Mem} {k : Mem → Option (Mem)} (hk : ∀ (mM : Mem), k mM = some o → V 0 0 106 [] [] [(a 31, oX9 a (mM 31)), (a 32, aI E 8 (hM 32)), (a 41, aI E 128 (mM 41))]) : ∀ (n : Nat) (v1 : Int32) (mM : Mem), xt_X9_findSymmetries_l7 hM k n v1 mM = some o → V 0 0 7 [(0, .ref (a 31)), (1, .int v1)] [] [(a 31, oX9 a (mM 31)), (a 32, aI E 8 (hM 32)), (a 41, aI E 128 (mM 41))] := by
  intro n
  induction n with
  | zero => intro v1 mM hxt; exact xno hxt
  | succ n ih =>
    intro v1 mM hxt
    rw [xt_X9_findSymmetries_l7] at hxt
    refine r.iload_n 1 (DX9_findSymmetries_0 5 rfl) rfl ?_
    refine r.bipush (v := (8 : Int32)) (DX9_findSymmetries_0 6 rfl) rfl ?_
    refine r.icmp_ge 106 (DX9_findSymmetries_0 7 rfl) rfl hxt (fun _ hxt => ?_) (fun _ hxt => ?_)
    · refine r.rel (lo' := []) [] rfl ?_
      exact hk (mgs hM [31, 41] mM) hxt
    refine r.iconst (v := (0 : Int32)) (DX9_findSymmetries_0 8 rfl) rfl ?_
    refine r.istore_n (lo' := [(2, .int (0 : Int32)), (0, .ref (a 31)), (1, .int v1)]) (DX9_findSymmetries_0 9 rfl) (Nat.le_of_ble_eq_true rfl) rfl ?_
    refine r.iconst (v := (0 : Int32)) (DX9_findSymmetries_0 10 rfl) rfl ?_
    refine r.istore_n (lo' := [(3, .int (0 : Int32)), (2, .int (0 : Int32)), (0, .ref (a 31)), (1, .int v1)]) (DX9_findSymmetries_0 11 rfl) (Nat.le_of_ble_eq_true rfl) rfl ?_
    refine r.rel (lo' := [(0, .ref (a 31)), (1, .int v1), (2, .int (0 : Int32)), (3, .int (0 : Int32))]) [2, 3, 1, 0] rfl ?_
    refine l_X9_findSymmetries_17 E a v1 (mgs hM [31, 41] mM) r (fun v2_3 m_4 hxt => ?_) 10000 (0 : Int32) (0 : Int32) (mgs hM [41] mM) hxt
    refine r.aload_n 0 (DX9_findSymmetries_0 46 rfl) rfl ?_
    refine r.dup (DX9_findSymmetries_0 47 rfl) rfl ?_
    refine r.get (v := .int ((mM 31) 12)) kX9 f_X9_125 rfl 0 rfl rfl (DX9_findSymmetries_0 48 rfl) ?_
    refine r.iload_n 2 (DX9_findSymmetries_0 49 rfl) rfl ?_
    refine r.aload_n 0 (DX9_findSymmetries_0 50 rfl) rfl ?_
    refine r.get (v := .ref (a 32)) kX9 f_X9_7 rfl 0 rfl rfl (DX9_findSymmetries_0 51 rfl) ?_
    refine r.iconst (v := (3 : Int32)) (DX9_findSymmetries_0 52 rfl) rfl ?_
    obtain ⟨hin, hxt⟩ := xgd_some hxt
    refine r.iald 1 rfl hin (DX9_findSymmetries_0 53 rfl) ?_
    refine r.icmp_ne 95 (DX9_findSymmetries_0 54 rfl) rfl hxt (fun _ hxt => ?_) (fun _ hxt => ?_)
    · refine r.iconst (v := (0 : Int32)) (DX9_findSymmetries_0 57 rfl) rfl ?_
      refine r.iadd (DX9_findSymmetries_0 58 rfl) ?_
      refine r.put (ws' := [(a 31, oX9 a (upd (mM 31) 12 (((mM 31) 12) + (0 : Int32)))), (a 32, aI E 8 (hM 32)), (a 41, aI E 128 (m_4 41))]) kX9 f_X9_125 0 rfl rfl rfl rfl (Nat.le_of_ble_eq_true rfl) rfl (DX9_findSymmetries_0 59 rfl) ?_
      refine r.iinc (v := (v1 + (1 : Int32))) (lo' := [(1, .int (v1 + (1 : Int32))), (0, .ref (a 31)), (2, .int v2_3)]) 1 (DX9_findSymmetries_1 0 rfl) rfl rfl (Nat.le_of_ble_eq_true rfl) rfl ?_
      refine r.goto 7 (DX9_findSymmetries_1 1 rfl) rfl ?_
      refine r.rel (lo' := [(0, .ref (a 31)), (1, .int (v1 + (1 : Int32)))]) [1, 0] rfl ?_
      exact ih (v1 + (1 : Int32)) (mgs (mset hM 31 (upd (mM 31) 12 (((mM 31) 12) + (0 : Int32)))) [41] m_4) hxt
    refine r.iconst (v := (1 : Int32)) (DX9_findSymmetries_0 55 rfl) rfl ?_
    refine r.goto 96 (DX9_findSymmetries_0 56 rfl) rfl ?_
    refine r.iadd (DX9_findSymmetries_0 58 rfl) ?_
    refine r.put (ws' := [(a 31, oX9 a (upd (mM 31) 12 (((mM 31) 12) + (1 : Int32)))), (a 32, aI E 8 (hM 32)), (a 41, aI E 128 (m_4 41))]) kX9 f_X9_125 0 rfl rfl rfl rfl (Nat.le_of_ble_eq_true rfl) rfl (DX9_findSymmetries_0 59 rfl) ?_
    refine r.iinc (v := (v1 + (1 : Int32))) (lo' := [(1, .int (v1 + (1 : Int32))), (0, .ref (a 31)), (2, .int v2_3)]) 1 (DX9_findSymmetries_1 0 rfl) rfl rfl (Nat.le_of_ble_eq_true rfl) rfl ?_
    refine r.goto 7 (DX9_findSymmetries_1 1 rfl) rfl ?_
    refine r.rel (lo' := [(0, .ref (a 31)), (1, .int (v1 + (1 : Int32)))]) [1, 0] rfl ?_
    exact ih (v1 + (1 : Int32)) (mgs (mset hM 31 (upd (mM 31) 12 (((mM 31) 12) + (1 : Int32)))) [41] m_4) hxt
set_option maxRecDepth 100000 in
set_option maxHeartbeats 4000000 in
theorem t_X9_findSymmetries (E : xE) (a : Nat → Nat) (hM : Mem) {o : Mem} (hxt : xt_X9_findSymmetries hM = some o) : xMV (S := Unit) E yX9_findSymmetries cX9_findSymmetries 5 1 0 0 [.ref (a 31)] [(a 31, oX9 a (hM 31)), (a 32, aI E 8 (hM 32)), (a 41, aI E 128 (hM 41))] (fun _ => [(a 31, oX9 a (o 31)), (a 32, aI E 8 (hM 32)), (a 41, aI E 128 (o 41))]) := by
  refine xMV.of (own := RX9) (lo0 := [(0, .ref (a 31))]) (ini := false) (fun h => nomatch h) (by decide +kernel) rfl rfl (Nat.le_of_ble_eq_true rfl) (fun V r hret => ?_)
  unfold xt_X9_findSymmetries at hxt
  refine r.aload_n 0 (DX9_findSymmetries_0 0 rfl) rfl ?_
  refine r.iconst (v := (0 : Int32)) (DX9_findSymmetries_0 1 rfl) rfl ?_
  refine r.put (ws' := [(a 31, oX9 a (upd (hM 31) 12 (0 : Int32))), (a 32, aI E 8 (hM 32)), (a 41, aI E 128 (hM 41))]) kX9 f_X9_125 0 rfl rfl rfl rfl (Nat.le_of_ble_eq_true rfl) rfl (DX9_findSymmetries_0 2 rfl) ?_
  refine r.iconst (v := (0 : Int32)) (DX9_findSymmetries_0 3 rfl) rfl ?_
  refine r.istore_n (lo' := [(1, .int (0 : Int32)), (0, .ref (a 31))]) (DX9_findSymmetries_0 4 rfl) (Nat.le_of_ble_eq_true rfl) rfl ?_
  refine r.rel (lo' := [(0, .ref (a 31)), (1, .int (0 : Int32))]) [1, 0] rfl ?_
  refine l_X9_findSymmetries_7 E a (mset hM 31 (upd (hM 31) 12 (0 : Int32))) r (fun m_5 hxt => ?_) 10000 (0 : Int32) (mset hM 31 (upd (hM 31) 12 (0 : Int32))) hxt
  cases hxt
  exact hret _ _ _ (DX9_findSymmetries_1 2 rfl) ⟨(), rfl⟩
set_option maxRecDepth 100000 in
set_option maxHeartbeats 4000000 in
theorem t_X9_madeBy (E : xE) (a : Nat → Nat) (x1 : Int32) (x2 : Int32) (hM : Mem) {o : Int32} (hxt : xt_X9_madeBy x1 x2 hM = some o) : xMI (S := Unit) E yX9_madeBy cX9_madeBy 5 .int 3 0 0 [.ref (a 31), .int x1, .int x2] [(a 31, oX9 a (hM 31)), (a 36, aI E 120 (hM 36)), (a 37, aI E 120 (hM 37)), (a 41, aI E 128 (hM 41))] (fun _ => o) (fun _ => [(a 31, oX9 a (hM 31)), (a 36, aI E 120 (hM 36)), (a 37, aI E 120 (hM 37)), (a 41, aI E 128 (hM 41))]) := by
  refine xMI.of (own := RX9) (lo0 := [(0, .ref (a 31)), (1, .int x1), (2, .int x2)]) (by decide +kernel) rfl rfl (Nat.le_of_ble_eq_true rfl) (fun V r hret => ?_)
  unfold xt_X9_madeBy at hxt
  refine r.bipush (v := (16 : Int32)) (DX9_madeBy 0 rfl) rfl ?_
  refine r.iload_n 1 (DX9_madeBy 1 rfl) rfl ?_
  refine r.imul (DX9_madeBy 2 rfl) ?_
  refine r.istore_n (lo' := [(3, .int ((16 : Int32) * x1)), (0, .ref (a 31)), (1, .int x1), (2, .int x2)]) (DX9_madeBy 3 rfl) (Nat.le_of_ble_eq_true rfl) rfl ?_
  refine r.iload_n 3 (DX9_madeBy 4 rfl) rfl ?_
  refine r.sipush (v := (128 : Int32)) (DX9_madeBy 5 rfl) rfl ?_
  refine r.irem (DX9_madeBy 6 rfl) (by decide) ?_
  refine r.istore (lo' := [(4, .int (x2 - x2 / (128 : Int32) * (128 : Int32))), (3, .int ((16 : Int32) * x1)), (0, .ref (a 31)), (1, .int x1), (2, .int x2)]) (DX9_madeBy 7 rfl) (Nat.le_of_ble_eq_true rfl) rfl ?_
  refine r.iload_n 4 (DX9_madeBy 8 rfl) rfl ?_
  refine r.sipush (v := (2048 : Int32)) (DX9_madeBy 9 rfl) rfl ?_
  refine r.idiv (DX9_madeBy 10 rfl) (by decide) ?_
  refine r.aload_n 2 (DX9_madeBy 11 rfl) rfl ?_
  refine r.get (v := .ref (a 41)) kX9 f_X9_38 rfl 0 rfl rfl (DX9_madeBy 12 rfl) ?_
  refine r.iload_n 1 (DX9_madeBy 13 rfl) rfl ?_
  refine r.iload_n 4 (DX9_madeBy 14 rfl) rfl ?_
  refine r.sipush (v := (128 : Int32)) (DX9_madeBy 15 rfl) rfl ?_
  refine r.idiv (DX9_madeBy 16 rfl) (by decide) ?_
  refine r.bipush (v := (16 : Int32)) (DX9_madeBy 17 rfl) rfl ?_
  refine r.irem (DX9_madeBy 18 rfl) (by decide) ?_
  refine r.iadd (DX9_madeBy 19 rfl) ?_
  obtain ⟨hin, hxt⟩ := xgd_some hxt
  refine r.iald 3 rfl hin (DX9_madeBy 20 rfl) ?_
  refine r.aload_n 2 (DX9_madeBy 21 rfl) rfl ?_
  refine r.get (v := .ref (a 41)) kX9 f_X9_38 rfl 0 rfl rfl (DX9_madeBy 22 rfl) ?_
  refine r.iload_n 1 (DX9_madeBy 23 rfl) rfl ?_
  refine r.aload_n 2 (DX9_madeBy 24 rfl) rfl ?_
  refine r.get (v := .ref (a 36)) kX9 f_X9_23 rfl 0 rfl rfl (DX9_madeBy 25 rfl) ?_
  refine r.iload 0 (DX9_madeBy 26 rfl) rfl ?_
  obtain ⟨hin, hxt⟩ := xgd_some hxt
  refine r.iald 1 rfl hin (DX9_madeBy 27 rfl) ?_
  refine r.iadd (DX9_madeBy 28 rfl) ?_
  obtain ⟨hin, hxt⟩ := xgd_some hxt
  refine r.iald 3 rfl hin (DX9_madeBy 29 rfl) ?_
  refine r.aload_n 2 (DX9_madeBy 30 rfl) rfl ?_
  refine r.get (v := .ref (a 41)) kX9 f_X9_38 rfl 0 rfl rfl (DX9_madeBy 31 rfl) ?_
  refine r.iload_n 1 (DX9_madeBy 32 rfl) rfl ?_
  refine r.aload_n 2 (DX9_madeBy 33 rfl) rfl ?_
  refine r.get (v := .ref (a 37)) kX9 f_X9_26 rfl 0 rfl rfl (DX9_madeBy 34 rfl) ?_
  refine r.iload 0 (DX9_madeBy 35 rfl) rfl ?_
  obtain ⟨hin, hxt⟩ := xgd_some hxt
  refine r.iald 2 rfl hin (DX9_madeBy 36 rfl) ?_
  refine r.iadd (DX9_madeBy 37 rfl) ?_
  obtain ⟨hin, hxt⟩ := xgd_some hxt
  refine r.iald 3 rfl hin (DX9_madeBy 38 rfl) ?_
  obtain ⟨o_1, ho_1, hxt⟩ := xbd hxt
  refine r.callSI0 (t_X9_numberOf E (x2 / (2048 : Int32)) ((hM 41) (((16 : Int32) * x1) + ((x2 / (128 : Int32)) - (x2 / (128 : Int32)) / (16 : Int32) * (16 : Int32))).toNatClampNeg) ((hM 41) (((16 : Int32) * x1) + ((hM 36) (x2 - x2 / (128 : Int32) * (128 : Int32)).toNatClampNeg)).toNatClampNeg) ((hM 41) (((16 : Int32) * x1) + ((hM 37) (x2 - x2 / (128 : Int32) * (128 : Int32)).toNatClampNeg)).toNatClampNeg) ho_1) g_X9_99 rfl (DX9_madeBy 39 rfl) rfl ⟨(Nat.le_of_ble_eq_true rfl), (Nat.le_of_ble_eq_true rfl)⟩ (Nat.le_of_ble_eq_true rfl) ?_
  cases hxt
  exact hret _ _ _ _ (DX9_madeBy 40 rfl) rfl ⟨(), rfl, rfl⟩
set_option maxRecDepth 100000 in
set_option maxHeartbeats 4000000 in
theorem l_X9_foldOne_31 (E : xE) (a : Nat → Nat) (x1 : Int32) (x2 : Int32) (x3 : Int32) (x4 : Int32) (x5 : Int32) (hM : Mem) {V : xVT} (r : Rl E RX9 cX9_foldOne (xR 4 0 0) 8 false V) {o : Mem} {k : Int32 → Option (Mem)} (hk : ∀ (v6 : Int32), k v6 = some o → V 0 0 66 [(0, .ref (a 31)), (1, .int x1), (2, .int x2), (3, .int x3), (4, .int x4), (5, .int x5), (6, .int v6)] [] [(a 31, oX9 a (hM 31)), (a 36, aI E 120 (hM 36)), (a 37, aI E 120 (hM 37)), (a 39, aI E 4096 (hM 39)), (a 40, aI E 4096 (hM 40)), (a 41, aI E 128 (hM 41))]) : ∀ (n : Nat) (v6 : Int32) (v7 : Int32), xt_X9_foldOne_l31 x1 x2 x3 x4 x5 hM k n v6 v7 = some o → V 0 0 31 [(0, .ref (a 31)), (1, .int x1), (2, .int x2), (3, .int x3), (4, .int x4), (5, .int x5), (6, .int v6), (7, .int v7)] [] [(a 31, oX9 a (hM 31)), (a 36, aI E 120 (hM 36)), (a 37, aI E 120 (hM 37)), (a 39, aI E 4096 (hM 39)), (a 40, aI E 4096 (hM 40)), (a 41, aI E 128 (hM 41))] := by
  intro n
  induction n with
  | zero => intro v6 v7 hxt; exact xno hxt
  | succ n ih =>
    intro v6 v7 hxt
    rw [xt_X9_foldOne_l31] at hxt
    refine r.iload 7 (DX9_foldOne_0 19 rfl) rfl ?_
    refine r.iload 4 (DX9_foldOne_0 20 rfl) rfl ?_
    refine r.icmp_ge 66 (DX9_foldOne_0 21 rfl) rfl hxt (fun _ hxt => ?_) (fun _ hxt => ?_)
    · refine r.rel (lo' := [(0, .ref (a 31)), (1, .int x1), (2, .int x2), (3, .int x3), (4, .int x4), (5, .int x5), (6, .int v6)]) [0, 1, 2, 3, 4, 5, 6] rfl ?_
      exact hk v6 hxt
    refine r.iload 6 (DX9_foldOne_0 22 rfl) rfl ?_
    refine r.aload_n 0 (DX9_foldOne_0 23 rfl) rfl ?_
    refine r.iload 7 (DX9_foldOne_0 24 rfl) rfl ?_
    refine r.iload_n 1 (DX9_foldOne_0 25 rfl) rfl ?_
    obtain ⟨o_2, ho_2, hxt⟩ := xbd hxt
    refine r.callVI 0 rfl rfl (t_X9_madeBy E a v7 x1 hM ho_2) g_X9_135 rfl (DX9_foldOne_0 26 rfl) rfl ⟨(Nat.le_of_ble_eq_true rfl), (Nat.le_of_ble_eq_true rfl)⟩ ⟨(Nat.le_of_ble_eq_true rfl), (Nat.le_of_ble_eq_true rfl)⟩ (Nat.le_of_ble_eq_true rfl) [0, 1, 2, 5] [3, 4] rfl rfl rfl rfl (by decide) [2, 3, 4, 0, 1, 5] rfl (ws2 := fun _ => [(a 31, oX9 a (hM 31)), (a 36, aI E 120 (hM 36)), (a 37, aI E 120 (hM 37)), (a 39, aI E 4096 (hM 39)), (a 40, aI E 4096 (hM 40)), (a 41, aI E 128 (hM 41))]) (fun _ => rfl) (fun _ => ?_)
    refine r.iload 5 (DX9_foldOne_0 27 rfl) rfl ?_
    refine r.icmp_eq 56 (DX9_foldOne_0 28 rfl) rfl hxt (fun _ hxt => ?_) (fun _ hxt => ?_)
    · refine r.iconst (v := (0 : Int32)) (DX9_foldOne_0 31 rfl) rfl ?_
      refine r.iand (DX9_foldOne_0 32 rfl) ?_
      refine r.istore (lo' := [(6, .int (v6 &&& (0 : Int32))), (0, .ref (a 31)), (1, .int x1), (2, .int x2), (3, .int x3), (4, .int x4), (5, .int x5), (7, .int v7)]) (DX9_foldOne_0 33 rfl) (Nat.le_of_ble_eq_true rfl) rfl ?_
      refine r.iinc (v := (v7 + (1 : Int32))) (lo' := [(7, .int (v7 + (1 : Int32))), (6, .int (v6 &&& (0 : Int32))), (0, .ref (a 31)), (1, .int x1), (2, .int x2), (3, .int x3), (4, .int x4), (5, .int x5)]) 7 (DX9_foldOne_0 34 rfl) rfl rfl (Nat.le_of_ble_eq_true rfl) rfl ?_
      refine r.goto 31 (DX9_foldOne_0 35 rfl) rfl ?_
      refine r.rel (lo' := [(0, .ref (a 31)), (1, .int x1), (2, .int x2), (3, .int x3), (4, .int x4), (5, .int x5), (6, .int (v6 &&& (0 : Int32))), (7, .int (v7 + (1 : Int32)))]) [2, 3, 4, 5, 6, 7, 1, 0] rfl ?_
      exact ih (v6 &&& (0 : Int32)) (v7 + (1 : Int32)) hxt
    refine r.iconst (v := (1 : Int32)) (DX9_foldOne_0 29 rfl) rfl ?_
    refine r.goto 57 (DX9_foldOne_0 30 rfl) rfl ?_
    refine r.iand (DX9_foldOne_0 32 rfl) ?_
    refine r.istore (lo' := [(6, .int (v6 &&& (1 : Int32))), (0, .ref (a 31)), (1, .int x1), (2, .int x2), (3, .int x3), (4, .int x4), (5, .int x5), (7, .int v7)]) (DX9_foldOne_0 33 rfl) (Nat.le_of_ble_eq_true rfl) rfl ?_
    refine r.iinc (v := (v7 + (1 : Int32))) (lo' := [(7, .int (v7 + (1 : Int32))), (6, .int (v6 &&& (1 : Int32))), (0, .ref (a 31)), (1, .int x1), (2, .int x2), (3, .int x3), (4, .int x4), (5, .int x5)]) 7 (DX9_foldOne_0 34 rfl) rfl rfl (Nat.le_of_ble_eq_true rfl) rfl ?_
    refine r.goto 31 (DX9_foldOne_0 35 rfl) rfl ?_
    refine r.rel (lo' := [(0, .ref (a 31)), (1, .int x1), (2, .int x2), (3, .int x3), (4, .int x4), (5, .int x5), (6, .int (v6 &&& (1 : Int32))), (7, .int (v7 + (1 : Int32)))]) [2, 3, 4, 5, 6, 7, 1, 0] rfl ?_
    exact ih (v6 &&& (1 : Int32)) (v7 + (1 : Int32)) hxt
set_option maxRecDepth 100000 in
set_option maxHeartbeats 4000000 in
theorem l_X9_foldOne_7 (E : xE) (a : Nat → Nat) (x1 : Int32) (hM : Mem) {V : xVT} (r : Rl E RX9 cX9_foldOne (xR 4 0 0) 8 false V) {o : Mem} {k : Int32 → Int32 → Option (Mem)} (hk : ∀ (v2 : Int32) (v3 : Int32), k v2 v3 = some o → V 0 0 92 [(0, .ref (a 31)), (1, .int x1), (2, .int v2), (3, .int v3)] [] [(a 31, oX9 a (hM 31)), (a 36, aI E 120 (hM 36)), (a 37, aI E 120 (hM 37)), (a 39, aI E 4096 (hM 39)), (a 40, aI E 4096 (hM 40)), (a 41, aI E 128 (hM 41))]) : ∀ (n : Nat) (v2 : Int32) (v3 : Int32) (v4 : Int32), xt_X9_foldOne_l7 x1 hM k n v2 v3 v4 = some o → V 0 0 7 [(0, .ref (a 31)), (1, .int x1), (2, .int v2), (3, .int v3), (4, .int v4)] [] [(a 31, oX9 a (hM 31)), (a 36, aI E 120 (hM 36)), (a 37, aI E 120 (hM 37)), (a 39, aI E 4096 (hM 39)), (a 40, aI E 4096 (hM 40)), (a 41, aI E 128 (hM 41))] := by
  intro n
  induction n with
  | zero => intro v2 v3 v4 hxt; exact xno hxt
  | succ n ih =>
    intro v2 v3 v4 hxt
    rw [xt_X9_foldOne_l7] at hxt
    refine r.iload 4 (DX9_foldOne_0 6 rfl) rfl ?_
    refine r.aload_n 0 (DX9_foldOne_0 7 rfl) rfl ?_
    refine r.get (v := .int ((hM 31) 12)) kX9 f_X9_125 rfl 0 rfl rfl (DX9_foldOne_0 8 rfl) ?_
    refine r.icmp_ge 92 (DX9_foldOne_0 9 rfl) rfl hxt (fun _ hxt => ?_) (fun _ hxt => ?_)
    · refine r.rel (lo' := [(0, .ref (a 31)), (1, .int x1), (2, .int v2), (3, .int v3)]) [0, 1, 2, 3] rfl ?_
      exact hk v2 v3 hxt
    refine r.aload_n 0 (DX9_foldOne_0 10 rfl) rfl ?_
    refine r.iload 4 (DX9_foldOne_0 11 rfl) rfl ?_
    refine r.iload_n 1 (DX9_foldOne_0 12 rfl) rfl ?_
    obtain ⟨o_1, ho_1, hxt⟩ := xbd hxt
    refine r.callVI 0 rfl rfl (t_X9_madeBy E a v4 x1 hM ho_1) g_X9_135 rfl (DX9_foldOne_0 13 rfl) rfl ⟨(Nat.le_of_ble_eq_true rfl), (Nat.le_of_ble_eq_true rfl)⟩ ⟨(Nat.le_of_ble_eq_true rfl), (Nat.le_of_ble_eq_true rfl)⟩ (Nat.le_of_ble_eq_true rfl) [0, 1, 2, 5] [3, 4] rfl rfl rfl rfl (by decide) [2, 3, 4, 0, 1, 5] rfl (ws2 := fun _ => [(a 31, oX9 a (hM 31)), (a 36, aI E 120 (hM 36)), (a 37, aI E 120 (hM 37)), (a 39, aI E 4096 (hM 39)), (a 40, aI E 4096 (hM 40)), (a 41, aI E 128 (hM 41))]) (fun _ => rfl) (fun _ => ?_)
    refine r.istore (lo' := [(5, .int o_1), (0, .ref (a 31)), (1, .int x1), (2, .int v2), (3, .int v3), (4, .int v4)]) (DX9_foldOne_0 14 rfl) (Nat.le_of_ble_eq_true rfl) rfl ?_
    refine r.iconst (v := (1 : Int32)) (DX9_foldOne_0 15 rfl) rfl ?_
    refine r.istore (lo' := [(6, .int (1 : Int32)), (5, .int o_1), (0, .ref (a 31)), (1, .int x1), (2, .int v2), (3, .int v3), (4, .int v4)]) (DX9_foldOne_0 16 rfl) (Nat.le_of_ble_eq_true rfl) rfl ?_
    refine r.iconst (v := (0 : Int32)) (DX9_foldOne_0 17 rfl) rfl ?_
    refine r.istore (lo' := [(7, .int (0 : Int32)), (6, .int (1 : Int32)), (5, .int o_1), (0, .ref (a 31)), (1, .int x1), (2, .int v2), (3, .int v3), (4, .int v4)]) (DX9_foldOne_0 18 rfl) (Nat.le_of_ble_eq_true rfl) rfl ?_
    refine r.rel (lo' := [(0, .ref (a 31)), (1, .int x1), (2, .int v2), (3, .int v3), (4, .int v4), (5, .int o_1), (6, .int (1 : Int32)), (7, .int (0 : Int32))]) [3, 4, 5, 6, 7, 2, 1, 0] rfl ?_
    refine l_X9_foldOne_31 E a x1 v2 v3 v4 o_1 hM r (fun v6_3 hxt => ?_) 10000 (1 : Int32) (0 : Int32) hxt
    refine r.iload_n 3 (DX9_foldOne_0 36 rfl) rfl ?_
    refine r.iload 6 (DX9_foldOne_0 37 rfl) rfl ?_
    refine r.if_eq 76 (DX9_foldOne_0 38 rfl) rfl hxt (fun _ hxt => ?_) (fun _ hxt => ?_)
    · refine r.iconst (v := (0 : Int32)) (DX9_foldOne_0 41 rfl) rfl ?_
      refine r.iadd (DX9_foldOne_0 42 rfl) ?_
      refine r.istore_n (lo' := [(3, .int (v3 + (0 : Int32))), (0, .ref (a 31)), (1, .int x1), (2, .int v2), (4, .int v4), (5, .int o_1), (6, .int v6_3)]) (DX9_foldOne_0 43 rfl) (Nat.le_of_ble_eq_true rfl) rfl ?_
      refine r.iload_n 3 (DX9_foldOne_0 44 rfl) rfl ?_
      refine r.iload 5 (DX9_foldOne_0 45 rfl) rfl ?_
      obtain ⟨o_4, ho_4, hxt⟩ := xbd hxt
      refine r.callSI0 (t_X9_lesser E v2 o_1 ho_4) g_X9_82 rfl (DX9_foldOne_0 46 rfl) rfl ⟨(Nat.le_of_ble_eq_true rfl), (Nat.le_of_ble_eq_true rfl)⟩ (Nat.le_of_ble_eq_true rfl) ?_
      refine r.istore_n (lo' := [(2, .int o_4), (3, .int (v3 + (0 : Int32))), (0, .ref (a 31)), (1, .int x1), (4, .int v4), (5, .int o_1), (6, .int v6_3)]) (DX9_foldOne_0 47 rfl) (Nat.le_of_ble_eq_true rfl) rfl ?_
      refine r.iinc (v := (v4 + (1 : Int32))) (lo' := [(4, .int (v4 + (1 : Int32))), (2, .int o_4), (3, .int (v3 + (0 : Int32))), (0, .ref (a 31)), (1, .int x1), (5, .int o_1), (6, .int v6_3)]) 4 (DX9_foldOne_0 48 rfl) rfl rfl (Nat.le_of_ble_eq_true rfl) rfl ?_
      refine r.goto 7 (DX9_foldOne_0 49 rfl) rfl ?_
      refine r.rel (lo' := [(0, .ref (a 31)), (1, .int x1), (2, .int o_4), (3, .int (v3 + (0 : Int32))), (4, .int (v4 + (1 : Int32)))]) [3, 4, 1, 2, 0] rfl ?_
      exact ih o_4 (v3 + (0 : Int32)) (v4 + (1 : Int32)) hxt
    refine r.iconst (v := (1 : Int32)) (DX9_foldOne_0 39 rfl) rfl ?_
    refine r.goto 77 (DX9_foldOne_0 40 rfl) rfl ?_
    refine r.iadd (DX9_foldOne_0 42 rfl) ?_
    refine r.istore_n (lo' := [(3, .int (v3 + (1 : Int32))), (0, .ref (a 31)), (1, .int x1), (2, .int v2), (4, .int v4), (5, .int o_1), (6, .int v6_3)]) (DX9_foldOne_0 43 rfl) (Nat.le_of_ble_eq_true rfl) rfl ?_
    refine r.iload_n 3 (DX9_foldOne_0 44 rfl) rfl ?_
    refine r.iload 5 (DX9_foldOne_0 45 rfl) rfl ?_
    obtain ⟨o_5, ho_5, hxt⟩ := xbd hxt
    refine r.callSI0 (t_X9_lesser E v2 o_1 ho_5) g_X9_82 rfl (DX9_foldOne_0 46 rfl) rfl ⟨(Nat.le_of_ble_eq_true rfl), (Nat.le_of_ble_eq_true rfl)⟩ (Nat.le_of_ble_eq_true rfl) ?_
    refine r.istore_n (lo' := [(2, .int o_5), (3, .int (v3 + (1 : Int32))), (0, .ref (a 31)), (1, .int x1), (4, .int v4), (5, .int o_1), (6, .int v6_3)]) (DX9_foldOne_0 47 rfl) (Nat.le_of_ble_eq_true rfl) rfl ?_
    refine r.iinc (v := (v4 + (1 : Int32))) (lo' := [(4, .int (v4 + (1 : Int32))), (2, .int o_5), (3, .int (v3 + (1 : Int32))), (0, .ref (a 31)), (1, .int x1), (5, .int o_1), (6, .int v6_3)]) 4 (DX9_foldOne_0 48 rfl) rfl rfl (Nat.le_of_ble_eq_true rfl) rfl ?_
    refine r.goto 7 (DX9_foldOne_0 49 rfl) rfl ?_
    refine r.rel (lo' := [(0, .ref (a 31)), (1, .int x1), (2, .int o_5), (3, .int (v3 + (1 : Int32))), (4, .int (v4 + (1 : Int32)))]) [3, 4, 1, 2, 0] rfl ?_
    exact ih o_5 (v3 + (1 : Int32)) (v4 + (1 : Int32)) hxt
set_option maxRecDepth 100000 in
set_option maxHeartbeats 4000000 in
theorem t_X9_foldOne (E : xE) (a : Nat → Nat) (x1 : Int32) (hM : Mem) {o : Mem} (hxt : xt_X9_foldOne x1 hM = some o) : xMV (S := Unit) E yX9_foldOne cX9_foldOne 8 4 0 0 [.ref (a 31), .int x1] [(a 31, oX9 a (hM 31)), (a 36, aI E 120 (hM 36)), (a 37, aI E 120 (hM 37)), (a 39, aI E 4096 (hM 39)), (a 40, aI E 4096 (hM 40)), (a 41, aI E 128 (hM 41))] (fun _ => [(a 31, oX9 a (hM 31)), (a 36, aI E 120 (hM 36)), (a 37, aI E 120 (hM 37)), (a 39, aI E 4096 (o 39)), (a 40, aI E 4096 (o 40)), (a 41, aI E 128 (hM 41))]) := by
  refine xMV.of (own := RX9) (lo0 := [(0, .ref (a 31)), (1, .int x1)]) (ini := false) (fun h => nomatch h) (by decide +kernel) rfl rfl (Nat.le_of_ble_eq_true rfl) (fun V r hret => ?_)
  unfold xt_X9_foldOne at hxt
  refine r.iload_n 1 (DX9_foldOne_0 0 rfl) rfl ?_
  refine r.istore_n (lo' := [(2, .int x1), (0, .ref (a 31)), (1, .int x1)]) (DX9_foldOne_0 1 rfl) (Nat.le_of_ble_eq_true rfl) rfl ?_
  refine r.iconst (v := (0 : Int32)) (DX9_foldOne_0 2 rfl) rfl ?_
  refine r.istore_n (lo' := [(3, .int (0 : Int32)), (2, .int x1), (0, .ref (a 31)), (1, .int x1)]) (DX9_foldOne_0 3 rfl) (Nat.le_of_ble_eq_true rfl) rfl ?_
  refine r.iconst (v := (0 : Int32)) (DX9_foldOne_0 4 rfl) rfl ?_
  refine r.istore (lo' := [(4, .int (0 : Int32)), (3, .int (0 : Int32)), (2, .int x1), (0, .ref (a 31)), (1, .int x1)]) (DX9_foldOne_0 5 rfl) (Nat.le_of_ble_eq_true rfl) rfl ?_
  refine r.rel (lo' := [(0, .ref (a 31)), (1, .int x1), (2, .int x1), (3, .int (0 : Int32)), (4, .int (0 : Int32))]) [3, 4, 2, 1, 0] rfl ?_
  refine l_X9_foldOne_7 E a x1 hM r (fun v2_6 v3_7 hxt => ?_) 10000 x1 (0 : Int32) (0 : Int32) hxt
  refine r.aload_n 0 (DX9_foldOne_0 50 rfl) rfl ?_
  refine r.get (v := .ref (a 39)) kX9 f_X9_32 rfl 0 rfl rfl (DX9_foldOne_0 51 rfl) ?_
  refine r.iload_n 1 (DX9_foldOne_0 52 rfl) rfl ?_
  refine r.iload_n 2 (DX9_foldOne_0 53 rfl) rfl ?_
  obtain ⟨hin, hxt⟩ := xgd_some hxt
  refine r.iast (ws' := [(a 31, oX9 a (hM 31)), (a 36, aI E 120 (hM 36)), (a 37, aI E 120 (hM 37)), (a 39, aI E 4096 (upd (hM 39) x1.toNatClampNeg v2_6)), (a 40, aI E 4096 (hM 40)), (a 41, aI E 128 (hM 41))]) 3 rfl hin rfl (DX9_foldOne_0 54 rfl) ?_
  refine r.aload_n 0 (DX9_foldOne_0 55 rfl) rfl ?_
  refine r.get (v := .ref (a 40)) kX9 f_X9_35 rfl 0 rfl rfl (DX9_foldOne_0 56 rfl) ?_
  refine r.iload_n 1 (DX9_foldOne_0 57 rfl) rfl ?_
  refine r.iload_n 3 (DX9_foldOne_0 58 rfl) rfl ?_
  obtain ⟨hin, hxt⟩ := xgd_some hxt
  refine r.iast (ws' := [(a 31, oX9 a (hM 31)), (a 36, aI E 120 (hM 36)), (a 37, aI E 120 (hM 37)), (a 39, aI E 4096 (upd (hM 39) x1.toNatClampNeg v2_6)), (a 40, aI E 4096 (upd (hM 40) x1.toNatClampNeg v3_7)), (a 41, aI E 128 (hM 41))]) 4 rfl hin rfl (DX9_foldOne_0 59 rfl) ?_
  cases hxt
  exact hret _ _ _ (DX9_foldOne_1 0 rfl) ⟨(), rfl⟩
set_option maxRecDepth 100000 in
set_option maxHeartbeats 4000000 in
theorem l_X9_fold_2 (E : xE) (a : Nat → Nat) (hM : Mem) {V : xVT} (r : Rl E RX9 cX9_fold (xR 5 0 0) 2 false V) {o : Mem} {k : Mem → Option (Mem)} (hk : ∀ (mM : Mem), k mM = some o → V 0 0 43 [] [] [(a 31, oX9 a (hM 31)), (a 32, aI E 8 (hM 32)), (a 36, aI E 120 (hM 36)), (a 37, aI E 120 (hM 37)), (a 39, aI E 4096 (mM 39)), (a 40, aI E 4096 (mM 40)), (a 41, aI E 128 (hM 41))]) : ∀ (n : Nat) (v1 : Int32) (mM : Mem), xt_X9_fold_l2 hM k n v1 mM = some o → V 0 0 2 [(0, .ref (a 31)), (1, .int v1)] [] [(a 31, oX9 a (hM 31)), (a 32, aI E 8 (hM 32)), (a 36, aI E 120 (hM 36)), (a 37, aI E 120 (hM 37)), (a 39, aI E 4096 (mM 39)), (a 40, aI E 4096 (mM 40)), (a 41, aI E 128 (hM 41))] := by
  intro n
  induction n with
  | zero => intro v1 mM hxt; exact xno hxt
  | succ n ih =>
    intro v1 mM hxt
    rw [xt_X9_fold_l2] at hxt
    refine r.iload_n 1 (DX9_fold 2 rfl) rfl ?_
    refine r.sipush (v := (4096 : Int32)) (DX9_fold 3 rfl) rfl ?_
    refine r.icmp_ge 43 (DX9_fold 4 rfl) rfl hxt (fun _ hxt => ?_) (fun _ hxt => ?_)
    · refine r.rel (lo' := []) [] rfl ?_
      exact hk (mgs hM [39, 40] mM) hxt
    refine r.aload_n 0 (DX9_fold 5 rfl) rfl ?_
    refine r.get (v := .ref (a 40)) kX9 f_X9_35 rfl 0 rfl rfl (DX9_fold 6 rfl) ?_
    refine r.iload_n 1 (DX9_fold 7 rfl) rfl ?_
    refine r.iconst (v := (0 : Int32)) (DX9_fold 8 rfl) rfl ?_
    obtain ⟨hin, hxt⟩ := xgd_some hxt
    refine r.iast (ws' := [(a 31, oX9 a (hM 31)), (a 32, aI E 8 (hM 32)), (a 36, aI E 120 (hM 36)), (a 37, aI E 120 (hM 37)), (a 39, aI E 4096 (mM 39)), (a 40, aI E 4096 (upd (mM 40) v1.toNatClampNeg (0 : Int32))), (a 41, aI E 128 (hM 41))]) 5 rfl hin rfl (DX9_fold 9 rfl) ?_
    refine r.aload_n 0 (DX9_fold 10 rfl) rfl ?_
    refine r.get (v := .ref (a 39)) kX9 f_X9_32 rfl 0 rfl rfl (DX9_fold 11 rfl) ?_
    refine r.iload_n 1 (DX9_fold 12 rfl) rfl ?_
    refine r.bipush (v := (-6 : Int32)) (DX9_fold 13 rfl) rfl ?_
    obtain ⟨hin, hxt⟩ := xgd_some hxt
    refine r.iast (ws' := [(a 31, oX9 a (hM 31)), (a 32, aI E 8 (hM 32)), (a 36, aI E 120 (hM 36)), (a 37, aI E 120 (hM 37)), (a 39, aI E 4096 (upd (mM 39) v1.toNatClampNeg (-6 : Int32))), (a 40, aI E 4096 (upd (mM 40) v1.toNatClampNeg (0 : Int32))), (a 41, aI E 128 (hM 41))]) 4 rfl hin rfl (DX9_fold 14 rfl) ?_
    refine r.aload_n 0 (DX9_fold 15 rfl) rfl ?_
    refine r.iload_n 1 (DX9_fold 16 rfl) rfl ?_
    obtain ⟨o_1, ho_1, hxt⟩ := xbd hxt
    refine r.callVI 0 rfl rfl (t_X9_isPosition E a v1 hM ho_1) g_X9_113 rfl (DX9_fold 17 rfl) rfl ⟨(Nat.le_of_ble_eq_true rfl), (Nat.le_of_ble_eq_true rfl)⟩ ⟨(Nat.le_of_ble_eq_true rfl), (Nat.le_of_ble_eq_true rfl)⟩ (Nat.le_of_ble_eq_true rfl) [0, 1, 2, 3] [4, 5, 6] rfl rfl rfl rfl (by decide) [3, 4, 5, 6, 0, 1, 2] rfl (ws2 := fun _ => [(a 31, oX9 a (hM 31)), (a 32, aI E 8 (hM 32)), (a 36, aI E 120 (hM 36)), (a 37, aI E 120 (hM 37)), (a 39, aI E 4096 (upd (mM 39) v1.toNatClampNeg (-6 : Int32))), (a 40, aI E 4096 (upd (mM 40) v1.toNatClampNeg (0 : Int32))), (a 41, aI E 128 (hM 41))]) (fun _ => rfl) (fun _ => ?_)
    refine r.if_eq 37 (DX9_fold 18 rfl) rfl hxt (fun _ hxt => ?_) (fun _ hxt => ?_)
    · refine r.iinc (v := (v1 + (1 : Int32))) (lo' := [(1, .int (v1 + (1 : Int32))), (0, .ref (a 31))]) 1 (DX9_fold 22 rfl) rfl rfl (Nat.le_of_ble_eq_true rfl) rfl ?_
      refine r.goto 2 (DX9_fold 23 rfl) rfl ?_
      refine r.rel (lo' := [(0, .ref (a 31)), (1, .int (v1 + (1 : Int32)))]) [1, 0] rfl ?_
      exact ih (v1 + (1 : Int32)) (mset (mset hM 39 (upd (mM 39) v1.toNatClampNeg (-6 : Int32))) 40 (upd (mM 40) v1.toNatClampNeg (0 : Int32))) hxt
    refine r.aload_n 0 (DX9_fold 19 rfl) rfl ?_
    refine r.iload_n 1 (DX9_fold 20 rfl) rfl ?_
    obtain ⟨o_2, ho_2, hxt⟩ := xbd hxt
    refine r.callVV 0 rfl rfl (t_X9_foldOne E a v1 (mset (mset hM 39 (upd (mM 39) v1.toNatClampNeg (-6 : Int32))) 40 (upd (mM 40) v1.toNatClampNeg (0 : Int32))) ho_2) g_X9_131 rfl (DX9_fold 21 rfl) rfl ⟨(Nat.le_of_ble_eq_true rfl), (Nat.le_of_ble_eq_true rfl)⟩ ⟨(Nat.le_of_ble_eq_true rfl), (Nat.le_of_ble_eq_true rfl)⟩ (Nat.le_of_ble_eq_true rfl) [0, 2, 3, 4, 5, 6] [1] rfl rfl rfl rfl (by decide) [1, 0, 2, 3, 4, 5, 6] rfl (ws2 := fun _ => [(a 31, oX9 a (hM 31)), (a 32, aI E 8 (hM 32)), (a 36, aI E 120 (hM 36)), (a 37, aI E 120 (hM 37)), (a 39, aI E 4096 (o_2 39)), (a 40, aI E 4096 (o_2 40)), (a 41, aI E 128 (hM 41))]) (fun _ => rfl) (fun _ => ?_)
    refine r.iinc (v := (v1 + (1 : Int32))) (lo' := [(1, .int (v1 + (1 : Int32))), (0, .ref (a 31))]) 1 (DX9_fold 22 rfl) rfl rfl (Nat.le_of_ble_eq_true rfl) rfl ?_
    refine r.goto 2 (DX9_fold 23 rfl) rfl ?_
    refine r.rel (lo' := [(0, .ref (a 31)), (1, .int (v1 + (1 : Int32)))]) [1, 0] rfl ?_
    exact ih (v1 + (1 : Int32)) (mgs hM [39, 40] o_2) hxt
set_option maxRecDepth 100000 in
set_option maxHeartbeats 4000000 in
theorem t_X9_fold (E : xE) (a : Nat → Nat) (hM : Mem) {o : Mem} (hxt : xt_X9_fold hM = some o) : xMV (S := Unit) E yX9_fold cX9_fold 2 5 0 0 [.ref (a 31)] [(a 31, oX9 a (hM 31)), (a 32, aI E 8 (hM 32)), (a 36, aI E 120 (hM 36)), (a 37, aI E 120 (hM 37)), (a 39, aI E 4096 (hM 39)), (a 40, aI E 4096 (hM 40)), (a 41, aI E 128 (hM 41))] (fun _ => [(a 31, oX9 a (hM 31)), (a 32, aI E 8 (hM 32)), (a 36, aI E 120 (hM 36)), (a 37, aI E 120 (hM 37)), (a 39, aI E 4096 (o 39)), (a 40, aI E 4096 (o 40)), (a 41, aI E 128 (hM 41))]) := by
  refine xMV.of (own := RX9) (lo0 := [(0, .ref (a 31))]) (ini := false) (fun h => nomatch h) (by decide +kernel) rfl rfl (Nat.le_of_ble_eq_true rfl) (fun V r hret => ?_)
  unfold xt_X9_fold at hxt
  refine r.iconst (v := (0 : Int32)) (DX9_fold 0 rfl) rfl ?_
  refine r.istore_n (lo' := [(1, .int (0 : Int32)), (0, .ref (a 31))]) (DX9_fold 1 rfl) (Nat.le_of_ble_eq_true rfl) rfl ?_
  refine r.rel (lo' := [(0, .ref (a 31)), (1, .int (0 : Int32))]) [1, 0] rfl ?_
  refine l_X9_fold_2 E a hM r (fun m_3 hxt => ?_) 10000 (0 : Int32) hM hxt
  cases hxt
  exact hret _ _ _ (DX9_fold 24 rfl) ⟨(), rfl⟩
set_option maxRecDepth 100000 in
set_option maxHeartbeats 4000000 in
theorem t_X9_key (E : xE) (a : Nat → Nat) (x1 : Int32) (hM : Mem) {o : Int32} (hxt : xt_X9_key x1 hM = some o) : xMI (S := Unit) E yX9_key cX9_key 6 .int 3 0 0 [.ref (a 31), .int x1] [(a 31, oX9 a (hM 31)), (a 36, aI E 120 (hM 36)), (a 37, aI E 120 (hM 37))] (fun _ => o) (fun _ => [(a 31, oX9 a (hM 31)), (a 36, aI E 120 (hM 36)), (a 37, aI E 120 (hM 37))]) := by
  refine xMI.of (own := RX9) (lo0 := [(0, .ref (a 31)), (1, .int x1)]) (by decide +kernel) rfl rfl (Nat.le_of_ble_eq_true rfl) (fun V r hret => ?_)
  unfold xt_X9_key at hxt
  refine r.iload_n 1 (DX9_key 0 rfl) rfl ?_
  refine r.sipush (v := (128 : Int32)) (DX9_key 1 rfl) rfl ?_
  refine r.irem (DX9_key 2 rfl) (by decide) ?_
  refine r.istore_n (lo' := [(2, .int (x1 - x1 / (128 : Int32) * (128 : Int32))), (0, .ref (a 31)), (1, .int x1)]) (DX9_key 3 rfl) (Nat.le_of_ble_eq_true rfl) rfl ?_
  refine r.iload_n 2 (DX9_key 4 rfl) rfl ?_
  refine r.sipush (v := (128 : Int32)) (DX9_key 5 rfl) rfl ?_
  refine r.idiv (DX9_key 6 rfl) (by decide) ?_
  refine r.bipush (v := (16 : Int32)) (DX9_key 7 rfl) rfl ?_
  refine r.irem (DX9_key 8 rfl) (by decide) ?_
  refine r.istore_n (lo' := [(3, .int ((x1 / (128 : Int32)) - (x1 / (128 : Int32)) / (16 : Int32) * (16 : Int32))), (2, .int (x1 - x1 / (128 : Int32) * (128 : Int32))), (0, .ref (a 31)), (1, .int x1)]) (DX9_key 9 rfl) (Nat.le_of_ble_eq_true rfl) rfl ?_
  refine r.iload_n 0 (DX9_key 10 rfl) rfl ?_
  refine r.aload_n 2 (DX9_key 11 rfl) rfl ?_
  refine r.get (v := .ref (a 36)) kX9 f_X9_23 rfl 0 rfl rfl (DX9_key 12 rfl) ?_
  refine r.iload_n 1 (DX9_key 13 rfl) rfl ?_
  obtain ⟨hin, hxt⟩ := xgd_some hxt
  refine r.iald 1 rfl hin (DX9_key 14 rfl) ?_
  obtain ⟨o_1, ho_1, hxt⟩ := xbd hxt
  refine r.callSI0 (t_X9_between E ((x1 / (128 : Int32)) - (x1 / (128 : Int32)) / (16 : Int32) * (16 : Int32)) ((hM 36) (x1 - x1 / (128 : Int32) * (128 : Int32)).toNatClampNeg) ho_1) g_X9_75 rfl (DX9_key 15 rfl) rfl ⟨(Nat.le_of_ble_eq_true rfl), (Nat.le_of_ble_eq_true rfl)⟩ (Nat.le_of_ble_eq_true rfl) ?_
  refine r.istore (lo' := [(4, .int o_1), (3, .int ((x1 / (128 : Int32)) - (x1 / (128 : Int32)) / (16 : Int32) * (16 : Int32))), (2, .int (x1 - x1 / (128 : Int32) * (128 : Int32))), (0, .ref (a 31)), (1, .int x1)]) (DX9_key 16 rfl) (Nat.le_of_ble_eq_true rfl) rfl ?_
  refine r.iload_n 1 (DX9_key 17 rfl) rfl ?_
  refine r.aload_n 3 (DX9_key 18 rfl) rfl ?_
  refine r.get (v := .ref (a 37)) kX9 f_X9_26 rfl 0 rfl rfl (DX9_key 19 rfl) ?_
  refine r.iload_n 2 (DX9_key 20 rfl) rfl ?_
  obtain ⟨hin, hxt⟩ := xgd_some hxt
  refine r.iald 2 rfl hin (DX9_key 21 rfl) ?_
  obtain ⟨o_2, ho_2, hxt⟩ := xbd hxt
  refine r.callSI0 (t_X9_between E ((x1 / (128 : Int32)) - (x1 / (128 : Int32)) / (16 : Int32) * (16 : Int32)) ((hM 37) (x1 - x1 / (128 : Int32) * (128 : Int32)).toNatClampNeg) ho_2) g_X9_75 rfl (DX9_key 22 rfl) rfl ⟨(Nat.le_of_ble_eq_true rfl), (Nat.le_of_ble_eq_true rfl)⟩ (Nat.le_of_ble_eq_true rfl) ?_
  refine r.istore (lo' := [(5, .int o_2), (4, .int o_1), (3, .int ((x1 / (128 : Int32)) - (x1 / (128 : Int32)) / (16 : Int32) * (16 : Int32))), (2, .int (x1 - x1 / (128 : Int32) * (128 : Int32))), (0, .ref (a 31)), (1, .int x1)]) (DX9_key 23 rfl) (Nat.le_of_ble_eq_true rfl) rfl ?_
  refine r.bipush (v := (49 : Int32)) (DX9_key 24 rfl) rfl ?_
  refine r.iload_n 5 (DX9_key 25 rfl) rfl ?_
  refine r.sipush (v := (2048 : Int32)) (DX9_key 26 rfl) rfl ?_
  refine r.idiv (DX9_key 27 rfl) (by decide) ?_
  refine r.imul (DX9_key 28 rfl) ?_
  refine r.bipush (v := (7 : Int32)) (DX9_key 29 rfl) rfl ?_
  refine r.iload 1 (DX9_key 30 rfl) rfl ?_
  refine r.iload 0 (DX9_key 31 rfl) rfl ?_
  obtain ⟨o_3, ho_3, hxt⟩ := xbd hxt
  refine r.callSI0 (t_X9_lesser E o_1 o_2 ho_3) g_X9_82 rfl (DX9_key 32 rfl) rfl ⟨(Nat.le_of_ble_eq_true rfl), (Nat.le_of_ble_eq_true rfl)⟩ (Nat.le_of_ble_eq_true rfl) ?_
  refine r.imul (DX9_key 33 rfl) ?_
  refine r.iadd (DX9_key 34 rfl) ?_
  refine r.iload 1 (DX9_key 35 rfl) rfl ?_
  refine r.iload 0 (DX9_key 36 rfl) rfl ?_
  obtain ⟨o_4, ho_4, hxt⟩ := xbd hxt
  refine r.callSI0 (t_X9_greater E o_1 o_2 ho_4) g_X9_85 rfl (DX9_key 37 rfl) rfl ⟨(Nat.le_of_ble_eq_true rfl), (Nat.le_of_ble_eq_true rfl)⟩ (Nat.le_of_ble_eq_true rfl) ?_
  refine r.iadd (DX9_key 38 rfl) ?_
  cases hxt
  exact hret _ _ _ _ (DX9_key 39 rfl) rfl ⟨(), rfl, rfl⟩
set_option maxRecDepth 100000 in
set_option maxHeartbeats 4000000 in
theorem l_X9_ruleOf_2 (E : xE) (a : Nat → Nat) (x1 : Int32) (hM : Mem) {V : xVT} (r : Rl E RX9 cX9_ruleOf (xR 4 0 0) 6 false V) {o : Int32 × Mem} {k : Mem → Option (Int32 × Mem)} (hk : ∀ (mM : Mem), k mM = some o → V 0 0 22 [(0, .ref (a 31)), (1, .int x1)] [] [(a 31, oX9 a (hM 31)), (a 36, aI E 120 (hM 36)), (a 37, aI E 120 (hM 37)), (a 38, aI E 4096 (hM 38)), (a 39, aI E 4096 (hM 39)), (a 43, aI E 202 (mM 43))]) : ∀ (n : Nat) (v2 : Int32) (mM : Mem), xt_X9_ruleOf_l2 x1 hM k n v2 mM = some o → V 0 0 2 [(0, .ref (a 31)), (1, .int x1), (2, .int v2)] [] [(a 31, oX9 a (hM 31)), (a 36, aI E 120 (hM 36)), (a 37, aI E 120 (hM 37)), (a 38, aI E 4096 (hM 38)), (a 39, aI E 4096 (hM 39)), (a 43, aI E 202 (mM 43))] := by
  intro n
  induction n with
  | zero => intro v2 mM hxt; exact xno hxt
  | succ n ih =>
    intro v2 mM hxt
    rw [xt_X9_ruleOf_l2] at hxt
    refine r.iload_n 2 (DX9_ruleOf_0 2 rfl) rfl ?_
    refine r.sipush (v := (202 : Int32)) (DX9_ruleOf_0 3 rfl) rfl ?_
    refine r.icmp_ge 22 (DX9_ruleOf_0 4 rfl) rfl hxt (fun _ hxt => ?_) (fun _ hxt => ?_)
    · refine r.rel (lo' := [(0, .ref (a 31)), (1, .int x1)]) [0, 1] rfl ?_
      exact hk (mgs hM [43] mM) hxt
    refine r.aload_n 0 (DX9_ruleOf_0 5 rfl) rfl ?_
    refine r.get (v := .ref (a 43)) kX9 f_X9_44 rfl 0 rfl rfl (DX9_ruleOf_0 6 rfl) ?_
    refine r.iload_n 2 (DX9_ruleOf_0 7 rfl) rfl ?_
    refine r.iconst (v := (0 : Int32)) (DX9_ruleOf_0 8 rfl) rfl ?_
    obtain ⟨hin, hxt⟩ := xgd_some hxt
    refine r.iast (ws' := [(a 31, oX9 a (hM 31)), (a 36, aI E 120 (hM 36)), (a 37, aI E 120 (hM 37)), (a 38, aI E 4096 (hM 38)), (a 39, aI E 4096 (hM 39)), (a 43, aI E 202 (upd (mM 43) v2.toNatClampNeg (0 : Int32)))]) 5 rfl hin rfl (DX9_ruleOf_0 9 rfl) ?_
    refine r.iinc (v := (v2 + (1 : Int32))) (lo' := [(2, .int (v2 + (1 : Int32))), (0, .ref (a 31)), (1, .int x1)]) 2 (DX9_ruleOf_0 10 rfl) rfl rfl (Nat.le_of_ble_eq_true rfl) rfl ?_
    refine r.goto 2 (DX9_ruleOf_0 11 rfl) rfl ?_
    refine r.rel (lo' := [(0, .ref (a 31)), (1, .int x1), (2, .int (v2 + (1 : Int32)))]) [1, 2, 0] rfl ?_
    exact ih (v2 + (1 : Int32)) (mset hM 43 (upd (mM 43) v2.toNatClampNeg (0 : Int32))) hxt
set_option maxRecDepth 100000 in
set_option maxHeartbeats 4000000 in
theorem l_X9_ruleOf_31 (E : xE) (a : Nat → Nat) (x1 : Int32) (x2 : Int32) (hM : Mem) {V : xVT} (r : Rl E RX9 cX9_ruleOf (xR 4 0 0) 6 false V) {o : Int32 × Mem} {k : Int32 → Mem → Option (Int32 × Mem)} (hk : ∀ (v3 : Int32) (mM : Mem), k v3 mM = some o → V 0 0 99 [(0, .ref (a 31)), (2, .int x2), (3, .int v3)] [] [(a 31, oX9 a (hM 31)), (a 36, aI E 120 (hM 36)), (a 37, aI E 120 (hM 37)), (a 38, aI E 4096 (hM 38)), (a 39, aI E 4096 (hM 39)), (a 43, aI E 202 (mM 43))]) : ∀ (n : Nat) (v3 : Int32) (v4 : Int32) (mM : Mem), xt_X9_ruleOf_l31 x1 x2 hM k n v3 v4 mM = some o → V 0 0 31 [(0, .ref (a 31)), (1, .int x1), (2, .int x2), (3, .int v3), (4, .int v4)] [] [(a 31, oX9 a (hM 31)), (a 36, aI E 120 (hM 36)), (a 37, aI E 120 (hM 37)), (a 38, aI E 4096 (hM 38)), (a 39, aI E 4096 (hM 39)), (a 43, aI E 202 (mM 43))] := by
  intro n
  induction n with
  | zero => intro v3 v4 mM hxt; exact xno hxt
  | succ n ih =>
    intro v3 v4 mM hxt
    rw [xt_X9_ruleOf_l31] at hxt
    refine r.iload 4 (DX9_ruleOf_0 18 rfl) rfl ?_
    refine r.sipush (v := (4096 : Int32)) (DX9_ruleOf_0 19 rfl) rfl ?_
    refine r.icmp_ge 99 (DX9_ruleOf_0 20 rfl) rfl hxt (fun _ hxt => ?_) (fun _ hxt => ?_)
    · refine r.rel (lo' := [(0, .ref (a 31)), (2, .int x2), (3, .int v3)]) [0, 2, 3] rfl ?_
      exact hk v3 (mgs hM [43] mM) hxt
    refine r.aload_n 0 (DX9_ruleOf_0 21 rfl) rfl ?_
    refine r.get (v := .ref (a 39)) kX9 f_X9_32 rfl 0 rfl rfl (DX9_ruleOf_0 22 rfl) ?_
    refine r.iload 4 (DX9_ruleOf_0 23 rfl) rfl ?_
    obtain ⟨hin, hxt⟩ := xgd_some hxt
    refine r.iald 4 rfl hin (DX9_ruleOf_0 24 rfl) ?_
    refine r.iload 4 (DX9_ruleOf_0 25 rfl) rfl ?_
    refine r.icmp_ne 93 (DX9_ruleOf_0 26 rfl) rfl hxt (fun _ hxt => ?_) (fun _ hxt => ?_)
    · refine r.iinc (v := (v4 + (1 : Int32))) (lo' := [(4, .int (v4 + (1 : Int32))), (0, .ref (a 31)), (1, .int x1), (2, .int x2), (3, .int v3)]) 4 (DX9_ruleOf_0 52 rfl) rfl rfl (Nat.le_of_ble_eq_true rfl) rfl ?_
      refine r.goto 31 (DX9_ruleOf_0 53 rfl) rfl ?_
      refine r.rel (lo' := [(0, .ref (a 31)), (1, .int x1), (2, .int x2), (3, .int v3), (4, .int (v4 + (1 : Int32)))]) [1, 2, 3, 4, 0] rfl ?_
      exact ih v3 (v4 + (1 : Int32)) (mgs hM [43] mM) hxt
    refine r.aload_n 0 (DX9_ruleOf_0 27 rfl) rfl ?_
    refine r.iload 4 (DX9_ruleOf_0 28 rfl) rfl ?_
    obtain ⟨o_2, ho_2, hxt⟩ := xbd hxt
    refine r.callVI 0 rfl rfl (t_X9_key E a v4 hM ho_2) g_X9_138 rfl (DX9_ruleOf_0 29 rfl) rfl ⟨(Nat.le_of_ble_eq_true rfl), (Nat.le_of_ble_eq_true rfl)⟩ ⟨(Nat.le_of_ble_eq_true rfl), (Nat.le_of_ble_eq_true rfl)⟩ (Nat.le_of_ble_eq_true rfl) [0, 1, 2] [3, 4, 5] rfl rfl rfl rfl (by decide) [3, 4, 5, 0, 1, 2] rfl (ws2 := fun _ => [(a 31, oX9 a (hM 31)), (a 36, aI E 120 (hM 36)), (a 37, aI E 120 (hM 37)), (a 38, aI E 4096 (hM 38)), (a 39, aI E 4096 (hM 39)), (a 43, aI E 202 (mM 43))]) (fun _ => rfl) (fun _ => ?_)
    refine r.iload_n 1 (DX9_ruleOf_0 30 rfl) rfl ?_
    refine r.icmp_ne 93 (DX9_ruleOf_0 31 rfl) rfl hxt (fun _ hxt => ?_) (fun _ hxt => ?_)
    · refine r.iinc (v := (v4 + (1 : Int32))) (lo' := [(4, .int (v4 + (1 : Int32))), (0, .ref (a 31)), (1, .int x1), (2, .int x2), (3, .int v3)]) 4 (DX9_ruleOf_0 52 rfl) rfl rfl (Nat.le_of_ble_eq_true rfl) rfl ?_
      refine r.goto 31 (DX9_ruleOf_0 53 rfl) rfl ?_
      refine r.rel (lo' := [(0, .ref (a 31)), (1, .int x1), (2, .int x2), (3, .int v3), (4, .int (v4 + (1 : Int32)))]) [1, 2, 3, 4, 0] rfl ?_
      exact ih v3 (v4 + (1 : Int32)) (mgs hM [43] mM) hxt
    refine r.aload_n 0 (DX9_ruleOf_0 32 rfl) rfl ?_
    refine r.get (v := .ref (a 43)) kX9 f_X9_44 rfl 0 rfl rfl (DX9_ruleOf_0 33 rfl) ?_
    refine r.aload_n 0 (DX9_ruleOf_0 34 rfl) rfl ?_
    refine r.get (v := .ref (a 38)) kX9 f_X9_29 rfl 0 rfl rfl (DX9_ruleOf_0 35 rfl) ?_
    refine r.iload 4 (DX9_ruleOf_0 36 rfl) rfl ?_
    obtain ⟨hin, hxt⟩ := xgd_some hxt
    refine r.iald 3 rfl hin (DX9_ruleOf_0 37 rfl) ?_
    refine r.if_ge 79 (DX9_ruleOf_0 38 rfl) rfl hxt (fun _ hxt => ?_) (fun _ hxt => ?_)
    · refine r.aload_n 0 (DX9_ruleOf_0 41 rfl) rfl ?_
      refine r.get (v := .ref (a 38)) kX9 f_X9_29 rfl 0 rfl rfl (DX9_ruleOf_0 42 rfl) ?_
      refine r.iload 4 (DX9_ruleOf_0 43 rfl) rfl ?_
      obtain ⟨hin, hxt⟩ := xgd_some hxt
      refine r.iald 3 rfl hin (DX9_ruleOf_0 44 rfl) ?_
      refine r.dup2 (DX9_ruleOf_0 45 rfl) rfl rfl ?_
      obtain ⟨hin, hxt⟩ := xgd_some hxt
      refine r.iald 5 rfl hin (DX9_ruleOf_0 46 rfl) ?_
      refine r.iconst (v := (1 : Int32)) (DX9_ruleOf_0 47 rfl) rfl ?_
      refine r.iadd (DX9_ruleOf_0 48 rfl) ?_
      obtain ⟨hin, hxt⟩ := xgd_some hxt
      refine r.iast (ws' := [(a 31, oX9 a (hM 31)), (a 36, aI E 120 (hM 36)), (a 37, aI E 120 (hM 37)), (a 38, aI E 4096 (hM 38)), (a 39, aI E 4096 (hM 39)), (a 43, aI E 202 (upd (mM 43) ((hM 38) v4.toNatClampNeg).toNatClampNeg (((mM 43) ((hM 38) v4.toNatClampNeg).toNatClampNeg) + (1 : Int32))))]) 5 rfl hin rfl (DX9_ruleOf_0 49 rfl) ?_
      refine r.iconst (v := (1 : Int32)) (DX9_ruleOf_0 50 rfl) rfl ?_
      refine r.istore_n (lo' := [(3, .int (1 : Int32)), (0, .ref (a 31)), (1, .int x1), (2, .int x2), (4, .int v4)]) (DX9_ruleOf_0 51 rfl) (Nat.le_of_ble_eq_true rfl) rfl ?_
      refine r.iinc (v := (v4 + (1 : Int32))) (lo' := [(4, .int (v4 + (1 : Int32))), (3, .int (1 : Int32)), (0, .ref (a 31)), (1, .int x1), (2, .int x2)]) 4 (DX9_ruleOf_0 52 rfl) rfl rfl (Nat.le_of_ble_eq_true rfl) rfl ?_
      refine r.goto 31 (DX9_ruleOf_0 53 rfl) rfl ?_
      refine r.rel (lo' := [(0, .ref (a 31)), (1, .int x1), (2, .int x2), (3, .int (1 : Int32)), (4, .int (v4 + (1 : Int32)))]) [2, 3, 4, 1, 0] rfl ?_
      exact ih (1 : Int32) (v4 + (1 : Int32)) (mset hM 43 (upd (mM 43) ((hM 38) v4.toNatClampNeg).toNatClampNeg (((mM 43) ((hM 38) v4.toNatClampNeg).toNatClampNeg) + (1 : Int32)))) hxt
    refine r.iload_n 2 (DX9_ruleOf_0 39 rfl) rfl ?_
    refine r.goto 86 (DX9_ruleOf_0 40 rfl) rfl ?_
    refine r.dup2 (DX9_ruleOf_0 45 rfl) rfl rfl ?_
    obtain ⟨hin, hxt⟩ := xgd_some hxt
    refine r.iald 5 rfl hin (DX9_ruleOf_0 46 rfl) ?_
    refine r.iconst (v := (1 : Int32)) (DX9_ruleOf_0 47 rfl) rfl ?_
    refine r.iadd (DX9_ruleOf_0 48 rfl) ?_
    obtain ⟨hin, hxt⟩ := xgd_some hxt
    refine r.iast (ws' := [(a 31, oX9 a (hM 31)), (a 36, aI E 120 (hM 36)), (a 37, aI E 120 (hM 37)), (a 38, aI E 4096 (hM 38)), (a 39, aI E 4096 (hM 39)), (a 43, aI E 202 (upd (mM 43) x2.toNatClampNeg (((mM 43) x2.toNatClampNeg) + (1 : Int32))))]) 5 rfl hin rfl (DX9_ruleOf_0 49 rfl) ?_
    refine r.iconst (v := (1 : Int32)) (DX9_ruleOf_0 50 rfl) rfl ?_
    refine r.istore_n (lo' := [(3, .int (1 : Int32)), (0, .ref (a 31)), (1, .int x1), (2, .int x2), (4, .int v4)]) (DX9_ruleOf_0 51 rfl) (Nat.le_of_ble_eq_true rfl) rfl ?_
    refine r.iinc (v := (v4 + (1 : Int32))) (lo' := [(4, .int (v4 + (1 : Int32))), (3, .int (1 : Int32)), (0, .ref (a 31)), (1, .int x1), (2, .int x2)]) 4 (DX9_ruleOf_0 52 rfl) rfl rfl (Nat.le_of_ble_eq_true rfl) rfl ?_
    refine r.goto 31 (DX9_ruleOf_0 53 rfl) rfl ?_
    refine r.rel (lo' := [(0, .ref (a 31)), (1, .int x1), (2, .int x2), (3, .int (1 : Int32)), (4, .int (v4 + (1 : Int32)))]) [2, 3, 4, 1, 0] rfl ?_
    exact ih (1 : Int32) (v4 + (1 : Int32)) (mset hM 43 (upd (mM 43) x2.toNatClampNeg (((mM 43) x2.toNatClampNeg) + (1 : Int32)))) hxt
set_option maxRecDepth 100000 in
set_option maxHeartbeats 4000000 in
theorem l_X9_ruleOf_105 (E : xE) (a : Nat → Nat) (x2 : Int32) (x3 : Int32) (hM : Mem) {V : xVT} (r : Rl E RX9 cX9_ruleOf (xR 4 0 0) 6 false V) {o : Int32 × Mem} {k : Int32 → Option (Int32 × Mem)} (hk : ∀ (v4 : Int32), k v4 = some o → V 0 0 143 [(2, .int x2), (3, .int x3), (4, .int v4)] [] [(a 31, oX9 a (hM 31)), (a 36, aI E 120 (hM 36)), (a 37, aI E 120 (hM 37)), (a 38, aI E 4096 (hM 38)), (a 39, aI E 4096 (hM 39)), (a 43, aI E 202 (hM 43))]) : ∀ (n : Nat) (v4 : Int32) (v5 : Int32), xt_X9_ruleOf_l105 x2 x3 hM k n v4 v5 = some o → V 0 0 105 [(0, .ref (a 31)), (2, .int x2), (3, .int x3), (4, .int v4), (5, .int v5)] [] [(a 31, oX9 a (hM 31)), (a 36, aI E 120 (hM 36)), (a 37, aI E 120 (hM 37)), (a 38, aI E 4096 (hM 38)), (a 39, aI E 4096 (hM 39)), (a 43, aI E 202 (hM 43))] := by
  intro n
  induction n with
  | zero => intro v4 v5 hxt; exact xno hxt
  | succ n ih =>
    intro v4 v5 hxt
    rw [xt_X9_ruleOf_l105] at hxt
    refine r.iload 4 (DX9_ruleOf_0 58 rfl) rfl ?_
    refine r.iload_n 1 (DX9_ruleOf_0 59 rfl) rfl ?_
    refine r.icmp_gt 143 (DX9_ruleOf_1 0 rfl) rfl hxt (fun _ hxt => ?_) (fun _ hxt => ?_)
    · refine r.rel (lo' := [(2, .int x2), (3, .int x3), (4, .int v4)]) [1, 2, 3] rfl ?_
      exact hk v4 hxt
    refine r.aload_n 0 (DX9_ruleOf_1 1 rfl) rfl ?_
    refine r.get (v := .ref (a 43)) kX9 f_X9_44 rfl 0 rfl rfl (DX9_ruleOf_1 2 rfl) ?_
    refine r.iload 4 (DX9_ruleOf_1 3 rfl) rfl ?_
    obtain ⟨hin, hxt⟩ := xgd_some hxt
    refine r.iald 5 rfl hin (DX9_ruleOf_1 4 rfl) ?_
    refine r.aload_n 0 (DX9_ruleOf_1 5 rfl) rfl ?_
    refine r.get (v := .ref (a 43)) kX9 f_X9_44 rfl 0 rfl rfl (DX9_ruleOf_1 6 rfl) ?_
    refine r.iload 3 (DX9_ruleOf_1 7 rfl) rfl ?_
    obtain ⟨hin, hxt⟩ := xgd_some hxt
    refine r.iald 5 rfl hin (DX9_ruleOf_1 8 rfl) ?_
    refine r.icmp_le 133 (DX9_ruleOf_1 9 rfl) rfl hxt (fun _ hxt => ?_) (fun _ hxt => ?_)
    · refine r.iload 3 (DX9_ruleOf_1 12 rfl) rfl ?_
      refine r.istore (lo' := [(4, .int v4), (0, .ref (a 31)), (2, .int x2), (3, .int x3), (5, .int v5)]) (DX9_ruleOf_1 13 rfl) (Nat.le_of_ble_eq_true rfl) rfl ?_
      refine r.iinc (v := (v5 + (1 : Int32))) (lo' := [(5, .int (v5 + (1 : Int32))), (4, .int v4), (0, .ref (a 31)), (2, .int x2), (3, .int x3)]) 4 (DX9_ruleOf_1 14 rfl) rfl rfl (Nat.le_of_ble_eq_true rfl) rfl ?_
      refine r.goto 105 (DX9_ruleOf_1 15 rfl) rfl ?_
      refine r.rel (lo' := [(0, .ref (a 31)), (2, .int x2), (3, .int x3), (4, .int v4), (5, .int (v5 + (1 : Int32)))]) [2, 3, 4, 1, 0] rfl ?_
      exact ih v4 (v5 + (1 : Int32)) hxt
    refine r.iload 4 (DX9_ruleOf_1 10 rfl) rfl ?_
    refine r.goto 135 (DX9_ruleOf_1 11 rfl) rfl ?_
    refine r.istore (lo' := [(4, .int v5), (0, .ref (a 31)), (2, .int x2), (3, .int x3), (5, .int v5)]) (DX9_ruleOf_1 13 rfl) (Nat.le_of_ble_eq_true rfl) rfl ?_
    refine r.iinc (v := (v5 + (1 : Int32))) (lo' := [(5, .int (v5 + (1 : Int32))), (4, .int v5), (0, .ref (a 31)), (2, .int x2), (3, .int x3)]) 4 (DX9_ruleOf_1 14 rfl) rfl rfl (Nat.le_of_ble_eq_true rfl) rfl ?_
    refine r.goto 105 (DX9_ruleOf_1 15 rfl) rfl ?_
    refine r.rel (lo' := [(0, .ref (a 31)), (2, .int x2), (3, .int x3), (4, .int v5), (5, .int (v5 + (1 : Int32)))]) [2, 3, 4, 1, 0] rfl ?_
    exact ih v5 (v5 + (1 : Int32)) hxt
set_option maxRecDepth 100000 in
set_option maxHeartbeats 4000000 in
theorem t_X9_ruleOf (E : xE) (a : Nat → Nat) (x1 : Int32) (hM : Mem) {o : Int32 × Mem} (hxt : xt_X9_ruleOf x1 hM = some o) : xMI (S := Unit) E yX9_ruleOf cX9_ruleOf 6 .int 4 0 0 [.ref (a 31), .int x1] [(a 31, oX9 a (hM 31)), (a 36, aI E 120 (hM 36)), (a 37, aI E 120 (hM 37)), (a 38, aI E 4096 (hM 38)), (a 39, aI E 4096 (hM 39)), (a 43, aI E 202 (hM 43))] (fun _ => o.1) (fun _ => [(a 31, oX9 a (hM 31)), (a 36, aI E 120 (hM 36)), (a 37, aI E 120 (hM 37)), (a 38, aI E 4096 (hM 38)), (a 39, aI E 4096 (hM 39)), (a 43, aI E 202 (o.2 43))]) := by
  refine xMI.of (own := RX9) (lo0 := [(0, .ref (a 31)), (1, .int x1)]) (by decide +kernel) rfl rfl (Nat.le_of_ble_eq_true rfl) (fun V r hret => ?_)
  unfold xt_X9_ruleOf at hxt
  refine r.iconst (v := (0 : Int32)) (DX9_ruleOf_0 0 rfl) rfl ?_
  refine r.istore_n (lo' := [(2, .int (0 : Int32)), (0, .ref (a 31)), (1, .int x1)]) (DX9_ruleOf_0 1 rfl) (Nat.le_of_ble_eq_true rfl) rfl ?_
  refine r.rel (lo' := [(0, .ref (a 31)), (1, .int x1), (2, .int (0 : Int32))]) [1, 2, 0] rfl ?_
  refine l_X9_ruleOf_2 E a x1 hM r (fun m_1 hxt => ?_) 10000 (0 : Int32) hM hxt
  refine r.sipush (v := (201 : Int32)) (DX9_ruleOf_0 12 rfl) rfl ?_
  refine r.istore_n (lo' := [(2, .int (201 : Int32)), (0, .ref (a 31)), (1, .int x1)]) (DX9_ruleOf_0 13 rfl) (Nat.le_of_ble_eq_true rfl) rfl ?_
  refine r.iconst (v := (0 : Int32)) (DX9_ruleOf_0 14 rfl) rfl ?_
  refine r.istore_n (lo' := [(3, .int (0 : Int32)), (2, .int (201 : Int32)), (0, .ref (a 31)), (1, .int x1)]) (DX9_ruleOf_0 15 rfl) (Nat.le_of_ble_eq_true rfl) rfl ?_
  refine r.iconst (v := (0 : Int32)) (DX9_ruleOf_0 16 rfl) rfl ?_
  refine r.istore (lo' := [(4, .int (0 : Int32)), (3, .int (0 : Int32)), (2, .int (201 : Int32)), (0, .ref (a 31)), (1, .int x1)]) (DX9_ruleOf_0 17 rfl) (Nat.le_of_ble_eq_true rfl) rfl ?_
  refine r.rel (lo' := [(0, .ref (a 31)), (1, .int x1), (2, .int (201 : Int32)), (3, .int (0 : Int32)), (4, .int (0 : Int32))]) [3, 4, 2, 1, 0] rfl ?_
  refine l_X9_ruleOf_31 E a x1 (201 : Int32) (mgs hM [43] m_1) r (fun v3_3 m_4 hxt => ?_) 10000 (0 : Int32) (0 : Int32) (mgs hM [43] m_1) hxt
  refine r.iconst (v := (0 : Int32)) (DX9_ruleOf_0 54 rfl) rfl ?_
  refine r.istore (lo' := [(4, .int (0 : Int32)), (0, .ref (a 31)), (2, .int (201 : Int32)), (3, .int v3_3)]) (DX9_ruleOf_0 55 rfl) (Nat.le_of_ble_eq_true rfl) rfl ?_
  refine r.iconst (v := (1 : Int32)) (DX9_ruleOf_0 56 rfl) rfl ?_
  refine r.istore (lo' := [(5, .int (1 : Int32)), (4, .int (0 : Int32)), (0, .ref (a 31)), (2, .int (201 : Int32)), (3, .int v3_3)]) (DX9_ruleOf_0 57 rfl) (Nat.le_of_ble_eq_true rfl) rfl ?_
  refine r.rel (lo' := [(0, .ref (a 31)), (2, .int (201 : Int32)), (3, .int v3_3), (4, .int (0 : Int32)), (5, .int (1 : Int32))]) [2, 3, 4, 1, 0] rfl ?_
  refine l_X9_ruleOf_105 E a (201 : Int32) v3_3 (mgs hM [43] m_4) r (fun v4_5 hxt => ?_) 10000 (0 : Int32) (1 : Int32) hxt
  refine r.iload_n 1 (DX9_ruleOf_1 16 rfl) rfl ?_
  refine r.if_ne 151 (DX9_ruleOf_1 17 rfl) rfl hxt (fun _ hxt => ?_) (fun _ hxt => ?_)
  · refine r.iload 2 (DX9_ruleOf_1 20 rfl) rfl ?_
    refine r.iload_n 0 (DX9_ruleOf_1 21 rfl) rfl ?_
    refine r.icmp_ne 162 (DX9_ruleOf_1 22 rfl) rfl hxt (fun _ hxt => ?_) (fun _ hxt => ?_)
    · refine r.iload 2 (DX9_ruleOf_1 25 rfl) rfl ?_
      cases hxt
      exact hret _ _ _ _ (DX9_ruleOf_1 26 rfl) rfl ⟨(), rfl, rfl⟩
    refine r.bipush (v := (-6 : Int32)) (DX9_ruleOf_1 23 rfl) rfl ?_
    refine r.goto 164 (DX9_ruleOf_1 24 rfl) rfl ?_
    cases hxt
    exact hret _ _ _ _ (DX9_ruleOf_1 26 rfl) rfl ⟨(), rfl, rfl⟩
  refine r.iconst (v := (-1 : Int32)) (DX9_ruleOf_1 18 rfl) rfl ?_
  refine r.goto 164 (DX9_ruleOf_1 19 rfl) rfl ?_
  cases hxt
  exact hret _ _ _ _ (DX9_ruleOf_1 26 rfl) rfl ⟨(), rfl, rfl⟩
set_option maxRecDepth 100000 in
set_option maxHeartbeats 4000000 in
theorem l_X9_work_10 (E : xE) (a : Nat → Nat) (hM : Mem) {V : xVT} (r : Rl E RX9 cX9_work (xR 8 0 0) 2 false V) {o : Mem} {k : Mem → Option (Mem)} (hk : ∀ (mM : Mem), k mM = some o → V 0 0 33 [(0, .ref (a 31))] [] [(a 31, oX9 a (hM 31)), (a 32, aI E 8 (hM 32)), (a 36, aI E 120 (hM 36)), (a 37, aI E 120 (hM 37)), (a 38, aI E 4096 (hM 38)), (a 39, aI E 4096 (hM 39)), (a 40, aI E 4096 (hM 40)), (a 41, aI E 128 (hM 41)), (a 42, aI E 98 (hM 42)), (a 43, aI E 202 (hM 43)), (a 44, aI E 4 (mM 44))]) : ∀ (n : Nat) (v1 : Int32) (mM : Mem), xt_X9_work_l10 hM k n v1 mM = some o → V 0 0 10 [(0, .ref (a 31)), (1, .int v1)] [] [(a 31, oX9 a (hM 31)), (a 32, aI E 8 (hM 32)), (a 36, aI E 120 (hM 36)), (a 37, aI E 120 (hM 37)), (a 38, aI E 4096 (hM 38)), (a 39, aI E 4096 (hM 39)), (a 40, aI E 4096 (hM 40)), (a 41, aI E 128 (hM 41)), (a 42, aI E 98 (hM 42)), (a 43, aI E 202 (hM 43)), (a 44, aI E 4 (mM 44))] := by
  intro n
  induction n with
  | zero => intro v1 mM hxt; exact xno hxt
  | succ n ih =>
    intro v1 mM hxt
    rw [xt_X9_work_l10] at hxt
    refine r.iload_n 1 (DX9_work 6 rfl) rfl ?_
    refine r.iconst (v := (4 : Int32)) (DX9_work 7 rfl) rfl ?_
    refine r.icmp_ge 33 (DX9_work 8 rfl) rfl hxt (fun _ hxt => ?_) (fun _ hxt => ?_)
    · refine r.rel (lo' := [(0, .ref (a 31))]) [0] rfl ?_
      exact hk (mgs hM [44] mM) hxt
    refine r.aload_n 0 (DX9_work 9 rfl) rfl ?_
    refine r.get (v := .ref (a 44)) kX9 f_X9_47 rfl 0 rfl rfl (DX9_work 10 rfl) ?_
    refine r.iload_n 1 (DX9_work 11 rfl) rfl ?_
    refine r.aload_n 0 (DX9_work 12 rfl) rfl ?_
    refine r.get (v := .ref (a 32)) kX9 f_X9_7 rfl 0 rfl rfl (DX9_work 13 rfl) ?_
    refine r.iload_n 1 (DX9_work 14 rfl) rfl ?_
    obtain ⟨hin, hxt⟩ := xgd_some hxt
    refine r.iald 1 rfl hin (DX9_work 15 rfl) ?_
    obtain ⟨hin, hxt⟩ := xgd_some hxt
    refine r.iast (ws' := [(a 31, oX9 a (hM 31)), (a 32, aI E 8 (hM 32)), (a 36, aI E 120 (hM 36)), (a 37, aI E 120 (hM 37)), (a 38, aI E 4096 (hM 38)), (a 39, aI E 4096 (hM 39)), (a 40, aI E 4096 (hM 40)), (a 41, aI E 128 (hM 41)), (a 42, aI E 98 (hM 42)), (a 43, aI E 202 (hM 43)), (a 44, aI E 4 (upd (mM 44) v1.toNatClampNeg ((hM 32) v1.toNatClampNeg)))]) 10 rfl hin rfl (DX9_work 16 rfl) ?_
    refine r.iinc (v := (v1 + (1 : Int32))) (lo' := [(1, .int (v1 + (1 : Int32))), (0, .ref (a 31))]) 1 (DX9_work 17 rfl) rfl rfl (Nat.le_of_ble_eq_true rfl) rfl ?_
    refine r.goto 10 (DX9_work 18 rfl) rfl ?_
    refine r.rel (lo' := [(0, .ref (a 31)), (1, .int (v1 + (1 : Int32)))]) [1, 0] rfl ?_
    exact ih (v1 + (1 : Int32)) (mset hM 44 (upd (mM 44) v1.toNatClampNeg ((hM 32) v1.toNatClampNeg))) hxt
set_option maxRecDepth 100000 in
set_option maxHeartbeats 4000000 in
theorem l_X9_work_52 (E : xE) (a : Nat → Nat) (hM : Mem) {V : xVT} (r : Rl E RX9 cX9_work (xR 8 0 0) 2 false V) {o : Mem} {k : Mem → Option (Mem)} (hk : ∀ (mM : Mem), k mM = some o → V 0 0 75 [] [] [(a 31, oX9 a (hM 31)), (a 32, aI E 8 (hM 32)), (a 36, aI E 120 (hM 36)), (a 37, aI E 120 (hM 37)), (a 38, aI E 4096 (hM 38)), (a 39, aI E 4096 (hM 39)), (a 40, aI E 4096 (hM 40)), (a 41, aI E 128 (hM 41)), (a 42, aI E 98 (mM 42)), (a 43, aI E 202 (mM 43)), (a 44, aI E 4 (hM 44))]) : ∀ (n : Nat) (v1 : Int32) (mM : Mem), xt_X9_work_l52 hM k n v1 mM = some o → V 0 0 52 [(0, .ref (a 31)), (1, .int v1)] [] [(a 31, oX9 a (hM 31)), (a 32, aI E 8 (hM 32)), (a 36, aI E 120 (hM 36)), (a 37, aI E 120 (hM 37)), (a 38, aI E 4096 (hM 38)), (a 39, aI E 4096 (hM 39)), (a 40, aI E 4096 (hM 40)), (a 41, aI E 128 (hM 41)), (a 42, aI E 98 (mM 42)), (a 43, aI E 202 (mM 43)), (a 44, aI E 4 (hM 44))] := by
  intro n
  induction n with
  | zero => intro v1 mM hxt; exact xno hxt
  | succ n ih =>
    intro v1 mM hxt
    rw [xt_X9_work_l52] at hxt
    refine r.iload_n 1 (DX9_work 30 rfl) rfl ?_
    refine r.bipush (v := (98 : Int32)) (DX9_work 31 rfl) rfl ?_
    refine r.icmp_ge 75 (DX9_work 32 rfl) rfl hxt (fun _ hxt => ?_) (fun _ hxt => ?_)
    · refine r.rel (lo' := []) [] rfl ?_
      exact hk (mgs hM [42, 43] mM) hxt
    refine r.aload_n 0 (DX9_work 33 rfl) rfl ?_
    refine r.get (v := .ref (a 42)) kX9 f_X9_41 rfl 0 rfl rfl (DX9_work 34 rfl) ?_
    refine r.iload_n 1 (DX9_work 35 rfl) rfl ?_
    refine r.aload_n 0 (DX9_work 36 rfl) rfl ?_
    refine r.iload_n 1 (DX9_work 37 rfl) rfl ?_
    obtain ⟨o_6, ho_6, hxt⟩ := xbd hxt
    refine r.callVI 0 rfl rfl (t_X9_ruleOf E a v1 (mgs hM [43] mM) ho_6) g_X9_158 rfl (DX9_work 38 rfl) rfl ⟨(Nat.le_of_ble_eq_true rfl), (Nat.le_of_ble_eq_true rfl)⟩ ⟨(Nat.le_of_ble_eq_true rfl), (Nat.le_of_ble_eq_true rfl)⟩ (Nat.le_of_ble_eq_true rfl) [0, 2, 3, 4, 5, 9] [1, 6, 7, 8, 10] rfl rfl rfl rfl (by decide) [5, 0, 6, 7, 8, 9, 1, 2, 3, 10, 4] rfl (ws2 := fun _ => [(a 31, oX9 a (hM 31)), (a 32, aI E 8 (hM 32)), (a 36, aI E 120 (hM 36)), (a 37, aI E 120 (hM 37)), (a 38, aI E 4096 (hM 38)), (a 39, aI E 4096 (hM 39)), (a 40, aI E 4096 (hM 40)), (a 41, aI E 128 (hM 41)), (a 42, aI E 98 (mM 42)), (a 43, aI E 202 (o_6.2 43)), (a 44, aI E 4 (hM 44))]) (fun _ => rfl) (fun _ => ?_)
    obtain ⟨hin, hxt⟩ := xgd_some hxt
    refine r.iast (ws' := [(a 31, oX9 a (hM 31)), (a 32, aI E 8 (hM 32)), (a 36, aI E 120 (hM 36)), (a 37, aI E 120 (hM 37)), (a 38, aI E 4096 (hM 38)), (a 39, aI E 4096 (hM 39)), (a 40, aI E 4096 (hM 40)), (a 41, aI E 128 (hM 41)), (a 42, aI E 98 (upd (mM 42) v1.toNatClampNeg o_6.1)), (a 43, aI E 202 (o_6.2 43)), (a 44, aI E 4 (hM 44))]) 8 rfl hin rfl (DX9_work 39 rfl) ?_
    refine r.iinc (v := (v1 + (1 : Int32))) (lo' := [(1, .int (v1 + (1 : Int32))), (0, .ref (a 31))]) 1 (DX9_work 40 rfl) rfl rfl (Nat.le_of_ble_eq_true rfl) rfl ?_
    refine r.goto 52 (DX9_work 41 rfl) rfl ?_
    refine r.rel (lo' := [(0, .ref (a 31)), (1, .int (v1 + (1 : Int32)))]) [1, 0] rfl ?_
    exact ih (v1 + (1 : Int32)) (mgs (mset hM 42 (upd (mM 42) v1.toNatClampNeg o_6.1)) [43] o_6.2) hxt
set_option maxRecDepth 100000 in
set_option maxHeartbeats 4000000 in
theorem t_X9_work (E : xE) (a : Nat → Nat) (hM : Mem) {o : Mem} (hxt : xt_X9_work hM = some o) : xMV (S := Unit) E yX9_work cX9_work 2 8 0 0 [.ref (a 31)] [(a 31, oX9 a (hM 31)), (a 32, aI E 8 (hM 32)), (a 36, aI E 120 (hM 36)), (a 37, aI E 120 (hM 37)), (a 38, aI E 4096 (hM 38)), (a 39, aI E 4096 (hM 39)), (a 40, aI E 4096 (hM 40)), (a 41, aI E 128 (hM 41)), (a 42, aI E 98 (hM 42)), (a 43, aI E 202 (hM 43)), (a 44, aI E 4 (hM 44))] (fun _ => [(a 31, oX9 a (o 31)), (a 32, aI E 8 (hM 32)), (a 36, aI E 120 (hM 36)), (a 37, aI E 120 (hM 37)), (a 38, aI E 4096 (o 38)), (a 39, aI E 4096 (o 39)), (a 40, aI E 4096 (o 40)), (a 41, aI E 128 (o 41)), (a 42, aI E 98 (o 42)), (a 43, aI E 202 (o 43)), (a 44, aI E 4 (o 44))]) := by
  refine xMV.of (own := RX9) (lo0 := [(0, .ref (a 31))]) (ini := false) (fun h => nomatch h) (by decide +kernel) rfl rfl (Nat.le_of_ble_eq_true rfl) (fun V r hret => ?_)
  unfold xt_X9_work at hxt
  refine r.aload_n 0 (DX9_work 0 rfl) rfl ?_
  obtain ⟨o_1, ho_1, hxt⟩ := xbd hxt
  refine r.callVI 0 rfl rfl (t_X9_isAsWorked E a hM ho_1) g_X9_145 rfl (DX9_work 1 rfl) rfl ⟨(Nat.le_of_ble_eq_true rfl), (Nat.le_of_ble_eq_true rfl)⟩ ⟨(Nat.le_of_ble_eq_true rfl), (Nat.le_of_ble_eq_true rfl)⟩ (Nat.le_of_ble_eq_true rfl) [0, 1, 10] [2, 3, 4, 5, 6, 7, 8, 9] rfl rfl rfl rfl (by decide) [8, 9, 0, 1, 2, 3, 4, 5, 6, 7, 10] rfl (ws2 := fun _ => [(a 31, oX9 a (hM 31)), (a 32, aI E 8 (hM 32)), (a 36, aI E 120 (hM 36)), (a 37, aI E 120 (hM 37)), (a 38, aI E 4096 (hM 38)), (a 39, aI E 4096 (hM 39)), (a 40, aI E 4096 (hM 40)), (a 41, aI E 128 (hM 41)), (a 42, aI E 98 (hM 42)), (a 43, aI E 202 (hM 43)), (a 44, aI E 4 (hM 44))]) (fun _ => rfl) (fun _ => ?_)
  refine r.if_eq 8 (DX9_work 2 rfl) rfl hxt (fun _ hxt => ?_) (fun _ hxt => ?_)
  · refine r.iconst (v := (0 : Int32)) (DX9_work 4 rfl) rfl ?_
    refine r.istore_n (lo' := [(1, .int (0 : Int32)), (0, .ref (a 31))]) (DX9_work 5 rfl) (Nat.le_of_ble_eq_true rfl) rfl ?_
    refine r.rel (lo' := [(0, .ref (a 31)), (1, .int (0 : Int32))]) [1, 0] rfl ?_
    refine l_X9_work_10 E a hM r (fun m_2 hxt => ?_) 10000 (0 : Int32) hM hxt
    refine r.aload_n 0 (DX9_work 19 rfl) rfl ?_
    refine r.iconst (v := (1 : Int32)) (DX9_work 20 rfl) rfl ?_
    refine r.put (ws' := [(a 31, oX9 a (upd (hM 31) 16 (1 : Int32))), (a 32, aI E 8 (hM 32)), (a 36, aI E 120 (hM 36)), (a 37, aI E 120 (hM 37)), (a 38, aI E 4096 (hM 38)), (a 39, aI E 4096 (hM 39)), (a 40, aI E 4096 (hM 40)), (a 41, aI E 128 (hM 41)), (a 42, aI E 98 (hM 42)), (a 43, aI E 202 (hM 43)), (a 44, aI E 4 (m_2 44))]) kX9 f_X9_141 0 rfl rfl rfl rfl (Nat.le_of_ble_eq_true rfl) rfl (DX9_work 21 rfl) ?_
    refine r.aload_n 0 (DX9_work 22 rfl) rfl ?_
    obtain ⟨o_3, ho_3, hxt⟩ := xbd hxt
    refine r.callVV 0 rfl rfl (t_X9_workOutAll E a (mset hM 31 (upd (hM 31) 16 (1 : Int32))) ho_3) g_X9_149 rfl (DX9_work 23 rfl) rfl ⟨(Nat.le_of_ble_eq_true rfl), (Nat.le_of_ble_eq_true rfl)⟩ ⟨(Nat.le_of_ble_eq_true rfl), (Nat.le_of_ble_eq_true rfl)⟩ (Nat.le_of_ble_eq_true rfl) [0, 1, 2, 3, 4] [5, 6, 7, 8, 9, 10] rfl rfl rfl rfl (by decide) [6, 7, 8, 9, 10, 0, 1, 2, 3, 4, 5] rfl (ws2 := fun _ => [(a 31, oX9 a (upd (hM 31) 16 (1 : Int32))), (a 32, aI E 8 (hM 32)), (a 36, aI E 120 (hM 36)), (a 37, aI E 120 (hM 37)), (a 38, aI E 4096 (o_3 38)), (a 39, aI E 4096 (hM 39)), (a 40, aI E 4096 (hM 40)), (a 41, aI E 128 (hM 41)), (a 42, aI E 98 (hM 42)), (a 43, aI E 202 (hM 43)), (a 44, aI E 4 (m_2 44))]) (fun _ => rfl) (fun _ => ?_)
    refine r.aload_n 0 (DX9_work 24 rfl) rfl ?_
    obtain ⟨o_4, ho_4, hxt⟩ := xbd hxt
    refine r.callVV 0 rfl rfl (t_X9_findSymmetries E a (mset hM 31 (upd (hM 31) 16 (1 : Int32))) ho_4) g_X9_152 rfl (DX9_work 25 rfl) rfl ⟨(Nat.le_of_ble_eq_true rfl), (Nat.le_of_ble_eq_true rfl)⟩ ⟨(Nat.le_of_ble_eq_true rfl), (Nat.le_of_ble_eq_true rfl)⟩ (Nat.le_of_ble_eq_true rfl) [0, 1, 7] [2, 3, 4, 5, 6, 8, 9, 10] rfl rfl rfl rfl (by decide) [8, 9, 0, 1, 2, 3, 4, 10, 5, 6, 7] rfl (ws2 := fun _ => [(a 31, oX9 a (o_4 31)), (a 32, aI E 8 (hM 32)), (a 36, aI E 120 (hM 36)), (a 37, aI E 120 (hM 37)), (a 38, aI E 4096 (o_3 38)), (a 39, aI E 4096 (hM 39)), (a 40, aI E 4096 (hM 40)), (a 41, aI E 128 (o_4 41)), (a 42, aI E 98 (hM 42)), (a 43, aI E 202 (hM 43)), (a 44, aI E 4 (m_2 44))]) (fun _ => rfl) (fun _ => ?_)
    refine r.aload_n 0 (DX9_work 26 rfl) rfl ?_
    obtain ⟨o_5, ho_5, hxt⟩ := xbd hxt
    refine r.callVV 0 rfl rfl (t_X9_fold E a (mgs hM [31, 41] o_4) ho_5) g_X9_155 rfl (DX9_work 27 rfl) rfl ⟨(Nat.le_of_ble_eq_true rfl), (Nat.le_of_ble_eq_true rfl)⟩ ⟨(Nat.le_of_ble_eq_true rfl), (Nat.le_of_ble_eq_true rfl)⟩ (Nat.le_of_ble_eq_true rfl) [0, 1, 2, 3, 5, 6, 7] [4, 8, 9, 10] rfl rfl rfl rfl (by decide) [4, 5, 6, 7, 0, 8, 9, 10, 1, 2, 3] rfl (ws2 := fun _ => [(a 31, oX9 a (o_4 31)), (a 32, aI E 8 (hM 32)), (a 36, aI E 120 (hM 36)), (a 37, aI E 120 (hM 37)), (a 38, aI E 4096 (o_3 38)), (a 39, aI E 4096 (o_5 39)), (a 40, aI E 4096 (o_5 40)), (a 41, aI E 128 (o_4 41)), (a 42, aI E 98 (hM 42)), (a 43, aI E 202 (hM 43)), (a 44, aI E 4 (m_2 44))]) (fun _ => rfl) (fun _ => ?_)
    refine r.iconst (v := (0 : Int32)) (DX9_work 28 rfl) rfl ?_
    refine r.istore_n (lo' := [(1, .int (0 : Int32)), (0, .ref (a 31))]) (DX9_work 29 rfl) (Nat.le_of_ble_eq_true rfl) rfl ?_
    refine r.rel (lo' := [(0, .ref (a 31)), (1, .int (0 : Int32))]) [1, 0] rfl ?_
    refine l_X9_work_52 E a (mgs (mgs (mgs (mgs hM [31, 41] o_4) [38] o_3) [39, 40] o_5) [44] m_2) r (fun m_7 hxt => ?_) 10000 (0 : Int32) hM hxt
    cases hxt
    exact hret _ _ _ (DX9_work 42 rfl) ⟨(), rfl⟩
  cases hxt
  exact hret _ _ _ (DX9_work 3 rfl) ⟨(), rfl⟩
set_option maxRecDepth 100000 in
set_option maxHeartbeats 4000000 in
theorem t_X9_isHit (E : xE) (a : Nat → Nat) (hM : Mem) {o : Int32} (hxt : xt_X9_isHit hM = some o) : xMI (S := Unit) E yX9_isHit cX9_isHit 1 .boolean 0 0 0 [.ref (a 31)] [(a 31, oX9 a (hM 31)), (a 32, aI E 8 (hM 32))] (fun _ => o) (fun _ => [(a 31, oX9 a (hM 31)), (a 32, aI E 8 (hM 32))]) := by
  refine xMI.of (own := RX9) (lo0 := [(0, .ref (a 31))]) (by decide +kernel) rfl rfl (Nat.le_of_ble_eq_true rfl) (fun V r hret => ?_)
  unfold xt_X9_isHit at hxt
  refine r.aload_n 0 (DX9_isHit 0 rfl) rfl ?_
  refine r.get (v := .ref (a 32)) kX9 f_X9_7 rfl 0 rfl rfl (DX9_isHit 1 rfl) ?_
  refine r.bipush (v := (6 : Int32)) (DX9_isHit 2 rfl) rfl ?_
  obtain ⟨hin, hxt⟩ := xgd_some hxt
  refine r.iald 1 rfl hin (DX9_isHit 3 rfl) ?_
  refine r.aload_n 0 (DX9_isHit 4 rfl) rfl ?_
  refine r.get (v := .ref (a 32)) kX9 f_X9_7 rfl 0 rfl rfl (DX9_isHit 5 rfl) ?_
  refine r.iconst (v := (5 : Int32)) (DX9_isHit 6 rfl) rfl ?_
  obtain ⟨hin, hxt⟩ := xgd_some hxt
  refine r.iald 1 rfl hin (DX9_isHit 7 rfl) ?_
  refine r.icmp_eq 32 (DX9_isHit 8 rfl) rfl hxt (fun _ hxt => ?_) (fun _ hxt => ?_)
  · refine r.iconst (v := (1 : Int32)) (DX9_isHit 18 rfl) rfl ?_
    refine r.goto 37 (DX9_isHit 19 rfl) rfl ?_
    cases hxt
    exact hret _ _ _ _ (DX9_isHit 21 rfl) rfl ⟨(), rfl, rfl⟩
  refine r.aload_n 0 (DX9_isHit 9 rfl) rfl ?_
  refine r.get (v := .ref (a 32)) kX9 f_X9_7 rfl 0 rfl rfl (DX9_isHit 10 rfl) ?_
  refine r.bipush (v := (7 : Int32)) (DX9_isHit 11 rfl) rfl ?_
  obtain ⟨hin, hxt⟩ := xgd_some hxt
  refine r.iald 1 rfl hin (DX9_isHit 12 rfl) ?_
  refine r.aload_n 0 (DX9_isHit 13 rfl) rfl ?_
  refine r.get (v := .ref (a 32)) kX9 f_X9_7 rfl 0 rfl rfl (DX9_isHit 14 rfl) ?_
  refine r.iconst (v := (5 : Int32)) (DX9_isHit 15 rfl) rfl ?_
  obtain ⟨hin, hxt⟩ := xgd_some hxt
  refine r.iald 1 rfl hin (DX9_isHit 16 rfl) ?_
  refine r.icmp_ne 36 (DX9_isHit 17 rfl) rfl hxt (fun _ hxt => ?_) (fun _ hxt => ?_)
  · refine r.iconst (v := (0 : Int32)) (DX9_isHit 20 rfl) rfl ?_
    cases hxt
    exact hret _ _ _ _ (DX9_isHit 21 rfl) rfl ⟨(), rfl, rfl⟩
  refine r.iconst (v := (1 : Int32)) (DX9_isHit 18 rfl) rfl ?_
  refine r.goto 37 (DX9_isHit 19 rfl) rfl ?_
  cases hxt
  exact hret _ _ _ _ (DX9_isHit 21 rfl) rfl ⟨(), rfl, rfl⟩
set_option maxRecDepth 100000 in
set_option maxHeartbeats 4000000 in
theorem t_X9_numberNow (E : xE) (a : Nat → Nat) (hM : Mem) {o : Int32} (hxt : xt_X9_numberNow hM = some o) : xMI (S := Unit) E yX9_numberNow cX9_numberNow 1 .int 3 0 0 [.ref (a 31)] [(a 31, oX9 a (hM 31)), (a 32, aI E 8 (hM 32))] (fun _ => o) (fun _ => [(a 31, oX9 a (hM 31)), (a 32, aI E 8 (hM 32))]) := by
  refine xMI.of (own := RX9) (lo0 := [(0, .ref (a 31))]) (by decide +kernel) rfl rfl (Nat.le_of_ble_eq_true rfl) (fun V r hret => ?_)
  unfold xt_X9_numberNow at hxt
  refine r.aload_n 0 (DX9_numberNow 0 rfl) rfl ?_
  refine r.get (v := .ref (a 32)) kX9 f_X9_7 rfl 0 rfl rfl (DX9_numberNow 1 rfl) ?_
  refine r.iconst (v := (4 : Int32)) (DX9_numberNow 2 rfl) rfl ?_
  obtain ⟨hin, hxt⟩ := xgd_some hxt
  refine r.iald 1 rfl hin (DX9_numberNow 3 rfl) ?_
  refine r.aload_n 0 (DX9_numberNow 4 rfl) rfl ?_
  refine r.get (v := .ref (a 32)) kX9 f_X9_7 rfl 0 rfl rfl (DX9_numberNow 5 rfl) ?_
  refine r.iconst (v := (5 : Int32)) (DX9_numberNow 6 rfl) rfl ?_
  obtain ⟨hin, hxt⟩ := xgd_some hxt
  refine r.iald 1 rfl hin (DX9_numberNow 7 rfl) ?_
  refine r.aload_n 0 (DX9_numberNow 8 rfl) rfl ?_
  refine r.get (v := .ref (a 32)) kX9 f_X9_7 rfl 0 rfl rfl (DX9_numberNow 9 rfl) ?_
  refine r.bipush (v := (6 : Int32)) (DX9_numberNow 10 rfl) rfl ?_
  obtain ⟨hin, hxt⟩ := xgd_some hxt
  refine r.iald 1 rfl hin (DX9_numberNow 11 rfl) ?_
  refine r.aload_n 0 (DX9_numberNow 12 rfl) rfl ?_
  refine r.get (v := .ref (a 32)) kX9 f_X9_7 rfl 0 rfl rfl (DX9_numberNow 13 rfl) ?_
  refine r.bipush (v := (7 : Int32)) (DX9_numberNow 14 rfl) rfl ?_
  obtain ⟨hin, hxt⟩ := xgd_some hxt
  refine r.iald 1 rfl hin (DX9_numberNow 15 rfl) ?_
  obtain ⟨o_1, ho_1, hxt⟩ := xbd hxt
  refine r.callSI0 (t_X9_numberOf E ((hM 32) (4 : Int32).toNatClampNeg) ((hM 32) (5 : Int32).toNatClampNeg) ((hM 32) (6 : Int32).toNatClampNeg) ((hM 32) (7 : Int32).toNatClampNeg) ho_1) g_X9_99 rfl (DX9_numberNow 16 rfl) rfl ⟨(Nat.le_of_ble_eq_true rfl), (Nat.le_of_ble_eq_true rfl)⟩ (Nat.le_of_ble_eq_true rfl) ?_
  cases hxt
  exact hret _ _ _ _ (DX9_numberNow 17 rfl) rfl ⟨(), rfl, rfl⟩
set_option maxRecDepth 100000 in
set_option maxHeartbeats 4000000 in
theorem t_X9_isCaught (E : xE) (a : Nat → Nat) (hM : Mem) {o : Int32 × Mem} (hxt : xt_X9_isCaught hM = some o) : xMI (S := Unit) E yX9_isCaught cX9_isCaught 1 .boolean 9 0 0 [.ref (a 31)] [(a 31, oX9 a (hM 31)), (a 32, aI E 8 (hM 32)), (a 36, aI E 120 (hM 36)), (a 37, aI E 120 (hM 37)), (a 38, aI E 4096 (hM 38)), (a 39, aI E 4096 (hM 39)), (a 40, aI E 4096 (hM 40)), (a 41, aI E 128 (hM 41)), (a 42, aI E 98 (hM 42)), (a 43, aI E 202 (hM 43)), (a 44, aI E 4 (hM 44))] (fun _ => o.1) (fun _ => [(a 31, oX9 a (o.2 31)), (a 32, aI E 8 (hM 32)), (a 36, aI E 120 (hM 36)), (a 37, aI E 120 (hM 37)), (a 38, aI E 4096 (o.2 38)), (a 39, aI E 4096 (o.2 39)), (a 40, aI E 4096 (o.2 40)), (a 41, aI E 128 (o.2 41)), (a 42, aI E 98 (o.2 42)), (a 43, aI E 202 (o.2 43)), (a 44, aI E 4 (o.2 44))]) := by
  refine xMI.of (own := RX9) (lo0 := [(0, .ref (a 31))]) (by decide +kernel) rfl rfl (Nat.le_of_ble_eq_true rfl) (fun V r hret => ?_)
  unfold xt_X9_isCaught at hxt
  refine r.aload_n 0 (DX9_isCaught 0 rfl) rfl ?_
  obtain ⟨o_1, ho_1, hxt⟩ := xbd hxt
  refine r.callVV 0 rfl rfl (t_X9_work E a hM ho_1) g_X9_161 rfl (DX9_isCaught 1 rfl) rfl ⟨(Nat.le_of_ble_eq_true rfl), (Nat.le_of_ble_eq_true rfl)⟩ ⟨(Nat.le_of_ble_eq_true rfl), (Nat.le_of_ble_eq_true rfl)⟩ (Nat.le_of_ble_eq_true rfl) [0, 1, 2, 3, 4, 5, 6, 7, 8, 9, 10] [] rfl rfl rfl rfl (by decide) [0, 1, 2, 3, 4, 5, 6, 7, 8, 9, 10] rfl (ws2 := fun _ => [(a 31, oX9 a (o_1 31)), (a 32, aI E 8 (hM 32)), (a 36, aI E 120 (hM 36)), (a 37, aI E 120 (hM 37)), (a 38, aI E 4096 (o_1 38)), (a 39, aI E 4096 (o_1 39)), (a 40, aI E 4096 (o_1 40)), (a 41, aI E 128 (o_1 41)), (a 42, aI E 98 (o_1 42)), (a 43, aI E 202 (o_1 43)), (a 44, aI E 4 (o_1 44))]) (fun _ => rfl) (fun _ => ?_)
  refine r.aload_n 0 (DX9_isCaught 2 rfl) rfl ?_
  obtain ⟨o_2, ho_2, hxt⟩ := xbd hxt
  refine r.callVI 0 rfl rfl (t_X9_isHit E a (mgs hM [31] o_1) ho_2) g_X9_164 rfl (DX9_isCaught 3 rfl) rfl ⟨(Nat.le_of_ble_eq_true rfl), (Nat.le_of_ble_eq_true rfl)⟩ ⟨(Nat.le_of_ble_eq_true rfl), (Nat.le_of_ble_eq_true rfl)⟩ (Nat.le_of_ble_eq_true rfl) [0, 1] [2, 3, 4, 5, 6, 7, 8, 9, 10] rfl rfl rfl rfl (by decide) [9, 10, 0, 1, 2, 3, 4, 5, 6, 7, 8] rfl (ws2 := fun _ => [(a 31, oX9 a (o_1 31)), (a 32, aI E 8 (hM 32)), (a 36, aI E 120 (hM 36)), (a 37, aI E 120 (hM 37)), (a 38, aI E 4096 (o_1 38)), (a 39, aI E 4096 (o_1 39)), (a 40, aI E 4096 (o_1 40)), (a 41, aI E 128 (o_1 41)), (a 42, aI E 98 (o_1 42)), (a 43, aI E 202 (o_1 43)), (a 44, aI E 4 (o_1 44))]) (fun _ => rfl) (fun _ => ?_)
  refine r.if_ne 33 (DX9_isCaught 4 rfl) rfl hxt (fun _ hxt => ?_) (fun _ hxt => ?_)
  · refine r.iconst (v := (1 : Int32)) (DX9_isCaught 17 rfl) rfl ?_
    refine r.goto 38 (DX9_isCaught 18 rfl) rfl ?_
    cases hxt
    exact hret _ _ _ _ (DX9_isCaught 20 rfl) rfl ⟨(), rfl, rfl⟩
  refine r.aload_n 0 (DX9_isCaught 5 rfl) rfl ?_
  refine r.get (v := .ref (a 32)) kX9 f_X9_7 rfl 0 rfl rfl (DX9_isCaught 6 rfl) ?_
  refine r.iconst (v := (4 : Int32)) (DX9_isCaught 7 rfl) rfl ?_
  obtain ⟨hin, hxt⟩ := xgd_some hxt
  refine r.iald 1 rfl hin (DX9_isCaught 8 rfl) ?_
  refine r.iconst (v := (1 : Int32)) (DX9_isCaught 9 rfl) rfl ?_
  refine r.icmp_ne 37 (DX9_isCaught 10 rfl) rfl hxt (fun _ hxt => ?_) (fun _ hxt => ?_)
  · refine r.iconst (v := (0 : Int32)) (DX9_isCaught 19 rfl) rfl ?_
    cases hxt
    exact hret _ _ _ _ (DX9_isCaught 20 rfl) rfl ⟨(), rfl, rfl⟩
  refine r.aload_n 0 (DX9_isCaught 11 rfl) rfl ?_
  refine r.get (v := .ref (a 38)) kX9 f_X9_29 rfl 0 rfl rfl (DX9_isCaught 12 rfl) ?_
  refine r.aload_n 0 (DX9_isCaught 13 rfl) rfl ?_
  obtain ⟨o_3, ho_3, hxt⟩ := xbd hxt
  refine r.callVI 0 rfl rfl (t_X9_numberNow E a (mgs hM [31] o_1) ho_3) g_X9_167 rfl (DX9_isCaught 14 rfl) rfl ⟨(Nat.le_of_ble_eq_true rfl), (Nat.le_of_ble_eq_true rfl)⟩ ⟨(Nat.le_of_ble_eq_true rfl), (Nat.le_of_ble_eq_true rfl)⟩ (Nat.le_of_ble_eq_true rfl) [0, 1] [2, 3, 4, 5, 6, 7, 8, 9, 10] rfl rfl rfl rfl (by decide) [9, 10, 0, 1, 2, 3, 4, 5, 6, 7, 8] rfl (ws2 := fun _ => [(a 31, oX9 a (o_1 31)), (a 32, aI E 8 (hM 32)), (a 36, aI E 120 (hM 36)), (a 37, aI E 120 (hM 37)), (a 38, aI E 4096 (o_1 38)), (a 39, aI E 4096 (o_1 39)), (a 40, aI E 4096 (o_1 40)), (a 41, aI E 128 (o_1 41)), (a 42, aI E 98 (o_1 42)), (a 43, aI E 202 (o_1 43)), (a 44, aI E 4 (o_1 44))]) (fun _ => rfl) (fun _ => ?_)
  obtain ⟨hin, hxt⟩ := xgd_some hxt
  refine r.iald 4 rfl hin (DX9_isCaught 15 rfl) ?_
  refine r.if_ne 37 (DX9_isCaught 16 rfl) rfl hxt (fun _ hxt => ?_) (fun _ hxt => ?_)
  · refine r.iconst (v := (0 : Int32)) (DX9_isCaught 19 rfl) rfl ?_
    cases hxt
    exact hret _ _ _ _ (DX9_isCaught 20 rfl) rfl ⟨(), rfl, rfl⟩
  refine r.iconst (v := (1 : Int32)) (DX9_isCaught 17 rfl) rfl ?_
  refine r.goto 38 (DX9_isCaught 18 rfl) rfl ?_
  cases hxt
  exact hret _ _ _ _ (DX9_isCaught 20 rfl) rfl ⟨(), rfl, rfl⟩
set_option maxRecDepth 100000 in
set_option maxHeartbeats 4000000 in
theorem t_X9_distanceNow (E : xE) (a : Nat → Nat) (hM : Mem) {o : Int32 × Mem} (hxt : xt_X9_distanceNow hM = some o) : xMI (S := Unit) E yX9_distanceNow cX9_distanceNow 1 .int 10 0 0 [.ref (a 31)] [(a 31, oX9 a (hM 31)), (a 32, aI E 8 (hM 32)), (a 36, aI E 120 (hM 36)), (a 37, aI E 120 (hM 37)), (a 38, aI E 4096 (hM 38)), (a 39, aI E 4096 (hM 39)), (a 40, aI E 4096 (hM 40)), (a 41, aI E 128 (hM 41)), (a 42, aI E 98 (hM 42)), (a 43, aI E 202 (hM 43)), (a 44, aI E 4 (hM 44))] (fun _ => o.1) (fun _ => [(a 31, oX9 a (o.2 31)), (a 32, aI E 8 (hM 32)), (a 36, aI E 120 (hM 36)), (a 37, aI E 120 (hM 37)), (a 38, aI E 4096 (o.2 38)), (a 39, aI E 4096 (o.2 39)), (a 40, aI E 4096 (o.2 40)), (a 41, aI E 128 (o.2 41)), (a 42, aI E 98 (o.2 42)), (a 43, aI E 202 (o.2 43)), (a 44, aI E 4 (o.2 44))]) := by
  refine xMI.of (own := RX9) (lo0 := [(0, .ref (a 31))]) (by decide +kernel) rfl rfl (Nat.le_of_ble_eq_true rfl) (fun V r hret => ?_)
  unfold xt_X9_distanceNow at hxt
  refine r.aload_n 0 (DX9_distanceNow 0 rfl) rfl ?_
  obtain ⟨o_1, ho_1, hxt⟩ := xbd hxt
  refine r.callVI 0 rfl rfl (t_X9_isCaught E a hM ho_1) g_X9_171 rfl (DX9_distanceNow 1 rfl) rfl ⟨(Nat.le_of_ble_eq_true rfl), (Nat.le_of_ble_eq_true rfl)⟩ ⟨(Nat.le_of_ble_eq_true rfl), (Nat.le_of_ble_eq_true rfl)⟩ (Nat.le_of_ble_eq_true rfl) [0, 1, 2, 3, 4, 5, 6, 7, 8, 9, 10] [] rfl rfl rfl rfl (by decide) [0, 1, 2, 3, 4, 5, 6, 7, 8, 9, 10] rfl (ws2 := fun _ => [(a 31, oX9 a (o_1.2 31)), (a 32, aI E 8 (hM 32)), (a 36, aI E 120 (hM 36)), (a 37, aI E 120 (hM 37)), (a 38, aI E 4096 (o_1.2 38)), (a 39, aI E 4096 (o_1.2 39)), (a 40, aI E 4096 (o_1.2 40)), (a 41, aI E 128 (o_1.2 41)), (a 42, aI E 98 (o_1.2 42)), (a 43, aI E 202 (o_1.2 43)), (a 44, aI E 4 (o_1.2 44))]) (fun _ => rfl) (fun _ => ?_)
  refine r.if_eq 11 (DX9_distanceNow 2 rfl) rfl hxt (fun _ hxt => ?_) (fun _ hxt => ?_)
  · refine r.aload_n 0 (DX9_distanceNow 5 rfl) rfl ?_
    refine r.get (v := .ref (a 38)) kX9 f_X9_29 rfl 0 rfl rfl (DX9_distanceNow 6 rfl) ?_
    refine r.aload_n 0 (DX9_distanceNow 7 rfl) rfl ?_
    obtain ⟨o_2, ho_2, hxt⟩ := xbd hxt
    refine r.callVI 0 rfl rfl (t_X9_numberNow E a (mgs hM [31] o_1.2) ho_2) g_X9_167 rfl (DX9_distanceNow 8 rfl) rfl ⟨(Nat.le_of_ble_eq_true rfl), (Nat.le_of_ble_eq_true rfl)⟩ ⟨(Nat.le_of_ble_eq_true rfl), (Nat.le_of_ble_eq_true rfl)⟩ (Nat.le_of_ble_eq_true rfl) [0, 1] [2, 3, 4, 5, 6, 7, 8, 9, 10] rfl rfl rfl rfl (by decide) [9, 10, 0, 1, 2, 3, 4, 5, 6, 7, 8] rfl (ws2 := fun _ => [(a 31, oX9 a (o_1.2 31)), (a 32, aI E 8 (hM 32)), (a 36, aI E 120 (hM 36)), (a 37, aI E 120 (hM 37)), (a 38, aI E 4096 (o_1.2 38)), (a 39, aI E 4096 (o_1.2 39)), (a 40, aI E 4096 (o_1.2 40)), (a 41, aI E 128 (o_1.2 41)), (a 42, aI E 98 (o_1.2 42)), (a 43, aI E 202 (o_1.2 43)), (a 44, aI E 4 (o_1.2 44))]) (fun _ => rfl) (fun _ => ?_)
    obtain ⟨hin, hxt⟩ := xgd_some hxt
    refine r.iald 4 rfl hin (DX9_distanceNow 9 rfl) ?_
    cases hxt
    exact hret _ _ _ _ (DX9_distanceNow 10 rfl) rfl ⟨(), rfl, rfl⟩
  refine r.iconst (v := (0 : Int32)) (DX9_distanceNow 3 rfl) rfl ?_
  refine r.goto 20 (DX9_distanceNow 4 rfl) rfl ?_
  cases hxt
  exact hret _ _ _ _ (DX9_distanceNow 10 rfl) rfl ⟨(), rfl, rfl⟩
set_option maxRecDepth 100000 in
set_option maxHeartbeats 4000000 in
theorem t_X9_setUp (E : xE) (a : Nat → Nat) (x1 : Int32) (x2 : Int32) (x3 : Int32) (x4 : Int32) (hM : Mem) {o : Int32 × Mem} (hxt : xt_X9_setUp x1 x2 x3 x4 hM = some o) : xMI (S := Unit) E yX9_setUp cX9_setUp 6 .int 11 0 0 [.ref (a 31), .int x1, .int x2, .int x3, .int x4] [(a 31, oX9 a (hM 31)), (a 32, aI E 8 (hM 32)), (a 33, aI E 48 (hM 33)), (a 36, aI E 120 (hM 36)), (a 37, aI E 120 (hM 37)), (a 38, aI E 4096 (hM 38)), (a 39, aI E 4096 (hM 39)), (a 40, aI E 4096 (hM 40)), (a 41, aI E 128 (hM 41)), (a 42, aI E 98 (hM 42)), (a 43, aI E 202 (hM 43)), (a 44, aI E 4 (hM 44))] (fun _ => o.1) (fun _ => [(a 31, oX9 a (o.2 31)), (a 32, aI E 8 (o.2 32)), (a 33, aI E 48 (o.2 33)), (a 36, aI E 120 (hM 36)), (a 37, aI E 120 (hM 37)), (a 38, aI E 4096 (o.2 38)), (a 39, aI E 4096 (o.2 39)), (a 40, aI E 4096 (o.2 40)), (a 41, aI E 128 (o.2 41)), (a 42, aI E 98 (o.2 42)), (a 43, aI E 202 (o.2 43)), (a 44, aI E 4 (o.2 44))]) := by
  refine xMI.of (own := RX9) (lo0 := [(0, .ref (a 31)), (1, .int x1), (2, .int x2), (3, .int x3), (4, .int x4)]) (by decide +kernel) rfl rfl (Nat.le_of_ble_eq_true rfl) (fun V r hret => ?_)
  unfold xt_X9_setUp at hxt
  refine r.aload_n 0 (DX9_setUp 0 rfl) rfl ?_
  refine r.iload_n 1 (DX9_setUp 1 rfl) rfl ?_
  refine r.iload_n 2 (DX9_setUp 2 rfl) rfl ?_
  refine r.iload_n 3 (DX9_setUp 3 rfl) rfl ?_
  refine r.iload 4 (DX9_setUp 4 rfl) rfl ?_
  obtain ⟨o_1, ho_1, hxt⟩ := xbd hxt
  refine r.callVI 0 rfl rfl (t_X9_whyNot E a x1 x2 x3 x4 hM ho_1) g_X9_201 rfl (DX9_setUp 5 rfl) rfl ⟨(Nat.le_of_ble_eq_true rfl), (Nat.le_of_ble_eq_true rfl)⟩ ⟨(Nat.le_of_ble_eq_true rfl), (Nat.le_of_ble_eq_true rfl)⟩ (Nat.le_of_ble_eq_true rfl) [0, 1] [2, 3, 4, 5, 6, 7, 8, 9, 10, 11] rfl rfl rfl rfl (by decide) [10, 11, 0, 1, 2, 3, 4, 5, 6, 7, 8, 9] rfl (ws2 := fun _ => [(a 31, oX9 a (hM 31)), (a 32, aI E 8 (hM 32)), (a 33, aI E 48 (hM 33)), (a 36, aI E 120 (hM 36)), (a 37, aI E 120 (hM 37)), (a 38, aI E 4096 (hM 38)), (a 39, aI E 4096 (hM 39)), (a 40, aI E 4096 (hM 40)), (a 41, aI E 128 (hM 41)), (a 42, aI E 98 (hM 42)), (a 43, aI E 202 (hM 43)), (a 44, aI E 4 (hM 44))]) (fun _ => rfl) (fun _ => ?_)
  refine r.istore (lo' := [(5, .int o_1), (0, .ref (a 31)), (1, .int x1), (2, .int x2), (3, .int x3), (4, .int x4)]) (DX9_setUp 6 rfl) (Nat.le_of_ble_eq_true rfl) rfl ?_
  refine r.iload 0 (DX9_setUp 7 rfl) rfl ?_
  refine r.if_ge 19 (DX9_setUp 8 rfl) rfl hxt (fun _ hxt => ?_) (fun _ hxt => ?_)
  · refine r.aload_n 1 (DX9_setUp 11 rfl) rfl ?_
    obtain ⟨o_2, ho_2, hxt⟩ := xbd hxt
    refine r.callVV 0 rfl rfl (t_X9_keep E a hM ho_2) g_X9_192 rfl (DX9_setUp 12 rfl) rfl ⟨(Nat.le_of_ble_eq_true rfl), (Nat.le_of_ble_eq_true rfl)⟩ ⟨(Nat.le_of_ble_eq_true rfl), (Nat.le_of_ble_eq_true rfl)⟩ (Nat.le_of_ble_eq_true rfl) [0, 1, 2] [3, 4, 5, 6, 7, 8, 9, 10, 11] rfl rfl rfl rfl (by decide) [9, 10, 11, 0, 1, 2, 3, 4, 5, 6, 7, 8] rfl (ws2 := fun _ => [(a 31, oX9 a (o_2 31)), (a 32, aI E 8 (hM 32)), (a 33, aI E 48 (o_2 33)), (a 36, aI E 120 (hM 36)), (a 37, aI E 120 (hM 37)), (a 38, aI E 4096 (hM 38)), (a 39, aI E 4096 (hM 39)), (a 40, aI E 4096 (hM 40)), (a 41, aI E 128 (hM 41)), (a 42, aI E 98 (hM 42)), (a 43, aI E 202 (hM 43)), (a 44, aI E 4 (hM 44))]) (fun _ => rfl) (fun _ => ?_)
    refine r.aload_n 1 (DX9_setUp 13 rfl) rfl ?_
    refine r.iload_n 2 (DX9_setUp 14 rfl) rfl ?_
    refine r.iload_n 3 (DX9_setUp 15 rfl) rfl ?_
    refine r.iload_n 4 (DX9_setUp 16 rfl) rfl ?_
    refine r.iload 5 (DX9_setUp 17 rfl) rfl ?_
    obtain ⟨o_3, ho_3, hxt⟩ := xbd hxt
    refine r.callVV 0 rfl rfl (t_X9_lay E a x1 x2 x3 x4 (mgs hM [31] o_2) ho_3) g_X9_204 rfl (DX9_setUp 18 rfl) rfl ⟨(Nat.le_of_ble_eq_true rfl), (Nat.le_of_ble_eq_true rfl)⟩ ⟨(Nat.le_of_ble_eq_true rfl), (Nat.le_of_ble_eq_true rfl)⟩ (Nat.le_of_ble_eq_true rfl) [0, 1] [2, 3, 4, 5, 6, 7, 8, 9, 10, 11] rfl rfl rfl rfl (by decide) [10, 11, 0, 1, 2, 3, 4, 5, 6, 7, 8, 9] rfl (ws2 := fun _ => [(a 31, oX9 a (o_2 31)), (a 32, aI E 8 (o_3 32)), (a 33, aI E 48 (o_2 33)), (a 36, aI E 120 (hM 36)), (a 37, aI E 120 (hM 37)), (a 38, aI E 4096 (hM 38)), (a 39, aI E 4096 (hM 39)), (a 40, aI E 4096 (hM 40)), (a 41, aI E 128 (hM 41)), (a 42, aI E 98 (hM 42)), (a 43, aI E 202 (hM 43)), (a 44, aI E 4 (hM 44))]) (fun _ => rfl) (fun _ => ?_)
    refine r.aload_n 1 (DX9_setUp 19 rfl) rfl ?_
    obtain ⟨o_4, ho_4, hxt⟩ := xbd hxt
    refine r.callVI 0 rfl rfl (t_X9_distanceNow E a (mgs (mgs hM [31] o_2) [32] o_3) ho_4) g_X9_208 rfl (DX9_setUp 20 rfl) rfl ⟨(Nat.le_of_ble_eq_true rfl), (Nat.le_of_ble_eq_true rfl)⟩ ⟨(Nat.le_of_ble_eq_true rfl), (Nat.le_of_ble_eq_true rfl)⟩ (Nat.le_of_ble_eq_true rfl) [0, 1, 3, 4, 5, 6, 7, 8, 9, 10, 11] [2] rfl rfl rfl rfl (by decide) [1, 2, 0, 3, 4, 5, 6, 7, 8, 9, 10, 11] rfl (ws2 := fun _ => [(a 31, oX9 a (o_4.2 31)), (a 32, aI E 8 (o_3 32)), (a 33, aI E 48 (o_2 33)), (a 36, aI E 120 (hM 36)), (a 37, aI E 120 (hM 37)), (a 38, aI E 4096 (o_4.2 38)), (a 39, aI E 4096 (o_4.2 39)), (a 40, aI E 4096 (o_4.2 40)), (a 41, aI E 128 (o_4.2 41)), (a 42, aI E 98 (o_4.2 42)), (a 43, aI E 202 (o_4.2 43)), (a 44, aI E 4 (o_4.2 44))]) (fun _ => rfl) (fun _ => ?_)
    cases hxt
    exact hret _ _ _ _ (DX9_setUp 21 rfl) rfl ⟨(), rfl, rfl⟩
  refine r.iload 0 (DX9_setUp 9 rfl) rfl ?_
  cases hxt
  exact hret _ _ _ _ (DX9_setUp 10 rfl) rfl ⟨(), rfl, rfl⟩
set_option maxRecDepth 100000 in
set_option maxHeartbeats 4000000 in
theorem t_X9_isHunterMove (E : xE) (a : Nat → Nat) (x1 : Int32) (x2 : Int32) (hM : Mem) {o : Int32} (hxt : xt_X9_isHunterMove x1 x2 hM = some o) : xMI (S := Unit) E yX9_isHunterMove cX9_isHunterMove 5 .boolean 4 0 0 [.ref (a 31), .int x1, .int x2] [(a 31, oX9 a (hM 31)), (a 32, aI E 8 (hM 32))] (fun _ => o) (fun _ => [(a 31, oX9 a (hM 31)), (a 32, aI E 8 (hM 32))]) := by
  refine xMI.of (own := RX9) (lo0 := [(0, .ref (a 31)), (1, .int x1), (2, .int x2)]) (by decide +kernel) rfl rfl (Nat.le_of_ble_eq_true rfl) (fun V r hret => ?_)
  unfold xt_X9_isHunterMove at hxt
  refine r.iload_n 1 (DX9_isHunterMove_0 0 rfl) rfl ?_
  refine r.aload_n 0 (DX9_isHunterMove_0 1 rfl) rfl ?_
  refine r.get (v := .ref (a 32)) kX9 f_X9_7 rfl 0 rfl rfl (DX9_isHunterMove_0 2 rfl) ?_
  refine r.bipush (v := (6 : Int32)) (DX9_isHunterMove_0 3 rfl) rfl ?_
  obtain ⟨hin, hxt⟩ := xgd_some hxt
  refine r.iald 1 rfl hin (DX9_isHunterMove_0 4 rfl) ?_
  refine r.icmp_eq 22 (DX9_isHunterMove_0 5 rfl) rfl hxt (fun _ hxt => ?_) (fun _ hxt => ?_)
  · refine r.iconst (v := (1 : Int32)) (DX9_isHunterMove_0 12 rfl) rfl ?_
    refine r.goto 27 (DX9_isHunterMove_0 13 rfl) rfl ?_
    refine r.istore_n (lo' := [(3, .int (1 : Int32)), (0, .ref (a 31)), (1, .int x1), (2, .int x2)]) (DX9_isHunterMove_0 15 rfl) (Nat.le_of_ble_eq_true rfl) rfl ?_
    refine r.iload_n 2 (DX9_isHunterMove_0 16 rfl) rfl ?_
    refine r.aload_n 1 (DX9_isHunterMove_0 17 rfl) rfl ?_
    refine r.get (v := .ref (a 32)) kX9 f_X9_7 rfl 0 rfl rfl (DX9_isHunterMove_0 18 rfl) ?_
    refine r.bipush (v := (6 : Int32)) (DX9_isHunterMove_0 19 rfl) rfl ?_
    obtain ⟨hin, hxt⟩ := xgd_some hxt
    refine r.iald 1 rfl hin (DX9_isHunterMove_0 20 rfl) ?_
    refine r.icmp_ne 49 (DX9_isHunterMove_0 21 rfl) rfl hxt (fun _ hxt => ?_) (fun _ hxt => ?_)
    · refine r.aload_n 1 (DX9_isHunterMove_0 27 rfl) rfl ?_
      refine r.get (v := .ref (a 32)) kX9 f_X9_7 rfl 0 rfl rfl (DX9_isHunterMove_0 28 rfl) ?_
      refine r.bipush (v := (6 : Int32)) (DX9_isHunterMove_0 29 rfl) rfl ?_
      obtain ⟨hin, hxt⟩ := xgd_some hxt
      refine r.iald 1 rfl hin (DX9_isHunterMove_0 30 rfl) ?_
      refine r.istore (lo' := [(4, .int ((hM 32) (6 : Int32).toNatClampNeg)), (3, .int (1 : Int32)), (0, .ref (a 31)), (1, .int x1), (2, .int x2)]) (DX9_isHunterMove_0 31 rfl) (Nat.le_of_ble_eq_true rfl) rfl ?_
      refine r.iload_n 1 (DX9_isHunterMove_0 32 rfl) rfl ?_
      refine r.if_neT 64 (DX9_isHunterMove_0 33 rfl) rfl (by decide) ?_
      refine r.iload_n 3 (DX9_isHunterMove_0 36 rfl) rfl ?_
      refine r.iload_n 4 (DX9_isHunterMove_0 37 rfl) rfl ?_
      refine r.icmp_ne 87 (DX9_isHunterMove_0 38 rfl) rfl hxt (fun _ hxt => ?_) (fun _ hxt => ?_)
      · refine r.aload_n 2 (DX9_isHunterMove_0 49 rfl) rfl ?_
        refine r.iload_n 4 (DX9_isHunterMove_0 50 rfl) rfl ?_
        obtain ⟨o_1, ho_1, hxt⟩ := xbd hxt
        refine r.callVI 0 rfl rfl (t_X9_isFree E a x2 hM ho_1) g_X9_91 rfl (DX9_isHunterMove_0 51 rfl) rfl ⟨(Nat.le_of_ble_eq_true rfl), (Nat.le_of_ble_eq_true rfl)⟩ ⟨(Nat.le_of_ble_eq_true rfl), (Nat.le_of_ble_eq_true rfl)⟩ (Nat.le_of_ble_eq_true rfl) [0, 1] [] rfl rfl rfl rfl (by decide) [0, 1] rfl (ws2 := fun _ => [(a 31, oX9 a (hM 31)), (a 32, aI E 8 (hM 32))]) (fun _ => rfl) (fun _ => ?_)
        refine r.if_eq 128 (DX9_isHunterMove_0 52 rfl) rfl hxt (fun _ hxt => ?_) (fun _ hxt => ?_)
        · refine r.iconst (v := (0 : Int32)) (DX9_isHunterMove_1 11 rfl) rfl ?_
          cases hxt
          exact hret _ _ _ _ (DX9_isHunterMove_1 12 rfl) rfl ⟨(), rfl, rfl⟩
        refine r.iload_n 4 (DX9_isHunterMove_0 53 rfl) rfl ?_
        refine r.iload 0 (DX9_isHunterMove_0 54 rfl) rfl ?_
        refine r.icmp_eq 128 (DX9_isHunterMove_0 55 rfl) rfl hxt (fun _ hxt => ?_) (fun _ hxt => ?_)
        · refine r.iconst (v := (0 : Int32)) (DX9_isHunterMove_1 11 rfl) rfl ?_
          cases hxt
          exact hret _ _ _ _ (DX9_isHunterMove_1 12 rfl) rfl ⟨(), rfl, rfl⟩
        refine r.iload_n 3 (DX9_isHunterMove_0 56 rfl) rfl ?_
        refine r.iload_n 4 (DX9_isHunterMove_0 57 rfl) rfl ?_
        refine r.aload_n 2 (DX9_isHunterMove_0 58 rfl) rfl ?_
        refine r.get (v := .ref (a 32)) kX9 f_X9_7 rfl 0 rfl rfl (DX9_isHunterMove_0 59 rfl) ?_
        refine r.iconst (v := (1 : Int32)) (DX9_isHunterMove_1 0 rfl) rfl ?_
        obtain ⟨hin, hxt⟩ := xgd_some hxt
        refine r.iald 1 rfl hin (DX9_isHunterMove_1 1 rfl) ?_
        refine r.iconst (v := (1 : Int32)) (DX9_isHunterMove_1 2 rfl) rfl ?_
        refine r.icmp_ne 117 (DX9_isHunterMove_1 3 rfl) rfl hxt (fun _ hxt => ?_) (fun _ hxt => ?_)
        · refine r.iconst (v := (0 : Int32)) (DX9_isHunterMove_1 6 rfl) rfl ?_
          obtain ⟨o_2, ho_2, hxt⟩ := xbd hxt
          refine r.callSI0 (t_X9_isStep E x1 x2 (0 : Int32) ho_2) g_X9_95 rfl (DX9_isHunterMove_1 7 rfl) rfl ⟨(Nat.le_of_ble_eq_true rfl), (Nat.le_of_ble_eq_true rfl)⟩ (Nat.le_of_ble_eq_true rfl) ?_
          refine r.if_eq 128 (DX9_isHunterMove_1 8 rfl) rfl hxt (fun _ hxt => ?_) (fun _ hxt => ?_)
          · refine r.iconst (v := (0 : Int32)) (DX9_isHunterMove_1 11 rfl) rfl ?_
            cases hxt
            exact hret _ _ _ _ (DX9_isHunterMove_1 12 rfl) rfl ⟨(), rfl, rfl⟩
          refine r.iconst (v := (1 : Int32)) (DX9_isHunterMove_1 9 rfl) rfl ?_
          refine r.goto 129 (DX9_isHunterMove_1 10 rfl) rfl ?_
          cases hxt
          exact hret _ _ _ _ (DX9_isHunterMove_1 12 rfl) rfl ⟨(), rfl, rfl⟩
        refine r.iconst (v := (1 : Int32)) (DX9_isHunterMove_1 4 rfl) rfl ?_
        refine r.goto 118 (DX9_isHunterMove_1 5 rfl) rfl ?_
        obtain ⟨o_3, ho_3, hxt⟩ := xbd hxt
        refine r.callSI0 (t_X9_isStep E x1 x2 (1 : Int32) ho_3) g_X9_95 rfl (DX9_isHunterMove_1 7 rfl) rfl ⟨(Nat.le_of_ble_eq_true rfl), (Nat.le_of_ble_eq_true rfl)⟩ (Nat.le_of_ble_eq_true rfl) ?_
        refine r.if_eq 128 (DX9_isHunterMove_1 8 rfl) rfl hxt (fun _ hxt => ?_) (fun _ hxt => ?_)
        · refine r.iconst (v := (0 : Int32)) (DX9_isHunterMove_1 11 rfl) rfl ?_
          cases hxt
          exact hret _ _ _ _ (DX9_isHunterMove_1 12 rfl) rfl ⟨(), rfl, rfl⟩
        refine r.iconst (v := (1 : Int32)) (DX9_isHunterMove_1 9 rfl) rfl ?_
        refine r.goto 129 (DX9_isHunterMove_1 10 rfl) rfl ?_
        cases hxt
        exact hret _ _ _ _ (DX9_isHunterMove_1 12 rfl) rfl ⟨(), rfl, rfl⟩
      refine r.aload_n 2 (DX9_isHunterMove_0 39 rfl) rfl ?_
      refine r.get (v := .ref (a 32)) kX9 f_X9_7 rfl 0 rfl rfl (DX9_isHunterMove_0 40 rfl) ?_
      refine r.iconst (v := (2 : Int32)) (DX9_isHunterMove_0 41 rfl) rfl ?_
      obtain ⟨hin, hxt⟩ := xgd_some hxt
      refine r.iald 1 rfl hin (DX9_isHunterMove_0 42 rfl) ?_
      refine r.iconst (v := (1 : Int32)) (DX9_isHunterMove_0 43 rfl) rfl ?_
      refine r.icmp_ne 83 (DX9_isHunterMove_0 44 rfl) rfl hxt (fun _ hxt => ?_) (fun _ hxt => ?_)
      · refine r.iconst (v := (0 : Int32)) (DX9_isHunterMove_0 47 rfl) rfl ?_
        refine r.goto 129 (DX9_isHunterMove_0 48 rfl) rfl ?_
        cases hxt
        exact hret _ _ _ _ (DX9_isHunterMove_1 12 rfl) rfl ⟨(), rfl, rfl⟩
      refine r.iconst (v := (1 : Int32)) (DX9_isHunterMove_0 45 rfl) rfl ?_
      refine r.goto 129 (DX9_isHunterMove_0 46 rfl) rfl ?_
      cases hxt
      exact hret _ _ _ _ (DX9_isHunterMove_1 12 rfl) rfl ⟨(), rfl, rfl⟩
    refine r.aload_n 1 (DX9_isHunterMove_0 22 rfl) rfl ?_
    refine r.get (v := .ref (a 32)) kX9 f_X9_7 rfl 0 rfl rfl (DX9_isHunterMove_0 23 rfl) ?_
    refine r.bipush (v := (7 : Int32)) (DX9_isHunterMove_0 24 rfl) rfl ?_
    obtain ⟨hin, hxt⟩ := xgd_some hxt
    refine r.iald 1 rfl hin (DX9_isHunterMove_0 25 rfl) ?_
    refine r.goto 56 (DX9_isHunterMove_0 26 rfl) rfl ?_
    refine r.istore (lo' := [(4, .int ((hM 32) (7 : Int32).toNatClampNeg)), (3, .int (1 : Int32)), (0, .ref (a 31)), (1, .int x1), (2, .int x2)]) (DX9_isHunterMove_0 31 rfl) (Nat.le_of_ble_eq_true rfl) rfl ?_
    refine r.iload_n 1 (DX9_isHunterMove_0 32 rfl) rfl ?_
    refine r.if_neT 64 (DX9_isHunterMove_0 33 rfl) rfl (by decide) ?_
    refine r.iload_n 3 (DX9_isHunterMove_0 36 rfl) rfl ?_
    refine r.iload_n 4 (DX9_isHunterMove_0 37 rfl) rfl ?_
    refine r.icmp_ne 87 (DX9_isHunterMove_0 38 rfl) rfl hxt (fun _ hxt => ?_) (fun _ hxt => ?_)
    · refine r.aload_n 2 (DX9_isHunterMove_0 49 rfl) rfl ?_
      refine r.iload_n 4 (DX9_isHunterMove_0 50 rfl) rfl ?_
      obtain ⟨o_4, ho_4, hxt⟩ := xbd hxt
      refine r.callVI 0 rfl rfl (t_X9_isFree E a x2 hM ho_4) g_X9_91 rfl (DX9_isHunterMove_0 51 rfl) rfl ⟨(Nat.le_of_ble_eq_true rfl), (Nat.le_of_ble_eq_true rfl)⟩ ⟨(Nat.le_of_ble_eq_true rfl), (Nat.le_of_ble_eq_true rfl)⟩ (Nat.le_of_ble_eq_true rfl) [0, 1] [] rfl rfl rfl rfl (by decide) [0, 1] rfl (ws2 := fun _ => [(a 31, oX9 a (hM 31)), (a 32, aI E 8 (hM 32))]) (fun _ => rfl) (fun _ => ?_)
      refine r.if_eq 128 (DX9_isHunterMove_0 52 rfl) rfl hxt (fun _ hxt => ?_) (fun _ hxt => ?_)
      · refine r.iconst (v := (0 : Int32)) (DX9_isHunterMove_1 11 rfl) rfl ?_
        cases hxt
        exact hret _ _ _ _ (DX9_isHunterMove_1 12 rfl) rfl ⟨(), rfl, rfl⟩
      refine r.iload_n 4 (DX9_isHunterMove_0 53 rfl) rfl ?_
      refine r.iload 0 (DX9_isHunterMove_0 54 rfl) rfl ?_
      refine r.icmp_eq 128 (DX9_isHunterMove_0 55 rfl) rfl hxt (fun _ hxt => ?_) (fun _ hxt => ?_)
      · refine r.iconst (v := (0 : Int32)) (DX9_isHunterMove_1 11 rfl) rfl ?_
        cases hxt
        exact hret _ _ _ _ (DX9_isHunterMove_1 12 rfl) rfl ⟨(), rfl, rfl⟩
      refine r.iload_n 3 (DX9_isHunterMove_0 56 rfl) rfl ?_
      refine r.iload_n 4 (DX9_isHunterMove_0 57 rfl) rfl ?_
      refine r.aload_n 2 (DX9_isHunterMove_0 58 rfl) rfl ?_
      refine r.get (v := .ref (a 32)) kX9 f_X9_7 rfl 0 rfl rfl (DX9_isHunterMove_0 59 rfl) ?_
      refine r.iconst (v := (1 : Int32)) (DX9_isHunterMove_1 0 rfl) rfl ?_
      obtain ⟨hin, hxt⟩ := xgd_some hxt
      refine r.iald 1 rfl hin (DX9_isHunterMove_1 1 rfl) ?_
      refine r.iconst (v := (1 : Int32)) (DX9_isHunterMove_1 2 rfl) rfl ?_
      refine r.icmp_ne 117 (DX9_isHunterMove_1 3 rfl) rfl hxt (fun _ hxt => ?_) (fun _ hxt => ?_)
      · refine r.iconst (v := (0 : Int32)) (DX9_isHunterMove_1 6 rfl) rfl ?_
        obtain ⟨o_5, ho_5, hxt⟩ := xbd hxt
        refine r.callSI0 (t_X9_isStep E x1 x2 (0 : Int32) ho_5) g_X9_95 rfl (DX9_isHunterMove_1 7 rfl) rfl ⟨(Nat.le_of_ble_eq_true rfl), (Nat.le_of_ble_eq_true rfl)⟩ (Nat.le_of_ble_eq_true rfl) ?_
        refine r.if_eq 128 (DX9_isHunterMove_1 8 rfl) rfl hxt (fun _ hxt => ?_) (fun _ hxt => ?_)
        · refine r.iconst (v := (0 : Int32)) (DX9_isHunterMove_1 11 rfl) rfl ?_
          cases hxt
          exact hret _ _ _ _ (DX9_isHunterMove_1 12 rfl) rfl ⟨(), rfl, rfl⟩
        refine r.iconst (v := (1 : Int32)) (DX9_isHunterMove_1 9 rfl) rfl ?_
        refine r.goto 129 (DX9_isHunterMove_1 10 rfl) rfl ?_
        cases hxt
        exact hret _ _ _ _ (DX9_isHunterMove_1 12 rfl) rfl ⟨(), rfl, rfl⟩
      refine r.iconst (v := (1 : Int32)) (DX9_isHunterMove_1 4 rfl) rfl ?_
      refine r.goto 118 (DX9_isHunterMove_1 5 rfl) rfl ?_
      obtain ⟨o_6, ho_6, hxt⟩ := xbd hxt
      refine r.callSI0 (t_X9_isStep E x1 x2 (1 : Int32) ho_6) g_X9_95 rfl (DX9_isHunterMove_1 7 rfl) rfl ⟨(Nat.le_of_ble_eq_true rfl), (Nat.le_of_ble_eq_true rfl)⟩ (Nat.le_of_ble_eq_true rfl) ?_
      refine r.if_eq 128 (DX9_isHunterMove_1 8 rfl) rfl hxt (fun _ hxt => ?_) (fun _ hxt => ?_)
      · refine r.iconst (v := (0 : Int32)) (DX9_isHunterMove_1 11 rfl) rfl ?_
        cases hxt
        exact hret _ _ _ _ (DX9_isHunterMove_1 12 rfl) rfl ⟨(), rfl, rfl⟩
      refine r.iconst (v := (1 : Int32)) (DX9_isHunterMove_1 9 rfl) rfl ?_
      refine r.goto 129 (DX9_isHunterMove_1 10 rfl) rfl ?_
      cases hxt
      exact hret _ _ _ _ (DX9_isHunterMove_1 12 rfl) rfl ⟨(), rfl, rfl⟩
    refine r.aload_n 2 (DX9_isHunterMove_0 39 rfl) rfl ?_
    refine r.get (v := .ref (a 32)) kX9 f_X9_7 rfl 0 rfl rfl (DX9_isHunterMove_0 40 rfl) ?_
    refine r.iconst (v := (2 : Int32)) (DX9_isHunterMove_0 41 rfl) rfl ?_
    obtain ⟨hin, hxt⟩ := xgd_some hxt
    refine r.iald 1 rfl hin (DX9_isHunterMove_0 42 rfl) ?_
    refine r.iconst (v := (1 : Int32)) (DX9_isHunterMove_0 43 rfl) rfl ?_
    refine r.icmp_ne 83 (DX9_isHunterMove_0 44 rfl) rfl hxt (fun _ hxt => ?_) (fun _ hxt => ?_)
    · refine r.iconst (v := (0 : Int32)) (DX9_isHunterMove_0 47 rfl) rfl ?_
      refine r.goto 129 (DX9_isHunterMove_0 48 rfl) rfl ?_
      cases hxt
      exact hret _ _ _ _ (DX9_isHunterMove_1 12 rfl) rfl ⟨(), rfl, rfl⟩
    refine r.iconst (v := (1 : Int32)) (DX9_isHunterMove_0 45 rfl) rfl ?_
    refine r.goto 129 (DX9_isHunterMove_0 46 rfl) rfl ?_
    cases hxt
    exact hret _ _ _ _ (DX9_isHunterMove_1 12 rfl) rfl ⟨(), rfl, rfl⟩
  refine r.iload_n 1 (DX9_isHunterMove_0 6 rfl) rfl ?_
  refine r.aload_n 0 (DX9_isHunterMove_0 7 rfl) rfl ?_
  refine r.get (v := .ref (a 32)) kX9 f_X9_7 rfl 0 rfl rfl (DX9_isHunterMove_0 8 rfl) ?_
  refine r.bipush (v := (7 : Int32)) (DX9_isHunterMove_0 9 rfl) rfl ?_
  obtain ⟨hin, hxt⟩ := xgd_some hxt
  refine r.iald 1 rfl hin (DX9_isHunterMove_0 10 rfl) ?_
  refine r.icmp_ne 26 (DX9_isHunterMove_0 11 rfl) rfl hxt (fun _ hxt => ?_) (fun _ hxt => ?_)
  · refine r.iconst (v := (0 : Int32)) (DX9_isHunterMove_0 14 rfl) rfl ?_
    refine r.istore_n (lo' := [(3, .int (0 : Int32)), (0, .ref (a 31)), (1, .int x1), (2, .int x2)]) (DX9_isHunterMove_0 15 rfl) (Nat.le_of_ble_eq_true rfl) rfl ?_
    refine r.iload_n 2 (DX9_isHunterMove_0 16 rfl) rfl ?_
    refine r.aload_n 1 (DX9_isHunterMove_0 17 rfl) rfl ?_
    refine r.get (v := .ref (a 32)) kX9 f_X9_7 rfl 0 rfl rfl (DX9_isHunterMove_0 18 rfl) ?_
    refine r.bipush (v := (6 : Int32)) (DX9_isHunterMove_0 19 rfl) rfl ?_
    obtain ⟨hin, hxt⟩ := xgd_some hxt
    refine r.iald 1 rfl hin (DX9_isHunterMove_0 20 rfl) ?_
    refine r.icmp_ne 49 (DX9_isHunterMove_0 21 rfl) rfl hxt (fun _ hxt => ?_) (fun _ hxt => ?_)
    · refine r.aload_n 1 (DX9_isHunterMove_0 27 rfl) rfl ?_
      refine r.get (v := .ref (a 32)) kX9 f_X9_7 rfl 0 rfl rfl (DX9_isHunterMove_0 28 rfl) ?_
      refine r.bipush (v := (6 : Int32)) (DX9_isHunterMove_0 29 rfl) rfl ?_
      obtain ⟨hin, hxt⟩ := xgd_some hxt
      refine r.iald 1 rfl hin (DX9_isHunterMove_0 30 rfl) ?_
      refine r.istore (lo' := [(4, .int ((hM 32) (6 : Int32).toNatClampNeg)), (3, .int (0 : Int32)), (0, .ref (a 31)), (1, .int x1), (2, .int x2)]) (DX9_isHunterMove_0 31 rfl) (Nat.le_of_ble_eq_true rfl) rfl ?_
      refine r.iload_n 1 (DX9_isHunterMove_0 32 rfl) rfl ?_
      refine r.if_neF 64 (DX9_isHunterMove_0 33 rfl) rfl (by decide) ?_
      refine r.iconst (v := (0 : Int32)) (DX9_isHunterMove_0 34 rfl) rfl ?_
      cases hxt
      exact hret _ _ _ _ (DX9_isHunterMove_0 35 rfl) rfl ⟨(), rfl, rfl⟩
    refine r.aload_n 1 (DX9_isHunterMove_0 22 rfl) rfl ?_
    refine r.get (v := .ref (a 32)) kX9 f_X9_7 rfl 0 rfl rfl (DX9_isHunterMove_0 23 rfl) ?_
    refine r.bipush (v := (7 : Int32)) (DX9_isHunterMove_0 24 rfl) rfl ?_
    obtain ⟨hin, hxt⟩ := xgd_some hxt
    refine r.iald 1 rfl hin (DX9_isHunterMove_0 25 rfl) ?_
    refine r.goto 56 (DX9_isHunterMove_0 26 rfl) rfl ?_
    refine r.istore (lo' := [(4, .int ((hM 32) (7 : Int32).toNatClampNeg)), (3, .int (0 : Int32)), (0, .ref (a 31)), (1, .int x1), (2, .int x2)]) (DX9_isHunterMove_0 31 rfl) (Nat.le_of_ble_eq_true rfl) rfl ?_
    refine r.iload_n 1 (DX9_isHunterMove_0 32 rfl) rfl ?_
    refine r.if_neF 64 (DX9_isHunterMove_0 33 rfl) rfl (by decide) ?_
    refine r.iconst (v := (0 : Int32)) (DX9_isHunterMove_0 34 rfl) rfl ?_
    cases hxt
    exact hret _ _ _ _ (DX9_isHunterMove_0 35 rfl) rfl ⟨(), rfl, rfl⟩
  refine r.iconst (v := (1 : Int32)) (DX9_isHunterMove_0 12 rfl) rfl ?_
  refine r.goto 27 (DX9_isHunterMove_0 13 rfl) rfl ?_
  refine r.istore_n (lo' := [(3, .int (1 : Int32)), (0, .ref (a 31)), (1, .int x1), (2, .int x2)]) (DX9_isHunterMove_0 15 rfl) (Nat.le_of_ble_eq_true rfl) rfl ?_
  refine r.iload_n 2 (DX9_isHunterMove_0 16 rfl) rfl ?_
  refine r.aload_n 1 (DX9_isHunterMove_0 17 rfl) rfl ?_
  refine r.get (v := .ref (a 32)) kX9 f_X9_7 rfl 0 rfl rfl (DX9_isHunterMove_0 18 rfl) ?_
  refine r.bipush (v := (6 : Int32)) (DX9_isHunterMove_0 19 rfl) rfl ?_
  obtain ⟨hin, hxt⟩ := xgd_some hxt
  refine r.iald 1 rfl hin (DX9_isHunterMove_0 20 rfl) ?_
  refine r.icmp_ne 49 (DX9_isHunterMove_0 21 rfl) rfl hxt (fun _ hxt => ?_) (fun _ hxt => ?_)
  · refine r.aload_n 1 (DX9_isHunterMove_0 27 rfl) rfl ?_
    refine r.get (v := .ref (a 32)) kX9 f_X9_7 rfl 0 rfl rfl (DX9_isHunterMove_0 28 rfl) ?_
    refine r.bipush (v := (6 : Int32)) (DX9_isHunterMove_0 29 rfl) rfl ?_
    obtain ⟨hin, hxt⟩ := xgd_some hxt
    refine r.iald 1 rfl hin (DX9_isHunterMove_0 30 rfl) ?_
    refine r.istore (lo' := [(4, .int ((hM 32) (6 : Int32).toNatClampNeg)), (3, .int (1 : Int32)), (0, .ref (a 31)), (1, .int x1), (2, .int x2)]) (DX9_isHunterMove_0 31 rfl) (Nat.le_of_ble_eq_true rfl) rfl ?_
    refine r.iload_n 1 (DX9_isHunterMove_0 32 rfl) rfl ?_
    refine r.if_neT 64 (DX9_isHunterMove_0 33 rfl) rfl (by decide) ?_
    refine r.iload_n 3 (DX9_isHunterMove_0 36 rfl) rfl ?_
    refine r.iload_n 4 (DX9_isHunterMove_0 37 rfl) rfl ?_
    refine r.icmp_ne 87 (DX9_isHunterMove_0 38 rfl) rfl hxt (fun _ hxt => ?_) (fun _ hxt => ?_)
    · refine r.aload_n 2 (DX9_isHunterMove_0 49 rfl) rfl ?_
      refine r.iload_n 4 (DX9_isHunterMove_0 50 rfl) rfl ?_
      obtain ⟨o_7, ho_7, hxt⟩ := xbd hxt
      refine r.callVI 0 rfl rfl (t_X9_isFree E a x2 hM ho_7) g_X9_91 rfl (DX9_isHunterMove_0 51 rfl) rfl ⟨(Nat.le_of_ble_eq_true rfl), (Nat.le_of_ble_eq_true rfl)⟩ ⟨(Nat.le_of_ble_eq_true rfl), (Nat.le_of_ble_eq_true rfl)⟩ (Nat.le_of_ble_eq_true rfl) [0, 1] [] rfl rfl rfl rfl (by decide) [0, 1] rfl (ws2 := fun _ => [(a 31, oX9 a (hM 31)), (a 32, aI E 8 (hM 32))]) (fun _ => rfl) (fun _ => ?_)
      refine r.if_eq 128 (DX9_isHunterMove_0 52 rfl) rfl hxt (fun _ hxt => ?_) (fun _ hxt => ?_)
      · refine r.iconst (v := (0 : Int32)) (DX9_isHunterMove_1 11 rfl) rfl ?_
        cases hxt
        exact hret _ _ _ _ (DX9_isHunterMove_1 12 rfl) rfl ⟨(), rfl, rfl⟩
      refine r.iload_n 4 (DX9_isHunterMove_0 53 rfl) rfl ?_
      refine r.iload 0 (DX9_isHunterMove_0 54 rfl) rfl ?_
      refine r.icmp_eq 128 (DX9_isHunterMove_0 55 rfl) rfl hxt (fun _ hxt => ?_) (fun _ hxt => ?_)
      · refine r.iconst (v := (0 : Int32)) (DX9_isHunterMove_1 11 rfl) rfl ?_
        cases hxt
        exact hret _ _ _ _ (DX9_isHunterMove_1 12 rfl) rfl ⟨(), rfl, rfl⟩
      refine r.iload_n 3 (DX9_isHunterMove_0 56 rfl) rfl ?_
      refine r.iload_n 4 (DX9_isHunterMove_0 57 rfl) rfl ?_
      refine r.aload_n 2 (DX9_isHunterMove_0 58 rfl) rfl ?_
      refine r.get (v := .ref (a 32)) kX9 f_X9_7 rfl 0 rfl rfl (DX9_isHunterMove_0 59 rfl) ?_
      refine r.iconst (v := (1 : Int32)) (DX9_isHunterMove_1 0 rfl) rfl ?_
      obtain ⟨hin, hxt⟩ := xgd_some hxt
      refine r.iald 1 rfl hin (DX9_isHunterMove_1 1 rfl) ?_
      refine r.iconst (v := (1 : Int32)) (DX9_isHunterMove_1 2 rfl) rfl ?_
      refine r.icmp_ne 117 (DX9_isHunterMove_1 3 rfl) rfl hxt (fun _ hxt => ?_) (fun _ hxt => ?_)
      · refine r.iconst (v := (0 : Int32)) (DX9_isHunterMove_1 6 rfl) rfl ?_
        obtain ⟨o_8, ho_8, hxt⟩ := xbd hxt
        refine r.callSI0 (t_X9_isStep E x1 x2 (0 : Int32) ho_8) g_X9_95 rfl (DX9_isHunterMove_1 7 rfl) rfl ⟨(Nat.le_of_ble_eq_true rfl), (Nat.le_of_ble_eq_true rfl)⟩ (Nat.le_of_ble_eq_true rfl) ?_
        refine r.if_eq 128 (DX9_isHunterMove_1 8 rfl) rfl hxt (fun _ hxt => ?_) (fun _ hxt => ?_)
        · refine r.iconst (v := (0 : Int32)) (DX9_isHunterMove_1 11 rfl) rfl ?_
          cases hxt
          exact hret _ _ _ _ (DX9_isHunterMove_1 12 rfl) rfl ⟨(), rfl, rfl⟩
        refine r.iconst (v := (1 : Int32)) (DX9_isHunterMove_1 9 rfl) rfl ?_
        refine r.goto 129 (DX9_isHunterMove_1 10 rfl) rfl ?_
        cases hxt
        exact hret _ _ _ _ (DX9_isHunterMove_1 12 rfl) rfl ⟨(), rfl, rfl⟩
      refine r.iconst (v := (1 : Int32)) (DX9_isHunterMove_1 4 rfl) rfl ?_
      refine r.goto 118 (DX9_isHunterMove_1 5 rfl) rfl ?_
      obtain ⟨o_9, ho_9, hxt⟩ := xbd hxt
      refine r.callSI0 (t_X9_isStep E x1 x2 (1 : Int32) ho_9) g_X9_95 rfl (DX9_isHunterMove_1 7 rfl) rfl ⟨(Nat.le_of_ble_eq_true rfl), (Nat.le_of_ble_eq_true rfl)⟩ (Nat.le_of_ble_eq_true rfl) ?_
      refine r.if_eq 128 (DX9_isHunterMove_1 8 rfl) rfl hxt (fun _ hxt => ?_) (fun _ hxt => ?_)
      · refine r.iconst (v := (0 : Int32)) (DX9_isHunterMove_1 11 rfl) rfl ?_
        cases hxt
        exact hret _ _ _ _ (DX9_isHunterMove_1 12 rfl) rfl ⟨(), rfl, rfl⟩
      refine r.iconst (v := (1 : Int32)) (DX9_isHunterMove_1 9 rfl) rfl ?_
      refine r.goto 129 (DX9_isHunterMove_1 10 rfl) rfl ?_
      cases hxt
      exact hret _ _ _ _ (DX9_isHunterMove_1 12 rfl) rfl ⟨(), rfl, rfl⟩
    refine r.aload_n 2 (DX9_isHunterMove_0 39 rfl) rfl ?_
    refine r.get (v := .ref (a 32)) kX9 f_X9_7 rfl 0 rfl rfl (DX9_isHunterMove_0 40 rfl) ?_
    refine r.iconst (v := (2 : Int32)) (DX9_isHunterMove_0 41 rfl) rfl ?_
    obtain ⟨hin, hxt⟩ := xgd_some hxt
    refine r.iald 1 rfl hin (DX9_isHunterMove_0 42 rfl) ?_
    refine r.iconst (v := (1 : Int32)) (DX9_isHunterMove_0 43 rfl) rfl ?_
    refine r.icmp_ne 83 (DX9_isHunterMove_0 44 rfl) rfl hxt (fun _ hxt => ?_) (fun _ hxt => ?_)
    · refine r.iconst (v := (0 : Int32)) (DX9_isHunterMove_0 47 rfl) rfl ?_
      refine r.goto 129 (DX9_isHunterMove_0 48 rfl) rfl ?_
      cases hxt
      exact hret _ _ _ _ (DX9_isHunterMove_1 12 rfl) rfl ⟨(), rfl, rfl⟩
    refine r.iconst (v := (1 : Int32)) (DX9_isHunterMove_0 45 rfl) rfl ?_
    refine r.goto 129 (DX9_isHunterMove_0 46 rfl) rfl ?_
    cases hxt
    exact hret _ _ _ _ (DX9_isHunterMove_1 12 rfl) rfl ⟨(), rfl, rfl⟩
  refine r.aload_n 1 (DX9_isHunterMove_0 22 rfl) rfl ?_
  refine r.get (v := .ref (a 32)) kX9 f_X9_7 rfl 0 rfl rfl (DX9_isHunterMove_0 23 rfl) ?_
  refine r.bipush (v := (7 : Int32)) (DX9_isHunterMove_0 24 rfl) rfl ?_
  obtain ⟨hin, hxt⟩ := xgd_some hxt
  refine r.iald 1 rfl hin (DX9_isHunterMove_0 25 rfl) ?_
  refine r.goto 56 (DX9_isHunterMove_0 26 rfl) rfl ?_
  refine r.istore (lo' := [(4, .int ((hM 32) (7 : Int32).toNatClampNeg)), (3, .int (1 : Int32)), (0, .ref (a 31)), (1, .int x1), (2, .int x2)]) (DX9_isHunterMove_0 31 rfl) (Nat.le_of_ble_eq_true rfl) rfl ?_
  refine r.iload_n 1 (DX9_isHunterMove_0 32 rfl) rfl ?_
  refine r.if_neT 64 (DX9_isHunterMove_0 33 rfl) rfl (by decide) ?_
  refine r.iload_n 3 (DX9_isHunterMove_0 36 rfl) rfl ?_
  refine r.iload_n 4 (DX9_isHunterMove_0 37 rfl) rfl ?_
  refine r.icmp_ne 87 (DX9_isHunterMove_0 38 rfl) rfl hxt (fun _ hxt => ?_) (fun _ hxt => ?_)
  · refine r.aload_n 2 (DX9_isHunterMove_0 49 rfl) rfl ?_
    refine r.iload_n 4 (DX9_isHunterMove_0 50 rfl) rfl ?_
    obtain ⟨o_10, ho_10, hxt⟩ := xbd hxt
    refine r.callVI 0 rfl rfl (t_X9_isFree E a x2 hM ho_10) g_X9_91 rfl (DX9_isHunterMove_0 51 rfl) rfl ⟨(Nat.le_of_ble_eq_true rfl), (Nat.le_of_ble_eq_true rfl)⟩ ⟨(Nat.le_of_ble_eq_true rfl), (Nat.le_of_ble_eq_true rfl)⟩ (Nat.le_of_ble_eq_true rfl) [0, 1] [] rfl rfl rfl rfl (by decide) [0, 1] rfl (ws2 := fun _ => [(a 31, oX9 a (hM 31)), (a 32, aI E 8 (hM 32))]) (fun _ => rfl) (fun _ => ?_)
    refine r.if_eq 128 (DX9_isHunterMove_0 52 rfl) rfl hxt (fun _ hxt => ?_) (fun _ hxt => ?_)
    · refine r.iconst (v := (0 : Int32)) (DX9_isHunterMove_1 11 rfl) rfl ?_
      cases hxt
      exact hret _ _ _ _ (DX9_isHunterMove_1 12 rfl) rfl ⟨(), rfl, rfl⟩
    refine r.iload_n 4 (DX9_isHunterMove_0 53 rfl) rfl ?_
    refine r.iload 0 (DX9_isHunterMove_0 54 rfl) rfl ?_
    refine r.icmp_eq 128 (DX9_isHunterMove_0 55 rfl) rfl hxt (fun _ hxt => ?_) (fun _ hxt => ?_)
    · refine r.iconst (v := (0 : Int32)) (DX9_isHunterMove_1 11 rfl) rfl ?_
      cases hxt
      exact hret _ _ _ _ (DX9_isHunterMove_1 12 rfl) rfl ⟨(), rfl, rfl⟩
    refine r.iload_n 3 (DX9_isHunterMove_0 56 rfl) rfl ?_
    refine r.iload_n 4 (DX9_isHunterMove_0 57 rfl) rfl ?_
    refine r.aload_n 2 (DX9_isHunterMove_0 58 rfl) rfl ?_
    refine r.get (v := .ref (a 32)) kX9 f_X9_7 rfl 0 rfl rfl (DX9_isHunterMove_0 59 rfl) ?_
    refine r.iconst (v := (1 : Int32)) (DX9_isHunterMove_1 0 rfl) rfl ?_
    obtain ⟨hin, hxt⟩ := xgd_some hxt
    refine r.iald 1 rfl hin (DX9_isHunterMove_1 1 rfl) ?_
    refine r.iconst (v := (1 : Int32)) (DX9_isHunterMove_1 2 rfl) rfl ?_
    refine r.icmp_ne 117 (DX9_isHunterMove_1 3 rfl) rfl hxt (fun _ hxt => ?_) (fun _ hxt => ?_)
    · refine r.iconst (v := (0 : Int32)) (DX9_isHunterMove_1 6 rfl) rfl ?_
      obtain ⟨o_11, ho_11, hxt⟩ := xbd hxt
      refine r.callSI0 (t_X9_isStep E x1 x2 (0 : Int32) ho_11) g_X9_95 rfl (DX9_isHunterMove_1 7 rfl) rfl ⟨(Nat.le_of_ble_eq_true rfl), (Nat.le_of_ble_eq_true rfl)⟩ (Nat.le_of_ble_eq_true rfl) ?_
      refine r.if_eq 128 (DX9_isHunterMove_1 8 rfl) rfl hxt (fun _ hxt => ?_) (fun _ hxt => ?_)
      · refine r.iconst (v := (0 : Int32)) (DX9_isHunterMove_1 11 rfl) rfl ?_
        cases hxt
        exact hret _ _ _ _ (DX9_isHunterMove_1 12 rfl) rfl ⟨(), rfl, rfl⟩
      refine r.iconst (v := (1 : Int32)) (DX9_isHunterMove_1 9 rfl) rfl ?_
      refine r.goto 129 (DX9_isHunterMove_1 10 rfl) rfl ?_
      cases hxt
      exact hret _ _ _ _ (DX9_isHunterMove_1 12 rfl) rfl ⟨(), rfl, rfl⟩
    refine r.iconst (v := (1 : Int32)) (DX9_isHunterMove_1 4 rfl) rfl ?_
    refine r.goto 118 (DX9_isHunterMove_1 5 rfl) rfl ?_
    obtain ⟨o_12, ho_12, hxt⟩ := xbd hxt
    refine r.callSI0 (t_X9_isStep E x1 x2 (1 : Int32) ho_12) g_X9_95 rfl (DX9_isHunterMove_1 7 rfl) rfl ⟨(Nat.le_of_ble_eq_true rfl), (Nat.le_of_ble_eq_true rfl)⟩ (Nat.le_of_ble_eq_true rfl) ?_
    refine r.if_eq 128 (DX9_isHunterMove_1 8 rfl) rfl hxt (fun _ hxt => ?_) (fun _ hxt => ?_)
    · refine r.iconst (v := (0 : Int32)) (DX9_isHunterMove_1 11 rfl) rfl ?_
      cases hxt
      exact hret _ _ _ _ (DX9_isHunterMove_1 12 rfl) rfl ⟨(), rfl, rfl⟩
    refine r.iconst (v := (1 : Int32)) (DX9_isHunterMove_1 9 rfl) rfl ?_
    refine r.goto 129 (DX9_isHunterMove_1 10 rfl) rfl ?_
    cases hxt
    exact hret _ _ _ _ (DX9_isHunterMove_1 12 rfl) rfl ⟨(), rfl, rfl⟩
  refine r.aload_n 2 (DX9_isHunterMove_0 39 rfl) rfl ?_
  refine r.get (v := .ref (a 32)) kX9 f_X9_7 rfl 0 rfl rfl (DX9_isHunterMove_0 40 rfl) ?_
  refine r.iconst (v := (2 : Int32)) (DX9_isHunterMove_0 41 rfl) rfl ?_
  obtain ⟨hin, hxt⟩ := xgd_some hxt
  refine r.iald 1 rfl hin (DX9_isHunterMove_0 42 rfl) ?_
  refine r.iconst (v := (1 : Int32)) (DX9_isHunterMove_0 43 rfl) rfl ?_
  refine r.icmp_ne 83 (DX9_isHunterMove_0 44 rfl) rfl hxt (fun _ hxt => ?_) (fun _ hxt => ?_)
  · refine r.iconst (v := (0 : Int32)) (DX9_isHunterMove_0 47 rfl) rfl ?_
    refine r.goto 129 (DX9_isHunterMove_0 48 rfl) rfl ?_
    cases hxt
    exact hret _ _ _ _ (DX9_isHunterMove_1 12 rfl) rfl ⟨(), rfl, rfl⟩
  refine r.iconst (v := (1 : Int32)) (DX9_isHunterMove_0 45 rfl) rfl ?_
  refine r.goto 129 (DX9_isHunterMove_0 46 rfl) rfl ?_
  cases hxt
  exact hret _ _ _ _ (DX9_isHunterMove_1 12 rfl) rfl ⟨(), rfl, rfl⟩
