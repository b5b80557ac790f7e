set_option maxRecDepth 100000 in
set_option maxHeartbeats 4000000 in
theorem l_X9_line_48 (E : xE) (a : Nat → Nat) (x1 : Int32) (x2 : Int32) (x3 : Int32) (x4 : Int32) (x5 : Int32) (hM : Mem) {V : xVT} (r : Rl E RX9 cX9_line (xR 12 0 0) 8 false V) {o : Int32 × Mem} {k : Int32 → Mem → Option (Int32 × Mem)} (hk : ∀ (v6 : Int32) (mM : Mem), k v6 mM = some o → V 0 0 80 [(0, .ref (a 31)), (1, .int x1), (2, .int x2), (3, .int x3), (4, .int x4), (5, .int x5), (6, .int v6)] [] [(a 31, oX9 a (mM 31)), (a 32, aI E 8 (mM 32)), (a 36, aI E 120 (hM 36)), (a 37, aI E 120 (hM 37)), (a 38, aI E 4096 (mM 38)), (a 39, aI E 4096 (mM 39)), (a 40, aI E 4096 (mM 40)), (a 41, aI E 128 (mM 41)), (a 42, aI E 98 (mM 42)), (a 43, aI E 202 (mM 43)), (a 44, aI E 4 (mM 44))]) : ∀ (n : Nat) (v6 : Int32) (mM : Mem), xt_X9_line_l48 x1 x2 x3 x4 x5 hM k n v6 mM = some o → V 0 0 48 [(0, .ref (a 31)), (1, .int x1), (2, .int x2), (3, .int x3), (4, .int x4), (5, .int x5), (6, .int v6)] [] [(a 31, oX9 a (mM 31)), (a 32, aI E 8 (mM 32)), (a 36, aI E 120 (hM 36)), (a 37, aI E 120 (hM 37)), (a 38, aI E 4096 (mM 38)), (a 39, aI E 4096 (mM 39)), (a 40, aI E 4096 (mM 40)), (a 41, aI E 128 (mM 41)), (a 42, aI E 98 (mM 42)), (a 43, aI E 202 (mM 43)), (a 44, aI E 4 (mM 44))] := by
  intro n
  induction n with
  | zero => intro v6 mM hxt; exact xno hxt
  | succ n ih =>
    intro v6 mM hxt
    rw [xt_X9_line_l48] at hxt
    refine r.iload 6 (DX9_line_0 29 rfl) rfl ?_
    refine r.iload_n 1 (DX9_line_0 30 rfl) rfl ?_
    refine r.icmp_ge 80 (DX9_line_0 31 rfl) rfl hxt (fun _ hxt => ?_) (fun _ hxt => ?_)
    · exact hk v6 (mgs hM [31, 32, 38, 39, 40, 41, 42, 43, 44] mM) hxt
    refine r.aload_n 0 (DX9_line_0 32 rfl) rfl ?_
    obtain ⟨o_2, ho_2, hxt⟩ := xbd hxt
    refine r.callVI 0 rfl rfl (t_X9_findBest E a (mgs hM [31, 32, 38, 39, 40, 41, 42, 43, 44] mM) ho_2) g_X9_214 rfl (DX9_line_0 33 rfl) rfl ⟨(Nat.le_of_ble_eq_true rfl), (Nat.le_of_ble_eq_true rfl)⟩ ⟨(Nat.le_of_ble_eq_true rfl), (Nat.le_of_ble_eq_true rfl)⟩ (Nat.le_of_ble_eq_true rfl) [0, 1, 2, 3, 4, 5, 6, 7, 8, 9, 10] [] rfl rfl rfl rfl (by decide) [0, 1, 2, 3, 4, 5, 6, 7, 8, 9, 10] rfl (ws2 := fun _ => [(a 31, oX9 a (o_2.2 31)), (a 32, aI E 8 (mM 32)), (a 36, aI E 120 (hM 36)), (a 37, aI E 120 (hM 37)), (a 38, aI E 4096 (o_2.2 38)), (a 39, aI E 4096 (o_2.2 39)), (a 40, aI E 4096 (o_2.2 40)), (a 41, aI E 128 (o_2.2 41)), (a 42, aI E 98 (o_2.2 42)), (a 43, aI E 202 (o_2.2 43)), (a 44, aI E 4 (o_2.2 44))]) (fun _ => rfl) (fun _ => ?_)
    refine r.if_eq 80 (DX9_line_0 34 rfl) rfl hxt (fun _ hxt => ?_) (fun _ hxt => ?_)
    · exact hk v6 (mgs (mgs hM [31, 38, 39, 40, 41, 42, 43, 44] o_2.2) [32] mM) hxt
    refine r.aload_n 0 (DX9_line_0 35 rfl) rfl ?_
    refine r.aload_n 0 (DX9_line_0 36 rfl) rfl ?_
    refine r.get (v := .int ((o_2.2 31) 17)) kX9 f_X9_180 rfl 0 rfl rfl (DX9_line_0 37 rfl) ?_
    refine r.aload_n 0 (DX9_line_0 38 rfl) rfl ?_
    refine r.get (v := .int ((o_2.2 31) 18)) kX9 f_X9_183 rfl 0 rfl rfl (DX9_line_0 39 rfl) ?_
    obtain ⟨o_3, ho_3, hxt⟩ := xbd hxt
    refine r.callVI 0 rfl rfl (t_X9_make E a ((o_2.2 31) 17) ((o_2.2 31) 18) (mgs (mgs hM [31, 38, 39, 40, 41, 42, 43, 44] o_2.2) [32] mM) ho_3) g_X9_211 rfl (DX9_line_0 40 rfl) rfl ⟨(Nat.le_of_ble_eq_true rfl), (Nat.le_of_ble_eq_true rfl)⟩ ⟨(Nat.le_of_ble_eq_true rfl), (Nat.le_of_ble_eq_true rfl)⟩ (Nat.le_of_ble_eq_true rfl) [0, 1, 2, 3, 4, 5, 6, 7, 8, 9, 10] [] rfl rfl rfl rfl (by decide) [0, 1, 2, 3, 4, 5, 6, 7, 8, 9, 10] rfl (ws2 := fun _ => [(a 31, oX9 a (o_3.2 31)), (a 32, aI E 8 (o_3.2 32)), (a 36, aI E 120 (hM 36)), (a 37, aI E 120 (hM 37)), (a 38, aI E 4096 (o_3.2 38)), (a 39, aI E 4096 (o_3.2 39)), (a 40, aI E 4096 (o_3.2 40)), (a 41, aI E 128 (o_3.2 41)), (a 42, aI E 98 (o_3.2 42)), (a 43, aI E 202 (o_3.2 43)), (a 44, aI E 4 (o_3.2 44))]) (fun _ => rfl) (fun _ => ?_)
    refine r.pop (DX9_line_0 41 rfl) rfl ?_
    refine r.iinc (v := (v6 + (1 : Int32))) (lo' := [(6, .int (v6 + (1 : Int32))), (0, .ref (a 31)), (1, .int x1), (2, .int x2), (3, .int x3), (4, .int x4), (5, .int x5)]) 6 (DX9_line_0 42 rfl) rfl rfl (Nat.le_of_ble_eq_true rfl) rfl ?_
    refine r.goto 48 (DX9_line_0 43 rfl) rfl ?_
    refine r.rel (lo' := [(0, .ref (a 31)), (1, .int x1), (2, .int x2), (3, .int x3), (4, .int x4), (5, .int x5), (6, .int (v6 + (1 : Int32)))]) [1, 2, 3, 4, 5, 6, 0] rfl ?_
    exact ih (v6 + (1 : Int32)) (mgs hM [31, 32, 38, 39, 40, 41, 42, 43, 44] o_3.2) hxt
set_option maxRecDepth 100000 in
set_option maxHeartbeats 4000000 in
theorem t_X9_line (E : xE) (a : Nat → Nat) (x1 : Int32) (hM : Mem) {o : Int32 × Mem} (hxt : xt_X9_line x1 hM = some o) : xMI (S := Unit) E yX9_line cX9_line 8 .int 12 0 0 [.ref (a 31), .int x1] [(a 31, oX9 a (hM 31)), (a 32, aI E 8 (hM 32)), (a 36, aI E 120 (hM 36)), (a 37, aI E 120 (hM 37)), (a 38, aI E 4096 (hM 38)), (a 39, aI E 4096 (hM 39)), (a 40, aI E 4096 (hM 40)), (a 41, aI E 128 (hM 41)), (a 42, aI E 98 (hM 42)), (a 43, aI E 202 (hM 43)), (a 44, aI E 4 (hM 44))] (fun _ => o.1) (fun _ => [(a 31, oX9 a (o.2 31)), (a 32, aI E 8 (o.2 32)), (a 36, aI E 120 (hM 36)), (a 37, aI E 120 (hM 37)), (a 38, aI E 4096 (o.2 38)), (a 39, aI E 4096 (o.2 39)), (a 40, aI E 4096 (o.2 40)), (a 41, aI E 128 (o.2 41)), (a 42, aI E 98 (o.2 42)), (a 43, aI E 202 (o.2 43)), (a 44, aI E 4 (o.2 44))]) := by
  refine xMI.of (own := RX9) (lo0 := [(0, .ref (a 31)), (1, .int x1)]) (by decide +kernel) rfl rfl (Nat.le_of_ble_eq_true rfl) (fun V r hret => ?_)
  unfold xt_X9_line at hxt
  refine r.iload_n 1 (DX9_line_0 0 rfl) rfl ?_
  refine r.iconst (v := (1 : Int32)) (DX9_line_0 1 rfl) rfl ?_
  refine r.bipush (v := (60 : Int32)) (DX9_line_0 2 rfl) rfl ?_
  obtain ⟨o_1, ho_1, hxt⟩ := xbd hxt
  refine r.callSI0 (t_X9_in E x1 (1 : Int32) (60 : Int32) ho_1) g_X9_53 rfl (DX9_line_0 3 rfl) rfl ⟨(Nat.le_of_ble_eq_true rfl), (Nat.le_of_ble_eq_true rfl)⟩ (Nat.le_of_ble_eq_true rfl) ?_
  refine r.if_ne 13 (DX9_line_0 4 rfl) rfl hxt (fun _ hxt => ?_) (fun _ hxt => ?_)
  · refine r.aload_n 0 (DX9_line_0 7 rfl) rfl ?_
    refine r.get (v := .ref (a 32)) kX9 f_X9_7 rfl 0 rfl rfl (DX9_line_0 8 rfl) ?_
    refine r.iconst (v := (4 : Int32)) (DX9_line_0 9 rfl) rfl ?_
    obtain ⟨hin, hxt⟩ := xgd_some hxt
    refine r.iald 1 rfl hin (DX9_line_0 10 rfl) ?_
    refine r.istore_n (lo' := [(2, .int ((hM 32) (4 : Int32).toNatClampNeg)), (0, .ref (a 31)), (1, .int x1)]) (DX9_line_0 11 rfl) (Nat.le_of_ble_eq_true rfl) rfl ?_
    refine r.aload_n 1 (DX9_line_0 12 rfl) rfl ?_
    refine r.get (v := .ref (a 32)) kX9 f_X9_7 rfl 0 rfl rfl (DX9_line_0 13 rfl) ?_
    refine r.iconst (v := (5 : Int32)) (DX9_line_0 14 rfl) rfl ?_
    obtain ⟨hin, hxt⟩ := xgd_some hxt
    refine r.iald 1 rfl hin (DX9_line_0 15 rfl) ?_
    refine r.istore_n (lo' := [(3, .int ((hM 32) (5 : Int32).toNatClampNeg)), (2, .int ((hM 32) (4 : Int32).toNatClampNeg)), (0, .ref (a 31)), (1, .int x1)]) (DX9_line_0 16 rfl) (Nat.le_of_ble_eq_true rfl) rfl ?_
    refine r.aload_n 2 (DX9_line_0 17 rfl) rfl ?_
    refine r.get (v := .ref (a 32)) kX9 f_X9_7 rfl 0 rfl rfl (DX9_line_0 18 rfl) ?_
    refine r.bipush (v := (6 : Int32)) (DX9_line_0 19 rfl) rfl ?_
    obtain ⟨hin, hxt⟩ := xgd_some hxt
    refine r.iald 1 rfl hin (DX9_line_0 20 rfl) ?_
    refine r.istore (lo' := [(4, .int ((hM 32) (6 : Int32).toNatClampNeg)), (3, .int ((hM 32) (5 : Int32).toNatClampNeg)), (2, .int ((hM 32) (4 : Int32).toNatClampNeg)), (0, .ref (a 31)), (1, .int x1)]) (DX9_line_0 21 rfl) (Nat.le_of_ble_eq_true rfl) rfl ?_
    refine r.aload_n 3 (DX9_line_0 22 rfl) rfl ?_
    refine r.get (v := .ref (a 32)) kX9 f_X9_7 rfl 0 rfl rfl (DX9_line_0 23 rfl) ?_
    refine r.bipush (v := (7 : Int32)) (DX9_line_0 24 rfl) rfl ?_
    obtain ⟨hin, hxt⟩ := xgd_some hxt
    refine r.iald 1 rfl hin (DX9_line_0 25 rfl) ?_
    refine r.istore (lo' := [(5, .int ((hM 32) (7 : Int32).toNatClampNeg)), (4, .int ((hM 32) (6 : Int32).toNatClampNeg)), (3, .int ((hM 32) (5 : Int32).toNatClampNeg)), (2, .int ((hM 32) (4 : Int32).toNatClampNeg)), (0, .ref (a 31)), (1, .int x1)]) (DX9_line_0 26 rfl) (Nat.le_of_ble_eq_true rfl) rfl ?_
    refine r.iconst (v := (0 : Int32)) (DX9_line_0 27 rfl) rfl ?_
    refine r.istore (lo' := [(6, .int (0 : Int32)), (5, .int ((hM 32) (7 : Int32).toNatClampNeg)), (4, .int ((hM 32) (6 : Int32).toNatClampNeg)), (3, .int ((hM 32) (5 : Int32).toNatClampNeg)), (2, .int ((hM 32) (4 : Int32).toNatClampNeg)), (0, .ref (a 31)), (1, .int x1)]) (DX9_line_0 28 rfl) (Nat.le_of_ble_eq_true rfl) rfl ?_
    refine r.rel (lo' := [(0, .ref (a 31)), (1, .int x1), (2, .int ((hM 32) (4 : Int32).toNatClampNeg)), (3, .int ((hM 32) (5 : Int32).toNatClampNeg)), (4, .int ((hM 32) (6 : Int32).toNatClampNeg)), (5, .int ((hM 32) (7 : Int32).toNatClampNeg)), (6, .int (0 : Int32))]) [5, 6, 4, 3, 2, 1, 0] rfl ?_
    refine l_X9_line_48 E a x1 ((hM 32) (4 : Int32).toNatClampNeg) ((hM 32) (5 : Int32).toNatClampNeg) ((hM 32) (6 : Int32).toNatClampNeg) ((hM 32) (7 : Int32).toNatClampNeg) hM r (fun v6_4 m_5 hxt => ?_) 10000 (0 : Int32) hM hxt
    refine r.iload 6 (DX9_line_0 44 rfl) rfl ?_
    refine r.iload_n 1 (DX9_line_0 45 rfl) rfl ?_
    refine r.icmp_lt 93 (DX9_line_0 46 rfl) rfl hxt (fun _ hxt => ?_) (fun _ hxt => ?_)
    · refine r.bipush (v := (-6 : Int32)) (DX9_line_0 50 rfl) rfl ?_
      refine r.goto 102 (DX9_line_0 51 rfl) rfl ?_
      refine r.istore (lo' := [(7, .int (-6 : Int32)), (0, .ref (a 31)), (1, .int x1), (2, .int ((hM 32) (4 : Int32).toNatClampNeg)), (3, .int ((hM 32) (5 : Int32).toNatClampNeg)), (4, .int ((hM 32) (6 : Int32).toNatClampNeg)), (5, .int ((hM 32) (7 : Int32).toNatClampNeg)), (6, .int v6_4)]) (DX9_line_0 54 rfl) (Nat.le_of_ble_eq_true rfl) rfl ?_
      refine r.aload_n 1 (DX9_line_0 55 rfl) rfl ?_
      refine r.iload_n 3 (DX9_line_0 56 rfl) rfl ?_
      refine r.iload_n 4 (DX9_line_0 57 rfl) rfl ?_
      refine r.iload 5 (DX9_line_0 58 rfl) rfl ?_
      refine r.iload 6 (DX9_line_0 59 rfl) rfl ?_
      obtain ⟨o_6, ho_6, hxt⟩ := xbd hxt
      refine r.callVV 0 rfl rfl (t_X9_lay E a ((hM 32) (4 : Int32).toNatClampNeg) ((hM 32) (5 : Int32).toNatClampNeg) ((hM 32) (6 : Int32).toNatClampNeg) ((hM 32) (7 : Int32).toNatClampNeg) (mgs hM [31, 32] m_5) ho_6) g_X9_204 rfl (DX9_line_1 0 rfl) rfl ⟨(Nat.le_of_ble_eq_true rfl), (Nat.le_of_ble_eq_true rfl)⟩ ⟨(Nat.le_of_ble_eq_true rfl), (Nat.le_of_ble_eq_true rfl)⟩ (Nat.le_of_ble_eq_true rfl) [0, 1] [2, 3, 4, 5, 6, 7, 8, 9, 10] rfl rfl rfl rfl (by decide) [9, 10, 0, 1, 2, 3, 4, 5, 6, 7, 8] rfl (ws2 := fun _ => [(a 31, oX9 a (m_5 31)), (a 32, aI E 8 (o_6 32)), (a 36, aI E 120 (hM 36)), (a 37, aI E 120 (hM 37)), (a 38, aI E 4096 (m_5 38)), (a 39, aI E 4096 (m_5 39)), (a 40, aI E 4096 (m_5 40)), (a 41, aI E 128 (m_5 41)), (a 42, aI E 98 (m_5 42)), (a 43, aI E 202 (m_5 43)), (a 44, aI E 4 (m_5 44))]) (fun _ => rfl) (fun _ => ?_)
      refine r.iload 0 (DX9_line_1 1 rfl) rfl ?_
      cases hxt
      exact hret _ _ _ _ (DX9_line_1 2 rfl) rfl ⟨(), rfl, rfl⟩
    refine r.aload_n 0 (DX9_line_0 47 rfl) rfl ?_
    obtain ⟨o_7, ho_7, hxt⟩ := xbd hxt
    refine r.callVI 0 rfl rfl (t_X9_isCaught E a (mgs hM [31, 32, 38, 39, 40, 41, 42, 43, 44] m_5) ho_7) g_X9_171 rfl (DX9_line_0 48 rfl) rfl ⟨(Nat.le_of_ble_eq_true rfl), (Nat.le_of_ble_eq_true rfl)⟩ ⟨(Nat.le_of_ble_eq_true rfl), (Nat.le_of_ble_eq_true rfl)⟩ (Nat.le_of_ble_eq_true rfl) [0, 1, 2, 3, 4, 5, 6, 7, 8, 9, 10] [] rfl rfl rfl rfl (by decide) [0, 1, 2, 3, 4, 5, 6, 7, 8, 9, 10] rfl (ws2 := fun _ => [(a 31, oX9 a (o_7.2 31)), (a 32, aI E 8 (m_5 32)), (a 36, aI E 120 (hM 36)), (a 37, aI E 120 (hM 37)), (a 38, aI E 4096 (o_7.2 38)), (a 39, aI E 4096 (o_7.2 39)), (a 40, aI E 4096 (o_7.2 40)), (a 41, aI E 128 (o_7.2 41)), (a 42, aI E 98 (o_7.2 42)), (a 43, aI E 202 (o_7.2 43)), (a 44, aI E 4 (o_7.2 44))]) (fun _ => rfl) (fun _ => ?_)
    refine r.if_eq 98 (DX9_line_0 49 rfl) rfl hxt (fun _ hxt => ?_) (fun _ hxt => ?_)
    · refine r.aload_n 0 (DX9_line_0 52 rfl) rfl ?_
      obtain ⟨o_8, ho_8, hxt⟩ := xbd hxt
      refine r.callVI 0 rfl rfl (t_X9_numberNow E a (mgs (mgs hM [31] o_7.2) [32] m_5) ho_8) g_X9_167 rfl (DX9_line_0 53 rfl) rfl ⟨(Nat.le_of_ble_eq_true rfl), (Nat.le_of_ble_eq_true rfl)⟩ ⟨(Nat.le_of_ble_eq_true rfl), (Nat.le_of_ble_eq_true rfl)⟩ (Nat.le_of_ble_eq_true rfl) [0, 1] [2, 3, 4, 5, 6, 7, 8, 9, 10] rfl rfl rfl rfl (by decide) [9, 10, 0, 1, 2, 3, 4, 5, 6, 7, 8] rfl (ws2 := fun _ => [(a 31, oX9 a (o_7.2 31)), (a 32, aI E 8 (m_5 32)), (a 36, aI E 120 (hM 36)), (a 37, aI E 120 (hM 37)), (a 38, aI E 4096 (o_7.2 38)), (a 39, aI E 4096 (o_7.2 39)), (a 40, aI E 4096 (o_7.2 40)), (a 41, aI E 128 (o_7.2 41)), (a 42, aI E 98 (o_7.2 42)), (a 43, aI E 202 (o_7.2 43)), (a 44, aI E 4 (o_7.2 44))]) (fun _ => rfl) (fun _ => ?_)
      refine r.istore (lo' := [(7, .int o_8), (0, .ref (a 31)), (1, .int x1), (2, .int ((hM 32) (4 : Int32).toNatClampNeg)), (3, .int ((hM 32) (5 : Int32).toNatClampNeg)), (4, .int ((hM 32) (6 : Int32).toNatClampNeg)), (5, .int ((hM 32) (7 : Int32).toNatClampNeg)), (6, .int v6_4)]) (DX9_line_0 54 rfl) (Nat.le_of_ble_eq_true rfl) rfl ?_
      refine r.aload_n 1 (DX9_line_0 55 rfl) rfl ?_
      refine r.iload_n 3 (DX9_line_0 56 rfl) rfl ?_
      refine r.iload_n 4 (DX9_line_0 57 rfl) rfl ?_
      refine r.iload 5 (DX9_line_0 58 rfl) rfl ?_
      refine r.iload 6 (DX9_line_0 59 rfl) rfl ?_
      obtain ⟨o_9, ho_9, hxt⟩ := xbd hxt
      refine r.callVV 0 rfl rfl (t_X9_lay E a ((hM 32) (4 : Int32).toNatClampNeg) ((hM 32) (5 : Int32).toNatClampNeg) ((hM 32) (6 : Int32).toNatClampNeg) ((hM 32) (7 : Int32).toNatClampNeg) (mgs (mgs hM [31] o_7.2) [32] m_5) ho_9) g_X9_204 rfl (DX9_line_1 0 rfl) rfl ⟨(Nat.le_of_ble_eq_true rfl), (Nat.le_of_ble_eq_true rfl)⟩ ⟨(Nat.le_of_ble_eq_true rfl), (Nat.le_of_ble_eq_true rfl)⟩ (Nat.le_of_ble_eq_true rfl) [0, 1] [2, 3, 4, 5, 6, 7, 8, 9, 10] rfl rfl rfl rfl (by decide) [9, 10, 0, 1, 2, 3, 4, 5, 6, 7, 8] rfl (ws2 := fun _ => [(a 31, oX9 a (o_7.2 31)), (a 32, aI E 8 (o_9 32)), (a 36, aI E 120 (hM 36)), (a 37, aI E 120 (hM 37)), (a 38, aI E 4096 (o_7.2 38)), (a 39, aI E 4096 (o_7.2 39)), (a 40, aI E 4096 (o_7.2 40)), (a 41, aI E 128 (o_7.2 41)), (a 42, aI E 98 (o_7.2 42)), (a 43, aI E 202 (o_7.2 43)), (a 44, aI E 4 (o_7.2 44))]) (fun _ => rfl) (fun _ => ?_)
      refine r.iload 0 (DX9_line_1 1 rfl) rfl ?_
      cases hxt
      exact hret _ _ _ _ (DX9_line_1 2 rfl) rfl ⟨(), rfl, rfl⟩
    refine r.bipush (v := (-6 : Int32)) (DX9_line_0 50 rfl) rfl ?_
    refine r.goto 102 (DX9_line_0 51 rfl) rfl ?_
    refine r.istore (lo' := [(7, .int (-6 : Int32)), (0, .ref (a 31)), (1, .int x1), (2, .int ((hM 32) (4 : Int32).toNatClampNeg)), (3, .int ((hM 32) (5 : Int32).toNatClampNeg)), (4, .int ((hM 32) (6 : Int32).toNatClampNeg)), (5, .int ((hM 32) (7 : Int32).toNatClampNeg)), (6, .int v6_4)]) (DX9_line_0 54 rfl) (Nat.le_of_ble_eq_true rfl) rfl ?_
    refine r.aload_n 1 (DX9_line_0 55 rfl) rfl ?_
    refine r.iload_n 3 (DX9_line_0 56 rfl) rfl ?_
    refine r.iload_n 4 (DX9_line_0 57 rfl) rfl ?_
    refine r.iload 5 (DX9_line_0 58 rfl) rfl ?_
    refine r.iload 6 (DX9_line_0 59 rfl) rfl ?_
    obtain ⟨o_10, ho_10, hxt⟩ := xbd hxt
    refine r.callVV 0 rfl rfl (t_X9_lay E a ((hM 32) (4 : Int32).toNatClampNeg) ((hM 32) (5 : Int32).toNatClampNeg) ((hM 32) (6 : Int32).toNatClampNeg) ((hM 32) (7 : Int32).toNatClampNeg) (mgs (mgs hM [31] o_7.2) [32] m_5) ho_10) g_X9_204 rfl (DX9_line_1 0 rfl) rfl ⟨(Nat.le_of_ble_eq_true rfl), (Nat.le_of_ble_eq_true rfl)⟩ ⟨(Nat.le_of_ble_eq_true rfl), (Nat.le_of_ble_eq_true rfl)⟩ (Nat.le_of_ble_eq_true rfl) [0, 1] [2, 3, 4, 5, 6, 7, 8, 9, 10] rfl rfl rfl rfl (by decide) [9, 10, 0, 1, 2, 3, 4, 5, 6, 7, 8] rfl (ws2 := fun _ => [(a 31, oX9 a (o_7.2 31)), (a 32, aI E 8 (o_10 32)), (a 36, aI E 120 (hM 36)), (a 37, aI E 120 (hM 37)), (a 38, aI E 4096 (o_7.2 38)), (a 39, aI E 4096 (o_7.2 39)), (a 40, aI E 4096 (o_7.2 40)), (a 41, aI E 128 (o_7.2 41)), (a 42, aI E 98 (o_7.2 42)), (a 43, aI E 202 (o_7.2 43)), (a 44, aI E 4 (o_7.2 44))]) (fun _ => rfl) (fun _ => ?_)
    refine r.iload 0 (DX9_line_1 1 rfl) rfl ?_
    cases hxt
    exact hret _ _ _ _ (DX9_line_1 2 rfl) rfl ⟨(), rfl, rfl⟩
  refine r.bipush (v := (-2 : Int32)) (DX9_line_0 5 rfl) rfl ?_
  cases hxt
  exact hret _ _ _ _ (DX9_line_0 6 rfl) rfl ⟨(), rfl, rfl⟩
set_option maxRecDepth 100000 in
set_option maxHeartbeats 4000000 in
theorem l_X9_positions_4 (E : xE) (a : Nat → Nat) (x1 : Int32) (hM : Mem) {V : xVT} (r : Rl E RX9 cX9_positions (xR 0 0 0) 4 false V) {o : Int32} {k : Int32 → Option (Int32)} (hk : ∀ (v2 : Int32), k v2 = some o → V 0 0 56 [(2, .int v2)] [] [(a 31, oX9 a (hM 31)), (a 39, aI E 4096 (hM 39))]) : ∀ (n : Nat) (v2 : Int32) (v3 : Int32), xt_X9_positions_l4 x1 hM k n v2 v3 = some o → V 0 0 4 [(0, .ref (a 31)), (1, .int x1), (2, .int v2), (3, .int v3)] [] [(a 31, oX9 a (hM 31)), (a 39, aI E 4096 (hM 39))] := by
  intro n
  induction n with
  | zero => intro v2 v3 hxt; exact xno hxt
  | succ n ih =>
    intro v2 v3 hxt
    rw [xt_X9_positions_l4] at hxt
    refine r.iload_n 3 (DX9_positions 4 rfl) rfl ?_
    refine r.sipush (v := (4096 : Int32)) (DX9_positions 5 rfl) rfl ?_
    refine r.icmp_ge 56 (DX9_positions 6 rfl) rfl hxt (fun _ hxt => ?_) (fun _ hxt => ?_)
    · refine r.rel (lo' := [(2, .int v2)]) [2] rfl ?_
      exact hk v2 hxt
    refine r.iload_n 2 (DX9_positions 7 rfl) rfl ?_
    refine r.iload_n 1 (DX9_positions 8 rfl) rfl ?_
    refine r.if_eq 34 (DX9_positions 9 rfl) rfl hxt (fun _ hxt => ?_) (fun _ hxt => ?_)
    · refine r.aload_n 0 (DX9_positions 20 rfl) rfl ?_
      refine r.get (v := .ref (a 39)) kX9 f_X9_32 rfl 0 rfl rfl (DX9_positions 21 rfl) ?_
      refine r.iload_n 3 (DX9_positions 22 rfl) rfl ?_
      obtain ⟨hin, hxt⟩ := xgd_some hxt
      refine r.iald 1 rfl hin (DX9_positions 23 rfl) ?_
      refine r.if_lt 47 (DX9_positions 24 rfl) rfl hxt (fun _ hxt => ?_) (fun _ hxt => ?_)
      · refine r.iconst (v := (0 : Int32)) (DX9_positions 27 rfl) rfl ?_
        refine r.iadd (DX9_positions 28 rfl) ?_
        refine r.istore_n (lo' := [(2, .int (v2 + (0 : Int32))), (0, .ref (a 31)), (1, .int x1), (3, .int v3)]) (DX9_positions 29 rfl) (Nat.le_of_ble_eq_true rfl) rfl ?_
        refine r.iinc (v := (v3 + (1 : Int32))) (lo' := [(3, .int (v3 + (1 : Int32))), (2, .int (v2 + (0 : Int32))), (0, .ref (a 31)), (1, .int x1)]) 3 (DX9_positions 30 rfl) rfl rfl (Nat.le_of_ble_eq_true rfl) rfl ?_
        refine r.goto 4 (DX9_positions 31 rfl) rfl ?_
        refine r.rel (lo' := [(0, .ref (a 31)), (1, .int x1), (2, .int (v2 + (0 : Int32))), (3, .int (v3 + (1 : Int32)))]) [2, 3, 1, 0] rfl ?_
        exact ih (v2 + (0 : Int32)) (v3 + (1 : Int32)) hxt
      refine r.iconst (v := (1 : Int32)) (DX9_positions 25 rfl) rfl ?_
      refine r.goto 48 (DX9_positions 26 rfl) rfl ?_
      refine r.iadd (DX9_positions 28 rfl) ?_
      refine r.istore_n (lo' := [(2, .int (v2 + (1 : Int32))), (0, .ref (a 31)), (1, .int x1), (3, .int v3)]) (DX9_positions 29 rfl) (Nat.le_of_ble_eq_true rfl) rfl ?_
      refine r.iinc (v := (v3 + (1 : Int32))) (lo' := [(3, .int (v3 + (1 : Int32))), (2, .int (v2 + (1 : Int32))), (0, .ref (a 31)), (1, .int x1)]) 3 (DX9_positions 30 rfl) rfl rfl (Nat.le_of_ble_eq_true rfl) rfl ?_
      refine r.goto 4 (DX9_positions 31 rfl) rfl ?_
      refine r.rel (lo' := [(0, .ref (a 31)), (1, .int x1), (2, .int (v2 + (1 : Int32))), (3, .int (v3 + (1 : Int32)))]) [2, 3, 1, 0] rfl ?_
      exact ih (v2 + (1 : Int32)) (v3 + (1 : Int32)) hxt
    refine r.aload_n 0 (DX9_positions 10 rfl) rfl ?_
    refine r.get (v := .ref (a 39)) kX9 f_X9_32 rfl 0 rfl rfl (DX9_positions 11 rfl) ?_
    refine r.iload_n 3 (DX9_positions 12 rfl) rfl ?_
    obtain ⟨hin, hxt⟩ := xgd_some hxt
    refine r.iald 1 rfl hin (DX9_positions 13 rfl) ?_
    refine r.iload_n 3 (DX9_positions 14 rfl) rfl ?_
    refine r.icmp_ne 30 (DX9_positions 15 rfl) rfl hxt (fun _ hxt => ?_) (fun _ hxt => ?_)
    · refine r.iconst (v := (0 : Int32)) (DX9_positions 18 rfl) rfl ?_
      refine r.goto 48 (DX9_positions 19 rfl) rfl ?_
      refine r.iadd (DX9_positions 28 rfl) ?_
      refine r.istore_n (lo' := [(2, .int (v2 + (0 : Int32))), (0, .ref (a 31)), (1, .int x1), (3, .int v3)]) (DX9_positions 29 rfl) (Nat.le_of_ble_eq_true rfl) rfl ?_
      refine r.iinc (v := (v3 + (1 : Int32))) (lo' := [(3, .int (v3 + (1 : Int32))), (2, .int (v2 + (0 : Int32))), (0, .ref (a 31)), (1, .int x1)]) 3 (DX9_positions 30 rfl) rfl rfl (Nat.le_of_ble_eq_true rfl) rfl ?_
      refine r.goto 4 (DX9_positions 31 rfl) rfl ?_
      refine r.rel (lo' := [(0, .ref (a 31)), (1, .int x1), (2, .int (v2 + (0 : Int32))), (3, .int (v3 + (1 : Int32)))]) [2, 3, 1, 0] rfl ?_
      exact ih (v2 + (0 : Int32)) (v3 + (1 : Int32)) hxt
    refine r.iconst (v := (1 : Int32)) (DX9_positions 16 rfl) rfl ?_
    refine r.goto 48 (DX9_positions 17 rfl) rfl ?_
    refine r.iadd (DX9_positions 28 rfl) ?_
    refine r.istore_n (lo' := [(2, .int (v2 + (1 : Int32))), (0, .ref (a 31)), (1, .int x1), (3, .int v3)]) (DX9_positions 29 rfl) (Nat.le_of_ble_eq_true rfl) rfl ?_
    refine r.iinc (v := (v3 + (1 : Int32))) (lo' := [(3, .int (v3 + (1 : Int32))), (2, .int (v2 + (1 : Int32))), (0, .ref (a 31)), (1, .int x1)]) 3 (DX9_positions 30 rfl) rfl rfl (Nat.le_of_ble_eq_true rfl) rfl ?_
    refine r.goto 4 (DX9_positions 31 rfl) rfl ?_
    refine r.rel (lo' := [(0, .ref (a 31)), (1, .int x1), (2, .int (v2 + (1 : Int32))), (3, .int (v3 + (1 : Int32)))]) [2, 3, 1, 0] rfl ?_
    exact ih (v2 + (1 : Int32)) (v3 + (1 : Int32)) hxt
set_option maxRecDepth 100000 in
set_option maxHeartbeats 4000000 in
theorem t_X9_positions (E : xE) (a : Nat → Nat) (x1 : Int32) (hM : Mem) {o : Int32} (hxt : xt_X9_positions x1 hM = some o) : xMI (S := Unit) E yX9_positions cX9_positions 4 .int 0 0 0 [.ref (a 31), .int x1] [(a 31, oX9 a (hM 31)), (a 39, aI E 4096 (hM 39))] (fun _ => o) (fun _ => [(a 31, oX9 a (hM 31)), (a 39, aI E 4096 (hM 39))]) := by
  refine xMI.of (own := RX9) (lo0 := [(0, .ref (a 31)), (1, .int x1)]) (by decide +kernel) rfl rfl (Nat.le_of_ble_eq_true rfl) (fun V r hret => ?_)
  unfold xt_X9_positions at hxt
  refine r.iconst (v := (0 : Int32)) (DX9_positions 0 rfl) rfl ?_
  refine r.istore_n (lo' := [(2, .int (0 : Int32)), (0, .ref (a 31)), (1, .int x1)]) (DX9_positions 1 rfl) (Nat.le_of_ble_eq_true rfl) rfl ?_
  refine r.iconst (v := (0 : Int32)) (DX9_positions 2 rfl) rfl ?_
  refine r.istore_n (lo' := [(3, .int (0 : Int32)), (2, .int (0 : Int32)), (0, .ref (a 31)), (1, .int x1)]) (DX9_positions 3 rfl) (Nat.le_of_ble_eq_true rfl) rfl ?_
  refine r.rel (lo' := [(0, .ref (a 31)), (1, .int x1), (2, .int (0 : Int32)), (3, .int (0 : Int32))]) [2, 3, 1, 0] rfl ?_
  refine l_X9_positions_4 E a x1 hM r (fun v2_1 hxt => ?_) 10000 (0 : Int32) (0 : Int32) hxt
  refine r.iload_n 0 (DX9_positions 32 rfl) rfl ?_
  cases hxt
  exact hret _ _ _ _ (DX9_positions 33 rfl) rfl ⟨(), rfl, rfl⟩
set_option maxRecDepth 100000 in
set_option maxHeartbeats 4000000 in
theorem l_X9_greatest_5 (E : xE) (a : Nat → Nat) (hM : Mem) {V : xVT} (r : Rl E RX9 cX9_greatest (xR 1 0 0) 3 false V) {o : Int32} {k : Int32 → Option (Int32)} (hk : ∀ (v1 : Int32), k v1 = some o → V 0 0 29 [(1, .int v1)] [] [(a 31, oX9 a (hM 31)), (a 38, aI E 4096 (hM 38))]) : ∀ (n : Nat) (v1 : Int32) (v2 : Int32), xt_X9_greatest_l5 hM k n v1 v2 = some o → V 0 0 5 [(0, .ref (a 31)), (1, .int v1), (2, .int v2)] [] [(a 31, oX9 a (hM 31)), (a 38, aI E 4096 (hM 38))] := by
  intro n
  induction n with
  | zero => intro v1 v2 hxt; exact xno hxt
  | succ n ih =>
    intro v1 v2 hxt
    rw [xt_X9_greatest_l5] at hxt
    refine r.iload_n 2 (DX9_greatest 4 rfl) rfl ?_
    refine r.sipush (v := (4096 : Int32)) (DX9_greatest 5 rfl) rfl ?_
    refine r.icmp_ge 29 (DX9_greatest 6 rfl) rfl hxt (fun _ hxt => ?_) (fun _ hxt => ?_)
    · refine r.rel (lo' := [(1, .int v1)]) [1] rfl ?_
      exact hk v1 hxt
    refine r.iload_n 1 (DX9_greatest 7 rfl) rfl ?_
    refine r.aload_n 0 (DX9_greatest 8 rfl) rfl ?_
    refine r.get (v := .ref (a 38)) kX9 f_X9_29 rfl 0 rfl rfl (DX9_greatest 9 rfl) ?_
    refine r.iload_n 2 (DX9_greatest 10 rfl) rfl ?_
    obtain ⟨hin, hxt⟩ := xgd_some hxt
    refine r.iald 1 rfl hin (DX9_greatest 11 rfl) ?_
    obtain ⟨o_1, ho_1, hxt⟩ := xbd hxt
    refine r.callSI0 (t_X9_greater E v1 ((hM 38) v2.toNatClampNeg) ho_1) g_X9_85 rfl (DX9_greatest 12 rfl) rfl ⟨(Nat.le_of_ble_eq_true rfl), (Nat.le_of_ble_eq_true rfl)⟩ (Nat.le_of_ble_eq_true rfl) ?_
    refine r.istore_n (lo' := [(1, .int o_1), (0, .ref (a 31)), (2, .int v2)]) (DX9_greatest 13 rfl) (Nat.le_of_ble_eq_true rfl) rfl ?_
    refine r.iinc (v := (v2 + (1 : Int32))) (lo' := [(2, .int (v2 + (1 : Int32))), (1, .int o_1), (0, .ref (a 31))]) 2 (DX9_greatest 14 rfl) rfl rfl (Nat.le_of_ble_eq_true rfl) rfl ?_
    refine r.goto 5 (DX9_greatest 15 rfl) rfl ?_
    refine r.rel (lo' := [(0, .ref (a 31)), (1, .int o_1), (2, .int (v2 + (1 : Int32)))]) [2, 1, 0] rfl ?_
    exact ih o_1 (v2 + (1 : Int32)) hxt
set_option maxRecDepth 100000 in
set_option maxHeartbeats 4000000 in
theorem t_X9_greatest (E : xE) (a : Nat → Nat) (hM : Mem) {o : Int32} (hxt : xt_X9_greatest hM = some o) : xMI (S := Unit) E yX9_greatest cX9_greatest 3 .int 1 0 0 [.ref (a 31)] [(a 31, oX9 a (hM 31)), (a 38, aI E 4096 (hM 38))] (fun _ => o) (fun _ => [(a 31, oX9 a (hM 31)), (a 38, aI E 4096 (hM 38))]) := by
  refine xMI.of (own := RX9) (lo0 := [(0, .ref (a 31))]) (by decide +kernel) rfl rfl (Nat.le_of_ble_eq_true rfl) (fun V r hret => ?_)
  unfold xt_X9_greatest at hxt
  refine r.bipush (v := (-6 : Int32)) (DX9_greatest 0 rfl) rfl ?_
  refine r.istore_n (lo' := [(1, .int (-6 : Int32)), (0, .ref (a 31))]) (DX9_greatest 1 rfl) (Nat.le_of_ble_eq_true rfl) rfl ?_
  refine r.iconst (v := (0 : Int32)) (DX9_greatest 2 rfl) rfl ?_
  refine r.istore_n (lo' := [(2, .int (0 : Int32)), (1, .int (-6 : Int32)), (0, .ref (a 31))]) (DX9_greatest 3 rfl) (Nat.le_of_ble_eq_true rfl) rfl ?_
  refine r.rel (lo' := [(0, .ref (a 31)), (1, .int (-6 : Int32)), (2, .int (0 : Int32))]) [2, 1, 0] rfl ?_
  refine l_X9_greatest_5 E a hM r (fun v1_2 hxt => ?_) 10000 (-6 : Int32) (0 : Int32) hxt
  refine r.iload_n 0 (DX9_greatest 16 rfl) rfl ?_
  cases hxt
  exact hret _ _ _ _ (DX9_greatest 17 rfl) rfl ⟨(), rfl, rfl⟩
set_option maxRecDepth 100000 in
set_option maxHeartbeats 4000000 in
theorem l_X9_lowestWith_2 (E : xE) (a : Nat → Nat) (x1 : Int32) (hM : Mem) {V : xVT} (r : Rl E RX9 cX9_lowestWith (xR 0 0 0) 3 false V) {o : Int32} {k : Int32 → Option (Int32)} (hk : ∀ (v2 : Int32), k v2 = some o → V 0 0 22 [(1, .int x1), (2, .int v2)] [] [(a 31, oX9 a (hM 31)), (a 38, aI E 4096 (hM 38))]) : ∀ (n : Nat) (v2 : Int32), xt_X9_lowestWith_l2 x1 hM k n v2 = some o → V 0 0 2 [(0, .ref (a 31)), (1, .int x1), (2, .int v2)] [] [(a 31, oX9 a (hM 31)), (a 38, aI E 4096 (hM 38))] := by
  intro n
  induction n with
  | zero => intro v2 hxt; exact xno hxt
  | succ n ih =>
    intro v2 hxt
    rw [xt_X9_lowestWith_l2] at hxt
    refine r.iload_n 1 (DX9_lowestWith 2 rfl) rfl ?_
    refine r.if_lt 22 (DX9_lowestWith 3 rfl) rfl hxt (fun _ hxt => ?_) (fun _ hxt => ?_)
    · refine r.rel (lo' := [(1, .int x1), (2, .int v2)]) [1, 2] rfl ?_
      exact hk v2 hxt
    refine r.aload_n 0 (DX9_lowestWith 4 rfl) rfl ?_
    refine r.get (v := .ref (a 38)) kX9 f_X9_29 rfl 0 rfl rfl (DX9_lowestWith 5 rfl) ?_
    refine r.iload_n 2 (DX9_lowestWith 6 rfl) rfl ?_
    obtain ⟨hin, hxt⟩ := xgd_some hxt
    refine r.iald 1 rfl hin (DX9_lowestWith 7 rfl) ?_
    refine r.iload_n 1 (DX9_lowestWith 8 rfl) rfl ?_
    refine r.icmp_eq 22 (DX9_lowestWith 9 rfl) rfl hxt (fun _ hxt => ?_) (fun _ hxt => ?_)
    · refine r.rel (lo' := [(1, .int x1), (2, .int v2)]) [1, 2] rfl ?_
      exact hk v2 hxt
    refine r.iinc (v := (v2 + (1 : Int32))) (lo' := [(2, .int (v2 + (1 : Int32))), (0, .ref (a 31)), (1, .int x1)]) 2 (DX9_lowestWith 10 rfl) rfl rfl (Nat.le_of_ble_eq_true rfl) rfl ?_
    refine r.goto 2 (DX9_lowestWith 11 rfl) rfl ?_
    refine r.rel (lo' := [(0, .ref (a 31)), (1, .int x1), (2, .int (v2 + (1 : Int32)))]) [1, 2, 0] rfl ?_
    exact ih (v2 + (1 : Int32)) hxt
set_option maxRecDepth 100000 in
set_option maxHeartbeats 4000000 in
theorem t_X9_lowestWith (E : xE) (a : Nat → Nat) (x1 : Int32) (hM : Mem) {o : Int32} (hxt : xt_X9_lowestWith x1 hM = some o) : xMI (S := Unit) E yX9_lowestWith cX9_lowestWith 3 .int 0 0 0 [.ref (a 31), .int x1] [(a 31, oX9 a (hM 31)), (a 38, aI E 4096 (hM 38))] (fun _ => o) (fun _ => [(a 31, oX9 a (hM 31)), (a 38, aI E 4096 (hM 38))]) := by
  refine xMI.of (own := RX9) (lo0 := [(0, .ref (a 31)), (1, .int x1)]) (by decide +kernel) rfl rfl (Nat.le_of_ble_eq_true rfl) (fun V r hret => ?_)
  unfold xt_X9_lowestWith at hxt
  refine r.iconst (v := (0 : Int32)) (DX9_lowestWith 0 rfl) rfl ?_
  refine r.istore_n (lo' := [(2, .int (0 : Int32)), (0, .ref (a 31)), (1, .int x1)]) (DX9_lowestWith 1 rfl) (Nat.le_of_ble_eq_true rfl) rfl ?_
  refine r.rel (lo' := [(0, .ref (a 31)), (1, .int x1), (2, .int (0 : Int32))]) [1, 2, 0] rfl ?_
  refine l_X9_lowestWith_2 E a x1 hM r (fun v2_1 hxt => ?_) 10000 (0 : Int32) hxt
  refine r.iload_n 0 (DX9_lowestWith 12 rfl) rfl ?_
  refine r.if_ge 31 (DX9_lowestWith 13 rfl) rfl hxt (fun _ hxt => ?_) (fun _ hxt => ?_)
  · refine r.iload_n 1 (DX9_lowestWith 16 rfl) rfl ?_
    cases hxt
    exact hret _ _ _ _ (DX9_lowestWith 17 rfl) rfl ⟨(), rfl, rfl⟩
  refine r.bipush (v := (-6 : Int32)) (DX9_lowestWith 14 rfl) rfl ?_
  refine r.goto 32 (DX9_lowestWith 15 rfl) rfl ?_
  cases hxt
  exact hret _ _ _ _ (DX9_lowestWith 17 rfl) rfl ⟨(), rfl, rfl⟩
set_option maxRecDepth 100000 in
set_option maxHeartbeats 4000000 in
theorem l_X9_standingWith_4 (E : xE) (a : Nat → Nat) (x1 : Int32) (hM : Mem) {V : xVT} (r : Rl E RX9 cX9_standingWith (xR 0 0 0) 4 false V) {o : Int32} {k : Int32 → Option (Int32)} (hk : ∀ (v2 : Int32), k v2 = some o → V 0 0 45 [(2, .int v2)] [] [(a 31, oX9 a (hM 31)), (a 38, aI E 4096 (hM 38)), (a 39, aI E 4096 (hM 39))]) : ∀ (n : Nat) (v2 : Int32) (v3 : Int32), xt_X9_standingWith_l4 x1 hM k n v2 v3 = some o → V 0 0 4 [(0, .ref (a 31)), (1, .int x1), (2, .int v2), (3, .int v3)] [] [(a 31, oX9 a (hM 31)), (a 38, aI E 4096 (hM 38)), (a 39, aI E 4096 (hM 39))] := by
  intro n
  induction n with
  | zero => intro v2 v3 hxt; exact xno hxt
  | succ n ih =>
    intro v2 v3 hxt
    rw [xt_X9_standingWith_l4] at hxt
    refine r.iload_n 3 (DX9_standingWith 4 rfl) rfl ?_
    refine r.sipush (v := (4096 : Int32)) (DX9_standingWith 5 rfl) rfl ?_
    refine r.icmp_ge 45 (DX9_standingWith 6 rfl) rfl hxt (fun _ hxt => ?_) (fun _ hxt => ?_)
    · refine r.rel (lo' := [(2, .int v2)]) [2] rfl ?_
      exact hk v2 hxt
    refine r.iload_n 2 (DX9_standingWith 7 rfl) rfl ?_
    refine r.aload_n 0 (DX9_standingWith 8 rfl) rfl ?_
    refine r.get (v := .ref (a 39)) kX9 f_X9_32 rfl 0 rfl rfl (DX9_standingWith 9 rfl) ?_
    refine r.iload_n 3 (DX9_standingWith 10 rfl) rfl ?_
    obtain ⟨hin, hxt⟩ := xgd_some hxt
    refine r.iald 2 rfl hin (DX9_standingWith 11 rfl) ?_
    refine r.iload_n 3 (DX9_standingWith 12 rfl) rfl ?_
    refine r.icmp_ne 36 (DX9_standingWith 13 rfl) rfl hxt (fun _ hxt => ?_) (fun _ hxt => ?_)
    · refine r.iconst (v := (0 : Int32)) (DX9_standingWith 22 rfl) rfl ?_
      refine r.iadd (DX9_standingWith 23 rfl) ?_
      refine r.istore_n (lo' := [(2, .int (v2 + (0 : Int32))), (0, .ref (a 31)), (1, .int x1), (3, .int v3)]) (DX9_standingWith 24 rfl) (Nat.le_of_ble_eq_true rfl) rfl ?_
      refine r.iinc (v := (v3 + (1 : Int32))) (lo' := [(3, .int (v3 + (1 : Int32))), (2, .int (v2 + (0 : Int32))), (0, .ref (a 31)), (1, .int x1)]) 3 (DX9_standingWith 25 rfl) rfl rfl (Nat.le_of_ble_eq_true rfl) rfl ?_
      refine r.goto 4 (DX9_standingWith 26 rfl) rfl ?_
      refine r.rel (lo' := [(0, .ref (a 31)), (1, .int x1), (2, .int (v2 + (0 : Int32))), (3, .int (v3 + (1 : Int32)))]) [2, 3, 1, 0] rfl ?_
      exact ih (v2 + (0 : Int32)) (v3 + (1 : Int32)) hxt
    refine r.aload_n 0 (DX9_standingWith 14 rfl) rfl ?_
    refine r.get (v := .ref (a 38)) kX9 f_X9_29 rfl 0 rfl rfl (DX9_standingWith 15 rfl) ?_
    refine r.iload_n 3 (DX9_standingWith 16 rfl) rfl ?_
    obtain ⟨hin, hxt⟩ := xgd_some hxt
    refine r.iald 1 rfl hin (DX9_standingWith 17 rfl) ?_
    refine r.iload_n 1 (DX9_standingWith 18 rfl) rfl ?_
    refine r.icmp_ne 36 (DX9_standingWith 19 rfl) rfl hxt (fun _ hxt => ?_) (fun _ hxt => ?_)
    · refine r.iconst (v := (0 : Int32)) (DX9_standingWith 22 rfl) rfl ?_
      refine r.iadd (DX9_standingWith 23 rfl) ?_
      refine r.istore_n (lo' := [(2, .int (v2 + (0 : Int32))), (0, .ref (a 31)), (1, .int x1), (3, .int v3)]) (DX9_standingWith 24 rfl) (Nat.le_of_ble_eq_true rfl) rfl ?_
      refine r.iinc (v := (v3 + (1 : Int32))) (lo' := [(3, .int (v3 + (1 : Int32))), (2, .int (v2 + (0 : Int32))), (0, .ref (a 31)), (1, .int x1)]) 3 (DX9_standingWith 25 rfl) rfl rfl (Nat.le_of_ble_eq_true rfl) rfl ?_
      refine r.goto 4 (DX9_standingWith 26 rfl) rfl ?_
      refine r.rel (lo' := [(0, .ref (a 31)), (1, .int x1), (2, .int (v2 + (0 : Int32))), (3, .int (v3 + (1 : Int32)))]) [2, 3, 1, 0] rfl ?_
      exact ih (v2 + (0 : Int32)) (v3 + (1 : Int32)) hxt
    refine r.iconst (v := (1 : Int32)) (DX9_standingWith 20 rfl) rfl ?_
    refine r.goto 37 (DX9_standingWith 21 rfl) rfl ?_
    refine r.iadd (DX9_standingWith 23 rfl) ?_
    refine r.istore_n (lo' := [(2, .int (v2 + (1 : Int32))), (0, .ref (a 31)), (1, .int x1), (3, .int v3)]) (DX9_standingWith 24 rfl) (Nat.le_of_ble_eq_true rfl) rfl ?_
    refine r.iinc (v := (v3 + (1 : Int32))) (lo' := [(3, .int (v3 + (1 : Int32))), (2, .int (v2 + (1 : Int32))), (0, .ref (a 31)), (1, .int x1)]) 3 (DX9_standingWith 25 rfl) rfl rfl (Nat.le_of_ble_eq_true rfl) rfl ?_
    refine r.goto 4 (DX9_standingWith 26 rfl) rfl ?_
    refine r.rel (lo' := [(0, .ref (a 31)), (1, .int x1), (2, .int (v2 + (1 : Int32))), (3, .int (v3 + (1 : Int32)))]) [2, 3, 1, 0] rfl ?_
    exact ih (v2 + (1 : Int32)) (v3 + (1 : Int32)) hxt
set_option maxRecDepth 100000 in
set_option maxHeartbeats 4000000 in
theorem t_X9_standingWith (E : xE) (a : Nat → Nat) (x1 : Int32) (hM : Mem) {o : Int32} (hxt : xt_X9_standingWith x1 hM = some o) : xMI (S := Unit) E yX9_standingWith cX9_standingWith 4 .int 0 0 0 [.ref (a 31), .int x1] [(a 31, oX9 a (hM 31)), (a 38, aI E 4096 (hM 38)), (a 39, aI E 4096 (hM 39))] (fun _ => o) (fun _ => [(a 31, oX9 a (hM 31)), (a 38, aI E 4096 (hM 38)), (a 39, aI E 4096 (hM 39))]) := by
  refine xMI.of (own := RX9) (lo0 := [(0, .ref (a 31)), (1, .int x1)]) (by decide +kernel) rfl rfl (Nat.le_of_ble_eq_true rfl) (fun V r hret => ?_)
  unfold xt_X9_standingWith at hxt
  refine r.iconst (v := (0 : Int32)) (DX9_standingWith 0 rfl) rfl ?_
  refine r.istore_n (lo' := [(2, .int (0 : Int32)), (0, .ref (a 31)), (1, .int x1)]) (DX9_standingWith 1 rfl) (Nat.le_of_ble_eq_true rfl) rfl ?_
  refine r.iconst (v := (0 : Int32)) (DX9_standingWith 2 rfl) rfl ?_
  refine r.istore_n (lo' := [(3, .int (0 : Int32)), (2, .int (0 : Int32)), (0, .ref (a 31)), (1, .int x1)]) (DX9_standingWith 3 rfl) (Nat.le_of_ble_eq_true rfl) rfl ?_
  refine r.rel (lo' := [(0, .ref (a 31)), (1, .int x1), (2, .int (0 : Int32)), (3, .int (0 : Int32))]) [2, 3, 1, 0] rfl ?_
  refine l_X9_standingWith_4 E a x1 hM r (fun v2_1 hxt => ?_) 10000 (0 : Int32) (0 : Int32) hxt
  refine r.iload_n 0 (DX9_standingWith 27 rfl) rfl ?_
  cases hxt
  exact hret _ _ _ _ (DX9_standingWith 28 rfl) rfl ⟨(), rfl, rfl⟩
set_option maxRecDepth 100000 in
set_option maxHeartbeats 4000000 in
theorem t_X9_isException (E : xE) (a : Nat → Nat) (x1 : Int32) (hM : Mem) {o : Int32} (hxt : xt_X9_isException x1 hM = some o) : xMI (S := Unit) E yX9_isException cX9_isException 2 .boolean 4 0 0 [.ref (a 31), .int x1] [(a 31, oX9 a (hM 31)), (a 36, aI E 120 (hM 36)), (a 37, aI E 120 (hM 37)), (a 38, aI E 4096 (hM 38)), (a 39, aI E 4096 (hM 39)), (a 42, aI E 98 (hM 42))] (fun _ => o) (fun _ => [(a 31, oX9 a (hM 31)), (a 36, aI E 120 (hM 36)), (a 37, aI E 120 (hM 37)), (a 38, aI E 4096 (hM 38)), (a 39, aI E 4096 (hM 39)), (a 42, aI E 98 (hM 42))]) := by
  refine xMI.of (own := RX9) (lo0 := [(0, .ref (a 31)), (1, .int x1)]) (by decide +kernel) rfl rfl (Nat.le_of_ble_eq_true rfl) (fun V r hret => ?_)
  unfold xt_X9_isException at hxt
  refine r.aload_n 0 (DX9_isException 0 rfl) rfl ?_
  refine r.get (v := .ref (a 39)) kX9 f_X9_32 rfl 0 rfl rfl (DX9_isException 1 rfl) ?_
  refine r.iload_n 1 (DX9_isException 2 rfl) rfl ?_
  obtain ⟨hin, hxt⟩ := xgd_some hxt
  refine r.iald 4 rfl hin (DX9_isException 3 rfl) ?_
  refine r.iload_n 1 (DX9_isException 4 rfl) rfl ?_
  refine r.icmp_ne 33 (DX9_isException 5 rfl) rfl hxt (fun _ hxt => ?_) (fun _ hxt => ?_)
  · refine r.iconst (v := (0 : Int32)) (DX9_isException 19 rfl) rfl ?_
    cases hxt
    exact hret _ _ _ _ (DX9_isException 20 rfl) rfl ⟨(), rfl, rfl⟩
  refine r.aload_n 0 (DX9_isException 6 rfl) rfl ?_
  refine r.get (v := .ref (a 38)) kX9 f_X9_29 rfl 0 rfl rfl (DX9_isException 7 rfl) ?_
  refine r.iload_n 1 (DX9_isException 8 rfl) rfl ?_
  obtain ⟨hin, hxt⟩ := xgd_some hxt
  refine r.iald 3 rfl hin (DX9_isException 9 rfl) ?_
  refine r.aload_n 0 (DX9_isException 10 rfl) rfl ?_
  refine r.get (v := .ref (a 42)) kX9 f_X9_41 rfl 0 rfl rfl (DX9_isException 11 rfl) ?_
  refine r.aload_n 0 (DX9_isException 12 rfl) rfl ?_
  refine r.iload_n 1 (DX9_isException 13 rfl) rfl ?_
  obtain ⟨o_1, ho_1, hxt⟩ := xbd hxt
  refine r.callVI 0 rfl rfl (t_X9_key E a x1 hM ho_1) g_X9_138 rfl (DX9_isException 14 rfl) rfl ⟨(Nat.le_of_ble_eq_true rfl), (Nat.le_of_ble_eq_true rfl)⟩ ⟨(Nat.le_of_ble_eq_true rfl), (Nat.le_of_ble_eq_true rfl)⟩ (Nat.le_of_ble_eq_true rfl) [0, 1, 2] [3, 4, 5] rfl rfl rfl rfl (by decide) [3, 4, 5, 0, 1, 2] rfl (ws2 := fun _ => [(a 31, oX9 a (hM 31)), (a 36, aI E 120 (hM 36)), (a 37, aI E 120 (hM 37)), (a 38, aI E 4096 (hM 38)), (a 39, aI E 4096 (hM 39)), (a 42, aI E 98 (hM 42))]) (fun _ => rfl) (fun _ => ?_)
  obtain ⟨hin, hxt⟩ := xgd_some hxt
  refine r.iald 5 rfl hin (DX9_isException 15 rfl) ?_
  refine r.icmp_eq 33 (DX9_isException 16 rfl) rfl hxt (fun _ hxt => ?_) (fun _ hxt => ?_)
  · refine r.iconst (v := (0 : Int32)) (DX9_isException 19 rfl) rfl ?_
    cases hxt
    exact hret _ _ _ _ (DX9_isException 20 rfl) rfl ⟨(), rfl, rfl⟩
  refine r.iconst (v := (1 : Int32)) (DX9_isException 17 rfl) rfl ?_
  refine r.goto 34 (DX9_isException 18 rfl) rfl ?_
  cases hxt
  exact hret _ _ _ _ (DX9_isException 20 rfl) rfl ⟨(), rfl, rfl⟩
set_option maxRecDepth 100000 in
set_option maxHeartbeats 4000000 in
theorem l_X9_exceptions_4 (E : xE) (a : Nat → Nat) (hM : Mem) {V : xVT} (r : Rl E RX9 cX9_exceptions (xR 5 0 0) 3 false V) {o : Int32} {k : Int32 → Option (Int32)} (hk : ∀ (v1 : Int32), k v1 = some o → V 0 0 33 [(1, .int v1)] [] [(a 31, oX9 a (hM 31)), (a 36, aI E 120 (hM 36)), (a 37, aI E 120 (hM 37)), (a 38, aI E 4096 (hM 38)), (a 39, aI E 4096 (hM 39)), (a 42, aI E 98 (hM 42))]) : ∀ (n : Nat) (v1 : Int32) (v2 : Int32), xt_X9_exceptions_l4 hM k n v1 v2 = some o → V 0 0 4 [(0, .ref (a 31)), (1, .int v1), (2, .int v2)] [] [(a 31, oX9 a (hM 31)), (a 36, aI E 120 (hM 36)), (a 37, aI E 120 (hM 37)), (a 38, aI E 4096 (hM 38)), (a 39, aI E 4096 (hM 39)), (a 42, aI E 98 (hM 42))] := by
  intro n
  induction n with
  | zero => intro v1 v2 hxt; exact xno hxt
  | succ n ih =>
    intro v1 v2 hxt
    rw [xt_X9_exceptions_l4] at hxt
    refine r.iload_n 2 (DX9_exceptions 4 rfl) rfl ?_
    refine r.sipush (v := (4096 : Int32)) (DX9_exceptions 5 rfl) rfl ?_
    refine r.icmp_ge 33 (DX9_exceptions 6 rfl) rfl hxt (fun _ hxt => ?_) (fun _ hxt => ?_)
    · refine r.rel (lo' := [(1, .int v1)]) [1] rfl ?_
      exact hk v1 hxt
    refine r.iload_n 1 (DX9_exceptions 7 rfl) rfl ?_
    refine r.aload_n 0 (DX9_exceptions 8 rfl) rfl ?_
    refine r.iload_n 2 (DX9_exceptions 9 rfl) rfl ?_
    obtain ⟨o_1, ho_1, hxt⟩ := xbd hxt
    refine r.callVI 0 rfl rfl (t_X9_isException E a v2 hM ho_1) g_X9_226 rfl (DX9_exceptions 10 rfl) rfl ⟨(Nat.le_of_ble_eq_true rfl), (Nat.le_of_ble_eq_true rfl)⟩ ⟨(Nat.le_of_ble_eq_true rfl), (Nat.le_of_ble_eq_true rfl)⟩ (Nat.le_of_ble_eq_true rfl) [0, 1, 2, 3, 4, 5] [] rfl rfl rfl rfl (by decide) [0, 1, 2, 3, 4, 5] rfl (ws2 := fun _ => [(a 31, oX9 a (hM 31)), (a 36, aI E 120 (hM 36)), (a 37, aI E 120 (hM 37)), (a 38, aI E 4096 (hM 38)), (a 39, aI E 4096 (hM 39)), (a 42, aI E 98 (hM 42))]) (fun _ => rfl) (fun _ => ?_)
    refine r.if_eq 24 (DX9_exceptions 11 rfl) rfl hxt (fun _ hxt => ?_) (fun _ hxt => ?_)
    · refine r.iconst (v := (0 : Int32)) (DX9_exceptions 14 rfl) rfl ?_
      refine r.iadd (DX9_exceptions 15 rfl) ?_
      refine r.istore_n (lo' := [(1, .int (v1 + (0 : Int32))), (0, .ref (a 31)), (2, .int v2)]) (DX9_exceptions 16 rfl) (Nat.le_of_ble_eq_true rfl) rfl ?_
      refine r.iinc (v := (v2 + (1 : Int32))) (lo' := [(2, .int (v2 + (1 : Int32))), (1, .int (v1 + (0 : Int32))), (0, .ref (a 31))]) 2 (DX9_exceptions 17 rfl) rfl rfl (Nat.le_of_ble_eq_true rfl) rfl ?_
      refine r.goto 4 (DX9_exceptions 18 rfl) rfl ?_
      refine r.rel (lo' := [(0, .ref (a 31)), (1, .int (v1 + (0 : Int32))), (2, .int (v2 + (1 : Int32)))]) [2, 1, 0] rfl ?_
      exact ih (v1 + (0 : Int32)) (v2 + (1 : Int32)) hxt
    refine r.iconst (v := (1 : Int32)) (DX9_exceptions 12 rfl) rfl ?_
    refine r.goto 25 (DX9_exceptions 13 rfl) rfl ?_
    refine r.iadd (DX9_exceptions 15 rfl) ?_
    refine r.istore_n (lo' := [(1, .int (v1 + (1 : Int32))), (0, .ref (a 31)), (2, .int v2)]) (DX9_exceptions 16 rfl) (Nat.le_of_ble_eq_true rfl) rfl ?_
    refine r.iinc (v := (v2 + (1 : Int32))) (lo' := [(2, .int (v2 + (1 : Int32))), (1, .int (v1 + (1 : Int32))), (0, .ref (a 31))]) 2 (DX9_exceptions 17 rfl) rfl rfl (Nat.le_of_ble_eq_true rfl) rfl ?_
    refine r.goto 4 (DX9_exceptions 18 rfl) rfl ?_
    refine r.rel (lo' := [(0, .ref (a 31)), (1, .int (v1 + (1 : Int32))), (2, .int (v2 + (1 : Int32)))]) [2, 1, 0] rfl ?_
    exact ih (v1 + (1 : Int32)) (v2 + (1 : Int32)) hxt
set_option maxRecDepth 100000 in
set_option maxHeartbeats 4000000 in
theorem t_X9_exceptions (E : xE) (a : Nat → Nat) (hM : Mem) {o : Int32} (hxt : xt_X9_exceptions hM = some o) : xMI (S := Unit) E yX9_exceptions cX9_exceptions 3 .int 5 0 0 [.ref (a 31)] [(a 31, oX9 a (hM 31)), (a 36, aI E 120 (hM 36)), (a 37, aI E 120 (hM 37)), (a 38, aI E 4096 (hM 38)), (a 39, aI E 4096 (hM 39)), (a 42, aI E 98 (hM 42))] (fun _ => o) (fun _ => [(a 31, oX9 a (hM 31)), (a 36, aI E 120 (hM 36)), (a 37, aI E 120 (hM 37)), (a 38, aI E 4096 (hM 38)), (a 39, aI E 4096 (hM 39)), (a 42, aI E 98 (hM 42))]) := by
  refine xMI.of (own := RX9) (lo0 := [(0, .ref (a 31))]) (by decide +kernel) rfl rfl (Nat.le_of_ble_eq_true rfl) (fun V r hret => ?_)
  unfold xt_X9_exceptions at hxt
  refine r.iconst (v := (0 : Int32)) (DX9_exceptions 0 rfl) rfl ?_
  refine r.istore_n (lo' := [(1, .int (0 : Int32)), (0, .ref (a 31))]) (DX9_exceptions 1 rfl) (Nat.le_of_ble_eq_true rfl) rfl ?_
  refine r.iconst (v := (0 : Int32)) (DX9_exceptions 2 rfl) rfl ?_
  refine r.istore_n (lo' := [(2, .int (0 : Int32)), (1, .int (0 : Int32)), (0, .ref (a 31))]) (DX9_exceptions 3 rfl) (Nat.le_of_ble_eq_true rfl) rfl ?_
  refine r.rel (lo' := [(0, .ref (a 31)), (1, .int (0 : Int32)), (2, .int (0 : Int32))]) [2, 1, 0] rfl ?_
  refine l_X9_exceptions_4 E a hM r (fun v1_2 hxt => ?_) 10000 (0 : Int32) (0 : Int32) hxt
  refine r.iload_n 0 (DX9_exceptions 19 rfl) rfl ?_
  cases hxt
  exact hret _ _ _ _ (DX9_exceptions 20 rfl) rfl ⟨(), rfl, rfl⟩
set_option maxRecDepth 100000 in
set_option maxHeartbeats 4000000 in
theorem l_X9_runs_10 (E : xE) (a : Nat → Nat) (x1 : Int32) (hM : Mem) {V : xVT} (r : Rl E RX9 cX9_runs (xR 5 0 0) 6 false V) {o : Int32} {k : Int32 → Int32 → Option (Int32)} (hk : ∀ (v2 : Int32) (v4 : Int32), k v2 v4 = some o → V 0 0 74 [(1, .int x1), (2, .int v2), (4, .int v4)] [] [(a 31, oX9 a (hM 31)), (a 36, aI E 120 (hM 36)), (a 37, aI E 120 (hM 37)), (a 38, aI E 4096 (hM 38)), (a 39, aI E 4096 (hM 39)), (a 42, aI E 98 (hM 42))]) : ∀ (n : Nat) (v2 : Int32) (v3 : Int32) (v4 : Int32) (v5 : Int32), xt_X9_runs_l10 x1 hM k n v2 v3 v4 v5 = some o → V 0 0 10 [(0, .ref (a 31)), (1, .int x1), (2, .int v2), (3, .int v3), (4, .int v4), (5, .int v5)] [] [(a 31, oX9 a (hM 31)), (a 36, aI E 120 (hM 36)), (a 37, aI E 120 (hM 37)), (a 38, aI E 4096 (hM 38)), (a 39, aI E 4096 (hM 39)), (a 42, aI E 98 (hM 42))] := by
  intro n
  induction n with
  | zero => intro v2 v3 v4 v5 hxt; exact xno hxt
  | succ n ih =>
    intro v2 v3 v4 v5 hxt
    rw [xt_X9_runs_l10] at hxt
    refine r.iload 5 (DX9_runs 8 rfl) rfl ?_
    refine r.sipush (v := (4096 : Int32)) (DX9_runs 9 rfl) rfl ?_
    refine r.icmp_ge 74 (DX9_runs 10 rfl) rfl hxt (fun _ hxt => ?_) (fun _ hxt => ?_)
    · refine r.rel (lo' := [(1, .int x1), (2, .int v2), (4, .int v4)]) [1, 2, 4] rfl ?_
      exact hk v2 v4 hxt
    refine r.aload_n 0 (DX9_runs 11 rfl) rfl ?_
    refine r.get (v := .ref (a 39)) kX9 f_X9_32 rfl 0 rfl rfl (DX9_runs 12 rfl) ?_
    refine r.iload 5 (DX9_runs 13 rfl) rfl ?_
    obtain ⟨hin, hxt⟩ := xgd_some hxt
    refine r.iald 4 rfl hin (DX9_runs 14 rfl) ?_
    refine r.iload 5 (DX9_runs 15 rfl) rfl ?_
    refine r.icmp_ne 68 (DX9_runs 16 rfl) rfl hxt (fun _ hxt => ?_) (fun _ hxt => ?_)
    · refine r.iinc (v := (v5 + (1 : Int32))) (lo' := [(5, .int (v5 + (1 : Int32))), (0, .ref (a 31)), (1, .int x1), (2, .int v2), (3, .int v3), (4, .int v4)]) 5 (DX9_runs 40 rfl) rfl rfl (Nat.le_of_ble_eq_true rfl) rfl ?_
      refine r.goto 10 (DX9_runs 41 rfl) rfl ?_
      refine r.rel (lo' := [(0, .ref (a 31)), (1, .int x1), (2, .int v2), (3, .int v3), (4, .int v4), (5, .int (v5 + (1 : Int32)))]) [1, 2, 3, 4, 5, 0] rfl ?_
      exact ih v2 v3 v4 (v5 + (1 : Int32)) hxt
    refine r.aload_n 0 (DX9_runs 17 rfl) rfl ?_
    refine r.iload 5 (DX9_runs 18 rfl) rfl ?_
    obtain ⟨o_1, ho_1, hxt⟩ := xbd hxt
    refine r.callVI 0 rfl rfl (t_X9_isException E a v5 hM ho_1) g_X9_226 rfl (DX9_runs 19 rfl) rfl ⟨(Nat.le_of_ble_eq_true rfl), (Nat.le_of_ble_eq_true rfl)⟩ ⟨(Nat.le_of_ble_eq_true rfl), (Nat.le_of_ble_eq_true rfl)⟩ (Nat.le_of_ble_eq_true rfl) [0, 1, 2, 3, 4, 5] [] rfl rfl rfl rfl (by decide) [0, 1, 2, 3, 4, 5] rfl (ws2 := fun _ => [(a 31, oX9 a (hM 31)), (a 36, aI E 120 (hM 36)), (a 37, aI E 120 (hM 37)), (a 38, aI E 4096 (hM 38)), (a 39, aI E 4096 (hM 39)), (a 42, aI E 98 (hM 42))]) (fun _ => rfl) (fun _ => ?_)
    refine r.if_eq 45 (DX9_runs 20 rfl) rfl hxt (fun _ hxt => ?_) (fun _ hxt => ?_)
    · refine r.iconst (v := (0 : Int32)) (DX9_runs 25 rfl) rfl ?_
      refine r.istore_n (lo' := [(3, .int (0 : Int32)), (0, .ref (a 31)), (1, .int x1), (2, .int v2), (4, .int v4), (5, .int v5)]) (DX9_runs 26 rfl) (Nat.le_of_ble_eq_true rfl) rfl ?_
      refine r.iload_n 3 (DX9_runs 27 rfl) rfl ?_
      refine r.iload_n 0 (DX9_runs 28 rfl) rfl ?_
      refine r.iconst (v := (1 : Int32)) (DX9_runs 29 rfl) rfl ?_
      refine r.icmp_neT 57 (DX9_runs 30 rfl) rfl (by decide) ?_
      refine r.iconst (v := (0 : Int32)) (DX9_runs 33 rfl) rfl ?_
      refine r.iadd (DX9_runs 34 rfl) ?_
      refine r.istore_n (lo' := [(2, .int (v2 + (0 : Int32))), (3, .int (0 : Int32)), (0, .ref (a 31)), (1, .int x1), (4, .int v4), (5, .int v5)]) (DX9_runs 35 rfl) (Nat.le_of_ble_eq_true rfl) rfl ?_
      refine r.iload 4 (DX9_runs 36 rfl) rfl ?_
      refine r.iload_n 1 (DX9_runs 37 rfl) rfl ?_
      obtain ⟨o_2, ho_2, hxt⟩ := xbd hxt
      refine r.callSI0 (t_X9_greater E v4 (0 : Int32) ho_2) g_X9_85 rfl (DX9_runs 38 rfl) rfl ⟨(Nat.le_of_ble_eq_true rfl), (Nat.le_of_ble_eq_true rfl)⟩ (Nat.le_of_ble_eq_true rfl) ?_
      refine r.istore (lo' := [(4, .int o_2), (2, .int (v2 + (0 : Int32))), (3, .int (0 : Int32)), (0, .ref (a 31)), (1, .int x1), (5, .int v5)]) (DX9_runs 39 rfl) (Nat.le_of_ble_eq_true rfl) rfl ?_
      refine r.iinc (v := (v5 + (1 : Int32))) (lo' := [(5, .int (v5 + (1 : Int32))), (4, .int o_2), (2, .int (v2 + (0 : Int32))), (3, .int (0 : Int32)), (0, .ref (a 31)), (1, .int x1)]) 5 (DX9_runs 40 rfl) rfl rfl (Nat.le_of_ble_eq_true rfl) rfl ?_
      refine r.goto 10 (DX9_runs 41 rfl) rfl ?_
      refine r.rel (lo' := [(0, .ref (a 31)), (1, .int x1), (2, .int (v2 + (0 : Int32))), (3, .int (0 : Int32)), (4, .int o_2), (5, .int (v5 + (1 : Int32)))]) [4, 5, 2, 3, 1, 0] rfl ?_
      exact ih (v2 + (0 : Int32)) (0 : Int32) o_2 (v5 + (1 : Int32)) hxt
    refine r.iload_n 3 (DX9_runs 21 rfl) rfl ?_
    refine r.iconst (v := (1 : Int32)) (DX9_runs 22 rfl) rfl ?_
    refine r.iadd (DX9_runs 23 rfl) ?_
    refine r.goto 46 (DX9_runs 24 rfl) rfl ?_
    refine r.istore_n (lo' := [(3, .int (v3 + (1 : Int32))), (0, .ref (a 31)), (1, .int x1), (2, .int v2), (4, .int v4), (5, .int v5)]) (DX9_runs 26 rfl) (Nat.le_of_ble_eq_true rfl) rfl ?_
    refine r.iload_n 3 (DX9_runs 27 rfl) rfl ?_
    refine r.iload_n 0 (DX9_runs 28 rfl) rfl ?_
    refine r.iconst (v := (1 : Int32)) (DX9_runs 29 rfl) rfl ?_
    refine r.icmp_ne 57 (DX9_runs 30 rfl) rfl hxt (fun _ hxt => ?_) (fun _ hxt => ?_)
    · refine r.iconst (v := (0 : Int32)) (DX9_runs 33 rfl) rfl ?_
      refine r.iadd (DX9_runs 34 rfl) ?_
      refine r.istore_n (lo' := [(2, .int (v2 + (0 : Int32))), (3, .int (v3 + (1 : Int32))), (0, .ref (a 31)), (1, .int x1), (4, .int v4), (5, .int v5)]) (DX9_runs 35 rfl) (Nat.le_of_ble_eq_true rfl) rfl ?_
      refine r.iload 4 (DX9_runs 36 rfl) rfl ?_
      refine r.iload_n 1 (DX9_runs 37 rfl) rfl ?_
      obtain ⟨o_3, ho_3, hxt⟩ := xbd hxt
      refine r.callSI0 (t_X9_greater E v4 (v3 + (1 : Int32)) ho_3) g_X9_85 rfl (DX9_runs 38 rfl) rfl ⟨(Nat.le_of_ble_eq_true rfl), (Nat.le_of_ble_eq_true rfl)⟩ (Nat.le_of_ble_eq_true rfl) ?_
      refine r.istore (lo' := [(4, .int o_3), (2, .int (v2 + (0 : Int32))), (3, .int (v3 + (1 : Int32))), (0, .ref (a 31)), (1, .int x1), (5, .int v5)]) (DX9_runs 39 rfl) (Nat.le_of_ble_eq_true rfl) rfl ?_
      refine r.iinc (v := (v5 + (1 : Int32))) (lo' := [(5, .int (v5 + (1 : Int32))), (4, .int o_3), (2, .int (v2 + (0 : Int32))), (3, .int (v3 + (1 : Int32))), (0, .ref (a 31)), (1, .int x1)]) 5 (DX9_runs 40 rfl) rfl rfl (Nat.le_of_ble_eq_true rfl) rfl ?_
      refine r.goto 10 (DX9_runs 41 rfl) rfl ?_
      refine r.rel (lo' := [(0, .ref (a 31)), (1, .int x1), (2, .int (v2 + (0 : Int32))), (3, .int (v3 + (1 : Int32))), (4, .int o_3), (5, .int (v5 + (1 : Int32)))]) [4, 5, 2, 3, 1, 0] rfl ?_
      exact ih (v2 + (0 : Int32)) (v3 + (1 : Int32)) o_3 (v5 + (1 : Int32)) hxt
    refine r.iconst (v := (1 : Int32)) (DX9_runs 31 rfl) rfl ?_
    refine r.goto 58 (DX9_runs 32 rfl) rfl ?_
    refine r.iadd (DX9_runs 34 rfl) ?_
    refine r.istore_n (lo' := [(2, .int (v2 + (1 : Int32))), (3, .int (v3 + (1 : Int32))), (0, .ref (a 31)), (1, .int x1), (4, .int v4), (5, .int v5)]) (DX9_runs 35 rfl) (Nat.le_of_ble_eq_true rfl) rfl ?_
    refine r.iload 4 (DX9_runs 36 rfl) rfl ?_
    refine r.iload_n 1 (DX9_runs 37 rfl) rfl ?_
    obtain ⟨o_4, ho_4, hxt⟩ := xbd hxt
    refine r.callSI0 (t_X9_greater E v4 (v3 + (1 : Int32)) ho_4) g_X9_85 rfl (DX9_runs 38 rfl) rfl ⟨(Nat.le_of_ble_eq_true rfl), (Nat.le_of_ble_eq_true rfl)⟩ (Nat.le_of_ble_eq_true rfl) ?_
    refine r.istore (lo' := [(4, .int o_4), (2, .int (v2 + (1 : Int32))), (3, .int (v3 + (1 : Int32))), (0, .ref (a 31)), (1, .int x1), (5, .int v5)]) (DX9_runs 39 rfl) (Nat.le_of_ble_eq_true rfl) rfl ?_
    refine r.iinc (v := (v5 + (1 : Int32))) (lo' := [(5, .int (v5 + (1 : Int32))), (4, .int o_4), (2, .int (v2 + (1 : Int32))), (3, .int (v3 + (1 : Int32))), (0, .ref (a 31)), (1, .int x1)]) 5 (DX9_runs 40 rfl) rfl rfl (Nat.le_of_ble_eq_true rfl) rfl ?_
    refine r.goto 10 (DX9_runs 41 rfl) rfl ?_
    refine r.rel (lo' := [(0, .ref (a 31)), (1, .int x1), (2, .int (v2 + (1 : Int32))), (3, .int (v3 + (1 : Int32))), (4, .int o_4), (5, .int (v5 + (1 : Int32)))]) [4, 5, 2, 3, 1, 0] rfl ?_
    exact ih (v2 + (1 : Int32)) (v3 + (1 : Int32)) o_4 (v5 + (1 : Int32)) hxt
set_option maxRecDepth 100000 in
set_option maxHeartbeats 4000000 in
theorem t_X9_runs (E : xE) (a : Nat → Nat) (x1 : Int32) (hM : Mem) {o : Int32} (hxt : xt_X9_runs x1 hM = some o) : xMI (S := Unit) E yX9_runs cX9_runs 6 .int 5 0 0 [.ref (a 31), .int x1] [(a 31, oX9 a (hM 31)), (a 36, aI E 120 (hM 36)), (a 37, aI E 120 (hM 37)), (a 38, aI E 4096 (hM 38)), (a 39, aI E 4096 (hM 39)), (a 42, aI E 98 (hM 42))] (fun _ => o) (fun _ => [(a 31, oX9 a (hM 31)), (a 36, aI E 120 (hM 36)), (a 37, aI E 120 (hM 37)), (a 38, aI E 4096 (hM 38)), (a 39, aI E 4096 (hM 39)), (a 42, aI E 98 (hM 42))]) := by
  refine xMI.of (own := RX9) (lo0 := [(0, .ref (a 31)), (1, .int x1)]) (by decide +kernel) rfl rfl (Nat.le_of_ble_eq_true rfl) (fun V r hret => ?_)
  unfold xt_X9_runs at hxt
  refine r.iconst (v := (0 : Int32)) (DX9_runs 0 rfl) rfl ?_
  refine r.istore_n (lo' := [(2, .int (0 : Int32)), (0, .ref (a 31)), (1, .int x1)]) (DX9_runs 1 rfl) (Nat.le_of_ble_eq_true rfl) rfl ?_
  refine r.iconst (v := (0 : Int32)) (DX9_runs 2 rfl) rfl ?_
  refine r.istore_n (lo' := [(3, .int (0 : Int32)), (2, .int (0 : Int32)), (0, .ref (a 31)), (1, .int x1)]) (DX9_runs 3 rfl) (Nat.le_of_ble_eq_true rfl) rfl ?_
  refine r.iconst (v := (0 : Int32)) (DX9_runs 4 rfl) rfl ?_
  refine r.istore (lo' := [(4, .int (0 : Int32)), (3, .int (0 : Int32)), (2, .int (0 : Int32)), (0, .ref (a 31)), (1, .int x1)]) (DX9_runs 5 rfl) (Nat.le_of_ble_eq_true rfl) rfl ?_
  refine r.iconst (v := (0 : Int32)) (DX9_runs 6 rfl) rfl ?_
  refine r.istore (lo' := [(5, .int (0 : Int32)), (4, .int (0 : Int32)), (3, .int (0 : Int32)), (2, .int (0 : Int32)), (0, .ref (a 31)), (1, .int x1)]) (DX9_runs 7 rfl) (Nat.le_of_ble_eq_true rfl) rfl ?_
  refine r.rel (lo' := [(0, .ref (a 31)), (1, .int x1), (2, .int (0 : Int32)), (3, .int (0 : Int32)), (4, .int (0 : Int32)), (5, .int (0 : Int32))]) [4, 5, 3, 2, 1, 0] rfl ?_
  refine l_X9_runs_10 E a x1 hM r (fun v2_5 v4_6 hxt => ?_) 10000 (0 : Int32) (0 : Int32) (0 : Int32) (0 : Int32) hxt
  refine r.iload_n 0 (DX9_runs 42 rfl) rfl ?_
  refine r.if_ne 82 (DX9_runs 43 rfl) rfl hxt (fun _ hxt => ?_) (fun _ hxt => ?_)
  · refine r.iload 2 (DX9_runs 46 rfl) rfl ?_
    cases hxt
    exact hret _ _ _ _ (DX9_runs 47 rfl) rfl ⟨(), rfl, rfl⟩
  refine r.iload_n 1 (DX9_runs 44 rfl) rfl ?_
  refine r.goto 84 (DX9_runs 45 rfl) rfl ?_
  cases hxt
  exact hret _ _ _ _ (DX9_runs 47 rfl) rfl ⟨(), rfl, rfl⟩
set_option maxRecDepth 100000 in
set_option maxHeartbeats 4000000 in
theorem l_X9_blocks_15 (E : xE) (a : Nat → Nat) (x1 : Int32) (x2 : Int32) (hM : Mem) {V : xVT} (r : Rl E RX9 cX9_blocks (xR 5 0 0) 5 false V) {o : Int32} {k : Int32 → Option (Int32)} (hk : ∀ (v3 : Int32), k v3 = some o → V 0 0 42 [(0, .ref (a 31)), (1, .int x1), (2, .int x2), (3, .int v3)] [] [(a 31, oX9 a (hM 31)), (a 36, aI E 120 (hM 36)), (a 37, aI E 120 (hM 37)), (a 38, aI E 4096 (hM 38)), (a 39, aI E 4096 (hM 39)), (a 42, aI E 98 (hM 42))]) : ∀ (n : Nat) (v3 : Int32) (v4 : Int32), xt_X9_blocks_l15 x1 x2 hM k n v3 v4 = some o → V 0 0 15 [(0, .ref (a 31)), (1, .int x1), (2, .int x2), (3, .int v3), (4, .int v4)] [] [(a 31, oX9 a (hM 31)), (a 36, aI E 120 (hM 36)), (a 37, aI E 120 (hM 37)), (a 38, aI E 4096 (hM 38)), (a 39, aI E 4096 (hM 39)), (a 42, aI E 98 (hM 42))] := by
  intro n
  induction n with
  | zero => intro v3 v4 hxt; exact xno hxt
  | succ n ih =>
    intro v3 v4 hxt
    rw [xt_X9_blocks_l15] at hxt
    refine r.iload 4 (DX9_blocks 11 rfl) rfl ?_
    refine r.bipush (v := (64 : Int32)) (DX9_blocks 12 rfl) rfl ?_
    refine r.icmp_ge 42 (DX9_blocks 13 rfl) rfl hxt (fun _ hxt => ?_) (fun _ hxt => ?_)
    · refine r.rel (lo' := [(0, .ref (a 31)), (1, .int x1), (2, .int x2), (3, .int v3)]) [0, 1, 2, 3] rfl ?_
      exact hk v3 hxt
    refine r.iload_n 3 (DX9_blocks 14 rfl) rfl ?_
    refine r.aload_n 0 (DX9_blocks 15 rfl) rfl ?_
    refine r.bipush (v := (64 : Int32)) (DX9_blocks 16 rfl) rfl ?_
    refine r.iload_n 2 (DX9_blocks 17 rfl) rfl ?_
    refine r.imul (DX9_blocks 18 rfl) ?_
    refine r.iload 4 (DX9_blocks 19 rfl) rfl ?_
    refine r.iadd (DX9_blocks 20 rfl) ?_
    obtain ⟨o_1, ho_1, hxt⟩ := xbd hxt
    refine r.callVI 0 rfl rfl (t_X9_isException E a (((64 : Int32) * x2) + v4) hM ho_1) g_X9_226 rfl (DX9_blocks 21 rfl) rfl ⟨(Nat.le_of_ble_eq_true rfl), (Nat.le_of_ble_eq_true rfl)⟩ ⟨(Nat.le_of_ble_eq_true rfl), (Nat.le_of_ble_eq_true rfl)⟩ (Nat.le_of_ble_eq_true rfl) [0, 1, 2, 3, 4, 5] [] rfl rfl rfl rfl (by decide) [0, 1, 2, 3, 4, 5] rfl (ws2 := fun _ => [(a 31, oX9 a (hM 31)), (a 36, aI E 120 (hM 36)), (a 37, aI E 120 (hM 37)), (a 38, aI E 4096 (hM 38)), (a 39, aI E 4096 (hM 39)), (a 42, aI E 98 (hM 42))]) (fun _ => rfl) (fun _ => ?_)
    refine r.ior (DX9_blocks 22 rfl) ?_
    refine r.istore_n (lo' := [(3, .int (v3 ||| o_1)), (0, .ref (a 31)), (1, .int x1), (2, .int x2), (4, .int v4)]) (DX9_blocks 23 rfl) (Nat.le_of_ble_eq_true rfl) rfl ?_
    refine r.iinc (v := (v4 + (1 : Int32))) (lo' := [(4, .int (v4 + (1 : Int32))), (3, .int (v3 ||| o_1)), (0, .ref (a 31)), (1, .int x1), (2, .int x2)]) 4 (DX9_blocks 24 rfl) rfl rfl (Nat.le_of_ble_eq_true rfl) rfl ?_
    refine r.goto 15 (DX9_blocks 25 rfl) rfl ?_
    refine r.rel (lo' := [(0, .ref (a 31)), (1, .int x1), (2, .int x2), (3, .int (v3 ||| o_1)), (4, .int (v4 + (1 : Int32)))]) [2, 3, 4, 1, 0] rfl ?_
    exact ih (v3 ||| o_1) (v4 + (1 : Int32)) hxt
set_option maxRecDepth 100000 in
set_option maxHeartbeats 4000000 in
theorem l_X9_blocks_4 (E : xE) (a : Nat → Nat) (hM : Mem) {V : xVT} (r : Rl E RX9 cX9_blocks (xR 5 0 0) 5 false V) {o : Int32} {k : Int32 → Option (Int32)} (hk : ∀ (v1 : Int32), k v1 = some o → V 0 0 60 [(1, .int v1)] [] [(a 31, oX9 a (hM 31)), (a 36, aI E 120 (hM 36)), (a 37, aI E 120 (hM 37)), (a 38, aI E 4096 (hM 38)), (a 39, aI E 4096 (hM 39)), (a 42, aI E 98 (hM 42))]) : ∀ (n : Nat) (v1 : Int32) (v2 : Int32), xt_X9_blocks_l4 hM k n v1 v2 = some o → V 0 0 4 [(0, .ref (a 31)), (1, .int v1), (2, .int v2)] [] [(a 31, oX9 a (hM 31)), (a 36, aI E 120 (hM 36)), (a 37, aI E 120 (hM 37)), (a 38, aI E 4096 (hM 38)), (a 39, aI E 4096 (hM 39)), (a 42, aI E 98 (hM 42))] := by
  intro n
  induction n with
  | zero => intro v1 v2 hxt; exact xno hxt
  | succ n ih =>
    intro v1 v2 hxt
    rw [xt_X9_blocks_l4] at hxt
    refine r.iload_n 2 (DX9_blocks 4 rfl) rfl ?_
    refine r.bipush (v := (64 : Int32)) (DX9_blocks 5 rfl) rfl ?_
    refine r.icmp_ge 60 (DX9_blocks 6 rfl) rfl hxt (fun _ hxt => ?_) (fun _ hxt => ?_)
    · refine r.rel (lo' := [(1, .int v1)]) [1] rfl ?_
      exact hk v1 hxt
    refine r.iconst (v := (0 : Int32)) (DX9_blocks 7 rfl) rfl ?_
    refine r.istore_n (lo' := [(3, .int (0 : Int32)), (0, .ref (a 31)), (1, .int v1), (2, .int v2)]) (DX9_blocks 8 rfl) (Nat.le_of_ble_eq_true rfl) rfl ?_
    refine r.iconst (v := (0 : Int32)) (DX9_blocks 9 rfl) rfl ?_
    refine r.istore (lo' := [(4, .int (0 : Int32)), (3, .int (0 : Int32)), (0, .ref (a 31)), (1, .int v1), (2, .int v2)]) (DX9_blocks 10 rfl) (Nat.le_of_ble_eq_true rfl) rfl ?_
    refine r.rel (lo' := [(0, .ref (a 31)), (1, .int v1), (2, .int v2), (3, .int (0 : Int32)), (4, .int (0 : Int32))]) [2, 3, 4, 1, 0] rfl ?_
    refine l_X9_blocks_15 E a v1 v2 hM r (fun v3_2 hxt => ?_) 10000 (0 : Int32) (0 : Int32) hxt
    refine r.iload_n 1 (DX9_blocks 26 rfl) rfl ?_
    refine r.iload_n 3 (DX9_blocks 27 rfl) rfl ?_
    refine r.if_eq 51 (DX9_blocks 28 rfl) rfl hxt (fun _ hxt => ?_) (fun _ hxt => ?_)
    · refine r.iconst (v := (0 : Int32)) (DX9_blocks 31 rfl) rfl ?_
      refine r.iadd (DX9_blocks 32 rfl) ?_
      refine r.istore_n (lo' := [(1, .int (v1 + (0 : Int32))), (0, .ref (a 31)), (2, .int v2), (3, .int v3_2)]) (DX9_blocks 33 rfl) (Nat.le_of_ble_eq_true rfl) rfl ?_
      refine r.iinc (v := (v2 + (1 : Int32))) (lo' := [(2, .int (v2 + (1 : Int32))), (1, .int (v1 + (0 : Int32))), (0, .ref (a 31)), (3, .int v3_2)]) 2 (DX9_blocks 34 rfl) rfl rfl (Nat.le_of_ble_eq_true rfl) rfl ?_
      refine r.goto 4 (DX9_blocks 35 rfl) rfl ?_
      refine r.rel (lo' := [(0, .ref (a 31)), (1, .int (v1 + (0 : Int32))), (2, .int (v2 + (1 : Int32)))]) [2, 1, 0] rfl ?_
      exact ih (v1 + (0 : Int32)) (v2 + (1 : Int32)) hxt
    refine r.iconst (v := (1 : Int32)) (DX9_blocks 29 rfl) rfl ?_
    refine r.goto 52 (DX9_blocks 30 rfl) rfl ?_
    refine r.iadd (DX9_blocks 32 rfl) ?_
    refine r.istore_n (lo' := [(1, .int (v1 + (1 : Int32))), (0, .ref (a 31)), (2, .int v2), (3, .int v3_2)]) (DX9_blocks 33 rfl) (Nat.le_of_ble_eq_true rfl) rfl ?_
    refine r.iinc (v := (v2 + (1 : Int32))) (lo' := [(2, .int (v2 + (1 : Int32))), (1, .int (v1 + (1 : Int32))), (0, .ref (a 31)), (3, .int v3_2)]) 2 (DX9_blocks 34 rfl) rfl rfl (Nat.le_of_ble_eq_true rfl) rfl ?_
    refine r.goto 4 (DX9_blocks 35 rfl) rfl ?_
    refine r.rel (lo' := [(0, .ref (a 31)), (1, .int (v1 + (1 : Int32))), (2, .int (v2 + (1 : Int32)))]) [2, 1, 0] rfl ?_
    exact ih (v1 + (1 : Int32)) (v2 + (1 : Int32)) hxt
set_option maxRecDepth 100000 in
set_option maxHeartbeats 4000000 in
theorem t_X9_blocks (E : xE) (a : Nat → Nat) (hM : Mem) {o : Int32} (hxt : xt_X9_blocks hM = some o) : xMI (S := Unit) E yX9_blocks cX9_blocks 5 .int 5 0 0 [.ref (a 31)] [(a 31, oX9 a (hM 31)), (a 36, aI E 120 (hM 36)), (a 37, aI E 120 (hM 37)), (a 38, aI E 4096 (hM 38)), (a 39, aI E 4096 (hM 39)), (a 42, aI E 98 (hM 42))] (fun _ => o) (fun _ => [(a 31, oX9 a (hM 31)), (a 36, aI E 120 (hM 36)), (a 37, aI E 120 (hM 37)), (a 38, aI E 4096 (hM 38)), (a 39, aI E 4096 (hM 39)), (a 42, aI E 98 (hM 42))]) := by
  refine xMI.of (own := RX9) (lo0 := [(0, .ref (a 31))]) (by decide +kernel) rfl rfl (Nat.le_of_ble_eq_true rfl) (fun V r hret => ?_)
  unfold xt_X9_blocks at hxt
  refine r.iconst (v := (0 : Int32)) (DX9_blocks 0 rfl) rfl ?_
  refine r.istore_n (lo' := [(1, .int (0 : Int32)), (0, .ref (a 31))]) (DX9_blocks 1 rfl) (Nat.le_of_ble_eq_true rfl) rfl ?_
  refine r.iconst (v := (0 : Int32)) (DX9_blocks 2 rfl) rfl ?_
  refine r.istore_n (lo' := [(2, .int (0 : Int32)), (1, .int (0 : Int32)), (0, .ref (a 31))]) (DX9_blocks 3 rfl) (Nat.le_of_ble_eq_true rfl) rfl ?_
  refine r.rel (lo' := [(0, .ref (a 31)), (1, .int (0 : Int32)), (2, .int (0 : Int32))]) [2, 1, 0] rfl ?_
  refine l_X9_blocks_4 E a hM r (fun v1_3 hxt => ?_) 10000 (0 : Int32) (0 : Int32) hxt
  refine r.iload_n 0 (DX9_blocks 36 rfl) rfl ?_
  cases hxt
  exact hret _ _ _ _ (DX9_blocks 37 rfl) rfl ⟨(), rfl, rfl⟩
set_option maxRecDepth 100000 in
set_option maxHeartbeats 4000000 in
theorem l_X9_keys_4 (E : xE) (a : Nat → Nat) (hM : Mem) {V : xVT} (r : Rl E RX9 cX9_keys (xR 0 0 0) 3 false V) {o : Int32} {k : Int32 → Option (Int32)} (hk : ∀ (v1 : Int32), k v1 = some o → V 0 0 34 [(1, .int v1)] [] [(a 31, oX9 a (hM 31)), (a 42, aI E 98 (hM 42))]) : ∀ (n : Nat) (v1 : Int32) (v2 : Int32), xt_X9_keys_l4 hM k n v1 v2 = some o → V 0 0 4 [(0, .ref (a 31)), (1, .int v1), (2, .int v2)] [] [(a 31, oX9 a (hM 31)), (a 42, aI E 98 (hM 42))] := by
  intro n
  induction n with
  | zero => intro v1 v2 hxt; exact xno hxt
  | succ n ih =>
    intro v1 v2 hxt
    rw [xt_X9_keys_l4] at hxt
    refine r.iload_n 2 (DX9_keys 4 rfl) rfl ?_
    refine r.bipush (v := (98 : Int32)) (DX9_keys 5 rfl) rfl ?_
    refine r.icmp_ge 34 (DX9_keys 6 rfl) rfl hxt (fun _ hxt => ?_) (fun _ hxt => ?_)
    · refine r.rel (lo' := [(1, .int v1)]) [1] rfl ?_
      exact hk v1 hxt
    refine r.iload_n 1 (DX9_keys 7 rfl) rfl ?_
    refine r.aload_n 0 (DX9_keys 8 rfl) rfl ?_
    refine r.get (v := .ref (a 42)) kX9 f_X9_41 rfl 0 rfl rfl (DX9_keys 9 rfl) ?_
    refine r.iload_n 2 (DX9_keys 10 rfl) rfl ?_
    obtain ⟨hin, hxt⟩ := xgd_some hxt
    refine r.iald 1 rfl hin (DX9_keys 11 rfl) ?_
    refine r.iconst (v := (-1 : Int32)) (DX9_keys 12 rfl) rfl ?_
    refine r.icmp_ne 25 (DX9_keys 13 rfl) rfl hxt (fun _ hxt => ?_) (fun _ hxt => ?_)
    · refine r.iconst (v := (1 : Int32)) (DX9_keys 16 rfl) rfl ?_
      refine r.iadd (DX9_keys 17 rfl) ?_
      refine r.istore_n (lo' := [(1, .int (v1 + (1 : Int32))), (0, .ref (a 31)), (2, .int v2)]) (DX9_keys 18 rfl) (Nat.le_of_ble_eq_true rfl) rfl ?_
      refine r.iinc (v := (v2 + (1 : Int32))) (lo' := [(2, .int (v2 + (1 : Int32))), (1, .int (v1 + (1 : Int32))), (0, .ref (a 31))]) 2 (DX9_keys 19 rfl) rfl rfl (Nat.le_of_ble_eq_true rfl) rfl ?_
      refine r.goto 4 (DX9_keys 20 rfl) rfl ?_
      refine r.rel (lo' := [(0, .ref (a 31)), (1, .int (v1 + (1 : Int32))), (2, .int (v2 + (1 : Int32)))]) [2, 1, 0] rfl ?_
      exact ih (v1 + (1 : Int32)) (v2 + (1 : Int32)) hxt
    refine r.iconst (v := (0 : Int32)) (DX9_keys 14 rfl) rfl ?_
    refine r.goto 26 (DX9_keys 15 rfl) rfl ?_
    refine r.iadd (DX9_keys 17 rfl) ?_
    refine r.istore_n (lo' := [(1, .int (v1 + (0 : Int32))), (0, .ref (a 31)), (2, .int v2)]) (DX9_keys 18 rfl) (Nat.le_of_ble_eq_true rfl) rfl ?_
    refine r.iinc (v := (v2 + (1 : Int32))) (lo' := [(2, .int (v2 + (1 : Int32))), (1, .int (v1 + (0 : Int32))), (0, .ref (a 31))]) 2 (DX9_keys 19 rfl) rfl rfl (Nat.le_of_ble_eq_true rfl) rfl ?_
    refine r.goto 4 (DX9_keys 20 rfl) rfl ?_
    refine r.rel (lo' := [(0, .ref (a 31)), (1, .int (v1 + (0 : Int32))), (2, .int (v2 + (1 : Int32)))]) [2, 1, 0] rfl ?_
    exact ih (v1 + (0 : Int32)) (v2 + (1 : Int32)) hxt
set_option maxRecDepth 100000 in
set_option maxHeartbeats 4000000 in
theorem t_X9_keys (E : xE) (a : Nat → Nat) (hM : Mem) {o : Int32} (hxt : xt_X9_keys hM = some o) : xMI (S := Unit) E yX9_keys cX9_keys 3 .int 0 0 0 [.ref (a 31)] [(a 31, oX9 a (hM 31)), (a 42, aI E 98 (hM 42))] (fun _ => o) (fun _ => [(a 31, oX9 a (hM 31)), (a 42, aI E 98 (hM 42))]) := by
  refine xMI.of (own := RX9) (lo0 := [(0, .ref (a 31))]) (by decide +kernel) rfl rfl (Nat.le_of_ble_eq_true rfl) (fun V r hret => ?_)
  unfold xt_X9_keys at hxt
  refine r.iconst (v := (0 : Int32)) (DX9_keys 0 rfl) rfl ?_
  refine r.istore_n (lo' := [(1, .int (0 : Int32)), (0, .ref (a 31))]) (DX9_keys 1 rfl) (Nat.le_of_ble_eq_true rfl) rfl ?_
  refine r.iconst (v := (0 : Int32)) (DX9_keys 2 rfl) rfl ?_
  refine r.istore_n (lo' := [(2, .int (0 : Int32)), (1, .int (0 : Int32)), (0, .ref (a 31))]) (DX9_keys 3 rfl) (Nat.le_of_ble_eq_true rfl) rfl ?_
  refine r.rel (lo' := [(0, .ref (a 31)), (1, .int (0 : Int32)), (2, .int (0 : Int32))]) [2, 1, 0] rfl ?_
  refine l_X9_keys_4 E a hM r (fun v1_1 hxt => ?_) 10000 (0 : Int32) (0 : Int32) hxt
  refine r.iload_n 0 (DX9_keys 21 rfl) rfl ?_
  cases hxt
  exact hret _ _ _ _ (DX9_keys 22 rfl) rfl ⟨(), rfl, rfl⟩
set_option maxRecDepth 100000 in
set_option maxHeartbeats 4000000 in
theorem t_X9_all (E : xE) (a : Nat → Nat) (x1 : Int32) (hM : Mem) {o : Int32 × Mem} (hxt : xt_X9_all x1 hM = some o) : xMI (S := Unit) E yX9_all cX9_all 2 .int 9 0 0 [.ref (a 31), .int x1] [(a 31, oX9 a (hM 31)), (a 32, aI E 8 (hM 32)), (a 36, aI E 120 (hM 36)), (a 37, aI E 120 (hM 37)), (a 38, aI E 4096 (hM 38)), (a 39, aI E 4096 (hM 39)), (a 40, aI E 4096 (hM 40)), (a 41, aI E 128 (hM 41)), (a 42, aI E 98 (hM 42)), (a 43, aI E 202 (hM 43)), (a 44, aI E 4 (hM 44))] (fun _ => o.1) (fun _ => [(a 31, oX9 a (o.2 31)), (a 32, aI E 8 (hM 32)), (a 36, aI E 120 (hM 36)), (a 37, aI E 120 (hM 37)), (a 38, aI E 4096 (o.2 38)), (a 39, aI E 4096 (o.2 39)), (a 40, aI E 4096 (o.2 40)), (a 41, aI E 128 (o.2 41)), (a 42, aI E 98 (o.2 42)), (a 43, aI E 202 (o.2 43)), (a 44, aI E 4 (o.2 44))]) := by
  refine xMI.of (own := RX9) (lo0 := [(0, .ref (a 31)), (1, .int x1)]) (by decide +kernel) rfl rfl (Nat.le_of_ble_eq_true rfl) (fun V r hret => ?_)
  unfold xt_X9_all at hxt
  refine r.iload_n 1 (DX9_all 0 rfl) rfl ?_
  refine r.iconst (v := (0 : Int32)) (DX9_all 1 rfl) rfl ?_
  refine r.bipush (v := (10 : Int32)) (DX9_all 2 rfl) rfl ?_
  obtain ⟨o_1, ho_1, hxt⟩ := xbd hxt
  refine r.callSI0 (t_X9_in E x1 (0 : Int32) (10 : Int32) ho_1) g_X9_53 rfl (DX9_all 3 rfl) rfl ⟨(Nat.le_of_ble_eq_true rfl), (Nat.le_of_ble_eq_true rfl)⟩ (Nat.le_of_ble_eq_true rfl) ?_
  refine r.if_ne 13 (DX9_all 4 rfl) rfl hxt (fun _ hxt => ?_) (fun _ hxt => ?_)
  · refine r.aload_n 0 (DX9_all 7 rfl) rfl ?_
    obtain ⟨o_2, ho_2, hxt⟩ := xbd hxt
    refine r.callVV 0 rfl rfl (t_X9_work E a hM ho_2) g_X9_161 rfl (DX9_all 8 rfl) rfl ⟨(Nat.le_of_ble_eq_true rfl), (Nat.le_of_ble_eq_true rfl)⟩ ⟨(Nat.le_of_ble_eq_true rfl), (Nat.le_of_ble_eq_true rfl)⟩ (Nat.le_of_ble_eq_true rfl) [0, 1, 2, 3, 4, 5, 6, 7, 8, 9, 10] [] rfl rfl rfl rfl (by decide) [0, 1, 2, 3, 4, 5, 6, 7, 8, 9, 10] rfl (ws2 := fun _ => [(a 31, oX9 a (o_2 31)), (a 32, aI E 8 (hM 32)), (a 36, aI E 120 (hM 36)), (a 37, aI E 120 (hM 37)), (a 38, aI E 4096 (o_2 38)), (a 39, aI E 4096 (o_2 39)), (a 40, aI E 4096 (o_2 40)), (a 41, aI E 128 (o_2 41)), (a 42, aI E 98 (o_2 42)), (a 43, aI E 202 (o_2 43)), (a 44, aI E 4 (o_2 44))]) (fun _ => rfl) (fun _ => ?_)
    refine r.iload_n 1 (DX9_all 9 rfl) rfl ?_
    refine xif hxt (fun hc hxt => r.tsOut 135 (DX9_all 10 rfl) hc rfl ?_) (fun hn hxt => ?_)
    · refine r.aload_n 0 (DX9_all 49 rfl) rfl ?_
      obtain ⟨o_3, ho_3, hxt⟩ := xbd hxt
      refine r.callVI 0 rfl rfl (t_X9_keys E a (mgs hM [31, 42] o_2) ho_3) g_X9_251 rfl (DX9_all 50 rfl) rfl ⟨(Nat.le_of_ble_eq_true rfl), (Nat.le_of_ble_eq_true rfl)⟩ ⟨(Nat.le_of_ble_eq_true rfl), (Nat.le_of_ble_eq_true rfl)⟩ (Nat.le_of_ble_eq_true rfl) [0, 8] [1, 2, 3, 4, 5, 6, 7, 9, 10] rfl rfl rfl rfl (by decide) [9, 0, 1, 2, 3, 4, 5, 6, 10, 7, 8] rfl (ws2 := fun _ => [(a 31, oX9 a (o_2 31)), (a 32, aI E 8 (hM 32)), (a 36, aI E 120 (hM 36)), (a 37, aI E 120 (hM 37)), (a 38, aI E 4096 (o_2 38)), (a 39, aI E 4096 (o_2 39)), (a 40, aI E 4096 (o_2 40)), (a 41, aI E 128 (o_2 41)), (a 42, aI E 98 (o_2 42)), (a 43, aI E 202 (o_2 43)), (a 44, aI E 4 (o_2 44))]) (fun _ => rfl) (fun _ => ?_)
      cases hxt
      exact hret _ _ _ _ (DX9_all 51 rfl) rfl ⟨(), rfl, rfl⟩
    refine xif hxt (fun hc hxt => r.tsIn 72 (DX9_all 10 rfl) hc hn rfl rfl ?_) (fun _ hxt => ?_)
    · refine r.aload_n 0 (DX9_all 11 rfl) rfl ?_
      refine r.iload_n 1 (DX9_all 12 rfl) rfl ?_
      refine r.iconst (v := (1 : Int32)) (DX9_all 13 rfl) rfl ?_
      refine r.icmp_ne 82 (DX9_all 14 rfl) rfl hxt (fun _ hxt => ?_) (fun _ hxt => ?_)
      · refine r.iconst (v := (0 : Int32)) (DX9_all 17 rfl) rfl ?_
        obtain ⟨o_4, ho_4, hxt⟩ := xbd hxt
        refine r.callVI 0 rfl rfl (t_X9_positions E a (0 : Int32) (mgs hM [31, 39] o_2) ho_4) g_X9_229 rfl (DX9_all 18 rfl) rfl ⟨(Nat.le_of_ble_eq_true rfl), (Nat.le_of_ble_eq_true rfl)⟩ ⟨(Nat.le_of_ble_eq_true rfl), (Nat.le_of_ble_eq_true rfl)⟩ (Nat.le_of_ble_eq_true rfl) [0, 5] [1, 2, 3, 4, 6, 7, 8, 9, 10] rfl rfl rfl rfl (by decide) [9, 0, 1, 2, 3, 10, 4, 5, 6, 7, 8] rfl (ws2 := fun _ => [(a 31, oX9 a (o_2 31)), (a 32, aI E 8 (hM 32)), (a 36, aI E 120 (hM 36)), (a 37, aI E 120 (hM 37)), (a 38, aI E 4096 (o_2 38)), (a 39, aI E 4096 (o_2 39)), (a 40, aI E 4096 (o_2 40)), (a 41, aI E 128 (o_2 41)), (a 42, aI E 98 (o_2 42)), (a 43, aI E 202 (o_2 43)), (a 44, aI E 4 (o_2 44))]) (fun _ => rfl) (fun _ => ?_)
        cases hxt
        exact hret _ _ _ _ (DX9_all 19 rfl) rfl ⟨(), rfl, rfl⟩
      refine r.iconst (v := (1 : Int32)) (DX9_all 15 rfl) rfl ?_
      refine r.goto 83 (DX9_all 16 rfl) rfl ?_
      obtain ⟨o_5, ho_5, hxt⟩ := xbd hxt
      refine r.callVI 0 rfl rfl (t_X9_positions E a (1 : Int32) (mgs hM [31, 39] o_2) ho_5) g_X9_229 rfl (DX9_all 18 rfl) rfl ⟨(Nat.le_of_ble_eq_true rfl), (Nat.le_of_ble_eq_true rfl)⟩ ⟨(Nat.le_of_ble_eq_true rfl), (Nat.le_of_ble_eq_true rfl)⟩ (Nat.le_of_ble_eq_true rfl) [0, 5] [1, 2, 3, 4, 6, 7, 8, 9, 10] rfl rfl rfl rfl (by decide) [9, 0, 1, 2, 3, 10, 4, 5, 6, 7, 8] rfl (ws2 := fun _ => [(a 31, oX9 a (o_2 31)), (a 32, aI E 8 (hM 32)), (a 36, aI E 120 (hM 36)), (a 37, aI E 120 (hM 37)), (a 38, aI E 4096 (o_2 38)), (a 39, aI E 4096 (o_2 39)), (a 40, aI E 4096 (o_2 40)), (a 41, aI E 128 (o_2 41)), (a 42, aI E 98 (o_2 42)), (a 43, aI E 202 (o_2 43)), (a 44, aI E 4 (o_2 44))]) (fun _ => rfl) (fun _ => ?_)
      cases hxt
      exact hret _ _ _ _ (DX9_all 19 rfl) rfl ⟨(), rfl, rfl⟩
    refine xif hxt (fun hc hxt => r.tsIn 72 (DX9_all 10 rfl) hc hn rfl rfl ?_) (fun _ hxt => ?_)
    · refine r.aload_n 0 (DX9_all 11 rfl) rfl ?_
      refine r.iload_n 1 (DX9_all 12 rfl) rfl ?_
      refine r.iconst (v := (1 : Int32)) (DX9_all 13 rfl) rfl ?_
      refine r.icmp_ne 82 (DX9_all 14 rfl) rfl hxt (fun _ hxt => ?_) (fun _ hxt => ?_)
      · refine r.iconst (v := (0 : Int32)) (DX9_all 17 rfl) rfl ?_
        obtain ⟨o_6, ho_6, hxt⟩ := xbd hxt
        refine r.callVI 0 rfl rfl (t_X9_positions E a (0 : Int32) (mgs hM [31, 39] o_2) ho_6) g_X9_229 rfl (DX9_all 18 rfl) rfl ⟨(Nat.le_of_ble_eq_true rfl), (Nat.le_of_ble_eq_true rfl)⟩ ⟨(Nat.le_of_ble_eq_true rfl), (Nat.le_of_ble_eq_true rfl)⟩ (Nat.le_of_ble_eq_true rfl) [0, 5] [1, 2, 3, 4, 6, 7, 8, 9, 10] rfl rfl rfl rfl (by decide) [9, 0, 1, 2, 3, 10, 4, 5, 6, 7, 8] rfl (ws2 := fun _ => [(a 31, oX9 a (o_2 31)), (a 32, aI E 8 (hM 32)), (a 36, aI E 120 (hM 36)), (a 37, aI E 120 (hM 37)), (a 38, aI E 4096 (o_2 38)), (a 39, aI E 4096 (o_2 39)), (a 40, aI E 4096 (o_2 40)), (a 41, aI E 128 (o_2 41)), (a 42, aI E 98 (o_2 42)), (a 43, aI E 202 (o_2 43)), (a 44, aI E 4 (o_2 44))]) (fun _ => rfl) (fun _ => ?_)
        cases hxt
        exact hret _ _ _ _ (DX9_all 19 rfl) rfl ⟨(), rfl, rfl⟩
      refine r.iconst (v := (1 : Int32)) (DX9_all 15 rfl) rfl ?_
      refine r.goto 83 (DX9_all 16 rfl) rfl ?_
      obtain ⟨o_7, ho_7, hxt⟩ := xbd hxt
      refine r.callVI 0 rfl rfl (t_X9_positions E a (1 : Int32) (mgs hM [31, 39] o_2) ho_7) g_X9_229 rfl (DX9_all 18 rfl) rfl ⟨(Nat.le_of_ble_eq_true rfl), (Nat.le_of_ble_eq_true rfl)⟩ ⟨(Nat.le_of_ble_eq_true rfl), (Nat.le_of_ble_eq_true rfl)⟩ (Nat.le_of_ble_eq_true rfl) [0, 5] [1, 2, 3, 4, 6, 7, 8, 9, 10] rfl rfl rfl rfl (by decide) [9, 0, 1, 2, 3, 10, 4, 5, 6, 7, 8] rfl (ws2 := fun _ => [(a 31, oX9 a (o_2 31)), (a 32, aI E 8 (hM 32)), (a 36, aI E 120 (hM 36)), (a 37, aI E 120 (hM 37)), (a 38, aI E 4096 (o_2 38)), (a 39, aI E 4096 (o_2 39)), (a 40, aI E 4096 (o_2 40)), (a 41, aI E 128 (o_2 41)), (a 42, aI E 98 (o_2 42)), (a 43, aI E 202 (o_2 43)), (a 44, aI E 4 (o_2 44))]) (fun _ => rfl) (fun _ => ?_)
      cases hxt
      exact hret _ _ _ _ (DX9_all 19 rfl) rfl ⟨(), rfl, rfl⟩
    refine xif hxt (fun hc hxt => r.tsIn 87 (DX9_all 10 rfl) hc hn rfl rfl ?_) (fun _ hxt => ?_)
    · refine r.aload_n 0 (DX9_all 20 rfl) rfl ?_
      refine r.get (v := .int ((o_2 31) 12)) kX9 f_X9_125 rfl 0 rfl rfl (DX9_all 21 rfl) ?_
      cases hxt
      exact hret _ _ _ _ (DX9_all 22 rfl) rfl ⟨(), rfl, rfl⟩
    refine xif hxt (fun hc hxt => r.tsIn 92 (DX9_all 10 rfl) hc hn rfl rfl ?_) (fun _ hxt => ?_)
    · refine r.aload_n 0 (DX9_all 23 rfl) rfl ?_
      obtain ⟨o_8, ho_8, hxt⟩ := xbd hxt
      refine r.callVI 0 rfl rfl (t_X9_greatest E a (mgs hM [31, 38] o_2) ho_8) g_X9_233 rfl (DX9_all 24 rfl) rfl ⟨(Nat.le_of_ble_eq_true rfl), (Nat.le_of_ble_eq_true rfl)⟩ ⟨(Nat.le_of_ble_eq_true rfl), (Nat.le_of_ble_eq_true rfl)⟩ (Nat.le_of_ble_eq_true rfl) [0, 4] [1, 2, 3, 5, 6, 7, 8, 9, 10] rfl rfl rfl rfl (by decide) [9, 0, 1, 2, 10, 3, 4, 5, 6, 7, 8] rfl (ws2 := fun _ => [(a 31, oX9 a (o_2 31)), (a 32, aI E 8 (hM 32)), (a 36, aI E 120 (hM 36)), (a 37, aI E 120 (hM 37)), (a 38, aI E 4096 (o_2 38)), (a 39, aI E 4096 (o_2 39)), (a 40, aI E 4096 (o_2 40)), (a 41, aI E 128 (o_2 41)), (a 42, aI E 98 (o_2 42)), (a 43, aI E 202 (o_2 43)), (a 44, aI E 4 (o_2 44))]) (fun _ => rfl) (fun _ => ?_)
      cases hxt
      exact hret _ _ _ _ (DX9_all 25 rfl) rfl ⟨(), rfl, rfl⟩
    refine xif hxt (fun hc hxt => r.tsIn 97 (DX9_all 10 rfl) hc hn rfl rfl ?_) (fun _ hxt => ?_)
    · refine r.aload_n 0 (DX9_all 26 rfl) rfl ?_
      refine r.aload_n 0 (DX9_all 27 rfl) rfl ?_
      obtain ⟨o_9, ho_9, hxt⟩ := xbd hxt
      refine r.callVI 0 rfl rfl (t_X9_greatest E a (mgs hM [31, 38] o_2) ho_9) g_X9_233 rfl (DX9_all 28 rfl) rfl ⟨(Nat.le_of_ble_eq_true rfl), (Nat.le_of_ble_eq_true rfl)⟩ ⟨(Nat.le_of_ble_eq_true rfl), (Nat.le_of_ble_eq_true rfl)⟩ (Nat.le_of_ble_eq_true rfl) [0, 4] [1, 2, 3, 5, 6, 7, 8, 9, 10] rfl rfl rfl rfl (by decide) [9, 0, 1, 2, 10, 3, 4, 5, 6, 7, 8] rfl (ws2 := fun _ => [(a 31, oX9 a (o_2 31)), (a 32, aI E 8 (hM 32)), (a 36, aI E 120 (hM 36)), (a 37, aI E 120 (hM 37)), (a 38, aI E 4096 (o_2 38)), (a 39, aI E 4096 (o_2 39)), (a 40, aI E 4096 (o_2 40)), (a 41, aI E 128 (o_2 41)), (a 42, aI E 98 (o_2 42)), (a 43, aI E 202 (o_2 43)), (a 44, aI E 4 (o_2 44))]) (fun _ => rfl) (fun _ => ?_)
      obtain ⟨o_10, ho_10, hxt⟩ := xbd hxt
      refine r.callVI 0 rfl rfl (t_X9_lowestWith E a o_9 (mgs hM [31, 38] o_2) ho_10) g_X9_236 rfl (DX9_all 29 rfl) rfl ⟨(Nat.le_of_ble_eq_true rfl), (Nat.le_of_ble_eq_true rfl)⟩ ⟨(Nat.le_of_ble_eq_true rfl), (Nat.le_of_ble_eq_true rfl)⟩ (Nat.le_of_ble_eq_true rfl) [0, 4] [1, 2, 3, 5, 6, 7, 8, 9, 10] rfl rfl rfl rfl (by decide) [9, 0, 1, 2, 10, 3, 4, 5, 6, 7, 8] rfl (ws2 := fun _ => [(a 31, oX9 a (o_2 31)), (a 32, aI E 8 (hM 32)), (a 36, aI E 120 (hM 36)), (a 37, aI E 120 (hM 37)), (a 38, aI E 4096 (o_2 38)), (a 39, aI E 4096 (o_2 39)), (a 40, aI E 4096 (o_2 40)), (a 41, aI E 128 (o_2 41)), (a 42, aI E 98 (o_2 42)), (a 43, aI E 202 (o_2 43)), (a 44, aI E 4 (o_2 44))]) (fun _ => rfl) (fun _ => ?_)
      cases hxt
      exact hret _ _ _ _ (DX9_all 30 rfl) rfl ⟨(), rfl, rfl⟩
    refine xif hxt (fun hc hxt => r.tsIn 106 (DX9_all 10 rfl) hc hn rfl rfl ?_) (fun _ hxt => ?_)
    · refine r.aload_n 0 (DX9_all 31 rfl) rfl ?_
      refine r.bipush (v := (-6 : Int32)) (DX9_all 32 rfl) rfl ?_
      obtain ⟨o_11, ho_11, hxt⟩ := xbd hxt
      refine r.callVI 0 rfl rfl (t_X9_standingWith E a (-6 : Int32) (mgs hM [31, 38, 39] o_2) ho_11) g_X9_239 rfl (DX9_all 33 rfl) rfl ⟨(Nat.le_of_ble_eq_true rfl), (Nat.le_of_ble_eq_true rfl)⟩ ⟨(Nat.le_of_ble_eq_true rfl), (Nat.le_of_ble_eq_true rfl)⟩ (Nat.le_of_ble_eq_true rfl) [0, 4, 5] [1, 2, 3, 6, 7, 8, 9, 10] rfl rfl rfl rfl (by decide) [8, 0, 1, 2, 9, 10, 3, 4, 5, 6, 7] rfl (ws2 := fun _ => [(a 31, oX9 a (o_2 31)), (a 32, aI E 8 (hM 32)), (a 36, aI E 120 (hM 36)), (a 37, aI E 120 (hM 37)), (a 38, aI E 4096 (o_2 38)), (a 39, aI E 4096 (o_2 39)), (a 40, aI E 4096 (o_2 40)), (a 41, aI E 128 (o_2 41)), (a 42, aI E 98 (o_2 42)), (a 43, aI E 202 (o_2 43)), (a 44, aI E 4 (o_2 44))]) (fun _ => rfl) (fun _ => ?_)
      cases hxt
      exact hret _ _ _ _ (DX9_all 34 rfl) rfl ⟨(), rfl, rfl⟩
    refine xif hxt (fun hc hxt => r.tsIn 113 (DX9_all 10 rfl) hc hn rfl rfl ?_) (fun _ hxt => ?_)
    · refine r.aload_n 0 (DX9_all 35 rfl) rfl ?_
      obtain ⟨o_12, ho_12, hxt⟩ := xbd hxt
      refine r.callVI 0 rfl rfl (t_X9_exceptions E a (mgs hM [31, 38, 39, 42] o_2) ho_12) g_X9_242 rfl (DX9_all 36 rfl) rfl ⟨(Nat.le_of_ble_eq_true rfl), (Nat.le_of_ble_eq_true rfl)⟩ ⟨(Nat.le_of_ble_eq_true rfl), (Nat.le_of_ble_eq_true rfl)⟩ (Nat.le_of_ble_eq_true rfl) [0, 2, 3, 4, 5, 8] [1, 6, 7, 9, 10] rfl rfl rfl rfl (by decide) [5, 0, 6, 7, 8, 9, 1, 2, 10, 3, 4] rfl (ws2 := fun _ => [(a 31, oX9 a (o_2 31)), (a 32, aI E 8 (hM 32)), (a 36, aI E 120 (hM 36)), (a 37, aI E 120 (hM 37)), (a 38, aI E 4096 (o_2 38)), (a 39, aI E 4096 (o_2 39)), (a 40, aI E 4096 (o_2 40)), (a 41, aI E 128 (o_2 41)), (a 42, aI E 98 (o_2 42)), (a 43, aI E 202 (o_2 43)), (a 44, aI E 4 (o_2 44))]) (fun _ => rfl) (fun _ => ?_)
      cases hxt
      exact hret _ _ _ _ (DX9_all 37 rfl) rfl ⟨(), rfl, rfl⟩
    refine xif hxt (fun hc hxt => r.tsIn 118 (DX9_all 10 rfl) hc hn rfl rfl ?_) (fun _ hxt => ?_)
    · refine r.aload_n 0 (DX9_all 38 rfl) rfl ?_
      refine r.iconst (v := (0 : Int32)) (DX9_all 39 rfl) rfl ?_
      obtain ⟨o_13, ho_13, hxt⟩ := xbd hxt
      refine r.callVI 0 rfl rfl (t_X9_runs E a (0 : Int32) (mgs hM [31, 38, 39, 42] o_2) ho_13) g_X9_245 rfl (DX9_all 40 rfl) rfl ⟨(Nat.le_of_ble_eq_true rfl), (Nat.le_of_ble_eq_true rfl)⟩ ⟨(Nat.le_of_ble_eq_true rfl), (Nat.le_of_ble_eq_true rfl)⟩ (Nat.le_of_ble_eq_true rfl) [0, 2, 3, 4, 5, 8] [1, 6, 7, 9, 10] rfl rfl rfl rfl (by decide) [5, 0, 6, 7, 8, 9, 1, 2, 10, 3, 4] rfl (ws2 := fun _ => [(a 31, oX9 a (o_2 31)), (a 32, aI E 8 (hM 32)), (a 36, aI E 120 (hM 36)), (a 37, aI E 120 (hM 37)), (a 38, aI E 4096 (o_2 38)), (a 39, aI E 4096 (o_2 39)), (a 40, aI E 4096 (o_2 40)), (a 41, aI E 128 (o_2 41)), (a 42, aI E 98 (o_2 42)), (a 43, aI E 202 (o_2 43)), (a 44, aI E 4 (o_2 44))]) (fun _ => rfl) (fun _ => ?_)
      cases hxt
      exact hret _ _ _ _ (DX9_all 41 rfl) rfl ⟨(), rfl, rfl⟩
    refine xif hxt (fun hc hxt => r.tsIn 124 (DX9_all 10 rfl) hc hn rfl rfl ?_) (fun _ hxt => ?_)
    · refine r.aload_n 0 (DX9_all 42 rfl) rfl ?_
      obtain ⟨o_14, ho_14, hxt⟩ := xbd hxt
      refine r.callVI 0 rfl rfl (t_X9_blocks E a (mgs hM [31, 38, 39, 42] o_2) ho_14) g_X9_248 rfl (DX9_all 43 rfl) rfl ⟨(Nat.le_of_ble_eq_true rfl), (Nat.le_of_ble_eq_true rfl)⟩ ⟨(Nat.le_of_ble_eq_true rfl), (Nat.le_of_ble_eq_true rfl)⟩ (Nat.le_of_ble_eq_true rfl) [0, 2, 3, 4, 5, 8] [1, 6, 7, 9, 10] rfl rfl rfl rfl (by decide) [5, 0, 6, 7, 8, 9, 1, 2, 10, 3, 4] rfl (ws2 := fun _ => [(a 31, oX9 a (o_2 31)), (a 32, aI E 8 (hM 32)), (a 36, aI E 120 (hM 36)), (a 37, aI E 120 (hM 37)), (a 38, aI E 4096 (o_2 38)), (a 39, aI E 4096 (o_2 39)), (a 40, aI E 4096 (o_2 40)), (a 41, aI E 128 (o_2 41)), (a 42, aI E 98 (o_2 42)), (a 43, aI E 202 (o_2 43)), (a 44, aI E 4 (o_2 44))]) (fun _ => rfl) (fun _ => ?_)
      cases hxt
      exact hret _ _ _ _ (DX9_all 44 rfl) rfl ⟨(), rfl, rfl⟩
    refine xif hxt (fun hc hxt => r.tsIn 129 (DX9_all 10 rfl) hc hn rfl rfl ?_) (fun _ hxt => ?_)
    · refine r.aload_n 0 (DX9_all 45 rfl) rfl ?_
      refine r.iconst (v := (1 : Int32)) (DX9_all 46 rfl) rfl ?_
      obtain ⟨o_15, ho_15, hxt⟩ := xbd hxt
      refine r.callVI 0 rfl rfl (t_X9_runs E a (1 : Int32) (mgs hM [31, 38, 39, 42] o_2) ho_15) g_X9_245 rfl (DX9_all 47 rfl) rfl ⟨(Nat.le_of_ble_eq_true rfl), (Nat.le_of_ble_eq_true rfl)⟩ ⟨(Nat.le_of_ble_eq_true rfl), (Nat.le_of_ble_eq_true rfl)⟩ (Nat.le_of_ble_eq_true rfl) [0, 2, 3, 4, 5, 8] [1, 6, 7, 9, 10] rfl rfl rfl rfl (by decide) [5, 0, 6, 7, 8, 9, 1, 2, 10, 3, 4] rfl (ws2 := fun _ => [(a 31, oX9 a (o_2 31)), (a 32, aI E 8 (hM 32)), (a 36, aI E 120 (hM 36)), (a 37, aI E 120 (hM 37)), (a 38, aI E 4096 (o_2 38)), (a 39, aI E 4096 (o_2 39)), (a 40, aI E 4096 (o_2 40)), (a 41, aI E 128 (o_2 41)), (a 42, aI E 98 (o_2 42)), (a 43, aI E 202 (o_2 43)), (a 44, aI E 4 (o_2 44))]) (fun _ => rfl) (fun _ => ?_)
      cases hxt
      exact hret _ _ _ _ (DX9_all 48 rfl) rfl ⟨(), rfl, rfl⟩
    cases hxt
  refine r.bipush (v := (-2 : Int32)) (DX9_all 5 rfl) rfl ?_
  cases hxt
  exact hret _ _ _ _ (DX9_all 6 rfl) rfl ⟨(), rfl, rfl⟩
set_option maxRecDepth 100000 in
set_option maxHeartbeats 4000000 in
theorem t_X9_withDistance (E : xE) (a : Nat → Nat) (x1 : Int32) (hM : Mem) {o : Int32 × Mem} (hxt : xt_X9_withDistance x1 hM = some o) : xMI (S := Unit) E yX9_withDistance cX9_withDistance 2 .int 9 0 0 [.ref (a 31), .int x1] [(a 31, oX9 a (hM 31)), (a 32, aI E 8 (hM 32)), (a 36, aI E 120 (hM 36)), (a 37, aI E 120 (hM 37)), (a 38, aI E 4096 (hM 38)), (a 39, aI E 4096 (hM 39)), (a 40, aI E 4096 (hM 40)), (a 41, aI E 128 (hM 41)), (a 42, aI E 98 (hM 42)), (a 43, aI E 202 (hM 43)), (a 44, aI E 4 (hM 44))] (fun _ => o.1) (fun _ => [(a 31, oX9 a (o.2 31)), (a 32, aI E 8 (hM 32)), (a 36, aI E 120 (hM 36)), (a 37, aI E 120 (hM 37)), (a 38, aI E 4096 (o.2 38)), (a 39, aI E 4096 (o.2 39)), (a 40, aI E 4096 (o.2 40)), (a 41, aI E 128 (o.2 41)), (a 42, aI E 98 (o.2 42)), (a 43, aI E 202 (o.2 43)), (a 44, aI E 4 (o.2 44))]) := by
  refine xMI.of (own := RX9) (lo0 := [(0, .ref (a 31)), (1, .int x1)]) (by decide +kernel) rfl rfl (Nat.le_of_ble_eq_true rfl) (fun V r hret => ?_)
  unfold xt_X9_withDistance at hxt
  refine r.iload_n 1 (DX9_withDistance 0 rfl) rfl ?_
  refine r.bipush (v := (-6 : Int32)) (DX9_withDistance 1 rfl) rfl ?_
  refine r.icmp_eq 20 (DX9_withDistance 2 rfl) rfl hxt (fun _ hxt => ?_) (fun _ hxt => ?_)
  · refine r.aload_n 0 (DX9_withDistance 10 rfl) rfl ?_
    obtain ⟨o_1, ho_1, hxt⟩ := xbd hxt
    refine r.callVV 0 rfl rfl (t_X9_work E a hM ho_1) g_X9_161 rfl (DX9_withDistance 11 rfl) rfl ⟨(Nat.le_of_ble_eq_true rfl), (Nat.le_of_ble_eq_true rfl)⟩ ⟨(Nat.le_of_ble_eq_true rfl), (Nat.le_of_ble_eq_true rfl)⟩ (Nat.le_of_ble_eq_true rfl) [0, 1, 2, 3, 4, 5, 6, 7, 8, 9, 10] [] rfl rfl rfl rfl (by decide) [0, 1, 2, 3, 4, 5, 6, 7, 8, 9, 10] rfl (ws2 := fun _ => [(a 31, oX9 a (o_1 31)), (a 32, aI E 8 (hM 32)), (a 36, aI E 120 (hM 36)), (a 37, aI E 120 (hM 37)), (a 38, aI E 4096 (o_1 38)), (a 39, aI E 4096 (o_1 39)), (a 40, aI E 4096 (o_1 40)), (a 41, aI E 128 (o_1 41)), (a 42, aI E 98 (o_1 42)), (a 43, aI E 202 (o_1 43)), (a 44, aI E 4 (o_1 44))]) (fun _ => rfl) (fun _ => ?_)
    refine r.aload_n 0 (DX9_withDistance 12 rfl) rfl ?_
    refine r.iload_n 1 (DX9_withDistance 13 rfl) rfl ?_
    obtain ⟨o_2, ho_2, hxt⟩ := xbd hxt
    refine r.callVI 0 rfl rfl (t_X9_standingWith E a x1 (mgs hM [31, 38, 39] o_1) ho_2) g_X9_239 rfl (DX9_withDistance 14 rfl) rfl ⟨(Nat.le_of_ble_eq_true rfl), (Nat.le_of_ble_eq_true rfl)⟩ ⟨(Nat.le_of_ble_eq_true rfl), (Nat.le_of_ble_eq_true rfl)⟩ (Nat.le_of_ble_eq_true rfl) [0, 4, 5] [1, 2, 3, 6, 7, 8, 9, 10] rfl rfl rfl rfl (by decide) [8, 0, 1, 2, 9, 10, 3, 4, 5, 6, 7] rfl (ws2 := fun _ => [(a 31, oX9 a (o_1 31)), (a 32, aI E 8 (hM 32)), (a 36, aI E 120 (hM 36)), (a 37, aI E 120 (hM 37)), (a 38, aI E 4096 (o_1 38)), (a 39, aI E 4096 (o_1 39)), (a 40, aI E 4096 (o_1 40)), (a 41, aI E 128 (o_1 41)), (a 42, aI E 98 (o_1 42)), (a 43, aI E 202 (o_1 43)), (a 44, aI E 4 (o_1 44))]) (fun _ => rfl) (fun _ => ?_)
    cases hxt
    exact hret _ _ _ _ (DX9_withDistance 15 rfl) rfl ⟨(), rfl, rfl⟩
  refine r.iload_n 1 (DX9_withDistance 3 rfl) rfl ?_
  refine r.iconst (v := (0 : Int32)) (DX9_withDistance 4 rfl) rfl ?_
  refine r.sipush (v := (200 : Int32)) (DX9_withDistance 5 rfl) rfl ?_
  obtain ⟨o_3, ho_3, hxt⟩ := xbd hxt
  refine r.callSI0 (t_X9_in E x1 (0 : Int32) (200 : Int32) ho_3) g_X9_53 rfl (DX9_withDistance 6 rfl) rfl ⟨(Nat.le_of_ble_eq_true rfl), (Nat.le_of_ble_eq_true rfl)⟩ (Nat.le_of_ble_eq_true rfl) ?_
  refine r.if_ne 20 (DX9_withDistance 7 rfl) rfl hxt (fun _ hxt => ?_) (fun _ hxt => ?_)
  · refine r.aload_n 0 (DX9_withDistance 10 rfl) rfl ?_
    obtain ⟨o_4, ho_4, hxt⟩ := xbd hxt
    refine r.callVV 0 rfl rfl (t_X9_work E a hM ho_4) g_X9_161 rfl (DX9_withDistance 11 rfl) rfl ⟨(Nat.le_of_ble_eq_true rfl), (Nat.le_of_ble_eq_true rfl)⟩ ⟨(Nat.le_of_ble_eq_true rfl), (Nat.le_of_ble_eq_true rfl)⟩ (Nat.le_of_ble_eq_true rfl) [0, 1, 2, 3, 4, 5, 6, 7, 8, 9, 10] [] rfl rfl rfl rfl (by decide) [0, 1, 2, 3, 4, 5, 6, 7, 8, 9, 10] rfl (ws2 := fun _ => [(a 31, oX9 a (o_4 31)), (a 32, aI E 8 (hM 32)), (a 36, aI E 120 (hM 36)), (a 37, aI E 120 (hM 37)), (a 38, aI E 4096 (o_4 38)), (a 39, aI E 4096 (o_4 39)), (a 40, aI E 4096 (o_4 40)), (a 41, aI E 128 (o_4 41)), (a 42, aI E 98 (o_4 42)), (a 43, aI E 202 (o_4 43)), (a 44, aI E 4 (o_4 44))]) (fun _ => rfl) (fun _ => ?_)
    refine r.aload_n 0 (DX9_withDistance 12 rfl) rfl ?_
    refine r.iload_n 1 (DX9_withDistance 13 rfl) rfl ?_
    obtain ⟨o_5, ho_5, hxt⟩ := xbd hxt
    refine r.callVI 0 rfl rfl (t_X9_standingWith E a x1 (mgs hM [31, 38, 39] o_4) ho_5) g_X9_239 rfl (DX9_withDistance 14 rfl) rfl ⟨(Nat.le_of_ble_eq_true rfl), (Nat.le_of_ble_eq_true rfl)⟩ ⟨(Nat.le_of_ble_eq_true rfl), (Nat.le_of_ble_eq_true rfl)⟩ (Nat.le_of_ble_eq_true rfl) [0, 4, 5] [1, 2, 3, 6, 7, 8, 9, 10] rfl rfl rfl rfl (by decide) [8, 0, 1, 2, 9, 10, 3, 4, 5, 6, 7] rfl (ws2 := fun _ => [(a 31, oX9 a (o_4 31)), (a 32, aI E 8 (hM 32)), (a 36, aI E 120 (hM 36)), (a 37, aI E 120 (hM 37)), (a 38, aI E 4096 (o_4 38)), (a 39, aI E 4096 (o_4 39)), (a 40, aI E 4096 (o_4 40)), (a 41, aI E 128 (o_4 41)), (a 42, aI E 98 (o_4 42)), (a 43, aI E 202 (o_4 43)), (a 44, aI E 4 (o_4 44))]) (fun _ => rfl) (fun _ => ?_)
    cases hxt
    exact hret _ _ _ _ (DX9_withDistance 15 rfl) rfl ⟨(), rfl, rfl⟩
  refine r.bipush (v := (-2 : Int32)) (DX9_withDistance 8 rfl) rfl ?_
  cases hxt
  exact hret _ _ _ _ (DX9_withDistance 9 rfl) rfl ⟨(), rfl, rfl⟩
set_option maxRecDepth 100000 in
set_option maxHeartbeats 4000000 in
theorem t_X9_rule (E : xE) (a : Nat → Nat) (x1 : Int32) (hM : Mem) {o : Int32 × Mem} (hxt : xt_X9_rule x1 hM = some o) : xMI (S := Unit) E yX9_rule cX9_rule 2 .int 9 0 0 [.ref (a 31), .int x1] [(a 31, oX9 a (hM 31)), (a 32, aI E 8 (hM 32)), (a 36, aI E 120 (hM 36)), (a 37, aI E 120 (hM 37)), (a 38, aI E 4096 (hM 38)), (a 39, aI E 4096 (hM 39)), (a 40, aI E 4096 (hM 40)), (a 41, aI E 128 (hM 41)), (a 42, aI E 98 (hM 42)), (a 43, aI E 202 (hM 43)), (a 44, aI E 4 (hM 44))] (fun _ => o.1) (fun _ => [(a 31, oX9 a (o.2 31)), (a 32, aI E 8 (hM 32)), (a 36, aI E 120 (hM 36)), (a 37, aI E 120 (hM 37)), (a 38, aI E 4096 (o.2 38)), (a 39, aI E 4096 (o.2 39)), (a 40, aI E 4096 (o.2 40)), (a 41, aI E 128 (o.2 41)), (a 42, aI E 98 (o.2 42)), (a 43, aI E 202 (o.2 43)), (a 44, aI E 4 (o.2 44))]) := by
  refine xMI.of (own := RX9) (lo0 := [(0, .ref (a 31)), (1, .int x1)]) (by decide +kernel) rfl rfl (Nat.le_of_ble_eq_true rfl) (fun V r hret => ?_)
  unfold xt_X9_rule at hxt
  refine r.iload_n 1 (DX9_rule 0 rfl) rfl ?_
  refine r.iconst (v := (0 : Int32)) (DX9_rule 1 rfl) rfl ?_
  refine r.bipush (v := (97 : Int32)) (DX9_rule 2 rfl) rfl ?_
  obtain ⟨o_1, ho_1, hxt⟩ := xbd hxt
  refine r.callSI0 (t_X9_in E x1 (0 : Int32) (97 : Int32) ho_1) g_X9_53 rfl (DX9_rule 3 rfl) rfl ⟨(Nat.le_of_ble_eq_true rfl), (Nat.le_of_ble_eq_true rfl)⟩ (Nat.le_of_ble_eq_true rfl) ?_
  refine r.if_ne 13 (DX9_rule 4 rfl) rfl hxt (fun _ hxt => ?_) (fun _ hxt => ?_)
  · refine r.aload_n 0 (DX9_rule 7 rfl) rfl ?_
    obtain ⟨o_2, ho_2, hxt⟩ := xbd hxt
    refine r.callVV 0 rfl rfl (t_X9_work E a hM ho_2) g_X9_161 rfl (DX9_rule 8 rfl) rfl ⟨(Nat.le_of_ble_eq_true rfl), (Nat.le_of_ble_eq_true rfl)⟩ ⟨(Nat.le_of_ble_eq_true rfl), (Nat.le_of_ble_eq_true rfl)⟩ (Nat.le_of_ble_eq_true rfl) [0, 1, 2, 3, 4, 5, 6, 7, 8, 9, 10] [] rfl rfl rfl rfl (by decide) [0, 1, 2, 3, 4, 5, 6, 7, 8, 9, 10] rfl (ws2 := fun _ => [(a 31, oX9 a (o_2 31)), (a 32, aI E 8 (hM 32)), (a 36, aI E 120 (hM 36)), (a 37, aI E 120 (hM 37)), (a 38, aI E 4096 (o_2 38)), (a 39, aI E 4096 (o_2 39)), (a 40, aI E 4096 (o_2 40)), (a 41, aI E 128 (o_2 41)), (a 42, aI E 98 (o_2 42)), (a 43, aI E 202 (o_2 43)), (a 44, aI E 4 (o_2 44))]) (fun _ => rfl) (fun _ => ?_)
    refine r.aload_n 0 (DX9_rule 9 rfl) rfl ?_
    refine r.get (v := .ref (a 42)) kX9 f_X9_41 rfl 0 rfl rfl (DX9_rule 10 rfl) ?_
    refine r.iload_n 1 (DX9_rule 11 rfl) rfl ?_
    obtain ⟨hin, hxt⟩ := xgd_some hxt
    refine r.iald 8 rfl hin (DX9_rule 12 rfl) ?_
    cases hxt
    exact hret _ _ _ _ (DX9_rule 13 rfl) rfl ⟨(), rfl, rfl⟩
  refine r.bipush (v := (-2 : Int32)) (DX9_rule 5 rfl) rfl ?_
  cases hxt
  exact hret _ _ _ _ (DX9_rule 6 rfl) rfl ⟨(), rfl, rfl⟩
set_option maxRecDepth 100000 in
set_option maxHeartbeats 4000000 in
theorem l_X9_put_5 (E : xE) (a : Nat → Nat) (x1 : Int64) (hM : Mem) {V : xVT} (r : Rl E RX9 cX9_put (xR 1 0 0) 7 false V) {o : Int32 × Mem} (hret : RtI cX9_put V .int 0 0 (fun v ws => ∃ u : Unit, v = o.1 ∧ ws = [(a 31, oX9 a (o.2 31)), (a 45, aI E 24 (o.2 45))])) {k : Int32 → Int64 → Option (Int32 × Mem)} (hk : ∀ (v3 : Int32) (v4 : Int64), k v3 v4 = some o → V 0 0 55 [(0, .ref (a 31)), (1, .long x1), (3, .int v3), (4, .long v4)] [] [(a 31, oX9 a (hM 31)), (a 45, aI E 24 (hM 45))]) : ∀ (n : Nat) (v3 : Int32) (v4 : Int64), xt_X9_put_l5 x1 hM k n v3 v4 = some o → V 0 0 5 [(0, .ref (a 31)), (1, .long x1), (3, .int v3), (4, .long v4)] [] [(a 31, oX9 a (hM 31)), (a 45, aI E 24 (hM 45))] := by
  intro n
  induction n with
  | zero => intro v3 v4 hxt; exact xno hxt
  | succ n ih =>
    intro v3 v4 hxt
    rw [xt_X9_put_l5] at hxt
    refine r.iload_n 2 (DX9_put_0 4 rfl) rfl ?_
    refine r.bipush (v := (8 : Int32)) (DX9_put_0 5 rfl) rfl ?_
    refine r.icmp_ge 55 (DX9_put_0 6 rfl) rfl hxt (fun _ hxt => ?_) (fun _ hxt => ?_)
    · exact hk v3 v4 hxt
    refine r.lload 3 (DX9_put_0 7 rfl) rfl ?_
    refine r.ldc2 (v := (255 : Int64)) (DX9_put_0 8 rfl) m1051 ?_
    refine r.land (DX9_put_0 9 rfl) ?_
    refine r.lconst (v := (0 : Int64)) (DX9_put_0 10 rfl) rfl ?_
    refine r.lcmp (DX9_put_0 11 rfl) ?_
    refine r.if_eq 55 (DX9_put_0 12 rfl) rfl hxt (fun _ hxt => ?_) (fun _ hxt => ?_)
    · exact hk v3 v4 hxt
    refine r.lload 3 (DX9_put_0 13 rfl) rfl ?_
    refine r.ldc2 (v := (255 : Int64)) (DX9_put_0 14 rfl) m1051 ?_
    refine r.land (DX9_put_0 15 rfl) ?_
    refine r.l2i (DX9_put_0 16 rfl) ?_
    refine r.bipush (v := (33 : Int32)) (DX9_put_0 17 rfl) rfl ?_
    refine r.bipush (v := (126 : Int32)) (DX9_put_0 18 rfl) rfl ?_
    obtain ⟨o_1, ho_1, hxt⟩ := xbd hxt
    refine r.callSI0 (t_X9_in E (v4 &&& (255 : Int64)).toInt32 (33 : Int32) (126 : Int32) ho_1) g_X9_53 rfl (DX9_put_0 19 rfl) rfl ⟨(Nat.le_of_ble_eq_true rfl), (Nat.le_of_ble_eq_true rfl)⟩ (Nat.le_of_ble_eq_true rfl) ?_
    refine r.if_ne 42 (DX9_put_0 20 rfl) rfl hxt (fun _ hxt => ?_) (fun _ hxt => ?_)
    · refine r.iinc (v := (v3 + (1 : Int32))) (lo' := [(3, .int (v3 + (1 : Int32))), (0, .ref (a 31)), (1, .long x1), (4, .long v4)]) 2 (DX9_put_0 23 rfl) rfl rfl (Nat.le_of_ble_eq_true rfl) rfl ?_
      refine r.lload 3 (DX9_put_0 24 rfl) rfl ?_
      refine r.bipush (v := (8 : Int32)) (DX9_put_0 25 rfl) rfl ?_
      refine r.lushr (DX9_put_0 26 rfl) ?_
      refine r.lstore (lo' := [(4, .long ((v4.toUInt64 >>> ((8 : Int32).toInt64.toUInt64 &&& Int64.toUInt64 63)).toInt64)), (3, .int (v3 + (1 : Int32))), (0, .ref (a 31)), (1, .long x1)]) (DX9_put_0 27 rfl) (Nat.le_of_ble_eq_true rfl) rfl ?_
      refine r.goto 5 (DX9_put_0 28 rfl) rfl ?_
      refine r.rel (lo' := [(0, .ref (a 31)), (1, .long x1), (3, .int (v3 + (1 : Int32))), (4, .long ((v4.toUInt64 >>> ((8 : Int32).toInt64.toUInt64 &&& Int64.toUInt64 63)).toInt64))]) [2, 3, 1, 0] rfl ?_
      exact ih (v3 + (1 : Int32)) ((v4.toUInt64 >>> ((8 : Int32).toInt64.toUInt64 &&& Int64.toUInt64 63)).toInt64) hxt
    refine r.bipush (v := (-2 : Int32)) (DX9_put_0 21 rfl) rfl ?_
    cases hxt
    exact hret _ _ _ _ (DX9_put_0 22 rfl) rfl ⟨(), rfl, rfl⟩
set_option maxRecDepth 100000 in
set_option maxHeartbeats 4000000 in
theorem l_X9_put_86 (E : xE) (a : Nat → Nat) (x1 : Int64) (x3 : Int32) (hM : Mem) {V : xVT} (r : Rl E RX9 cX9_put (xR 1 0 0) 7 false V) {o : Int32 × Mem} {k : Mem → Option (Int32 × Mem)} (hk : ∀ (mM : Mem), k mM = some o → V 0 0 126 [(0, .ref (a 31)), (3, .int x3)] [] [(a 31, oX9 a (hM 31)), (a 45, aI E 24 (mM 45))]) : ∀ (n : Nat) (v6 : Int32) (mM : Mem), xt_X9_put_l86 x1 x3 hM k n v6 mM = some o → V 0 0 86 [(0, .ref (a 31)), (1, .long x1), (3, .int x3), (6, .int v6)] [] [(a 31, oX9 a (hM 31)), (a 45, aI E 24 (mM 45))] := by
  intro n
  induction n with
  | zero => intro v6 mM hxt; exact xno hxt
  | succ n ih =>
    intro v6 mM hxt
    rw [xt_X9_put_l86] at hxt
    refine r.iload 3 (DX9_put_0 47 rfl) rfl ?_
    refine r.iload_n 2 (DX9_put_0 48 rfl) rfl ?_
    refine r.icmp_ge 126 (DX9_put_0 49 rfl) rfl hxt (fun _ hxt => ?_) (fun _ hxt => ?_)
    · refine r.rel (lo' := [(0, .ref (a 31)), (3, .int x3)]) [0, 2] rfl ?_
      exact hk (mgs hM [45] mM) hxt
    refine r.aload_n 0 (DX9_put_0 50 rfl) rfl ?_
    refine r.get (v := .ref (a 45)) kX9 f_X9_50 rfl 0 rfl rfl (DX9_put_0 51 rfl) ?_
    refine r.aload_n 0 (DX9_put_0 52 rfl) rfl ?_
    refine r.get (v := .int ((hM 31) 20)) kX9 f_X9_223 rfl 0 rfl rfl (DX9_put_0 53 rfl) ?_
    refine r.iload 3 (DX9_put_0 54 rfl) rfl ?_
    refine r.iadd (DX9_put_0 55 rfl) ?_
    refine r.lload_n 1 (DX9_put_0 56 rfl) rfl ?_
    refine r.bipush (v := (8 : Int32)) (DX9_put_0 57 rfl) rfl ?_
    refine r.iload_n 2 (DX9_put_0 58 rfl) rfl ?_
    refine r.iconst (v := (1 : Int32)) (DX9_put_0 59 rfl) rfl ?_
    refine r.isub (DX9_put_1 0 rfl) ?_
    refine r.iload 3 (DX9_put_1 1 rfl) rfl ?_
    refine r.isub (DX9_put_1 2 rfl) ?_
    refine r.imul (DX9_put_1 3 rfl) ?_
    refine r.lshr (DX9_put_1 4 rfl) ?_
    refine r.ldc2 (v := (255 : Int64)) (DX9_put_1 5 rfl) m1051 ?_
    refine r.land (DX9_put_1 6 rfl) ?_
    refine r.l2i (DX9_put_1 7 rfl) ?_
    obtain ⟨hin, hxt⟩ := xgd_some hxt
    refine r.iast (ws' := [(a 31, oX9 a (hM 31)), (a 45, aI E 24 (upd (mM 45) (((hM 31) 20) + v6).toNatClampNeg ((x1 >>> (((8 : Int32) * ((x3 - (1 : Int32)) - v6)).toInt64 &&& 63)) &&& (255 : Int64)).toInt32))]) 1 rfl hin rfl (DX9_put_1 8 rfl) ?_
    refine r.iinc (v := (v6 + (1 : Int32))) (lo' := [(6, .int (v6 + (1 : Int32))), (0, .ref (a 31)), (1, .long x1), (3, .int x3)]) 3 (DX9_put_1 9 rfl) rfl rfl (Nat.le_of_ble_eq_true rfl) rfl ?_
    refine r.goto 86 (DX9_put_1 10 rfl) rfl ?_
    refine r.rel (lo' := [(0, .ref (a 31)), (1, .long x1), (3, .int x3), (6, .int (v6 + (1 : Int32)))]) [1, 2, 3, 0] rfl ?_
    exact ih (v6 + (1 : Int32)) (mset hM 45 (upd (mM 45) (((hM 31) 20) + v6).toNatClampNeg ((x1 >>> (((8 : Int32) * ((x3 - (1 : Int32)) - v6)).toInt64 &&& 63)) &&& (255 : Int64)).toInt32)) hxt
set_option maxRecDepth 100000 in
set_option maxHeartbeats 4000000 in
theorem t_X9_put (E : xE) (a : Nat → Nat) (x1 : Int64) (hM : Mem) {o : Int32 × Mem} (hxt : xt_X9_put x1 hM = some o) : xMI (S := Unit) E yX9_put cX9_put 7 .int 1 0 0 [.ref (a 31), .long x1] [(a 31, oX9 a (hM 31)), (a 45, aI E 24 (hM 45))] (fun _ => o.1) (fun _ => [(a 31, oX9 a (o.2 31)), (a 45, aI E 24 (o.2 45))]) := by
  refine xMI.of (own := RX9) (lo0 := [(0, .ref (a 31)), (1, .long x1)]) (by decide +kernel) rfl rfl (Nat.le_of_ble_eq_true rfl) (fun V r hret => ?_)
  unfold xt_X9_put at hxt
  refine r.iconst (v := (0 : Int32)) (DX9_put_0 0 rfl) rfl ?_
  refine r.istore_n (lo' := [(3, .int (0 : Int32)), (0, .ref (a 31)), (1, .long x1)]) (DX9_put_0 1 rfl) (Nat.le_of_ble_eq_true rfl) rfl ?_
  refine r.lload_n 2 (DX9_put_0 2 rfl) rfl ?_
  refine r.lstore (lo' := [(4, .long x1), (3, .int (0 : Int32)), (0, .ref (a 31)), (1, .long x1)]) (DX9_put_0 3 rfl) (Nat.le_of_ble_eq_true rfl) rfl ?_
  refine r.rel (lo' := [(0, .ref (a 31)), (1, .long x1), (3, .int (0 : Int32)), (4, .long x1)]) [2, 3, 1, 0] rfl ?_
  refine l_X9_put_5 E a x1 hM r hret (fun v3_2 v4_3 hxt => ?_) 10000 (0 : Int32) x1 hxt
  refine r.iload_n 2 (DX9_put_0 29 rfl) rfl ?_
  refine r.if_eq 66 (DX9_put_0 30 rfl) rfl hxt (fun _ hxt => ?_) (fun _ hxt => ?_)
  · refine r.bipush (v := (-2 : Int32)) (DX9_put_0 35 rfl) rfl ?_
    cases hxt
    exact hret _ _ _ _ (DX9_put_0 36 rfl) rfl ⟨(), rfl, rfl⟩
  refine r.lload 3 (DX9_put_0 31 rfl) rfl ?_
  refine r.lconst (v := (0 : Int64)) (DX9_put_0 32 rfl) rfl ?_
  refine r.lcmp (DX9_put_0 33 rfl) ?_
  refine r.if_eq 69 (DX9_put_0 34 rfl) rfl hxt (fun _ hxt => ?_) (fun _ hxt => ?_)
  · refine r.aload_n 0 (DX9_put_0 37 rfl) rfl ?_
    refine r.get (v := .int ((hM 31) 20)) kX9 f_X9_223 rfl 0 rfl rfl (DX9_put_0 38 rfl) ?_
    refine r.iload_n 2 (DX9_put_0 39 rfl) rfl ?_
    refine r.iadd (DX9_put_0 40 rfl) ?_
    refine r.bipush (v := (24 : Int32)) (DX9_put_0 41 rfl) rfl ?_
    refine r.icmp_le 83 (DX9_put_0 42 rfl) rfl hxt (fun _ hxt => ?_) (fun _ hxt => ?_)
    · refine r.iconst (v := (0 : Int32)) (DX9_put_0 45 rfl) rfl ?_
      refine r.istore (lo' := [(6, .int (0 : Int32)), (0, .ref (a 31)), (1, .long x1), (3, .int v3_2), (4, .long v4_3)]) (DX9_put_0 46 rfl) (Nat.le_of_ble_eq_true rfl) rfl ?_
      refine r.rel (lo' := [(0, .ref (a 31)), (1, .long x1), (3, .int v3_2), (6, .int (0 : Int32))]) [1, 2, 3, 0] rfl ?_
      refine l_X9_put_86 E a x1 v3_2 hM r (fun m_4 hxt => ?_) 10000 (0 : Int32) hM hxt
      refine r.aload_n 0 (DX9_put_1 11 rfl) rfl ?_
      refine r.dup (DX9_put_1 12 rfl) rfl ?_
      refine r.get (v := .int ((hM 31) 20)) kX9 f_X9_223 rfl 0 rfl rfl (DX9_put_1 13 rfl) ?_
      refine r.iload_n 1 (DX9_put_1 14 rfl) rfl ?_
      refine r.iadd (DX9_put_1 15 rfl) ?_
      refine r.put (ws' := [(a 31, oX9 a (upd (hM 31) 20 (((hM 31) 20) + v3_2))), (a 45, aI E 24 (m_4 45))]) kX9 f_X9_223 0 rfl rfl rfl rfl (Nat.le_of_ble_eq_true rfl) rfl (DX9_put_1 16 rfl) ?_
      refine r.aload_n 0 (DX9_put_1 17 rfl) rfl ?_
      refine r.get (v := .int (((hM 31) 20) + v3_2)) kX9 f_X9_223 rfl 0 rfl rfl (DX9_put_1 18 rfl) ?_
      cases hxt
      exact hret _ _ _ _ (DX9_put_1 19 rfl) rfl ⟨(), rfl, rfl⟩
    refine r.bipush (v := (-4 : Int32)) (DX9_put_0 43 rfl) rfl ?_
    cases hxt
    exact hret _ _ _ _ (DX9_put_0 44 rfl) rfl ⟨(), rfl, rfl⟩
  refine r.bipush (v := (-2 : Int32)) (DX9_put_0 35 rfl) rfl ?_
  cases hxt
  exact hret _ _ _ _ (DX9_put_0 36 rfl) rfl ⟨(), rfl, rfl⟩
set_option maxRecDepth 100000 in
set_option maxHeartbeats 4000000 in
theorem t_X9_wipe (E : xE) (a : Nat → Nat) (hM : Mem) {o : Int32 × Mem} (hxt : xt_X9_wipe hM = some o) : xMI (S := Unit) E yX9_wipe cX9_wipe 2 .int 0 0 0 [.ref (a 31)] [(a 31, oX9 a (hM 31))] (fun _ => o.1) (fun _ => [(a 31, oX9 a (o.2 31))]) := by
  refine xMI.of (own := RX9) (lo0 := [(0, .ref (a 31))]) (by decide +kernel) rfl rfl (Nat.le_of_ble_eq_true rfl) (fun V r hret => ?_)
  unfold xt_X9_wipe at hxt
  refine r.aload_n 0 (DX9_wipe 0 rfl) rfl ?_
  refine r.get (v := .int ((hM 31) 20)) kX9 f_X9_223 rfl 0 rfl rfl (DX9_wipe 1 rfl) ?_
  refine r.istore_n (lo' := [(1, .int ((hM 31) 20)), (0, .ref (a 31))]) (DX9_wipe 2 rfl) (Nat.le_of_ble_eq_true rfl) rfl ?_
  refine r.aload_n 1 (DX9_wipe 3 rfl) rfl ?_
  refine r.iconst (v := (0 : Int32)) (DX9_wipe 4 rfl) rfl ?_
  refine r.put (ws' := [(a 31, oX9 a (upd (hM 31) 20 (0 : Int32)))]) kX9 f_X9_223 0 rfl rfl rfl rfl (Nat.le_of_ble_eq_true rfl) rfl (DX9_wipe 5 rfl) ?_
  refine r.iload_n 0 (DX9_wipe 6 rfl) rfl ?_
  cases hxt
  exact hret _ _ _ _ (DX9_wipe 7 rfl) rfl ⟨(), rfl, rfl⟩
set_option maxRecDepth 100000 in
set_option maxHeartbeats 4000000 in
theorem l_X9_undo_35 (E : xE) (a : Nat → Nat) (x1 : Int32) (hM : Mem) {V : xVT} (r : Rl E RX9 cX9_undo (xR 0 0 0) 3 false V) {o : Int32 × Mem} {k : Mem → Option (Int32 × Mem)} (hk : ∀ (mM : Mem), k mM = some o → V 0 0 64 [(0, .ref (a 31))] [] [(a 31, oX9 a (hM 31)), (a 32, aI E 8 (mM 32)), (a 33, aI E 48 (hM 33))]) : ∀ (n : Nat) (v2 : Int32) (mM : Mem), xt_X9_undo_l35 x1 hM k n v2 mM = some o → V 0 0 35 [(0, .ref (a 31)), (1, .int x1), (2, .int v2)] [] [(a 31, oX9 a (hM 31)), (a 32, aI E 8 (mM 32)), (a 33, aI E 48 (hM 33))] := by
  intro n
  induction n with
  | zero => intro v2 mM hxt; exact xno hxt
  | succ n ih =>
    intro v2 mM hxt
    rw [xt_X9_undo_l35] at hxt
    refine r.iload_n 2 (DX9_undo 21 rfl) rfl ?_
    refine r.bipush (v := (8 : Int32)) (DX9_undo 22 rfl) rfl ?_
    refine r.icmp_ge 64 (DX9_undo 23 rfl) rfl hxt (fun _ hxt => ?_) (fun _ hxt => ?_)
    · refine r.rel (lo' := [(0, .ref (a 31))]) [0] rfl ?_
      exact hk (mgs hM [32] mM) hxt
    refine r.aload_n 0 (DX9_undo 24 rfl) rfl ?_
    refine r.get (v := .ref (a 32)) kX9 f_X9_7 rfl 0 rfl rfl (DX9_undo 25 rfl) ?_
    refine r.iload_n 2 (DX9_undo 26 rfl) rfl ?_
    refine r.aload_n 0 (DX9_undo 27 rfl) rfl ?_
    refine r.get (v := .ref (a 33)) kX9 f_X9_13 rfl 0 rfl rfl (DX9_undo 28 rfl) ?_
    refine r.bipush (v := (8 : Int32)) (DX9_undo 29 rfl) rfl ?_
    refine r.iload_n 1 (DX9_undo 30 rfl) rfl ?_
    refine r.imul (DX9_undo 31 rfl) ?_
    refine r.iload_n 2 (DX9_undo 32 rfl) rfl ?_
    refine r.iadd (DX9_undo 33 rfl) ?_
    obtain ⟨hin, hxt⟩ := xgd_some hxt
    refine r.iald 2 rfl hin (DX9_undo 34 rfl) ?_
    obtain ⟨hin, hxt⟩ := xgd_some hxt
    refine r.iast (ws' := [(a 31, oX9 a (hM 31)), (a 32, aI E 8 (upd (mM 32) v2.toNatClampNeg ((hM 33) (((8 : Int32) * x1) + v2).toNatClampNeg))), (a 33, aI E 48 (hM 33))]) 1 rfl hin rfl (DX9_undo 35 rfl) ?_
    refine r.iinc (v := (v2 + (1 : Int32))) (lo' := [(2, .int (v2 + (1 : Int32))), (0, .ref (a 31)), (1, .int x1)]) 2 (DX9_undo 36 rfl) rfl rfl (Nat.le_of_ble_eq_true rfl) rfl ?_
    refine r.goto 35 (DX9_undo 37 rfl) rfl ?_
    refine r.rel (lo' := [(0, .ref (a 31)), (1, .int x1), (2, .int (v2 + (1 : Int32)))]) [1, 2, 0] rfl ?_
    exact ih (v2 + (1 : Int32)) (mset hM 32 (upd (mM 32) v2.toNatClampNeg ((hM 33) (((8 : Int32) * x1) + v2).toNatClampNeg))) hxt
set_option maxRecDepth 100000 in
set_option maxHeartbeats 4000000 in
theorem t_X9_undo (E : xE) (a : Nat → Nat) (hM : Mem) {o : Int32 × Mem} (hxt : xt_X9_undo hM = some o) : xMI (S := Unit) E yX9_undo cX9_undo 3 .int 0 0 0 [.ref (a 31)] [(a 31, oX9 a (hM 31)), (a 32, aI E 8 (hM 32)), (a 33, aI E 48 (hM 33))] (fun _ => o.1) (fun _ => [(a 31, oX9 a (o.2 31)), (a 32, aI E 8 (o.2 32)), (a 33, aI E 48 (hM 33))]) := by
  refine xMI.of (own := RX9) (lo0 := [(0, .ref (a 31))]) (by decide +kernel) rfl rfl (Nat.le_of_ble_eq_true rfl) (fun V r hret => ?_)
  unfold xt_X9_undo at hxt
  refine r.aload_n 0 (DX9_undo 0 rfl) rfl ?_
  refine r.get (v := .int ((hM 31) 3)) kX9 f_X9_57 rfl 0 rfl rfl (DX9_undo 1 rfl) ?_
  refine r.if_ne 10 (DX9_undo 2 rfl) rfl hxt (fun _ hxt => ?_) (fun _ hxt => ?_)
  · refine r.aload_n 0 (DX9_undo 5 rfl) rfl ?_
    refine r.dup (DX9_undo 6 rfl) rfl ?_
    refine r.get (v := .int ((hM 31) 3)) kX9 f_X9_57 rfl 0 rfl rfl (DX9_undo 7 rfl) ?_
    refine r.iconst (v := (1 : Int32)) (DX9_undo 8 rfl) rfl ?_
    refine r.isub (DX9_undo 9 rfl) ?_
    refine r.put (ws' := [(a 31, oX9 a (upd (hM 31) 3 (((hM 31) 3) - (1 : Int32)))), (a 32, aI E 8 (hM 32)), (a 33, aI E 48 (hM 33))]) kX9 f_X9_57 0 rfl rfl rfl rfl (Nat.le_of_ble_eq_true rfl) rfl (DX9_undo 10 rfl) ?_
    refine r.aload_n 0 (DX9_undo 11 rfl) rfl ?_
    refine r.get (v := .int ((hM 31) 2)) kX9 f_X9_61 rfl 0 rfl rfl (DX9_undo 12 rfl) ?_
    refine r.aload_n 0 (DX9_undo 13 rfl) rfl ?_
    refine r.get (v := .int (((hM 31) 3) - (1 : Int32))) kX9 f_X9_57 rfl 0 rfl rfl (DX9_undo 14 rfl) ?_
    refine r.iadd (DX9_undo 15 rfl) ?_
    refine r.bipush (v := (6 : Int32)) (DX9_undo 16 rfl) rfl ?_
    refine r.irem (DX9_undo 17 rfl) (by decide) ?_
    refine r.istore_n (lo' := [(1, .int ((((hM 31) 2) + (((hM 31) 3) - (1 : Int32))) - (((hM 31) 2) + (((hM 31) 3) - (1 : Int32))) / (6 : Int32) * (6 : Int32))), (0, .ref (a 31))]) (DX9_undo 18 rfl) (Nat.le_of_ble_eq_true rfl) rfl ?_
    refine r.iconst (v := (0 : Int32)) (DX9_undo 19 rfl) rfl ?_
    refine r.istore_n (lo' := [(2, .int (0 : Int32)), (1, .int ((((hM 31) 2) + (((hM 31) 3) - (1 : Int32))) - (((hM 31) 2) + (((hM 31) 3) - (1 : Int32))) / (6 : Int32) * (6 : Int32))), (0, .ref (a 31))]) (DX9_undo 20 rfl) (Nat.le_of_ble_eq_true rfl) rfl ?_
    refine r.rel (lo' := [(0, .ref (a 31)), (1, .int ((((hM 31) 2) + (((hM 31) 3) - (1 : Int32))) - (((hM 31) 2) + (((hM 31) 3) - (1 : Int32))) / (6 : Int32) * (6 : Int32))), (2, .int (0 : Int32))]) [2, 1, 0] rfl ?_
    refine l_X9_undo_35 E a ((((hM 31) 2) + (((hM 31) 3) - (1 : Int32))) - (((hM 31) 2) + (((hM 31) 3) - (1 : Int32))) / (6 : Int32) * (6 : Int32)) (mset hM 31 (upd (hM 31) 3 (((hM 31) 3) - (1 : Int32)))) r (fun m_1 hxt => ?_) 10000 (0 : Int32) hM hxt
    refine r.aload_n 0 (DX9_undo 38 rfl) rfl ?_
    refine r.get (v := .int (((hM 31) 3) - (1 : Int32))) kX9 f_X9_57 rfl 0 rfl rfl (DX9_undo 39 rfl) ?_
    cases hxt
    exact hret _ _ _ _ (DX9_undo 40 rfl) rfl ⟨(), rfl, rfl⟩
  refine r.bipush (v := (-5 : Int32)) (DX9_undo 3 rfl) rfl ?_
  cases hxt
  exact hret _ _ _ _ (DX9_undo 4 rfl) rfl ⟨(), rfl, rfl⟩
set_option maxRecDepth 100000 in
set_option maxHeartbeats 4000000 in
theorem l_X9_save_14 (E : xE) (a : Nat → Nat) (x1 : Int32) (hM : Mem) {V : xVT} (r : Rl E RX9 cX9_save (xR 1 0 0) 3 false V) {o : Int32 × Mem} {k : Mem → Option (Int32 × Mem)} (hk : ∀ (mM : Mem), k mM = some o → V 0 0 43 [(0, .ref (a 31)), (1, .int x1)] [] [(a 31, oX9 a (hM 31)), (a 32, aI E 8 (hM 32)), (a 34, aI E 16 (mM 34)), (a 35, aZ E 2 (hM 35))]) : ∀ (n : Nat) (v2 : Int32) (mM : Mem), xt_X9_save_l14 x1 hM k n v2 mM = some o → V 0 0 14 [(0, .ref (a 31)), (1, .int x1), (2, .int v2)] [] [(a 31, oX9 a (hM 31)), (a 32, aI E 8 (hM 32)), (a 34, aI E 16 (mM 34)), (a 35, aZ E 2 (hM 35))] := by
  intro n
  induction n with
  | zero => intro v2 mM hxt; exact xno hxt
  | succ n ih =>
    intro v2 mM hxt
    rw [xt_X9_save_l14] at hxt
    refine r.iload_n 2 (DX9_save 9 rfl) rfl ?_
    refine r.bipush (v := (8 : Int32)) (DX9_save 10 rfl) rfl ?_
    refine r.icmp_ge 43 (DX9_save 11 rfl) rfl hxt (fun _ hxt => ?_) (fun _ hxt => ?_)
    · refine r.rel (lo' := [(0, .ref (a 31)), (1, .int x1)]) [0, 1] rfl ?_
      exact hk (mgs hM [34] mM) hxt
    refine r.aload_n 0 (DX9_save 12 rfl) rfl ?_
    refine r.get (v := .ref (a 34)) kX9 f_X9_16 rfl 0 rfl rfl (DX9_save 13 rfl) ?_
    refine r.bipush (v := (8 : Int32)) (DX9_save 14 rfl) rfl ?_
    refine r.iload_n 1 (DX9_save 15 rfl) rfl ?_
    refine r.imul (DX9_save 16 rfl) ?_
    refine r.iload_n 2 (DX9_save 17 rfl) rfl ?_
    refine r.iadd (DX9_save 18 rfl) ?_
    refine r.aload_n 0 (DX9_save 19 rfl) rfl ?_
    refine r.get (v := .ref (a 32)) kX9 f_X9_7 rfl 0 rfl rfl (DX9_save 20 rfl) ?_
    refine r.iload_n 2 (DX9_save 21 rfl) rfl ?_
    obtain ⟨hin, hxt⟩ := xgd_some hxt
    refine r.iald 1 rfl hin (DX9_save 22 rfl) ?_
    obtain ⟨hin, hxt⟩ := xgd_some hxt
    refine r.iast (ws' := [(a 31, oX9 a (hM 31)), (a 32, aI E 8 (hM 32)), (a 34, aI E 16 (upd (mM 34) (((8 : Int32) * x1) + v2).toNatClampNeg ((hM 32) v2.toNatClampNeg))), (a 35, aZ E 2 (hM 35))]) 2 rfl hin rfl (DX9_save 23 rfl) ?_
    refine r.iinc (v := (v2 + (1 : Int32))) (lo' := [(2, .int (v2 + (1 : Int32))), (0, .ref (a 31)), (1, .int x1)]) 2 (DX9_save 24 rfl) rfl rfl (Nat.le_of_ble_eq_true rfl) rfl ?_
    refine r.goto 14 (DX9_save 25 rfl) rfl ?_
    refine r.rel (lo' := [(0, .ref (a 31)), (1, .int x1), (2, .int (v2 + (1 : Int32)))]) [1, 2, 0] rfl ?_
    exact ih (v2 + (1 : Int32)) (mset hM 34 (upd (mM 34) (((8 : Int32) * x1) + v2).toNatClampNeg ((hM 32) v2.toNatClampNeg))) hxt
set_option maxRecDepth 100000 in
set_option maxHeartbeats 4000000 in
theorem t_X9_save (E : xE) (a : Nat → Nat) (x1 : Int32) (hM : Mem) {o : Int32 × Mem} (hxt : xt_X9_save x1 hM = some o) : xMI (S := Unit) E yX9_save cX9_save 3 .int 1 0 0 [.ref (a 31), .int x1] [(a 31, oX9 a (hM 31)), (a 32, aI E 8 (hM 32)), (a 34, aI E 16 (hM 34)), (a 35, aZ E 2 (hM 35))] (fun _ => o.1) (fun _ => [(a 31, oX9 a (hM 31)), (a 32, aI E 8 (hM 32)), (a 34, aI E 16 (o.2 34)), (a 35, aZ E 2 (o.2 35))]) := by
  refine xMI.of (own := RX9) (lo0 := [(0, .ref (a 31)), (1, .int x1)]) (by decide +kernel) rfl rfl (Nat.le_of_ble_eq_true rfl) (fun V r hret => ?_)
  unfold xt_X9_save at hxt
  refine r.iload_n 1 (DX9_save 0 rfl) rfl ?_
  refine r.iconst (v := (0 : Int32)) (DX9_save 1 rfl) rfl ?_
  refine r.iconst (v := (1 : Int32)) (DX9_save 2 rfl) rfl ?_
  obtain ⟨o_1, ho_1, hxt⟩ := xbd hxt
  refine r.callSI0 (t_X9_in E x1 (0 : Int32) (1 : Int32) ho_1) g_X9_53 rfl (DX9_save 3 rfl) rfl ⟨(Nat.le_of_ble_eq_true rfl), (Nat.le_of_ble_eq_true rfl)⟩ (Nat.le_of_ble_eq_true rfl) ?_
  refine r.if_ne 12 (DX9_save 4 rfl) rfl hxt (fun _ hxt => ?_) (fun _ hxt => ?_)
  · refine r.iconst (v := (0 : Int32)) (DX9_save 7 rfl) rfl ?_
    refine r.istore_n (lo' := [(2, .int (0 : Int32)), (0, .ref (a 31)), (1, .int x1)]) (DX9_save 8 rfl) (Nat.le_of_ble_eq_true rfl) rfl ?_
    refine r.rel (lo' := [(0, .ref (a 31)), (1, .int x1), (2, .int (0 : Int32))]) [1, 2, 0] rfl ?_
    refine l_X9_save_14 E a x1 hM r (fun m_2 hxt => ?_) 10000 (0 : Int32) hM hxt
    refine r.aload_n 0 (DX9_save 26 rfl) rfl ?_
    refine r.get (v := .ref (a 35)) kX9 f_X9_19 rfl 0 rfl rfl (DX9_save 27 rfl) ?_
    refine r.iload_n 1 (DX9_save 28 rfl) rfl ?_
    refine r.iconst (v := (1 : Int32)) (DX9_save 29 rfl) rfl ?_
    obtain ⟨hin, hxt⟩ := xgd_some hxt
    refine r.zast (ws' := [(a 31, oX9 a (hM 31)), (a 32, aI E 8 (hM 32)), (a 34, aI E 16 (m_2 34)), (a 35, aZ E 2 (upd (hM 35) x1.toNatClampNeg (vp_nar .boolean (1 : Int32))))]) 3 rfl hin rfl (DX9_save 30 rfl) ?_
    refine r.aload_n 0 (DX9_save 31 rfl) rfl ?_
    refine r.get (v := .ref (a 32)) kX9 f_X9_7 rfl 0 rfl rfl (DX9_save 32 rfl) ?_
    refine r.iconst (v := (3 : Int32)) (DX9_save 33 rfl) rfl ?_
    obtain ⟨hin, hxt⟩ := xgd_some hxt
    refine r.iald 1 rfl hin (DX9_save 34 rfl) ?_
    obtain ⟨o_3, ho_3, hxt⟩ := xbd hxt
    refine r.callSI0 (t_X9_many E ((hM 32) (3 : Int32).toNatClampNeg) ho_3) g_X9_198 rfl (DX9_save 35 rfl) rfl ⟨(Nat.le_of_ble_eq_true rfl), (Nat.le_of_ble_eq_true rfl)⟩ (Nat.le_of_ble_eq_true rfl) ?_
    cases hxt
    exact hret _ _ _ _ (DX9_save 36 rfl) rfl ⟨(), rfl, rfl⟩
  refine r.bipush (v := (-2 : Int32)) (DX9_save 5 rfl) rfl ?_
  cases hxt
  exact hret _ _ _ _ (DX9_save 6 rfl) rfl ⟨(), rfl, rfl⟩
set_option maxRecDepth 100000 in
set_option maxHeartbeats 4000000 in
theorem l_X9_restore_30 (E : xE) (a : Nat → Nat) (x1 : Int32) (hM : Mem) {V : xVT} (r : Rl E RX9 cX9_restore (xR 1 0 0) 3 false V) {o : Int32 × Mem} {k : Mem → Option (Int32 × Mem)} (hk : ∀ (mM : Mem), k mM = some o → V 0 0 59 [(0, .ref (a 31))] [] [(a 31, oX9 a (hM 31)), (a 32, aI E 8 (mM 32)), (a 33, aI E 48 (hM 33)), (a 34, aI E 16 (hM 34)), (a 35, aZ E 2 (hM 35))]) : ∀ (n : Nat) (v2 : Int32) (mM : Mem), xt_X9_restore_l30 x1 hM k n v2 mM = some o → V 0 0 30 [(0, .ref (a 31)), (1, .int x1), (2, .int v2)] [] [(a 31, oX9 a (hM 31)), (a 32, aI E 8 (mM 32)), (a 33, aI E 48 (hM 33)), (a 34, aI E 16 (hM 34)), (a 35, aZ E 2 (hM 35))] := by
  intro n
  induction n with
  | zero => intro v2 mM hxt; exact xno hxt
  | succ n ih =>
    intro v2 mM hxt
    rw [xt_X9_restore_l30] at hxt
    refine r.iload_n 2 (DX9_restore 18 rfl) rfl ?_
    refine r.bipush (v := (8 : Int32)) (DX9_restore 19 rfl) rfl ?_
    refine r.icmp_ge 59 (DX9_restore 20 rfl) rfl hxt (fun _ hxt => ?_) (fun _ hxt => ?_)
    · refine r.rel (lo' := [(0, .ref (a 31))]) [0] rfl ?_
      exact hk (mgs hM [32] mM) hxt
    refine r.aload_n 0 (DX9_restore 21 rfl) rfl ?_
    refine r.get (v := .ref (a 32)) kX9 f_X9_7 rfl 0 rfl rfl (DX9_restore 22 rfl) ?_
    refine r.iload_n 2 (DX9_restore 23 rfl) rfl ?_
    refine r.aload_n 0 (DX9_restore 24 rfl) rfl ?_
    refine r.get (v := .ref (a 34)) kX9 f_X9_16 rfl 0 rfl rfl (DX9_restore 25 rfl) ?_
    refine r.bipush (v := (8 : Int32)) (DX9_restore 26 rfl) rfl ?_
    refine r.iload_n 1 (DX9_restore 27 rfl) rfl ?_
    refine r.imul (DX9_restore 28 rfl) ?_
    refine r.iload_n 2 (DX9_restore 29 rfl) rfl ?_
    refine r.iadd (DX9_restore 30 rfl) ?_
    obtain ⟨hin, hxt⟩ := xgd_some hxt
    refine r.iald 3 rfl hin (DX9_restore 31 rfl) ?_
    obtain ⟨hin, hxt⟩ := xgd_some hxt
    refine r.iast (ws' := [(a 31, oX9 a (hM 31)), (a 32, aI E 8 (upd (mM 32) v2.toNatClampNeg ((hM 34) (((8 : Int32) * x1) + v2).toNatClampNeg))), (a 33, aI E 48 (hM 33)), (a 34, aI E 16 (hM 34)), (a 35, aZ E 2 (hM 35))]) 1 rfl hin rfl (DX9_restore 32 rfl) ?_
    refine r.iinc (v := (v2 + (1 : Int32))) (lo' := [(2, .int (v2 + (1 : Int32))), (0, .ref (a 31)), (1, .int x1)]) 2 (DX9_restore 33 rfl) rfl rfl (Nat.le_of_ble_eq_true rfl) rfl ?_
    refine r.goto 30 (DX9_restore 34 rfl) rfl ?_
    refine r.rel (lo' := [(0, .ref (a 31)), (1, .int x1), (2, .int (v2 + (1 : Int32)))]) [1, 2, 0] rfl ?_
    exact ih (v2 + (1 : Int32)) (mset hM 32 (upd (mM 32) v2.toNatClampNeg ((hM 34) (((8 : Int32) * x1) + v2).toNatClampNeg))) hxt
set_option maxRecDepth 100000 in
set_option maxHeartbeats 4000000 in
theorem t_X9_restore (E : xE) (a : Nat → Nat) (x1 : Int32) (hM : Mem) {o : Int32 × Mem} (hxt : xt_X9_restore x1 hM = some o) : xMI (S := Unit) E yX9_restore cX9_restore 3 .int 1 0 0 [.ref (a 31), .int x1] [(a 31, oX9 a (hM 31)), (a 32, aI E 8 (hM 32)), (a 33, aI E 48 (hM 33)), (a 34, aI E 16 (hM 34)), (a 35, aZ E 2 (hM 35))] (fun _ => o.1) (fun _ => [(a 31, oX9 a (o.2 31)), (a 32, aI E 8 (o.2 32)), (a 33, aI E 48 (o.2 33)), (a 34, aI E 16 (hM 34)), (a 35, aZ E 2 (hM 35))]) := by
  refine xMI.of (own := RX9) (lo0 := [(0, .ref (a 31)), (1, .int x1)]) (by decide +kernel) rfl rfl (Nat.le_of_ble_eq_true rfl) (fun V r hret => ?_)
  unfold xt_X9_restore at hxt
  refine r.iload_n 1 (DX9_restore 0 rfl) rfl ?_
  refine r.iconst (v := (0 : Int32)) (DX9_restore 1 rfl) rfl ?_
  refine r.iconst (v := (1 : Int32)) (DX9_restore 2 rfl) rfl ?_
  obtain ⟨o_1, ho_1, hxt⟩ := xbd hxt
  refine r.callSI0 (t_X9_in E x1 (0 : Int32) (1 : Int32) ho_1) g_X9_53 rfl (DX9_restore 3 rfl) rfl ⟨(Nat.le_of_ble_eq_true rfl), (Nat.le_of_ble_eq_true rfl)⟩ (Nat.le_of_ble_eq_true rfl) ?_
  refine r.if_ne 12 (DX9_restore 4 rfl) rfl hxt (fun _ hxt => ?_) (fun _ hxt => ?_)
  · refine r.aload_n 0 (DX9_restore 7 rfl) rfl ?_
    refine r.get (v := .ref (a 35)) kX9 f_X9_19 rfl 0 rfl rfl (DX9_restore 8 rfl) ?_
    refine r.iload_n 1 (DX9_restore 9 rfl) rfl ?_
    obtain ⟨hin, hxt⟩ := xgd_some hxt
    refine r.zald 4 rfl hin (DX9_restore 10 rfl) ?_
    refine r.if_ne 24 (DX9_restore 11 rfl) rfl hxt (fun _ hxt => ?_) (fun _ hxt => ?_)
    · refine r.aload_n 0 (DX9_restore 14 rfl) rfl ?_
      obtain ⟨o_2, ho_2, hxt⟩ := xbd hxt
      refine r.callVV 0 rfl rfl (t_X9_keep E a hM ho_2) g_X9_192 rfl (DX9_restore 15 rfl) rfl ⟨(Nat.le_of_ble_eq_true rfl), (Nat.le_of_ble_eq_true rfl)⟩ ⟨(Nat.le_of_ble_eq_true rfl), (Nat.le_of_ble_eq_true rfl)⟩ (Nat.le_of_ble_eq_true rfl) [0, 1, 2] [3, 4] rfl rfl rfl rfl (by decide) [2, 3, 4, 0, 1] rfl (ws2 := fun _ => [(a 31, oX9 a (o_2 31)), (a 32, aI E 8 (hM 32)), (a 33, aI E 48 (o_2 33)), (a 34, aI E 16 (hM 34)), (a 35, aZ E 2 (hM 35))]) (fun _ => rfl) (fun _ => ?_)
      refine r.iconst (v := (0 : Int32)) (DX9_restore 16 rfl) rfl ?_
      refine r.istore_n (lo' := [(2, .int (0 : Int32)), (0, .ref (a 31)), (1, .int x1)]) (DX9_restore 17 rfl) (Nat.le_of_ble_eq_true rfl) rfl ?_
      refine r.rel (lo' := [(0, .ref (a 31)), (1, .int x1), (2, .int (0 : Int32))]) [1, 2, 0] rfl ?_
      refine l_X9_restore_30 E a x1 (mgs hM [31, 33] o_2) r (fun m_3 hxt => ?_) 10000 (0 : Int32) hM hxt
      refine r.aload_n 0 (DX9_restore 35 rfl) rfl ?_
      refine r.get (v := .ref (a 32)) kX9 f_X9_7 rfl 0 rfl rfl (DX9_restore 36 rfl) ?_
      refine r.iconst (v := (3 : Int32)) (DX9_restore 37 rfl) rfl ?_
      obtain ⟨hin, hxt⟩ := xgd_some hxt
      refine r.iald 1 rfl hin (DX9_restore 38 rfl) ?_
      obtain ⟨o_4, ho_4, hxt⟩ := xbd hxt
      refine r.callSI0 (t_X9_many E ((m_3 32) (3 : Int32).toNatClampNeg) ho_4) g_X9_198 rfl (DX9_restore 39 rfl) rfl ⟨(Nat.le_of_ble_eq_true rfl), (Nat.le_of_ble_eq_true rfl)⟩ (Nat.le_of_ble_eq_true rfl) ?_
      cases hxt
      exact hret _ _ _ _ (DX9_restore 40 rfl) rfl ⟨(), rfl, rfl⟩
    refine r.bipush (v := (-5 : Int32)) (DX9_restore 12 rfl) rfl ?_
    cases hxt
    exact hret _ _ _ _ (DX9_restore 13 rfl) rfl ⟨(), rfl, rfl⟩
  refine r.bipush (v := (-2 : Int32)) (DX9_restore 5 rfl) rfl ?_
  cases hxt
  exact hret _ _ _ _ (DX9_restore 6 rfl) rfl ⟨(), rfl, rfl⟩
