set_option maxRecDepth 100000 in
set_option maxHeartbeats 4000000 in
theorem l_X5_countIn_8 (E : xE) {V : xVT} (r : Rl E RX5 cX5_countIn (xR 0 0 0) 7 false V) {o : Int32} (hret : RtI cX5_countIn V .int 0 0 (fun v ws => ∃ u : Unit, v = o ∧ ws = [])) {k : Int32 → Option (Int32)} (hk : ∀ (v4 : Int32), k v4 = some o → V 0 0 60 [(4, .int v4)] [] []) : ∀ (n : Nat) (v2 : Int64) (v4 : Int32) (v5 : Int32), xt_X5_countIn_l8 k n v2 v4 v5 = some o → V 0 0 8 [(2, .long v2), (4, .int v4), (5, .int v5)] [] [] := by
  intro n
  induction n with
  | zero => intro v2 v4 v5 hxt; exact xno hxt
  | succ n ih =>
    intro v2 v4 v5 hxt
    rw [xt_X5_countIn_l8] at hxt
    refine r.iload 2 (DX5_countIn 6 rfl) rfl ?_
    refine r.bipush (v := (8 : Int32)) (DX5_countIn 7 rfl) rfl ?_
    refine r.icmp_ge 60 (DX5_countIn 8 rfl) rfl hxt (fun _ hxt => ?_) (fun _ hxt => ?_)
    · refine r.rel (lo' := [(4, .int v4)]) [1] rfl ?_
      exact hk v4 hxt
    refine r.lload_n 0 (DX5_countIn 9 rfl) rfl ?_
    refine r.lconst (v := (0 : Int64)) (DX5_countIn 10 rfl) rfl ?_
    refine r.lcmp (DX5_countIn 11 rfl) ?_
    refine r.if_eq 60 (DX5_countIn 12 rfl) rfl hxt (fun _ hxt => ?_) (fun _ hxt => ?_)
    · refine r.rel (lo' := [(4, .int v4)]) [1] rfl ?_
      exact hk v4 hxt
    refine r.lload_n 0 (DX5_countIn 13 rfl) rfl ?_
    refine r.ldc2 (v := (255 : Int64)) (DX5_countIn 14 rfl) m687 ?_
    refine r.land (DX5_countIn 15 rfl) ?_
    refine r.l2i (DX5_countIn 16 rfl) ?_
    refine r.istore (lo' := [(6, .int (v2 &&& (255 : Int64)).toInt32), (2, .long v2), (4, .int v4), (5, .int v5)]) (DX5_countIn 17 rfl) (Nat.le_of_ble_eq_true rfl) rfl ?_
    refine r.iload 0 (DX5_countIn 18 rfl) rfl ?_
    refine r.bipush (v := (33 : Int32)) (DX5_countIn 19 rfl) rfl ?_
    refine r.icmp_lt 43 (DX5_countIn 20 rfl) rfl hxt (fun _ hxt => ?_) (fun _ hxt => ?_)
    · refine r.bipush (v := (-2 : Int32)) (DX5_countIn 24 rfl) rfl ?_
      cases hxt
      exact hret _ _ _ _ (DX5_countIn 25 rfl) rfl ⟨(), rfl, rfl⟩
    refine r.iload 0 (DX5_countIn 21 rfl) rfl ?_
    refine r.bipush (v := (126 : Int32)) (DX5_countIn 22 rfl) rfl ?_
    refine r.icmp_le 46 (DX5_countIn 23 rfl) rfl hxt (fun _ hxt => ?_) (fun _ hxt => ?_)
    · refine r.lload_n 1 (DX5_countIn 26 rfl) rfl ?_
      refine r.bipush (v := (8 : Int32)) (DX5_countIn 27 rfl) rfl ?_
      refine r.lushr (DX5_countIn 28 rfl) ?_
      refine r.lstore_n (lo' := [(2, .long ((v2.toUInt64 >>> ((8 : Int32).toInt64.toUInt64 &&& Int64.toUInt64 63)).toInt64)), (6, .int (v2 &&& (255 : Int64)).toInt32), (4, .int v4), (5, .int v5)]) (DX5_countIn 29 rfl) (Nat.le_of_ble_eq_true rfl) rfl ?_
      refine r.iinc (v := (v4 + (1 : Int32))) (lo' := [(4, .int (v4 + (1 : Int32))), (2, .long ((v2.toUInt64 >>> ((8 : Int32).toInt64.toUInt64 &&& Int64.toUInt64 63)).toInt64)), (6, .int (v2 &&& (255 : Int64)).toInt32), (5, .int v5)]) 2 (DX5_countIn 30 rfl) rfl rfl (Nat.le_of_ble_eq_true rfl) rfl ?_
      refine r.iinc (v := (v5 + (1 : Int32))) (lo' := [(5, .int (v5 + (1 : Int32))), (4, .int (v4 + (1 : Int32))), (2, .long ((v2.toUInt64 >>> ((8 : Int32).toInt64.toUInt64 &&& Int64.toUInt64 63)).toInt64)), (6, .int (v2 &&& (255 : Int64)).toInt32)]) 3 (DX5_countIn 31 rfl) rfl rfl (Nat.le_of_ble_eq_true rfl) rfl ?_
      refine r.goto 8 (DX5_countIn 32 rfl) rfl ?_
      refine r.rel (lo' := [(2, .long ((v2.toUInt64 >>> ((8 : Int32).toInt64.toUInt64 &&& Int64.toUInt64 63)).toInt64)), (4, .int (v4 + (1 : Int32))), (5, .int (v5 + (1 : Int32)))]) [2, 1, 0] rfl ?_
      exact ih ((v2.toUInt64 >>> ((8 : Int32).toInt64.toUInt64 &&& Int64.toUInt64 63)).toInt64) (v4 + (1 : Int32)) (v5 + (1 : Int32)) hxt
    refine r.bipush (v := (-2 : Int32)) (DX5_countIn 24 rfl) rfl ?_
    cases hxt
    exact hret _ _ _ _ (DX5_countIn 25 rfl) rfl ⟨(), rfl, rfl⟩
set_option maxRecDepth 100000 in
set_option maxHeartbeats 4000000 in
theorem t_X5_countIn (E : xE) (x0 : Int64) {o : Int32} (hxt : xt_X5_countIn x0 = some o) : xMI (S := Unit) E yX5_countIn cX5_countIn 7 .int 0 0 0 [.long x0] [] (fun _ => o) (fun _ => []) := by
  refine xMI.of (own := RX5) (lo0 := [(0, .long x0)]) (by decide +kernel) rfl rfl (Nat.le_of_ble_eq_true rfl) (fun V r hret => ?_)
  unfold xt_X5_countIn at hxt
  refine r.lload_n 0 (DX5_countIn 0 rfl) rfl ?_
  refine r.lstore_n (lo' := [(2, .long x0), (0, .long x0)]) (DX5_countIn 1 rfl) (Nat.le_of_ble_eq_true rfl) rfl ?_
  refine r.iconst (v := (0 : Int32)) (DX5_countIn 2 rfl) rfl ?_
  refine r.istore (lo' := [(4, .int (0 : Int32)), (2, .long x0), (0, .long x0)]) (DX5_countIn 3 rfl) (Nat.le_of_ble_eq_true rfl) rfl ?_
  refine r.iconst (v := (0 : Int32)) (DX5_countIn 4 rfl) rfl ?_
  refine r.istore (lo' := [(5, .int (0 : Int32)), (4, .int (0 : Int32)), (2, .long x0), (0, .long x0)]) (DX5_countIn 5 rfl) (Nat.le_of_ble_eq_true rfl) rfl ?_
  refine r.rel (lo' := [(2, .long x0), (4, .int (0 : Int32)), (5, .int (0 : Int32))]) [2, 1, 0] rfl ?_
  refine l_X5_countIn_8 E  r hret (fun v4_1 hxt => ?_) 10000 x0 (0 : Int32) (0 : Int32) hxt
  refine r.iload 0 (DX5_countIn 33 rfl) rfl ?_
  cases hxt
  exact hret _ _ _ _ (DX5_countIn 34 rfl) rfl ⟨(), rfl, rfl⟩
set_option maxRecDepth 100000 in
set_option maxHeartbeats 4000000 in
theorem l_X5_append_5 (E : xE) (a : Nat → Nat) (x1 : Int64) (hM : Mem) {V : xVT} (r : Rl E RX5 cX5_append (xR 0 0 0) 5 false V) {o : Mem} {k : Mem → Option (Mem)} (hk : ∀ (mM : Mem), k mM = some o → V 0 0 64 [] [] [(a 25, oX5 a (mM 25)), (a 26, aC E 24 (mM 26))]) : ∀ (n : Nat) (v4 : Int32) (mM : Mem), xt_X5_append_l5 x1 hM k n v4 mM = some o → V 0 0 5 [(0, .ref (a 25)), (1, .long x1), (4, .int v4)] [] [(a 25, oX5 a (mM 25)), (a 26, aC E 24 (mM 26))] := by
  intro n
  induction n with
  | zero => intro v4 mM hxt; exact xno hxt
  | succ n ih =>
    intro v4 mM hxt
    rw [xt_X5_append_l5] at hxt
    refine r.iload 2 (DX5_append 4 rfl) rfl ?_
    refine r.if_lt 64 (DX5_append 5 rfl) rfl hxt (fun _ hxt => ?_) (fun _ hxt => ?_)
    · refine r.rel (lo' := []) [] rfl ?_
      exact hk (mgs hM [25, 26] mM) hxt
    refine r.aload_n 0 (DX5_append 6 rfl) rfl ?_
    refine r.get (v := .int ((mM 25) 1)) kX5 f_X5_15 rfl 0 rfl rfl (DX5_append 7 rfl) ?_
    refine r.if_lt 64 (DX5_append 8 rfl) rfl hxt (fun _ hxt => ?_) (fun _ hxt => ?_)
    · refine r.rel (lo' := []) [] rfl ?_
      exact hk (mgs hM [25, 26] mM) hxt
    refine r.aload_n 0 (DX5_append 9 rfl) rfl ?_
    refine r.get (v := .int ((mM 25) 1)) kX5 f_X5_15 rfl 0 rfl rfl (DX5_append 10 rfl) ?_
    refine r.bipush (v := (24 : Int32)) (DX5_append 11 rfl) rfl ?_
    refine r.icmp_ge 64 (DX5_append 12 rfl) rfl hxt (fun _ hxt => ?_) (fun _ hxt => ?_)
    · refine r.rel (lo' := []) [] rfl ?_
      exact hk (mgs hM [25, 26] mM) hxt
    refine r.aload_n 0 (DX5_append 13 rfl) rfl ?_
    refine r.get (v := .ref (a 26)) kX5 f_X5_11 rfl 0 rfl rfl (DX5_append 14 rfl) ?_
    refine r.aload_n 0 (DX5_append 15 rfl) rfl ?_
    refine r.get (v := .int ((mM 25) 1)) kX5 f_X5_15 rfl 0 rfl rfl (DX5_append 16 rfl) ?_
    refine r.lload_n 1 (DX5_append 17 rfl) rfl ?_
    refine r.bipush (v := (8 : Int32)) (DX5_append 18 rfl) rfl ?_
    refine r.iload 2 (DX5_append 19 rfl) rfl ?_
    refine r.imul (DX5_append 20 rfl) ?_
    refine r.lushr (DX5_append 21 rfl) ?_
    refine r.ldc2 (v := (255 : Int64)) (DX5_append 22 rfl) m687 ?_
    refine r.land (DX5_append 23 rfl) ?_
    refine r.l2i (DX5_append 24 rfl) ?_
    refine r.i2c (DX5_append 25 rfl) ?_
    obtain ⟨hin, hxt⟩ := xgd_some hxt
    refine r.cast (ws' := [(a 25, oX5 a (mM 25)), (a 26, aC E 24 (upd (mM 26) ((mM 25) 1).toNatClampNeg (vp_nar .char ((((x1.toUInt64 >>> (((8 : Int32) * v4).toInt64.toUInt64 &&& Int64.toUInt64 63)).toInt64) &&& (255 : Int64)).toInt32.toUInt32 % 65536).toInt32)))]) 1 rfl hin rfl (DX5_append 26 rfl) ?_
    refine r.aload_n 0 (DX5_append 27 rfl) rfl ?_
    refine r.dup (DX5_append 28 rfl) rfl ?_
    refine r.get (v := .int ((mM 25) 1)) kX5 f_X5_15 rfl 0 rfl rfl (DX5_append 29 rfl) ?_
    refine r.iconst (v := (1 : Int32)) (DX5_append 30 rfl) rfl ?_
    refine r.iadd (DX5_append 31 rfl) ?_
    refine r.put (ws' := [(a 25, oX5 a (upd (mM 25) 1 (((mM 25) 1) + (1 : Int32)))), (a 26, aC E 24 (upd (mM 26) ((mM 25) 1).toNatClampNeg (vp_nar .char ((((x1.toUInt64 >>> (((8 : Int32) * v4).toInt64.toUInt64 &&& Int64.toUInt64 63)).toInt64) &&& (255 : Int64)).toInt32.toUInt32 % 65536).toInt32)))]) kX5 f_X5_15 0 rfl rfl rfl rfl (Nat.le_of_ble_eq_true rfl) rfl (DX5_append 32 rfl) ?_
    refine r.iinc (v := (v4 + (-1 : Int32))) (lo' := [(4, .int (v4 + (-1 : Int32))), (0, .ref (a 25)), (1, .long x1)]) 2 (DX5_append 33 rfl) rfl rfl (Nat.le_of_ble_eq_true rfl) rfl ?_
    refine r.goto 5 (DX5_append 34 rfl) rfl ?_
    refine r.rel (lo' := [(0, .ref (a 25)), (1, .long x1), (4, .int (v4 + (-1 : Int32)))]) [1, 2, 0] rfl ?_
    exact ih (v4 + (-1 : Int32)) (mset (mset hM 25 (upd (mM 25) 1 (((mM 25) 1) + (1 : Int32)))) 26 (upd (mM 26) ((mM 25) 1).toNatClampNeg (vp_nar .char ((((x1.toUInt64 >>> (((8 : Int32) * v4).toInt64.toUInt64 &&& Int64.toUInt64 63)).toInt64) &&& (255 : Int64)).toInt32.toUInt32 % 65536).toInt32))) hxt
set_option maxRecDepth 100000 in
set_option maxHeartbeats 4000000 in
theorem t_X5_append (E : xE) (a : Nat → Nat) (x1 : Int64) (x3 : Int32) (hM : Mem) {o : Mem} (hxt : xt_X5_append x1 x3 hM = some o) : xMV (S := Unit) E yX5_append cX5_append 5 0 0 0 [.ref (a 25), .long x1, .int x3] [(a 25, oX5 a (hM 25)), (a 26, aC E 24 (hM 26))] (fun _ => [(a 25, oX5 a (o 25)), (a 26, aC E 24 (o 26))]) := by
  refine xMV.of (own := RX5) (lo0 := [(0, .ref (a 25)), (1, .long x1), (3, .int x3)]) (ini := false) (fun h => nomatch h) (by decide +kernel) rfl rfl (Nat.le_of_ble_eq_true rfl) (fun V r hret => ?_)
  unfold xt_X5_append at hxt
  refine r.iload_n 2 (DX5_append 0 rfl) rfl ?_
  refine r.iconst (v := (1 : Int32)) (DX5_append 1 rfl) rfl ?_
  refine r.isub (DX5_append 2 rfl) ?_
  refine r.istore (lo' := [(4, .int (x3 - (1 : Int32))), (0, .ref (a 25)), (1, .long x1), (3, .int x3)]) (DX5_append 3 rfl) (Nat.le_of_ble_eq_true rfl) rfl ?_
  refine r.rel (lo' := [(0, .ref (a 25)), (1, .long x1), (4, .int (x3 - (1 : Int32)))]) [1, 2, 0] rfl ?_
  refine l_X5_append_5 E a x1 hM r (fun m_1 hxt => ?_) 10000 (x3 - (1 : Int32)) hM hxt
  cases hxt
  exact hret _ _ _ (DX5_append 35 rfl) ⟨(), rfl⟩
