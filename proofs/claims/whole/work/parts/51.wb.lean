set_option maxRecDepth 100000 in
set_option maxHeartbeats 4000000 in
theorem t_X4_length (E : xE) (a : Nat → Nat) (hM : Mem) {o : Int32} (hxt : xt_X4_length hM = some o) : xMI (S := Unit) E yX4_length cX4_length 1 .int 0 0 0 [.ref (a 23)] [(a 23, oX4 a (hM 23))] (fun _ => o) (fun _ => [(a 23, oX4 a (hM 23))]) := by
  refine xMI.of (own := RX4) (lo0 := [(0, .ref (a 23))]) (by decide +kernel) rfl rfl (Nat.le_of_ble_eq_true rfl) (fun V r hret => ?_)
  unfold xt_X4_length at hxt
  refine r.aload_n 0 (DX4_length 0 rfl) rfl ?_
  refine r.get (v := .int ((hM 23) 1)) kX4 f_X4_16 rfl 0 rfl rfl (DX4_length 1 rfl) ?_
  cases hxt
  exact hret _ _ _ _ (DX4_length 2 rfl) rfl ⟨(), rfl, rfl⟩
set_option maxRecDepth 100000 in
set_option maxHeartbeats 4000000 in
theorem t_X4_dropOldest (E : xE) (a : Nat → Nat) (ha : Nat → Nat) (hM : Mem) : xMV (S := Unit) E yX4_dropOldest cX4_dropOldest 3 0 0 0 [.ref (a 23)] [((a 23), .inr (4, [.ref (a 24), .int (hM 23 1)])), ((a 24), .inl (xO E, 6, .inr (.inr (.inr (.inr (xhf ha)))))), ((ha 0), oX6 (hM 60)), ((ha 1), oX6 (hM 61)), ((ha 2), oX6 (hM 62)), ((ha 3), oX6 (hM 63)), ((ha 4), oX6 (hM 64)), ((ha 5), oX6 (hM 65))] (fun _ => [((a 23), .inr (4, [.ref (a 24), .int (5 : Int32)])), ((a 24), .inl (xO E, 6, .inr (.inr (.inr (.inr (va_up (va_up (va_up (va_up (va_up (va_up (xhf ha) ((1 : Int32) - (1 : Int32)).toNatClampNeg (some (ha 1))) (((1 : Int32) + (1 : Int32)) - (1 : Int32)).toNatClampNeg (some (ha 2))) ((((1 : Int32) + (1 : Int32)) + (1 : Int32)) - (1 : Int32)).toNatClampNeg (some (ha 3))) (((((1 : Int32) + (1 : Int32)) + (1 : Int32)) + (1 : Int32)) - (1 : Int32)).toNatClampNeg (some (ha 4))) ((((((1 : Int32) + (1 : Int32)) + (1 : Int32)) + (1 : Int32)) + (1 : Int32)) - (1 : Int32)).toNatClampNeg (some (ha 5))) (5 : Int32).toNatClampNeg (some (ha 0)))))))), ((ha 0), oX6 (hM 60)), ((ha 1), oX6 (hM 61)), ((ha 2), oX6 (hM 62)), ((ha 3), oX6 (hM 63)), ((ha 4), oX6 (hM 64)), ((ha 5), oX6 (hM 65))]) := by
  refine xMV.of (own := RX4) (lo0 := [(0, .ref (a 23))]) (ini := false) (fun h => nomatch h) (by decide +kernel) rfl rfl (Nat.le_of_ble_eq_true rfl) (fun V r hret => ?_)
  refine r.aload_n 0 (DX4_dropOldest 0 rfl) rfl ?_
  refine r.get (v := .ref (a 24)) kX4 f_X4_11 rfl 0 rfl rfl (DX4_dropOldest 1 rfl) ?_
  refine r.iconst (v := (0 : Int32)) (DX4_dropOldest 2 rfl) rfl ?_
  refine r.aald (b := (ha 0)) 1 rfl (by unfold vp_in; decide) rfl (DX4_dropOldest 3 rfl) ?_
  refine r.astore_n (lo' := [(1, .ref (ha 0)), (0, .ref (a 23))]) (DX4_dropOldest 4 rfl) (Nat.le_of_ble_eq_true rfl) rfl ?_
  refine r.iconst (v := (1 : Int32)) (DX4_dropOldest 5 rfl) rfl ?_
  refine r.istore_n (lo' := [(2, .int (1 : Int32)), (1, .ref (ha 0)), (0, .ref (a 23))]) (DX4_dropOldest 6 rfl) (Nat.le_of_ble_eq_true rfl) rfl ?_
  refine r.iload_n 0 (DX4_dropOldest 7 rfl) rfl ?_
  refine r.bipush (v := (6 : Int32)) (DX4_dropOldest 8 rfl) rfl ?_
  refine r.icmp_geF 35 (DX4_dropOldest 9 rfl) rfl (by decide) ?_
  refine r.aload_n 2 (DX4_dropOldest 10 rfl) rfl ?_
  refine r.get (v := .ref (a 24)) kX4 f_X4_11 rfl 0 rfl rfl (DX4_dropOldest 11 rfl) ?_
  refine r.iload_n 0 (DX4_dropOldest 12 rfl) rfl ?_
  refine r.iconst (v := (1 : Int32)) (DX4_dropOldest 13 rfl) rfl ?_
  refine r.isub (DX4_dropOldest 14 rfl) ?_
  refine r.aload_n 2 (DX4_dropOldest 15 rfl) rfl ?_
  refine r.get (v := .ref (a 24)) kX4 f_X4_11 rfl 0 rfl rfl (DX4_dropOldest 16 rfl) ?_
  refine r.iload_n 0 (DX4_dropOldest 17 rfl) rfl ?_
  refine r.aald (b := (ha 1)) 1 rfl (by unfold vp_in; decide) rfl (DX4_dropOldest 18 rfl) ?_
  refine r.aast (ws' := [((a 23), .inr (4, [.ref (a 24), .int (hM 23 1)])), ((a 24), .inl (xO E, 6, .inr (.inr (.inr (.inr (va_up (xhf ha) ((1 : Int32) - (1 : Int32)).toNatClampNeg (some (ha 1)))))))), ((ha 0), oX6 (hM 60)), ((ha 1), oX6 (hM 61)), ((ha 2), oX6 (hM 62)), ((ha 3), oX6 (hM 63)), ((ha 4), oX6 (hM 64)), ((ha 5), oX6 (hM 65))]) 1 3 rfl rfl (by unfold vp_in; decide) rfl (DX4_dropOldest 19 rfl) ?_
  refine r.iinc (v := ((1 : Int32) + (1 : Int32))) (lo' := [(2, .int ((1 : Int32) + (1 : Int32))), (1, .ref (ha 0)), (0, .ref (a 23))]) 0 (DX4_dropOldest 20 rfl) rfl rfl (Nat.le_of_ble_eq_true rfl) rfl ?_
  refine r.goto 9 (DX4_dropOldest 21 rfl) rfl ?_
  refine r.iload_n 0 (DX4_dropOldest 7 rfl) rfl ?_
  refine r.bipush (v := (6 : Int32)) (DX4_dropOldest 8 rfl) rfl ?_
  refine r.icmp_geF 35 (DX4_dropOldest 9 rfl) rfl (by decide) ?_
  refine r.aload_n 2 (DX4_dropOldest 10 rfl) rfl ?_
  refine r.get (v := .ref (a 24)) kX4 f_X4_11 rfl 0 rfl rfl (DX4_dropOldest 11 rfl) ?_
  refine r.iload_n 0 (DX4_dropOldest 12 rfl) rfl ?_
  refine r.iconst (v := (1 : Int32)) (DX4_dropOldest 13 rfl) rfl ?_
  refine r.isub (DX4_dropOldest 14 rfl) ?_
  refine r.aload_n 2 (DX4_dropOldest 15 rfl) rfl ?_
  refine r.get (v := .ref (a 24)) kX4 f_X4_11 rfl 0 rfl rfl (DX4_dropOldest 16 rfl) ?_
  refine r.iload_n 0 (DX4_dropOldest 17 rfl) rfl ?_
  refine r.aald (b := (ha 2)) 1 rfl (by unfold vp_in; decide) rfl (DX4_dropOldest 18 rfl) ?_
  refine r.aast (ws' := [((a 23), .inr (4, [.ref (a 24), .int (hM 23 1)])), ((a 24), .inl (xO E, 6, .inr (.inr (.inr (.inr (va_up (va_up (xhf ha) ((1 : Int32) - (1 : Int32)).toNatClampNeg (some (ha 1))) (((1 : Int32) + (1 : Int32)) - (1 : Int32)).toNatClampNeg (some (ha 2)))))))), ((ha 0), oX6 (hM 60)), ((ha 1), oX6 (hM 61)), ((ha 2), oX6 (hM 62)), ((ha 3), oX6 (hM 63)), ((ha 4), oX6 (hM 64)), ((ha 5), oX6 (hM 65))]) 1 4 rfl rfl (by unfold vp_in; decide) rfl (DX4_dropOldest 19 rfl) ?_
  refine r.iinc (v := (((1 : Int32) + (1 : Int32)) + (1 : Int32))) (lo' := [(2, .int (((1 : Int32) + (1 : Int32)) + (1 : Int32))), (1, .ref (ha 0)), (0, .ref (a 23))]) 0 (DX4_dropOldest 20 rfl) rfl rfl (Nat.le_of_ble_eq_true rfl) rfl ?_
  refine r.goto 9 (DX4_dropOldest 21 rfl) rfl ?_
  refine r.iload_n 0 (DX4_dropOldest 7 rfl) rfl ?_
  refine r.bipush (v := (6 : Int32)) (DX4_dropOldest 8 rfl) rfl ?_
  refine r.icmp_geF 35 (DX4_dropOldest 9 rfl) rfl (by decide) ?_
  refine r.aload_n 2 (DX4_dropOldest 10 rfl) rfl ?_
  refine r.get (v := .ref (a 24)) kX4 f_X4_11 rfl 0 rfl rfl (DX4_dropOldest 11 rfl) ?_
  refine r.iload_n 0 (DX4_dropOldest 12 rfl) rfl ?_
  refine r.iconst (v := (1 : Int32)) (DX4_dropOldest 13 rfl) rfl ?_
  refine r.isub (DX4_dropOldest 14 rfl) ?_
  refine r.aload_n 2 (DX4_dropOldest 15 rfl) rfl ?_
  refine r.get (v := .ref (a 24)) kX4 f_X4_11 rfl 0 rfl rfl (DX4_dropOldest 16 rfl) ?_
  refine r.iload_n 0 (DX4_dropOldest 17 rfl) rfl ?_
  refine r.aald (b := (ha 3)) 1 rfl (by unfold vp_in; decide) rfl (DX4_dropOldest 18 rfl) ?_
  refine r.aast (ws' := [((a 23), .inr (4, [.ref (a 24), .int (hM 23 1)])), ((a 24), .inl (xO E, 6, .inr (.inr (.inr (.inr (va_up (va_up (va_up (xhf ha) ((1 : Int32) - (1 : Int32)).toNatClampNeg (some (ha 1))) (((1 : Int32) + (1 : Int32)) - (1 : Int32)).toNatClampNeg (some (ha 2))) ((((1 : Int32) + (1 : Int32)) + (1 : Int32)) - (1 : Int32)).toNatClampNeg (some (ha 3)))))))), ((ha 0), oX6 (hM 60)), ((ha 1), oX6 (hM 61)), ((ha 2), oX6 (hM 62)), ((ha 3), oX6 (hM 63)), ((ha 4), oX6 (hM 64)), ((ha 5), oX6 (hM 65))]) 1 5 rfl rfl (by unfold vp_in; decide) rfl (DX4_dropOldest 19 rfl) ?_
  refine r.iinc (v := ((((1 : Int32) + (1 : Int32)) + (1 : Int32)) + (1 : Int32))) (lo' := [(2, .int ((((1 : Int32) + (1 : Int32)) + (1 : Int32)) + (1 : Int32))), (1, .ref (ha 0)), (0, .ref (a 23))]) 0 (DX4_dropOldest 20 rfl) rfl rfl (Nat.le_of_ble_eq_true rfl) rfl ?_
  refine r.goto 9 (DX4_dropOldest 21 rfl) rfl ?_
  refine r.iload_n 0 (DX4_dropOldest 7 rfl) rfl ?_
  refine r.bipush (v := (6 : Int32)) (DX4_dropOldest 8 rfl) rfl ?_
  refine r.icmp_geF 35 (DX4_dropOldest 9 rfl) rfl (by decide) ?_
  refine r.aload_n 2 (DX4_dropOldest 10 rfl) rfl ?_
  refine r.get (v := .ref (a 24)) kX4 f_X4_11 rfl 0 rfl rfl (DX4_dropOldest 11 rfl) ?_
  refine r.iload_n 0 (DX4_dropOldest 12 rfl) rfl ?_
  refine r.iconst (v := (1 : Int32)) (DX4_dropOldest 13 rfl) rfl ?_
  refine r.isub (DX4_dropOldest 14 rfl) ?_
  refine r.aload_n 2 (DX4_dropOldest 15 rfl) rfl ?_
  refine r.get (v := .ref (a 24)) kX4 f_X4_11 rfl 0 rfl rfl (DX4_dropOldest 16 rfl) ?_
  refine r.iload_n 0 (DX4_dropOldest 17 rfl) rfl ?_
  refine r.aald (b := (ha 4)) 1 rfl (by unfold vp_in; decide) rfl (DX4_dropOldest 18 rfl) ?_
  refine r.aast (ws' := [((a 23), .inr (4, [.ref (a 24), .int (hM 23 1)])), ((a 24), .inl (xO E, 6, .inr (.inr (.inr (.inr (va_up (va_up (va_up (va_up (xhf ha) ((1 : Int32) - (1 : Int32)).toNatClampNeg (some (ha 1))) (((1 : Int32) + (1 : Int32)) - (1 : Int32)).toNatClampNeg (some (ha 2))) ((((1 : Int32) + (1 : Int32)) + (1 : Int32)) - (1 : Int32)).toNatClampNeg (some (ha 3))) (((((1 : Int32) + (1 : Int32)) + (1 : Int32)) + (1 : Int32)) - (1 : Int32)).toNatClampNeg (some (ha 4)))))))), ((ha 0), oX6 (hM 60)), ((ha 1), oX6 (hM 61)), ((ha 2), oX6 (hM 62)), ((ha 3), oX6 (hM 63)), ((ha 4), oX6 (hM 64)), ((ha 5), oX6 (hM 65))]) 1 6 rfl rfl (by unfold vp_in; decide) rfl (DX4_dropOldest 19 rfl) ?_
  refine r.iinc (v := (((((1 : Int32) + (1 : Int32)) + (1 : Int32)) + (1 : Int32)) + (1 : Int32))) (lo' := [(2, .int (((((1 : Int32) + (1 : Int32)) + (1 : Int32)) + (1 : Int32)) + (1 : Int32))), (1, .ref (ha 0)), (0, .ref (a 23))]) 0 (DX4_dropOldest 20 rfl) rfl rfl (Nat.le_of_ble_eq_true rfl) rfl ?_
  refine r.goto 9 (DX4_dropOldest 21 rfl) rfl ?_
  refine r.iload_n 0 (DX4_dropOldest 7 rfl) rfl ?_
  refine r.bipush (v := (6 : Int32)) (DX4_dropOldest 8 rfl) rfl ?_
  refine r.icmp_geF 35 (DX4_dropOldest 9 rfl) rfl (by decide) ?_
  refine r.aload_n 2 (DX4_dropOldest 10 rfl) rfl ?_
  refine r.get (v := .ref (a 24)) kX4 f_X4_11 rfl 0 rfl rfl (DX4_dropOldest 11 rfl) ?_
  refine r.iload_n 0 (DX4_dropOldest 12 rfl) rfl ?_
  refine r.iconst (v := (1 : Int32)) (DX4_dropOldest 13 rfl) rfl ?_
  refine r.isub (DX4_dropOldest 14 rfl) ?_
  refine r.aload_n 2 (DX4_dropOldest 15 rfl) rfl ?_
  refine r.get (v := .ref (a 24)) kX4 f_X4_11 rfl 0 rfl rfl (DX4_dropOldest 16 rfl) ?_
  refine r.iload_n 0 (DX4_dropOldest 17 rfl) rfl ?_
  refine r.aald (b := (ha 5)) 1 rfl (by unfold vp_in; decide) rfl (DX4_dropOldest 18 rfl) ?_
  refine r.aast (ws' := [((a 23), .inr (4, [.ref (a 24), .int (hM 23 1)])), ((a 24), .inl (xO E, 6, .inr (.inr (.inr (.inr (va_up (va_up (va_up (va_up (va_up (xhf ha) ((1 : Int32) - (1 : Int32)).toNatClampNeg (some (ha 1))) (((1 : Int32) + (1 : Int32)) - (1 : Int32)).toNatClampNeg (some (ha 2))) ((((1 : Int32) + (1 : Int32)) + (1 : Int32)) - (1 : Int32)).toNatClampNeg (some (ha 3))) (((((1 : Int32) + (1 : Int32)) + (1 : Int32)) + (1 : Int32)) - (1 : Int32)).toNatClampNeg (some (ha 4))) ((((((1 : Int32) + (1 : Int32)) + (1 : Int32)) + (1 : Int32)) + (1 : Int32)) - (1 : Int32)).toNatClampNeg (some (ha 5)))))))), ((ha 0), oX6 (hM 60)), ((ha 1), oX6 (hM 61)), ((ha 2), oX6 (hM 62)), ((ha 3), oX6 (hM 63)), ((ha 4), oX6 (hM 64)), ((ha 5), oX6 (hM 65))]) 1 7 rfl rfl (by unfold vp_in; decide) rfl (DX4_dropOldest 19 rfl) ?_
  refine r.iinc (v := ((((((1 : Int32) + (1 : Int32)) + (1 : Int32)) + (1 : Int32)) + (1 : Int32)) + (1 : Int32))) (lo' := [(2, .int ((((((1 : Int32) + (1 : Int32)) + (1 : Int32)) + (1 : Int32)) + (1 : Int32)) + (1 : Int32))), (1, .ref (ha 0)), (0, .ref (a 23))]) 0 (DX4_dropOldest 20 rfl) rfl rfl (Nat.le_of_ble_eq_true rfl) rfl ?_
  refine r.goto 9 (DX4_dropOldest 21 rfl) rfl ?_
  refine r.iload_n 0 (DX4_dropOldest 7 rfl) rfl ?_
  refine r.bipush (v := (6 : Int32)) (DX4_dropOldest 8 rfl) rfl ?_
  refine r.icmp_geT 35 (DX4_dropOldest 9 rfl) rfl (by decide) ?_
  refine r.aload_n 2 (DX4_dropOldest 22 rfl) rfl ?_
  refine r.get (v := .ref (a 24)) kX4 f_X4_11 rfl 0 rfl rfl (DX4_dropOldest 23 rfl) ?_
  refine r.iconst (v := (5 : Int32)) (DX4_dropOldest 24 rfl) rfl ?_
  refine r.aload_n 1 (DX4_dropOldest 25 rfl) rfl ?_
  refine r.aast (ws' := [((a 23), .inr (4, [.ref (a 24), .int (hM 23 1)])), ((a 24), .inl (xO E, 6, .inr (.inr (.inr (.inr (va_up (va_up (va_up (va_up (va_up (va_up (xhf ha) ((1 : Int32) - (1 : Int32)).toNatClampNeg (some (ha 1))) (((1 : Int32) + (1 : Int32)) - (1 : Int32)).toNatClampNeg (some (ha 2))) ((((1 : Int32) + (1 : Int32)) + (1 : Int32)) - (1 : Int32)).toNatClampNeg (some (ha 3))) (((((1 : Int32) + (1 : Int32)) + (1 : Int32)) + (1 : Int32)) - (1 : Int32)).toNatClampNeg (some (ha 4))) ((((((1 : Int32) + (1 : Int32)) + (1 : Int32)) + (1 : Int32)) + (1 : Int32)) - (1 : Int32)).toNatClampNeg (some (ha 5))) (5 : Int32).toNatClampNeg (some (ha 0)))))))), ((ha 0), oX6 (hM 60)), ((ha 1), oX6 (hM 61)), ((ha 2), oX6 (hM 62)), ((ha 3), oX6 (hM 63)), ((ha 4), oX6 (hM 64)), ((ha 5), oX6 (hM 65))]) 1 2 rfl rfl (by unfold vp_in; decide) rfl (DX4_dropOldest 26 rfl) ?_
  refine r.aload_n 2 (DX4_dropOldest 27 rfl) rfl ?_
  refine r.iconst (v := (5 : Int32)) (DX4_dropOldest 28 rfl) rfl ?_
  refine r.put (ws' := [((a 23), .inr (4, [.ref (a 24), .int (5 : Int32)])), ((a 24), .inl (xO E, 6, .inr (.inr (.inr (.inr (va_up (va_up (va_up (va_up (va_up (va_up (xhf ha) ((1 : Int32) - (1 : Int32)).toNatClampNeg (some (ha 1))) (((1 : Int32) + (1 : Int32)) - (1 : Int32)).toNatClampNeg (some (ha 2))) ((((1 : Int32) + (1 : Int32)) + (1 : Int32)) - (1 : Int32)).toNatClampNeg (some (ha 3))) (((((1 : Int32) + (1 : Int32)) + (1 : Int32)) + (1 : Int32)) - (1 : Int32)).toNatClampNeg (some (ha 4))) ((((((1 : Int32) + (1 : Int32)) + (1 : Int32)) + (1 : Int32)) + (1 : Int32)) - (1 : Int32)).toNatClampNeg (some (ha 5))) (5 : Int32).toNatClampNeg (some (ha 0)))))))), ((ha 0), oX6 (hM 60)), ((ha 1), oX6 (hM 61)), ((ha 2), oX6 (hM 62)), ((ha 3), oX6 (hM 63)), ((ha 4), oX6 (hM 64)), ((ha 5), oX6 (hM 65))]) kX4 f_X4_16 0 rfl rfl rfl rfl (Nat.le_of_ble_eq_true rfl) rfl (DX4_dropOldest 29 rfl) ?_
  exact hret _ _ _ (DX4_dropOldest 30 rfl) ⟨(), rfl⟩
set_option maxRecDepth 100000 in
set_option maxHeartbeats 4000000 in
def xrot (ha : Nat → Nat) : Nat → Nat := fun i => if i < 5 then ha (i + 1) else if i = 5 then ha 0 else ha i
set_option maxRecDepth 100000 in
set_option maxHeartbeats 4000000 in
theorem xrot_e (ha : Nat → Nat) : (va_up (va_up (va_up (va_up (va_up (va_up (xhf ha) ((1 : Int32) - (1 : Int32)).toNatClampNeg (some (ha 1))) (((1 : Int32) + (1 : Int32)) - (1 : Int32)).toNatClampNeg (some (ha 2))) ((((1 : Int32) + (1 : Int32)) + (1 : Int32)) - (1 : Int32)).toNatClampNeg (some (ha 3))) (((((1 : Int32) + (1 : Int32)) + (1 : Int32)) + (1 : Int32)) - (1 : Int32)).toNatClampNeg (some (ha 4))) ((((((1 : Int32) + (1 : Int32)) + (1 : Int32)) + (1 : Int32)) + (1 : Int32)) - (1 : Int32)).toNatClampNeg (some (ha 5))) (5 : Int32).toNatClampNeg (some (ha 0))) = xhf (xrot ha) := by
  funext i
  match i with
  | 0 => rfl
  | 1 => rfl
  | 2 => rfl
  | 3 => rfl
  | 4 => rfl
  | 5 => rfl
  | i + 6 =>
    have e : ∀ (f : Nat → Option Nat) (k : Nat) (v : Option Nat), k < 6 → va_up f k v (i + 6) = f (i + 6) := fun f k v h => if_neg (by omega)
    rw [e _ _ _ (by decide), e _ _ _ (by decide), e _ _ _ (by decide), e _ _ _ (by decide), e _ _ _ (by decide), e _ _ _ (by decide)]
    show (if i + 6 < 6 then some (ha (i + 6)) else none) = (if i + 6 < 6 then some (xrot ha (i + 6)) else none)
    rw [if_neg (by omega), if_neg (by omega)]
set_option maxRecDepth 100000 in
set_option maxHeartbeats 4000000 in
theorem t_X4_record (E : xE) (a : Nat → Nat) (ha : Nat → Nat) (hp1 : Nat) (sp1 : Nat → Int32) (hM : Mem) {o : Mem} (hxt : xt_X4_record sp1 hM = some o) : xMV (S := Nat → Nat) E yX4_record cX4_record 2 1 0 0 [.ref (a 23), .ref hp1] [((a 23), .inr (4, [.ref (a 24), .int (hM 23 1)])), ((a 24), .inl (xO E, 6, .inr (.inr (.inr (.inr (xhf ha)))))), ((ha 0), oX6 (hM 60)), ((ha 1), oX6 (hM 61)), ((ha 2), oX6 (hM 62)), ((ha 3), oX6 (hM 63)), ((ha 4), oX6 (hM 64)), ((ha 5), oX6 (hM 65)), (hp1, oX6 sp1)] (fun u => [(a 23, oX4 a (o 23)), (a 24, .inl (xO E, 6, .inr (.inr (.inr (.inr (xhf u)))))), (u 0, oX6 (o 60)), (u 1, oX6 (o 61)), (u 2, oX6 (o 62)), (u 3, oX6 (o 63)), (u 4, oX6 (o 64)), (u 5, oX6 (o 65)), (hp1, oX6 sp1)]) := by
  refine xMV.of (own := RX4) (lo0 := [(0, .ref (a 23)), (1, .ref hp1)]) (ini := false) (fun h => nomatch h) (by decide +kernel) rfl rfl (Nat.le_of_ble_eq_true rfl) (fun V r hret => ?_)
  unfold xt_X4_record at hxt
  refine r.aload_n 0 (DX4_record 0 rfl) rfl ?_
  refine r.get (v := .int (hM 23 1)) kX4 f_X4_16 rfl 0 rfl rfl (DX4_record 1 rfl) ?_
  refine r.bipush (v := (6 : Int32)) (DX4_record 2 rfl) rfl ?_
  refine r.icmp_lt 13 (DX4_record 3 rfl) rfl hxt (fun _ hxt => ?_) (fun _ hxt => ?_)
  · refine r.aload_n 0 (DX4_record 6 rfl) rfl ?_
    refine r.get (v := .int (hM 23 1)) kX4 f_X4_16 rfl 0 rfl rfl (DX4_record 7 rfl) ?_
    refine r.if_lt 43 (DX4_record 8 rfl) rfl hxt (fun _ hxt => ?_) (fun _ hxt => ?_)
    · cases hxt
      exact hret _ _ _ (DX4_record 22 rfl) ⟨ha, rfl⟩
    refine r.aload_n 0 (DX4_record 9 rfl) rfl ?_
    refine r.get (v := .ref (a 24)) kX4 f_X4_11 rfl 0 rfl rfl (DX4_record 10 rfl) ?_
    refine r.aload_n 0 (DX4_record 11 rfl) rfl ?_
    refine r.get (v := .int (hM 23 1)) kX4 f_X4_16 rfl 0 rfl rfl (DX4_record 12 rfl) ?_
    refine xif hxt (fun hc hxt => ?_) (fun _ hxt => ?_)
    · refine r.aald (b := (ha 0)) 1 rfl (by rw [hc]; unfold vp_in; decide) (by rw [hc]; rfl) (DX4_record 13 rfl) ?_
      refine r.aload_n 1 (DX4_record 14 rfl) rfl ?_
      obtain ⟨o1, ho1, hxt⟩ := xbd hxt
      refine r.callVV 0 rfl rfl (t_X6_take E (fun _ => 0) (ha 0) hp1 (hM 60) sp1 ho1) g_X4_23 rfl (DX4_record 15 rfl) rfl ⟨(Nat.le_of_ble_eq_true rfl), (Nat.le_of_ble_eq_true rfl)⟩ ⟨(Nat.le_of_ble_eq_true rfl), (Nat.le_of_ble_eq_true rfl)⟩ (Nat.le_of_ble_eq_true rfl) [2, 8] [0, 1, 3, 4, 5, 6, 7] rfl rfl rfl rfl (by decide) [0, 1, 7, 2, 3, 4, 5, 6, 8] rfl (ws2 := fun _ => [((a 23), .inr (4, [.ref (a 24), .int (hM 23 1)])), ((a 24), .inl (xO E, 6, .inr (.inr (.inr (.inr (xhf ha)))))), ((ha 0), oX6 o1), ((ha 1), oX6 (hM 61)), ((ha 2), oX6 (hM 62)), ((ha 3), oX6 (hM 63)), ((ha 4), oX6 (hM 64)), ((ha 5), oX6 (hM 65)), (hp1, oX6 sp1)]) (fun _ => rfl) (fun _ => ?_)
      refine r.aload_n 0 (DX4_record 16 rfl) rfl ?_
      refine r.dup (DX4_record 17 rfl) rfl ?_
      refine r.get (v := .int (hM 23 1)) kX4 f_X4_16 rfl 0 rfl rfl (DX4_record 18 rfl) ?_
      refine r.iconst (v := (1 : Int32)) (DX4_record 19 rfl) rfl ?_
      refine r.iadd (DX4_record 20 rfl) ?_
      refine r.put (ws' := [((a 23), .inr (4, [.ref (a 24), .int ((hM 23 1) + (1 : Int32))])), ((a 24), .inl (xO E, 6, .inr (.inr (.inr (.inr (xhf ha)))))), ((ha 0), oX6 o1), ((ha 1), oX6 (hM 61)), ((ha 2), oX6 (hM 62)), ((ha 3), oX6 (hM 63)), ((ha 4), oX6 (hM 64)), ((ha 5), oX6 (hM 65)), (hp1, oX6 sp1)]) kX4 f_X4_16 0 rfl rfl rfl rfl (Nat.le_of_ble_eq_true rfl) rfl (DX4_record 21 rfl) ?_
      cases hxt
      exact hret _ _ _ (DX4_record 22 rfl) ⟨ha, rfl⟩
    refine xif hxt (fun hc hxt => ?_) (fun _ hxt => ?_)
    · refine r.aald (b := (ha 1)) 1 rfl (by rw [hc]; unfold vp_in; decide) (by rw [hc]; rfl) (DX4_record 13 rfl) ?_
      refine r.aload_n 1 (DX4_record 14 rfl) rfl ?_
      obtain ⟨o2, ho2, hxt⟩ := xbd hxt
      refine r.callVV 0 rfl rfl (t_X6_take E (fun _ => 0) (ha 1) hp1 (hM 61) sp1 ho2) g_X4_23 rfl (DX4_record 15 rfl) rfl ⟨(Nat.le_of_ble_eq_true rfl), (Nat.le_of_ble_eq_true rfl)⟩ ⟨(Nat.le_of_ble_eq_true rfl), (Nat.le_of_ble_eq_true rfl)⟩ (Nat.le_of_ble_eq_true rfl) [3, 8] [0, 1, 2, 4, 5, 6, 7] rfl rfl rfl rfl (by decide) [0, 1, 2, 7, 3, 4, 5, 6, 8] rfl (ws2 := fun _ => [((a 23), .inr (4, [.ref (a 24), .int (hM 23 1)])), ((a 24), .inl (xO E, 6, .inr (.inr (.inr (.inr (xhf ha)))))), ((ha 0), oX6 (hM 60)), ((ha 1), oX6 o2), ((ha 2), oX6 (hM 62)), ((ha 3), oX6 (hM 63)), ((ha 4), oX6 (hM 64)), ((ha 5), oX6 (hM 65)), (hp1, oX6 sp1)]) (fun _ => rfl) (fun _ => ?_)
      refine r.aload_n 0 (DX4_record 16 rfl) rfl ?_
      refine r.dup (DX4_record 17 rfl) rfl ?_
      refine r.get (v := .int (hM 23 1)) kX4 f_X4_16 rfl 0 rfl rfl (DX4_record 18 rfl) ?_
      refine r.iconst (v := (1 : Int32)) (DX4_record 19 rfl) rfl ?_
      refine r.iadd (DX4_record 20 rfl) ?_
      refine r.put (ws' := [((a 23), .inr (4, [.ref (a 24), .int ((hM 23 1) + (1 : Int32))])), ((a 24), .inl (xO E, 6, .inr (.inr (.inr (.inr (xhf ha)))))), ((ha 0), oX6 (hM 60)), ((ha 1), oX6 o2), ((ha 2), oX6 (hM 62)), ((ha 3), oX6 (hM 63)), ((ha 4), oX6 (hM 64)), ((ha 5), oX6 (hM 65)), (hp1, oX6 sp1)]) kX4 f_X4_16 0 rfl rfl rfl rfl (Nat.le_of_ble_eq_true rfl) rfl (DX4_record 21 rfl) ?_
      cases hxt
      exact hret _ _ _ (DX4_record 22 rfl) ⟨ha, rfl⟩
    refine xif hxt (fun hc hxt => ?_) (fun _ hxt => ?_)
    · refine r.aald (b := (ha 2)) 1 rfl (by rw [hc]; unfold vp_in; decide) (by rw [hc]; rfl) (DX4_record 13 rfl) ?_
      refine r.aload_n 1 (DX4_record 14 rfl) rfl ?_
      obtain ⟨o3, ho3, hxt⟩ := xbd hxt
      refine r.callVV 0 rfl rfl (t_X6_take E (fun _ => 0) (ha 2) hp1 (hM 62) sp1 ho3) g_X4_23 rfl (DX4_record 15 rfl) rfl ⟨(Nat.le_of_ble_eq_true rfl), (Nat.le_of_ble_eq_true rfl)⟩ ⟨(Nat.le_of_ble_eq_true rfl), (Nat.le_of_ble_eq_true rfl)⟩ (Nat.le_of_ble_eq_true rfl) [4, 8] [0, 1, 2, 3, 5, 6, 7] rfl rfl rfl rfl (by decide) [0, 1, 2, 3, 7, 4, 5, 6, 8] rfl (ws2 := fun _ => [((a 23), .inr (4, [.ref (a 24), .int (hM 23 1)])), ((a 24), .inl (xO E, 6, .inr (.inr (.inr (.inr (xhf ha)))))), ((ha 0), oX6 (hM 60)), ((ha 1), oX6 (hM 61)), ((ha 2), oX6 o3), ((ha 3), oX6 (hM 63)), ((ha 4), oX6 (hM 64)), ((ha 5), oX6 (hM 65)), (hp1, oX6 sp1)]) (fun _ => rfl) (fun _ => ?_)
      refine r.aload_n 0 (DX4_record 16 rfl) rfl ?_
      refine r.dup (DX4_record 17 rfl) rfl ?_
      refine r.get (v := .int (hM 23 1)) kX4 f_X4_16 rfl 0 rfl rfl (DX4_record 18 rfl) ?_
      refine r.iconst (v := (1 : Int32)) (DX4_record 19 rfl) rfl ?_
      refine r.iadd (DX4_record 20 rfl) ?_
      refine r.put (ws' := [((a 23), .inr (4, [.ref (a 24), .int ((hM 23 1) + (1 : Int32))])), ((a 24), .inl (xO E, 6, .inr (.inr (.inr (.inr (xhf ha)))))), ((ha 0), oX6 (hM 60)), ((ha 1), oX6 (hM 61)), ((ha 2), oX6 o3), ((ha 3), oX6 (hM 63)), ((ha 4), oX6 (hM 64)), ((ha 5), oX6 (hM 65)), (hp1, oX6 sp1)]) kX4 f_X4_16 0 rfl rfl rfl rfl (Nat.le_of_ble_eq_true rfl) rfl (DX4_record 21 rfl) ?_
      cases hxt
      exact hret _ _ _ (DX4_record 22 rfl) ⟨ha, rfl⟩
    refine xif hxt (fun hc hxt => ?_) (fun _ hxt => ?_)
    · refine r.aald (b := (ha 3)) 1 rfl (by rw [hc]; unfold vp_in; decide) (by rw [hc]; rfl) (DX4_record 13 rfl) ?_
      refine r.aload_n 1 (DX4_record 14 rfl) rfl ?_
      obtain ⟨o4, ho4, hxt⟩ := xbd hxt
      refine r.callVV 0 rfl rfl (t_X6_take E (fun _ => 0) (ha 3) hp1 (hM 63) sp1 ho4) g_X4_23 rfl (DX4_record 15 rfl) rfl ⟨(Nat.le_of_ble_eq_true rfl), (Nat.le_of_ble_eq_true rfl)⟩ ⟨(Nat.le_of_ble_eq_true rfl), (Nat.le_of_ble_eq_true rfl)⟩ (Nat.le_of_ble_eq_true rfl) [5, 8] [0, 1, 2, 3, 4, 6, 7] rfl rfl rfl rfl (by decide) [0, 1, 2, 3, 4, 7, 5, 6, 8] rfl (ws2 := fun _ => [((a 23), .inr (4, [.ref (a 24), .int (hM 23 1)])), ((a 24), .inl (xO E, 6, .inr (.inr (.inr (.inr (xhf ha)))))), ((ha 0), oX6 (hM 60)), ((ha 1), oX6 (hM 61)), ((ha 2), oX6 (hM 62)), ((ha 3), oX6 o4), ((ha 4), oX6 (hM 64)), ((ha 5), oX6 (hM 65)), (hp1, oX6 sp1)]) (fun _ => rfl) (fun _ => ?_)
      refine r.aload_n 0 (DX4_record 16 rfl) rfl ?_
      refine r.dup (DX4_record 17 rfl) rfl ?_
      refine r.get (v := .int (hM 23 1)) kX4 f_X4_16 rfl 0 rfl rfl (DX4_record 18 rfl) ?_
      refine r.iconst (v := (1 : Int32)) (DX4_record 19 rfl) rfl ?_
      refine r.iadd (DX4_record 20 rfl) ?_
      refine r.put (ws' := [((a 23), .inr (4, [.ref (a 24), .int ((hM 23 1) + (1 : Int32))])), ((a 24), .inl (xO E, 6, .inr (.inr (.inr (.inr (xhf ha)))))), ((ha 0), oX6 (hM 60)), ((ha 1), oX6 (hM 61)), ((ha 2), oX6 (hM 62)), ((ha 3), oX6 o4), ((ha 4), oX6 (hM 64)), ((ha 5), oX6 (hM 65)), (hp1, oX6 sp1)]) kX4 f_X4_16 0 rfl rfl rfl rfl (Nat.le_of_ble_eq_true rfl) rfl (DX4_record 21 rfl) ?_
      cases hxt
      exact hret _ _ _ (DX4_record 22 rfl) ⟨ha, rfl⟩
    refine xif hxt (fun hc hxt => ?_) (fun _ hxt => ?_)
    · refine r.aald (b := (ha 4)) 1 rfl (by rw [hc]; unfold vp_in; decide) (by rw [hc]; rfl) (DX4_record 13 rfl) ?_
      refine r.aload_n 1 (DX4_record 14 rfl) rfl ?_
      obtain ⟨o5, ho5, hxt⟩ := xbd hxt
      refine r.callVV 0 rfl rfl (t_X6_take E (fun _ => 0) (ha 4) hp1 (hM 64) sp1 ho5) g_X4_23 rfl (DX4_record 15 rfl) rfl ⟨(Nat.le_of_ble_eq_true rfl), (Nat.le_of_ble_eq_true rfl)⟩ ⟨(Nat.le_of_ble_eq_true rfl), (Nat.le_of_ble_eq_true rfl)⟩ (Nat.le_of_ble_eq_true rfl) [6, 8] [0, 1, 2, 3, 4, 5, 7] rfl rfl rfl rfl (by decide) [0, 1, 2, 3, 4, 5, 7, 6, 8] rfl (ws2 := fun _ => [((a 23), .inr (4, [.ref (a 24), .int (hM 23 1)])), ((a 24), .inl (xO E, 6, .inr (.inr (.inr (.inr (xhf ha)))))), ((ha 0), oX6 (hM 60)), ((ha 1), oX6 (hM 61)), ((ha 2), oX6 (hM 62)), ((ha 3), oX6 (hM 63)), ((ha 4), oX6 o5), ((ha 5), oX6 (hM 65)), (hp1, oX6 sp1)]) (fun _ => rfl) (fun _ => ?_)
      refine r.aload_n 0 (DX4_record 16 rfl) rfl ?_
      refine r.dup (DX4_record 17 rfl) rfl ?_
      refine r.get (v := .int (hM 23 1)) kX4 f_X4_16 rfl 0 rfl rfl (DX4_record 18 rfl) ?_
      refine r.iconst (v := (1 : Int32)) (DX4_record 19 rfl) rfl ?_
      refine r.iadd (DX4_record 20 rfl) ?_
      refine r.put (ws' := [((a 23), .inr (4, [.ref (a 24), .int ((hM 23 1) + (1 : Int32))])), ((a 24), .inl (xO E, 6, .inr (.inr (.inr (.inr (xhf ha)))))), ((ha 0), oX6 (hM 60)), ((ha 1), oX6 (hM 61)), ((ha 2), oX6 (hM 62)), ((ha 3), oX6 (hM 63)), ((ha 4), oX6 o5), ((ha 5), oX6 (hM 65)), (hp1, oX6 sp1)]) kX4 f_X4_16 0 rfl rfl rfl rfl (Nat.le_of_ble_eq_true rfl) rfl (DX4_record 21 rfl) ?_
      cases hxt
      exact hret _ _ _ (DX4_record 22 rfl) ⟨ha, rfl⟩
    refine xif hxt (fun hc hxt => ?_) (fun _ hxt => ?_)
    · refine r.aald (b := (ha 5)) 1 rfl (by rw [hc]; unfold vp_in; decide) (by rw [hc]; rfl) (DX4_record 13 rfl) ?_
      refine r.aload_n 1 (DX4_record 14 rfl) rfl ?_
      obtain ⟨o6, ho6, hxt⟩ := xbd hxt
      refine r.callVV 0 rfl rfl (t_X6_take E (fun _ => 0) (ha 5) hp1 (hM 65) sp1 ho6) g_X4_23 rfl (DX4_record 15 rfl) rfl ⟨(Nat.le_of_ble_eq_true rfl), (Nat.le_of_ble_eq_true rfl)⟩ ⟨(Nat.le_of_ble_eq_true rfl), (Nat.le_of_ble_eq_true rfl)⟩ (Nat.le_of_ble_eq_true rfl) [7, 8] [0, 1, 2, 3, 4, 5, 6] rfl rfl rfl rfl (by decide) [0, 1, 2, 3, 4, 5, 6, 7, 8] rfl (ws2 := fun _ => [((a 23), .inr (4, [.ref (a 24), .int (hM 23 1)])), ((a 24), .inl (xO E, 6, .inr (.inr (.inr (.inr (xhf ha)))))), ((ha 0), oX6 (hM 60)), ((ha 1), oX6 (hM 61)), ((ha 2), oX6 (hM 62)), ((ha 3), oX6 (hM 63)), ((ha 4), oX6 (hM 64)), ((ha 5), oX6 o6), (hp1, oX6 sp1)]) (fun _ => rfl) (fun _ => ?_)
      refine r.aload_n 0 (DX4_record 16 rfl) rfl ?_
      refine r.dup (DX4_record 17 rfl) rfl ?_
      refine r.get (v := .int (hM 23 1)) kX4 f_X4_16 rfl 0 rfl rfl (DX4_record 18 rfl) ?_
      refine r.iconst (v := (1 : Int32)) (DX4_record 19 rfl) rfl ?_
      refine r.iadd (DX4_record 20 rfl) ?_
      refine r.put (ws' := [((a 23), .inr (4, [.ref (a 24), .int ((hM 23 1) + (1 : Int32))])), ((a 24), .inl (xO E, 6, .inr (.inr (.inr (.inr (xhf ha)))))), ((ha 0), oX6 (hM 60)), ((ha 1), oX6 (hM 61)), ((ha 2), oX6 (hM 62)), ((ha 3), oX6 (hM 63)), ((ha 4), oX6 (hM 64)), ((ha 5), oX6 o6), (hp1, oX6 sp1)]) kX4 f_X4_16 0 rfl rfl rfl rfl (Nat.le_of_ble_eq_true rfl) rfl (DX4_record 21 rfl) ?_
      cases hxt
      exact hret _ _ _ (DX4_record 22 rfl) ⟨ha, rfl⟩
    cases hxt
  refine r.aload_n 0 (DX4_record 4 rfl) rfl ?_
  refine r.callVV 0 rfl rfl (t_X4_dropOldest E a ha hM) g_X4_20 rfl (DX4_record 5 rfl) rfl ⟨(Nat.le_of_ble_eq_true rfl), (Nat.le_of_ble_eq_true rfl)⟩ ⟨(Nat.le_of_ble_eq_true rfl), (Nat.le_of_ble_eq_true rfl)⟩ (Nat.le_of_ble_eq_true rfl) [0, 1, 2, 3, 4, 5, 6, 7] [8] rfl rfl rfl rfl (by decide) [1, 2, 3, 4, 5, 6, 7, 8, 0] rfl (ws2 := fun _ => [((a 23), .inr (4, [.ref (a 24), .int (5 : Int32)])), ((a 24), .inl (xO E, 6, .inr (.inr (.inr (.inr (va_up (va_up (va_up (va_up (va_up (va_up (xhf ha) ((1 : Int32) - (1 : Int32)).toNatClampNeg (some (ha 1))) (((1 : Int32) + (1 : Int32)) - (1 : Int32)).toNatClampNeg (some (ha 2))) ((((1 : Int32) + (1 : Int32)) + (1 : Int32)) - (1 : Int32)).toNatClampNeg (some (ha 3))) (((((1 : Int32) + (1 : Int32)) + (1 : Int32)) + (1 : Int32)) - (1 : Int32)).toNatClampNeg (some (ha 4))) ((((((1 : Int32) + (1 : Int32)) + (1 : Int32)) + (1 : Int32)) + (1 : Int32)) - (1 : Int32)).toNatClampNeg (some (ha 5))) (5 : Int32).toNatClampNeg (some (ha 0)))))))), ((ha 0), oX6 (hM 60)), ((ha 1), oX6 (hM 61)), ((ha 2), oX6 (hM 62)), ((ha 3), oX6 (hM 63)), ((ha 4), oX6 (hM 64)), ((ha 5), oX6 (hM 65)), (hp1, oX6 sp1)]) (fun _ => rfl) (fun _ => ?_)
  refine r.aload_n 0 (DX4_record 6 rfl) rfl ?_
  refine r.get (v := .int (5 : Int32)) kX4 f_X4_16 rfl 0 rfl rfl (DX4_record 7 rfl) ?_
  refine r.if_ltF 43 (DX4_record 8 rfl) rfl (by decide) ?_
  refine r.aload_n 0 (DX4_record 9 rfl) rfl ?_
  refine r.get (v := .ref (a 24)) kX4 f_X4_11 rfl 0 rfl rfl (DX4_record 10 rfl) ?_
  refine r.aload_n 0 (DX4_record 11 rfl) rfl ?_
  refine r.get (v := .int (5 : Int32)) kX4 f_X4_16 rfl 0 rfl rfl (DX4_record 12 rfl) ?_
  refine r.aald (b := (ha 0)) 1 rfl (by unfold vp_in; decide) rfl (DX4_record 13 rfl) ?_
  refine r.aload_n 1 (DX4_record 14 rfl) rfl ?_
  obtain ⟨o7, ho7, hxt⟩ := xbd hxt
  refine r.callVV 0 rfl rfl (t_X6_take E (fun _ => 0) (ha 0) hp1 (hM 60) sp1 ho7) g_X4_23 rfl (DX4_record 15 rfl) rfl ⟨(Nat.le_of_ble_eq_true rfl), (Nat.le_of_ble_eq_true rfl)⟩ ⟨(Nat.le_of_ble_eq_true rfl), (Nat.le_of_ble_eq_true rfl)⟩ (Nat.le_of_ble_eq_true rfl) [2, 8] [0, 1, 3, 4, 5, 6, 7] rfl rfl rfl rfl (by decide) [0, 1, 7, 2, 3, 4, 5, 6, 8] rfl (ws2 := fun _ => [((a 23), .inr (4, [.ref (a 24), .int (5 : Int32)])), ((a 24), .inl (xO E, 6, .inr (.inr (.inr (.inr (va_up (va_up (va_up (va_up (va_up (va_up (xhf ha) ((1 : Int32) - (1 : Int32)).toNatClampNeg (some (ha 1))) (((1 : Int32) + (1 : Int32)) - (1 : Int32)).toNatClampNeg (some (ha 2))) ((((1 : Int32) + (1 : Int32)) + (1 : Int32)) - (1 : Int32)).toNatClampNeg (some (ha 3))) (((((1 : Int32) + (1 : Int32)) + (1 : Int32)) + (1 : Int32)) - (1 : Int32)).toNatClampNeg (some (ha 4))) ((((((1 : Int32) + (1 : Int32)) + (1 : Int32)) + (1 : Int32)) + (1 : Int32)) - (1 : Int32)).toNatClampNeg (some (ha 5))) (5 : Int32).toNatClampNeg (some (ha 0)))))))), ((ha 0), oX6 o7), ((ha 1), oX6 (hM 61)), ((ha 2), oX6 (hM 62)), ((ha 3), oX6 (hM 63)), ((ha 4), oX6 (hM 64)), ((ha 5), oX6 (hM 65)), (hp1, oX6 sp1)]) (fun _ => rfl) (fun _ => ?_)
  refine r.aload_n 0 (DX4_record 16 rfl) rfl ?_
  refine r.dup (DX4_record 17 rfl) rfl ?_
  refine r.get (v := .int (5 : Int32)) kX4 f_X4_16 rfl 0 rfl rfl (DX4_record 18 rfl) ?_
  refine r.iconst (v := (1 : Int32)) (DX4_record 19 rfl) rfl ?_
  refine r.iadd (DX4_record 20 rfl) ?_
  refine r.put (ws' := [((a 23), .inr (4, [.ref (a 24), .int ((5 : Int32) + (1 : Int32))])), ((a 24), .inl (xO E, 6, .inr (.inr (.inr (.inr (va_up (va_up (va_up (va_up (va_up (va_up (xhf ha) ((1 : Int32) - (1 : Int32)).toNatClampNeg (some (ha 1))) (((1 : Int32) + (1 : Int32)) - (1 : Int32)).toNatClampNeg (some (ha 2))) ((((1 : Int32) + (1 : Int32)) + (1 : Int32)) - (1 : Int32)).toNatClampNeg (some (ha 3))) (((((1 : Int32) + (1 : Int32)) + (1 : Int32)) + (1 : Int32)) - (1 : Int32)).toNatClampNeg (some (ha 4))) ((((((1 : Int32) + (1 : Int32)) + (1 : Int32)) + (1 : Int32)) + (1 : Int32)) - (1 : Int32)).toNatClampNeg (some (ha 5))) (5 : Int32).toNatClampNeg (some (ha 0)))))))), ((ha 0), oX6 o7), ((ha 1), oX6 (hM 61)), ((ha 2), oX6 (hM 62)), ((ha 3), oX6 (hM 63)), ((ha 4), oX6 (hM 64)), ((ha 5), oX6 (hM 65)), (hp1, oX6 sp1)]) kX4 f_X4_16 0 rfl rfl rfl rfl (Nat.le_of_ble_eq_true rfl) rfl (DX4_record 21 rfl) ?_
  cases hxt
  refine r.pmw (ws' := [((a 23), .inr (4, [.ref (a 24), .int ((5 : Int32) + (1 : Int32))])), ((a 24), .inl (xO E, 6, .inr (.inr (.inr (.inr (va_up (va_up (va_up (va_up (va_up (va_up (xhf ha) ((1 : Int32) - (1 : Int32)).toNatClampNeg (some (ha 1))) (((1 : Int32) + (1 : Int32)) - (1 : Int32)).toNatClampNeg (some (ha 2))) ((((1 : Int32) + (1 : Int32)) + (1 : Int32)) - (1 : Int32)).toNatClampNeg (some (ha 3))) (((((1 : Int32) + (1 : Int32)) + (1 : Int32)) + (1 : Int32)) - (1 : Int32)).toNatClampNeg (some (ha 4))) ((((((1 : Int32) + (1 : Int32)) + (1 : Int32)) + (1 : Int32)) + (1 : Int32)) - (1 : Int32)).toNatClampNeg (some (ha 5))) (5 : Int32).toNatClampNeg (some (ha 0)))))))), ((ha 1), oX6 (hM 61)), ((ha 2), oX6 (hM 62)), ((ha 3), oX6 (hM 63)), ((ha 4), oX6 (hM 64)), ((ha 5), oX6 (hM 65)), ((ha 0), oX6 o7), (hp1, oX6 sp1)]) [0, 1, 3, 4, 5, 6, 7, 2, 8] rfl rfl ?_
  exact hret _ _ _ (DX4_record 22 rfl) ⟨xrot ha, by rw [xrot_e ha]; rfl⟩
set_option maxRecDepth 100000 in
set_option maxHeartbeats 4000000 in
theorem t_X4_takeBack (E : xE) (a : Nat → Nat) (ha : Nat → Nat) (hp1 : Nat) (sp1 : Nat → Int32) (hM : Mem) {o : (Nat → Int32) × Mem} (hxt : xt_X4_takeBack sp1 hM = some o) : xMV (S := Unit) E yX4_takeBack cX4_takeBack 2 1 0 0 [.ref (a 23), .ref hp1] [((a 23), .inr (4, [.ref (a 24), .int (hM 23 1)])), ((a 24), .inl (xO E, 6, .inr (.inr (.inr (.inr (xhf ha)))))), ((ha 0), oX6 (hM 60)), ((ha 1), oX6 (hM 61)), ((ha 2), oX6 (hM 62)), ((ha 3), oX6 (hM 63)), ((ha 4), oX6 (hM 64)), ((ha 5), oX6 (hM 65)), (hp1, oX6 sp1)] (fun _ => [(a 23, oX4 a (o.2 23)), (a 24, .inl (xO E, 6, .inr (.inr (.inr (.inr (xhf ha)))))), (ha 0, oX6 (hM 60)), (ha 1, oX6 (hM 61)), (ha 2, oX6 (hM 62)), (ha 3, oX6 (hM 63)), (ha 4, oX6 (hM 64)), (ha 5, oX6 (hM 65)), (hp1, oX6 o.1)]) := by
  refine xMV.of (own := RX4) (lo0 := [(0, .ref (a 23)), (1, .ref hp1)]) (ini := false) (fun h => nomatch h) (by decide +kernel) rfl rfl (Nat.le_of_ble_eq_true rfl) (fun V r hret => ?_)
  unfold xt_X4_takeBack at hxt
  refine r.aload_n 0 (DX4_takeBack 0 rfl) rfl ?_
  refine r.get (v := .int (hM 23 1)) kX4 f_X4_16 rfl 0 rfl rfl (DX4_takeBack 1 rfl) ?_
  refine r.if_le 39 (DX4_takeBack 2 rfl) rfl hxt (fun _ hxt => ?_) (fun _ hxt => ?_)
  · cases hxt
    exact hret _ _ _ (DX4_takeBack 20 rfl) ⟨(), rfl⟩
  refine r.aload_n 0 (DX4_takeBack 3 rfl) rfl ?_
  refine r.get (v := .int (hM 23 1)) kX4 f_X4_16 rfl 0 rfl rfl (DX4_takeBack 4 rfl) ?_
  refine r.bipush (v := (6 : Int32)) (DX4_takeBack 5 rfl) rfl ?_
  refine r.icmp_gt 39 (DX4_takeBack 6 rfl) rfl hxt (fun _ hxt => ?_) (fun _ hxt => ?_)
  · cases hxt
    exact hret _ _ _ (DX4_takeBack 20 rfl) ⟨(), rfl⟩
  refine r.aload_n 0 (DX4_takeBack 7 rfl) rfl ?_
  refine r.dup (DX4_takeBack 8 rfl) rfl ?_
  refine r.get (v := .int (hM 23 1)) kX4 f_X4_16 rfl 0 rfl rfl (DX4_takeBack 9 rfl) ?_
  refine r.iconst (v := (1 : Int32)) (DX4_takeBack 10 rfl) rfl ?_
  refine r.isub (DX4_takeBack 11 rfl) ?_
  refine r.put (ws' := [((a 23), .inr (4, [.ref (a 24), .int ((hM 23 1) - (1 : Int32))])), ((a 24), .inl (xO E, 6, .inr (.inr (.inr (.inr (xhf ha)))))), ((ha 0), oX6 (hM 60)), ((ha 1), oX6 (hM 61)), ((ha 2), oX6 (hM 62)), ((ha 3), oX6 (hM 63)), ((ha 4), oX6 (hM 64)), ((ha 5), oX6 (hM 65)), (hp1, oX6 sp1)]) kX4 f_X4_16 0 rfl rfl rfl rfl (Nat.le_of_ble_eq_true rfl) rfl (DX4_takeBack 12 rfl) ?_
  refine r.aload_n 1 (DX4_takeBack 13 rfl) rfl ?_
  refine r.aload_n 0 (DX4_takeBack 14 rfl) rfl ?_
  refine r.get (v := .ref (a 24)) kX4 f_X4_11 rfl 0 rfl rfl (DX4_takeBack 15 rfl) ?_
  refine r.aload_n 0 (DX4_takeBack 16 rfl) rfl ?_
  refine r.get (v := .int ((hM 23 1) - (1 : Int32))) kX4 f_X4_16 rfl 0 rfl rfl (DX4_takeBack 17 rfl) ?_
  refine xif hxt (fun hc hxt => ?_) (fun _ hxt => ?_)
  · refine r.aald (b := (ha 0)) 1 rfl (by rw [hc]; unfold vp_in; decide) (by rw [hc]; rfl) (DX4_takeBack 18 rfl) ?_
    obtain ⟨o1, ho1, hxt⟩ := xbd hxt
    refine r.callVV 0 rfl rfl (t_X6_take E (fun _ => 0) hp1 (ha 0) sp1 (hM 60) ho1) g_X4_23 rfl (DX4_takeBack 19 rfl) rfl ⟨(Nat.le_of_ble_eq_true rfl), (Nat.le_of_ble_eq_true rfl)⟩ ⟨(Nat.le_of_ble_eq_true rfl), (Nat.le_of_ble_eq_true rfl)⟩ (Nat.le_of_ble_eq_true rfl) [8, 2] [0, 1, 3, 4, 5, 6, 7] rfl rfl rfl rfl (by decide) [0, 1, 8, 2, 3, 4, 5, 6, 7] rfl (ws2 := fun _ => [((a 23), .inr (4, [.ref (a 24), .int ((hM 23 1) - (1 : Int32))])), ((a 24), .inl (xO E, 6, .inr (.inr (.inr (.inr (xhf ha)))))), ((ha 0), oX6 (hM 60)), ((ha 1), oX6 (hM 61)), ((ha 2), oX6 (hM 62)), ((ha 3), oX6 (hM 63)), ((ha 4), oX6 (hM 64)), ((ha 5), oX6 (hM 65)), (hp1, oX6 o1)]) (fun _ => rfl) (fun _ => ?_)
    cases hxt
    exact hret _ _ _ (DX4_takeBack 20 rfl) ⟨(), rfl⟩
  refine xif hxt (fun hc hxt => ?_) (fun _ hxt => ?_)
  · refine r.aald (b := (ha 1)) 1 rfl (by rw [hc]; unfold vp_in; decide) (by rw [hc]; rfl) (DX4_takeBack 18 rfl) ?_
    obtain ⟨o2, ho2, hxt⟩ := xbd hxt
    refine r.callVV 0 rfl rfl (t_X6_take E (fun _ => 0) hp1 (ha 1) sp1 (hM 61) ho2) g_X4_23 rfl (DX4_takeBack 19 rfl) rfl ⟨(Nat.le_of_ble_eq_true rfl), (Nat.le_of_ble_eq_true rfl)⟩ ⟨(Nat.le_of_ble_eq_true rfl), (Nat.le_of_ble_eq_true rfl)⟩ (Nat.le_of_ble_eq_true rfl) [8, 3] [0, 1, 2, 4, 5, 6, 7] rfl rfl rfl rfl (by decide) [0, 1, 2, 8, 3, 4, 5, 6, 7] rfl (ws2 := fun _ => [((a 23), .inr (4, [.ref (a 24), .int ((hM 23 1) - (1 : Int32))])), ((a 24), .inl (xO E, 6, .inr (.inr (.inr (.inr (xhf ha)))))), ((ha 0), oX6 (hM 60)), ((ha 1), oX6 (hM 61)), ((ha 2), oX6 (hM 62)), ((ha 3), oX6 (hM 63)), ((ha 4), oX6 (hM 64)), ((ha 5), oX6 (hM 65)), (hp1, oX6 o2)]) (fun _ => rfl) (fun _ => ?_)
    cases hxt
    exact hret _ _ _ (DX4_takeBack 20 rfl) ⟨(), rfl⟩
  refine xif hxt (fun hc hxt => ?_) (fun _ hxt => ?_)
  · refine r.aald (b := (ha 2)) 1 rfl (by rw [hc]; unfold vp_in; decide) (by rw [hc]; rfl) (DX4_takeBack 18 rfl) ?_
    obtain ⟨o3, ho3, hxt⟩ := xbd hxt
    refine r.callVV 0 rfl rfl (t_X6_take E (fun _ => 0) hp1 (ha 2) sp1 (hM 62) ho3) g_X4_23 rfl (DX4_takeBack 19 rfl) rfl ⟨(Nat.le_of_ble_eq_true rfl), (Nat.le_of_ble_eq_true rfl)⟩ ⟨(Nat.le_of_ble_eq_true rfl), (Nat.le_of_ble_eq_true rfl)⟩ (Nat.le_of_ble_eq_true rfl) [8, 4] [0, 1, 2, 3, 5, 6, 7] rfl rfl rfl rfl (by decide) [0, 1, 2, 3, 8, 4, 5, 6, 7] rfl (ws2 := fun _ => [((a 23), .inr (4, [.ref (a 24), .int ((hM 23 1) - (1 : Int32))])), ((a 24), .inl (xO E, 6, .inr (.inr (.inr (.inr (xhf ha)))))), ((ha 0), oX6 (hM 60)), ((ha 1), oX6 (hM 61)), ((ha 2), oX6 (hM 62)), ((ha 3), oX6 (hM 63)), ((ha 4), oX6 (hM 64)), ((ha 5), oX6 (hM 65)), (hp1, oX6 o3)]) (fun _ => rfl) (fun _ => ?_)
    cases hxt
    exact hret _ _ _ (DX4_takeBack 20 rfl) ⟨(), rfl⟩
  refine xif hxt (fun hc hxt => ?_) (fun _ hxt => ?_)
  · refine r.aald (b := (ha 3)) 1 rfl (by rw [hc]; unfold vp_in; decide) (by rw [hc]; rfl) (DX4_takeBack 18 rfl) ?_
    obtain ⟨o4, ho4, hxt⟩ := xbd hxt
    refine r.callVV 0 rfl rfl (t_X6_take E (fun _ => 0) hp1 (ha 3) sp1 (hM 63) ho4) g_X4_23 rfl (DX4_takeBack 19 rfl) rfl ⟨(Nat.le_of_ble_eq_true rfl), (Nat.le_of_ble_eq_true rfl)⟩ ⟨(Nat.le_of_ble_eq_true rfl), (Nat.le_of_ble_eq_true rfl)⟩ (Nat.le_of_ble_eq_true rfl) [8, 5] [0, 1, 2, 3, 4, 6, 7] rfl rfl rfl rfl (by decide) [0, 1, 2, 3, 4, 8, 5, 6, 7] rfl (ws2 := fun _ => [((a 23), .inr (4, [.ref (a 24), .int ((hM 23 1) - (1 : Int32))])), ((a 24), .inl (xO E, 6, .inr (.inr (.inr (.inr (xhf ha)))))), ((ha 0), oX6 (hM 60)), ((ha 1), oX6 (hM 61)), ((ha 2), oX6 (hM 62)), ((ha 3), oX6 (hM 63)), ((ha 4), oX6 (hM 64)), ((ha 5), oX6 (hM 65)), (hp1, oX6 o4)]) (fun _ => rfl) (fun _ => ?_)
    cases hxt
    exact hret _ _ _ (DX4_takeBack 20 rfl) ⟨(), rfl⟩
  refine xif hxt (fun hc hxt => ?_) (fun _ hxt => ?_)
  · refine r.aald (b := (ha 4)) 1 rfl (by rw [hc]; unfold vp_in; decide) (by rw [hc]; rfl) (DX4_takeBack 18 rfl) ?_
    obtain ⟨o5, ho5, hxt⟩ := xbd hxt
    refine r.callVV 0 rfl rfl (t_X6_take E (fun _ => 0) hp1 (ha 4) sp1 (hM 64) ho5) g_X4_23 rfl (DX4_takeBack 19 rfl) rfl ⟨(Nat.le_of_ble_eq_true rfl), (Nat.le_of_ble_eq_true rfl)⟩ ⟨(Nat.le_of_ble_eq_true rfl), (Nat.le_of_ble_eq_true rfl)⟩ (Nat.le_of_ble_eq_true rfl) [8, 6] [0, 1, 2, 3, 4, 5, 7] rfl rfl rfl rfl (by decide) [0, 1, 2, 3, 4, 5, 8, 6, 7] rfl (ws2 := fun _ => [((a 23), .inr (4, [.ref (a 24), .int ((hM 23 1) - (1 : Int32))])), ((a 24), .inl (xO E, 6, .inr (.inr (.inr (.inr (xhf ha)))))), ((ha 0), oX6 (hM 60)), ((ha 1), oX6 (hM 61)), ((ha 2), oX6 (hM 62)), ((ha 3), oX6 (hM 63)), ((ha 4), oX6 (hM 64)), ((ha 5), oX6 (hM 65)), (hp1, oX6 o5)]) (fun _ => rfl) (fun _ => ?_)
    cases hxt
    exact hret _ _ _ (DX4_takeBack 20 rfl) ⟨(), rfl⟩
  refine xif hxt (fun hc hxt => ?_) (fun _ hxt => ?_)
  · refine r.aald (b := (ha 5)) 1 rfl (by rw [hc]; unfold vp_in; decide) (by rw [hc]; rfl) (DX4_takeBack 18 rfl) ?_
    obtain ⟨o6, ho6, hxt⟩ := xbd hxt
    refine r.callVV 0 rfl rfl (t_X6_take E (fun _ => 0) hp1 (ha 5) sp1 (hM 65) ho6) g_X4_23 rfl (DX4_takeBack 19 rfl) rfl ⟨(Nat.le_of_ble_eq_true rfl), (Nat.le_of_ble_eq_true rfl)⟩ ⟨(Nat.le_of_ble_eq_true rfl), (Nat.le_of_ble_eq_true rfl)⟩ (Nat.le_of_ble_eq_true rfl) [8, 7] [0, 1, 2, 3, 4, 5, 6] rfl rfl rfl rfl (by decide) [0, 1, 2, 3, 4, 5, 6, 8, 7] rfl (ws2 := fun _ => [((a 23), .inr (4, [.ref (a 24), .int ((hM 23 1) - (1 : Int32))])), ((a 24), .inl (xO E, 6, .inr (.inr (.inr (.inr (xhf ha)))))), ((ha 0), oX6 (hM 60)), ((ha 1), oX6 (hM 61)), ((ha 2), oX6 (hM 62)), ((ha 3), oX6 (hM 63)), ((ha 4), oX6 (hM 64)), ((ha 5), oX6 (hM 65)), (hp1, oX6 o6)]) (fun _ => rfl) (fun _ => ?_)
    cases hxt
    exact hret _ _ _ (DX4_takeBack 20 rfl) ⟨(), rfl⟩
  cases hxt
