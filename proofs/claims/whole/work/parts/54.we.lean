set_option maxRecDepth 100000 in
set_option maxHeartbeats 4000000 in
theorem t_X2_foxSteps (E : xE) (a : Nat → Nat) (hp1 : Nat) (sp1 : Nat → Int32) (hM : Mem) {o : Int32} (hxt : xt_X2_foxSteps sp1 hM = some o) : xMI (S := Unit) E yX2_foxSteps cX2_foxSteps 2 .int 1 0 0 [.ref (a 20), .ref hp1] [(a 1, oX3 a), (a 2, aI E 16 (hM 2)), (a 3, aI E 16 (hM 3)), (a 20, oX2 a), (hp1, oX6 sp1)] (fun _ => o) (fun _ => [(a 1, oX3 a), (a 2, aI E 16 (hM 2)), (a 3, aI E 16 (hM 3)), (a 20, oX2 a), (hp1, oX6 sp1)]) := by
  refine xMI.of (own := RX2) (lo0 := [(0, .ref (a 20)), (1, .ref hp1)]) (by decide +kernel) rfl rfl (Nat.le_of_ble_eq_true rfl) (fun V r hret => ?_)
  unfold xt_X2_foxSteps at hxt
  refine r.aload_n 0 (DX2_foxSteps 0 rfl) rfl ?_
  refine r.get (v := .ref (a 1)) kX2 f_X2_9 rfl 3 rfl rfl (DX2_foxSteps 1 rfl) ?_
  refine r.aload_n 1 (DX2_foxSteps 2 rfl) rfl ?_
  refine r.get (v := .int (sp1 3)) kX6 f_X2_35 rfl 4 rfl rfl (DX2_foxSteps 3 rfl) ?_
  refine r.aload_n 1 (DX2_foxSteps 4 rfl) rfl ?_
  refine r.iconst (v := (0 : Int32)) (DX2_foxSteps 5 rfl) rfl ?_
  obtain ⟨o_1, ho_1, hxt⟩ := xbd hxt
  refine r.callVI 0 rfl rfl (t_X6_setting E a hp1 (0 : Int32) sp1 ho_1) g_X2_38 rfl (DX2_foxSteps 6 rfl) rfl ⟨(Nat.le_of_ble_eq_true rfl), (Nat.le_of_ble_eq_true rfl)⟩ ⟨(Nat.le_of_ble_eq_true rfl), (Nat.le_of_ble_eq_true rfl)⟩ (Nat.le_of_ble_eq_true rfl) [4] [0, 1, 2, 3] rfl rfl rfl rfl (by decide) [0, 1, 2, 3, 4] rfl (ws2 := fun _ => [(a 1, oX3 a), (a 2, aI E 16 (hM 2)), (a 3, aI E 16 (hM 3)), (a 20, oX2 a), (hp1, oX6 sp1)]) (fun _ => rfl) (fun _ => ?_)
  refine r.iconst (v := (1 : Int32)) (DX2_foxSteps 7 rfl) rfl ?_
  refine r.icmp_ne 21 (DX2_foxSteps 8 rfl) rfl hxt (fun _ hxt => ?_) (fun _ hxt => ?_)
  · refine r.iconst (v := (0 : Int32)) (DX2_foxSteps 11 rfl) rfl ?_
    obtain ⟨o_2, ho_2, hxt⟩ := xbd hxt
    refine r.callVI 0 rfl rfl (t_X3_stepsFrom E a (sp1 3) (0 : Int32) hM ho_2) g_X2_42 rfl (DX2_foxSteps 12 rfl) rfl ⟨(Nat.le_of_ble_eq_true rfl), (Nat.le_of_ble_eq_true rfl)⟩ ⟨(Nat.le_of_ble_eq_true rfl), (Nat.le_of_ble_eq_true rfl)⟩ (Nat.le_of_ble_eq_true rfl) [0, 1, 2] [3, 4] rfl rfl rfl rfl (by decide) [2, 3, 4, 0, 1] rfl (ws2 := fun _ => [(a 1, oX3 a), (a 2, aI E 16 (hM 2)), (a 3, aI E 16 (hM 3)), (a 20, oX2 a), (hp1, oX6 sp1)]) (fun _ => rfl) (fun _ => ?_)
    refine r.aload_n 1 (DX2_foxSteps 13 rfl) rfl ?_
    refine r.get (v := .int (sp1 1)) kX6 f_X2_46 rfl 4 rfl rfl (DX2_foxSteps 14 rfl) ?_
    refine r.iconst (v := (-1 : Int32)) (DX2_foxSteps 15 rfl) rfl ?_
    refine r.ixor (DX2_foxSteps 16 rfl) ?_
    refine r.iand (DX2_foxSteps 17 rfl) ?_
    refine r.aload_n 1 (DX2_foxSteps 18 rfl) rfl ?_
    obtain ⟨o_3, ho_3, hxt⟩ := xbd hxt
    refine r.callVI 0 rfl rfl (t_X6_hunters E a hp1 sp1 ho_3) g_X2_49 rfl (DX2_foxSteps 19 rfl) rfl ⟨(Nat.le_of_ble_eq_true rfl), (Nat.le_of_ble_eq_true rfl)⟩ ⟨(Nat.le_of_ble_eq_true rfl), (Nat.le_of_ble_eq_true rfl)⟩ (Nat.le_of_ble_eq_true rfl) [4] [0, 1, 2, 3] rfl rfl rfl rfl (by decide) [0, 1, 2, 3, 4] rfl (ws2 := fun _ => [(a 1, oX3 a), (a 2, aI E 16 (hM 2)), (a 3, aI E 16 (hM 3)), (a 20, oX2 a), (hp1, oX6 sp1)]) (fun _ => rfl) (fun _ => ?_)
    refine r.iconst (v := (-1 : Int32)) (DX2_foxSteps 20 rfl) rfl ?_
    refine r.ixor (DX2_foxSteps 21 rfl) ?_
    refine r.iand (DX2_foxSteps 22 rfl) ?_
    cases hxt
    exact hret _ _ _ _ (DX2_foxSteps 23 rfl) rfl ⟨(), rfl, rfl⟩
  refine r.iconst (v := (1 : Int32)) (DX2_foxSteps 9 rfl) rfl ?_
  refine r.goto 22 (DX2_foxSteps 10 rfl) rfl ?_
  obtain ⟨o_4, ho_4, hxt⟩ := xbd hxt
  refine r.callVI 0 rfl rfl (t_X3_stepsFrom E a (sp1 3) (1 : Int32) hM ho_4) g_X2_42 rfl (DX2_foxSteps 12 rfl) rfl ⟨(Nat.le_of_ble_eq_true rfl), (Nat.le_of_ble_eq_true rfl)⟩ ⟨(Nat.le_of_ble_eq_true rfl), (Nat.le_of_ble_eq_true rfl)⟩ (Nat.le_of_ble_eq_true rfl) [0, 1, 2] [3, 4] rfl rfl rfl rfl (by decide) [2, 3, 4, 0, 1] rfl (ws2 := fun _ => [(a 1, oX3 a), (a 2, aI E 16 (hM 2)), (a 3, aI E 16 (hM 3)), (a 20, oX2 a), (hp1, oX6 sp1)]) (fun _ => rfl) (fun _ => ?_)
  refine r.aload_n 1 (DX2_foxSteps 13 rfl) rfl ?_
  refine r.get (v := .int (sp1 1)) kX6 f_X2_46 rfl 4 rfl rfl (DX2_foxSteps 14 rfl) ?_
  refine r.iconst (v := (-1 : Int32)) (DX2_foxSteps 15 rfl) rfl ?_
  refine r.ixor (DX2_foxSteps 16 rfl) ?_
  refine r.iand (DX2_foxSteps 17 rfl) ?_
  refine r.aload_n 1 (DX2_foxSteps 18 rfl) rfl ?_
  obtain ⟨o_5, ho_5, hxt⟩ := xbd hxt
  refine r.callVI 0 rfl rfl (t_X6_hunters E a hp1 sp1 ho_5) g_X2_49 rfl (DX2_foxSteps 19 rfl) rfl ⟨(Nat.le_of_ble_eq_true rfl), (Nat.le_of_ble_eq_true rfl)⟩ ⟨(Nat.le_of_ble_eq_true rfl), (Nat.le_of_ble_eq_true rfl)⟩ (Nat.le_of_ble_eq_true rfl) [4] [0, 1, 2, 3] rfl rfl rfl rfl (by decide) [0, 1, 2, 3, 4] rfl (ws2 := fun _ => [(a 1, oX3 a), (a 2, aI E 16 (hM 2)), (a 3, aI E 16 (hM 3)), (a 20, oX2 a), (hp1, oX6 sp1)]) (fun _ => rfl) (fun _ => ?_)
  refine r.iconst (v := (-1 : Int32)) (DX2_foxSteps 20 rfl) rfl ?_
  refine r.ixor (DX2_foxSteps 21 rfl) ?_
  refine r.iand (DX2_foxSteps 22 rfl) ?_
  cases hxt
  exact hret _ _ _ _ (DX2_foxSteps 23 rfl) rfl ⟨(), rfl, rfl⟩
set_option maxRecDepth 100000 in
set_option maxHeartbeats 4000000 in
theorem t_X2_caught (E : xE) (a : Nat → Nat) (hp1 : Nat) (sp1 : Nat → Int32) (hM : Mem) {o : Int32} (hxt : xt_X2_caught sp1 hM = some o) : xMI (S := Unit) E yX2_caught cX2_caught 2 .boolean 2 0 0 [.ref (a 20), .ref hp1] [(a 1, oX3 a), (a 2, aI E 16 (hM 2)), (a 3, aI E 16 (hM 3)), (a 20, oX2 a), (hp1, oX6 sp1)] (fun _ => o) (fun _ => [(a 1, oX3 a), (a 2, aI E 16 (hM 2)), (a 3, aI E 16 (hM 3)), (a 20, oX2 a), (hp1, oX6 sp1)]) := by
  refine xMI.of (own := RX2) (lo0 := [(0, .ref (a 20)), (1, .ref hp1)]) (by decide +kernel) rfl rfl (Nat.le_of_ble_eq_true rfl) (fun V r hret => ?_)
  unfold xt_X2_caught at hxt
  refine r.aload_n 1 (DX2_caught 0 rfl) rfl ?_
  obtain ⟨o_1, ho_1, hxt⟩ := xbd hxt
  refine r.callVI 0 rfl rfl (t_X6_hunterOnFox E a hp1 sp1 ho_1) g_X2_21 rfl (DX2_caught 1 rfl) rfl ⟨(Nat.le_of_ble_eq_true rfl), (Nat.le_of_ble_eq_true rfl)⟩ ⟨(Nat.le_of_ble_eq_true rfl), (Nat.le_of_ble_eq_true rfl)⟩ (Nat.le_of_ble_eq_true rfl) [4] [0, 1, 2, 3] rfl rfl rfl rfl (by decide) [0, 1, 2, 3, 4] rfl (ws2 := fun _ => [(a 1, oX3 a), (a 2, aI E 16 (hM 2)), (a 3, aI E 16 (hM 3)), (a 20, oX2 a), (hp1, oX6 sp1)]) (fun _ => rfl) (fun _ => ?_)
  refine r.if_ne 23 (DX2_caught 2 rfl) rfl hxt (fun _ hxt => ?_) (fun _ hxt => ?_)
  · refine r.iconst (v := (1 : Int32)) (DX2_caught 11 rfl) rfl ?_
    refine r.goto 28 (DX2_caught 12 rfl) rfl ?_
    cases hxt
    exact hret _ _ _ _ (DX2_caught 14 rfl) rfl ⟨(), rfl, rfl⟩
  refine r.aload_n 1 (DX2_caught 3 rfl) rfl ?_
  refine r.get (v := .int (sp1 2)) kX6 f_X2_27 rfl 4 rfl rfl (DX2_caught 4 rfl) ?_
  refine r.iconst (v := (1 : Int32)) (DX2_caught 5 rfl) rfl ?_
  refine r.icmp_ne 27 (DX2_caught 6 rfl) rfl hxt (fun _ hxt => ?_) (fun _ hxt => ?_)
  · refine r.iconst (v := (0 : Int32)) (DX2_caught 13 rfl) rfl ?_
    cases hxt
    exact hret _ _ _ _ (DX2_caught 14 rfl) rfl ⟨(), rfl, rfl⟩
  refine r.aload_n 0 (DX2_caught 7 rfl) rfl ?_
  refine r.aload_n 1 (DX2_caught 8 rfl) rfl ?_
  obtain ⟨o_2, ho_2, hxt⟩ := xbd hxt
  refine r.callVI 3 rfl rfl (t_X2_foxSteps E a hp1 sp1 hM ho_2) g_X2_31 rfl (DX2_caught 9 rfl) rfl ⟨(Nat.le_of_ble_eq_true rfl), (Nat.le_of_ble_eq_true rfl)⟩ ⟨(Nat.le_of_ble_eq_true rfl), (Nat.le_of_ble_eq_true rfl)⟩ (Nat.le_of_ble_eq_true rfl) [0, 1, 2, 3, 4] [] rfl rfl rfl rfl (by decide) [0, 1, 2, 3, 4] rfl (ws2 := fun _ => [(a 1, oX3 a), (a 2, aI E 16 (hM 2)), (a 3, aI E 16 (hM 3)), (a 20, oX2 a), (hp1, oX6 sp1)]) (fun _ => rfl) (fun _ => ?_)
  refine r.if_ne 27 (DX2_caught 10 rfl) rfl hxt (fun _ hxt => ?_) (fun _ hxt => ?_)
  · refine r.iconst (v := (0 : Int32)) (DX2_caught 13 rfl) rfl ?_
    cases hxt
    exact hret _ _ _ _ (DX2_caught 14 rfl) rfl ⟨(), rfl, rfl⟩
  refine r.iconst (v := (1 : Int32)) (DX2_caught 11 rfl) rfl ?_
  refine r.goto 28 (DX2_caught 12 rfl) rfl ?_
  cases hxt
  exact hret _ _ _ _ (DX2_caught 14 rfl) rfl ⟨(), rfl, rfl⟩
set_option maxRecDepth 100000 in
set_option maxHeartbeats 4000000 in
theorem t_X2_hunterSteps (E : xE) (a : Nat → Nat) (hp1 : Nat) (x2 : Int32) (sp1 : Nat → Int32) (hM : Mem) {o : Int32} (hxt : xt_X2_hunterSteps x2 sp1 hM = some o) : xMI (S := Unit) E yX2_hunterSteps cX2_hunterSteps 3 .int 1 0 0 [.ref (a 20), .ref hp1, .int x2] [(a 1, oX3 a), (a 2, aI E 16 (hM 2)), (a 3, aI E 16 (hM 3)), (a 20, oX2 a), (hp1, oX6 sp1)] (fun _ => o) (fun _ => [(a 1, oX3 a), (a 2, aI E 16 (hM 2)), (a 3, aI E 16 (hM 3)), (a 20, oX2 a), (hp1, oX6 sp1)]) := by
  refine xMI.of (own := RX2) (lo0 := [(0, .ref (a 20)), (1, .ref hp1), (2, .int x2)]) (by decide +kernel) rfl rfl (Nat.le_of_ble_eq_true rfl) (fun V r hret => ?_)
  unfold xt_X2_hunterSteps at hxt
  refine r.aload_n 0 (DX2_hunterSteps 0 rfl) rfl ?_
  refine r.get (v := .ref (a 1)) kX2 f_X2_9 rfl 3 rfl rfl (DX2_hunterSteps 1 rfl) ?_
  refine r.iload_n 2 (DX2_hunterSteps 2 rfl) rfl ?_
  refine r.aload_n 1 (DX2_hunterSteps 3 rfl) rfl ?_
  refine r.iconst (v := (1 : Int32)) (DX2_hunterSteps 4 rfl) rfl ?_
  obtain ⟨o_1, ho_1, hxt⟩ := xbd hxt
  refine r.callVI 0 rfl rfl (t_X6_setting E a hp1 (1 : Int32) sp1 ho_1) g_X2_38 rfl (DX2_hunterSteps 5 rfl) rfl ⟨(Nat.le_of_ble_eq_true rfl), (Nat.le_of_ble_eq_true rfl)⟩ ⟨(Nat.le_of_ble_eq_true rfl), (Nat.le_of_ble_eq_true rfl)⟩ (Nat.le_of_ble_eq_true rfl) [4] [0, 1, 2, 3] rfl rfl rfl rfl (by decide) [0, 1, 2, 3, 4] rfl (ws2 := fun _ => [(a 1, oX3 a), (a 2, aI E 16 (hM 2)), (a 3, aI E 16 (hM 3)), (a 20, oX2 a), (hp1, oX6 sp1)]) (fun _ => rfl) (fun _ => ?_)
  refine r.iconst (v := (1 : Int32)) (DX2_hunterSteps 6 rfl) rfl ?_
  refine r.icmp_ne 18 (DX2_hunterSteps 7 rfl) rfl hxt (fun _ hxt => ?_) (fun _ hxt => ?_)
  · refine r.iconst (v := (0 : Int32)) (DX2_hunterSteps 10 rfl) rfl ?_
    obtain ⟨o_2, ho_2, hxt⟩ := xbd hxt
    refine r.callVI 0 rfl rfl (t_X3_stepsFrom E a x2 (0 : Int32) hM ho_2) g_X2_42 rfl (DX2_hunterSteps 11 rfl) rfl ⟨(Nat.le_of_ble_eq_true rfl), (Nat.le_of_ble_eq_true rfl)⟩ ⟨(Nat.le_of_ble_eq_true rfl), (Nat.le_of_ble_eq_true rfl)⟩ (Nat.le_of_ble_eq_true rfl) [0, 1, 2] [3, 4] rfl rfl rfl rfl (by decide) [2, 3, 4, 0, 1] rfl (ws2 := fun _ => [(a 1, oX3 a), (a 2, aI E 16 (hM 2)), (a 3, aI E 16 (hM 3)), (a 20, oX2 a), (hp1, oX6 sp1)]) (fun _ => rfl) (fun _ => ?_)
    refine r.aload_n 1 (DX2_hunterSteps 12 rfl) rfl ?_
    refine r.get (v := .int (sp1 1)) kX6 f_X2_46 rfl 4 rfl rfl (DX2_hunterSteps 13 rfl) ?_
    refine r.iconst (v := (-1 : Int32)) (DX2_hunterSteps 14 rfl) rfl ?_
    refine r.ixor (DX2_hunterSteps 15 rfl) ?_
    refine r.iand (DX2_hunterSteps 16 rfl) ?_
    refine r.aload_n 1 (DX2_hunterSteps 17 rfl) rfl ?_
    obtain ⟨o_3, ho_3, hxt⟩ := xbd hxt
    refine r.callVI 0 rfl rfl (t_X6_hunters E a hp1 sp1 ho_3) g_X2_49 rfl (DX2_hunterSteps 18 rfl) rfl ⟨(Nat.le_of_ble_eq_true rfl), (Nat.le_of_ble_eq_true rfl)⟩ ⟨(Nat.le_of_ble_eq_true rfl), (Nat.le_of_ble_eq_true rfl)⟩ (Nat.le_of_ble_eq_true rfl) [4] [0, 1, 2, 3] rfl rfl rfl rfl (by decide) [0, 1, 2, 3, 4] rfl (ws2 := fun _ => [(a 1, oX3 a), (a 2, aI E 16 (hM 2)), (a 3, aI E 16 (hM 3)), (a 20, oX2 a), (hp1, oX6 sp1)]) (fun _ => rfl) (fun _ => ?_)
    refine r.iconst (v := (-1 : Int32)) (DX2_hunterSteps 19 rfl) rfl ?_
    refine r.ixor (DX2_hunterSteps 20 rfl) ?_
    refine r.iand (DX2_hunterSteps 21 rfl) ?_
    cases hxt
    exact hret _ _ _ _ (DX2_hunterSteps 22 rfl) rfl ⟨(), rfl, rfl⟩
  refine r.iconst (v := (1 : Int32)) (DX2_hunterSteps 8 rfl) rfl ?_
  refine r.goto 19 (DX2_hunterSteps 9 rfl) rfl ?_
  obtain ⟨o_4, ho_4, hxt⟩ := xbd hxt
  refine r.callVI 0 rfl rfl (t_X3_stepsFrom E a x2 (1 : Int32) hM ho_4) g_X2_42 rfl (DX2_hunterSteps 11 rfl) rfl ⟨(Nat.le_of_ble_eq_true rfl), (Nat.le_of_ble_eq_true rfl)⟩ ⟨(Nat.le_of_ble_eq_true rfl), (Nat.le_of_ble_eq_true rfl)⟩ (Nat.le_of_ble_eq_true rfl) [0, 1, 2] [3, 4] rfl rfl rfl rfl (by decide) [2, 3, 4, 0, 1] rfl (ws2 := fun _ => [(a 1, oX3 a), (a 2, aI E 16 (hM 2)), (a 3, aI E 16 (hM 3)), (a 20, oX2 a), (hp1, oX6 sp1)]) (fun _ => rfl) (fun _ => ?_)
  refine r.aload_n 1 (DX2_hunterSteps 12 rfl) rfl ?_
  refine r.get (v := .int (sp1 1)) kX6 f_X2_46 rfl 4 rfl rfl (DX2_hunterSteps 13 rfl) ?_
  refine r.iconst (v := (-1 : Int32)) (DX2_hunterSteps 14 rfl) rfl ?_
  refine r.ixor (DX2_hunterSteps 15 rfl) ?_
  refine r.iand (DX2_hunterSteps 16 rfl) ?_
  refine r.aload_n 1 (DX2_hunterSteps 17 rfl) rfl ?_
  obtain ⟨o_5, ho_5, hxt⟩ := xbd hxt
  refine r.callVI 0 rfl rfl (t_X6_hunters E a hp1 sp1 ho_5) g_X2_49 rfl (DX2_hunterSteps 18 rfl) rfl ⟨(Nat.le_of_ble_eq_true rfl), (Nat.le_of_ble_eq_true rfl)⟩ ⟨(Nat.le_of_ble_eq_true rfl), (Nat.le_of_ble_eq_true rfl)⟩ (Nat.le_of_ble_eq_true rfl) [4] [0, 1, 2, 3] rfl rfl rfl rfl (by decide) [0, 1, 2, 3, 4] rfl (ws2 := fun _ => [(a 1, oX3 a), (a 2, aI E 16 (hM 2)), (a 3, aI E 16 (hM 3)), (a 20, oX2 a), (hp1, oX6 sp1)]) (fun _ => rfl) (fun _ => ?_)
  refine r.iconst (v := (-1 : Int32)) (DX2_hunterSteps 19 rfl) rfl ?_
  refine r.ixor (DX2_hunterSteps 20 rfl) ?_
  refine r.iand (DX2_hunterSteps 21 rfl) ?_
  cases hxt
  exact hret _ _ _ _ (DX2_hunterSteps 22 rfl) rfl ⟨(), rfl, rfl⟩
set_option maxRecDepth 100000 in
set_option maxHeartbeats 4000000 in
theorem t_X2_allows (E : xE) (a : Nat → Nat) (hp1 : Nat) (x2 : Int32) (x3 : Int32) (sp1 : Nat → Int32) (hM : Mem) {o : Int32} (hxt : xt_X2_allows x2 x3 sp1 hM = some o) : xMI (S := Unit) E yX2_allows cX2_allows 4 .boolean 3 0 0 [.ref (a 20), .ref hp1, .int x2, .int x3] [(a 1, oX3 a), (a 2, aI E 16 (hM 2)), (a 3, aI E 16 (hM 3)), (a 20, oX2 a), (hp1, oX6 sp1)] (fun _ => o) (fun _ => [(a 1, oX3 a), (a 2, aI E 16 (hM 2)), (a 3, aI E 16 (hM 3)), (a 20, oX2 a), (hp1, oX6 sp1)]) := by
  refine xMI.of (own := RX2) (lo0 := [(0, .ref (a 20)), (1, .ref hp1), (2, .int x2), (3, .int x3)]) (by decide +kernel) rfl rfl (Nat.le_of_ble_eq_true rfl) (fun V r hret => ?_)
  unfold xt_X2_allows at hxt
  refine r.aload_n 0 (DX2_allows_0 0 rfl) rfl ?_
  refine r.aload_n 1 (DX2_allows_0 1 rfl) rfl ?_
  obtain ⟨o_1, ho_1, hxt⟩ := xbd hxt
  refine r.callVI 3 rfl rfl (t_X2_caught E a hp1 sp1 hM ho_1) g_X2_53 rfl (DX2_allows_0 2 rfl) rfl ⟨(Nat.le_of_ble_eq_true rfl), (Nat.le_of_ble_eq_true rfl)⟩ ⟨(Nat.le_of_ble_eq_true rfl), (Nat.le_of_ble_eq_true rfl)⟩ (Nat.le_of_ble_eq_true rfl) [0, 1, 2, 3, 4] [] rfl rfl rfl rfl (by decide) [0, 1, 2, 3, 4] rfl (ws2 := fun _ => [(a 1, oX3 a), (a 2, aI E 16 (hM 2)), (a 3, aI E 16 (hM 3)), (a 20, oX2 a), (hp1, oX6 sp1)]) (fun _ => rfl) (fun _ => ?_)
  refine r.if_eq 10 (DX2_allows_0 3 rfl) rfl hxt (fun _ hxt => ?_) (fun _ hxt => ?_)
  · refine r.aload_n 1 (DX2_allows_0 6 rfl) rfl ?_
    refine r.get (v := .int (sp1 2)) kX6 f_X2_27 rfl 4 rfl rfl (DX2_allows_0 7 rfl) ?_
    refine r.iconst (v := (1 : Int32)) (DX2_allows_0 8 rfl) rfl ?_
    refine r.icmp_ne 44 (DX2_allows_0 9 rfl) rfl hxt (fun _ hxt => ?_) (fun _ hxt => ?_)
    · refine r.iload_n 2 (DX2_allows_0 26 rfl) rfl ?_
      refine r.aload_n 1 (DX2_allows_0 27 rfl) rfl ?_
      refine r.get (v := .int (sp1 4)) kX6 f_X2_57 rfl 4 rfl rfl (DX2_allows_0 28 rfl) ?_
      refine r.icmp_eq 62 (DX2_allows_0 29 rfl) rfl hxt (fun _ hxt => ?_) (fun _ hxt => ?_)
      · refine r.iload_n 2 (DX2_allows_0 36 rfl) rfl ?_
        refine r.iload_n 3 (DX2_allows_0 37 rfl) rfl ?_
        refine r.icmp_ne 82 (DX2_allows_0 38 rfl) rfl hxt (fun _ hxt => ?_) (fun _ hxt => ?_)
        · refine r.aload_n 0 (DX2_allows_0 48 rfl) rfl ?_
          refine r.aload_n 1 (DX2_allows_0 49 rfl) rfl ?_
          refine r.iload_n 2 (DX2_allows_0 50 rfl) rfl ?_
          obtain ⟨o_2, ho_2, hxt⟩ := xbd hxt
          refine r.callVI 3 rfl rfl (t_X2_hunterSteps E a hp1 x2 sp1 hM ho_2) g_X2_63 rfl (DX2_allows_0 51 rfl) rfl ⟨(Nat.le_of_ble_eq_true rfl), (Nat.le_of_ble_eq_true rfl)⟩ ⟨(Nat.le_of_ble_eq_true rfl), (Nat.le_of_ble_eq_true rfl)⟩ (Nat.le_of_ble_eq_true rfl) [0, 1, 2, 3, 4] [] rfl rfl rfl rfl (by decide) [0, 1, 2, 3, 4] rfl (ws2 := fun _ => [(a 1, oX3 a), (a 2, aI E 16 (hM 2)), (a 3, aI E 16 (hM 3)), (a 20, oX2 a), (hp1, oX6 sp1)]) (fun _ => rfl) (fun _ => ?_)
          refine r.iload_n 3 (DX2_allows_0 52 rfl) rfl ?_
          refine r.ishr (DX2_allows_0 53 rfl) ?_
          refine r.iconst (v := (1 : Int32)) (DX2_allows_0 54 rfl) rfl ?_
          refine r.iand (DX2_allows_0 55 rfl) ?_
          refine r.if_eq 99 (DX2_allows_0 56 rfl) rfl hxt (fun _ hxt => ?_) (fun _ hxt => ?_)
          · refine r.iconst (v := (0 : Int32)) (DX2_allows_0 59 rfl) rfl ?_
            cases hxt
            exact hret _ _ _ _ (DX2_allows_1 0 rfl) rfl ⟨(), rfl, rfl⟩
          refine r.iconst (v := (1 : Int32)) (DX2_allows_0 57 rfl) rfl ?_
          refine r.goto 100 (DX2_allows_0 58 rfl) rfl ?_
          cases hxt
          exact hret _ _ _ _ (DX2_allows_1 0 rfl) rfl ⟨(), rfl, rfl⟩
        refine r.aload_n 1 (DX2_allows_0 39 rfl) rfl ?_
        refine r.iconst (v := (2 : Int32)) (DX2_allows_0 40 rfl) rfl ?_
        obtain ⟨o_3, ho_3, hxt⟩ := xbd hxt
        refine r.callVI 0 rfl rfl (t_X6_setting E a hp1 (2 : Int32) sp1 ho_3) g_X2_38 rfl (DX2_allows_0 41 rfl) rfl ⟨(Nat.le_of_ble_eq_true rfl), (Nat.le_of_ble_eq_true rfl)⟩ ⟨(Nat.le_of_ble_eq_true rfl), (Nat.le_of_ble_eq_true rfl)⟩ (Nat.le_of_ble_eq_true rfl) [4] [0, 1, 2, 3] rfl rfl rfl rfl (by decide) [0, 1, 2, 3, 4] rfl (ws2 := fun _ => [(a 1, oX3 a), (a 2, aI E 16 (hM 2)), (a 3, aI E 16 (hM 3)), (a 20, oX2 a), (hp1, oX6 sp1)]) (fun _ => rfl) (fun _ => ?_)
        refine r.iconst (v := (1 : Int32)) (DX2_allows_0 42 rfl) rfl ?_
        refine r.icmp_ne 80 (DX2_allows_0 43 rfl) rfl hxt (fun _ hxt => ?_) (fun _ hxt => ?_)
        · refine r.iconst (v := (0 : Int32)) (DX2_allows_0 46 rfl) rfl ?_
          cases hxt
          exact hret _ _ _ _ (DX2_allows_0 47 rfl) rfl ⟨(), rfl, rfl⟩
        refine r.iconst (v := (1 : Int32)) (DX2_allows_0 44 rfl) rfl ?_
        refine r.goto 81 (DX2_allows_0 45 rfl) rfl ?_
        cases hxt
        exact hret _ _ _ _ (DX2_allows_0 47 rfl) rfl ⟨(), rfl, rfl⟩
      refine r.iload_n 2 (DX2_allows_0 30 rfl) rfl ?_
      refine r.aload_n 1 (DX2_allows_0 31 rfl) rfl ?_
      refine r.get (v := .int (sp1 5)) kX6 f_X2_60 rfl 4 rfl rfl (DX2_allows_0 32 rfl) ?_
      refine r.icmp_eq 62 (DX2_allows_0 33 rfl) rfl hxt (fun _ hxt => ?_) (fun _ hxt => ?_)
      · refine r.iload_n 2 (DX2_allows_0 36 rfl) rfl ?_
        refine r.iload_n 3 (DX2_allows_0 37 rfl) rfl ?_
        refine r.icmp_ne 82 (DX2_allows_0 38 rfl) rfl hxt (fun _ hxt => ?_) (fun _ hxt => ?_)
        · refine r.aload_n 0 (DX2_allows_0 48 rfl) rfl ?_
          refine r.aload_n 1 (DX2_allows_0 49 rfl) rfl ?_
          refine r.iload_n 2 (DX2_allows_0 50 rfl) rfl ?_
          obtain ⟨o_4, ho_4, hxt⟩ := xbd hxt
          refine r.callVI 3 rfl rfl (t_X2_hunterSteps E a hp1 x2 sp1 hM ho_4) g_X2_63 rfl (DX2_allows_0 51 rfl) rfl ⟨(Nat.le_of_ble_eq_true rfl), (Nat.le_of_ble_eq_true rfl)⟩ ⟨(Nat.le_of_ble_eq_true rfl), (Nat.le_of_ble_eq_true rfl)⟩ (Nat.le_of_ble_eq_true rfl) [0, 1, 2, 3, 4] [] rfl rfl rfl rfl (by decide) [0, 1, 2, 3, 4] rfl (ws2 := fun _ => [(a 1, oX3 a), (a 2, aI E 16 (hM 2)), (a 3, aI E 16 (hM 3)), (a 20, oX2 a), (hp1, oX6 sp1)]) (fun _ => rfl) (fun _ => ?_)
          refine r.iload_n 3 (DX2_allows_0 52 rfl) rfl ?_
          refine r.ishr (DX2_allows_0 53 rfl) ?_
          refine r.iconst (v := (1 : Int32)) (DX2_allows_0 54 rfl) rfl ?_
          refine r.iand (DX2_allows_0 55 rfl) ?_
          refine r.if_eq 99 (DX2_allows_0 56 rfl) rfl hxt (fun _ hxt => ?_) (fun _ hxt => ?_)
          · refine r.iconst (v := (0 : Int32)) (DX2_allows_0 59 rfl) rfl ?_
            cases hxt
            exact hret _ _ _ _ (DX2_allows_1 0 rfl) rfl ⟨(), rfl, rfl⟩
          refine r.iconst (v := (1 : Int32)) (DX2_allows_0 57 rfl) rfl ?_
          refine r.goto 100 (DX2_allows_0 58 rfl) rfl ?_
          cases hxt
          exact hret _ _ _ _ (DX2_allows_1 0 rfl) rfl ⟨(), rfl, rfl⟩
        refine r.aload_n 1 (DX2_allows_0 39 rfl) rfl ?_
        refine r.iconst (v := (2 : Int32)) (DX2_allows_0 40 rfl) rfl ?_
        obtain ⟨o_5, ho_5, hxt⟩ := xbd hxt
        refine r.callVI 0 rfl rfl (t_X6_setting E a hp1 (2 : Int32) sp1 ho_5) g_X2_38 rfl (DX2_allows_0 41 rfl) rfl ⟨(Nat.le_of_ble_eq_true rfl), (Nat.le_of_ble_eq_true rfl)⟩ ⟨(Nat.le_of_ble_eq_true rfl), (Nat.le_of_ble_eq_true rfl)⟩ (Nat.le_of_ble_eq_true rfl) [4] [0, 1, 2, 3] rfl rfl rfl rfl (by decide) [0, 1, 2, 3, 4] rfl (ws2 := fun _ => [(a 1, oX3 a), (a 2, aI E 16 (hM 2)), (a 3, aI E 16 (hM 3)), (a 20, oX2 a), (hp1, oX6 sp1)]) (fun _ => rfl) (fun _ => ?_)
        refine r.iconst (v := (1 : Int32)) (DX2_allows_0 42 rfl) rfl ?_
        refine r.icmp_ne 80 (DX2_allows_0 43 rfl) rfl hxt (fun _ hxt => ?_) (fun _ hxt => ?_)
        · refine r.iconst (v := (0 : Int32)) (DX2_allows_0 46 rfl) rfl ?_
          cases hxt
          exact hret _ _ _ _ (DX2_allows_0 47 rfl) rfl ⟨(), rfl, rfl⟩
        refine r.iconst (v := (1 : Int32)) (DX2_allows_0 44 rfl) rfl ?_
        refine r.goto 81 (DX2_allows_0 45 rfl) rfl ?_
        cases hxt
        exact hret _ _ _ _ (DX2_allows_0 47 rfl) rfl ⟨(), rfl, rfl⟩
      refine r.iconst (v := (0 : Int32)) (DX2_allows_0 34 rfl) rfl ?_
      cases hxt
      exact hret _ _ _ _ (DX2_allows_0 35 rfl) rfl ⟨(), rfl, rfl⟩
    refine r.iload_n 2 (DX2_allows_0 10 rfl) rfl ?_
    refine r.aload_n 1 (DX2_allows_0 11 rfl) rfl ?_
    refine r.get (v := .int (sp1 3)) kX6 f_X2_35 rfl 4 rfl rfl (DX2_allows_0 12 rfl) ?_
    refine r.icmp_ne 42 (DX2_allows_0 13 rfl) rfl hxt (fun _ hxt => ?_) (fun _ hxt => ?_)
    · refine r.iconst (v := (0 : Int32)) (DX2_allows_0 24 rfl) rfl ?_
      cases hxt
      exact hret _ _ _ _ (DX2_allows_0 25 rfl) rfl ⟨(), rfl, rfl⟩
    refine r.aload_n 0 (DX2_allows_0 14 rfl) rfl ?_
    refine r.aload_n 1 (DX2_allows_0 15 rfl) rfl ?_
    obtain ⟨o_6, ho_6, hxt⟩ := xbd hxt
    refine r.callVI 3 rfl rfl (t_X2_foxSteps E a hp1 sp1 hM ho_6) g_X2_31 rfl (DX2_allows_0 16 rfl) rfl ⟨(Nat.le_of_ble_eq_true rfl), (Nat.le_of_ble_eq_true rfl)⟩ ⟨(Nat.le_of_ble_eq_true rfl), (Nat.le_of_ble_eq_true rfl)⟩ (Nat.le_of_ble_eq_true rfl) [0, 1, 2, 3, 4] [] rfl rfl rfl rfl (by decide) [0, 1, 2, 3, 4] rfl (ws2 := fun _ => [(a 1, oX3 a), (a 2, aI E 16 (hM 2)), (a 3, aI E 16 (hM 3)), (a 20, oX2 a), (hp1, oX6 sp1)]) (fun _ => rfl) (fun _ => ?_)
    refine r.iload_n 3 (DX2_allows_0 17 rfl) rfl ?_
    refine r.ishr (DX2_allows_0 18 rfl) ?_
    refine r.iconst (v := (1 : Int32)) (DX2_allows_0 19 rfl) rfl ?_
    refine r.iand (DX2_allows_0 20 rfl) ?_
    refine r.if_eq 42 (DX2_allows_0 21 rfl) rfl hxt (fun _ hxt => ?_) (fun _ hxt => ?_)
    · refine r.iconst (v := (0 : Int32)) (DX2_allows_0 24 rfl) rfl ?_
      cases hxt
      exact hret _ _ _ _ (DX2_allows_0 25 rfl) rfl ⟨(), rfl, rfl⟩
    refine r.iconst (v := (1 : Int32)) (DX2_allows_0 22 rfl) rfl ?_
    refine r.goto 43 (DX2_allows_0 23 rfl) rfl ?_
    cases hxt
    exact hret _ _ _ _ (DX2_allows_0 25 rfl) rfl ⟨(), rfl, rfl⟩
  refine r.iconst (v := (0 : Int32)) (DX2_allows_0 4 rfl) rfl ?_
  cases hxt
  exact hret _ _ _ _ (DX2_allows_0 5 rfl) rfl ⟨(), rfl, rfl⟩
set_option maxRecDepth 100000 in
set_option maxHeartbeats 4000000 in
theorem t_X2_make (E : xE) (a : Nat → Nat) (hp1 : Nat) (x2 : Int32) (x3 : Int32) (sp1 : Nat → Int32) {o : (Nat → Int32)} (hxt : xt_X2_make x2 x3 sp1 = some o) : xMV (S := Unit) E yX2_make cX2_make 5 2 0 0 [.ref (a 20), .ref hp1, .int x2, .int x3] [(a 20, oX2 a), (hp1, oX6 sp1)] (fun _ => [(a 20, oX2 a), (hp1, oX6 o)]) := by
  refine xMV.of (own := RX2) (lo0 := [(0, .ref (a 20)), (1, .ref hp1), (2, .int x2), (3, .int x3)]) (ini := false) (fun h => nomatch h) (by decide +kernel) rfl rfl (Nat.le_of_ble_eq_true rfl) (fun V r hret => ?_)
  unfold xt_X2_make at hxt
  refine r.aload_n 1 (DX2_make 0 rfl) rfl ?_
  refine r.get (v := .int (sp1 2)) kX6 f_X2_27 rfl 1 rfl rfl (DX2_make 1 rfl) ?_
  refine r.iconst (v := (1 : Int32)) (DX2_make 2 rfl) rfl ?_
  refine r.icmp_ne 25 (DX2_make 3 rfl) rfl hxt (fun _ hxt => ?_) (fun _ hxt => ?_)
  · refine r.iload_n 2 (DX2_make 13 rfl) rfl ?_
    refine r.aload_n 1 (DX2_make 14 rfl) rfl ?_
    refine r.get (v := .int (sp1 4)) kX6 f_X2_57 rfl 1 rfl rfl (DX2_make 15 rfl) ?_
    refine r.icmp_ne 40 (DX2_make 16 rfl) rfl hxt (fun _ hxt => ?_) (fun _ hxt => ?_)
    · refine r.aload_n 1 (DX2_make 20 rfl) rfl ?_
      refine r.get (v := .int (sp1 4)) kX6 f_X2_57 rfl 1 rfl rfl (DX2_make 21 rfl) ?_
      refine r.istore (lo' := [(4, .int (sp1 4)), (0, .ref (a 20)), (1, .ref hp1), (2, .int x2), (3, .int x3)]) (DX2_make 22 rfl) (Nat.le_of_ble_eq_true rfl) rfl ?_
      refine r.aload_n 2 (DX2_make 23 rfl) rfl ?_
      refine r.iconst (v := (1 : Int32)) (DX2_make 24 rfl) rfl ?_
      refine r.aload_n 2 (DX2_make 25 rfl) rfl ?_
      refine r.get (v := .int (sp1 3)) kX6 f_X2_35 rfl 1 rfl rfl (DX2_make 26 rfl) ?_
      refine r.iload_n 4 (DX2_make 27 rfl) rfl ?_
      refine r.iload 0 (DX2_make 28 rfl) rfl ?_
      obtain ⟨o_1, ho_1, hxt⟩ := xbd hxt
      refine r.callVV 0 rfl rfl (t_X6_place E a hp1 (1 : Int32) (sp1 3) x3 (sp1 4) sp1 ho_1) g_X2_67 rfl (DX2_make 29 rfl) rfl ⟨(Nat.le_of_ble_eq_true rfl), (Nat.le_of_ble_eq_true rfl)⟩ ⟨(Nat.le_of_ble_eq_true rfl), (Nat.le_of_ble_eq_true rfl)⟩ (Nat.le_of_ble_eq_true rfl) [1] [0] rfl rfl rfl rfl (by decide) [0, 1] rfl (ws2 := fun _ => [(a 20, oX2 a), (hp1, oX6 o_1)]) (fun _ => rfl) (fun _ => ?_)
      cases hxt
      exact hret _ _ _ (DX2_make 30 rfl) ⟨(), rfl⟩
    refine r.aload_n 1 (DX2_make 17 rfl) rfl ?_
    refine r.get (v := .int (sp1 5)) kX6 f_X2_60 rfl 1 rfl rfl (DX2_make 18 rfl) ?_
    refine r.goto 44 (DX2_make 19 rfl) rfl ?_
    refine r.istore (lo' := [(4, .int (sp1 5)), (0, .ref (a 20)), (1, .ref hp1), (2, .int x2), (3, .int x3)]) (DX2_make 22 rfl) (Nat.le_of_ble_eq_true rfl) rfl ?_
    refine r.aload_n 2 (DX2_make 23 rfl) rfl ?_
    refine r.iconst (v := (1 : Int32)) (DX2_make 24 rfl) rfl ?_
    refine r.aload_n 2 (DX2_make 25 rfl) rfl ?_
    refine r.get (v := .int (sp1 3)) kX6 f_X2_35 rfl 1 rfl rfl (DX2_make 26 rfl) ?_
    refine r.iload_n 4 (DX2_make 27 rfl) rfl ?_
    refine r.iload 0 (DX2_make 28 rfl) rfl ?_
    obtain ⟨o_2, ho_2, hxt⟩ := xbd hxt
    refine r.callVV 0 rfl rfl (t_X6_place E a hp1 (1 : Int32) (sp1 3) x3 (sp1 5) sp1 ho_2) g_X2_67 rfl (DX2_make 29 rfl) rfl ⟨(Nat.le_of_ble_eq_true rfl), (Nat.le_of_ble_eq_true rfl)⟩ ⟨(Nat.le_of_ble_eq_true rfl), (Nat.le_of_ble_eq_true rfl)⟩ (Nat.le_of_ble_eq_true rfl) [1] [0] rfl rfl rfl rfl (by decide) [0, 1] rfl (ws2 := fun _ => [(a 20, oX2 a), (hp1, oX6 o_2)]) (fun _ => rfl) (fun _ => ?_)
    cases hxt
    exact hret _ _ _ (DX2_make 30 rfl) ⟨(), rfl⟩
  refine r.aload_n 1 (DX2_make 4 rfl) rfl ?_
  refine r.iconst (v := (0 : Int32)) (DX2_make 5 rfl) rfl ?_
  refine r.iload_n 3 (DX2_make 6 rfl) rfl ?_
  refine r.aload_n 1 (DX2_make 7 rfl) rfl ?_
  refine r.get (v := .int (sp1 4)) kX6 f_X2_57 rfl 1 rfl rfl (DX2_make 8 rfl) ?_
  refine r.aload_n 1 (DX2_make 9 rfl) rfl ?_
  refine r.get (v := .int (sp1 5)) kX6 f_X2_60 rfl 1 rfl rfl (DX2_make 10 rfl) ?_
  obtain ⟨o_3, ho_3, hxt⟩ := xbd hxt
  refine r.callVV 0 rfl rfl (t_X6_place E a hp1 (0 : Int32) x3 (sp1 4) (sp1 5) sp1 ho_3) g_X2_67 rfl (DX2_make 11 rfl) rfl ⟨(Nat.le_of_ble_eq_true rfl), (Nat.le_of_ble_eq_true rfl)⟩ ⟨(Nat.le_of_ble_eq_true rfl), (Nat.le_of_ble_eq_true rfl)⟩ (Nat.le_of_ble_eq_true rfl) [1] [0] rfl rfl rfl rfl (by decide) [0, 1] rfl (ws2 := fun _ => [(a 20, oX2 a), (hp1, oX6 o_3)]) (fun _ => rfl) (fun _ => ?_)
  refine r.goto 58 (DX2_make 12 rfl) rfl ?_
  cases hxt
  exact hret _ _ _ (DX2_make 30 rfl) ⟨(), rfl⟩
set_option maxRecDepth 100000 in
set_option maxHeartbeats 4000000 in
theorem t_X2_lengthOf (E : xE) (a : Nat → Nat) (x1 : Int32) (x2 : Int32) (x3 : Int32) (x4 : Int32) (hM : Mem) {o : Int32} (hxt : xt_X2_lengthOf x1 x2 x3 x4 hM = some o) : xMI (S := Unit) E yX2_lengthOf cX2_lengthOf 6 .int 2 0 0 [.ref (a 20), .int x1, .int x2, .int x3, .int x4] [(a 1, oX3 a), (a 4, aI E 256 (hM 4)), (a 9, oX0 a (hM 9)), (a 10, aI E 4096 (hM 10)), (a 20, oX2 a)] (fun _ => o) (fun _ => [(a 1, oX3 a), (a 4, aI E 256 (hM 4)), (a 9, oX0 a (hM 9)), (a 10, aI E 4096 (hM 10)), (a 20, oX2 a)]) := by
  refine xMI.of (own := RX2) (lo0 := [(0, .ref (a 20)), (1, .int x1), (2, .int x2), (3, .int x3), (4, .int x4)]) (by decide +kernel) rfl rfl (Nat.le_of_ble_eq_true rfl) (fun V r hret => ?_)
  unfold xt_X2_lengthOf at hxt
  refine r.aload_n 0 (DX2_lengthOf 0 rfl) rfl ?_
  refine r.get (v := .ref (a 9)) kX2 f_X2_15 rfl 4 rfl rfl (DX2_lengthOf 1 rfl) ?_
  refine r.aload_n 0 (DX2_lengthOf 2 rfl) rfl ?_
  refine r.get (v := .ref (a 1)) kX2 f_X2_9 rfl 4 rfl rfl (DX2_lengthOf 3 rfl) ?_
  refine r.iload_n 1 (DX2_lengthOf 4 rfl) rfl ?_
  refine r.iload_n 2 (DX2_lengthOf 5 rfl) rfl ?_
  refine r.iload_n 3 (DX2_lengthOf 6 rfl) rfl ?_
  refine r.iload 4 (DX2_lengthOf 7 rfl) rfl ?_
  obtain ⟨o_1, ho_1, hxt⟩ := xbd hxt
  refine r.callVI 0 rfl rfl (t_X3_numberOf E a x1 x2 x3 x4 hM ho_1) g_X2_92 rfl (DX2_lengthOf 8 rfl) rfl ⟨(Nat.le_of_ble_eq_true rfl), (Nat.le_of_ble_eq_true rfl)⟩ ⟨(Nat.le_of_ble_eq_true rfl), (Nat.le_of_ble_eq_true rfl)⟩ (Nat.le_of_ble_eq_true rfl) [0, 1] [2, 3, 4] rfl rfl rfl rfl (by decide) [3, 4, 0, 1, 2] rfl (ws2 := fun _ => [(a 1, oX3 a), (a 4, aI E 256 (hM 4)), (a 9, oX0 a (hM 9)), (a 10, aI E 4096 (hM 10)), (a 20, oX2 a)]) (fun _ => rfl) (fun _ => ?_)
  obtain ⟨o_2, ho_2, hxt⟩ := xbd hxt
  refine r.callVI 0 rfl rfl (t_X0_at E a o_1 hM ho_2) g_X2_95 rfl (DX2_lengthOf 9 rfl) rfl ⟨(Nat.le_of_ble_eq_true rfl), (Nat.le_of_ble_eq_true rfl)⟩ ⟨(Nat.le_of_ble_eq_true rfl), (Nat.le_of_ble_eq_true rfl)⟩ (Nat.le_of_ble_eq_true rfl) [2, 3] [0, 1, 4] rfl rfl rfl rfl (by decide) [0, 1, 3, 4, 2] rfl (ws2 := fun _ => [(a 1, oX3 a), (a 4, aI E 256 (hM 4)), (a 9, oX0 a (hM 9)), (a 10, aI E 4096 (hM 10)), (a 20, oX2 a)]) (fun _ => rfl) (fun _ => ?_)
  refine r.istore (lo' := [(5, .int o_2), (0, .ref (a 20)), (1, .int x1), (2, .int x2), (3, .int x3), (4, .int x4)]) (DX2_lengthOf 10 rfl) (Nat.le_of_ble_eq_true rfl) rfl ?_
  refine r.iload 0 (DX2_lengthOf 11 rfl) rfl ?_
  refine r.bipush (v := (-6 : Int32)) (DX2_lengthOf 12 rfl) rfl ?_
  refine r.icmp_ne 33 (DX2_lengthOf 13 rfl) rfl hxt (fun _ hxt => ?_) (fun _ hxt => ?_)
  · refine r.iload 0 (DX2_lengthOf 16 rfl) rfl ?_
    cases hxt
    exact hret _ _ _ _ (DX2_lengthOf 17 rfl) rfl ⟨(), rfl, rfl⟩
  refine r.ldc (v := (1000000 : Int32)) (DX2_lengthOf 14 rfl) m465 ?_
  refine r.goto 35 (DX2_lengthOf 15 rfl) rfl ?_
  cases hxt
  exact hret _ _ _ _ (DX2_lengthOf 17 rfl) rfl ⟨(), rfl, rfl⟩
set_option maxRecDepth 100000 in
set_option maxHeartbeats 4000000 in
theorem l_X2_bestOfFox_15 (E : xE) (a : Nat → Nat) (hp1 : Nat) (x2 : Int32) (sp1 : Nat → Int32) (hM : Mem) {V : xVT} (r : Rl E RX2 cX2_bestOfFox (xR 3 0 0) 7 false V) {o : Int32} {k : Int32 → Option (Int32)} (hk : ∀ (v3 : Int32), k v3 = some o → V 0 0 76 [(3, .int v3)] [] [(a 1, oX3 a), (a 2, aI E 16 (hM 2)), (a 3, aI E 16 (hM 3)), (a 4, aI E 256 (hM 4)), (a 9, oX0 a (hM 9)), (a 10, aI E 4096 (hM 10)), (a 20, oX2 a), (hp1, oX6 sp1)]) : ∀ (n : Nat) (v3 : Int32) (v4 : Int32) (v5 : Int32), xt_X2_bestOfFox_l15 x2 sp1 hM k n v3 v4 v5 = some o → V 0 0 15 [(0, .ref (a 20)), (1, .ref hp1), (2, .int x2), (3, .int v3), (4, .int v4), (5, .int v5)] [] [(a 1, oX3 a), (a 2, aI E 16 (hM 2)), (a 3, aI E 16 (hM 3)), (a 4, aI E 256 (hM 4)), (a 9, oX0 a (hM 9)), (a 10, aI E 4096 (hM 10)), (a 20, oX2 a), (hp1, oX6 sp1)] := by
  intro n
  induction n with
  | zero => intro v3 v4 v5 hxt; exact xno hxt
  | succ n ih =>
    intro v3 v4 v5 hxt
    rw [xt_X2_bestOfFox_l15] at hxt
    refine r.iload 5 (DX2_bestOfFox 10 rfl) rfl ?_
    refine r.bipush (v := (16 : Int32)) (DX2_bestOfFox 11 rfl) rfl ?_
    refine r.icmp_ge 76 (DX2_bestOfFox 12 rfl) rfl hxt (fun _ hxt => ?_) (fun _ hxt => ?_)
    · refine r.rel (lo' := [(3, .int v3)]) [3] rfl ?_
      exact hk v3 hxt
    refine r.iload_n 2 (DX2_bestOfFox 13 rfl) rfl ?_
    refine r.iload 5 (DX2_bestOfFox 14 rfl) rfl ?_
    refine r.ishr (DX2_bestOfFox 15 rfl) ?_
    refine r.iconst (v := (1 : Int32)) (DX2_bestOfFox 16 rfl) rfl ?_
    refine r.iand (DX2_bestOfFox 17 rfl) ?_
    refine r.if_eq 70 (DX2_bestOfFox 18 rfl) rfl hxt (fun _ hxt => ?_) (fun _ hxt => ?_)
    · refine r.iinc (v := (v5 + (1 : Int32))) (lo' := [(5, .int (v5 + (1 : Int32))), (0, .ref (a 20)), (1, .ref hp1), (2, .int x2), (3, .int v3), (4, .int v4)]) 5 (DX2_bestOfFox 40 rfl) rfl rfl (Nat.le_of_ble_eq_true rfl) rfl ?_
      refine r.goto 15 (DX2_bestOfFox 41 rfl) rfl ?_
      refine r.rel (lo' := [(0, .ref (a 20)), (1, .ref hp1), (2, .int x2), (3, .int v3), (4, .int v4), (5, .int (v5 + (1 : Int32)))]) [1, 2, 3, 4, 5, 0] rfl ?_
      exact ih v3 v4 (v5 + (1 : Int32)) hxt
    refine r.aload_n 0 (DX2_bestOfFox 19 rfl) rfl ?_
    refine r.iconst (v := (0 : Int32)) (DX2_bestOfFox 20 rfl) rfl ?_
    refine r.iload 5 (DX2_bestOfFox 21 rfl) rfl ?_
    refine r.aload_n 1 (DX2_bestOfFox 22 rfl) rfl ?_
    refine r.get (v := .int (sp1 4)) kX6 f_X2_57 rfl 7 rfl rfl (DX2_bestOfFox 23 rfl) ?_
    refine r.aload_n 1 (DX2_bestOfFox 24 rfl) rfl ?_
    refine r.get (v := .int (sp1 5)) kX6 f_X2_60 rfl 7 rfl rfl (DX2_bestOfFox 25 rfl) ?_
    obtain ⟨o_2, ho_2, hxt⟩ := xbd hxt
    refine r.callVI 4 rfl rfl (t_X2_lengthOf E a (0 : Int32) v5 (sp1 4) (sp1 5) hM ho_2) g_X2_83 rfl (DX2_bestOfFox 26 rfl) rfl ⟨(Nat.le_of_ble_eq_true rfl), (Nat.le_of_ble_eq_true rfl)⟩ ⟨(Nat.le_of_ble_eq_true rfl), (Nat.le_of_ble_eq_true rfl)⟩ (Nat.le_of_ble_eq_true rfl) [0, 3, 4, 5, 6] [1, 2, 7] rfl rfl rfl rfl (by decide) [3, 0, 1, 4, 5, 6, 7, 2] rfl (ws2 := fun _ => [(a 1, oX3 a), (a 2, aI E 16 (hM 2)), (a 3, aI E 16 (hM 3)), (a 4, aI E 256 (hM 4)), (a 9, oX0 a (hM 9)), (a 10, aI E 4096 (hM 10)), (a 20, oX2 a), (hp1, oX6 sp1)]) (fun _ => rfl) (fun _ => ?_)
    refine r.istore (lo' := [(6, .int o_2), (0, .ref (a 20)), (1, .ref hp1), (2, .int x2), (3, .int v3), (4, .int v4), (5, .int v5)]) (DX2_bestOfFox 27 rfl) (Nat.le_of_ble_eq_true rfl) rfl ?_
    refine r.iload 0 (DX2_bestOfFox 28 rfl) rfl ?_
    refine r.iload 5 (DX2_bestOfFox 29 rfl) rfl ?_
    refine r.icmp_le 70 (DX2_bestOfFox 30 rfl) rfl hxt (fun _ hxt => ?_) (fun _ hxt => ?_)
    · refine r.iinc (v := (v5 + (1 : Int32))) (lo' := [(5, .int (v5 + (1 : Int32))), (6, .int o_2), (0, .ref (a 20)), (1, .ref hp1), (2, .int x2), (3, .int v3), (4, .int v4)]) 6 (DX2_bestOfFox 40 rfl) rfl rfl (Nat.le_of_ble_eq_true rfl) rfl ?_
      refine r.goto 15 (DX2_bestOfFox 41 rfl) rfl ?_
      refine r.rel (lo' := [(0, .ref (a 20)), (1, .ref hp1), (2, .int x2), (3, .int v3), (4, .int v4), (5, .int (v5 + (1 : Int32)))]) [2, 3, 4, 5, 6, 0] rfl ?_
      exact ih v3 v4 (v5 + (1 : Int32)) hxt
    refine r.iload 0 (DX2_bestOfFox 31 rfl) rfl ?_
    refine r.istore (lo' := [(4, .int o_2), (6, .int o_2), (0, .ref (a 20)), (1, .ref hp1), (2, .int x2), (3, .int v3), (5, .int v5)]) (DX2_bestOfFox 32 rfl) (Nat.le_of_ble_eq_true rfl) rfl ?_
    refine r.bipush (v := (16 : Int32)) (DX2_bestOfFox 33 rfl) rfl ?_
    refine r.aload_n 3 (DX2_bestOfFox 34 rfl) rfl ?_
    refine r.get (v := .int (sp1 3)) kX6 f_X2_35 rfl 7 rfl rfl (DX2_bestOfFox 35 rfl) ?_
    refine r.imul (DX2_bestOfFox 36 rfl) ?_
    refine r.iload 6 (DX2_bestOfFox 37 rfl) rfl ?_
    refine r.iadd (DX2_bestOfFox 38 rfl) ?_
    refine r.istore_n (lo' := [(3, .int (((16 : Int32) * (sp1 3)) + v5)), (4, .int o_2), (6, .int o_2), (0, .ref (a 20)), (1, .ref hp1), (2, .int x2), (5, .int v5)]) (DX2_bestOfFox 39 rfl) (Nat.le_of_ble_eq_true rfl) rfl ?_
    refine r.iinc (v := (v5 + (1 : Int32))) (lo' := [(5, .int (v5 + (1 : Int32))), (3, .int (((16 : Int32) * (sp1 3)) + v5)), (4, .int o_2), (6, .int o_2), (0, .ref (a 20)), (1, .ref hp1), (2, .int x2)]) 6 (DX2_bestOfFox 40 rfl) rfl rfl (Nat.le_of_ble_eq_true rfl) rfl ?_
    refine r.goto 15 (DX2_bestOfFox 41 rfl) rfl ?_
    refine r.rel (lo' := [(0, .ref (a 20)), (1, .ref hp1), (2, .int x2), (3, .int (((16 : Int32) * (sp1 3)) + v5)), (4, .int o_2), (5, .int (v5 + (1 : Int32)))]) [4, 5, 6, 1, 2, 0] rfl ?_
    exact ih (((16 : Int32) * (sp1 3)) + v5) o_2 (v5 + (1 : Int32)) hxt
set_option maxRecDepth 100000 in
set_option maxHeartbeats 4000000 in
theorem t_X2_bestOfFox (E : xE) (a : Nat → Nat) (hp1 : Nat) (sp1 : Nat → Int32) (hM : Mem) {o : Int32} (hxt : xt_X2_bestOfFox sp1 hM = some o) : xMI (S := Unit) E yX2_bestOfFox cX2_bestOfFox 7 .int 3 0 0 [.ref (a 20), .ref hp1] [(a 1, oX3 a), (a 2, aI E 16 (hM 2)), (a 3, aI E 16 (hM 3)), (a 4, aI E 256 (hM 4)), (a 9, oX0 a (hM 9)), (a 10, aI E 4096 (hM 10)), (a 20, oX2 a), (hp1, oX6 sp1)] (fun _ => o) (fun _ => [(a 1, oX3 a), (a 2, aI E 16 (hM 2)), (a 3, aI E 16 (hM 3)), (a 4, aI E 256 (hM 4)), (a 9, oX0 a (hM 9)), (a 10, aI E 4096 (hM 10)), (a 20, oX2 a), (hp1, oX6 sp1)]) := by
  refine xMI.of (own := RX2) (lo0 := [(0, .ref (a 20)), (1, .ref hp1)]) (by decide +kernel) rfl rfl (Nat.le_of_ble_eq_true rfl) (fun V r hret => ?_)
  unfold xt_X2_bestOfFox at hxt
  refine r.aload_n 0 (DX2_bestOfFox 0 rfl) rfl ?_
  refine r.aload_n 1 (DX2_bestOfFox 1 rfl) rfl ?_
  obtain ⟨o_1, ho_1, hxt⟩ := xbd hxt
  refine r.callVI 3 rfl rfl (t_X2_foxSteps E a hp1 sp1 hM ho_1) g_X2_31 rfl (DX2_bestOfFox 2 rfl) rfl ⟨(Nat.le_of_ble_eq_true rfl), (Nat.le_of_ble_eq_true rfl)⟩ ⟨(Nat.le_of_ble_eq_true rfl), (Nat.le_of_ble_eq_true rfl)⟩ (Nat.le_of_ble_eq_true rfl) [0, 1, 2, 6, 7] [3, 4, 5] rfl rfl rfl rfl (by decide) [3, 4, 5, 0, 1, 2, 6, 7] rfl (ws2 := fun _ => [(a 1, oX3 a), (a 2, aI E 16 (hM 2)), (a 3, aI E 16 (hM 3)), (a 4, aI E 256 (hM 4)), (a 9, oX0 a (hM 9)), (a 10, aI E 4096 (hM 10)), (a 20, oX2 a), (hp1, oX6 sp1)]) (fun _ => rfl) (fun _ => ?_)
  refine r.istore_n (lo' := [(2, .int o_1), (0, .ref (a 20)), (1, .ref hp1)]) (DX2_bestOfFox 3 rfl) (Nat.le_of_ble_eq_true rfl) rfl ?_
  refine r.bipush (v := (-6 : Int32)) (DX2_bestOfFox 4 rfl) rfl ?_
  refine r.istore_n (lo' := [(3, .int (-6 : Int32)), (2, .int o_1), (0, .ref (a 20)), (1, .ref hp1)]) (DX2_bestOfFox 5 rfl) (Nat.le_of_ble_eq_true rfl) rfl ?_
  refine r.iconst (v := (-1 : Int32)) (DX2_bestOfFox 6 rfl) rfl ?_
  refine r.istore (lo' := [(4, .int (-1 : Int32)), (3, .int (-6 : Int32)), (2, .int o_1), (0, .ref (a 20)), (1, .ref hp1)]) (DX2_bestOfFox 7 rfl) (Nat.le_of_ble_eq_true rfl) rfl ?_
  refine r.iconst (v := (0 : Int32)) (DX2_bestOfFox 8 rfl) rfl ?_
  refine r.istore (lo' := [(5, .int (0 : Int32)), (4, .int (-1 : Int32)), (3, .int (-6 : Int32)), (2, .int o_1), (0, .ref (a 20)), (1, .ref hp1)]) (DX2_bestOfFox 9 rfl) (Nat.le_of_ble_eq_true rfl) rfl ?_
  refine r.rel (lo' := [(0, .ref (a 20)), (1, .ref hp1), (2, .int o_1), (3, .int (-6 : Int32)), (4, .int (-1 : Int32)), (5, .int (0 : Int32))]) [4, 5, 3, 2, 1, 0] rfl ?_
  refine l_X2_bestOfFox_15 E a hp1 o_1 sp1 hM r (fun v3_3 hxt => ?_) 10000 (-6 : Int32) (-1 : Int32) (0 : Int32) hxt
  refine r.iload_n 0 (DX2_bestOfFox 42 rfl) rfl ?_
  cases hxt
  exact hret _ _ _ _ (DX2_bestOfFox 43 rfl) rfl ⟨(), rfl, rfl⟩
set_option maxRecDepth 100000 in
set_option maxHeartbeats 4000000 in
theorem t_X2_worthOf (E : xE) (a : Nat → Nat) (hp1 : Nat) (x2 : Int32) (x3 : Int32) (sp1 : Nat → Int32) (hM : Mem) {o : Int32} (hxt : xt_X2_worthOf x2 x3 sp1 hM = some o) : xMI (S := Unit) E yX2_worthOf cX2_worthOf 5 .int 3 0 0 [.ref (a 20), .ref hp1, .int x2, .int x3] [(a 1, oX3 a), (a 4, aI E 256 (hM 4)), (a 9, oX0 a (hM 9)), (a 10, aI E 4096 (hM 10)), (a 20, oX2 a), (hp1, oX6 sp1)] (fun _ => o) (fun _ => [(a 1, oX3 a), (a 4, aI E 256 (hM 4)), (a 9, oX0 a (hM 9)), (a 10, aI E 4096 (hM 10)), (a 20, oX2 a), (hp1, oX6 sp1)]) := by
  refine xMI.of (own := RX2) (lo0 := [(0, .ref (a 20)), (1, .ref hp1), (2, .int x2), (3, .int x3)]) (by decide +kernel) rfl rfl (Nat.le_of_ble_eq_true rfl) (fun V r hret => ?_)
  unfold xt_X2_worthOf at hxt
  refine r.iload_n 2 (DX2_worthOf 0 rfl) rfl ?_
  refine r.aload_n 1 (DX2_worthOf 1 rfl) rfl ?_
  refine r.get (v := .int (sp1 4)) kX6 f_X2_57 rfl 5 rfl rfl (DX2_worthOf 2 rfl) ?_
  refine r.icmp_ne 15 (DX2_worthOf 3 rfl) rfl hxt (fun _ hxt => ?_) (fun _ hxt => ?_)
  · refine r.aload_n 1 (DX2_worthOf 7 rfl) rfl ?_
    refine r.get (v := .int (sp1 4)) kX6 f_X2_57 rfl 5 rfl rfl (DX2_worthOf 8 rfl) ?_
    refine r.istore (lo' := [(4, .int (sp1 4)), (0, .ref (a 20)), (1, .ref hp1), (2, .int x2), (3, .int x3)]) (DX2_worthOf 9 rfl) (Nat.le_of_ble_eq_true rfl) rfl ?_
    refine r.iload_n 4 (DX2_worthOf 10 rfl) rfl ?_
    refine r.aload_n 2 (DX2_worthOf 11 rfl) rfl ?_
    refine r.get (v := .int (sp1 3)) kX6 f_X2_35 rfl 5 rfl rfl (DX2_worthOf 12 rfl) ?_
    refine r.icmp_ne 33 (DX2_worthOf 13 rfl) rfl hxt (fun _ hxt => ?_) (fun _ hxt => ?_)
    · refine r.aload_n 1 (DX2_worthOf 16 rfl) rfl ?_
      refine r.iconst (v := (1 : Int32)) (DX2_worthOf 17 rfl) rfl ?_
      refine r.aload_n 2 (DX2_worthOf 18 rfl) rfl ?_
      refine r.get (v := .int (sp1 3)) kX6 f_X2_35 rfl 5 rfl rfl (DX2_worthOf 19 rfl) ?_
      refine r.iload_n 4 (DX2_worthOf 20 rfl) rfl ?_
      refine r.iload 0 (DX2_worthOf 21 rfl) rfl ?_
      obtain ⟨o_1, ho_1, hxt⟩ := xbd hxt
      refine r.callVI 4 rfl rfl (t_X2_lengthOf E a (1 : Int32) (sp1 3) x3 (sp1 4) hM ho_1) g_X2_83 rfl (DX2_worthOf 22 rfl) rfl ⟨(Nat.le_of_ble_eq_true rfl), (Nat.le_of_ble_eq_true rfl)⟩ ⟨(Nat.le_of_ble_eq_true rfl), (Nat.le_of_ble_eq_true rfl)⟩ (Nat.le_of_ble_eq_true rfl) [0, 1, 2, 3, 4] [5] rfl rfl rfl rfl (by decide) [1, 2, 3, 4, 5, 0] rfl (ws2 := fun _ => [(a 1, oX3 a), (a 4, aI E 256 (hM 4)), (a 9, oX0 a (hM 9)), (a 10, aI E 4096 (hM 10)), (a 20, oX2 a), (hp1, oX6 sp1)]) (fun _ => rfl) (fun _ => ?_)
      cases hxt
      exact hret _ _ _ _ (DX2_worthOf 23 rfl) rfl ⟨(), rfl, rfl⟩
    refine r.iconst (v := (-1 : Int32)) (DX2_worthOf 14 rfl) rfl ?_
    refine r.goto 45 (DX2_worthOf 15 rfl) rfl ?_
    cases hxt
    exact hret _ _ _ _ (DX2_worthOf 23 rfl) rfl ⟨(), rfl, rfl⟩
  refine r.aload_n 1 (DX2_worthOf 4 rfl) rfl ?_
  refine r.get (v := .int (sp1 5)) kX6 f_X2_60 rfl 5 rfl rfl (DX2_worthOf 5 rfl) ?_
  refine r.goto 19 (DX2_worthOf 6 rfl) rfl ?_
  refine r.istore (lo' := [(4, .int (sp1 5)), (0, .ref (a 20)), (1, .ref hp1), (2, .int x2), (3, .int x3)]) (DX2_worthOf 9 rfl) (Nat.le_of_ble_eq_true rfl) rfl ?_
  refine r.iload_n 4 (DX2_worthOf 10 rfl) rfl ?_
  refine r.aload_n 2 (DX2_worthOf 11 rfl) rfl ?_
  refine r.get (v := .int (sp1 3)) kX6 f_X2_35 rfl 5 rfl rfl (DX2_worthOf 12 rfl) ?_
  refine r.icmp_ne 33 (DX2_worthOf 13 rfl) rfl hxt (fun _ hxt => ?_) (fun _ hxt => ?_)
  · refine r.aload_n 1 (DX2_worthOf 16 rfl) rfl ?_
    refine r.iconst (v := (1 : Int32)) (DX2_worthOf 17 rfl) rfl ?_
    refine r.aload_n 2 (DX2_worthOf 18 rfl) rfl ?_
    refine r.get (v := .int (sp1 3)) kX6 f_X2_35 rfl 5 rfl rfl (DX2_worthOf 19 rfl) ?_
    refine r.iload_n 4 (DX2_worthOf 20 rfl) rfl ?_
    refine r.iload 0 (DX2_worthOf 21 rfl) rfl ?_
    obtain ⟨o_2, ho_2, hxt⟩ := xbd hxt
    refine r.callVI 4 rfl rfl (t_X2_lengthOf E a (1 : Int32) (sp1 3) x3 (sp1 5) hM ho_2) g_X2_83 rfl (DX2_worthOf 22 rfl) rfl ⟨(Nat.le_of_ble_eq_true rfl), (Nat.le_of_ble_eq_true rfl)⟩ ⟨(Nat.le_of_ble_eq_true rfl), (Nat.le_of_ble_eq_true rfl)⟩ (Nat.le_of_ble_eq_true rfl) [0, 1, 2, 3, 4] [5] rfl rfl rfl rfl (by decide) [1, 2, 3, 4, 5, 0] rfl (ws2 := fun _ => [(a 1, oX3 a), (a 4, aI E 256 (hM 4)), (a 9, oX0 a (hM 9)), (a 10, aI E 4096 (hM 10)), (a 20, oX2 a), (hp1, oX6 sp1)]) (fun _ => rfl) (fun _ => ?_)
    cases hxt
    exact hret _ _ _ _ (DX2_worthOf 23 rfl) rfl ⟨(), rfl, rfl⟩
  refine r.iconst (v := (-1 : Int32)) (DX2_worthOf 14 rfl) rfl ?_
  refine r.goto 45 (DX2_worthOf 15 rfl) rfl ?_
  cases hxt
  exact hret _ _ _ _ (DX2_worthOf 23 rfl) rfl ⟨(), rfl, rfl⟩
set_option maxRecDepth 100000 in
set_option maxHeartbeats 4000000 in
theorem l_X2_bestOfHunters_45 (E : xE) (a : Nat → Nat) (hp1 : Nat) (x4 : Int32) (x5 : Int32) (x6 : Int32) (sp1 : Nat → Int32) (hM : Mem) {V : xVT} (r : Rl E RX2 cX2_bestOfHunters (xR 4 0 0) 8 false V) {o : Int32} {k : Int32 → Int32 → Option (Int32)} (hk : ∀ (v2 : Int32) (v3 : Int32), k v2 v3 = some o → V 0 0 100 [(0, .ref (a 20)), (1, .ref hp1), (2, .int v2), (3, .int v3), (4, .int x4)] [] [(a 1, oX3 a), (a 2, aI E 16 (hM 2)), (a 3, aI E 16 (hM 3)), (a 4, aI E 256 (hM 4)), (a 9, oX0 a (hM 9)), (a 10, aI E 4096 (hM 10)), (a 20, oX2 a), (hp1, oX6 sp1)]) : ∀ (n : Nat) (v2 : Int32) (v3 : Int32) (v7 : Int32), xt_X2_bestOfHunters_l45 x4 x5 x6 sp1 hM k n v2 v3 v7 = some o → V 0 0 45 [(0, .ref (a 20)), (1, .ref hp1), (2, .int v2), (3, .int v3), (4, .int x4), (5, .int x5), (6, .int x6), (7, .int v7)] [] [(a 1, oX3 a), (a 2, aI E 16 (hM 2)), (a 3, aI E 16 (hM 3)), (a 4, aI E 256 (hM 4)), (a 9, oX0 a (hM 9)), (a 10, aI E 4096 (hM 10)), (a 20, oX2 a), (hp1, oX6 sp1)] := by
  intro n
  induction n with
  | zero => intro v2 v3 v7 hxt; exact xno hxt
  | succ n ih =>
    intro v2 v3 v7 hxt
    rw [xt_X2_bestOfHunters_l45] at hxt
    refine r.iload 7 (DX2_bestOfHunters_0 24 rfl) rfl ?_
    refine r.bipush (v := (16 : Int32)) (DX2_bestOfHunters_0 25 rfl) rfl ?_
    refine r.icmp_ge 100 (DX2_bestOfHunters_0 26 rfl) rfl hxt (fun _ hxt => ?_) (fun _ hxt => ?_)
    · refine r.rel (lo' := [(0, .ref (a 20)), (1, .ref hp1), (2, .int v2), (3, .int v3), (4, .int x4)]) [0, 1, 2, 3, 4] rfl ?_
      exact hk v2 v3 hxt
    refine r.iload 6 (DX2_bestOfHunters_0 27 rfl) rfl ?_
    refine r.iload 7 (DX2_bestOfHunters_0 28 rfl) rfl ?_
    refine r.ishr (DX2_bestOfHunters_0 29 rfl) ?_
    refine r.iconst (v := (1 : Int32)) (DX2_bestOfHunters_0 30 rfl) rfl ?_
    refine r.iand (DX2_bestOfHunters_0 31 rfl) ?_
    refine r.if_eq 94 (DX2_bestOfHunters_0 32 rfl) rfl hxt (fun _ hxt => ?_) (fun _ hxt => ?_)
    · refine r.iinc (v := (v7 + (1 : Int32))) (lo' := [(7, .int (v7 + (1 : Int32))), (0, .ref (a 20)), (1, .ref hp1), (2, .int v2), (3, .int v3), (4, .int x4), (5, .int x5), (6, .int x6)]) 7 (DX2_bestOfHunters_0 52 rfl) rfl rfl (Nat.le_of_ble_eq_true rfl) rfl ?_
      refine r.goto 45 (DX2_bestOfHunters_0 53 rfl) rfl ?_
      refine r.rel (lo' := [(0, .ref (a 20)), (1, .ref hp1), (2, .int v2), (3, .int v3), (4, .int x4), (5, .int x5), (6, .int x6), (7, .int (v7 + (1 : Int32)))]) [1, 2, 3, 4, 5, 6, 7, 0] rfl ?_
      exact ih v2 v3 (v7 + (1 : Int32)) hxt
    refine r.aload_n 0 (DX2_bestOfHunters_0 33 rfl) rfl ?_
    refine r.aload_n 1 (DX2_bestOfHunters_0 34 rfl) rfl ?_
    refine r.iload 5 (DX2_bestOfHunters_0 35 rfl) rfl ?_
    refine r.iload 7 (DX2_bestOfHunters_0 36 rfl) rfl ?_
    obtain ⟨o_2, ho_2, hxt⟩ := xbd hxt
    refine r.callVI 4 rfl rfl (t_X2_worthOf E a hp1 x5 v7 sp1 hM ho_2) g_X2_88 rfl (DX2_bestOfHunters_0 37 rfl) rfl ⟨(Nat.le_of_ble_eq_true rfl), (Nat.le_of_ble_eq_true rfl)⟩ ⟨(Nat.le_of_ble_eq_true rfl), (Nat.le_of_ble_eq_true rfl)⟩ (Nat.le_of_ble_eq_true rfl) [0, 3, 4, 5, 6, 7] [1, 2] rfl rfl rfl rfl (by decide) [2, 0, 1, 3, 4, 5, 6, 7] rfl (ws2 := fun _ => [(a 1, oX3 a), (a 2, aI E 16 (hM 2)), (a 3, aI E 16 (hM 3)), (a 4, aI E 256 (hM 4)), (a 9, oX0 a (hM 9)), (a 10, aI E 4096 (hM 10)), (a 20, oX2 a), (hp1, oX6 sp1)]) (fun _ => rfl) (fun _ => ?_)
    refine r.iload_n 3 (DX2_bestOfHunters_0 38 rfl) rfl ?_
    refine r.icmp_ge 94 (DX2_bestOfHunters_0 39 rfl) rfl hxt (fun _ hxt => ?_) (fun _ hxt => ?_)
    · refine r.iinc (v := (v7 + (1 : Int32))) (lo' := [(7, .int (v7 + (1 : Int32))), (0, .ref (a 20)), (1, .ref hp1), (2, .int v2), (3, .int v3), (4, .int x4), (5, .int x5), (6, .int x6)]) 7 (DX2_bestOfHunters_0 52 rfl) rfl rfl (Nat.le_of_ble_eq_true rfl) rfl ?_
      refine r.goto 45 (DX2_bestOfHunters_0 53 rfl) rfl ?_
      refine r.rel (lo' := [(0, .ref (a 20)), (1, .ref hp1), (2, .int v2), (3, .int v3), (4, .int x4), (5, .int x5), (6, .int x6), (7, .int (v7 + (1 : Int32)))]) [1, 2, 3, 4, 5, 6, 7, 0] rfl ?_
      exact ih v2 v3 (v7 + (1 : Int32)) hxt
    refine r.aload_n 0 (DX2_bestOfHunters_0 40 rfl) rfl ?_
    refine r.aload_n 1 (DX2_bestOfHunters_0 41 rfl) rfl ?_
    refine r.iload 5 (DX2_bestOfHunters_0 42 rfl) rfl ?_
    refine r.iload 7 (DX2_bestOfHunters_0 43 rfl) rfl ?_
    obtain ⟨o_3, ho_3, hxt⟩ := xbd hxt
    refine r.callVI 4 rfl rfl (t_X2_worthOf E a hp1 x5 v7 sp1 hM ho_3) g_X2_88 rfl (DX2_bestOfHunters_0 44 rfl) rfl ⟨(Nat.le_of_ble_eq_true rfl), (Nat.le_of_ble_eq_true rfl)⟩ ⟨(Nat.le_of_ble_eq_true rfl), (Nat.le_of_ble_eq_true rfl)⟩ (Nat.le_of_ble_eq_true rfl) [0, 3, 4, 5, 6, 7] [1, 2] rfl rfl rfl rfl (by decide) [2, 0, 1, 3, 4, 5, 6, 7] rfl (ws2 := fun _ => [(a 1, oX3 a), (a 2, aI E 16 (hM 2)), (a 3, aI E 16 (hM 3)), (a 4, aI E 256 (hM 4)), (a 9, oX0 a (hM 9)), (a 10, aI E 4096 (hM 10)), (a 20, oX2 a), (hp1, oX6 sp1)]) (fun _ => rfl) (fun _ => ?_)
    refine r.istore_n (lo' := [(3, .int o_3), (0, .ref (a 20)), (1, .ref hp1), (2, .int v2), (4, .int x4), (5, .int x5), (6, .int x6), (7, .int v7)]) (DX2_bestOfHunters_0 45 rfl) (Nat.le_of_ble_eq_true rfl) rfl ?_
    refine r.bipush (v := (16 : Int32)) (DX2_bestOfHunters_0 46 rfl) rfl ?_
    refine r.iload 5 (DX2_bestOfHunters_0 47 rfl) rfl ?_
    refine r.imul (DX2_bestOfHunters_0 48 rfl) ?_
    refine r.iload 7 (DX2_bestOfHunters_0 49 rfl) rfl ?_
    refine r.iadd (DX2_bestOfHunters_0 50 rfl) ?_
    refine r.istore_n (lo' := [(2, .int (((16 : Int32) * x5) + v7)), (3, .int o_3), (0, .ref (a 20)), (1, .ref hp1), (4, .int x4), (5, .int x5), (6, .int x6), (7, .int v7)]) (DX2_bestOfHunters_0 51 rfl) (Nat.le_of_ble_eq_true rfl) rfl ?_
    refine r.iinc (v := (v7 + (1 : Int32))) (lo' := [(7, .int (v7 + (1 : Int32))), (2, .int (((16 : Int32) * x5) + v7)), (3, .int o_3), (0, .ref (a 20)), (1, .ref hp1), (4, .int x4), (5, .int x5), (6, .int x6)]) 7 (DX2_bestOfHunters_0 52 rfl) rfl rfl (Nat.le_of_ble_eq_true rfl) rfl ?_
    refine r.goto 45 (DX2_bestOfHunters_0 53 rfl) rfl ?_
    refine r.rel (lo' := [(0, .ref (a 20)), (1, .ref hp1), (2, .int (((16 : Int32) * x5) + v7)), (3, .int o_3), (4, .int x4), (5, .int x5), (6, .int x6), (7, .int (v7 + (1 : Int32)))]) [3, 4, 1, 2, 5, 6, 7, 0] rfl ?_
    exact ih (((16 : Int32) * x5) + v7) o_3 (v7 + (1 : Int32)) hxt
set_option maxRecDepth 100000 in
set_option maxHeartbeats 4000000 in
theorem l_X2_bestOfHunters_9 (E : xE) (a : Nat → Nat) (hp1 : Nat) (sp1 : Nat → Int32) (hM : Mem) {V : xVT} (r : Rl E RX2 cX2_bestOfHunters (xR 4 0 0) 8 false V) {o : Int32} {k : Int32 → Int32 → Option (Int32)} (hk : ∀ (v2 : Int32) (v3 : Int32), k v2 v3 = some o → V 0 0 106 [(0, .ref (a 20)), (1, .ref hp1), (2, .int v2), (3, .int v3)] [] [(a 1, oX3 a), (a 2, aI E 16 (hM 2)), (a 3, aI E 16 (hM 3)), (a 4, aI E 256 (hM 4)), (a 9, oX0 a (hM 9)), (a 10, aI E 4096 (hM 10)), (a 20, oX2 a), (hp1, oX6 sp1)]) : ∀ (n : Nat) (v2 : Int32) (v3 : Int32) (v4 : Int32), xt_X2_bestOfHunters_l9 sp1 hM k n v2 v3 v4 = some o → V 0 0 9 [(0, .ref (a 20)), (1, .ref hp1), (2, .int v2), (3, .int v3), (4, .int v4)] [] [(a 1, oX3 a), (a 2, aI E 16 (hM 2)), (a 3, aI E 16 (hM 3)), (a 4, aI E 256 (hM 4)), (a 9, oX0 a (hM 9)), (a 10, aI E 4096 (hM 10)), (a 20, oX2 a), (hp1, oX6 sp1)] := by
  intro n
  induction n with
  | zero => intro v2 v3 v4 hxt; exact xno hxt
  | succ n ih =>
    intro v2 v3 v4 hxt
    rw [xt_X2_bestOfHunters_l9] at hxt
    refine r.iload 4 (DX2_bestOfHunters_0 6 rfl) rfl ?_
    refine r.iconst (v := (2 : Int32)) (DX2_bestOfHunters_0 7 rfl) rfl ?_
    refine r.icmp_ge 106 (DX2_bestOfHunters_0 8 rfl) rfl hxt (fun _ hxt => ?_) (fun _ hxt => ?_)
    · refine r.rel (lo' := [(0, .ref (a 20)), (1, .ref hp1), (2, .int v2), (3, .int v3)]) [0, 1, 2, 3] rfl ?_
      exact hk v2 v3 hxt
    refine r.iload 4 (DX2_bestOfHunters_0 9 rfl) rfl ?_
    refine r.if_ne 27 (DX2_bestOfHunters_0 10 rfl) rfl hxt (fun _ hxt => ?_) (fun _ hxt => ?_)
    · refine r.aload_n 1 (DX2_bestOfHunters_0 14 rfl) rfl ?_
      refine r.get (v := .int (sp1 5)) kX6 f_X2_60 rfl 7 rfl rfl (DX2_bestOfHunters_0 15 rfl) ?_
      refine r.istore (lo' := [(5, .int (sp1 5)), (0, .ref (a 20)), (1, .ref hp1), (2, .int v2), (3, .int v3), (4, .int v4)]) (DX2_bestOfHunters_0 16 rfl) (Nat.le_of_ble_eq_true rfl) rfl ?_
      refine r.aload_n 1 (DX2_bestOfHunters_0 17 rfl) rfl ?_
      refine r.aload_n 2 (DX2_bestOfHunters_0 18 rfl) rfl ?_
      refine r.iload 0 (DX2_bestOfHunters_0 19 rfl) rfl ?_
      obtain ⟨o_1, ho_1, hxt⟩ := xbd hxt
      refine r.callVI 3 rfl rfl (t_X2_hunterSteps E a hp1 (sp1 5) sp1 hM ho_1) g_X2_63 rfl (DX2_bestOfHunters_0 20 rfl) rfl ⟨(Nat.le_of_ble_eq_true rfl), (Nat.le_of_ble_eq_true rfl)⟩ ⟨(Nat.le_of_ble_eq_true rfl), (Nat.le_of_ble_eq_true rfl)⟩ (Nat.le_of_ble_eq_true rfl) [0, 1, 2, 6, 7] [3, 4, 5] rfl rfl rfl rfl (by decide) [3, 4, 5, 0, 1, 2, 6, 7] rfl (ws2 := fun _ => [(a 1, oX3 a), (a 2, aI E 16 (hM 2)), (a 3, aI E 16 (hM 3)), (a 4, aI E 256 (hM 4)), (a 9, oX0 a (hM 9)), (a 10, aI E 4096 (hM 10)), (a 20, oX2 a), (hp1, oX6 sp1)]) (fun _ => rfl) (fun _ => ?_)
      refine r.istore (lo' := [(6, .int o_1), (5, .int (sp1 5)), (0, .ref (a 20)), (1, .ref hp1), (2, .int v2), (3, .int v3), (4, .int v4)]) (DX2_bestOfHunters_0 21 rfl) (Nat.le_of_ble_eq_true rfl) rfl ?_
      refine r.iconst (v := (0 : Int32)) (DX2_bestOfHunters_0 22 rfl) rfl ?_
      refine r.istore (lo' := [(7, .int (0 : Int32)), (6, .int o_1), (5, .int (sp1 5)), (0, .ref (a 20)), (1, .ref hp1), (2, .int v2), (3, .int v3), (4, .int v4)]) (DX2_bestOfHunters_0 23 rfl) (Nat.le_of_ble_eq_true rfl) rfl ?_
      refine r.rel (lo' := [(0, .ref (a 20)), (1, .ref hp1), (2, .int v2), (3, .int v3), (4, .int v4), (5, .int (sp1 5)), (6, .int o_1), (7, .int (0 : Int32))]) [3, 4, 5, 6, 7, 2, 1, 0] rfl ?_
      refine l_X2_bestOfHunters_45 E a hp1 v4 (sp1 5) o_1 sp1 hM r (fun v2_4 v3_5 hxt => ?_) 10000 v2 v3 (0 : Int32) hxt
      refine r.iinc (v := (v4 + (1 : Int32))) (lo' := [(4, .int (v4 + (1 : Int32))), (0, .ref (a 20)), (1, .ref hp1), (2, .int v2_4), (3, .int v3_5)]) 4 (DX2_bestOfHunters_0 54 rfl) rfl rfl (Nat.le_of_ble_eq_true rfl) rfl ?_
      refine r.goto 9 (DX2_bestOfHunters_0 55 rfl) rfl ?_
      refine r.rel (lo' := [(0, .ref (a 20)), (1, .ref hp1), (2, .int v2_4), (3, .int v3_5), (4, .int (v4 + (1 : Int32)))]) [1, 2, 3, 4, 0] rfl ?_
      exact ih v2_4 v3_5 (v4 + (1 : Int32)) hxt
    refine r.aload_n 1 (DX2_bestOfHunters_0 11 rfl) rfl ?_
    refine r.get (v := .int (sp1 4)) kX6 f_X2_57 rfl 7 rfl rfl (DX2_bestOfHunters_0 12 rfl) ?_
    refine r.goto 31 (DX2_bestOfHunters_0 13 rfl) rfl ?_
    refine r.istore (lo' := [(5, .int (sp1 4)), (0, .ref (a 20)), (1, .ref hp1), (2, .int v2), (3, .int v3), (4, .int v4)]) (DX2_bestOfHunters_0 16 rfl) (Nat.le_of_ble_eq_true rfl) rfl ?_
    refine r.aload_n 1 (DX2_bestOfHunters_0 17 rfl) rfl ?_
    refine r.aload_n 2 (DX2_bestOfHunters_0 18 rfl) rfl ?_
    refine r.iload 0 (DX2_bestOfHunters_0 19 rfl) rfl ?_
    obtain ⟨o_6, ho_6, hxt⟩ := xbd hxt
    refine r.callVI 3 rfl rfl (t_X2_hunterSteps E a hp1 (sp1 4) sp1 hM ho_6) g_X2_63 rfl (DX2_bestOfHunters_0 20 rfl) rfl ⟨(Nat.le_of_ble_eq_true rfl), (Nat.le_of_ble_eq_true rfl)⟩ ⟨(Nat.le_of_ble_eq_true rfl), (Nat.le_of_ble_eq_true rfl)⟩ (Nat.le_of_ble_eq_true rfl) [0, 1, 2, 6, 7] [3, 4, 5] rfl rfl rfl rfl (by decide) [3, 4, 5, 0, 1, 2, 6, 7] rfl (ws2 := fun _ => [(a 1, oX3 a), (a 2, aI E 16 (hM 2)), (a 3, aI E 16 (hM 3)), (a 4, aI E 256 (hM 4)), (a 9, oX0 a (hM 9)), (a 10, aI E 4096 (hM 10)), (a 20, oX2 a), (hp1, oX6 sp1)]) (fun _ => rfl) (fun _ => ?_)
    refine r.istore (lo' := [(6, .int o_6), (5, .int (sp1 4)), (0, .ref (a 20)), (1, .ref hp1), (2, .int v2), (3, .int v3), (4, .int v4)]) (DX2_bestOfHunters_0 21 rfl) (Nat.le_of_ble_eq_true rfl) rfl ?_
    refine r.iconst (v := (0 : Int32)) (DX2_bestOfHunters_0 22 rfl) rfl ?_
    refine r.istore (lo' := [(7, .int (0 : Int32)), (6, .int o_6), (5, .int (sp1 4)), (0, .ref (a 20)), (1, .ref hp1), (2, .int v2), (3, .int v3), (4, .int v4)]) (DX2_bestOfHunters_0 23 rfl) (Nat.le_of_ble_eq_true rfl) rfl ?_
    refine r.rel (lo' := [(0, .ref (a 20)), (1, .ref hp1), (2, .int v2), (3, .int v3), (4, .int v4), (5, .int (sp1 4)), (6, .int o_6), (7, .int (0 : Int32))]) [3, 4, 5, 6, 7, 2, 1, 0] rfl ?_
    refine l_X2_bestOfHunters_45 E a hp1 v4 (sp1 4) o_6 sp1 hM r (fun v2_7 v3_8 hxt => ?_) 10000 v2 v3 (0 : Int32) hxt
    refine r.iinc (v := (v4 + (1 : Int32))) (lo' := [(4, .int (v4 + (1 : Int32))), (0, .ref (a 20)), (1, .ref hp1), (2, .int v2_7), (3, .int v3_8)]) 4 (DX2_bestOfHunters_0 54 rfl) rfl rfl (Nat.le_of_ble_eq_true rfl) rfl ?_
    refine r.goto 9 (DX2_bestOfHunters_0 55 rfl) rfl ?_
    refine r.rel (lo' := [(0, .ref (a 20)), (1, .ref hp1), (2, .int v2_7), (3, .int v3_8), (4, .int (v4 + (1 : Int32)))]) [1, 2, 3, 4, 0] rfl ?_
    exact ih v2_7 v3_8 (v4 + (1 : Int32)) hxt
set_option maxRecDepth 100000 in
set_option maxHeartbeats 4000000 in
theorem t_X2_bestOfHunters (E : xE) (a : Nat → Nat) (hp1 : Nat) (sp1 : Nat → Int32) (hM : Mem) {o : Int32} (hxt : xt_X2_bestOfHunters sp1 hM = some o) : xMI (S := Unit) E yX2_bestOfHunters cX2_bestOfHunters 8 .int 4 0 0 [.ref (a 20), .ref hp1] [(a 1, oX3 a), (a 2, aI E 16 (hM 2)), (a 3, aI E 16 (hM 3)), (a 4, aI E 256 (hM 4)), (a 9, oX0 a (hM 9)), (a 10, aI E 4096 (hM 10)), (a 20, oX2 a), (hp1, oX6 sp1)] (fun _ => o) (fun _ => [(a 1, oX3 a), (a 2, aI E 16 (hM 2)), (a 3, aI E 16 (hM 3)), (a 4, aI E 256 (hM 4)), (a 9, oX0 a (hM 9)), (a 10, aI E 4096 (hM 10)), (a 20, oX2 a), (hp1, oX6 sp1)]) := by
  refine xMI.of (own := RX2) (lo0 := [(0, .ref (a 20)), (1, .ref hp1)]) (by decide +kernel) rfl rfl (Nat.le_of_ble_eq_true rfl) (fun V r hret => ?_)
  unfold xt_X2_bestOfHunters at hxt
  refine r.bipush (v := (-6 : Int32)) (DX2_bestOfHunters_0 0 rfl) rfl ?_
  refine r.istore_n (lo' := [(2, .int (-6 : Int32)), (0, .ref (a 20)), (1, .ref hp1)]) (DX2_bestOfHunters_0 1 rfl) (Nat.le_of_ble_eq_true rfl) rfl ?_
  refine r.ldc (v := (1000001 : Int32)) (DX2_bestOfHunters_0 2 rfl) m470 ?_
  refine r.istore_n (lo' := [(3, .int (1000001 : Int32)), (2, .int (-6 : Int32)), (0, .ref (a 20)), (1, .ref hp1)]) (DX2_bestOfHunters_0 3 rfl) (Nat.le_of_ble_eq_true rfl) rfl ?_
  refine r.iconst (v := (0 : Int32)) (DX2_bestOfHunters_0 4 rfl) rfl ?_
  refine r.istore (lo' := [(4, .int (0 : Int32)), (3, .int (1000001 : Int32)), (2, .int (-6 : Int32)), (0, .ref (a 20)), (1, .ref hp1)]) (DX2_bestOfHunters_0 5 rfl) (Nat.le_of_ble_eq_true rfl) rfl ?_
  refine r.rel (lo' := [(0, .ref (a 20)), (1, .ref hp1), (2, .int (-6 : Int32)), (3, .int (1000001 : Int32)), (4, .int (0 : Int32))]) [3, 4, 2, 1, 0] rfl ?_
  refine l_X2_bestOfHunters_9 E a hp1 sp1 hM r (fun v2_9 v3_10 hxt => ?_) 10000 (-6 : Int32) (1000001 : Int32) (0 : Int32) hxt
  refine r.aload_n 1 (DX2_bestOfHunters_0 56 rfl) rfl ?_
  refine r.iconst (v := (2 : Int32)) (DX2_bestOfHunters_0 57 rfl) rfl ?_
  obtain ⟨o_11, ho_11, hxt⟩ := xbd hxt
  refine r.callVI 0 rfl rfl (t_X6_setting E a hp1 (2 : Int32) sp1 ho_11) g_X2_38 rfl (DX2_bestOfHunters_0 58 rfl) rfl ⟨(Nat.le_of_ble_eq_true rfl), (Nat.le_of_ble_eq_true rfl)⟩ ⟨(Nat.le_of_ble_eq_true rfl), (Nat.le_of_ble_eq_true rfl)⟩ (Nat.le_of_ble_eq_true rfl) [7] [0, 1, 2, 3, 4, 5, 6] rfl rfl rfl rfl (by decide) [0, 1, 2, 3, 4, 5, 6, 7] rfl (ws2 := fun _ => [(a 1, oX3 a), (a 2, aI E 16 (hM 2)), (a 3, aI E 16 (hM 3)), (a 4, aI E 256 (hM 4)), (a 9, oX0 a (hM 9)), (a 10, aI E 4096 (hM 10)), (a 20, oX2 a), (hp1, oX6 sp1)]) (fun _ => rfl) (fun _ => ?_)
  refine r.iconst (v := (1 : Int32)) (DX2_bestOfHunters_0 59 rfl) rfl ?_
  refine r.icmp_ne 145 (DX2_bestOfHunters_1 0 rfl) rfl hxt (fun _ hxt => ?_) (fun _ hxt => ?_)
  · refine r.iload_n 2 (DX2_bestOfHunters_1 18 rfl) rfl ?_
    cases hxt
    exact hret _ _ _ _ (DX2_bestOfHunters_1 19 rfl) rfl ⟨(), rfl, rfl⟩
  refine r.aload_n 0 (DX2_bestOfHunters_1 1 rfl) rfl ?_
  refine r.aload_n 1 (DX2_bestOfHunters_1 2 rfl) rfl ?_
  refine r.aload_n 1 (DX2_bestOfHunters_1 3 rfl) rfl ?_
  refine r.get (v := .int (sp1 4)) kX6 f_X2_57 rfl 7 rfl rfl (DX2_bestOfHunters_1 4 rfl) ?_
  refine r.aload_n 1 (DX2_bestOfHunters_1 5 rfl) rfl ?_
  refine r.get (v := .int (sp1 4)) kX6 f_X2_57 rfl 7 rfl rfl (DX2_bestOfHunters_1 6 rfl) ?_
  obtain ⟨o_12, ho_12, hxt⟩ := xbd hxt
  refine r.callVI 4 rfl rfl (t_X2_worthOf E a hp1 (sp1 4) (sp1 4) sp1 hM ho_12) g_X2_88 rfl (DX2_bestOfHunters_1 7 rfl) rfl ⟨(Nat.le_of_ble_eq_true rfl), (Nat.le_of_ble_eq_true rfl)⟩ ⟨(Nat.le_of_ble_eq_true rfl), (Nat.le_of_ble_eq_true rfl)⟩ (Nat.le_of_ble_eq_true rfl) [0, 3, 4, 5, 6, 7] [1, 2] rfl rfl rfl rfl (by decide) [2, 0, 1, 3, 4, 5, 6, 7] rfl (ws2 := fun _ => [(a 1, oX3 a), (a 2, aI E 16 (hM 2)), (a 3, aI E 16 (hM 3)), (a 4, aI E 256 (hM 4)), (a 9, oX0 a (hM 9)), (a 10, aI E 4096 (hM 10)), (a 20, oX2 a), (hp1, oX6 sp1)]) (fun _ => rfl) (fun _ => ?_)
  refine r.iload_n 3 (DX2_bestOfHunters_1 8 rfl) rfl ?_
  refine r.icmp_ge 145 (DX2_bestOfHunters_1 9 rfl) rfl hxt (fun _ hxt => ?_) (fun _ hxt => ?_)
  · refine r.iload_n 2 (DX2_bestOfHunters_1 18 rfl) rfl ?_
    cases hxt
    exact hret _ _ _ _ (DX2_bestOfHunters_1 19 rfl) rfl ⟨(), rfl, rfl⟩
  refine r.bipush (v := (16 : Int32)) (DX2_bestOfHunters_1 10 rfl) rfl ?_
  refine r.aload_n 1 (DX2_bestOfHunters_1 11 rfl) rfl ?_
  refine r.get (v := .int (sp1 4)) kX6 f_X2_57 rfl 7 rfl rfl (DX2_bestOfHunters_1 12 rfl) ?_
  refine r.imul (DX2_bestOfHunters_1 13 rfl) ?_
  refine r.aload_n 1 (DX2_bestOfHunters_1 14 rfl) rfl ?_
  refine r.get (v := .int (sp1 4)) kX6 f_X2_57 rfl 7 rfl rfl (DX2_bestOfHunters_1 15 rfl) ?_
  refine r.iadd (DX2_bestOfHunters_1 16 rfl) ?_
  refine r.istore_n (lo' := [(2, .int (((16 : Int32) * (sp1 4)) + (sp1 4))), (0, .ref (a 20)), (1, .ref hp1), (3, .int v3_10)]) (DX2_bestOfHunters_1 17 rfl) (Nat.le_of_ble_eq_true rfl) rfl ?_
  refine r.iload_n 0 (DX2_bestOfHunters_1 18 rfl) rfl ?_
  cases hxt
  exact hret _ _ _ _ (DX2_bestOfHunters_1 19 rfl) rfl ⟨(), rfl, rfl⟩
set_option maxRecDepth 100000 in
set_option maxHeartbeats 4000000 in
theorem t_X2_bestMove (E : xE) (a : Nat → Nat) (hp1 : Nat) (sp1 : Nat → Int32) (hM : Mem) {o : Int32 × Mem} (hxt : xt_X2_bestMove sp1 hM = some o) : xMI (S := Unit) E yX2_bestMove cX2_bestMove 2 .int 5 0 0 [.ref (a 20), .ref hp1] [(a 1, oX3 a), (a 2, aI E 16 (hM 2)), (a 3, aI E 16 (hM 3)), (a 4, aI E 256 (hM 4)), (a 5, aI E 128 (hM 5)), (a 6, aI E 128 (hM 6)), (a 7, aI E 128 (hM 7)), (a 9, oX0 a (hM 9)), (a 10, aI E 4096 (hM 10)), (a 11, aI E 120 (hM 11)), (a 12, aI E 120 (hM 12)), (a 20, oX2 a), (hp1, oX6 sp1)] (fun _ => o.1) (fun _ => [(a 1, oX3 a), (a 2, aI E 16 (hM 2)), (a 3, aI E 16 (hM 3)), (a 4, aI E 256 (hM 4)), (a 5, aI E 128 (hM 5)), (a 6, aI E 128 (hM 6)), (a 7, aI E 128 (hM 7)), (a 9, oX0 a (o.2 9)), (a 10, aI E 4096 (o.2 10)), (a 11, aI E 120 (o.2 11)), (a 12, aI E 120 (o.2 12)), (a 20, oX2 a), (hp1, oX6 sp1)]) := by
  refine xMI.of (own := RX2) (lo0 := [(0, .ref (a 20)), (1, .ref hp1)]) (by decide +kernel) rfl rfl (Nat.le_of_ble_eq_true rfl) (fun V r hret => ?_)
  unfold xt_X2_bestMove at hxt
  refine r.aload_n 0 (DX2_bestMove 0 rfl) rfl ?_
  refine r.aload_n 1 (DX2_bestMove 1 rfl) rfl ?_
  obtain ⟨o_1, ho_1, hxt⟩ := xbd hxt
  refine r.callVI 3 rfl rfl (t_X2_caught E a hp1 sp1 hM ho_1) g_X2_53 rfl (DX2_bestMove 2 rfl) rfl ⟨(Nat.le_of_ble_eq_true rfl), (Nat.le_of_ble_eq_true rfl)⟩ ⟨(Nat.le_of_ble_eq_true rfl), (Nat.le_of_ble_eq_true rfl)⟩ (Nat.le_of_ble_eq_true rfl) [0, 1, 2, 11, 12] [3, 4, 5, 6, 7, 8, 9, 10] rfl rfl rfl rfl (by decide) [8, 9, 10, 0, 1, 2, 3, 4, 5, 6, 7, 11, 12] rfl (ws2 := fun _ => [(a 1, oX3 a), (a 2, aI E 16 (hM 2)), (a 3, aI E 16 (hM 3)), (a 4, aI E 256 (hM 4)), (a 5, aI E 128 (hM 5)), (a 6, aI E 128 (hM 6)), (a 7, aI E 128 (hM 7)), (a 9, oX0 a (hM 9)), (a 10, aI E 4096 (hM 10)), (a 11, aI E 120 (hM 11)), (a 12, aI E 120 (hM 12)), (a 20, oX2 a), (hp1, oX6 sp1)]) (fun _ => rfl) (fun _ => ?_)
  refine r.if_eq 11 (DX2_bestMove 3 rfl) rfl hxt (fun _ hxt => ?_) (fun _ hxt => ?_)
  · refine r.aload_n 0 (DX2_bestMove 6 rfl) rfl ?_
    refine r.get (v := .ref (a 9)) kX2 f_X2_15 rfl 11 rfl rfl (DX2_bestMove 7 rfl) ?_
    refine r.aload_n 1 (DX2_bestMove 8 rfl) rfl ?_
    obtain ⟨o_2, ho_2, hxt⟩ := xbd hxt
    refine r.callVV 7 rfl rfl (t_X0_prepare E a hp1 sp1 hM ho_2) g_X2_71 rfl (DX2_bestMove 9 rfl) rfl ⟨(Nat.le_of_ble_eq_true rfl), (Nat.le_of_ble_eq_true rfl)⟩ ⟨(Nat.le_of_ble_eq_true rfl), (Nat.le_of_ble_eq_true rfl)⟩ (Nat.le_of_ble_eq_true rfl) [0, 1, 2, 3, 4, 5, 6, 7, 8, 9, 10, 12] [11] rfl rfl rfl rfl (by decide) [1, 2, 3, 4, 5, 6, 7, 8, 9, 10, 11, 0, 12] rfl (ws2 := fun _ => [(a 1, oX3 a), (a 2, aI E 16 (hM 2)), (a 3, aI E 16 (hM 3)), (a 4, aI E 256 (hM 4)), (a 5, aI E 128 (hM 5)), (a 6, aI E 128 (hM 6)), (a 7, aI E 128 (hM 7)), (a 9, oX0 a (o_2 9)), (a 10, aI E 4096 (o_2 10)), (a 11, aI E 120 (o_2 11)), (a 12, aI E 120 (o_2 12)), (a 20, oX2 a), (hp1, oX6 sp1)]) (fun _ => rfl) (fun _ => ?_)
    refine r.aload_n 1 (DX2_bestMove 10 rfl) rfl ?_
    refine r.get (v := .int (sp1 2)) kX6 f_X2_27 rfl 12 rfl rfl (DX2_bestMove 11 rfl) ?_
    refine r.iconst (v := (1 : Int32)) (DX2_bestMove 12 rfl) rfl ?_
    refine r.icmp_ne 35 (DX2_bestMove 13 rfl) rfl hxt (fun _ hxt => ?_) (fun _ hxt => ?_)
    · refine r.aload_n 0 (DX2_bestMove 18 rfl) rfl ?_
      refine r.aload_n 1 (DX2_bestMove 19 rfl) rfl ?_
      obtain ⟨o_3, ho_3, hxt⟩ := xbd hxt
      refine r.callVI 6 rfl rfl (t_X2_bestOfHunters E a hp1 sp1 (mgs hM [9, 10] o_2) ho_3) g_X2_80 rfl (DX2_bestMove 20 rfl) rfl ⟨(Nat.le_of_ble_eq_true rfl), (Nat.le_of_ble_eq_true rfl)⟩ ⟨(Nat.le_of_ble_eq_true rfl), (Nat.le_of_ble_eq_true rfl)⟩ (Nat.le_of_ble_eq_true rfl) [0, 1, 2, 3, 7, 8, 11, 12] [4, 5, 6, 9, 10] rfl rfl rfl rfl (by decide) [5, 6, 7, 8, 0, 1, 2, 9, 10, 3, 4, 11, 12] rfl (ws2 := fun _ => [(a 1, oX3 a), (a 2, aI E 16 (hM 2)), (a 3, aI E 16 (hM 3)), (a 4, aI E 256 (hM 4)), (a 5, aI E 128 (hM 5)), (a 6, aI E 128 (hM 6)), (a 7, aI E 128 (hM 7)), (a 9, oX0 a (o_2 9)), (a 10, aI E 4096 (o_2 10)), (a 11, aI E 120 (o_2 11)), (a 12, aI E 120 (o_2 12)), (a 20, oX2 a), (hp1, oX6 sp1)]) (fun _ => rfl) (fun _ => ?_)
      cases hxt
      exact hret _ _ _ _ (DX2_bestMove 21 rfl) rfl ⟨(), rfl, rfl⟩
    refine r.aload_n 0 (DX2_bestMove 14 rfl) rfl ?_
    refine r.aload_n 1 (DX2_bestMove 15 rfl) rfl ?_
    obtain ⟨o_4, ho_4, hxt⟩ := xbd hxt
    refine r.callVI 6 rfl rfl (t_X2_bestOfFox E a hp1 sp1 (mgs hM [9, 10] o_2) ho_4) g_X2_77 rfl (DX2_bestMove 16 rfl) rfl ⟨(Nat.le_of_ble_eq_true rfl), (Nat.le_of_ble_eq_true rfl)⟩ ⟨(Nat.le_of_ble_eq_true rfl), (Nat.le_of_ble_eq_true rfl)⟩ (Nat.le_of_ble_eq_true rfl) [0, 1, 2, 3, 7, 8, 11, 12] [4, 5, 6, 9, 10] rfl rfl rfl rfl (by decide) [5, 6, 7, 8, 0, 1, 2, 9, 10, 3, 4, 11, 12] rfl (ws2 := fun _ => [(a 1, oX3 a), (a 2, aI E 16 (hM 2)), (a 3, aI E 16 (hM 3)), (a 4, aI E 256 (hM 4)), (a 5, aI E 128 (hM 5)), (a 6, aI E 128 (hM 6)), (a 7, aI E 128 (hM 7)), (a 9, oX0 a (o_2 9)), (a 10, aI E 4096 (o_2 10)), (a 11, aI E 120 (o_2 11)), (a 12, aI E 120 (o_2 12)), (a 20, oX2 a), (hp1, oX6 sp1)]) (fun _ => rfl) (fun _ => ?_)
    refine r.goto 40 (DX2_bestMove 17 rfl) rfl ?_
    cases hxt
    exact hret _ _ _ _ (DX2_bestMove 21 rfl) rfl ⟨(), rfl, rfl⟩
  refine r.bipush (v := (-6 : Int32)) (DX2_bestMove 4 rfl) rfl ?_
  cases hxt
  exact hret _ _ _ _ (DX2_bestMove 5 rfl) rfl ⟨(), rfl, rfl⟩
set_option maxRecDepth 100000 in
set_option maxHeartbeats 4000000 in
theorem t_X2_fromOf (E : xE) (x0 : Int32) {o : Int32} (hxt : xt_X2_fromOf x0 = some o) : xMI (S := Unit) E yX2_fromOf cX2_fromOf 1 .int 0 0 0 [.int x0] [] (fun _ => o) (fun _ => []) := by
  refine xMI.of (own := RX2) (lo0 := [(0, .int x0)]) (by decide +kernel) rfl rfl (Nat.le_of_ble_eq_true rfl) (fun V r hret => ?_)
  unfold xt_X2_fromOf at hxt
  refine r.iload_n 0 (DX2_fromOf 0 rfl) rfl ?_
  refine r.if_ge 9 (DX2_fromOf 1 rfl) rfl hxt (fun _ hxt => ?_) (fun _ hxt => ?_)
  · refine r.iload_n 0 (DX2_fromOf 4 rfl) rfl ?_
    refine r.bipush (v := (16 : Int32)) (DX2_fromOf 5 rfl) rfl ?_
    refine r.idiv (DX2_fromOf 6 rfl) (by decide) ?_
    cases hxt
    exact hret _ _ _ _ (DX2_fromOf 7 rfl) rfl ⟨(), rfl, rfl⟩
  refine r.bipush (v := (-6 : Int32)) (DX2_fromOf 2 rfl) rfl ?_
  refine r.goto 13 (DX2_fromOf 3 rfl) rfl ?_
  cases hxt
  exact hret _ _ _ _ (DX2_fromOf 7 rfl) rfl ⟨(), rfl, rfl⟩
set_option maxRecDepth 100000 in
set_option maxHeartbeats 4000000 in
theorem t_X2_toOf (E : xE) (x0 : Int32) {o : Int32} (hxt : xt_X2_toOf x0 = some o) : xMI (S := Unit) E yX2_toOf cX2_toOf 1 .int 0 0 0 [.int x0] [] (fun _ => o) (fun _ => []) := by
  refine xMI.of (own := RX2) (lo0 := [(0, .int x0)]) (by decide +kernel) rfl rfl (Nat.le_of_ble_eq_true rfl) (fun V r hret => ?_)
  unfold xt_X2_toOf at hxt
  refine r.iload_n 0 (DX2_toOf 0 rfl) rfl ?_
  refine r.if_ge 9 (DX2_toOf 1 rfl) rfl hxt (fun _ hxt => ?_) (fun _ hxt => ?_)
  · refine r.iload_n 0 (DX2_toOf 4 rfl) rfl ?_
    refine r.bipush (v := (16 : Int32)) (DX2_toOf 5 rfl) rfl ?_
    refine r.irem (DX2_toOf 6 rfl) (by decide) ?_
    cases hxt
    exact hret _ _ _ _ (DX2_toOf 7 rfl) rfl ⟨(), rfl, rfl⟩
  refine r.bipush (v := (-6 : Int32)) (DX2_toOf 2 rfl) rfl ?_
  refine r.goto 13 (DX2_toOf 3 rfl) rfl ?_
  cases hxt
  exact hret _ _ _ _ (DX2_toOf 7 rfl) rfl ⟨(), rfl, rfl⟩
