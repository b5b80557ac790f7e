/-! ===== changes: readPad, undo, restore; save ===== -/
theorem tc19 : (19 : Int32).toNatClampNeg = 19 := rfl
theorem readPad_op {m m' : Mem} {g : Nat → Nat} {n p L : Nat} {hs : Nat → Nat → Nat} {tx : Nat → Int32} (hb : ∀ s B, VC s B → Bd s B) (hg : GE m) (hp : PE m') (hv : VS g) (hh : HV n p hs) (hc : StC (m 21) g) (hhc : HC m n hs) (hm : MS m' g) (hhm : HM m' n p hs) (hce : CE m) (hme : ME m') (hL : L ≤ 24) (hpc : PC m L tx) (hpm : PM m' L tx) :
    ∃ a o o', xt_X8_readPad m = some (a, o) ∧ xt_X9_readPad m' = some (a, o') ∧ NX o o' ∧ CE o ∧ ME o' ∧ ∃ L2, L2 ≤ L ∧ o 25 1 = nI L2 ∧ o' 31 20 = nI L2 := by
  unfold xt_X8_readPad xt_X9_readPad
  have same : NX m m' := NX.i hv hh hc hhc hm hhm
  have out : ∀ x : Int32, ∃ a o o', some (x, m) = some (a, o) ∧ some (x, m') = some (a, o') ∧ NX o o' ∧ CE o ∧ ME o' ∧ ∃ L2, L2 ≤ L ∧ o 25 1 = nI L2 ∧ o' 31 20 = nI L2 := fun x => ⟨_, _, _, rfl, rfl, same, hce, hme, L, Nat.le_refl _, hpc.1, hpm.1⟩
  obtain ⟨e, e1, e2, e3⟩ := fault_ok hL hpc hpm
  rw [e1, e2, Option.bind_some, Option.bind_some]
  rcases e3 with ⟨z, zL⟩ | ⟨z1, z2⟩
  rotate_left
  · rw [if_neg z1, if_neg z2]; exact out _
  subst zL
  rw [z, if_pos rfl, if_pos (show (-6 : Int32) < 0 by decide)]
  rw [cplaces_ok hpc, cplaces_ok hpc, cplaces_ok hpc, mplaces_ok hpm, mplaces_ok hpm, mplaces_ok hpm, Option.bind_some, Option.bind_some, Option.bind_some, Option.bind_some, Option.bind_some]
  obtain ⟨F, hF⟩ : ∃ F, F = plN tx 70 16 := ⟨_, rfl⟩
  obtain ⟨H, hH⟩ : ∃ H, H = plN tx 72 16 := ⟨_, rfl⟩
  obtain ⟨B, hB⟩ : ∃ B, B = plN tx 35 16 := ⟨_, rfl⟩
  rw [← hF, ← hH, ← hB]
  have lF : F < 65536 := by rw [hF]; have := plN_lt tx 70 16; omega
  have lH : H < 65536 := by rw [hH]; have := plN_lt tx 72 16; omega
  have lB : B < 65536 := by rw [hB]; have := plN_lt tx 35 16; omega
  have bF : ∀ i, i < 16 → F.testBit i = decide (tx (i + i / 4) = 70) := fun i hi => by rw [hF, plN_bit]; simp [hi]
  have bH : ∀ i, i < 16 → H.testBit i = decide (tx (i + i / 4) = 72) := fun i hi => by rw [hH, plN_bit]; simp [hi]
  have bB : ∀ i, i < 16 → B.testBit i = decide (tx (i + i / 4) = 35) := fun i hi => by rw [hB, plN_bit]; simp [hi]
  have cF := pcB_le F
  have cH := pcB_le H
  have cB := pcB_le B
  have eF : nI (pcB F) = 1 ↔ pcB F = 1 := nI_eq (b := 1) (by omega) (by omega)
  have eH : nI (pcB H) = 2 ↔ pcB H = 2 := nI_eq (b := 2) (by omega) (by omega)
  have eB : nI (pcB B) ≤ 6 ↔ pcB B ≤ 6 := ble _ 6 (by omega) (by omega)
  rw [bitCount_ok lF, Option.bind_some, many_ok lH, Option.bind_some]
  by_cases c1 : pcB F = 1
  rotate_left
  · rw [if_neg (mt eF.mp c1)]
    by_cases c2 : pcB H = 2
    · rw [if_pos (eH.mpr c2), many_ok lF, Option.bind_some, if_neg (mt eF.mp c1)]; exact out _
    · rw [if_neg (mt eH.mp c2)]; exact out _
  rw [if_pos (eF.mpr c1), bitCount_ok lH, Option.bind_some]
  by_cases c2 : pcB H = 2
  rotate_left
  · rw [if_neg (mt eH.mp c2), if_neg (mt eH.mp c2)]; exact out _
  rw [if_pos (eH.mpr c2), if_pos (eH.mpr c2), many_ok lF, bitCount_ok lB, Option.bind_some, Option.bind_some, if_pos (eF.mpr c1), Option.bind_some, many_ok lB, Option.bind_some]
  by_cases c3 : pcB B ≤ 6
  rotate_left
  · rw [if_neg (mt eB.mp c3), if_neg (mt eB.mp c3)]; exact out _
  rw [if_pos (eB.mpr c3), if_pos (eB.mpr c3)]
  obtain ⟨f, f16, f1, f2⟩ := pcS1 (n := F) (k := 16) (by rw [pcS_16]; exact c1)
  obtain ⟨a, b, ab, b16, a1, b1, ab2⟩ := pcS2 (n := H) (k := 16) (by rw [pcS_16]; exact c2)
  have a16 : a < 16 := by omega
  obtain ⟨oR, r1, r2, r3⟩ := record_ok hhc hh.1 hc
  obtain ⟨oK, k1, k2, k3, k4⟩ := mkeep_ok hhm hh.1 hh.2.1 hm
  have mF := msk_nI lF
  have mH := msk_nI lH
  obtain ⟨w1, w2⟩ := lowest_ok mF f16 f1 (fun j hj => f2 j (by omega) (by omega))
  obtain ⟨w3, w4⟩ := lowest_ok mH a16 a1 (fun j hj => ab2 j (by omega) (by omega) (by omega))
  have w5 := highest_ok mH b16 b1 (fun j hj hj2 => ab2 j hj2 (by omega) (by omega))
  have w6 : xt_X9_lowest (nI H &&& (((1 : Int32) <<< (nI a &&& 31)) ^^^ (-1 : Int32))) = some (nI b) := by
    refine (lowest_ok (mH.andn (msk_1 a16)) b16 ?_ (fun j hj => ?_)).2
    · simp [b1]; omega
    · by_cases ca : j = a
      · subst ca; simp
      · simp [ab2 j (by omega) ca (by omega)]
  have pk31 : PM (mgs m' [31] oK) 20 tx := ⟨(k3 20 (by omega) (by omega)).trans hpm.1, hpm.2⟩
  have v3 : vp_in (3 : Int32) 8 := by unfold vp_in; decide
  have v19 : vp_in (19 : Int32) 24 := by unfold vp_in; decide
  rw [r1, k1, Option.bind_some, Option.bind_some, w4, Option.bind_some, mplaces_ok pk31, Option.bind_some, ← hB, xgd_in v3, xgd_in v19, tc19, tc3, hpm.2 19 (by omega)]
  unfold xt_X5_foxMoves
  rw [xgd_in v19, tc19, hpc.2 19 (by omega), w1, w3, w5, w2, w6]
  have dis : f ≠ a ∧ f ≠ b := by
    rw [bF f f16, decide_eq_true_eq] at f1
    rw [bH a a16, decide_eq_true_eq] at a1
    rw [bH b b16, decide_eq_true_eq] at b1
    constructor
    · intro z; rw [z, a1] at f1; exact absurd f1 (by decide)
    · intro z; rw [z, b1] at f1; exact absurd f1 (by decide)
  have fr : ∀ i, i < 16 → ∀ x : Int32, tx (i + i / 4) = x → x ≠ 35 → bfr B i = true := by
    intro i hi x h1 h2
    unfold bfr
    rw [bB i hi, h1, decide_eq_false h2]; rfl
  have frf : bfr B f = true := by
    rw [bF f f16, decide_eq_true_eq] at f1
    exact fr f f16 _ f1 (by decide)
  have fra : bfr B a = true := by
    rw [bH a a16, decide_eq_true_eq] at a1
    exact fr a a16 _ a1 (by decide)
  have frb : bfr B b = true := by
    rw [bH b b16, decide_eq_true_eq] at b1
    exact fr b b16 _ b1 (by decide)
  have fin : ∀ w, w < 2 → ∃ y o o',
      (Option.bind (some (nI f)) fun o_11 => Option.bind (some (nI a)) fun o_12 => Option.bind (some (nI b)) fun o_13 => Option.bind (xt_X6_place (nI w) o_11 o_12 o_13 (upd (m 21) 1 (nI B))) fun o_14 => Option.bind (xt_X5_empty m) fun o_15 => Option.bind (xt_X8_distanceNow (mset m 21 o_14)) fun (o_16 : Int32 × Mem) => some (o_16.1, (mgs (mgs (mgs (mset m 21 o_14) [9, 10, 11, 12] o_16.2) [23, 60, 61, 62, 63, 64, 65] oR) [25] o_15))) = some (y, o) ∧
      (Option.bind (some (nI f)) fun o_11 => Option.bind (some (nI b)) fun o_12 => Option.bind (xt_X9_lay (nI w) o_11 (nI a) o_12 (mgs (mset m' 32 (upd (m' 32) 3 (nI B))) [31] oK)) fun (o_13 : Mem) => Option.bind (xt_X9_distanceNow (mgs (mset m' 31 (upd (oK 31) 20 (0 : Int32))) [32] o_13)) fun (o_14 : Int32 × Mem) => some (o_14.1, (mgs (mgs (mgs m' [31, 38, 39, 40, 41, 42, 43, 44] o_14.2) [32] o_13) [33] oK))) = some (y, o') ∧ NX o o' ∧ CE o ∧ ME o' ∧ ∃ L2, L2 ≤ 20 ∧ o 25 1 = nI L2 ∧ o' 31 20 = nI L2 := by
    intro w hw
    rw [Option.bind_some, Option.bind_some, Option.bind_some, place_ok a16 b16, Option.bind_some]
    unfold xt_X5_empty
    have hv2 : VS (ls g B w f a b) := ls_VS hv lB c3 hw f16 a16 b16 dis.1 dis.2 (by omega) frf fra frb
    obtain ⟨c2', hc2'⟩ : ∃ c2' : Nat → Int32, c2' = upd (upd (upd (upd (upd (m 21) 1 (nI B)) 2 (nI w)) 3 (nI f)) 4 (nI (min a b))) 5 (nI (max a b)) := ⟨_, rfl⟩
    rw [← hc2']
    have hc2 : StC c2' (ls g B w f a b) := by
      rw [hc2']
      exact StC_place (s := sOf g) (B := B) (by rw [upd_n _ _ (by omega)]; exact hc.1) (upd_s _ _ _) rfl rfl rfl rfl rfl rfl
    obtain ⟨oD, d1, d2, d3⟩ := distNow_ok (m := mset m 21 c2') (hg.mset (by omega)) (cset21 hce) (by rw [mset_s]; exact hc2) hv2 hb
    rw [Option.bind_some, d1, Option.bind_some, Option.bind_some, Option.bind_some]
    obtain ⟨oL, l1, l2, l3⟩ := lay_ok (m := mgs (mset m' 32 (upd (m' 32) 3 (nI B))) [31] oK) (g := g) (B := B) (w := w) (f := f) (a := a) (b := b) (fun k hk => by
      show upd (m' 32) 3 (nI B) k = _
      rw [upd_n _ _ (by omega)]; exact hm k (by omega)) (by
      show upd (m' 32) 3 (nI B) 3 = _
      rw [upd_s]) a16 b16
    rw [l1, Option.bind_some]
    obtain ⟨mA, hmA⟩ : ∃ mA : Mem, mA = mgs (mset m' 31 (upd (oK 31) 20 (0 : Int32))) [32] oL := ⟨_, rfl⟩
    rw [← hmA]
    have A31 : mA 31 = upd (oK 31) 20 (0 : Int32) := by rw [hmA]; rfl
    have pA : PE mA := by rw [hmA]; exact hp.c rfl rfl
    have sA : MS mA (ls g B w f a b) := by rw [hmA]; exact l2
    have eA : ME mA := hme.c2 (by rw [A31, upd_n _ _ (by omega)]; exact k3 12 (by omega) (by omega)) (by rw [A31, upd_n _ _ (by omega)]; exact k3 16 (by omega) (by omega)) (by rw [hmA]; rfl) (by rw [hmA]; rfl) (by rw [hmA]; rfl) (by rw [hmA]; rfl) (by rw [hmA]; rfl) (by rw [hmA]; rfl)
    obtain ⟨oX, x1, x2, x3⟩ := mdistNow_ok pA sA hv2 eA hb
    rw [x1, Option.bind_some]
    refine ⟨_, _, _, rfl, rfl, NX.i hv2 (HV_push hh hv) hc2 (r2.c (HV_push hh hv).1 rfl rfl rfl rfl rfl rfl rfl) l2 (k2.c ?_ ?_ rfl), d2.c rfl rfl, (MW_ME hv2 x2).c2 rfl rfl rfl rfl rfl rfl rfl rfl, 0, by omega, ?_, ?_⟩
    · show oX 31 3 = _; rw [x3.2 3 (by omega) (by omega), A31, upd_n _ _ (by omega)]
    · show oX 31 2 = _; rw [x3.2 2 (by omega) (by omega), A31, upd_n _ _ (by omega)]
    · show upd (m 25) 1 (0 : Int32) 1 = _; rw [upd_s]; rfl
    · show oX 31 20 = _; rw [x3.2 20 (by omega) (by omega), A31, upd_s]; rfl
  by_cases cw : tx 19 = 102
  · rw [if_pos cw, if_pos cw, Option.bind_some, if_neg (show ¬ (1 : Int32) = 0 by decide)]
    exact fin 1 (by omega)
  · rw [if_neg cw, if_neg cw, Option.bind_some, if_pos rfl]
    exact fin 0 (by omega)
theorem undo_op {m m' : Mem} {g : Nat → Nat} {n p : Nat} {hs : Nat → Nat → Nat} (hv : VS g) (hh : HV n p hs) (hc : StC (m 21) g) (hhc : HC m n hs) (hm : MS m' g) (hhm : HM m' n p hs) :
    ∃ a o o', xt_X8_undo m = some (a, o) ∧ xt_X9_undo m' = some (a, o') ∧ NX o o' ∧ (∀ i, 60 ≤ i → o i = m i) ∧ o' 33 = m' 33 ∧ ∀ k, k ≠ 3 → o' 31 k = m' 31 k := by
  unfold xt_X8_undo xt_X9_undo xt_X4_length
  rw [hhm.1, hhm.2.1, hhc.1, Option.bind_some]
  have hn := hh.1
  have e0 : nI n = 0 ↔ n = 0 := nI_eq (b := 0) (by omega) (by omega)
  by_cases c : n = 0
  · rw [if_pos (e0.mpr c), if_pos (e0.mpr c)]
    exact ⟨_, _, _, rfl, rfl, NX.i hv hh hc hhc hm hhm, fun _ _ => rfl, rfl, fun _ _ => rfl⟩
  · rw [if_neg (mt e0.mp c), if_neg (mt e0.mp c)]
    obtain ⟨k, hk⟩ : ∃ k, n = k + 1 := ⟨n - 1, by omega⟩
    subst hk
    obtain ⟨c', o, t1, t2, t3, t4⟩ := takeBack_ok (c := m 21) hhc (by omega)
    rw [t1, Option.bind_some, nI_pred, nI_add, rem6 (by have := hh.2.1; omega)]
    obtain ⟨m2, u1, u2⟩ := undo35 (hM := mset m' 31 (upd (m' 31) 3 (nI k))) (q := (p + k) % 6) (g := hs k) (by omega) (hhm.2.2 k (by omega)) (fun (m_1 : Mem) => (some (nI k, (mgs (mset m' 31 (upd (m' 31) 3 (nI k))) [32] m_1)))) m'
    rw [u2]
    dsimp only
    rw [show mgs m [23] o 23 = o 23 from rfl, t3.1, Option.bind_some]
    have hv2 := hh.2.2 k (by omega)
    refine ⟨nI k, mgs (mset m 21 c') [23] o, mgs (mset m' 31 (upd (m' 31) 3 (nI k))) [32] (mgs (mset m' 31 (upd (m' 31) 3 (nI k))) [32] m2), rfl, rfl, NX.i (n := k) (p := p) hv2 ⟨by omega, hh.2.1, fun i hi => hh.2.2 i (by omega)⟩ t2 ?_ u1 ⟨?_, ?_, fun i hi => hhm.2.2 i (by omega)⟩, fun i hi => ?_, rfl, fun j hj => ?_⟩
    · exact t3.c (by omega) rfl (t4 60 (by omega)).symm (t4 61 (by omega)).symm (t4 62 (by omega)).symm (t4 63 (by omega)).symm (t4 64 (by omega)).symm (t4 65 (by omega)).symm
    · show upd (m' 31) 3 (nI k) 3 = _; rw [upd_s]
    · show upd (m' 31) 3 (nI k) 2 = _; rw [upd_n _ _ (by omega)]; exact hhm.2.1
    · rw [mgs_o _ _ (by simp; omega), mset_n _ _ (by omega)]
    · show upd (m' 31) 3 (nI k) j = _; rw [upd_n _ _ hj]
/-! slots -/
def SLC (m : Mem) (sv : Nat → Bool) (sl : Nat → Nat → Nat) : Prop := ∀ t, t < 2 → m 30 t = bI (sv t) ∧ (sv t = true → StC (m (28 + t)) (sl t))
def SLM (m : Mem) (sv : Nat → Bool) (sl : Nat → Nat → Nat) : Prop := ∀ t, t < 2 → m 35 t = bI (sv t) ∧ (sv t = true → StM (m 34) (8 * t) (sl t))
def SLV (sv : Nat → Bool) (sl : Nat → Nat → Nat) : Prop := ∀ t, t < 2 → sv t = true → VS (sl t)
theorem slot_ix (x : Int32) : (x < 0 ∧ xt_X9_in x 0 1 = some 0) ∨ (¬ x < 0 ∧ ¬ x < 2 ∧ xt_X9_in x 0 1 = some 0) ∨ ∃ t, t < 2 ∧ x = nI t ∧ ¬ x < 0 ∧ x < 2 ∧ xt_X9_in x 0 1 = some 1 := by
  rcases in0 x (hi := 1) (by omega) with ⟨q1, q2⟩ | ⟨q1, q2, q3⟩ | ⟨t, q1, q2, q3⟩
  · exact Or.inl ⟨q1, q2⟩
  · refine Or.inr (Or.inl ⟨q1, fun h => ?_, q3⟩)
    obtain ⟨j, j1, j2⟩ := nI_of q1
    rw [j2] at q2 h
    rw [nI_ltI (by omega) (by omega)] at q2
    rw [lit 2, nI_ltI (by omega) (by omega)] at h
    omega
  · refine Or.inr (Or.inr ⟨t, by omega, q2, ?_, ?_, q3⟩)
    · rw [q2]; exact nIneg (by omega)
    · rw [q2, lit 2, nI_ltI (by omega) (by omega)]; omega
theorem restore_op {m m' : Mem} {g : Nat → Nat} {n p : Nat} {hs sl : Nat → Nat → Nat} {sv : Nat → Bool} (hv : VS g) (hh : HV n p hs) (hc : StC (m 21) g) (hhc : HC m n hs) (hm : MS m' g) (hhm : HM m' n p hs) (hsv : SLV sv sl) (hsc : SLC m sv sl) (hsm : SLM m' sv sl) (x1 : Int32) :
    ∃ a o o', xt_X8_restore x1 m = some (a, o) ∧ xt_X9_restore x1 m' = some (a, o') ∧ NX o o' ∧ ∀ k, k ≠ 2 → k ≠ 3 → o' 31 k = m' 31 k := by
  unfold xt_X8_restore xt_X9_restore
  have same : NX m m' := NX.i hv hh hc hhc hm hhm
  rcases slot_ix x1 with ⟨q1, q2⟩ | ⟨q1, q2, q3⟩ | ⟨t, ht, q2, q3, q4, q5⟩
  · rw [if_pos q1, q2]
    exact ⟨_, _, _, rfl, rfl, same, fun _ _ _ => rfl⟩
  · rw [if_neg q1, if_neg q2, q3]
    exact ⟨_, _, _, rfl, rfl, same, fun _ _ _ => rfl⟩
  rw [if_neg q3, if_pos q4, q5, Option.bind_some, if_neg (show ¬ (1 : Int32) = 0 by decide), q2, xgd_in (xin rfl ht (by decide)), xgd_in (xin rfl ht (by decide)), cl (by omega), (hsc t ht).1, (hsm t ht).1]
  cases es : sv t
  · rw [if_pos (show bI false = 0 by decide), if_pos (show bI false = 0 by decide)]
    exact ⟨_, _, _, rfl, rfl, same, fun _ _ _ => rfl⟩
  rw [if_neg (show ¬ bI true = 0 by decide), if_neg (show ¬ bI true = 0 by decide)]
  obtain ⟨oR, r1, r2, r3⟩ := record_ok hhc hh.1 hc
  obtain ⟨oK, k1, k2, k3, k4⟩ := mkeep_ok hhm hh.1 hh.2.1 hm
  have hv2 := hsv t ht es
  rw [r1, k1, Option.bind_some, Option.bind_some]
  obtain ⟨m2, u1, u2⟩ := rest30 (hM := mgs m' [31, 33] oK) (q := t) (g := sl t) ht ((hsm t ht).2 es) (fun (m_3 : Mem) => (xgd (3 : Int32) 8 (Option.bind (xt_X9_many ((m_3 32) (3 : Int32).toNatClampNeg)) (fun (o_4 : Int32) => (some (o_4, (mgs (mgs m' [31, 33] oK) [32] m_3))))))) m'
  rw [u2]
  have e3 : (mgs (mgs m' [31, 33] oK) [32] m2) 32 3 = nI (sl t 3) := u1 3 (by omega)
  rw [xgd_in (by unfold vp_in; decide), tc3, e3, many_ok hv2.B, Option.bind_some]
  have fin : ∀ T : Nat → Int32, StC T (sl t) → ∃ a o o', (Option.bind (xt_J6_bitCount_0f7a4 (T 1)) (fun (o_4 : Int32) => (some (o_4, (mgs (mset m 21 T) [23, 60, 61, 62, 63, 64, 65] oR))))) = some (a, o) ∧ some (nI (pcB (sl t 3)), (mgs (mgs m' [31, 33] oK) [32] (mgs (mgs m' [31, 33] oK) [32] m2))) = some (a, o') ∧ NX o o' ∧ ∀ k, k ≠ 2 → k ≠ 3 → o' 31 k = m' 31 k := by
    intro T hT
    rw [hT.2.1, bitCount_ok hv2.B, Option.bind_some]
    exact ⟨_, _, _, rfl, rfl, NX.i hv2 (HV_push hh hv) hT (r2.c (HV_push hh hv).1 rfl rfl rfl rfl rfl rfl rfl) u1 (k2.c rfl rfl rfl), fun k a b => k3 k a b⟩
  have ct : t = 0 ∨ t = 1 := by omega
  have hS := (hsc t ht).2 es
  rcases ct with z | z
  · rw [z, if_pos (show nI 0 = 0 by decide)]
    rw [z] at hS fin
    obtain ⟨T, t1, t2, _⟩ := take_ok (m 21) (c' := m 28) hS
    rw [t1, Option.bind_some]
    exact fin T t2
  · rw [z, if_neg (show ¬ nI 1 = 0 by decide), if_pos (show nI 1 = 1 by decide)]
    rw [z] at hS fin
    obtain ⟨T, t1, t2, _⟩ := take_ok (m 21) (c' := m 29) hS
    rw [t1, Option.bind_some]
    exact fin T t2
theorem save_op {m m' : Mem} {g : Nat → Nat} {sl : Nat → Nat → Nat} {sv : Nat → Bool} (hv : VS g) (hc : StC (m 21) g) (hm : MS m' g) (hsv : SLV sv sl) (hsc : SLC m sv sl) (hsm : SLM m' sv sl) (x1 : Int32) :
    ∃ a o o', xt_X8_save x1 m = some (a, o) ∧ xt_X9_save x1 m' = some (a, o') ∧ ∃ sv2 sl2, SLV sv2 sl2 ∧ SLC o sv2 sl2 ∧ SLM o' sv2 sl2 := by
  unfold xt_X8_save xt_X9_save
  rcases slot_ix x1 with ⟨q1, q2⟩ | ⟨q1, q2, q3⟩ | ⟨t, ht, q2, q3, q4, q5⟩
  · rw [if_pos q1, q2]
    exact ⟨_, _, _, rfl, rfl, sv, sl, hsv, hsc, hsm⟩
  · rw [if_neg q1, if_neg q2, q3]
    exact ⟨_, _, _, rfl, rfl, sv, sl, hsv, hsc, hsm⟩
  rw [if_neg q3, if_pos q4, q5, Option.bind_some, if_neg (show ¬ (1 : Int32) = 0 by decide), q2, hc.2.1]
  have nar : vp_nar .boolean (1 : Int32) = 1 := rfl
  obtain ⟨m2, u1, u2⟩ := save14 (hM := m') (q := t) (g := g) ht hm (fun (m_2 : Mem) => (xgd (nI t) 2 (xgd (3 : Int32) 8 (Option.bind (xt_X9_many ((m' 32) (3 : Int32).toNatClampNeg)) (fun (o_3 : Int32) => (some (o_3, (mgs (mset m' 35 (upd (m' 35) (nI t).toNatClampNeg (vp_nar .boolean (1 : Int32)))) [34] m_2)))))))) m'
  rw [u2]
  simp only [xgd_in (show vp_in (nI t) 2 from xin rfl ht (by decide)), xgd_in (show vp_in (3 : Int32) 8 by unfold vp_in; decide), tc3, hm 3 (by omega), many_ok hv.B, Option.bind_some, cl (show t < 2 ^ 31 by omega), nar, bitCount_ok hv.B]
  have fin : ∀ T : Nat → Int32, StC T g → ∃ a o o', some (nI (pcB (g 3)), mset (mset m (28 + t) T) 30 (upd (m 30) t 1)) = some (a, o) ∧ some (nI (pcB (g 3)), mgs (mset m' 35 (upd (m' 35) t 1)) [34] (mgs m' [34] m2)) = some (a, o') ∧ ∃ sv2 sl2, SLV sv2 sl2 ∧ SLC o sv2 sl2 ∧ SLM o' sv2 sl2 := by
    intro T hT
    refine ⟨_, _, _, rfl, rfl, fun i => if i = t then true else sv i, fun i => if i = t then g else sl i, fun i hi h => ?_, fun i hi => ⟨?_, fun h => ?_⟩, fun i hi => ⟨?_, fun h => ?_⟩⟩
    · dsimp only at h ⊢
      by_cases c : i = t
      · rw [if_pos c]; exact hv
      · rw [if_neg c] at h ⊢; exact hsv i hi h
    · dsimp only
      rw [mset_s]
      by_cases c : i = t
      · rw [c, upd_s, if_pos rfl]; rfl
      · rw [upd_n _ _ c, if_neg c]; exact (hsc i hi).1
    · dsimp only at h ⊢
      rw [mset_n _ _ (by omega)]
      by_cases c : i = t
      · rw [c, mset_s, if_pos rfl]; exact hT
      · rw [if_neg c] at h
        rw [mset_n _ _ (by omega), if_neg c]; exact (hsc i hi).2 h
    · show upd (m' 35) t 1 i = bI (if i = t then true else sv i)
      by_cases c : i = t
      · rw [c, upd_s, if_pos rfl]; rfl
      · rw [upd_n _ _ c, if_neg c]; exact (hsm i hi).1
    · show StM (m2 34) (8 * i) (if i = t then g else sl i)
      dsimp only at h
      by_cases c : i = t
      · rw [c, if_pos rfl]; exact u1.1
      · rw [if_neg c] at h
        rw [if_neg c]
        intro k hk
        rw [u1.2 _ (by omega)]
        exact (hsm i hi).2 h k hk
  have ct : t = 0 ∨ t = 1 := by omega
  rcases ct with z | z
  · rw [z, if_pos (show nI 0 = 0 by decide)]
    rw [z] at fin
    obtain ⟨T, t1, t2, _⟩ := take_ok (m 28) hc
    rw [t1, Option.bind_some]
    exact fin T t2
  · rw [z, if_neg (show ¬ nI 1 = 0 by decide), if_pos (show nI 1 = 1 by decide)]
    rw [z] at fin
    obtain ⟨T, t1, t2, _⟩ := take_ok (m 29) hc
    rw [t1, Option.bind_some]
    exact fin T t2
