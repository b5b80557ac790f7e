/-! ===== changes: set, block ===== -/
theorem HC.c {m m' : Mem} {n : Nat} {hs : Nat → Nat → Nat} (h : HC m n hs) (hn : n ≤ 6) (e : m' 23 = m 23) (e0 : m' 60 = m 60) (e1 : m' 61 = m 61) (e2 : m' 62 = m 62) (e3 : m' 63 = m 63) (e4 : m' 64 = m 64) (e5 : m' 65 = m 65) : HC m' n hs := by
  refine ⟨by rw [e]; exact h.1, fun i hi => ?_⟩
  have := h.2 i hi
  have cs : i = 0 ∨ i = 1 ∨ i = 2 ∨ i = 3 ∨ i = 4 ∨ i = 5 := by omega
  rcases cs with z | z | z | z | z | z <;> subst z
  · show StC (m' 60) _; rw [e0]; exact this
  · show StC (m' 61) _; rw [e1]; exact this
  · show StC (m' 62) _; rw [e2]; exact this
  · show StC (m' 63) _; rw [e3]; exact this
  · show StC (m' 64) _; rw [e4]; exact this
  · show StC (m' 65) _; rw [e5]; exact this
theorem HM.c {m m' : Mem} {n p : Nat} {hs : Nat → Nat → Nat} (h : HM m n p hs) (e3 : m' 31 3 = m 31 3) (e2 : m' 31 2 = m 31 2) (e33 : m' 33 = m 33) : HM m' n p hs := by
  unfold HM
  rw [e3, e2, e33]; exact h
/-- what a change leaves -/
def NX (o o' : Mem) : Prop := ∃ g n p hs, (VS g ∧ HV n p hs) ∧ (StC (o 21) g ∧ HC o n hs) ∧ MS o' g ∧ HM o' n p hs
theorem NX.i {o o' : Mem} {g : Nat → Nat} {n p : Nat} {hs : Nat → Nat → Nat} (hv : VS g) (hh : HV n p hs) (h1 : StC (o 21) g) (h2 : HC o n hs) (h3 : MS o' g) (h4 : HM o' n p hs) : NX o o' := ⟨g, n, p, hs, ⟨hv, hh⟩, ⟨h1, h2⟩, h3, h4⟩
def st (g : Nat → Nat) (k v : Nat) : Nat → Nat := fun i => if i = k then v else g i
def chP (a b c k v : Nat) : Bool := ((nI (a + 2 * b + 4 * c) &&& (((1 : Int32) <<< (nI k &&& 31)) ^^^ (-1 : Int32))) ||| (nI v <<< (nI k &&& 31))) == nI ((if 0 = k then v else a) + 2 * (if 1 = k then v else b) + 4 * (if 2 = k then v else c))
theorem ch_chk : bAll 2 (fun a => bAll 2 (fun b => bAll 2 (fun c => bAll 3 (fun k => bAll 2 (fun v => chP a b c k v))))) = true := by decide +kernel
theorem change_ok {c : Nat → Int32} {g : Nat → Nat} (hc : StC c g) (hv : VS g) {k v : Nat} (hk : k < 3) (hv2 : v < 2) : ∃ t, xt_X6_change (nI k) (nI v) c = some t ∧ StC t (st g k v) := by
  unfold xt_X6_change
  have e := bAll_e (bAll_e (bAll_e (bAll_e (bAll_e ch_chk hv.1.1) hv.1.2.1) hv.1.2.2) hk) hv2
  unfold chP at e
  rw [beq_iff_eq] at e
  have h3 : ∀ i, 3 ≤ i → st g k v i = g i := fun i hi => if_neg (by omega)
  refine ⟨_, rfl, ?_, ?_, ?_, ?_, ?_, ?_⟩
  · rw [upd_s, hc.1]; exact e
  · rw [upd_n _ _ (by omega), h3 3 (by omega)]; exact hc.2.1
  · rw [upd_n _ _ (by omega), h3 4 (by omega)]; exact hc.2.2.1
  · rw [upd_n _ _ (by omega), h3 5 (by omega)]; exact hc.2.2.2.1
  · rw [upd_n _ _ (by omega), h3 6 (by omega)]; exact hc.2.2.2.2.1
  · rw [upd_n _ _ (by omega), h3 7 (by omega)]; exact hc.2.2.2.2.2
theorem st_VS {g : Nat → Nat} (hv : VS g) {k v : Nat} (hk : k < 3) (hv2 : v < 2) : VS (st g k v) := by
  have h3 : ∀ i, 3 ≤ i → st g k v i = g i := fun i hi => if_neg (by omega)
  obtain ⟨v0, v1, v2, v3, v4, v5, v6⟩ := hv
  have b : ∀ i, g i < 2 → st g k v i < 2 := fun i hi => by
    unfold st
    by_cases c : i = k
    · rw [if_pos c]; exact hv2
    · rw [if_neg c]; exact hi
  have b0 := b 0 v0.1
  have b1 := b 1 v0.2.1
  have b2 := b 2 v0.2.2
  unfold VS
  rw [h3 3 (by omega), h3 4 (by omega), h3 5 (by omega), h3 6 (by omega), h3 7 (by omega)]
  exact ⟨⟨b0, b1, b2⟩, ⟨by unfold sOf; omega, v1.2.1, v1.2.2⟩, v2, v3, v4, v5, v6⟩
theorem set_op {m m' : Mem} {g : Nat → Nat} {n p : Nat} {hs : Nat → Nat → Nat} (hv : VS g) (hh : HV n p hs) (hc : StC (m 21) g) (hhc : HC m n hs) (hm : MS m' g) (hhm : HM m' n p hs) (x1 x2 : Int32) :
    ∃ a o o', xt_X8_set x1 x2 m = some (a, o) ∧ xt_X9_set x1 x2 m' = some (a, o') ∧ NX o o' ∧ ∀ k, k ≠ 2 → k ≠ 3 → o' 31 k = m' 31 k := by
  unfold xt_X8_set xt_X9_set
  have same : NX m m' := NX.i hv hh hc hhc hm hhm
  rcases in0 x1 (hi := 2) (by omega) with ⟨q1, q2⟩ | ⟨q1, q2, q3⟩ | ⟨k, q1, q2, q3⟩
  · have q2' : xt_X9_in x1 (0 : Int32) (2 : Int32) = some 0 := q2
    rw [if_pos q1, q2']
    exact ⟨_, _, _, rfl, rfl, same, fun _ _ _ => rfl⟩
  · have q3' : xt_X9_in x1 (0 : Int32) (2 : Int32) = some 0 := q3
    rw [if_neg q1, if_pos (show (2 : Int32) < x1 from q2), q3']
    exact ⟨_, _, _, rfl, rfl, same, fun _ _ _ => rfl⟩
  have q3' : xt_X9_in x1 (0 : Int32) (2 : Int32) = some 1 := q3
  rw [if_neg (show ¬ x1 < 0 by rw [q2]; exact nIneg (by omega)), if_neg (show ¬ (2 : Int32) < x1 by rw [q2, lit 2, nI_ltI (by omega) (by omega)]; omega), q3', Option.bind_some, if_neg (show ¬ (1 : Int32) = 0 by decide)]
  rcases in0 x2 (hi := 1) (by omega) with ⟨r1, r2⟩ | ⟨r1, r2, r3⟩ | ⟨v, r1, r2, r3⟩
  · have r2' : xt_X9_in x2 (0 : Int32) (1 : Int32) = some 0 := r2
    rw [if_pos r1, r2']
    exact ⟨_, _, _, rfl, rfl, same, fun _ _ _ => rfl⟩
  · have r3' : xt_X9_in x2 (0 : Int32) (1 : Int32) = some 0 := r3
    have nle : ¬ x2 ≤ (1 : Int32) := fun h => by
      obtain ⟨j, j1, j2⟩ := nI_of r1
      rw [j2] at r2 h
      rw [nI_ltI (by omega) (by omega)] at r2
      rw [lit 1, nI_leI (by omega) (by omega)] at h
      omega
    rw [if_neg r1, if_neg nle, r3']
    exact ⟨_, _, _, rfl, rfl, same, fun _ _ _ => rfl⟩
  have r3' : xt_X9_in x2 (0 : Int32) (1 : Int32) = some 1 := r3
  rw [if_neg (show ¬ x2 < 0 by rw [r2]; exact nIneg (by omega)), if_pos (show x2 ≤ (1 : Int32) by rw [r2, lit 1, ble _ _ (by omega) (by omega)]; omega), r3', Option.bind_some, if_neg (show ¬ (1 : Int32) = 0 by decide)]
  have hk : k < 3 := by omega
  have hv2 : v < 2 := by omega
  rw [q2, r2]
  obtain ⟨o1, a1, a2, a3⟩ := record_ok hhc hh.1 hc
  obtain ⟨t, t1, t2⟩ := change_ok hc hv hk hv2
  obtain ⟨o2, b1, b2, b3, b4⟩ := mkeep_ok hhm hh.1 hh.2.1 hm
  rw [a1, Option.bind_some, setting_ok hc hv hk, Option.bind_some, t1, Option.bind_some, b1, Option.bind_some, xgd_in (xin rfl (show k < 8 by omega) (by decide)), xgd_in (xin rfl (show k < 8 by omega) (by decide)), cl (by omega), hm k (by omega)]
  have ans : bI ((sOf g).testBit k) = nI (g k) := by
    have sb := sOf_bits hv.1
    have : k = 0 ∨ k = 1 ∨ k = 2 := by omega
    rcases this with e | e | e <;> subst e
    · rw [sb.1, ← bnat hv.1.1]
    · rw [sb.2.1, ← bnat hv.1.2.1]
    · rw [sb.2.2, ← bnat hv.1.2.2]
  rw [ans]
  refine ⟨nI (g k), _, _, rfl, rfl, NX.i (st_VS hv hk hv2) (HV_push hh hv) t2 (a2.c (HV_push hh hv).1 rfl rfl rfl rfl rfl rfl rfl) ?_ (b2.c rfl rfl rfl), fun j j2 j3 => b3 j j2 j3⟩
  intro i hi
  show upd (m' 32) k (nI v) i = nI (st g k v i)
  unfold st
  by_cases c : i = k
  · rw [c, upd_s, if_pos rfl]
  · rw [upd_n _ _ c, if_neg c]; exact hm i hi
/-! block -/
theorem xb_bit {B j i : Nat} : (B ^^^ 2 ^ j).testBit i = (B.testBit i ^^ decide (i = j)) := by
  rw [Nat.testBit_xor, Nat.testBit_two_pow]
  by_cases c : j = i
  · subst c; simp
  · simp [c, show ¬ i = j from fun z => c z.symm]
theorem pcS_x (B j : Nat) : ∀ k, pcS (B ^^^ 2 ^ j) k + (if j < k ∧ B.testBit j = true then 1 else 0) = pcS B k + (if j < k ∧ B.testBit j = false then 1 else 0)
  | 0 => by simp [pcS]
  | k + 1 => by
    have h := pcS_x B j k
    show pcS (B ^^^ 2 ^ j) k + (if (B ^^^ 2 ^ j).testBit k then 1 else 0) + _ = pcS B k + (if B.testBit k then 1 else 0) + _
    rw [xb_bit]
    by_cases c : k = j
    · subst c
      have n0 : ¬ k < k := by omega
      cases e : B.testBit k <;> rw [e] at h <;> simp at h ⊢ <;> omega
    · by_cases l : j < k
      · cases e : B.testBit j <;> rw [e] at h <;> cases e2 : B.testBit k <;> simp [c, l, show j < k + 1 by omega] at h ⊢ <;> omega
      · cases e2 : B.testBit k <;> simp [c, l, show ¬ j < k + 1 by omega] at h ⊢ <;> omega
theorem pcB_x {B j : Nat} (hj : j < 16) : pcB (B ^^^ 2 ^ j) + (if B.testBit j = true then 1 else 0) = pcB B + (if B.testBit j = false then 1 else 0) := by
  have := pcS_x B j 16
  rw [pcS_16, pcS_16] at this
  simpa [hj] using this
def bl (g : Nat → Nat) (j : Nat) : Nat → Nat := fun i => if i = 3 then g 3 ^^^ 2 ^ j else g i
theorem bl_VS {g : Nat → Nat} (hv : VS g) {j : Nat} (hj : j < 16) (h5 : j ≠ g 5) (h6 : j ≠ g 6) (h7 : j ≠ g 7) (hp : pcB (g 3 ^^^ 2 ^ j) ≤ 6) : VS (bl g j) := by
  have b : ∀ f, j ≠ f → bfr (g 3 ^^^ 2 ^ j) f = bfr (g 3) f := fun f hf => by
    unfold bfr
    rw [xb_bit, decide_eq_false (fun z => hf z.symm)]; simp
  obtain ⟨v0, v1, v2, v3, v4, v5, v6⟩ := hv
  refine ⟨v0, ⟨v1.1, ?_, hp⟩, v2, v3, v4, ⟨?_, ?_, ?_⟩, v6⟩
  · show g 3 ^^^ 2 ^ j < 2 ^ 16
    exact Nat.xor_lt_two_pow v1.2.1 (Nat.pow_lt_pow_right (by omega) hj)
  · exact (b _ h5).trans v5.1
  · exact (b _ h6).trans v5.2.1
  · exact (b _ h7).trans v5.2.2
theorem taken_ok {c : Nat → Int32} {g : Nat → Nat} (hc : StC c g) (hv : VS g) : ∃ x, xt_X6_taken c = some x ∧ msk x (fun i => (decide (i = g 6) || decide (i = g 7)) || decide (i = g 5)) := by
  unfold xt_X6_taken
  obtain ⟨x, x1, x2⟩ := hunters_ok hc hv
  rw [x1, Option.bind_some, hc.2.2.2.1]
  exact ⟨_, rfl, x2.or (msk_1 hv.f)⟩
theorem block_op {m m' : Mem} {g : Nat → Nat} {n p : Nat} {hs : Nat → Nat → Nat} (hv : VS g) (hh : HV n p hs) (hc : StC (m 21) g) (hhc : HC m n hs) (hm : MS m' g) (hhm : HM m' n p hs) (x1 : Int32) :
    ∃ a o o', xt_X8_block x1 m = some (a, o) ∧ xt_X9_block x1 m' = some (a, o') ∧ NX o o' ∧ ∀ k, k ≠ 2 → k ≠ 3 → o' 31 k = m' 31 k := by
  unfold xt_X8_block xt_X9_block
  have same : NX m m' := NX.i hv hh hc hhc hm hhm
  have hB := hv.B
  have hf := hv.f
  have hl := hv.l
  have hhi := hv.h
  rcases places_ok x1 with ⟨p1, p2⟩ | ⟨j, hj, e1, p1, p2⟩
  · rw [p1, p2]
    exact ⟨_, _, _, rfl, rfl, same, fun _ _ _ => rfl⟩
  rw [p1, p2, Option.bind_some, Option.bind_some, if_neg (show ¬ (1 : Int32) = 0 by decide), if_neg (show ¬ (1 : Int32) = 0 by decide), e1]
  have v3 : vp_in (3 : Int32) 8 := by unfold vp_in; decide
  have v5 : vp_in (5 : Int32) 8 := by unfold vp_in; decide
  have v6 : vp_in (6 : Int32) 8 := by unfold vp_in; decide
  have v7 : vp_in (7 : Int32) 8 := by unfold vp_in; decide
  simp only [xgd_in v3, xgd_in v5, xgd_in v6, xgd_in v7, tc3, tc5, tc6, tc7]
  rw [hc.2.1, hm 3 (by omega), hm 5 (by omega), hm 6 (by omega), hm 7 (by omega), isFree_ok hm.MA hB hj, Option.bind_some, bitCount_ok hB, many_ok hB]
  obtain ⟨tk, k1, k2⟩ := taken_ok hc hv
  rw [k1]
  have hB2 : g 3 ^^^ 2 ^ j < 65536 := Nat.xor_lt_two_pow (n := 16) hB (Nat.pow_lt_pow_right (by omega) hj)
  have ex : nI (g 3) ^^^ ((1 : Int32) <<< (nI j &&& 31)) = nI (g 3 ^^^ 2 ^ j) := by rw [sh1 hj, nxor]
  rw [ex]
  simp only [upd_s]
  obtain ⟨o1, a1, a2, a3⟩ := record_ok hhc hh.1 hc
  obtain ⟨o2, b1, b2, b3, b4⟩ := mkeep_ok hhm hh.1 hh.2.1 hm
  have n5 : nI j = nI (g 5) ↔ j = g 5 := nI_eq (by omega) (by omega)
  have n6 : nI j = nI (g 6) ↔ j = g 6 := nI_eq (by omega) (by omega)
  have n7 : nI j = nI (g 7) ↔ j = g 7 := nI_eq (by omega) (by omega)
  have hpx := pcB_x (B := g 3) hj
  have hp6 := hv.2.1.2.2
  have zt : tk &&& ((1 : Int32) <<< (nI j &&& 31)) = 0 ↔ ¬ (j = g 5 ∨ j = g 6 ∨ j = g 7) := by
    rw [(k2.and (msk_1 hj)).z]
    constructor
    · intro h
      have := h j hj
      simp at this
      omega
    · intro h i hi
      by_cases c : i = j
      · subst c
        have a5 : ¬ i = g 5 := fun z => h (Or.inl z)
        have a6 : ¬ i = g 6 := fun z => h (Or.inr (Or.inl z))
        have a7 : ¬ i = g 7 := fun z => h (Or.inr (Or.inr z))
        simp [a5, a6, a7]
      · simp [c]
  -- what both do when the block is made
  have fin : pcB (g 3 ^^^ 2 ^ j) ≤ 6 → ∃ a o o',
      (if tk &&& ((1 : Int32) <<< (nI j &&& 31)) = 0 then (Option.bind (xt_X4_record (m 21) m) (fun (o_3 : Mem) => (Option.bind (xt_J6_bitCount_0f7a4 (nI (g 3 ^^^ 2 ^ j))) (fun (o_5 : Int32) => (some (o_5, (mgs (mset m 21 (upd (m 21) 1 (nI (g 3 ^^^ 2 ^ j)))) [23, 60, 61, 62, 63, 64, 65] o_3))))))) else (some ((-5 : Int32), m))) = some (a, o) ∧
      (if nI j = nI (g 5) then some ((-5 : Int32), m') else if nI j = nI (g 6) then some ((-5 : Int32), m') else if nI j = nI (g 7) then some ((-5 : Int32), m') else Option.bind (xt_X9_keep m') (fun (o_3 : Mem) => Option.bind (xt_X9_many (nI (g 3 ^^^ 2 ^ j))) (fun (o_4 : Int32) => some (o_4, (mgs (mset m' 32 (upd (m' 32) 3 (nI (g 3 ^^^ 2 ^ j)))) [31, 33] o_3))))) = some (a, o') ∧ NX o o' ∧ ∀ k, k ≠ 2 → k ≠ 3 → o' 31 k = m' 31 k := by
    intro hp
    rw [a1, b1, bitCount_ok hB2, many_ok hB2]
    by_cases c5 : j = g 5
    · rw [if_pos (n5.mpr c5), if_neg (fun z => zt.mp z (Or.inl c5))]
      exact ⟨_, _, _, rfl, rfl, same, fun _ _ _ => rfl⟩
    rw [if_neg (mt n5.mp c5)]
    by_cases c6 : j = g 6
    · rw [if_pos (n6.mpr c6), if_neg (fun z => zt.mp z (Or.inr (Or.inl c6)))]
      exact ⟨_, _, _, rfl, rfl, same, fun _ _ _ => rfl⟩
    rw [if_neg (mt n6.mp c6)]
    by_cases c7 : j = g 7
    · rw [if_pos (n7.mpr c7), if_neg (fun z => zt.mp z (Or.inr (Or.inr c7)))]
      exact ⟨_, _, _, rfl, rfl, same, fun _ _ _ => rfl⟩
    rw [if_neg (mt n7.mp c7), if_pos (zt.mpr (fun z => by omega))]
    refine ⟨_, _, _, rfl, rfl, NX.i (bl_VS hv hj c5 c6 c7 hp) (HV_push hh hv) ?_ (a2.c (HV_push hh hv).1 rfl rfl rfl rfl rfl rfl rfl) ?_ (b2.c rfl rfl rfl), fun k k2 k3 => b3 k k2 k3⟩
    · refine ⟨?_, ?_, ?_, ?_, ?_, ?_⟩
      · show upd (m 21) 1 (nI (g 3 ^^^ 2 ^ j)) 0 = _; rw [upd_n _ _ (by omega)]; exact hc.1
      · show upd (m 21) 1 (nI (g 3 ^^^ 2 ^ j)) 1 = _; rw [upd_s]; rfl
      · show upd (m 21) 1 (nI (g 3 ^^^ 2 ^ j)) 2 = _; rw [upd_n _ _ (by omega)]; exact hc.2.2.1
      · show upd (m 21) 1 (nI (g 3 ^^^ 2 ^ j)) 3 = _; rw [upd_n _ _ (by omega)]; exact hc.2.2.2.1
      · show upd (m 21) 1 (nI (g 3 ^^^ 2 ^ j)) 4 = _; rw [upd_n _ _ (by omega)]; exact hc.2.2.2.2.1
      · show upd (m 21) 1 (nI (g 3 ^^^ 2 ^ j)) 5 = _; rw [upd_n _ _ (by omega)]; exact hc.2.2.2.2.2
    · intro i hi
      show upd (m' 32) 3 (nI (g 3 ^^^ 2 ^ j)) i = nI (bl g j i)
      unfold bl
      by_cases c : i = 3
      · rw [c, upd_s, if_pos rfl]
      · rw [upd_n _ _ c, if_neg c]; exact hm i hi
  have zb : nI (g 3) &&& ((1 : Int32) <<< (nI j &&& 31)) = 0 ↔ (g 3).testBit j = false := by
    rw [((msk_nI hB).and (msk_1 hj)).z]
    constructor
    · intro h
      have := h j hj
      simpa using this
    · intro h i hi
      by_cases c : i = j
      · subst c; simp [h]
      · simp [c]
  cases eb : (g 3).testBit j
  · have ef : bfr (g 3) j = true := by unfold bfr; rw [eb]; rfl
    rw [if_pos (zb.mpr eb), ef, if_neg (show ¬ bI true = 0 by decide), Option.bind_some, Option.bind_some, Option.bind_some]
    have e6 : nI (pcB (g 3)) = 6 ↔ pcB (g 3) = 6 := nI_eq (b := 6) (by omega) (by omega)
    have l6 : nI (pcB (g 3)) < 6 ↔ pcB (g 3) < 6 := nI_ltI (b := 6) (by omega) (by omega)
    by_cases c : pcB (g 3) = 6
    · rw [if_neg (fun z => by have := l6.mp z; omega), if_pos (e6.mpr c)]
      exact ⟨_, _, _, rfl, rfl, same, fun _ _ _ => rfl⟩
    · rw [if_pos (l6.mpr (by omega)), if_neg (mt e6.mp c)]
      exact fin (by rw [eb] at hpx; simp at hpx; omega)
  · have ef : bfr (g 3) j = false := by unfold bfr; rw [eb]; rfl
    rw [if_neg (fun z => by rw [zb.mp z] at eb; cases eb), ef, if_pos (show bI false = 0 by decide), Option.bind_some]
    exact fin (by rw [eb] at hpx; simp at hpx; omega)
