/-! ===== put, wipe, fault; what the other calls share ===== -/
theorem put_op {m m' : Mem} {L : Nat} {tx : Nat → Int32} (hL : L ≤ 24) (hpc : PC m L tx) (hpm : PM m' L tx) (x : Int64) :
    ∃ a o o', xt_X8_put x m = some (a, o) ∧ xt_X9_put x m' = some (a, o') ∧ ∃ L2 tx2, L2 ≤ 24 ∧ PC o L2 tx2 ∧ PM o' L2 tx2 ∧ ∀ k, k ≠ 20 → o' 31 k = m' 31 k := by
  unfold xt_X8_put xt_X9_put
  have out : ∀ y : Int32, ∃ a o o', some (y, m) = some (a, o) ∧ some (y, m') = some (a, o') ∧ ∃ L2 tx2, L2 ≤ 24 ∧ PC o L2 tx2 ∧ PM o' L2 tx2 ∧ ∀ k, k ≠ 20 → o' 31 k = m' 31 k := fun y => ⟨_, _, _, rfl, rfl, L, tx, hL, hpc, hpm, fun _ _ => rfl⟩
  obtain ⟨K, hK⟩ : ∃ K : Int32 → Int64 → Option (Int32 × Mem), K = (fun (v3_2 : Int32) (v4_3 : Int64) => (if v3_2 = 0 then (some ((-2 : Int32), m')) else (if (lg_cmp v4_3 (0 : Int64)) = 0 then (if (((m' 31) 20) + v3_2) ≤ (24 : Int32) then (xt_X9_put_l86 x v3_2 m' (fun (m_4 : Mem) => (some ((((m' 31) 20) + v3_2), (mgs (mset m' 31 (upd (m' 31) 20 (((m' 31) 20) + v3_2))) [45] m_4)))) 10000 (0 : Int32) m') else (some ((-4 : Int32), m'))) else (some ((-2 : Int32), m'))))) := ⟨_, rfl⟩
  rw [← hK]
  have cnt := cnt_j x m' K 10000 0 x (by omega) (by omega) x.toBitVec.isLt
  have two : ¬ (1 : Int32) ≤ -2 := by decide
  rcases cnt with ⟨c, k1, k2, k3, k4⟩ | ⟨k1, k2⟩
  · have k3' : xt_X5_countIn x = some (nI c) := k3
    have k4' : xt_X9_put_l5 x m' K 10000 (0 : Int32) x = K (nI c) 0 := k4
    rw [k3', k4', Option.bind_some, hK]
    dsimp only
    by_cases c0 : c = 0
    · rw [c0, if_neg (show ¬ (1 : Int32) ≤ nI 0 by decide), if_pos (show nI 0 = 0 by decide)]
      exact out _
    rw [if_pos (show (1 : Int32) ≤ nI c by rw [lit 1, ble _ _ (by omega) (by omega)]; omega), if_neg (show ¬ nI c = 0 by rw [lit 0, nI_eq (by omega) (by omega)]; omega), if_pos ((lgz 0).mpr rfl)]
    unfold xt_X5_length
    rw [Option.bind_some, hpc.1, hpm.1, nI_add]
    have e24 : nI (L + c) ≤ 24 ↔ L + c ≤ 24 := ble _ 24 (by omega) (by omega)
    by_cases c24 : L + c ≤ 24
    · rw [if_pos (e24.mpr c24), if_pos (e24.mpr c24)]
      obtain ⟨o, a1, a2, a3⟩ := append_ok x hpc c24 k2 (by omega)
      obtain ⟨s, b1, b2⟩ := put86 x hpm c24 k2 (by omega) (fun (m_4 : Mem) => (some (nI (L + c), (mgs (mset m' 31 (upd (m' 31) 20 (nI (L + c)))) [45] m_4))))
      rw [a1, Option.bind_some, b2, Option.bind_some]
      rw [show mgs m [25] o 25 = o 25 from rfl, a2.1]
      refine ⟨_, _, _, rfl, rfl, L + c, tput L c tx x, c24, ⟨a2.1, a2.2⟩, ⟨?_, b1⟩, fun k hk => ?_⟩
      · show upd (m' 31) 20 (nI (L + c)) 20 = _; rw [upd_s]
      · show upd (m' 31) 20 (nI (L + c)) k = _; rw [upd_n _ _ hk]
    · rw [if_neg (mt e24.mp c24), if_neg (mt e24.mp c24)]
      exact out _
  · have k1' : xt_X5_countIn x = some (-2) := k1
    rw [k1', Option.bind_some, if_neg two]
    rcases k2 with k2 | ⟨c, r', q1, q2⟩
    · have k2' : xt_X9_put_l5 x m' K 10000 (0 : Int32) x = _ := k2
      rw [k2']
      exact out _
    · have q2' : xt_X9_put_l5 x m' K 10000 (0 : Int32) x = _ := q2
      rw [q2', hK]
      dsimp only
      by_cases c0 : nI c = 0
      · rw [if_pos c0]; exact out _
      · rw [if_neg c0, if_neg (mt (lgz r').mp q1)]; exact out _
theorem wipe_op {m m' : Mem} {L : Nat} {tx : Nat → Int32} (hpc : PC m L tx) (hpm : PM m' L tx) :
    ∃ a o o', xt_X8_wipe m = some (a, o) ∧ xt_X9_wipe m' = some (a, o') ∧ o 25 1 = nI 0 ∧ o' 31 20 = nI 0 ∧ ∀ k, k ≠ 20 → o' 31 k = m' 31 k := by
  unfold xt_X8_wipe xt_X9_wipe xt_X5_length xt_X5_empty
  rw [Option.bind_some, Option.bind_some, hpc.1, hpm.1]
  refine ⟨_, _, _, rfl, rfl, ?_, ?_, fun k hk => ?_⟩
  · show upd (m 25) 1 (0 : Int32) 1 = _; rw [upd_s]; rfl
  · show upd (m' 31) 20 (0 : Int32) 20 = _; rw [upd_s]; rfl
  · show upd (m' 31) 20 (0 : Int32) k = _; rw [upd_n _ _ hk]
theorem fault_op {m m' : Mem} {L : Nat} {tx : Nat → Int32} (hL : L ≤ 24) (hpc : PC m L tx) (hpm : PM m' L tx) :
    ∃ a, xt_X8_fault m = some a ∧ xt_X9_fault m' = some a := by
  unfold xt_X8_fault
  obtain ⟨e, e1, e2, _⟩ := fault_ok hL hpc hpm
  rw [e1, e2, Option.bind_some]
  exact ⟨e, rfl, rfl⟩
/-! positions, now and set up -/
theorem pos_now {g : Nat → Nat} (hv : VS g) (hh : hitS g = false) : isPos (g 3) (numG g) = true := by
  obtain ⟨p1, p2, p3⟩ := prG hv
  unfold hitS at hh
  rw [Bool.or_eq_false_iff, decide_eq_false_iff_not, decide_eq_false_iff_not] at hh
  have hb := hv.2.2.2.2.2.1
  have h5 := hv.f
  have h4 := hv.2.2.1
  have em : numG g % 128 = prN (g 6) (g 7) := by unfold numG; omega
  have ed : numG g / 128 % 16 = g 5 := by unfold numG; omega
  have hl := (numG_lt hv).1
  unfold isPos
  rw [em, ed, p2, p3, hb.1, hb.2.1, hb.2.2]
  simp [hl, p1, hh.1, hh.2]
theorem okP_pos {g : Nat → Nat} {w f a b : Nat} (h : okP g w f a b) : 2048 * w + 128 * f + prN a b < 4096 ∧ (2048 * w + 128 * f + prN a b) % 128 < 120 ∧ isPos (g 3) (2048 * w + 128 * f + prN a b) = true := by
  obtain ⟨hw, ⟨hf, ha, hb⟩, ⟨h1, h2, h3⟩, k1, k2, k3⟩ := h
  obtain ⟨p1, p2, p3⟩ := pr_lohi ha hb h3
  have em : (2048 * w + 128 * f + prN a b) % 128 = prN a b := by omega
  have ed : (2048 * w + 128 * f + prN a b) / 128 % 16 = f := by omega
  have lt : 2048 * w + 128 * f + prN a b < 4096 := by omega
  refine ⟨lt, by omega, ?_⟩
  unfold isPos
  rw [em, ed, p2, p3, k1]
  rcases Nat.le_total a b with z | z
  · rw [Nat.min_eq_left z, Nat.max_eq_right z, k2, k3]
    simp [lt, p1, h1, h2]
  · rw [Nat.min_eq_right z, Nat.max_eq_left z, k2, k3]
    simp [lt, p1, h1, h2]
theorem chit_ok {c : Nat → Int32} {g : Nat → Nat} (hc : StC c g) (hv : VS g) : xt_X6_hunterOnFox c = some (bI (hitS g)) := by
  unfold xt_X6_hunterOnFox
  have hl := hv.l
  have hh := hv.h
  have hf := hv.f
  rw [hc.2.2.2.1, hc.2.2.2.2.1, hc.2.2.2.2.2]
  have e6 : nI (g 5) = nI (g 6) ↔ g 5 = g 6 := nI_eq (by omega) (by omega)
  have e7 : nI (g 5) = nI (g 7) ↔ g 5 = g 7 := nI_eq (by omega) (by omega)
  unfold hitS
  by_cases c6 : g 5 = g 6
  · rw [if_pos (e6.mpr c6), decide_eq_true c6]; rfl
  · rw [if_neg (mt e6.mp c6), decide_eq_false c6]
    by_cases c7 : g 5 = g 7
    · rw [if_pos (e7.mpr c7), decide_eq_true c7]; rfl
    · rw [if_neg (mt e7.mp c7), decide_eq_false c7]; rfl
theorem setv {g : Nat → Nat} (hv : VS g) {k : Nat} (hk : k < 3) : bI ((sOf g).testBit k) = nI (g k) := by
  have sb := sOf_bits hv.1
  have : k = 0 ∨ k = 1 ∨ k = 2 := by omega
  rcases this with e | e | e <;> subst e
  · rw [sb.1, ← bnat hv.1.1]
  · rw [sb.2.1, ← bnat hv.1.2.1]
  · rw [sb.2.2, ← bnat hv.1.2.2]
theorem folded_ok {m : Mem} {g : Nat → Nat} (hg : GE m) (hc : StC (m 21) g) (hv : VS g) (hfe : FE m) {n : Nat} (hn : n < 4096) (hp : n % 128 < 120) : ∃ o, xt_X8_foldedNumber (nI n) m = some (nI (lowA (g 3) n), o) ∧ FE o := by
  unfold xt_X8_foldedNumber
  rw [hc.2.1]
  obtain ⟨o, o1, o2, o3, o4⟩ := foldPrep_ok hg hfe hv.B
  rw [o1, Option.bind_some, lowestAlike_ok (m := mgs m [13, 14] o) (hg.mgs (ngr (by decide))) (o3.c rfl rfl) hn hp, Option.bind_some]
  exact ⟨_, rfl, o2.c rfl rfl⟩
/-- the reference's row 31 but for its cache's fields and the best move -/
def R31 (o m : Mem) : Prop := ∀ k, k ≠ 12 → k ≠ 16 → k ≠ 17 → k ≠ 18 → o 31 k = m 31 k
theorem R31.r (m : Mem) : R31 m m := fun _ _ _ _ _ => rfl
theorem Fr.R {m o : Mem} (h : Fr m o) : R31 o m := fun k a b _ _ => h.2 k a b
theorem distance_op {m m' : Mem} {g : Nat → Nat} (hb : ∀ s B, VC s B → Bd s B) (hg : GE m) (hp : PE m') (hv : VS g) (hc : StC (m 21) g) (hm : MS m' g) (hce : CE m) (hme : ME m') (x1 x2 x3 x4 : Int32) :
    ∃ a o o', xt_X8_distance x1 x2 x3 x4 m = some (a, o) ∧ xt_X9_distance x1 x2 x3 x4 m' = some (a, o') ∧ CE o ∧ ME o' ∧ R31 o' m' := by
  unfold xt_X8_distance xt_X9_distance
  obtain ⟨e, e1, e2, e3⟩ := err_ok hc hm hv x1 x2 x3 x4
  rw [e1, e2, Option.bind_some, Option.bind_some]
  rcases e3 with ⟨z1, z2⟩ | ⟨z, w, f, a, b, rfl, rfl, rfl, rfl, ok⟩
  · rw [if_neg z1, if_neg z2]
    exact ⟨_, _, _, rfl, rfl, hce, hme, R31.r _⟩
  rw [z, if_pos rfl, if_pos (show (0 : Int32) ≤ 0 by decide)]
  obtain ⟨q1, q2, q3⟩ := okP_pos ok
  obtain ⟨k1, ⟨k2, k3, k4⟩, ⟨k5, k6, k7⟩, _⟩ := ok
  obtain ⟨o, o1, o2, o3, o4⟩ := prepare_ok hg hce hc hv hb
  obtain ⟨w1, h1, h2, h3, h4⟩ := mwork_ok hp hm.MA hv hme hb
  rw [o1, Option.bind_some, numberOf_ok hg _ _ k3 k4 k7, Option.bind_some, at_ok (m := mgs m [9, 10] o) (s := sOf g) (B := g 3) (fun n hn => o3 n hn) q1, Option.bind_some, h1, Option.bind_some, mnumberOf_ok _ _ k3 k4 k7, Option.bind_some, xgd_in (xin rfl q1 (by decide)), cl (by omega), h2.D _ q1]
  exact ⟨_, _, _, rfl, rfl, o2.c rfl rfl, (MW_ME hv h2).w, fun k a b _ _ => h3 k a b⟩
theorem number_op {m m' : Mem} {g : Nat → Nat} (hg : GE m) (hv : VS g) (hc : StC (m 21) g) (hm : MS m' g) (x1 x2 x3 x4 : Int32) :
    ∃ a, xt_X8_number x1 x2 x3 x4 m = some a ∧ xt_X9_number x1 x2 x3 x4 m' = some a := by
  unfold xt_X8_number xt_X9_number
  obtain ⟨e, e1, e2, e3⟩ := err_ok hc hm hv x1 x2 x3 x4
  rw [e1, e2, Option.bind_some, Option.bind_some]
  rcases e3 with ⟨z1, z2⟩ | ⟨z, w, f, a, b, rfl, rfl, rfl, rfl, ok⟩
  · rw [if_neg z1, if_neg z2]
    exact ⟨_, rfl, rfl⟩
  rw [z, if_pos rfl, if_pos (show (0 : Int32) ≤ 0 by decide)]
  obtain ⟨k1, ⟨k2, k3, k4⟩, ⟨k5, k6, k7⟩, _⟩ := ok
  rw [numberOf_ok hg _ _ k3 k4 k7, mnumberOf_ok _ _ k3 k4 k7, Option.bind_some]
  exact ⟨_, rfl, rfl⟩
theorem MW.S {g : Nat → Nat} {m : Mem} (h : MW g m) {n : Nat} (hn : n < 4096) (hq : isPos (g 3) n = true) : m 39 n = nI (lowA (g 3) n) ∧ m 40 n = nI (dct (g 3) n (Wl (g 3) 8).length) := (h.2.2.1.2 n hn).1 hq
theorem folded_op {m m' : Mem} {g : Nat → Nat} (hb : ∀ s B, VC s B → Bd s B) (hg : GE m) (hp : PE m') (hv : VS g) (hc : StC (m 21) g) (hm : MS m' g) (hfe : FE m) (hme : ME m') (x1 x2 x3 x4 : Int32) :
    ∃ a o o', xt_X8_folded x1 x2 x3 x4 m = some (a, o) ∧ xt_X9_folded x1 x2 x3 x4 m' = some (a, o') ∧ FE o ∧ ME o' ∧ R31 o' m' := by
  unfold xt_X8_folded xt_X9_folded
  obtain ⟨e, e1, e2, e3⟩ := err_ok hc hm hv x1 x2 x3 x4
  rw [e1, e2, Option.bind_some, Option.bind_some]
  rcases e3 with ⟨z1, z2⟩ | ⟨z, w, f, a, b, rfl, rfl, rfl, rfl, ok⟩
  · rw [if_neg z1, if_neg z2]
    exact ⟨_, _, _, rfl, rfl, hfe, hme, R31.r _⟩
  rw [z, if_pos rfl, if_pos (show (0 : Int32) ≤ 0 by decide)]
  obtain ⟨q1, q2, q3⟩ := okP_pos ok
  obtain ⟨k1, ⟨k2, k3, k4⟩, ⟨k5, k6, k7⟩, _⟩ := ok
  obtain ⟨o, o1, o2⟩ := folded_ok hg hc hv hfe q1 q2
  obtain ⟨w1, h1, h2, h3, h4⟩ := mwork_ok hp hm.MA hv hme hb
  rw [numberOf_ok hg _ _ k3 k4 k7, Option.bind_some, o1, Option.bind_some, h1, Option.bind_some, mnumberOf_ok _ _ k3 k4 k7, Option.bind_some, xgd_in (xin rfl q1 (by decide)), cl (by omega), (h2.S q1 q3).1]
  exact ⟨_, _, _, rfl, rfl, o2.c rfl rfl, (MW_ME hv h2).w, fun k a b _ _ => h3 k a b⟩
