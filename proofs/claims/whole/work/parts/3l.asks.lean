/-! ===== rule, withDistance, all, of, now ===== -/
theorem SE.c {m m' : Mem} (h : SE m) (e15 : m' 15 = m 15) (e16 : m' 16 = m 16) (e18 : m' 18 = m 18) (e19 : m' 19 = m 19) : SE m' := by
  unfold SE SD CT TE
  rw [e15, e16, e18, e19]; exact h
theorem nltS {x : Int32} {hi : Nat} (h0 : ¬ x < 0) (h : nI hi < x) (hb : hi + 1 < 2 ^ 31) : ¬ x < nI (hi + 1) := fun z => by
  obtain ⟨j, j1, j2⟩ := nI_of h0
  rw [j2] at h z
  rw [nI_ltI (by omega) (by omega)] at h z
  omega
theorem nleS {x : Int32} {hi : Nat} (h0 : ¬ x < 0) (h : nI hi < x) (hb : hi + 1 < 2 ^ 31) : ¬ x ≤ nI hi ∧ nI (hi + 1) ≤ x := by
  obtain ⟨j, j1, j2⟩ := nI_of h0
  rw [j2] at h ⊢
  rw [nI_ltI (by omega) (by omega)] at h
  rw [nI_leI (by omega) (by omega), nI_leI (by omega) (by omega)]
  omega
theorem rule_op {m m' : Mem} {g : Nat → Nat} (hb : ∀ s B, VC s B → Bd s B) (hg : GE m) (hp : PE m') (hv : VS g) (hc : StC (m 21) g) (hm : MS m' g) (hce : CE m) (hfe : FE m) (hse : SE m) (hme : ME m') (x1 : Int32) :
    ∃ a o o', xt_X8_rule x1 m = some (a, o) ∧ xt_X9_rule x1 m' = some (a, o') ∧ (CE o ∧ FE o ∧ SE o) ∧ ME o' ∧ R31 o' m' := by
  unfold xt_X8_rule xt_X9_rule
  rcases in0 x1 (hi := 97) (by omega) with ⟨q1, q2⟩ | ⟨q1, q2, q3⟩ | ⟨k, q1, q2, q3⟩
  · have q2' : xt_X9_in x1 (0 : Int32) (97 : Int32) = some 0 := q2
    rw [if_pos q1, q2']
    exact ⟨_, _, _, rfl, rfl, ⟨hce, hfe, hse⟩, hme, R31.r _⟩
  · have q3' : xt_X9_in x1 (0 : Int32) (97 : Int32) = some 0 := q3
    rw [if_neg q1, if_neg (show ¬ x1 < (98 : Int32) from nltS q1 q2 (by omega)), q3']
    exact ⟨_, _, _, rfl, rfl, ⟨hce, hfe, hse⟩, hme, R31.r _⟩
  have q3' : xt_X9_in x1 (0 : Int32) (97 : Int32) = some 1 := q3
  obtain ⟨o, s1, s2, s3, s4, s5, s6⟩ := surveyPrep_ok hg hce hfe hse hc hv hb
  obtain ⟨w, h1, h2, h3, h4⟩ := mwork_ok hp hm.MA hv hme hb
  rw [if_neg (show ¬ x1 < 0 by rw [q2]; exact nIneg (by omega)), if_pos (show x1 < (98 : Int32) by rw [q2, lit 98, nI_ltI (by omega) (by omega)]; omega), q3', Option.bind_some, if_neg (show ¬ (1 : Int32) = 0 by decide), s1, Option.bind_some, h1, Option.bind_some, q2, told_ok (m := mgs m [15, 19] o) (TE.c s5.2.2.2.2.2.2.2.2.2.2.2.2 rfl) (show k < 98 by omega), Option.bind_some, xgd_in (xin rfl (show k < 98 by omega) (by decide)), cl (by omega), h2.2.2.2.2 k (by omega)]
  exact ⟨_, _, _, rfl, rfl, ⟨s2.c rfl rfl, s3.c rfl rfl, s4.c rfl rfl rfl rfl⟩, (MW_ME hv h2).w, fun k a b _ _ => h3 k a b⟩
theorem withDistance_op {m m' : Mem} {g : Nat → Nat} (hb : ∀ s B, VC s B → Bd s B) (hg : GE m) (hp : PE m') (hv : VS g) (hc : StC (m 21) g) (hm : MS m' g) (hce : CE m) (hfe : FE m) (hse : SE m) (hme : ME m') (x1 : Int32) :
    ∃ a o o', xt_X8_withDistance x1 m = some (a, o) ∧ xt_X9_withDistance x1 m' = some (a, o') ∧ (CE o ∧ FE o ∧ SE o) ∧ ME o' ∧ R31 o' m' := by
  unfold xt_X8_withDistance xt_X9_withDistance
  obtain ⟨o, s1, s2, s3, s4, s5, s6⟩ := surveyPrep_ok hg hce hfe hse hc hv hb
  obtain ⟨w, h1, h2, h3, h4⟩ := mwork_ok hp hm.MA hv hme hb
  have ct : CT (sOf g) (g 3) (mgs m [15, 18] o) := s5.2.2.2.2.2.2.2.2.2.2.2.1
  have m38 : M38 (sOf g) (g 3) (mgs m' [31, 38, 39] w) := fun n hn => h2.D n hn
  have m39 : M39 (g 3) (mgs m' [31, 38, 39] w) := h2.2.2.1.M39.c rfl
  have fin : ∀ V : Nat, ∃ a o1 o', some (nI V, mgs m [9, 10, 11, 12, 13, 14, 15, 16, 17, 18, 19] o) = some (a, o1) ∧ some (nI V, mgs m' [31, 38, 39, 40, 41, 42, 43, 44] w) = some (a, o') ∧ (CE o1 ∧ FE o1 ∧ SE o1) ∧ ME o' ∧ R31 o' m' := fun V =>
    ⟨_, _, _, rfl, rfl, ⟨s2.c rfl rfl, s3.c rfl rfl, s4.c rfl rfl rfl rfl⟩, (MW_ME hv h2).w, fun k a b _ _ => h3 k a b⟩
  by_cases c : x1 = -6
  · have e : xt_X9_standingWith (-6 : Int32) (mgs m' [31, 38, 39] w) = _ := standingWith_ok m38 m39 (o := none) (fun x hx => by cases hx)
    rw [if_pos c, if_pos c, s1, h1, Option.bind_some, Option.bind_some, c, countWith_none ct, e, Option.bind_some, Option.bind_some]
    exact fin _
  rw [if_neg c, if_neg c]
  rcases in0 x1 (hi := 200) (by omega) with ⟨q1, q2⟩ | ⟨q1, q2, q3⟩ | ⟨k, q1, q2, q3⟩
  · have q2' : xt_X9_in x1 (0 : Int32) (200 : Int32) = some 0 := q2
    rw [if_pos q1, q2']
    exact ⟨_, _, _, rfl, rfl, ⟨hce, hfe, hse⟩, hme, R31.r _⟩
  · have q3' : xt_X9_in x1 (0 : Int32) (200 : Int32) = some 0 := q3
    rw [if_neg q1, if_neg (show ¬ x1 ≤ (200 : Int32) from (nleS q1 q2 (by omega)).1), q3']
    exact ⟨_, _, _, rfl, rfl, ⟨hce, hfe, hse⟩, hme, R31.r _⟩
  have q3' : xt_X9_in x1 (0 : Int32) (200 : Int32) = some 1 := q3
  have e : xt_X9_standingWith (nI k) (mgs m' [31, 38, 39] w) = _ := standingWith_ok m38 m39 (o := some k) (fun x hx => by cases hx; omega)
  rw [if_neg (show ¬ x1 < 0 by rw [q2]; exact nIneg (by omega)), if_pos (show x1 ≤ (200 : Int32) by rw [q2, lit 200, ble _ _ (by omega) (by omega)]; omega), q3', Option.bind_some, if_neg (show ¬ (1 : Int32) = 0 by decide), s1, h1, Option.bind_some, Option.bind_some, q2, countWith_some ct q1, e, Option.bind_some, Option.bind_some]
  exact fin _

theorem all_op {m m' : Mem} {g : Nat → Nat} (hb : ∀ s B, VC s B → Bd s B) (hg : GE m) (hp : PE m') (hv : VS g) (hc : StC (m 21) g) (hm : MS m' g) (hce : CE m) (hfe : FE m) (hse : SE m) (hme : ME m') (x1 : Int32) :
    ∃ a o o', xt_X8_all x1 m = some (a, o) ∧ xt_X9_all x1 m' = some (a, o') ∧ (CE o ∧ FE o ∧ SE o) ∧ ME o' ∧ R31 o' m' := by
  unfold xt_X8_all xt_X9_all
  rcases in0 x1 (hi := 10) (by omega) with ⟨q1, q2⟩ | ⟨q1, q2, q3⟩ | ⟨k, q1, q2, q3⟩
  · have q2' : xt_X9_in x1 (0 : Int32) (10 : Int32) = some 0 := q2
    rw [if_pos q1, q2']
    exact ⟨_, _, _, rfl, rfl, ⟨hce, hfe, hse⟩, hme, R31.r _⟩
  · have q3' : xt_X9_in x1 (0 : Int32) (10 : Int32) = some 0 := q3
    rw [if_neg q1, if_neg (show ¬ x1 < (11 : Int32) from nltS q1 q2 (by omega)), q3']
    exact ⟨_, _, _, rfl, rfl, ⟨hce, hfe, hse⟩, hme, R31.r _⟩
  have q3' : xt_X9_in x1 (0 : Int32) (10 : Int32) = some 1 := q3
  obtain ⟨o, s1, s2, s3, s4, s5, s6⟩ := surveyPrep_ok hg hce hfe hse hc hv hb
  obtain ⟨w, h1, h2, h3, h4⟩ := mwork_ok hp hm.MA hv hme hb
  have tot : xt_X7_total (nI k) (mgs m [15, 16] o) = some (o 16 k) := by
    unfold xt_X7_total
    rw [if_neg (nIneg (by omega)), if_neg (show ¬ (11 : Int32) ≤ nI k by rw [lit 11, ble _ _ (by omega) (by omega)]; omega), xgd_in (xin rfl (show k < 11 by omega) (by decide)), cl (by omega)]
    rfl
  rw [if_neg (show ¬ x1 < 0 by rw [q2]; exact nIneg (by omega)), if_pos (show x1 < (11 : Int32) by rw [q2, lit 11, nI_ltI (by omega) (by omega)]; omega), q3', Option.bind_some, if_neg (show ¬ (1 : Int32) = 0 by decide), s1, Option.bind_some, h1, Option.bind_some, q2, tot, Option.bind_some]
  have m38 : M38 (sOf g) (g 3) w := fun n hn => h2.D n hn
  have m39 : M39 (g 3) w := h2.2.2.1.M39
  have r42 : R42 (sOf g) (g 3) w := h2.2.2.2.2
  obtain ⟨t0, t1, t2, t3, t4, t5, t6, t7, t8, t9, t10, _⟩ := s5
  have fin : ∀ V W : Int32, V = W → ∃ a o1 o', some (V, mgs m [9, 10, 11, 12, 13, 14, 15, 16, 17, 18, 19] o) = some (a, o1) ∧ some (W, mgs m' [31, 38, 39, 40, 41, 42, 43, 44] w) = some (a, o') ∧ (CE o1 ∧ FE o1 ∧ SE o1) ∧ ME o' ∧ R31 o' m' := fun V W e => by
    subst e
    exact ⟨_, _, _, rfl, rfl, ⟨s2.c rfl rfl, s3.c rfl rfl, s4.c rfl rfl rfl rfl⟩, (MW_ME hv h2).w, fun k a b _ _ => h3 k a b⟩
  have pX : PE (mgs m' [31, 38, 39, 42] w) := hp.c rfl rfl
  have ax : M38 (sOf g) (g 3) (mgs m' [31, 38, 39, 42] w) := m38.c rfl
  have bx : M39 (g 3) (mgs m' [31, 38, 39, 42] w) := m39.c rfl
  have cx : R42 (sOf g) (g 3) (mgs m' [31, 38, 39, 42] w) := r42
  have cs : k = 0 ∨ k = 1 ∨ k = 2 ∨ k = 3 ∨ k = 4 ∨ k = 5 ∨ k = 6 ∨ k = 7 ∨ k = 8 ∨ k = 9 ∨ k = 10 := by omega
  rcases cs with z | z | z | z | z | z | z | z | z | z | z
  · subst z
    rw [if_neg (show ¬ ((nI 0).toInt < 0 ∨ 9 < (nI 0).toInt) by decide), if_pos (show nI 0 = (0 : Int32) by decide), if_neg (show ¬ nI 0 = (1 : Int32) by decide), (positions_ok (m := mgs m' [31, 39] w) (m39.c rfl)).1, Option.bind_some]
    exact fin _ _ t0
  · subst z
    rw [if_neg (show ¬ ((nI 1).toInt < 0 ∨ 9 < (nI 1).toInt) by decide), if_neg (show ¬ nI 1 = (0 : Int32) by decide), if_pos (show nI 1 = (1 : Int32) by decide), if_pos (show nI 1 = (1 : Int32) by decide), (positions_ok (m := mgs m' [31, 39] w) (m39.c rfl)).2, Option.bind_some]
    exact fin _ _ t1
  · subst z
    rw [if_neg (show ¬ ((nI 2).toInt < 0 ∨ 9 < (nI 2).toInt) by decide), if_neg (show ¬ nI 2 = (0 : Int32) by decide), if_neg (show ¬ nI 2 = (1 : Int32) by decide), if_pos (show nI 2 = (2 : Int32) by decide), h2.2.2.2.1.1]
    exact fin _ _ t2
  · subst z
    rw [if_neg (show ¬ ((nI 3).toInt < 0 ∨ 9 < (nI 3).toInt) by decide), if_neg (show ¬ nI 3 = (0 : Int32) by decide), if_neg (show ¬ nI 3 = (1 : Int32) by decide), if_neg (show ¬ nI 3 = (2 : Int32) by decide), if_pos (show nI 3 = (3 : Int32) by decide), greatest_ok (m := mgs m' [31, 38] w) (m38.c rfl), Option.bind_some]
    exact fin _ _ t3
  · subst z
    rw [if_neg (show ¬ ((nI 4).toInt < 0 ∨ 9 < (nI 4).toInt) by decide), if_neg (show ¬ nI 4 = (0 : Int32) by decide), if_neg (show ¬ nI 4 = (1 : Int32) by decide), if_neg (show ¬ nI 4 = (2 : Int32) by decide), if_neg (show ¬ nI 4 = (3 : Int32) by decide), if_pos (show nI 4 = (4 : Int32) by decide), greatest_ok (m := mgs m' [31, 38] w) (m38.c rfl), Option.bind_some, lowestWith_ok (m := mgs m' [31, 38] w) (m38.c rfl), Option.bind_some]
    exact fin _ _ t4
  · subst z
    have e5 : xt_X9_standingWith (-6 : Int32) (mgs m' [31, 38, 39] w) = _ := standingWith_ok (m := mgs m' [31, 38, 39] w) (s := sOf g) (B := g 3) (m38.c rfl) (m39.c rfl) (o := none) (fun x hx => by cases hx)
    rw [if_neg (show ¬ ((nI 5).toInt < 0 ∨ 9 < (nI 5).toInt) by decide), if_neg (show ¬ nI 5 = (0 : Int32) by decide), if_neg (show ¬ nI 5 = (1 : Int32) by decide), if_neg (show ¬ nI 5 = (2 : Int32) by decide), if_neg (show ¬ nI 5 = (3 : Int32) by decide), if_neg (show ¬ nI 5 = (4 : Int32) by decide), if_pos (show nI 5 = (5 : Int32) by decide), e5, Option.bind_some]
    exact fin _ _ t5
  · subst z
    rw [if_neg (show ¬ ((nI 6).toInt < 0 ∨ 9 < (nI 6).toInt) by decide), if_neg (show ¬ nI 6 = (0 : Int32) by decide), if_neg (show ¬ nI 6 = (1 : Int32) by decide), if_neg (show ¬ nI 6 = (2 : Int32) by decide), if_neg (show ¬ nI 6 = (3 : Int32) by decide), if_neg (show ¬ nI 6 = (4 : Int32) by decide), if_neg (show ¬ nI 6 = (5 : Int32) by decide), if_pos (show nI 6 = (6 : Int32) by decide), exceptions_ok pX ax bx cx, Option.bind_some]
    exact fin _ _ t6
  · subst z
    have e7 : xt_X9_runs (0 : Int32) (mgs m' [31, 38, 39, 42] w) = some (nI (rn (St (g 3)) (exc (sOf g) (g 3)) 4096).1) := by
      unfold xt_X9_runs
      rw [runs_ok pX ax bx cx, if_pos rfl]
    rw [if_neg (show ¬ ((nI 7).toInt < 0 ∨ 9 < (nI 7).toInt) by decide), if_neg (show ¬ nI 7 = (0 : Int32) by decide), if_neg (show ¬ nI 7 = (1 : Int32) by decide), if_neg (show ¬ nI 7 = (2 : Int32) by decide), if_neg (show ¬ nI 7 = (3 : Int32) by decide), if_neg (show ¬ nI 7 = (4 : Int32) by decide), if_neg (show ¬ nI 7 = (5 : Int32) by decide), if_neg (show ¬ nI 7 = (6 : Int32) by decide), if_pos (show nI 7 = (7 : Int32) by decide), e7, Option.bind_some]
    exact fin _ _ t7
  · subst z
    rw [if_neg (show ¬ ((nI 8).toInt < 0 ∨ 9 < (nI 8).toInt) by decide), if_neg (show ¬ nI 8 = (0 : Int32) by decide), if_neg (show ¬ nI 8 = (1 : Int32) by decide), if_neg (show ¬ nI 8 = (2 : Int32) by decide), if_neg (show ¬ nI 8 = (3 : Int32) by decide), if_neg (show ¬ nI 8 = (4 : Int32) by decide), if_neg (show ¬ nI 8 = (5 : Int32) by decide), if_neg (show ¬ nI 8 = (6 : Int32) by decide), if_neg (show ¬ nI 8 = (7 : Int32) by decide), if_pos (show nI 8 = (8 : Int32) by decide), blocks_ok pX ax bx cx, Option.bind_some]
    exact fin _ _ t8
  · subst z
    have e9 : xt_X9_runs (1 : Int32) (mgs m' [31, 38, 39, 42] w) = some (nI (rn (St (g 3)) (exc (sOf g) (g 3)) 4096).2.2) := by
      unfold xt_X9_runs
      rw [runs_ok pX ax bx cx, if_neg (show ¬ (1 : Int32) = 0 by decide)]
    rw [if_neg (show ¬ ((nI 9).toInt < 0 ∨ 9 < (nI 9).toInt) by decide), if_neg (show ¬ nI 9 = (0 : Int32) by decide), if_neg (show ¬ nI 9 = (1 : Int32) by decide), if_neg (show ¬ nI 9 = (2 : Int32) by decide), if_neg (show ¬ nI 9 = (3 : Int32) by decide), if_neg (show ¬ nI 9 = (4 : Int32) by decide), if_neg (show ¬ nI 9 = (5 : Int32) by decide), if_neg (show ¬ nI 9 = (6 : Int32) by decide), if_neg (show ¬ nI 9 = (7 : Int32) by decide), if_neg (show ¬ nI 9 = (8 : Int32) by decide), if_pos (show nI 9 = (9 : Int32) by decide), e9, Option.bind_some]
    exact fin _ _ t9
  · subst z
    rw [if_pos (show (nI 10).toInt < 0 ∨ 9 < (nI 10).toInt by decide), keys_ok (m := mgs m' [31, 42] w) r42, Option.bind_some]
    exact fin _ _ t10
theorem of_op {m m' : Mem} {g : Nat → Nat} (hb : ∀ s B, VC s B → Bd s B) (hg : GE m) (hp : PE m') (hv : VS g) (hc : StC (m 21) g) (hm : MS m' g) (hce : CE m) (hfe : FE m) (hse : SE m) (hme : ME m') (x1 x2 : Int32) :
    ∃ a o o', xt_X8_of x1 x2 m = some (a, o) ∧ xt_X9_of x1 x2 m' = some (a, o') ∧ (CE o ∧ FE o ∧ SE o) ∧ ME o' ∧ R31 o' m' := by
  unfold xt_X8_of xt_X9_of
  have out : ∀ y : Int32, ∃ a o o', some (y, m) = some (a, o) ∧ some (y, m') = some (a, o') ∧ (CE o ∧ FE o ∧ SE o) ∧ ME o' ∧ R31 o' m' := fun y => ⟨_, _, _, rfl, rfl, ⟨hce, hfe, hse⟩, hme, R31.r _⟩
  rcases in0 x1 (hi := 4095) (by omega) with ⟨q1, q2⟩ | ⟨q1, q2, q3⟩ | ⟨n, q1, q2, q3⟩
  · have q2' : xt_X9_in x1 (0 : Int32) (4095 : Int32) = some 0 := q2
    rw [if_pos q1, q2']
    exact out _
  · have q3' : xt_X9_in x1 (0 : Int32) (4095 : Int32) = some 0 := q3
    rw [if_neg q1, if_pos (show (4096 : Int32) ≤ x1 from (nleS q1 q2 (by omega)).2), q3']
    exact out _
  have q3' : xt_X9_in x1 (0 : Int32) (4095 : Int32) = some 1 := q3
  have hn : n < 4096 := by omega
  rw [if_neg (show ¬ x1 < 0 by rw [q2]; exact nIneg (by omega)), if_neg (show ¬ (4096 : Int32) ≤ x1 by rw [q2, lit 4096, ble _ _ (by omega) (by omega)]; omega), q3', Option.bind_some, if_neg (show ¬ (1 : Int32) = 0 by decide)]
  rcases in0 x2 (hi := 6) (by omega) with ⟨r1, r2⟩ | ⟨r1, r2, r3⟩ | ⟨k, r1, r2, r3⟩
  · have r2' : xt_X9_in x2 (0 : Int32) (6 : Int32) = some 0 := r2
    rw [if_pos r1, r2']
    exact out _
  · have r3' : xt_X9_in x2 (0 : Int32) (6 : Int32) = some 0 := r3
    rw [if_neg r1, if_neg (show ¬ x2 ≤ (6 : Int32) from (nleS r1 r2 (by omega)).1), r3']
    exact out _
  have r3' : xt_X9_in x2 (0 : Int32) (6 : Int32) = some 1 := r3
  rw [if_neg (show ¬ x2 < 0 by rw [r2]; exact nIneg (by omega)), if_pos (show x2 ≤ (6 : Int32) by rw [r2, lit 6, ble _ _ (by omega) (by omega)]; omega), r3', Option.bind_some, if_neg (show ¬ (1 : Int32) = 0 by decide), q2, isPosition_ok hg hn (B := g 3) (by rw [hc.2.1]; exact msk_nI hv.B), Option.bind_some, misPosition_ok hp hm.MA hv.B hn, Option.bind_some]
  cases ep : isPos (g 3) n
  · rw [if_pos (show bI false = 0 by decide), if_pos (show bI false = 0 by decide)]
    exact out _
  rw [if_neg (show ¬ bI true = 0 by decide), if_neg (show ¬ bI true = 0 by decide)]
  have h120 : n % 128 < 120 := isPos_120 ep
  obtain ⟨w, h1, h2, h3, h4⟩ := mwork_ok hp hm.MA hv hme hb
  rw [h1, Option.bind_some, r2]
  have wE : ME (mgs m' [31, 38, 39, 40, 41, 42, 43, 44] w) ∧ R31 (mgs m' [31, 38, 39, 40, 41, 42, 43, 44] w) m' := ⟨(MW_ME hv h2).w, fun k a b _ _ => h3 k a b⟩
  have cs : k = 0 ∨ k = 1 ∨ k = 2 ∨ k = 3 ∨ k = 4 ∨ k = 5 ∨ k = 6 := by omega
  rcases cs with z | z | z | z | z | z | z
  · subst z
    rw [if_neg (show ¬ ((nI 0).toInt < 0 ∨ 5 < (nI 0).toInt) by decide), if_neg (show ¬ ((nI 0).toInt < 0 ∨ 5 < (nI 0).toInt) by decide), if_pos (show nI 0 = (0 : Int32) by decide), if_pos (show nI 0 = (0 : Int32) by decide), whoOf_ok hn, Option.bind_some, show nI n / (2048 : Int32) = nI (n / 2048) from pk_div (d := 2048) (by omega) (by omega) (by omega)]
    exact ⟨_, _, _, rfl, rfl, ⟨hce, hfe, hse⟩, wE⟩
  · subst z
    rw [if_neg (show ¬ ((nI 1).toInt < 0 ∨ 5 < (nI 1).toInt) by decide), if_neg (show ¬ ((nI 1).toInt < 0 ∨ 5 < (nI 1).toInt) by decide), if_neg (show ¬ nI 1 = (0 : Int32) by decide), if_neg (show ¬ nI 1 = (0 : Int32) by decide), if_pos (show nI 1 = (1 : Int32) by decide), if_pos (show nI 1 = (1 : Int32) by decide), foxOf_ok hn, Option.bind_some, dv128 hn, md16 (show n / 128 < 4096 by omega)]
    exact ⟨_, _, _, rfl, rfl, ⟨hce, hfe, hse⟩, wE⟩
  · subst z
    rw [if_neg (show ¬ ((nI 2).toInt < 0 ∨ 5 < (nI 2).toInt) by decide), if_neg (show ¬ ((nI 2).toInt < 0 ∨ 5 < (nI 2).toInt) by decide), if_neg (show ¬ nI 2 = (0 : Int32) by decide), if_neg (show ¬ nI 2 = (1 : Int32) by decide), if_neg (show ¬ nI 2 = (0 : Int32) by decide), if_neg (show ¬ nI 2 = (1 : Int32) by decide), if_pos (show nI 2 = (2 : Int32) by decide), if_pos (show nI 2 = (2 : Int32) by decide), pairIn_ok hn, Option.bind_some, lowerOf_ok hg h120, Option.bind_some, md128 hn, xgd_in (xin rfl h120 (by decide)), cl (by omega), (gp hp h120).1]
    exact ⟨_, _, _, rfl, rfl, ⟨hce, hfe, hse⟩, wE⟩
  · subst z
    rw [if_neg (show ¬ ((nI 3).toInt < 0 ∨ 5 < (nI 3).toInt) by decide), if_neg (show ¬ ((nI 3).toInt < 0 ∨ 5 < (nI 3).toInt) by decide), if_neg (show ¬ nI 3 = (0 : Int32) by decide), if_neg (show ¬ nI 3 = (1 : Int32) by decide), if_neg (show ¬ nI 3 = (2 : Int32) by decide), if_neg (show ¬ nI 3 = (0 : Int32) by decide), if_neg (show ¬ nI 3 = (1 : Int32) by decide), if_neg (show ¬ nI 3 = (2 : Int32) by decide), if_pos (show nI 3 = (3 : Int32) by decide), if_pos (show nI 3 = (3 : Int32) by decide), pairIn_ok hn, Option.bind_some, higherOf_ok hg h120, Option.bind_some, md128 hn, xgd_in (xin rfl h120 (by decide)), cl (by omega), (gp hp h120).2]
    exact ⟨_, _, _, rfl, rfl, ⟨hce, hfe, hse⟩, wE⟩
  · subst z
    obtain ⟨o, o1, o2, o3, o4⟩ := prepare_ok hg hce hc hv hb
    rw [if_neg (show ¬ ((nI 4).toInt < 0 ∨ 5 < (nI 4).toInt) by decide), if_neg (show ¬ ((nI 4).toInt < 0 ∨ 5 < (nI 4).toInt) by decide), if_neg (show ¬ nI 4 = (0 : Int32) by decide), if_neg (show ¬ nI 4 = (1 : Int32) by decide), if_neg (show ¬ nI 4 = (2 : Int32) by decide), if_neg (show ¬ nI 4 = (3 : Int32) by decide), if_neg (show ¬ nI 4 = (0 : Int32) by decide), if_neg (show ¬ nI 4 = (1 : Int32) by decide), if_neg (show ¬ nI 4 = (2 : Int32) by decide), if_neg (show ¬ nI 4 = (3 : Int32) by decide), if_pos (show nI 4 = (4 : Int32) by decide), if_pos (show nI 4 = (4 : Int32) by decide), o1, Option.bind_some, at_ok (m := mgs m [9, 10] o) (s := sOf g) (B := g 3) (fun n hn => o3 n hn) hn, Option.bind_some, xgd_in (xin rfl hn (by decide)), cl (by omega), h2.D _ hn]
    exact ⟨_, _, _, rfl, rfl, ⟨o2.c rfl rfl, hfe.c rfl rfl, hse.c rfl rfl rfl rfl⟩, wE⟩
  · subst z
    obtain ⟨o, s1, s2, s3, s4, s5, s6⟩ := surveyPrep_ok hg hce hfe hse hc hv hb
    have hk := kyN_lt hn h120
    rw [if_neg (show ¬ ((nI 5).toInt < 0 ∨ 5 < (nI 5).toInt) by decide), if_neg (show ¬ ((nI 5).toInt < 0 ∨ 5 < (nI 5).toInt) by decide), if_neg (show ¬ nI 5 = (0 : Int32) by decide), if_neg (show ¬ nI 5 = (1 : Int32) by decide), if_neg (show ¬ nI 5 = (2 : Int32) by decide), if_neg (show ¬ nI 5 = (3 : Int32) by decide), if_neg (show ¬ nI 5 = (4 : Int32) by decide), if_neg (show ¬ nI 5 = (0 : Int32) by decide), if_neg (show ¬ nI 5 = (1 : Int32) by decide), if_neg (show ¬ nI 5 = (2 : Int32) by decide), if_neg (show ¬ nI 5 = (3 : Int32) by decide), if_neg (show ¬ nI 5 = (4 : Int32) by decide), if_pos (show nI 5 = (5 : Int32) by decide), if_pos (show nI 5 = (5 : Int32) by decide), s1, Option.bind_some, keyOf_ok hg hn h120, Option.bind_some, told_ok (m := mgs m [15, 19] o) (TE.c s5.2.2.2.2.2.2.2.2.2.2.2.2 rfl) hk, Option.bind_some, mkey_ok (m := mgs m' [31] w) (hp.c rfl rfl) hn h120, Option.bind_some, xgd_in (xin rfl hk (by decide)), cl (by omega), h2.2.2.2.2 _ hk]
    exact ⟨_, _, _, rfl, rfl, ⟨s2.c rfl rfl, s3.c rfl rfl, s4.c rfl rfl rfl rfl⟩, wE⟩
  · subst z
    obtain ⟨o, f1, f2, f3, f4⟩ := foldPrep_ok hg hfe hv.B
    rw [if_pos (show (nI 6).toInt < 0 ∨ 5 < (nI 6).toInt by decide), if_pos (show (nI 6).toInt < 0 ∨ 5 < (nI 6).toInt by decide), hc.2.1, f1, Option.bind_some, alike_ok (m := mgs m [13, 14] o) (hg.mgs (ngr (by decide))) (f3.c rfl rfl) hn h120, Option.bind_some, xgd_in (xin rfl hn (by decide)), cl (by omega), (h2.S hn ep).2]
    exact ⟨_, _, _, rfl, rfl, ⟨hce.c rfl rfl, f2.c rfl rfl, hse.c rfl rfl rfl rfl⟩, wE⟩
theorem now_op {m m' : Mem} {g : Nat → Nat} {n L : Nat} (hb : ∀ s B, VC s B → Bd s B) (hg : GE m) (hp : PE m') (hv : VS g) (hc : StC (m 21) g) (hm : MS m' g) (hce : CE m) (hfe : FE m) (hme : ME m') (hhc : m 23 1 = nI n) (hhm : m' 31 3 = nI n) (hpc : m 25 1 = nI L) (hpm : m' 31 20 = nI L) (x1 : Int32) :
    ∃ a o o', xt_X8_now x1 m = some (a, o) ∧ xt_X9_now x1 m' = some (a, o') ∧ (CE o ∧ FE o) ∧ ME o' ∧ R31 o' m' := by
  unfold xt_X8_now xt_X9_now
  have out : ∀ y : Int32, ∃ a o o', some (y, m) = some (a, o) ∧ some (y, m') = some (a, o') ∧ (CE o ∧ FE o) ∧ ME o' ∧ R31 o' m' := fun y => ⟨_, _, _, rfl, rfl, ⟨hce, hfe⟩, hme, R31.r _⟩
  have big : ∀ {x : Int32} {P : Prop}, ¬ x < 0 → nI 15 < x → (x.toInt < 0 ∨ 15 < x.toInt) := fun h0 h => by
    obtain ⟨j, j1, j2⟩ := nI_of h0
    rw [j2] at h ⊢
    rw [nI_ltI (by omega) (by omega)] at h
    rw [nI_toInt j1]
    omega
  rcases in0 x1 (hi := 15) (by omega) with ⟨q1, q2⟩ | ⟨q1, q2, q3⟩ | ⟨k, q1, q2, q3⟩
  · have neg : x1.toInt < 0 ∨ 15 < x1.toInt := Or.inl (by rw [Int32.lt_iff_toInt_lt] at q1; exact q1)
    rw [if_pos q1, if_pos neg]
    exact out _
  · rw [if_neg q1, if_neg (show ¬ x1 ≤ (15 : Int32) from (nleS q1 q2 (by omega)).1), if_pos (big (P := True) q1 q2)]
    exact out _
  rw [if_neg (show ¬ x1 < 0 by rw [q2]; exact nIneg (by omega)), if_pos (show x1 ≤ (15 : Int32) by rw [q2, lit 15, ble _ _ (by omega) (by omega)]; omega), q2]
  have h256 : ∀ k, best g = some k → k < 256 := fun k hk => (best_lt hv hk).1
  obtain ⟨fo1, fo2⟩ := fromOf_ok h256
  have vp : ∀ {i : Nat}, i < 8 → vp_in (nI i) 8 := fun h => xin rfl h (by decide)
  have cs : k = 0 ∨ k = 1 ∨ k = 2 ∨ k = 3 ∨ k = 4 ∨ k = 5 ∨ k = 6 ∨ k = 7 ∨ k = 8 ∨ k = 9 ∨ k = 10 ∨ k = 11 ∨ k = 12 ∨ k = 13 ∨ k = 14 ∨ k = 15 := by omega
  rcases cs with z | z | z | z | z | z | z | z | z | z | z | z | z | z | z | z
  · subst z
    rw [if_neg (show ¬ ((nI 0).toInt < 0 ∨ 15 < (nI 0).toInt) by decide), if_neg (show ¬ ((nI 0).toInt < 0 ∨ 15 < (nI 0).toInt) by decide), if_pos (show nI 0 = (0 : Int32) by decide), if_pos (show nI 0 = (0 : Int32) by decide), show (4 : Int32) + nI 0 = nI 4 from by decide, xgd_in (vp (by omega)), cl (by omega), hm 4 (by omega), hc.2.2.1]
    exact out _
  · subst z
    rw [if_neg (show ¬ ((nI 1).toInt < 0 ∨ 15 < (nI 1).toInt) by decide), if_neg (show ¬ ((nI 1).toInt < 0 ∨ 15 < (nI 1).toInt) by decide), if_neg (show ¬ nI 1 = (0 : Int32) by decide), if_neg (show ¬ nI 1 = (0 : Int32) by decide), if_pos (show nI 1 = (1 : Int32) by decide), if_pos (show nI 1 = (1 : Int32) by decide), show (4 : Int32) + nI 1 = nI 5 from by decide, xgd_in (vp (by omega)), cl (by omega), hm 5 (by omega), hc.2.2.2.1]
    exact out _
  · subst z
    rw [if_neg (show ¬ ((nI 2).toInt < 0 ∨ 15 < (nI 2).toInt) by decide), if_neg (show ¬ ((nI 2).toInt < 0 ∨ 15 < (nI 2).toInt) by decide), if_neg (show ¬ nI 2 = (0 : Int32) by decide), if_neg (show ¬ nI 2 = (0 : Int32) by decide), if_neg (show ¬ nI 2 = (1 : Int32) by decide), if_neg (show ¬ nI 2 = (1 : Int32) by decide), if_pos (show nI 2 = (2 : Int32) by decide), if_pos (show nI 2 = (2 : Int32) by decide), show (4 : Int32) + nI 2 = nI 6 from by decide, xgd_in (vp (by omega)), cl (by omega), hm 6 (by omega), hc.2.2.2.2.1]
    exact out _
  · subst z
    rw [if_neg (show ¬ ((nI 3).toInt < 0 ∨ 15 < (nI 3).toInt) by decide), if_neg (show ¬ ((nI 3).toInt < 0 ∨ 15 < (nI 3).toInt) by decide), if_neg (show ¬ nI 3 = (0 : Int32) by decide), if_neg (show ¬ nI 3 = (0 : Int32) by decide), if_neg (show ¬ nI 3 = (1 : Int32) by decide), if_neg (show ¬ nI 3 = (1 : Int32) by decide), if_neg (show ¬ nI 3 = (2 : Int32) by decide), if_neg (show ¬ nI 3 = (2 : Int32) by decide), if_pos (show nI 3 = (3 : Int32) by decide), if_pos (show nI 3 = (3 : Int32) by decide), show (4 : Int32) + nI 3 = nI 7 from by decide, xgd_in (vp (by omega)), cl (by omega), hm 7 (by omega), hc.2.2.2.2.2]
    exact out _
  · subst z
    obtain ⟨o, a1, a2, a3⟩ := mcaught_ok hp hm hv hme hb
    rw [if_neg (show ¬ ((nI 4).toInt < 0 ∨ 15 < (nI 4).toInt) by decide), if_neg (show ¬ ((nI 4).toInt < 0 ∨ 15 < (nI 4).toInt) by decide), if_neg (show ¬ nI 4 = (0 : Int32) by decide), if_neg (show ¬ nI 4 = (0 : Int32) by decide), if_neg (show ¬ nI 4 = (1 : Int32) by decide), if_neg (show ¬ nI 4 = (1 : Int32) by decide), if_neg (show ¬ nI 4 = (2 : Int32) by decide), if_neg (show ¬ nI 4 = (2 : Int32) by decide), if_neg (show ¬ nI 4 = (3 : Int32) by decide), if_neg (show ¬ nI 4 = (3 : Int32) by decide), if_pos (show nI 4 = (4 : Int32) by decide), if_pos (show nI 4 = (4 : Int32) by decide), caught_ok hg hc hv, Option.bind_some, a1, Option.bind_some]
    dsimp only
    cases cau g
    · rw [if_pos (show bI false = 0 by decide), if_pos (show bI false = 0 by decide)]; exact ⟨_, _, _, rfl, rfl, ⟨hce, hfe⟩, (MW_ME hv a2).w, a3.w.R⟩
    · rw [if_neg (show ¬ bI true = 0 by decide), if_neg (show ¬ bI true = 0 by decide)]; exact ⟨_, _, _, rfl, rfl, ⟨hce, hfe⟩, (MW_ME hv a2).w, a3.w.R⟩
  · subst z
    obtain ⟨o, d1, d2, d3⟩ := distNow_ok hg hce hc hv hb
    obtain ⟨w, a1, a2, a3⟩ := mdistNow_ok hp hm hv hme hb
    rw [if_neg (show ¬ ((nI 5).toInt < 0 ∨ 15 < (nI 5).toInt) by decide), if_neg (show ¬ ((nI 5).toInt < 0 ∨ 15 < (nI 5).toInt) by decide), if_neg (show ¬ nI 5 = (0 : Int32) by decide), if_neg (show ¬ nI 5 = (0 : Int32) by decide), if_neg (show ¬ nI 5 = (1 : Int32) by decide), if_neg (show ¬ nI 5 = (1 : Int32) by decide), if_neg (show ¬ nI 5 = (2 : Int32) by decide), if_neg (show ¬ nI 5 = (2 : Int32) by decide), if_neg (show ¬ nI 5 = (3 : Int32) by decide), if_neg (show ¬ nI 5 = (3 : Int32) by decide), if_neg (show ¬ nI 5 = (4 : Int32) by decide), if_neg (show ¬ nI 5 = (4 : Int32) by decide), if_pos (show nI 5 = (5 : Int32) by decide), if_pos (show nI 5 = (5 : Int32) by decide), d1, Option.bind_some, a1, Option.bind_some]
    exact ⟨_, _, _, rfl, rfl, ⟨d2.c rfl rfl, hfe.c rfl rfl⟩, (MW_ME hv a2).w, a3.w.R⟩
  · subst z
    obtain ⟨o, d1, d2, d3⟩ := bestMove_ok hg hce hc hv hb
    obtain ⟨w, f1, f2, f3, f4, f5, f6⟩ := findBest_ok hp hm hv hme hb
    have e1 : xt_X9_best (nI 6) m' = some (frI (best g), mgs m' [31, 38, 39, 40, 41, 42, 43, 44] w) := by
      unfold xt_X9_best
      rw [f1, Option.bind_some, if_pos (show nI 6 = (6 : Int32) by decide)]
      dsimp only
      rw [f3]
    rw [if_neg (show ¬ ((nI 6).toInt < 0 ∨ 15 < (nI 6).toInt) by decide), if_neg (show ¬ ((nI 6).toInt < 0 ∨ 15 < (nI 6).toInt) by decide), if_neg (show ¬ nI 6 = (0 : Int32) by decide), if_neg (show ¬ nI 6 = (0 : Int32) by decide), if_neg (show ¬ nI 6 = (1 : Int32) by decide), if_neg (show ¬ nI 6 = (1 : Int32) by decide), if_neg (show ¬ nI 6 = (2 : Int32) by decide), if_neg (show ¬ nI 6 = (2 : Int32) by decide), if_neg (show ¬ nI 6 = (3 : Int32) by decide), if_neg (show ¬ nI 6 = (3 : Int32) by decide), if_neg (show ¬ nI 6 = (4 : Int32) by decide), if_neg (show ¬ nI 6 = (4 : Int32) by decide), if_neg (show ¬ nI 6 = (5 : Int32) by decide), if_neg (show ¬ nI 6 = (5 : Int32) by decide), if_pos (show nI 6 = (6 : Int32) by decide), if_pos (show nI 6 = (6 : Int32) by decide), d1, Option.bind_some, fo1, Option.bind_some, e1, Option.bind_some]
    exact ⟨_, _, _, rfl, rfl, ⟨d2.c rfl rfl, hfe.c rfl rfl⟩, f2.w.w, fun k a b c d => f5 k a b c d⟩
  · subst z
    obtain ⟨o, d1, d2, d3⟩ := bestMove_ok hg hce hc hv hb
    obtain ⟨w, f1, f2, f3, f4, f5, f6⟩ := findBest_ok hp hm hv hme hb
    have e1 : xt_X9_best (nI 7) m' = some (toI (best g), mgs m' [31, 38, 39, 40, 41, 42, 43, 44] w) := by
      unfold xt_X9_best
      rw [f1, Option.bind_some, if_neg (show ¬ nI 7 = (6 : Int32) by decide)]
      dsimp only
      rw [f4]
    rw [if_neg (show ¬ ((nI 7).toInt < 0 ∨ 15 < (nI 7).toInt) by decide), if_neg (show ¬ ((nI 7).toInt < 0 ∨ 15 < (nI 7).toInt) by decide), if_neg (show ¬ nI 7 = (0 : Int32) by decide), if_neg (show ¬ nI 7 = (0 : Int32) by decide), if_neg (show ¬ nI 7 = (1 : Int32) by decide), if_neg (show ¬ nI 7 = (1 : Int32) by decide), if_neg (show ¬ nI 7 = (2 : Int32) by decide), if_neg (show ¬ nI 7 = (2 : Int32) by decide), if_neg (show ¬ nI 7 = (3 : Int32) by decide), if_neg (show ¬ nI 7 = (3 : Int32) by decide), if_neg (show ¬ nI 7 = (4 : Int32) by decide), if_neg (show ¬ nI 7 = (4 : Int32) by decide), if_neg (show ¬ nI 7 = (5 : Int32) by decide), if_neg (show ¬ nI 7 = (5 : Int32) by decide), if_neg (show ¬ nI 7 = (6 : Int32) by decide), if_neg (show ¬ nI 7 = (6 : Int32) by decide), if_pos (show nI 7 = (7 : Int32) by decide), if_pos (show nI 7 = (7 : Int32) by decide), d1, Option.bind_some, fo2, Option.bind_some, e1, Option.bind_some]
    exact ⟨_, _, _, rfl, rfl, ⟨d2.c rfl rfl, hfe.c rfl rfl⟩, f2.w.w, fun k a b c d => f5 k a b c d⟩
  · subst z
    rw [if_neg (show ¬ ((nI 8).toInt < 0 ∨ 15 < (nI 8).toInt) by decide), if_neg (show ¬ ((nI 8).toInt < 0 ∨ 15 < (nI 8).toInt) by decide), if_neg (show ¬ nI 8 = (0 : Int32) by decide), if_neg (show ¬ nI 8 = (0 : Int32) by decide), if_neg (show ¬ nI 8 = (1 : Int32) by decide), if_neg (show ¬ nI 8 = (1 : Int32) by decide), if_neg (show ¬ nI 8 = (2 : Int32) by decide), if_neg (show ¬ nI 8 = (2 : Int32) by decide), if_neg (show ¬ nI 8 = (3 : Int32) by decide), if_neg (show ¬ nI 8 = (3 : Int32) by decide), if_neg (show ¬ nI 8 = (4 : Int32) by decide), if_neg (show ¬ nI 8 = (4 : Int32) by decide), if_neg (show ¬ nI 8 = (5 : Int32) by decide), if_neg (show ¬ nI 8 = (5 : Int32) by decide), if_neg (show ¬ nI 8 = (6 : Int32) by decide), if_neg (show ¬ nI 8 = (6 : Int32) by decide), if_neg (show ¬ nI 8 = (7 : Int32) by decide), if_neg (show ¬ nI 8 = (7 : Int32) by decide), if_pos (show nI 8 = (8 : Int32) by decide), if_pos (show nI 8 = (8 : Int32) by decide), chit_ok hc hv, Option.bind_some, isHit_ok hm hv, Option.bind_some]
    cases hitS g
    · rw [if_pos (show bI false = 0 by decide), if_pos (show bI false = 0 by decide), cnumNow_ok hg hc hv, numberNow_ok hm hv, Option.bind_some, Option.bind_some]; exact out _
    · rw [if_neg (show ¬ bI true = 0 by decide), if_neg (show ¬ bI true = 0 by decide)]; exact out _
  · subst z
    rw [if_neg (show ¬ ((nI 9).toInt < 0 ∨ 15 < (nI 9).toInt) by decide), if_neg (show ¬ ((nI 9).toInt < 0 ∨ 15 < (nI 9).toInt) by decide), if_neg (show ¬ nI 9 = (0 : Int32) by decide), if_neg (show ¬ nI 9 = (0 : Int32) by decide), if_neg (show ¬ nI 9 = (1 : Int32) by decide), if_neg (show ¬ nI 9 = (1 : Int32) by decide), if_neg (show ¬ nI 9 = (2 : Int32) by decide), if_neg (show ¬ nI 9 = (2 : Int32) by decide), if_neg (show ¬ nI 9 = (3 : Int32) by decide), if_neg (show ¬ nI 9 = (3 : Int32) by decide), if_neg (show ¬ nI 9 = (4 : Int32) by decide), if_neg (show ¬ nI 9 = (4 : Int32) by decide), if_neg (show ¬ nI 9 = (5 : Int32) by decide), if_neg (show ¬ nI 9 = (5 : Int32) by decide), if_neg (show ¬ nI 9 = (6 : Int32) by decide), if_neg (show ¬ nI 9 = (6 : Int32) by decide), if_neg (show ¬ nI 9 = (7 : Int32) by decide), if_neg (show ¬ nI 9 = (7 : Int32) by decide), if_neg (show ¬ nI 9 = (8 : Int32) by decide), if_neg (show ¬ nI 9 = (8 : Int32) by decide), if_pos (show nI 9 = (9 : Int32) by decide), if_pos (show nI 9 = (9 : Int32) by decide), chit_ok hc hv, Option.bind_some, isHit_ok hm hv, Option.bind_some]
    cases eh : hitS g
    · obtain ⟨o, o1, o2⟩ := folded_ok hg hc hv hfe (numG_lt hv).1 (numG_lt hv).2
      obtain ⟨w, h1, h2, h3, h4⟩ := mwork_ok hp hm.MA hv hme hb
      have e9 : xt_X9_standsNow m' = some (nI (lowA (g 3) (numG g)), mgs m' [31, 38, 39, 40, 41, 42, 43, 44] w) := by
        unfold xt_X9_standsNow
        rw [h1, Option.bind_some, numberNow_ok (m := mgs m' [31] w) (hm.c rfl) hv, Option.bind_some, xgd_in (xin rfl (numG_lt hv).1 (by decide)), cl (by have := (numG_lt hv).1; omega), (h2.S (numG_lt hv).1 (pos_now hv eh)).1]
      rw [if_pos (show bI false = 0 by decide), if_pos (show bI false = 0 by decide), cnumNow_ok hg hc hv, Option.bind_some, o1, Option.bind_some, e9, Option.bind_some]
      exact ⟨_, _, _, rfl, rfl, ⟨hce.c rfl rfl, o2.c rfl rfl⟩, (MW_ME hv h2).w.w, fun k a b _ _ => h3 k a b⟩
    · rw [if_neg (show ¬ bI true = 0 by decide), if_neg (show ¬ bI true = 0 by decide)]; exact out _
  · subst z
    rw [if_neg (show ¬ ((nI 10).toInt < 0 ∨ 15 < (nI 10).toInt) by decide), if_neg (show ¬ ((nI 10).toInt < 0 ∨ 15 < (nI 10).toInt) by decide), if_neg (show ¬ nI 10 = (0 : Int32) by decide), if_neg (show ¬ nI 10 = (0 : Int32) by decide), if_neg (show ¬ nI 10 = (1 : Int32) by decide), if_neg (show ¬ nI 10 = (1 : Int32) by decide), if_neg (show ¬ nI 10 = (2 : Int32) by decide), if_neg (show ¬ nI 10 = (2 : Int32) by decide), if_neg (show ¬ nI 10 = (3 : Int32) by decide), if_neg (show ¬ nI 10 = (3 : Int32) by decide), if_neg (show ¬ nI 10 = (4 : Int32) by decide), if_neg (show ¬ nI 10 = (4 : Int32) by decide), if_neg (show ¬ nI 10 = (5 : Int32) by decide), if_neg (show ¬ nI 10 = (5 : Int32) by decide), if_neg (show ¬ nI 10 = (6 : Int32) by decide), if_neg (show ¬ nI 10 = (6 : Int32) by decide), if_neg (show ¬ nI 10 = (7 : Int32) by decide), if_neg (show ¬ nI 10 = (7 : Int32) by decide), if_neg (show ¬ nI 10 = (8 : Int32) by decide), if_neg (show ¬ nI 10 = (8 : Int32) by decide), if_neg (show ¬ nI 10 = (9 : Int32) by decide), if_neg (show ¬ nI 10 = (9 : Int32) by decide), if_pos (show nI 10 = (10 : Int32) by decide), if_pos (show nI 10 = (10 : Int32) by decide), xgd_in (show vp_in (3 : Int32) 8 by unfold vp_in; decide), tc3, hm 3 (by omega), hc.2.1]
    exact out _
  · subst z
    rw [if_neg (show ¬ ((nI 11).toInt < 0 ∨ 15 < (nI 11).toInt) by decide), if_neg (show ¬ ((nI 11).toInt < 0 ∨ 15 < (nI 11).toInt) by decide), if_neg (show ¬ nI 11 = (0 : Int32) by decide), if_neg (show ¬ nI 11 = (0 : Int32) by decide), if_neg (show ¬ nI 11 = (1 : Int32) by decide), if_neg (show ¬ nI 11 = (1 : Int32) by decide), if_neg (show ¬ nI 11 = (2 : Int32) by decide), if_neg (show ¬ nI 11 = (2 : Int32) by decide), if_neg (show ¬ nI 11 = (3 : Int32) by decide), if_neg (show ¬ nI 11 = (3 : Int32) by decide), if_neg (show ¬ nI 11 = (4 : Int32) by decide), if_neg (show ¬ nI 11 = (4 : Int32) by decide), if_neg (show ¬ nI 11 = (5 : Int32) by decide), if_neg (show ¬ nI 11 = (5 : Int32) by decide), if_neg (show ¬ nI 11 = (6 : Int32) by decide), if_neg (show ¬ nI 11 = (6 : Int32) by decide), if_neg (show ¬ nI 11 = (7 : Int32) by decide), if_neg (show ¬ nI 11 = (7 : Int32) by decide), if_neg (show ¬ nI 11 = (8 : Int32) by decide), if_neg (show ¬ nI 11 = (8 : Int32) by decide), if_neg (show ¬ nI 11 = (9 : Int32) by decide), if_neg (show ¬ nI 11 = (9 : Int32) by decide), if_neg (show ¬ nI 11 = (10 : Int32) by decide), if_neg (show ¬ nI 11 = (10 : Int32) by decide), if_pos (show nI 11 = (11 : Int32) by decide), if_pos (show nI 11 = (11 : Int32) by decide), show nI 11 - (11 : Int32) = nI 0 from by decide, setting_ok hc hv (show 0 < 3 by omega), Option.bind_some, xgd_in (vp (by omega)), cl (by omega), hm 0 (by omega), setv hv (show 0 < 3 by omega)]
    exact out _
  · subst z
    rw [if_neg (show ¬ ((nI 12).toInt < 0 ∨ 15 < (nI 12).toInt) by decide), if_neg (show ¬ ((nI 12).toInt < 0 ∨ 15 < (nI 12).toInt) by decide), if_neg (show ¬ nI 12 = (0 : Int32) by decide), if_neg (show ¬ nI 12 = (0 : Int32) by decide), if_neg (show ¬ nI 12 = (1 : Int32) by decide), if_neg (show ¬ nI 12 = (1 : Int32) by decide), if_neg (show ¬ nI 12 = (2 : Int32) by decide), if_neg (show ¬ nI 12 = (2 : Int32) by decide), if_neg (show ¬ nI 12 = (3 : Int32) by decide), if_neg (show ¬ nI 12 = (3 : Int32) by decide), if_neg (show ¬ nI 12 = (4 : Int32) by decide), if_neg (show ¬ nI 12 = (4 : Int32) by decide), if_neg (show ¬ nI 12 = (5 : Int32) by decide), if_neg (show ¬ nI 12 = (5 : Int32) by decide), if_neg (show ¬ nI 12 = (6 : Int32) by decide), if_neg (show ¬ nI 12 = (6 : Int32) by decide), if_neg (show ¬ nI 12 = (7 : Int32) by decide), if_neg (show ¬ nI 12 = (7 : Int32) by decide), if_neg (show ¬ nI 12 = (8 : Int32) by decide), if_neg (show ¬ nI 12 = (8 : Int32) by decide), if_neg (show ¬ nI 12 = (9 : Int32) by decide), if_neg (show ¬ nI 12 = (9 : Int32) by decide), if_neg (show ¬ nI 12 = (10 : Int32) by decide), if_neg (show ¬ nI 12 = (10 : Int32) by decide), if_neg (show ¬ nI 12 = (11 : Int32) by decide), if_neg (show ¬ nI 12 = (11 : Int32) by decide), if_pos (show nI 12 = (12 : Int32) by decide), if_pos (show nI 12 = (12 : Int32) by decide), show nI 12 - (11 : Int32) = nI 1 from by decide, setting_ok hc hv (show 1 < 3 by omega), Option.bind_some, xgd_in (vp (by omega)), cl (by omega), hm 1 (by omega), setv hv (show 1 < 3 by omega)]
    exact out _
  · subst z
    rw [if_neg (show ¬ ((nI 13).toInt < 0 ∨ 15 < (nI 13).toInt) by decide), if_neg (show ¬ ((nI 13).toInt < 0 ∨ 15 < (nI 13).toInt) by decide), if_neg (show ¬ nI 13 = (0 : Int32) by decide), if_neg (show ¬ nI 13 = (0 : Int32) by decide), if_neg (show ¬ nI 13 = (1 : Int32) by decide), if_neg (show ¬ nI 13 = (1 : Int32) by decide), if_neg (show ¬ nI 13 = (2 : Int32) by decide), if_neg (show ¬ nI 13 = (2 : Int32) by decide), if_neg (show ¬ nI 13 = (3 : Int32) by decide), if_neg (show ¬ nI 13 = (3 : Int32) by decide), if_neg (show ¬ nI 13 = (4 : Int32) by decide), if_neg (show ¬ nI 13 = (4 : Int32) by decide), if_neg (show ¬ nI 13 = (5 : Int32) by decide), if_neg (show ¬ nI 13 = (5 : Int32) by decide), if_neg (show ¬ nI 13 = (6 : Int32) by decide), if_neg (show ¬ nI 13 = (6 : Int32) by decide), if_neg (show ¬ nI 13 = (7 : Int32) by decide), if_neg (show ¬ nI 13 = (7 : Int32) by decide), if_neg (show ¬ nI 13 = (8 : Int32) by decide), if_neg (show ¬ nI 13 = (8 : Int32) by decide), if_neg (show ¬ nI 13 = (9 : Int32) by decide), if_neg (show ¬ nI 13 = (9 : Int32) by decide), if_neg (show ¬ nI 13 = (10 : Int32) by decide), if_neg (show ¬ nI 13 = (10 : Int32) by decide), if_neg (show ¬ nI 13 = (11 : Int32) by decide), if_neg (show ¬ nI 13 = (11 : Int32) by decide), if_neg (show ¬ nI 13 = (12 : Int32) by decide), if_neg (show ¬ nI 13 = (12 : Int32) by decide), if_pos (show nI 13 = (13 : Int32) by decide), if_pos (show nI 13 = (13 : Int32) by decide), show nI 13 - (11 : Int32) = nI 2 from by decide, setting_ok hc hv (show 2 < 3 by omega), Option.bind_some, xgd_in (vp (by omega)), cl (by omega), hm 2 (by omega), setv hv (show 2 < 3 by omega)]
    exact out _
  · subst z
    have e14 : xt_X5_length m = some (nI L) := by unfold xt_X5_length; rw [hpc]
    rw [if_neg (show ¬ ((nI 14).toInt < 0 ∨ 15 < (nI 14).toInt) by decide), if_neg (show ¬ ((nI 14).toInt < 0 ∨ 15 < (nI 14).toInt) by decide), if_neg (show ¬ nI 14 = (0 : Int32) by decide), if_neg (show ¬ nI 14 = (0 : Int32) by decide), if_neg (show ¬ nI 14 = (1 : Int32) by decide), if_neg (show ¬ nI 14 = (1 : Int32) by decide), if_neg (show ¬ nI 14 = (2 : Int32) by decide), if_neg (show ¬ nI 14 = (2 : Int32) by decide), if_neg (show ¬ nI 14 = (3 : Int32) by decide), if_neg (show ¬ nI 14 = (3 : Int32) by decide), if_neg (show ¬ nI 14 = (4 : Int32) by decide), if_neg (show ¬ nI 14 = (4 : Int32) by decide), if_neg (show ¬ nI 14 = (5 : Int32) by decide), if_neg (show ¬ nI 14 = (5 : Int32) by decide), if_neg (show ¬ nI 14 = (6 : Int32) by decide), if_neg (show ¬ nI 14 = (6 : Int32) by decide), if_neg (show ¬ nI 14 = (7 : Int32) by decide), if_neg (show ¬ nI 14 = (7 : Int32) by decide), if_neg (show ¬ nI 14 = (8 : Int32) by decide), if_neg (show ¬ nI 14 = (8 : Int32) by decide), if_neg (show ¬ nI 14 = (9 : Int32) by decide), if_neg (show ¬ nI 14 = (9 : Int32) by decide), if_neg (show ¬ nI 14 = (10 : Int32) by decide), if_neg (show ¬ nI 14 = (10 : Int32) by decide), if_neg (show ¬ nI 14 = (11 : Int32) by decide), if_neg (show ¬ nI 14 = (11 : Int32) by decide), if_neg (show ¬ nI 14 = (12 : Int32) by decide), if_neg (show ¬ nI 14 = (12 : Int32) by decide), if_neg (show ¬ nI 14 = (13 : Int32) by decide), if_neg (show ¬ nI 14 = (13 : Int32) by decide), if_pos (show nI 14 = (14 : Int32) by decide), if_pos (show nI 14 = (14 : Int32) by decide), hpm, e14, Option.bind_some]
    exact out _
  · subst z
    have e15 : xt_X4_length m = some (nI n) := by unfold xt_X4_length; rw [hhc]
    rw [if_neg (show ¬ ((nI 15).toInt < 0 ∨ 15 < (nI 15).toInt) by decide), if_neg (show ¬ ((nI 15).toInt < 0 ∨ 15 < (nI 15).toInt) by decide), if_neg (show ¬ nI 15 = (0 : Int32) by decide), if_neg (show ¬ nI 15 = (0 : Int32) by decide), if_neg (show ¬ nI 15 = (1 : Int32) by decide), if_neg (show ¬ nI 15 = (1 : Int32) by decide), if_neg (show ¬ nI 15 = (2 : Int32) by decide), if_neg (show ¬ nI 15 = (2 : Int32) by decide), if_neg (show ¬ nI 15 = (3 : Int32) by decide), if_neg (show ¬ nI 15 = (3 : Int32) by decide), if_neg (show ¬ nI 15 = (4 : Int32) by decide), if_neg (show ¬ nI 15 = (4 : Int32) by decide), if_neg (show ¬ nI 15 = (5 : Int32) by decide), if_neg (show ¬ nI 15 = (5 : Int32) by decide), if_neg (show ¬ nI 15 = (6 : Int32) by decide), if_neg (show ¬ nI 15 = (6 : Int32) by decide), if_neg (show ¬ nI 15 = (7 : Int32) by decide), if_neg (show ¬ nI 15 = (7 : Int32) by decide), if_neg (show ¬ nI 15 = (8 : Int32) by decide), if_neg (show ¬ nI 15 = (8 : Int32) by decide), if_neg (show ¬ nI 15 = (9 : Int32) by decide), if_neg (show ¬ nI 15 = (9 : Int32) by decide), if_neg (show ¬ nI 15 = (10 : Int32) by decide), if_neg (show ¬ nI 15 = (10 : Int32) by decide), if_neg (show ¬ nI 15 = (11 : Int32) by decide), if_neg (show ¬ nI 15 = (11 : Int32) by decide), if_neg (show ¬ nI 15 = (12 : Int32) by decide), if_neg (show ¬ nI 15 = (12 : Int32) by decide), if_neg (show ¬ nI 15 = (13 : Int32) by decide), if_neg (show ¬ nI 15 = (13 : Int32) by decide), if_neg (show ¬ nI 15 = (14 : Int32) by decide), if_neg (show ¬ nI 15 = (14 : Int32) by decide), if_pos (show nI 15 = (15 : Int32) by decide), if_pos (show nI 15 = (15 : Int32) by decide), hhm, e15, Option.bind_some]
    exact out _
