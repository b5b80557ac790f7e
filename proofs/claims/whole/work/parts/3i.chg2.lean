/-! ===== changes: setUp, move, play ===== -/
/-- the reference's row 31 but for what a change may write -/
def K31 (o m : Mem) : Prop := ∀ k, k ≠ 2 → k ≠ 3 → k ≠ 12 → k ≠ 16 → k ≠ 17 → k ≠ 18 → o 31 k = m 31 k
theorem cset21 {m : Mem} {t : Nat → Int32} (h : CE m) : CE (mset m 21 t) := h.c (mset_n _ _ (by omega)) (mset_n _ _ (by omega))
theorem setUp_op {m m' : Mem} {g : Nat → Nat} {n p : Nat} {hs : Nat → Nat → Nat} (hb : ∀ s B, VC s B → Bd s B) (hg : GE m) (hp : PE m') (hv : VS g) (hh : HV n p hs) (hc : StC (m 21) g) (hhc : HC m n hs) (hm : MS m' g) (hhm : HM m' n p hs) (hce : CE m) (hme : ME m') (x1 x2 x3 x4 : Int32) :
    ∃ a o o', xt_X8_setUp x1 x2 x3 x4 m = some (a, o) ∧ xt_X9_setUp x1 x2 x3 x4 m' = some (a, o') ∧ NX o o' ∧ CE o ∧ ME o' ∧ K31 o' m' := by
  unfold xt_X8_setUp xt_X9_setUp
  obtain ⟨e, e1, e2, e3⟩ := err_ok hc hm hv x1 x2 x3 x4
  rw [e1, e2, Option.bind_some, Option.bind_some]
  rcases e3 with ⟨z1, z2⟩ | ⟨z, w, f, a, b, rfl, rfl, rfl, rfl, k1, ⟨k2, k3, k4⟩, ⟨k5, k6, k7⟩, k8, k9, k10⟩
  · rw [if_neg z1, if_neg z2]
    exact ⟨_, _, _, rfl, rfl, NX.i hv hh hc hhc hm hhm, hce, hme, fun _ _ _ _ _ _ _ => rfl⟩
  rw [z, if_pos rfl, if_pos (show (0 : Int32) ≤ 0 by decide)]
  obtain ⟨o1, a1, a2, a3⟩ := record_ok hhc hh.1 hc
  obtain ⟨oK, b1, b2, b3, b4⟩ := mkeep_ok hhm hh.1 hh.2.1 hm
  have hv2 : VS (ls g (g 3) w f a b) := ls_VS hv hv.B hv.2.1.2.2 k1 k2 k3 k4 k5 k6 k7 k8 k9 k10
  have hc2 : StC (upd (upd (upd (upd (m 21) 2 (nI w)) 3 (nI f)) 4 (nI (min a b))) 5 (nI (max a b))) (ls g (g 3) w f a b) := StC_place hc.1 hc.2.1 rfl rfl rfl rfl rfl rfl
  rw [a1, Option.bind_some, place_ok k3 k4, Option.bind_some]
  obtain ⟨oD, d1, d2, d3⟩ := distNow_ok (m := mset m 21 (upd (upd (upd (upd (m 21) 2 (nI w)) 3 (nI f)) 4 (nI (min a b))) 5 (nI (max a b)))) (hg.mset (by omega)) (cset21 hce) (by rw [mset_s]; exact hc2) hv2 hb
  rw [d1, Option.bind_some, b1, Option.bind_some]
  obtain ⟨oL, l1, l2, l3⟩ := lay_ok (m := mgs m' [31] oK) (g := g) (B := g 3) (w := w) (f := f) (a := a) (b := b) (fun k hk => hm k (by omega)) (hm 3 (by omega)) k3 k4
  rw [l1, Option.bind_some]
  obtain ⟨mA, hmA⟩ : ∃ mA : Mem, mA = mgs (mgs m' [31] oK) [32] oL := ⟨_, rfl⟩
  rw [← hmA]
  have pA : PE mA := by rw [hmA]; exact hp.c rfl rfl
  have sA : MS mA (ls g (g 3) w f a b) := by rw [hmA]; exact l2
  have eA : ME mA := by rw [hmA]; exact hme.c2 (b3 12 (by omega) (by omega)) (b3 16 (by omega) (by omega)) rfl rfl rfl rfl rfl rfl
  have A31 : ∀ k, mA 31 k = oK 31 k := by rw [hmA]; exact fun _ => rfl
  obtain ⟨oX, x1, x2, x3⟩ := mdistNow_ok pA sA hv2 eA hb
  rw [x1, Option.bind_some]
  refine ⟨_, _, _, rfl, rfl, NX.i hv2 (HV_push hh hv) ?_ (a2.c (HV_push hh hv).1 rfl rfl rfl rfl rfl rfl rfl) l2 (b2.c ?_ ?_ rfl), d2.c rfl rfl, (MW_ME hv2 x2).c2 rfl rfl rfl rfl rfl rfl rfl rfl, fun k q2 q3 q12 q16 _ _ => ?_⟩
  · exact hc2
  · show oX 31 3 = _; rw [x3.2 3 (by omega) (by omega), A31]
  · show oX 31 2 = _; rw [x3.2 2 (by omega) (by omega), A31]
  · show oX 31 k = _; rw [x3.2 k q12 q16, A31, b3 k q2 q3]
theorem cmakeMove_ok {m : Mem} {g : Nat → Nat} {n : Nat} {hs : Nat → Nat → Nat} (hg : GE m) (hv : VS g) (hn : n ≤ 6) (hc : StC (m 21) g) (hhc : HC m n hs) {a b : Nat} (ha : a < 16) (hb16 : b < 16) (hl : legal g a b = true) :
    ∃ o, xt_X8_makeMove (nI a) (nI b) m = some (bI (cau (mk g a b)), o) ∧ StC (o 21) (mk g a b) ∧ HC o (pn n) (ph n hs g) := by
  unfold xt_X8_makeMove
  obtain ⟨o1, a1, a2, a3⟩ := record_ok hhc hn hc
  obtain ⟨c', c1, c2⟩ := make_ok hc hv ha hb16
  have hpn : pn n ≤ 6 := by
    unfold pn
    by_cases c : n < 6
    · rw [if_pos c]; omega
    · rw [if_neg c]; omega
  rw [a1, Option.bind_some, c1, Option.bind_some, caught_ok hg c2 (mk_VS hv hb16 hl), Option.bind_some]
  have h : HC (mgs (mset m 21 c') [23, 60, 61, 62, 63, 64, 65] o1) (pn n) (ph n hs g) := a2.c hpn rfl rfl rfl rfl rfl rfl rfl
  cases cau (mk g a b)
  · rw [if_pos (show bI false = 0 by decide)]; exact ⟨_, rfl, c2, h⟩
  · rw [if_neg (show ¬ bI true = 0 by decide)]; exact ⟨_, rfl, c2, h⟩
theorem mtail {m' o : Mem} {g : Nat → Nat} {n p : Nat} {hs : Nat → Nat → Nat} (hb : ∀ s B, VC s B → Bd s B) (hp : PE m') (hv : VS g) (hh : HV n p hs) (hm : MS m' g) (hhm : HM m' n p hs) (hmo : ME o) (hko : ∀ k, k ≠ 12 → k ≠ 16 → k ≠ 17 → k ≠ 18 → o 31 k = m' 31 k)
    {a b : Nat} (ha : a < 16) (hb16 : b < 16) (hl : legal g a b = true) :
    ∃ oK o5, xt_X9_keep (mgs m' [31] o) = some oK ∧ (∀ k, k ≠ 2 → k ≠ 3 → oK 31 k = o 31 k) ∧ xt_X9_make (nI a) (nI b) (mgs (mgs m' [31] oK) [38, 39, 40, 41, 42, 43, 44] o) = some (bI (cau (mk g a b)), o5) ∧
      MS (mgs (mgs m' [31, 32, 38, 39, 40, 41, 42, 43, 44] o5) [33] oK) (mk g a b) ∧ HM (mgs (mgs m' [31, 32, 38, 39, 40, 41, 42, 43, 44] o5) [33] oK) (pn n) (pp n p) (ph n hs g) ∧ ME (mgs (mgs m' [31, 32, 38, 39, 40, 41, 42, 43, 44] o5) [33] oK) ∧ K31 (mgs (mgs m' [31, 32, 38, 39, 40, 41, 42, 43, 44] o5) [33] oK) m' := by
  have h1 : HM (mgs m' [31] o) n p hs := hhm.c (hko 3 (by omega) (by omega) (by omega) (by omega)) (hko 2 (by omega) (by omega) (by omega) (by omega)) rfl
  obtain ⟨oK, b1, b2, b3, b4⟩ := mkeep_ok h1 hh.1 hh.2.1 (g := g) (hm.c rfl)
  have b3' : ∀ k, k ≠ 2 → k ≠ 3 → oK 31 k = o 31 k := fun k x y => b3 k x y
  obtain ⟨mA, hmA⟩ : ∃ mA : Mem, mA = mgs (mgs m' [31] oK) [38, 39, 40, 41, 42, 43, 44] o := ⟨_, rfl⟩
  have pA : PE mA := by rw [hmA]; exact hp.c rfl rfl
  have sA : MS mA g := by rw [hmA]; exact hm.c rfl
  have eA : ME mA := by rw [hmA]; exact hmo.c2 (b3' 12 (by omega) (by omega)) (b3' 16 (by omega) (by omega)) rfl rfl rfl rfl rfl rfl
  have A31 : ∀ k, mA 31 k = oK 31 k := by rw [hmA]; exact fun _ => rfl
  obtain ⟨o5, m1, m2, m3, m4, m5⟩ := mmake_ok pA sA hv eA hb ha hb16 hl
  refine ⟨oK, o5, b1, b3', by rw [← hmA]; exact m1, m3.c rfl, b2.c ?_ ?_ rfl, (MW_ME (mk_VS hv hb16 hl) m2).c2 rfl rfl rfl rfl rfl rfl rfl rfl, fun k q2 q3 q12 q16 q17 q18 => ?_⟩
  · show o5 31 3 = _; rw [m4 3 (by omega) (by omega), A31]
  · show o5 31 2 = _; rw [m4 2 (by omega) (by omega), A31]
  · show o5 31 k = _; rw [m4 k q12 q16, A31, b3' k q2 q3, hko k q12 q16 q17 q18]
theorem move_op {m m' : Mem} {g : Nat → Nat} {n p : Nat} {hs : Nat → Nat → Nat} (hb : ∀ s B, VC s B → Bd s B) (hg : GE m) (hp : PE m') (hv : VS g) (hh : HV n p hs) (hc : StC (m 21) g) (hhc : HC m n hs) (hm : MS m' g) (hhm : HM m' n p hs) (hme : ME m') (x1 x2 : Int32) :
    ∃ a o o', xt_X8_move x1 x2 m = some (a, o) ∧ xt_X9_move x1 x2 m' = some (a, o') ∧ NX o o' ∧ ME o' ∧ K31 o' m' := by
  unfold xt_X8_move xt_X9_move
  have same : NX m m' := NX.i hv hh hc hhc hm hhm
  rcases places_ok x1 with ⟨p1, p2⟩ | ⟨a, ha, e1, p1, p2⟩
  · rw [p1, p2]
    exact ⟨_, _, _, rfl, rfl, same, hme, fun _ _ _ _ _ _ _ => rfl⟩
  rw [p1, p2, Option.bind_some, Option.bind_some, if_neg (show ¬ (1 : Int32) = 0 by decide), if_neg (show ¬ (1 : Int32) = 0 by decide)]
  rcases places_ok x2 with ⟨p1, p2⟩ | ⟨b, hb16, e2, p1, p2⟩
  · rw [p1, p2]
    exact ⟨_, _, _, rfl, rfl, same, hme, fun _ _ _ _ _ _ _ => rfl⟩
  rw [p1, p2, Option.bind_some, Option.bind_some, if_neg (show ¬ (1 : Int32) = 0 by decide), if_neg (show ¬ (1 : Int32) = 0 by decide), e1, e2, allows_ok hg hc hv ha hb16, Option.bind_some]
  obtain ⟨o, o1, o2, o3⟩ := misMove_ok hp hm hv hme hb ha hb16
  rw [o1, Option.bind_some]
  dsimp only
  cases el : legal g a b
  · rw [if_pos (show bI false = 0 by decide), if_pos (show bI false = 0 by decide)]
    refine ⟨_, _, _, rfl, rfl, NX.i hv hh hc hhc (hm.c rfl) (hhm.c (o3.2 3 (by omega) (by omega)) (o3.2 2 (by omega) (by omega)) rfl), (MW_ME hv o2).w, fun k _ _ q12 q16 _ _ => o3.2 k q12 q16⟩
  · rw [if_neg (show ¬ bI true = 0 by decide), if_neg (show ¬ bI true = 0 by decide)]
    obtain ⟨oC, c1, c2, c3⟩ := cmakeMove_ok hg hv hh.1 hc hhc ha hb16 el
    obtain ⟨oK, o5, k1, k2, k3, k4, k5, k6, k7⟩ := mtail hb hp hv hh hm hhm (MW_ME hv o2) (fun k q12 q16 _ _ => o3.2 k q12 q16) ha hb16 el
    rw [c1, Option.bind_some, k1, Option.bind_some, k3, Option.bind_some]
    exact ⟨_, _, _, rfl, rfl, NX.i (mk_VS hv hb16 el) (HV_push hh hv) c2 (c3.c (HV_push hh hv).1 rfl rfl rfl rfl rfl rfl rfl) k4 k5, k6, k7⟩
theorem play_op {m m' : Mem} {g : Nat → Nat} {n p : Nat} {hs : Nat → Nat → Nat} (hb : ∀ s B, VC s B → Bd s B) (hg : GE m) (hp : PE m') (hv : VS g) (hh : HV n p hs) (hc : StC (m 21) g) (hhc : HC m n hs) (hm : MS m' g) (hhm : HM m' n p hs) (hce : CE m) (hme : ME m') :
    ∃ a o o', xt_X8_play m = some (a, o) ∧ xt_X9_play m' = some (a, o') ∧ NX o o' ∧ CE o ∧ ME o' ∧ K31 o' m' := by
  unfold xt_X8_play xt_X9_play
  obtain ⟨oB, b1, b2, b3⟩ := bestMove_ok hg hce hc hv hb
  obtain ⟨oF, f1, f2, f3, f4, f5, f6⟩ := findBest_ok hp hm hv hme hb
  rw [b1, Option.bind_some, f1, Option.bind_some]
  dsimp only
  have h256 : ∀ k, best g = some k → k < 256 := fun k hk => (best_lt hv hk).1
  obtain ⟨g1, g2⟩ := fromOf_ok h256
  have z := bC_m6 h256
  cases e : best g with
  | none =>
    rw [e] at z
    rw [if_pos (z.mpr rfl), if_pos (show bI (none : Option Nat).isSome = 0 by decide)]
    exact ⟨_, _, _, rfl, rfl, NX.i hv hh hc (hhc.c hh.1 rfl rfl rfl rfl rfl rfl rfl) (hm.c rfl) (hhm.c (f5 3 (by omega) (by omega) (by omega) (by omega)) (f5 2 (by omega) (by omega) (by omega) (by omega)) rfl), b2.c rfl rfl, f2.w, fun k _ _ q12 q16 q17 q18 => f5 k q12 q16 q17 q18⟩
  | some k =>
    obtain ⟨hk, hl⟩ := best_lt hv e
    rw [e] at z g1 g2 f3 f4
    rw [if_neg (fun q => by cases z.mp q), g1, g2, Option.bind_some, Option.bind_some, if_neg (show ¬ bI (some k).isSome = 0 from (by decide : ¬ bI true = 0))]
    show ∃ a o o', (Option.bind (xt_X8_makeMove (nI (k / 16)) (nI (k % 16)) m) _) = some (a, o) ∧ _
    have ha : k / 16 < 16 := by omega
    have hb16 : k % 16 < 16 := by omega
    obtain ⟨oC, c1, c2, c3⟩ := cmakeMove_ok hg hv hh.1 hc hhc ha hb16 hl
    obtain ⟨oK, o5, k1, k2, k3, k4, k5, k6, k7⟩ := mtail hb hp hv hh hm hhm f2 f5 ha hb16 hl
    have e17 : oK 31 17 = nI (k / 16) := (k2 17 (by omega) (by omega)).trans f3
    have e18 : oK 31 18 = nI (k % 16) := (k2 18 (by omega) (by omega)).trans f4
    rw [c1, Option.bind_some, k1, Option.bind_some, e17, e18, k3, Option.bind_some]
    exact ⟨_, _, _, rfl, rfl, NX.i (mk_VS hv hb16 hl) (HV_push hh hv) c2 (c3.c (HV_push hh hv).1 rfl rfl rfl rfl rfl rfl rfl) k4 k5, b2.c rfl rfl, k6, k7⟩
