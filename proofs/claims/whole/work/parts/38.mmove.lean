/-! ===== the reference's moves: allowed, worth ===== -/
theorem stepQ {g : Nat → Nat} {a b : Nat} (ha : a < 16) (hb : b < 16) {x : Nat} (hx : x < 2) {c : Bool} (hc : c = decide (x = 1)) : (if nI x = (1 : Int32) then (Option.bind (xt_X9_isStep (nI a) (nI b) (1 : Int32)) (fun (o_6 : Int32) => (if o_6 = 0 then (some (0 : Int32)) else (some (1 : Int32))))) else (Option.bind (xt_X9_isStep (nI a) (nI b) (0 : Int32)) (fun (o_5 : Int32) => (if o_5 = 0 then (some (0 : Int32)) else (some (1 : Int32)))))) = some (bI (stp c a b)) := by
  have e1 : nI x = 1 ↔ x = 1 := nI_eq (b := 1) (by omega) (by omega)
  have fin : ∀ d : Bool, (if bI d = 0 then (some (0 : Int32)) else (some (1 : Int32))) = some (bI d) := by intro d; cases d <;> rfl
  by_cases c1 : x = 1
  · have s1 : xt_X9_isStep (nI a) (nI b) (1 : Int32) = some (bI (stp true a b)) := isStep_ok ha hb true
    rw [if_pos (e1.mpr c1), s1, Option.bind_some, fin, hc, decide_eq_true c1]
  · have s1 : xt_X9_isStep (nI a) (nI b) (0 : Int32) = some (bI (stp false a b)) := isStep_ok ha hb false
    rw [if_neg (mt e1.mp c1), s1, Option.bind_some, fin, hc, decide_eq_false c1]
theorem isFoxMove_ok {m : Mem} {g : Nat → Nat} (hs : MS m g) (hv : VS g) {a b : Nat} (ha : a < 16) (hb : b < 16) : xt_X9_isFoxMove (nI a) (nI b) m = some (bI (decide (a = g 5) && fxM g b)) := by
  unfold xt_X9_isFoxMove
  have hl := hv.l
  have hh := hv.h
  have hf := hv.f
  have v0 : vp_in (0 : Int32) 8 := by unfold vp_in; decide
  have v5 : vp_in (5 : Int32) 8 := by unfold vp_in; decide
  have v6 : vp_in (6 : Int32) 8 := by unfold vp_in; decide
  have v7 : vp_in (7 : Int32) 8 := by unfold vp_in; decide
  simp only [xgd_in v0, xgd_in v5, xgd_in v6, xgd_in v7, tc0, tc5, tc6, tc7, hs 0 (by omega), hs 5 (by omega), hs 6 (by omega), hs 7 (by omega), isFree_ok hs.MA hv.B hb, Option.bind_some]
  have e5 : nI a = nI (g 5) ↔ a = g 5 := nI_eq (by omega) (by omega)
  have e6 : nI b = nI (g 6) ↔ b = g 6 := nI_eq (by omega) (by omega)
  have e7 : nI b = nI (g 7) ↔ b = g 7 := nI_eq (by omega) (by omega)
  by_cases c5 : a = g 5
  · rw [if_pos (e5.mpr c5), decide_eq_true c5, Bool.true_and]
    unfold fxM
    cases cf : bfr (g 3) b
    · rw [if_pos (show bI false = 0 by decide)]; rfl
    · rw [if_neg (show ¬ bI true = 0 by decide), Bool.true_and]
      by_cases c6 : b = g 6
      · rw [if_pos (e6.mpr c6), decide_eq_false (fun z => z c6)]; rfl
      · rw [if_neg (mt e6.mp c6), decide_eq_true (show b ≠ g 6 from c6), Bool.true_and]
        by_cases c7 : b = g 7
        · rw [if_pos (e7.mpr c7), decide_eq_false (fun z => z c7)]; rfl
        · rw [if_neg (mt e7.mp c7), decide_eq_true (show b ≠ g 7 from c7), Bool.true_and, ← c5]
          exact stepQ (g := g) ha hb hv.1.1 (sOf_bits hv.1).1
  · rw [if_neg (mt e5.mp c5), decide_eq_false c5]; rfl
theorem isHunterMove_ok {m : Mem} {g : Nat → Nat} (hs : MS m g) (hv : VS g) {a b : Nat} (ha : a < 16) (hb : b < 16) : xt_X9_isHunterMove (nI a) (nI b) m = some (bI ((decide (a = g 6) || decide (a = g 7)) && (if a = b then (sOf g).testBit 2 else hnM g a (oth g a) b))) := by
  unfold xt_X9_isHunterMove
  have hl := hv.l
  have hh := hv.h
  have hlh := hv.lh
  have v1 : vp_in (1 : Int32) 8 := by unfold vp_in; decide
  have v2 : vp_in (2 : Int32) 8 := by unfold vp_in; decide
  have v6 : vp_in (6 : Int32) 8 := by unfold vp_in; decide
  have v7 : vp_in (7 : Int32) 8 := by unfold vp_in; decide
  simp only [xgd_in v1, xgd_in v2, xgd_in v6, xgd_in v7, tc1, tc2, tc6, tc7, hs 1 (by omega), hs 2 (by omega), hs 6 (by omega), hs 7 (by omega), isFree_ok hs.MA hv.B hb, Option.bind_some]
  have e6 : nI a = nI (g 6) ↔ a = g 6 := nI_eq (by omega) (by omega)
  have e7 : nI a = nI (g 7) ↔ a = g 7 := nI_eq (by omega) (by omega)
  have eb : nI a = nI b ↔ a = b := nI_eq (by omega) (by omega)
  have e2 : nI (g 2) = 1 ↔ g 2 = 1 := nI_eq (b := 1) (by have := hv.1.2.2; omega) (by omega)
  have hbits := sOf_bits hv.1
  have fin : ∀ o, o < 16 → oth g a = o → (if nI a = nI b then (if nI (g 2) = (1 : Int32) then (some (1 : Int32)) else (some (0 : Int32))) else (if bI (bfr (g 3) b) = 0 then (some (0 : Int32)) else (if nI b = nI o then (some (0 : Int32)) else (if nI (g 1) = (1 : Int32) then (Option.bind (xt_X9_isStep (nI a) (nI b) (1 : Int32)) (fun (o_6 : Int32) => (if o_6 = 0 then (some (0 : Int32)) else (some (1 : Int32))))) else (Option.bind (xt_X9_isStep (nI a) (nI b) (0 : Int32)) (fun (o_5 : Int32) => (if o_5 = 0 then (some (0 : Int32)) else (some (1 : Int32))))))))) = some (bI (if a = b then (sOf g).testBit 2 else hnM g a (oth g a) b)) := by
    intro o ho e
    have eo : nI b = nI o ↔ b = o := nI_eq (by omega) (by omega)
    rw [e]
    by_cases cb : a = b
    · rw [if_pos (eb.mpr cb), if_pos cb, hbits.2.2]
      by_cases c2 : g 2 = 1
      · rw [if_pos (e2.mpr c2), decide_eq_true c2]; rfl
      · rw [if_neg (mt e2.mp c2), decide_eq_false c2]; rfl
    · rw [if_neg (mt eb.mp cb), if_neg cb]
      unfold hnM
      cases cf : bfr (g 3) b
      · rw [if_pos (show bI false = 0 by decide)]; rfl
      · rw [if_neg (show ¬ bI true = 0 by decide), Bool.true_and]
        by_cases co : b = o
        · rw [if_pos (eo.mpr co), decide_eq_false (fun z => z co)]; rfl
        · rw [if_neg (mt eo.mp co), decide_eq_true (show b ≠ o from co), Bool.true_and]
          exact stepQ (g := g) ha hb hv.1.2.1 hbits.2.1
  by_cases c6 : a = g 6
  · rw [if_pos (e6.mpr c6), if_pos (e6.mpr c6), decide_eq_true c6, Bool.true_or, Bool.true_and]
    exact fin (g 7) hh (if_pos c6)
  · rw [if_neg (mt e6.mp c6), decide_eq_false c6, Bool.false_or]
    by_cases c7 : a = g 7
    · rw [if_pos (e7.mpr c7), if_neg (mt e6.mp c6), decide_eq_true c7, Bool.true_and]
      exact fin (g 6) hl (if_neg c6)
    · rw [if_neg (mt e7.mp c7), if_neg (mt e6.mp c6), decide_eq_false c7]; rfl
theorem misMove_ok {m : Mem} {g : Nat → Nat} (hp : PE m) (hs : MS m g) (hv : VS g) (hm : ME m) (hb : ∀ s B, VC s B → Bd s B) {x y : Nat} (hx : x < 16) (hy : y < 16) : ∃ o, xt_X9_isMove (nI x) (nI y) m = some (bI (legal g x y), o) ∧ MW g o ∧ Fr m o := by
  unfold xt_X9_isMove
  have hw := hv.2.2.1
  obtain ⟨o1, w1, w2, w3⟩ := mcaught_ok hp hs hv hm hb
  rw [w1, Option.bind_some]
  have hs1 : MS (mgs m [31] o1) g := hs.c (mgs_o _ _ (by decide))
  have out : MW g (mgs m [31, 38, 39, 40, 41, 42, 43, 44] o1) ∧ Fr m (mgs m [31, 38, 39, 40, 41, 42, 43, 44] o1) := ⟨w2.w, w3.w⟩
  have fin : ∀ d : Bool, (if bI d = 0 then some ((0 : Int32), (mgs m [31, 38, 39, 40, 41, 42, 43, 44] o1)) else some ((1 : Int32), (mgs m [31, 38, 39, 40, 41, 42, 43, 44] o1))) = some (bI d, (mgs m [31, 38, 39, 40, 41, 42, 43, 44] o1)) := by intro d; cases d <;> rfl
  dsimp only
  unfold legal
  cases ec : cau g
  · rw [if_pos (show bI false = 0 by decide), xgd_in (by unfold vp_in; decide), tc4, hs 4 (by omega), Bool.not_false, Bool.true_and]
    have e0 : nI (g 4) = 0 ↔ ¬ g 4 = 1 := by rw [lit 0, nI_eq (by omega) (by omega)]; omega
    by_cases c1 : g 4 = 1
    · rw [if_neg (fun z => e0.mp z c1), isFoxMove_ok hs1 hv hx hy, Option.bind_some, fin, if_pos c1]
      exact ⟨_, rfl, out⟩
    · rw [if_pos (e0.mpr c1), isHunterMove_ok hs1 hv hx hy, Option.bind_some, fin, if_neg c1]
      exact ⟨_, rfl, out⟩
  · rw [if_neg (show ¬ bI true = 0 by decide)]
    exact ⟨_, rfl, out⟩
/-- a move's worth as the reference tells it -/
def mval (w4 w : Nat) : Int32 := if w4 = 1 then -(nI (1000 - w)) else if w = 0 then -1 else nI (w - 1)
theorem neg_toInt {x : Nat} (h : x ≤ 1000) : (-(nI x)).toInt = -(x : Int) := by
  have e : -(nI x) = nI 0 - nI x := by
    apply Int32.toBitVec_inj.mp
    rw [Int32.toBitVec_neg, Int32.toBitVec_sub]
    show -_ = BitVec.ofNat 32 0 - _
    simp
  rw [e, pk_sub_toInt (by omega) (by omega)]
  simp
theorem mval_le {w4 x y : Nat} (hx : x ≤ 1001) (hy : y ≤ 1001) (h1 : w4 = 1 → x ≤ 1000 ∧ y ≤ 1000) : mval w4 x ≤ mval w4 y ↔ x ≤ y := by
  unfold mval
  by_cases c : w4 = 1
  · rw [if_pos c, if_pos c, Int32.le_iff_toInt_le, neg_toInt (by omega), neg_toInt (by omega)]
    have := h1 c
    omega
  · rw [if_neg c, if_neg c]
    by_cases c0 : x = 0 <;> by_cases c2 : y = 0
    · rw [if_pos c0, if_pos c2]; exact ⟨fun _ => by omega, fun _ => Int32.le_refl _⟩
    · rw [if_pos c0, if_neg c2]; exact ⟨fun _ => by omega, fun _ => Int32.le_trans (show (-1 : Int32) ≤ 0 by decide) (nI_pos' (by omega))⟩
    · rw [if_neg c0, if_pos c2]; exact ⟨fun z => absurd (Int32.le_trans (nI_pos' (show x - 1 < 2 ^ 31 by omega)) z) (by decide), fun z => by omega⟩
    · rw [if_neg c0, if_neg c2, ble _ _ (by omega) (by omega)]; omega
def wV (g : Nat → Nat) (a t : Nat) : Nat := if g 4 = 1 then fw g t else hw g a t
theorem wV_le {g : Nat → Nat} {a t : Nat} : wV g a t ≤ 1001 ∧ (g 4 = 1 → wV g a t ≤ 1000) := by
  unfold wV
  by_cases c : g 4 = 1
  · rw [if_pos c]; unfold fw; omega
  · rw [if_neg c]
    refine ⟨?_, fun z => absurd z c⟩
    have := okW_hw (g := g) (a := a) (t := t)
    unfold okW at this; omega
theorem mworth_ok {m : Mem} {g : Nat → Nat} (hs : MS m g) (hv : VS g) (hd : ∀ n, n < 4096 → m 38 n = dI (Dn (sOf g) (g 3) n)) {a t : Nat} (ha : a < 16) (ht : t < 16) (hl : legal g a t = true) : xt_X9_worth (nI a) (nI t) m = some (mval (g 4) (wV g a t)) := by
  unfold xt_X9_worth
  have hlo := hv.l
  have hh := hv.h
  have hlh := hv.lh
  have hf := hv.f
  have hw4 := hv.2.2.1
  have v4 : vp_in (4 : Int32) 8 := by unfold vp_in; decide
  have v5 : vp_in (5 : Int32) 8 := by unfold vp_in; decide
  have v6 : vp_in (6 : Int32) 8 := by unfold vp_in; decide
  have v7 : vp_in (7 : Int32) 8 := by unfold vp_in; decide
  simp only [xgd_in v4, xgd_in v5, xgd_in v6, xgd_in v7, tc4, tc5, tc6, tc7, hs 4 (by omega), hs 5 (by omega), hs 6 (by omega), hs 7 (by omega)]
  have e1 : nI (g 4) = 1 ↔ g 4 = 1 := nI_eq (b := 1) (by omega) (by omega)
  have e5 : nI t = nI (g 5) ↔ t = g 5 := nI_eq (by omega) (by omega)
  have e6 : nI a = nI (g 6) ↔ a = g 6 := nI_eq (by omega) (by omega)
  unfold mval wV
  unfold legal at hl
  rw [Bool.and_eq_true] at hl
  have hl2 := hl.2
  by_cases c1 : g 4 = 1
  · rw [if_pos (e1.mpr c1), if_pos c1, if_pos c1]
    have hp := (prG hv).1
    have hN : fxN g t < 4096 := by unfold fxN; omega
    have en := mnumberOf_ok 0 t hlo hh (by omega)
    rw [show 2048 * 0 + 128 * t + prN (g 6) (g 7) = fxN g t by unfold fxN; omega] at en
    have en' : xt_X9_numberOf (0 : Int32) (nI t) (nI (g 6)) (nI (g 7)) = some (nI (fxN g t)) := en
    rw [en', Option.bind_some, xgd_in (xin rfl hN (by decide)), cl (by omega), hd _ hN]
    unfold fw
    cases e : Dn (sOf g) (g 3) (fxN g t) with
    | none => rw [if_neg (show ¬ (0 : Int32) ≤ dI none by show ¬ (0 : Int32) ≤ -6; decide)]; rfl
    | some d =>
      have hdl := Dn_lt e
      rw [if_pos (show (0 : Int32) ≤ dI (some d) from nI_pos' (by omega))]
      show some (-(nI d)) = some (-(nI (1000 - (1000 - d))))
      rw [show 1000 - (1000 - d) = d by omega]
  · rw [if_neg (mt e1.mp c1), if_neg c1, if_neg c1]
    rw [if_neg c1, Bool.and_eq_true, Bool.or_eq_true, decide_eq_true_eq, decide_eq_true_eq] at hl2
    unfold hw
    have hne : t ≠ oth g a := by
      by_cases cb : a = t
      · unfold oth
        by_cases c6 : a = g 6
        · rw [if_pos c6]; omega
        · rw [if_neg c6]; omega
      · rw [if_neg cb] at hl2
        have := hl2.2
        unfold hnM at this
        rw [Bool.and_eq_true, Bool.and_eq_true, decide_eq_true_eq] at this
        exact this.2.1
    by_cases c5 : t = g 5
    · rw [if_pos (e5.mpr c5), if_pos c5, if_pos rfl]
    · rw [if_neg (mt e5.mp c5), if_neg c5, if_neg (show ¬ 1 + od (Dn (sOf g) (g 3) (hnN g a t)) = 0 by omega)]
      have fin : ∀ o, o < 16 → oth g a = o → (Option.bind (xt_X9_numberOf (1 : Int32) (nI (g 5)) (nI t) (nI o)) (fun (o_2 : Int32) => (xgd o_2 4096 (if 0 ≤ (m 38 o_2.toNatClampNeg) then (some (m 38 o_2.toNatClampNeg)) else (some (1000 : Int32)))))) = some (nI (1 + od (Dn (sOf g) (g 3) (hnN g a t)) - 1)) := by
        intro o ho e
        have hpo := (pr_lohi ht ho (by rw [← e]; exact hne)).1
        have hN : hnN g a t < 4096 := by unfold hnN; rw [e]; omega
        have en := mnumberOf_ok 1 (g 5) ht ho (by rw [← e]; exact hne)
        rw [show 2048 * 1 + 128 * g 5 + prN t o = hnN g a t by unfold hnN; rw [e]] at en
        have en' : xt_X9_numberOf (1 : Int32) (nI (g 5)) (nI t) (nI o) = some (nI (hnN g a t)) := en
        rw [en', Option.bind_some, xgd_in (xin rfl hN (by decide)), cl (by omega), hd _ hN]
        cases e : Dn (sOf g) (g 3) (hnN g a t) with
        | none => rw [if_neg (show ¬ (0 : Int32) ≤ dI none by show ¬ (0 : Int32) ≤ -6; decide)]; rfl
        | some d =>
          have hdl := Dn_lt e
          rw [if_pos (show (0 : Int32) ≤ dI (some d) from nI_pos' (by omega))]
          show some (nI d) = some (nI (1 + d - 1))
          rw [show 1 + d - 1 = d by omega]
      by_cases c6 : a = g 6
      · rw [if_pos (e6.mpr c6)]
        exact fin (g 7) hh (if_pos c6)
      · rw [if_neg (mt e6.mp c6)]
        exact fin (g 6) hlo (if_neg c6)
